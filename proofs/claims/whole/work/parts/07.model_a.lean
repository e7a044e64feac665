def rr_X10_age (fu : Nat) (x1 : Int32) (s1 : ZT_10) : Option (Int32) := ck_ x1 40 ((if (s1.1.2.2.2.1 x1.toNatClampNeg) = (2 : Int32) then some (-1 : Int32) else ck_ x1 40 ((if (s1.1.2.2.2.1 x1.toNatClampNeg) = (3 : Int32) then some (100 : Int32) else ck_ x1 40 ((if (s1.1.2.2.2.1 x1.toNatClampNeg) = (1 : Int32) then ck_ x1 40 (some (s1.1.2.2.1 x1.toNatClampNeg)) else ck_ x1 40 (some (s1.1.2.1 x1.toNatClampNeg))))))))
set_option maxHeartbeats 4000000 in
set_option maxRecDepth 100000 in
theorem cc_X10_age (l : Launch) (dC : Nat → ClassId) (dI : Nat → Nat → Nat) (fu : Nat) (a1 : Nat → Nat) (k1 : Nat → ClassId) (sz : Nat) (x1 : Int32) (s1 : ZT_10) (res : Int32) (hR : rr_X10_age fu x1 s1 = some res) : Met l yX10_age wsX10_age ({ frames := 0, cells := 0, slots := 0, locals := 0 } : Room) (PcF [.ref (a1 0), .int x1] sz (dC, dI) (zc_10 a1 k1 s1) (zt_10 k1)) (va_Qi (fun (r : Int32) (u : Unit) => res = r) (fun u t => at3_ (dC, dI) (zc_10 a1 k1 s1) (zt_10 k1) (va_A (zc_10 a1 k1 s1) sz) t) (va_A (zc_10 a1 k1 s1) sz)) 0 0 (va_A (zc_10 a1 k1 s1) sz) := by
  refine Met.ofW (cc := cX10_age) (maxL := 2) (ret := (some .int)) (by decide) rfl ?_
  intro p e s m args below meth c s₁ B hml hv
  obtain ⟨hav, hsz, hP, hK, hD0⟩ := hv
  have hx := B.exec
  have hb := B.bytes
  have hr := B.returns
  have hts := atoms_spec (ws := wsX10_age) B.pre
  have hown : s.vm.findClass RX10 = some m.cls := findClass_of_methodNamed B.named
  have hlocks := B.notSynchronized
  have hin10 : ∀ w ∈ wsX100, w ∈ wsX10_age := fun w h => List.mem_cons_of_mem _ (List.mem_append_right _ h)
  subst hsz
  have hD := hD0.self (sz := s.heap.size)
  clear hD0
  generalize hAe : va_A (zc_10 a1 k1 s1) s.heap.size = A at hD ⊢
  have hA : ∀ q : Nat, s.heap.size ≤ q → A q := fun q h => by rw [← hAe]; exact Or.inr h
  have hS : va_S A s.heap s.heap [] := va_S.rf
  generalize hQe : MQ below _ args s 0 0 A = Q
  rw [show entryFrame m args 2 = F0 m 0 ((lg_sl ([.ref (a1 0), .int x1]) ++ List.replicate (2 - (lg_sl ([.ref (a1 0), .int x1])).length) Slot.unset).toArray) [] from by rw [hav]; exact lg_entry_eq m _ _]
  have hl := lv_entry ([.ref (a1 0), .int x1]) (n := 2) (Nat.le_of_ble_eq_true rfl)
  generalize (lg_sl ([.ref (a1 0), .int x1]) ++ List.replicate (2 - (lg_sl ([.ref (a1 0), .int x1])).length) Slot.unset).toArray = ls at hl ⊢
  have hl : lv_has ls 2 [(0, .ref (a1 0)), (1, .int x1)] := hl
  unfold rr_X10_age at hR
  refine lv_aload_n hx hb dX10_age_0 rfl (lv_at hl 0 rfl) ?_
  refine va_get (D := (dC, dI)) (ci := 10) (v := .ref (a1 4)) (C := RX10) (T := TX10) (N := 35) hx hb hts hin10 hown hK hP 0 rfl rfl 3 (by decide) (hts (.fieldLink RX10 19 "OldestCoinsModel" "kinds" "[I") (List.mem_of_getElem? (i := 1) rfl)) (fun _ h9 => h9) rfl dX10_age_1 ?_
  refine lv_iload_n hx hb dX10_age_4 rfl (lv_at hl 1 rfl) ?_
  have i1 := (ck_ok hR).1
  replace hR := (ck_ok hR).2
  refine va_iald (f := s1.1.2.2.2.1) hx hb hK hP 4 3 rfl rfl i1 dX10_age_5 ?_
  refine lv_iconst (v := (2 : Int32)) hx hb dX10_age_6 (by decide) ?_
  refine lv_icmp_ne (tgt := 14) hx hb dX10_age_7 (by decide) (fun c2 => ?_) (fun c2 => ?_)
  · replace hR := ifn_ hR c2
    refine lv_aload_n hx hb dX10_age_14 rfl (lv_at hl 0 rfl) ?_
    refine va_get (D := (dC, dI)) (ci := 10) (v := .ref (a1 4)) (C := RX10) (T := TX10) (N := 35) hx hb hts hin10 hown hK hP 0 rfl rfl 3 (by decide) (hts (.fieldLink RX10 19 "OldestCoinsModel" "kinds" "[I") (List.mem_of_getElem? (i := 1) rfl)) (fun _ h9 => h9) rfl dX10_age_15 ?_
    refine lv_iload_n hx hb dX10_age_18 rfl (lv_at hl 1 rfl) ?_
    have i3 := (ck_ok hR).1
    replace hR := (ck_ok hR).2
    refine va_iald (f := s1.1.2.2.2.1) hx hb hK hP 4 3 rfl rfl i3 dX10_age_19 ?_
    refine lv_iconst (v := (3 : Int32)) hx hb dX10_age_20 (by decide) ?_
    refine lv_icmp_ne (tgt := 29) hx hb dX10_age_21 (by decide) (fun c4 => ?_) (fun c4 => ?_)
    · replace hR := ifn_ hR c4
      refine lv_aload_n hx hb dX10_age_29 rfl (lv_at hl 0 rfl) ?_
      refine va_get (D := (dC, dI)) (ci := 10) (v := .ref (a1 4)) (C := RX10) (T := TX10) (N := 35) hx hb hts hin10 hown hK hP 0 rfl rfl 3 (by decide) (hts (.fieldLink RX10 19 "OldestCoinsModel" "kinds" "[I") (List.mem_of_getElem? (i := 1) rfl)) (fun _ h9 => h9) rfl dX10_age_30 ?_
      refine lv_iload_n hx hb dX10_age_33 rfl (lv_at hl 1 rfl) ?_
      have i5 := (ck_ok hR).1
      replace hR := (ck_ok hR).2
      refine va_iald (f := s1.1.2.2.2.1) hx hb hK hP 4 3 rfl rfl i5 dX10_age_34 ?_
      refine lv_iconst (v := (1 : Int32)) hx hb dX10_age_35 (by decide) ?_
      refine lv_icmp_ne (tgt := 48) hx hb dX10_age_36 (by decide) (fun c6 => ?_) (fun c6 => ?_)
      · replace hR := ifn_ hR c6
        refine lv_aload_n hx hb dX10_age_48 rfl (lv_at hl 0 rfl) ?_
        refine va_get (D := (dC, dI)) (ci := 10) (v := .ref (a1 2)) (C := RX10) (T := TX10) (N := 35) hx hb hts hin10 hown hK hP 0 rfl rfl 1 (by decide) (hts (.fieldLink RX10 13 "OldestCoinsModel" "years" "[I") (List.mem_of_getElem? (i := 3) rfl)) (fun _ h9 => h9) rfl dX10_age_49 ?_
        refine lv_iload_n hx hb dX10_age_52 rfl (lv_at hl 1 rfl) ?_
        have i7 := (ck_ok hR).1
        replace hR := (ck_ok hR).2
        refine va_iald (f := s1.1.2.1) hx hb hK hP 2 1 rfl rfl i7 dX10_age_53 ?_
        subst hQe
        exact W.iret (v := (s1.1.2.1 x1.toNatClampNeg)) hx hb hr (fun t ht hW => ⟨⟨(s1.1.2.1 x1.toNatClampNeg), (), rfl, (Option.some.inj hR).symm, by rw [ht]; exact hP, va_K.moved hW.alike hK, hD⟩, hS.F ht⟩) hS.2.2 dX10_age_54
      · replace hR := ifp_ hR c6
        refine lv_aload_n hx hb dX10_age_39 rfl (lv_at hl 0 rfl) ?_
        refine va_get (D := (dC, dI)) (ci := 10) (v := .ref (a1 3)) (C := RX10) (T := TX10) (N := 35) hx hb hts hin10 hown hK hP 0 rfl rfl 2 (by decide) (hts (.fieldLink RX10 16 "OldestCoinsModel" "stamps" "[I") (List.mem_of_getElem? (i := 2) rfl)) (fun _ h9 => h9) rfl dX10_age_40 ?_
        refine lv_iload_n hx hb dX10_age_43 rfl (lv_at hl 1 rfl) ?_
        have i8 := (ck_ok hR).1
        replace hR := (ck_ok hR).2
        refine va_iald (f := s1.1.2.2.1) hx hb hK hP 3 2 rfl rfl i8 dX10_age_44 ?_
        refine lv_goto (tgt := 54) hx hb dX10_age_45 (by decide) ?_
        subst hQe
        exact W.iret (v := (s1.1.2.2.1 x1.toNatClampNeg)) hx hb hr (fun t ht hW => ⟨⟨(s1.1.2.2.1 x1.toNatClampNeg), (), rfl, (Option.some.inj hR).symm, by rw [ht]; exact hP, va_K.moved hW.alike hK, hD⟩, hS.F ht⟩) hS.2.2 dX10_age_54
    · replace hR := ifp_ hR c4
      refine lv_bipush (v := (100 : Int32)) hx hb dX10_age_24 (by decide) ?_
      refine lv_goto (tgt := 54) hx hb dX10_age_26 (by decide) ?_
      subst hQe
      exact W.iret (v := (100 : Int32)) hx hb hr (fun t ht hW => ⟨⟨(100 : Int32), (), rfl, (Option.some.inj hR).symm, by rw [ht]; exact hP, va_K.moved hW.alike hK, hD⟩, hS.F ht⟩) hS.2.2 dX10_age_54
  · replace hR := ifp_ hR c2
    refine lv_iconst (v := (-1 : Int32)) hx hb dX10_age_10 (by decide) ?_
    refine lv_goto (tgt := 54) hx hb dX10_age_11 (by decide) ?_
    subst hQe
    exact W.iret (v := (-1 : Int32)) hx hb hr (fun t ht hW => ⟨⟨(-1 : Int32), (), rfl, (Option.some.inj hR).symm, by rw [ht]; exact hP, va_K.moved hW.alike hK, hD⟩, hS.F ht⟩) hS.2.2 dX10_age_54
def rr_X10_isOlder (fu : Nat) (x1 : Int32) (x2 : Int32) (s1 : ZT_10) : Option (Int32) := (rr_X10_age fu x1 s1).bind (fun q1 => (rr_X10_age fu x2 s1).bind (fun q2 => (if q1 < q2 then some (1 : Int32) else (rr_X10_age fu x1 s1).bind (fun q4 => (rr_X10_age fu x2 s1).bind (fun q5 => (if q4 = q5 then (if x2 ≤ x1 then some (0 : Int32) else some (1 : Int32)) else some (0 : Int32)))))))
set_option maxHeartbeats 4000000 in
set_option maxRecDepth 100000 in
theorem cc_X10_isOlder (l : Launch) (dC : Nat → ClassId) (dI : Nat → Nat → Nat) (fu : Nat) (a1 : Nat → Nat) (k1 : Nat → ClassId) (sz : Nat) (x1 : Int32) (x2 : Int32) (s1 : ZT_10) (res : Int32) (hR : rr_X10_isOlder fu x1 x2 s1 = some res) : Met l yX10_isOlder wsX10_isOlder ({ frames := 1, cells := 0, slots := 0, locals := 21 } : Room) (PcF [.ref (a1 0), .int x1, .int x2] sz (dC, dI) (zc_10 a1 k1 s1) (zt_10 k1)) (va_Qi (fun (r : Int32) (u : Unit) => res = r) (fun u t => at3_ (dC, dI) (zc_10 a1 k1 s1) (zt_10 k1) (va_A (zc_10 a1 k1 s1) sz) t) (va_A (zc_10 a1 k1 s1) sz)) 0 0 (va_A (zc_10 a1 k1 s1) sz) := by
  refine Met.ofW (cc := cX10_isOlder) (maxL := 3) (ret := (some .boolean)) (by decide) rfl ?_
  intro p e s m args below meth c s₁ B hml hv
  obtain ⟨hav, hsz, hP, hK, hD0⟩ := hv
  have hx := B.exec
  have hb := B.bytes
  have hr := B.returns
  have hts := atoms_spec (ws := wsX10_isOlder) B.pre
  have hown : s.vm.findClass RX10 = some m.cls := findClass_of_methodNamed B.named
  have hlocks := B.notSynchronized
  subst hsz
  have hD := hD0.self (sz := s.heap.size)
  clear hD0
  generalize hAe : va_A (zc_10 a1 k1 s1) s.heap.size = A at hD ⊢
  have hA : ∀ q : Nat, s.heap.size ≤ q → A q := fun q h => by rw [← hAe]; exact Or.inr h
  have hS : va_S A s.heap s.heap [] := va_S.rf
  generalize hQe : MQ below _ args s 0 0 A = Q
  rw [show entryFrame m args 3 = F0 m 0 ((lg_sl ([.ref (a1 0), .int x1, .int x2]) ++ List.replicate (3 - (lg_sl ([.ref (a1 0), .int x1, .int x2])).length) Slot.unset).toArray) [] from by rw [hav]; exact lg_entry_eq m _ _]
  have hl := lv_entry ([.ref (a1 0), .int x1, .int x2]) (n := 3) (Nat.le_of_ble_eq_true rfl)
  generalize (lg_sl ([.ref (a1 0), .int x1, .int x2]) ++ List.replicate (3 - (lg_sl ([.ref (a1 0), .int x1, .int x2])).length) Slot.unset).toArray = ls at hl ⊢
  have hl : lv_has ls 3 [(0, .ref (a1 0)), (1, .int x1), (2, .int x2)] := hl
  unfold rr_X10_isOlder at hR
  refine lv_aload_n hx hb dX10_isOlder_0 rfl (lv_at hl 0 rfl) ?_
  refine lv_iload_n hx hb dX10_isOlder_1 rfl (lv_at hl 1 rfl) ?_
  have hR0 := ob_ok hR
  clear hR
  obtain ⟨q1, hq1, hR⟩ := hR0
  refine va_calli (va_runV (As := [.int x1]) (rest := []) ⟨hx, hb, hml, hown, hts⟩ (cc_X10_age l dC dI fu a1 k1 s.heap.size x1 s1 q1 hq1) (cwV 1 hts gX10_isOlder_X10_age rfl rfl rfl (by decide +kernel) ⟨Nat.le_of_ble_eq_true rfl, Nat.le_of_ble_eq_true rfl⟩) (pf_v hK hP hD 10 0 rfl rfl rfl) rfl rfl hl.1 rfl (lv_room (Nat.le_of_ble_eq_true rfl)) dX10_isOlder_2 ⟨Nat.le_refl _, Nat.le_refl _⟩) hS (fun q _ h => (fr_all hD hS hA) q h) (fr_all hD hS hA) (fun r1 v1 t1 H1 locs1 ht1 hvm1 hw1 hB1 hz1 hk1 hS1 => ?_)
  subst hw1
  obtain ⟨hP1, hD1⟩ := jn_all hD hS hA ht1 hB1
  have hP1 : va_P (dC, dI) vwCl (zc_10 a1 k1 s1) H1 := hP1
  have hD1 : va_D A (zc_10 a1 k1 s1) := hD1
  clear hP hD hS hB1 hk1 hvm1 hz1 ht1
  refine lv_aload_n hx hb dX10_isOlder_5 rfl (lv_at hl 0 rfl) ?_
  refine lv_iload_n hx hb dX10_isOlder_6 rfl (lv_at hl 2 rfl) ?_
  have hR0 := ob_ok hR
  clear hR
  obtain ⟨q2, hq2, hR⟩ := hR0
  refine va_calli (va_runV (As := [.int x2]) (rest := [.int q1]) ⟨hx, hb, hml, hown, hts⟩ (cc_X10_age l dC dI fu a1 k1 H1.size x2 s1 q2 hq2) (cwV 1 hts gX10_isOlder_X10_age rfl rfl rfl (by decide +kernel) ⟨Nat.le_of_ble_eq_true rfl, Nat.le_of_ble_eq_true rfl⟩) (pf_v hK hP1 hD1 10 0 rfl rfl rfl) rfl rfl hl.1 rfl (lv_room (Nat.le_of_ble_eq_true rfl)) dX10_isOlder_7 ⟨Nat.le_refl _, Nat.le_refl _⟩) hS1 (fun q _ h => (fr_all hD1 hS1 hA) q h) (fr_all hD1 hS1 hA) (fun r2 v2 t2 H2 locs2 ht2 hvm2 hw2 hB2 hz2 hk2 hS2 => ?_)
  subst hw2
  obtain ⟨hP2, hD2⟩ := jn_all hD1 hS1 hA ht2 hB2
  have hP2 : va_P (dC, dI) vwCl (zc_10 a1 k1 s1) H2 := hP2
  have hD2 : va_D A (zc_10 a1 k1 s1) := hD2
  clear hP1 hD1 hS1 hB2 hk2 hvm2 hz2 ht2
  refine lv_icmp_lt (tgt := 31) hx hb dX10_isOlder_10 (by decide) (fun c3 => ?_) (fun c3 => ?_)
  · replace hR := ifp_ hR c3
    refine lv_iconst (v := (1 : Int32)) hx hb dX10_isOlder_31 (by decide) ?_
    refine lv_goto (tgt := 36) hx hb dX10_isOlder_32 (by decide) ?_
    subst hQe
    exact W.zret (ty := .boolean) (v := (1 : Int32)) hx hb hr rfl (fun t ht hW => ⟨⟨(1 : Int32), (), rfl, (Option.some.inj hR).symm, by rw [ht]; exact hP2, va_K.moved hW.alike hK, hD2⟩, hS2.F ht⟩) hS2.2.2 dX10_isOlder_36
  · replace hR := ifn_ hR c3
    refine lv_aload_n hx hb dX10_isOlder_13 rfl (lv_at hl 0 rfl) ?_
    refine lv_iload_n hx hb dX10_isOlder_14 rfl (lv_at hl 1 rfl) ?_
    have hR0 := ob_ok hR
    clear hR
    obtain ⟨q4, hq4, hR⟩ := hR0
    refine va_calli (va_runV (As := [.int x1]) (rest := []) ⟨hx, hb, hml, hown, hts⟩ (cc_X10_age l dC dI fu a1 k1 H2.size x1 s1 q4 hq4) (cwV 1 hts gX10_isOlder_X10_age rfl rfl rfl (by decide +kernel) ⟨Nat.le_of_ble_eq_true rfl, Nat.le_of_ble_eq_true rfl⟩) (pf_v hK hP2 hD2 10 0 rfl rfl rfl) rfl rfl hl.1 rfl (lv_room (Nat.le_of_ble_eq_true rfl)) dX10_isOlder_15 ⟨Nat.le_refl _, Nat.le_refl _⟩) hS2 (fun q _ h => (fr_all hD2 hS2 hA) q h) (fr_all hD2 hS2 hA) (fun r4 v4 t4 H4 locs4 ht4 hvm4 hw4 hB4 hz4 hk4 hS4 => ?_)
    subst hw4
    obtain ⟨hP4, hD4⟩ := jn_all hD2 hS2 hA ht4 hB4
    have hP4 : va_P (dC, dI) vwCl (zc_10 a1 k1 s1) H4 := hP4
    have hD4 : va_D A (zc_10 a1 k1 s1) := hD4
    clear hP2 hD2 hS2 hB4 hk4 hvm4 hz4 ht4
    refine lv_aload_n hx hb dX10_isOlder_18 rfl (lv_at hl 0 rfl) ?_
    refine lv_iload_n hx hb dX10_isOlder_19 rfl (lv_at hl 2 rfl) ?_
    have hR0 := ob_ok hR
    clear hR
    obtain ⟨q5, hq5, hR⟩ := hR0
    refine va_calli (va_runV (As := [.int x2]) (rest := [.int q4]) ⟨hx, hb, hml, hown, hts⟩ (cc_X10_age l dC dI fu a1 k1 H4.size x2 s1 q5 hq5) (cwV 1 hts gX10_isOlder_X10_age rfl rfl rfl (by decide +kernel) ⟨Nat.le_of_ble_eq_true rfl, Nat.le_of_ble_eq_true rfl⟩) (pf_v hK hP4 hD4 10 0 rfl rfl rfl) rfl rfl hl.1 rfl (lv_room (Nat.le_of_ble_eq_true rfl)) dX10_isOlder_20 ⟨Nat.le_refl _, Nat.le_refl _⟩) hS4 (fun q _ h => (fr_all hD4 hS4 hA) q h) (fr_all hD4 hS4 hA) (fun r5 v5 t5 H5 locs5 ht5 hvm5 hw5 hB5 hz5 hk5 hS5 => ?_)
    subst hw5
    obtain ⟨hP5, hD5⟩ := jn_all hD4 hS4 hA ht5 hB5
    have hP5 : va_P (dC, dI) vwCl (zc_10 a1 k1 s1) H5 := hP5
    have hD5 : va_D A (zc_10 a1 k1 s1) := hD5
    clear hP4 hD4 hS4 hB5 hk5 hvm5 hz5 ht5
    refine lv_icmp_ne (tgt := 35) hx hb dX10_isOlder_23 (by decide) (fun c6 => ?_) (fun c6 => ?_)
    · replace hR := ifn_ hR c6
      refine lv_iconst (v := (0 : Int32)) hx hb dX10_isOlder_35 (by decide) ?_
      subst hQe
      exact W.zret (ty := .boolean) (v := (0 : Int32)) hx hb hr rfl (fun t ht hW => ⟨⟨(0 : Int32), (), rfl, (Option.some.inj hR).symm, by rw [ht]; exact hP5, va_K.moved hW.alike hK, hD5⟩, hS5.F ht⟩) hS5.2.2 dX10_isOlder_36
    · replace hR := ifp_ hR c6
      refine lv_iload_n hx hb dX10_isOlder_26 rfl (lv_at hl 1 rfl) ?_
      refine lv_iload_n hx hb dX10_isOlder_27 rfl (lv_at hl 2 rfl) ?_
      refine lv_icmp_ge (tgt := 35) hx hb dX10_isOlder_28 (by decide) (fun c7 => ?_) (fun c7 => ?_)
      · replace hR := ifp_ hR c7
        refine lv_iconst (v := (0 : Int32)) hx hb dX10_isOlder_35 (by decide) ?_
        subst hQe
        exact W.zret (ty := .boolean) (v := (0 : Int32)) hx hb hr rfl (fun t ht hW => ⟨⟨(0 : Int32), (), rfl, (Option.some.inj hR).symm, by rw [ht]; exact hP5, va_K.moved hW.alike hK, hD5⟩, hS5.F ht⟩) hS5.2.2 dX10_isOlder_36
      · replace hR := ifn_ hR c7
        refine lv_iconst (v := (1 : Int32)) hx hb dX10_isOlder_31 (by decide) ?_
        refine lv_goto (tgt := 36) hx hb dX10_isOlder_32 (by decide) ?_
        subst hQe
        exact W.zret (ty := .boolean) (v := (1 : Int32)) hx hb hr rfl (fun t ht hW => ⟨⟨(1 : Int32), (), rfl, (Option.some.inj hR).symm, by rw [ht]; exact hP5, va_K.moved hW.alike hK, hD5⟩, hS5.F ht⟩) hS5.2.2 dX10_isOlder_36
def rr_X10_isAhead_59 (fu : Nat) (s1 : ZT_10) (y1 : Int32) (y2 : Int32) (w0 : Int32) : Option (Int32) := (if w0 < (0 : Int32) then some (1 : Int32) else (if w0 = (0 : Int32) then (rr_X10_isOlder fu y1 y2 s1).bind (fun q15 => (if q15 = (0 : Int32) then some (0 : Int32) else some (1 : Int32))) else some (0 : Int32)))
def rr_X10_isAhead (fu : Nat) (x1 : Int32) (x2 : Int32) (x3 : Int32) (s1 : ZT_10) : Option (Int32) := (if (2 : Int32) ≤ x3 then (if x3 = (2 : Int32) then ck_ x1 40 (ck_ x2 40 (rr_X10_isAhead_59 fu s1 x1 x2 ((s1.1.1 x1.toNatClampNeg) - (s1.1.1 x2.toNatClampNeg)))) else ck_ x2 40 (ck_ x1 40 (rr_X10_isAhead_59 fu s1 x1 x2 ((s1.1.1 x2.toNatClampNeg) - (s1.1.1 x1.toNatClampNeg))))) else (if x3 = (0 : Int32) then (rr_X10_isOlder fu x1 x2 s1).bind (fun q10 => zk_ q10 (some q10)) else (rr_X10_isOlder fu x2 x1 s1).bind (fun q8 => zk_ q8 (some q8))))
set_option maxHeartbeats 4000000 in
set_option maxRecDepth 100000 in
theorem cc_X10_isAhead (l : Launch) (dC : Nat → ClassId) (dI : Nat → Nat → Nat) (fu : Nat) (a1 : Nat → Nat) (k1 : Nat → ClassId) (sz : Nat) (x1 : Int32) (x2 : Int32) (x3 : Int32) (s1 : ZT_10) (res : Int32) (hR : rr_X10_isAhead fu x1 x2 x3 s1 = some res) : Met l yX10_isAhead wsX10_isAhead ({ frames := 2, cells := 0, slots := 0, locals := 43 } : Room) (PcF [.ref (a1 0), .int x1, .int x2, .int x3] sz (dC, dI) (zc_10 a1 k1 s1) (zt_10 k1)) (va_Qi (fun (r : Int32) (u : Unit) => res = r) (fun u t => at3_ (dC, dI) (zc_10 a1 k1 s1) (zt_10 k1) (va_A (zc_10 a1 k1 s1) sz) t) (va_A (zc_10 a1 k1 s1) sz)) 0 0 (va_A (zc_10 a1 k1 s1) sz) := by
  refine Met.ofW (cc := cX10_isAhead) (maxL := 5) (ret := (some .boolean)) (by decide) rfl ?_
  intro p e s m args below meth c s₁ B hml hv
  obtain ⟨hav, hsz, hP, hK, hD0⟩ := hv
  have hx := B.exec
  have hb := B.bytes
  have hr := B.returns
  have hts := atoms_spec (ws := wsX10_isAhead) B.pre
  have hown : s.vm.findClass RX10 = some m.cls := findClass_of_methodNamed B.named
  have hlocks := B.notSynchronized
  have hin10 : ∀ w ∈ wsX100, w ∈ wsX10_isAhead := fun w h => List.mem_cons_of_mem _ (List.mem_append_right _ h)
  subst hsz
  have hD := hD0.self (sz := s.heap.size)
  clear hD0
  generalize hAe : va_A (zc_10 a1 k1 s1) s.heap.size = A at hD ⊢
  have hA : ∀ q : Nat, s.heap.size ≤ q → A q := fun q h => by rw [← hAe]; exact Or.inr h
  have hS : va_S A s.heap s.heap [] := va_S.rf
  generalize hQe : MQ below _ args s 0 0 A = Q
  rw [show entryFrame m args 5 = F0 m 0 ((lg_sl ([.ref (a1 0), .int x1, .int x2, .int x3]) ++ List.replicate (5 - (lg_sl ([.ref (a1 0), .int x1, .int x2, .int x3])).length) Slot.unset).toArray) [] from by rw [hav]; exact lg_entry_eq m _ _]
  have hl := lv_entry ([.ref (a1 0), .int x1, .int x2, .int x3]) (n := 5) (Nat.le_of_ble_eq_true rfl)
  generalize (lg_sl ([.ref (a1 0), .int x1, .int x2, .int x3]) ++ List.replicate (5 - (lg_sl ([.ref (a1 0), .int x1, .int x2, .int x3])).length) Slot.unset).toArray = ls at hl ⊢
  have hl : lv_has ls 5 [(0, .ref (a1 0)), (1, .int x1), (2, .int x2), (3, .int x3)] := hl
  have hB59 : ∀ (y1 : Int32) (y2 : Int32) (w0 : Int32) (H : Heap) (locs : List Loc) (ls : Array Slot), va_P (dC, dI) vwCl (zc_10 a1 k1 s1) H → va_D A (zc_10 a1 k1 s1) → va_S A s.heap H locs → lv_has ls 5 [(0, .ref (a1 0)), (1, .int y1), (2, .int y2)] → rr_X10_isAhead_59 fu s1 y1 y2 w0 = some res → W p l e ({ frames := 2, cells := 0, slots := 0, locals := 43 } : Room) s m args below meth c H locs 0 0 Q (F0 m 59 ls [.int w0]) := by
    intro  y1 y2 w0 H locs ls hP hD hS hl hR
    unfold rr_X10_isAhead_59 at hR
    refine lv_istore (lv' := [(4, .int w0), (0, .ref (a1 0)), (1, .int y1), (2, .int y2)]) hx hb dX10_isAhead_59 hl (by decide) rfl (fun ls12 hl12 => ?_)
    refine lv_iload hx hb dX10_isAhead_61 (lv_at hl12 0 rfl) ?_
    refine lv_if_lt (tgt := 80) hx hb dX10_isAhead_63 (by decide) (fun c13 => ?_) (fun c13 => ?_)
    · replace hR := ifp_ hR c13
      refine lv_iconst (v := (1 : Int32)) hx hb dX10_isAhead_80 (by decide) ?_
      refine lv_goto (tgt := 85) hx hb dX10_isAhead_81 (by decide) ?_
      subst hQe
      exact W.zret (ty := .boolean) (v := (1 : Int32)) hx hb hr rfl (fun t ht hW => ⟨⟨(1 : Int32), (), rfl, (Option.some.inj hR).symm, by rw [ht]; exact hP, va_K.moved hW.alike hK, hD⟩, hS.F ht⟩) hS.2.2 dX10_isAhead_85
    · replace hR := ifn_ hR c13
      refine lv_iload hx hb dX10_isAhead_66 (lv_at hl12 0 rfl) ?_
      refine lv_if_ne (tgt := 84) hx hb dX10_isAhead_68 (by decide) (fun c14 => ?_) (fun c14 => ?_)
      · replace hR := ifn_ hR c14
        refine lv_iconst (v := (0 : Int32)) hx hb dX10_isAhead_84 (by decide) ?_
        subst hQe
        exact W.zret (ty := .boolean) (v := (0 : Int32)) hx hb hr rfl (fun t ht hW => ⟨⟨(0 : Int32), (), rfl, (Option.some.inj hR).symm, by rw [ht]; exact hP, va_K.moved hW.alike hK, hD⟩, hS.F ht⟩) hS.2.2 dX10_isAhead_85
      · replace hR := ifp_ hR c14
        refine lv_aload_n hx hb dX10_isAhead_71 rfl (lv_at hl12 1 rfl) ?_
        refine lv_iload_n hx hb dX10_isAhead_72 rfl (lv_at hl12 2 rfl) ?_
        refine lv_iload_n hx hb dX10_isAhead_73 rfl (lv_at hl12 3 rfl) ?_
        have hR0 := ob_ok hR
        clear hR
        obtain ⟨q15, hq15, hR⟩ := hR0
        refine va_calli (va_runV (As := [.int y1, .int y2]) (rest := []) ⟨hx, hb, hml, hown, hts⟩ (cc_X10_isOlder l dC dI fu a1 k1 H.size y1 y2 s1 q15 hq15) (cwV 2 hts gX10_isAhead_X10_isOlder rfl rfl rfl (by decide +kernel) ⟨Nat.le_of_ble_eq_true rfl, Nat.le_of_ble_eq_true rfl⟩) (pf_v hK hP hD 10 0 rfl rfl rfl) rfl rfl hl12.1 rfl (lv_room (Nat.le_of_ble_eq_true rfl)) dX10_isAhead_74 ⟨Nat.le_refl _, Nat.le_refl _⟩) hS (fun q _ h => (fr_all hD hS hA) q h) (fr_all hD hS hA) (fun r15 v15 t15 H15 locs15 ht15 hvm15 hw15 hB15 hz15 hk15 hS15 => ?_)
        subst hw15
        obtain ⟨hP15, hD15⟩ := jn_all hD hS hA ht15 hB15
        have hP15 : va_P (dC, dI) vwCl (zc_10 a1 k1 s1) H15 := hP15
        have hD15 : va_D A (zc_10 a1 k1 s1) := hD15
        clear hP hD hS hB15 hk15 hvm15 hz15 ht15
        refine lv_if_eq (tgt := 84) hx hb dX10_isAhead_77 (by decide) (fun c16 => ?_) (fun c16 => ?_)
        · replace hR := ifp_ hR c16
          refine lv_iconst (v := (0 : Int32)) hx hb dX10_isAhead_84 (by decide) ?_
          subst hQe
          exact W.zret (ty := .boolean) (v := (0 : Int32)) hx hb hr rfl (fun t ht hW => ⟨⟨(0 : Int32), (), rfl, (Option.some.inj hR).symm, by rw [ht]; exact hP15, va_K.moved hW.alike hK, hD15⟩, hS15.F ht⟩) hS15.2.2 dX10_isAhead_85
        · replace hR := ifn_ hR c16
          refine lv_iconst (v := (1 : Int32)) hx hb dX10_isAhead_80 (by decide) ?_
          refine lv_goto (tgt := 85) hx hb dX10_isAhead_81 (by decide) ?_
          subst hQe
          exact W.zret (ty := .boolean) (v := (1 : Int32)) hx hb hr rfl (fun t ht hW => ⟨⟨(1 : Int32), (), rfl, (Option.some.inj hR).symm, by rw [ht]; exact hP15, va_K.moved hW.alike hK, hD15⟩, hS15.F ht⟩) hS15.2.2 dX10_isAhead_85
  unfold rr_X10_isAhead at hR
  refine lv_iload_n hx hb dX10_isAhead_0 rfl (lv_at hl 3 rfl) ?_
  refine lv_iconst (v := (2 : Int32)) hx hb dX10_isAhead_1 (by decide) ?_
  refine lv_icmp_ge (tgt := 25) hx hb dX10_isAhead_2 (by decide) (fun c1 => ?_) (fun c1 => ?_)
  · replace hR := ifp_ hR c1
    refine lv_iload_n hx hb dX10_isAhead_25 rfl (lv_at hl 3 rfl) ?_
    refine lv_iconst (v := (2 : Int32)) hx hb dX10_isAhead_26 (by decide) ?_
    refine lv_icmp_ne (tgt := 46) hx hb dX10_isAhead_27 (by decide) (fun c2 => ?_) (fun c2 => ?_)
    · replace hR := ifn_ hR c2
      refine lv_aload_n hx hb dX10_isAhead_46 rfl (lv_at hl 0 rfl) ?_
      refine va_get (D := (dC, dI)) (ci := 10) (v := .ref (a1 1)) (C := RX10) (T := TX10) (N := 35) hx hb hts hin10 hown hK hP 0 rfl rfl 0 (by decide) (hts (.fieldLink RX10 7 "OldestCoinsModel" "worths" "[I") (List.mem_of_getElem? (i := 1) rfl)) (fun _ h9 => h9) rfl dX10_isAhead_47 ?_
      refine lv_iload_n hx hb dX10_isAhead_50 rfl (lv_at hl 2 rfl) ?_
      have i3 := (ck_ok hR).1
      replace hR := (ck_ok hR).2
      refine va_iald (f := s1.1.1) hx hb hK hP 1 0 rfl rfl i3 dX10_isAhead_51 ?_
      refine lv_aload_n hx hb dX10_isAhead_52 rfl (lv_at hl 0 rfl) ?_
      refine va_get (D := (dC, dI)) (ci := 10) (v := .ref (a1 1)) (C := RX10) (T := TX10) (N := 35) hx hb hts hin10 hown hK hP 0 rfl rfl 0 (by decide) (hts (.fieldLink RX10 7 "OldestCoinsModel" "worths" "[I") (List.mem_of_getElem? (i := 1) rfl)) (fun _ h9 => h9) rfl dX10_isAhead_53 ?_
      refine lv_iload_n hx hb dX10_isAhead_56 rfl (lv_at hl 1 rfl) ?_
      have i4 := (ck_ok hR).1
      replace hR := (ck_ok hR).2
      refine va_iald (f := s1.1.1) hx hb hK hP 1 0 rfl rfl i4 dX10_isAhead_57 ?_
      refine lv_isub hx hb dX10_isAhead_58 ?_
      exact hB59 x1 x2 ((s1.1.1 x2.toNatClampNeg) - (s1.1.1 x1.toNatClampNeg)) s.heap [] ls hP hD hS (lv_sub hl [0, 1, 2] rfl) hR
    · replace hR := ifp_ hR c2
      refine lv_aload_n hx hb dX10_isAhead_30 rfl (lv_at hl 0 rfl) ?_
      refine va_get (D := (dC, dI)) (ci := 10) (v := .ref (a1 1)) (C := RX10) (T := TX10) (N := 35) hx hb hts hin10 hown hK hP 0 rfl rfl 0 (by decide) (hts (.fieldLink RX10 7 "OldestCoinsModel" "worths" "[I") (List.mem_of_getElem? (i := 1) rfl)) (fun _ h9 => h9) rfl dX10_isAhead_31 ?_
      refine lv_iload_n hx hb dX10_isAhead_34 rfl (lv_at hl 1 rfl) ?_
      have i5 := (ck_ok hR).1
      replace hR := (ck_ok hR).2
      refine va_iald (f := s1.1.1) hx hb hK hP 1 0 rfl rfl i5 dX10_isAhead_35 ?_
      refine lv_aload_n hx hb dX10_isAhead_36 rfl (lv_at hl 0 rfl) ?_
      refine va_get (D := (dC, dI)) (ci := 10) (v := .ref (a1 1)) (C := RX10) (T := TX10) (N := 35) hx hb hts hin10 hown hK hP 0 rfl rfl 0 (by decide) (hts (.fieldLink RX10 7 "OldestCoinsModel" "worths" "[I") (List.mem_of_getElem? (i := 1) rfl)) (fun _ h9 => h9) rfl dX10_isAhead_37 ?_
      refine lv_iload_n hx hb dX10_isAhead_40 rfl (lv_at hl 2 rfl) ?_
      have i6 := (ck_ok hR).1
      replace hR := (ck_ok hR).2
      refine va_iald (f := s1.1.1) hx hb hK hP 1 0 rfl rfl i6 dX10_isAhead_41 ?_
      refine lv_isub hx hb dX10_isAhead_42 ?_
      refine lv_goto (tgt := 59) hx hb dX10_isAhead_43 (by decide) ?_
      exact hB59 x1 x2 ((s1.1.1 x1.toNatClampNeg) - (s1.1.1 x2.toNatClampNeg)) s.heap [] ls hP hD hS (lv_sub hl [0, 1, 2] rfl) hR
  · replace hR := ifn_ hR c1
    refine lv_iload_n hx hb dX10_isAhead_5 rfl (lv_at hl 3 rfl) ?_
    refine lv_if_ne (tgt := 18) hx hb dX10_isAhead_6 (by decide) (fun c7 => ?_) (fun c7 => ?_)
    · replace hR := ifn_ hR c7
      refine lv_aload_n hx hb dX10_isAhead_18 rfl (lv_at hl 0 rfl) ?_
      refine lv_iload_n hx hb dX10_isAhead_19 rfl (lv_at hl 2 rfl) ?_
      refine lv_iload_n hx hb dX10_isAhead_20 rfl (lv_at hl 1 rfl) ?_
      have hR0 := ob_ok hR
      clear hR
      obtain ⟨q8, hq8, hR⟩ := hR0
      refine va_calli (va_runV (As := [.int x2, .int x1]) (rest := []) ⟨hx, hb, hml, hown, hts⟩ (cc_X10_isOlder l dC dI fu a1 k1 s.heap.size x2 x1 s1 q8 hq8) (cwV 2 hts gX10_isAhead_X10_isOlder rfl rfl rfl (by decide +kernel) ⟨Nat.le_of_ble_eq_true rfl, Nat.le_of_ble_eq_true rfl⟩) (pf_v hK hP hD 10 0 rfl rfl rfl) rfl rfl hl.1 rfl (lv_room (Nat.le_of_ble_eq_true rfl)) dX10_isAhead_21 ⟨Nat.le_refl _, Nat.le_refl _⟩) hS (fun q _ h => (fr_all hD hS hA) q h) (fr_all hD hS hA) (fun r8 v8 t8 H8 locs8 ht8 hvm8 hw8 hB8 hz8 hk8 hS8 => ?_)
      subst hw8
      obtain ⟨hP8, hD8⟩ := jn_all hD hS hA ht8 hB8
      have hP8 : va_P (dC, dI) vwCl (zc_10 a1 k1 s1) H8 := hP8
      have hD8 : va_D A (zc_10 a1 k1 s1) := hD8
      clear hP hD hS hB8 hk8 hvm8 hz8 ht8
      have z9 := (zk_ok hR).1
      replace hR := (zk_ok hR).2
      subst hQe
      exact W.zret (ty := .boolean) (v := q8) hx hb hr (zk_nar z9) (fun t ht hW => ⟨⟨q8, (), rfl, (Option.some.inj hR).symm, by rw [ht]; exact hP8, va_K.moved hW.alike hK, hD8⟩, hS8.F ht⟩) hS8.2.2 dX10_isAhead_24
    · replace hR := ifp_ hR c7
      refine lv_aload_n hx hb dX10_isAhead_9 rfl (lv_at hl 0 rfl) ?_
      refine lv_iload_n hx hb dX10_isAhead_10 rfl (lv_at hl 1 rfl) ?_
      refine lv_iload_n hx hb dX10_isAhead_11 rfl (lv_at hl 2 rfl) ?_
      have hR0 := ob_ok hR
      clear hR
      obtain ⟨q10, hq10, hR⟩ := hR0
      refine va_calli (va_runV (As := [.int x1, .int x2]) (rest := []) ⟨hx, hb, hml, hown, hts⟩ (cc_X10_isOlder l dC dI fu a1 k1 s.heap.size x1 x2 s1 q10 hq10) (cwV 2 hts gX10_isAhead_X10_isOlder rfl rfl rfl (by decide +kernel) ⟨Nat.le_of_ble_eq_true rfl, Nat.le_of_ble_eq_true rfl⟩) (pf_v hK hP hD 10 0 rfl rfl rfl) rfl rfl hl.1 rfl (lv_room (Nat.le_of_ble_eq_true rfl)) dX10_isAhead_12 ⟨Nat.le_refl _, Nat.le_refl _⟩) hS (fun q _ h => (fr_all hD hS hA) q h) (fr_all hD hS hA) (fun r10 v10 t10 H10 locs10 ht10 hvm10 hw10 hB10 hz10 hk10 hS10 => ?_)
      subst hw10
      obtain ⟨hP10, hD10⟩ := jn_all hD hS hA ht10 hB10
      have hP10 : va_P (dC, dI) vwCl (zc_10 a1 k1 s1) H10 := hP10
      have hD10 : va_D A (zc_10 a1 k1 s1) := hD10
      clear hP hD hS hB10 hk10 hvm10 hz10 ht10
      refine lv_goto (tgt := 24) hx hb dX10_isAhead_15 (by decide) ?_
      have z11 := (zk_ok hR).1
      replace hR := (zk_ok hR).2
      subst hQe
      exact W.zret (ty := .boolean) (v := q10) hx hb hr (zk_nar z11) (fun t ht hW => ⟨⟨q10, (), rfl, (Option.some.inj hR).symm, by rw [ht]; exact hP10, va_K.moved hW.alike hK, hD10⟩, hS10.F ht⟩) hS10.2.2 dX10_isAhead_24
def rr_X10_findRow_94 (fu : Nat) (rec7 : Int32 → Int32 → Int32 → ZT_10 → Option (ZT_10)) (y1 : Int32) (y2 : Int32) (y3 : Int32) (u1 : ZT_10) : Option (ZT_10) := lt_ (α := Int32) (y3 + (1 : Int32)) (fun z7 => rec7 y1 y2 z7 u1)
def rr_X10_findRow_76 (fu : Nat) (rec7 : Int32 → Int32 → Int32 → ZT_10 → Option (ZT_10)) (y1 : Int32) (y2 : Int32) (y3 : Int32) (y4 : Int32) (u1 : ZT_10) : Option (ZT_10) := ck_ y4 40 (lt_ (α := Int32) (u1.2.2.2.1.2 + (1 : Int32)) (fun z17 => rr_X10_findRow_94 fu rec7 y1 y2 y3 (u1.1, u1.2.1, u1.2.2.1, ((upd u1.2.2.2.1.1 y4.toNatClampNeg y3), z17), u1.2.2.2.2)))
def rr_X10_findRow_31_b (fu : Nat) (rec7 : Int32 → Int32 → Int32 → ZT_10 → Option (ZT_10)) (rec31 : Int32 → Int32 → Int32 → Int32 → ZT_10 → Option (ZT_10)) (y1 : Int32) (y2 : Int32) (y3 : Int32) (y4 : Int32) (u1 : ZT_10) : Option (ZT_10) := (if y4 ≤ (0 : Int32) then rr_X10_findRow_76 fu rec7 y1 y2 y3 y4 u1 else ck_ (y4 - (1 : Int32)) 40 ((rr_X10_isAhead fu y3 (u1.2.2.2.1.1 (y4 - (1 : Int32)).toNatClampNeg) y2 u1).bind (fun q10 => (if q10 = (0 : Int32) then rr_X10_findRow_76 fu rec7 y1 y2 y3 y4 u1 else ck_ (y4 - (1 : Int32)) 40 (lt_ (α := Int32) (u1.2.2.2.1.1 (y4 - (1 : Int32)).toNatClampNeg) (fun z13 => ck_ y4 40 (lt_ (α := Int32) (y4 + (-1 : Int32)) (fun z15 => rec31 y1 y2 y3 z15 (u1.1, u1.2.1, u1.2.2.1, ((upd u1.2.2.2.1.1 y4.toNatClampNeg z13), u1.2.2.2.1.2), u1.2.2.2.2)))))))))
def rr_X10_findRow_31 (fu : Nat) (rec7 : Int32 → Int32 → Int32 → ZT_10 → Option (ZT_10)) (n : Nat) : Int32 → Int32 → Int32 → Int32 → ZT_10 → Option (ZT_10) := lp_ (fun _ _ _ _ _ => none) (rr_X10_findRow_31_b fu rec7) n
def rr_X10_findRow_7_b (fu : Nat) (rec7 : Int32 → Int32 → Int32 → ZT_10 → Option (ZT_10)) (y1 : Int32) (y2 : Int32) (y3 : Int32) (u1 : ZT_10) : Option (ZT_10) := (if u1.1.2.2.2.2.2.1 ≤ y3 then some u1 else ck_ y3 40 ((if (u1.1.2.2.2.2.1 y3.toNatClampNeg) = y1 then rr_X10_findRow_31 fu rec7 fu y1 y2 y3 u1.2.2.2.1.2 u1 else rr_X10_findRow_94 fu rec7 y1 y2 y3 u1)))
def rr_X10_findRow_7 (fu : Nat) (n : Nat) : Int32 → Int32 → Int32 → ZT_10 → Option (ZT_10) := lp_ (fun _ _ _ _ => none) (rr_X10_findRow_7_b fu) n
def rr_X10_findRow (fu : Nat) (x1 : Int32) (x2 : Int32) (s1 : ZT_10) : Option (ZT_10) := rr_X10_findRow_7 fu fu x1 x2 (0 : Int32) (s1.1, s1.2.1, s1.2.2.1, (s1.2.2.2.1.1, (0 : Int32)), s1.2.2.2.2)
set_option maxHeartbeats 4000000 in
set_option maxRecDepth 100000 in
theorem cc_X10_findRow (l : Launch) (dC : Nat → ClassId) (dI : Nat → Nat → Nat) (fu : Nat) (a1 : Nat → Nat) (k1 : Nat → ClassId) (sz : Nat) (x1 : Int32) (x2 : Int32) (s1 : ZT_10) (res : ZT_10) (hR : rr_X10_findRow fu x1 x2 s1 = some res) : Met l yX10_findRow wsX10_findRow ({ frames := 3, cells := 0, slots := 0, locals := 67 } : Room) (PcF [.ref (a1 0), .int x1, .int x2] sz (dC, dI) (zc_10 a1 k1 s1) (zt_10 k1)) (va_Qv (fun u : ZT_10 => res = u) (fun u t => at3_ (dC, dI) (zc_10 a1 k1 u) (zt_10 k1) (va_A (zc_10 a1 k1 s1) sz) t) (va_A (zc_10 a1 k1 s1) sz)) 0 0 (va_A (zc_10 a1 k1 s1) sz) := by
  refine Met.ofW (cc := cX10_findRow) (maxL := 5) (ret := none) (by decide) rfl ?_
  intro p e s m args below meth c s₁ B hml hv
  obtain ⟨hav, hsz, hP, hK, hD0⟩ := hv
  have hx := B.exec
  have hb := B.bytes
  have hr := B.returns
  have hts := atoms_spec (ws := wsX10_findRow) B.pre
  have hown : s.vm.findClass RX10 = some m.cls := findClass_of_methodNamed B.named
  have hlocks := B.notSynchronized
  have hin10 : ∀ w ∈ wsX100, w ∈ wsX10_findRow := fun w h => List.mem_cons_of_mem _ (List.mem_append_right _ h)
  subst hsz
  have hD := hD0.self (sz := s.heap.size)
  clear hD0
  generalize hAe : va_A (zc_10 a1 k1 s1) s.heap.size = A at hD ⊢
  have hA : ∀ q : Nat, s.heap.size ≤ q → A q := fun q h => by rw [← hAe]; exact Or.inr h
  have hS : va_S A s.heap s.heap [] := va_S.rf
  generalize hQe : MQ below _ args s 0 0 A = Q
  rw [show entryFrame m args 5 = F0 m 0 ((lg_sl ([.ref (a1 0), .int x1, .int x2]) ++ List.replicate (5 - (lg_sl ([.ref (a1 0), .int x1, .int x2])).length) Slot.unset).toArray) [] from by rw [hav]; exact lg_entry_eq m _ _]
  have hl := lv_entry ([.ref (a1 0), .int x1, .int x2]) (n := 5) (Nat.le_of_ble_eq_true rfl)
  generalize (lg_sl ([.ref (a1 0), .int x1, .int x2]) ++ List.replicate (5 - (lg_sl ([.ref (a1 0), .int x1, .int x2])).length) Slot.unset).toArray = ls at hl ⊢
  have hl : lv_has ls 5 [(0, .ref (a1 0)), (1, .int x1), (2, .int x2)] := hl
  have hB94 : ∀ (rec7 : Int32 → Int32 → Int32 → ZT_10 → Option (ZT_10)) (hrec7 : ∀ (y1 : Int32) (y2 : Int32) (y3 : Int32) (u1 : ZT_10) (H : Heap) (locs : List Loc) (ls : Array Slot), va_P (dC, dI) vwCl (zc_10 a1 k1 u1) H → va_D A (zc_10 a1 k1 u1) → va_S A s.heap H locs → lv_has ls 5 [(0, .ref (a1 0)), (1, .int y1), (2, .int y2), (3, .int y3)] → rec7 y1 y2 y3 u1 = some res → W p l e ({ frames := 3, cells := 0, slots := 0, locals := 67 } : Room) s m args below meth c H locs 0 0 Q (F0 m 7 ls [])), ∀ (y1 : Int32) (y2 : Int32) (y3 : Int32) (u1 : ZT_10) (H : Heap) (locs : List Loc) (ls : Array Slot), va_P (dC, dI) vwCl (zc_10 a1 k1 u1) H → va_D A (zc_10 a1 k1 u1) → va_S A s.heap H locs → lv_has ls 5 [(0, .ref (a1 0)), (1, .int y1), (2, .int y2), (3, .int y3)] → rr_X10_findRow_94 fu rec7 y1 y2 y3 u1 = some res → W p l e ({ frames := 3, cells := 0, slots := 0, locals := 67 } : Room) s m args below meth c H locs 0 0 Q (F0 m 94 ls []) := by
    intro rec7 hrec7 y1 y2 y3 u1 H locs ls hP hD hS hl hR
    unfold rr_X10_findRow_94 at hR
    obtain ⟨z7, ez7⟩ : ∃ y : Int32, y = (y3 + (1 : Int32)) := ⟨_, rfl⟩
    replace hR := lt_ok hR ez7
    refine lv_iinc (v := z7) (lv' := [(3, .int z7), (0, .ref (a1 0)), (1, .int y1), (2, .int y2)]) hx hb dX10_findRow_94 hl (k := 3) rfl (by rw [ez7]; rfl) (by decide) rfl (fun ls7 hl7 => ?_)
    refine lv_goto (tgt := 7) hx hb dX10_findRow_97 (by decide) ?_
    exact hrec7 y1 y2 z7 u1 H locs ls7 hP hD hS (lv_sub hl7 [1, 2, 3, 0] rfl) hR
  have hB76 : ∀ (rec7 : Int32 → Int32 → Int32 → ZT_10 → Option (ZT_10)) (hrec7 : ∀ (y1 : Int32) (y2 : Int32) (y3 : Int32) (u1 : ZT_10) (H : Heap) (locs : List Loc) (ls : Array Slot), va_P (dC, dI) vwCl (zc_10 a1 k1 u1) H → va_D A (zc_10 a1 k1 u1) → va_S A s.heap H locs → lv_has ls 5 [(0, .ref (a1 0)), (1, .int y1), (2, .int y2), (3, .int y3)] → rec7 y1 y2 y3 u1 = some res → W p l e ({ frames := 3, cells := 0, slots := 0, locals := 67 } : Room) s m args below meth c H locs 0 0 Q (F0 m 7 ls [])), ∀ (y1 : Int32) (y2 : Int32) (y3 : Int32) (y4 : Int32) (u1 : ZT_10) (H : Heap) (locs : List Loc) (ls : Array Slot), va_P (dC, dI) vwCl (zc_10 a1 k1 u1) H → va_D A (zc_10 a1 k1 u1) → va_S A s.heap H locs → lv_has ls 5 [(0, .ref (a1 0)), (1, .int y1), (2, .int y2), (3, .int y3), (4, .int y4)] → rr_X10_findRow_76 fu rec7 y1 y2 y3 y4 u1 = some res → W p l e ({ frames := 3, cells := 0, slots := 0, locals := 67 } : Room) s m args below meth c H locs 0 0 Q (F0 m 76 ls []) := by
    intro rec7 hrec7 y1 y2 y3 y4 u1 H locs ls hP hD hS hl hR
    unfold rr_X10_findRow_76 at hR
    refine lv_aload_n hx hb dX10_findRow_76 rfl (lv_at hl 0 rfl) ?_
    refine va_get (D := (dC, dI)) (ci := 10) (v := .ref (a1 9)) (C := RX10) (T := TX10) (N := 35) hx hb hts hin10 hown hK hP 0 rfl rfl 12 (by decide) (hts (.fieldLink RX10 34 "OldestCoinsModel" "row" "[I") (List.mem_of_getElem? (i := 4) rfl)) (fun _ h9 => h9) rfl dX10_findRow_77 ?_
    refine lv_iload hx hb dX10_findRow_80 (lv_at hl 4 rfl) ?_
    refine lv_iload_n hx hb dX10_findRow_82 rfl (lv_at hl 3 rfl) ?_
    have i16 := (ck_ok hR).1
    replace hR := (ck_ok hR).2
    refine va_iast (f := u1.2.2.2.1.1) hx hb hK hP hD hS 9 8 rfl rfl i16 dX10_findRow_83 (fun H16 locs16 hP16 hD16 hS16 => ?_)
    have hP16 : va_P (dC, dI) vwCl (zc_10 a1 k1 (u1.1, u1.2.1, u1.2.2.1, ((upd u1.2.2.2.1.1 y4.toNatClampNeg y3), u1.2.2.2.1.2), u1.2.2.2.2)) H16 := hP16
    have hD16 : va_D A (zc_10 a1 k1 (u1.1, u1.2.1, u1.2.2.1, ((upd u1.2.2.2.1.1 y4.toNatClampNeg y3), u1.2.2.2.1.2), u1.2.2.2.2)) := hD16
    clear hP hD hS
    refine lv_aload_n hx hb dX10_findRow_84 rfl (lv_at hl 0 rfl) ?_
    refine lv_dup hx hb dX10_findRow_85 rfl ?_
    refine va_get (D := (dC, dI)) (ci := 10) (v := .int u1.2.2.2.1.2) (C := RX10) (T := TX10) (N := 35) hx hb hts hin10 hown hK hP16 0 rfl rfl 13 (by decide) (hts (.fieldLink RX10 114 "OldestCoinsModel" "rowSize" "I") (List.mem_of_getElem? (i := 1) rfl)) (fun _ h9 => h9) rfl dX10_findRow_86 ?_
    refine lv_iconst (v := (1 : Int32)) hx hb dX10_findRow_89 (by decide) ?_
    refine lv_iadd hx hb dX10_findRow_90 ?_
    refine lv_topi (fun z17 ez17 => ?_)
    replace hR := lt_ok hR ez17
    refine va_put (D := (dC, dI)) (ci := 10) (v := .int z17) (ty := .int) (C := RX10) (T := TX10) (N := 35) hx hb hts hin10 tyX10 tyX10_ok nmX10 hown hK hP16 hD16 hS16 0 rfl rfl 13 (by decide) (hts (.fieldLink RX10 114 "OldestCoinsModel" "rowSize" "I") (List.mem_of_getElem? (i := 1) rfl)) (fun _ h9 => h9) rfl (by decide +kernel) rfl rfl (Nat.le_of_ble_eq_true rfl) dX10_findRow_91 (fun H18 locs18 hP18 hD18 hS18 => ?_)
    have hP18 : va_P (dC, dI) vwCl (zc_10 a1 k1 (u1.1, u1.2.1, u1.2.2.1, ((upd u1.2.2.2.1.1 y4.toNatClampNeg y3), z17), u1.2.2.2.2)) H18 := hP18
    have hD18 : va_D A (zc_10 a1 k1 (u1.1, u1.2.1, u1.2.2.1, ((upd u1.2.2.2.1.1 y4.toNatClampNeg y3), z17), u1.2.2.2.2)) := hD18
    clear hP16 hD16 hS16
    exact hB94 rec7 hrec7 y1 y2 y3 (u1.1, u1.2.1, u1.2.2.1, ((upd u1.2.2.2.1.1 y4.toNatClampNeg y3), z17), u1.2.2.2.2) H18 locs18 ls hP18 hD18 hS18 (lv_sub hl [0, 1, 2, 3] rfl) hR
  have hB31 : ∀ (rec7 : Int32 → Int32 → Int32 → ZT_10 → Option (ZT_10)) (hrec7 : ∀ (y1 : Int32) (y2 : Int32) (y3 : Int32) (u1 : ZT_10) (H : Heap) (locs : List Loc) (ls : Array Slot), va_P (dC, dI) vwCl (zc_10 a1 k1 u1) H → va_D A (zc_10 a1 k1 u1) → va_S A s.heap H locs → lv_has ls 5 [(0, .ref (a1 0)), (1, .int y1), (2, .int y2), (3, .int y3)] → rec7 y1 y2 y3 u1 = some res → W p l e ({ frames := 3, cells := 0, slots := 0, locals := 67 } : Room) s m args below meth c H locs 0 0 Q (F0 m 7 ls [])), ∀ (n : Nat), ∀ (y1 : Int32) (y2 : Int32) (y3 : Int32) (y4 : Int32) (u1 : ZT_10) (H : Heap) (locs : List Loc) (ls : Array Slot), va_P (dC, dI) vwCl (zc_10 a1 k1 u1) H → va_D A (zc_10 a1 k1 u1) → va_S A s.heap H locs → lv_has ls 5 [(0, .ref (a1 0)), (1, .int y1), (2, .int y2), (3, .int y3), (4, .int y4)] → rr_X10_findRow_31 fu rec7 n y1 y2 y3 y4 u1 = some res → W p l e ({ frames := 3, cells := 0, slots := 0, locals := 67 } : Room) s m args below meth c H locs 0 0 Q (F0 m 31 ls []) := by
    intro rec7 hrec7 n
    induction n with
    | zero => intro y1 y2 y3 y4 u1 H locs ls hP hD hS hl hR; exact absurd hR (by intro h; cases h)
    | succ n ih =>
      intro y1 y2 y3 y4 u1 H locs ls hP hD hS hl hR
      replace hR : rr_X10_findRow_31_b fu rec7 (rr_X10_findRow_31 fu rec7 n) y1 y2 y3 y4 u1 = some res := hR
      unfold rr_X10_findRow_31_b at hR
      refine lv_iload hx hb dX10_findRow_31 (lv_at hl 4 rfl) ?_
      refine lv_if_le (tgt := 76) hx hb dX10_findRow_33 (by decide) (fun c8 => ?_) (fun c8 => ?_)
      · replace hR := ifp_ hR c8
        exact hB76 rec7 hrec7 y1 y2 y3 y4 u1 H locs ls hP hD hS (lv_sub hl [0, 1, 2, 3, 4] rfl) hR
      · replace hR := ifn_ hR c8
        refine lv_aload_n hx hb dX10_findRow_36 rfl (lv_at hl 0 rfl) ?_
        refine lv_iload_n hx hb dX10_findRow_37 rfl (lv_at hl 3 rfl) ?_
        refine lv_aload_n hx hb dX10_findRow_38 rfl (lv_at hl 0 rfl) ?_
        refine va_get (D := (dC, dI)) (ci := 10) (v := .ref (a1 9)) (C := RX10) (T := TX10) (N := 35) hx hb hts hin10 hown hK hP 0 rfl rfl 12 (by decide) (hts (.fieldLink RX10 34 "OldestCoinsModel" "row" "[I") (List.mem_of_getElem? (i := 4) rfl)) (fun _ h9 => h9) rfl dX10_findRow_39 ?_
        refine lv_iload hx hb dX10_findRow_42 (lv_at hl 4 rfl) ?_
        refine lv_iconst (v := (1 : Int32)) hx hb dX10_findRow_44 (by decide) ?_
        refine lv_isub hx hb dX10_findRow_45 ?_
        have i9 := (ck_ok hR).1
        replace hR := (ck_ok hR).2
        refine va_iald (f := u1.2.2.2.1.1) hx hb hK hP 9 8 rfl rfl i9 dX10_findRow_46 ?_
        refine lv_iload_n hx hb dX10_findRow_47 rfl (lv_at hl 2 rfl) ?_
        have hR0 := ob_ok hR
        clear hR
        obtain ⟨q10, hq10, hR⟩ := hR0
        refine va_calli (va_runV (As := [.int y3, .int (u1.2.2.2.1.1 (y4 - (1 : Int32)).toNatClampNeg), .int y2]) (rest := []) ⟨hx, hb, hml, hown, hts⟩ (cc_X10_isAhead l dC dI fu a1 k1 H.size y3 (u1.2.2.2.1.1 (y4 - (1 : Int32)).toNatClampNeg) y2 u1 q10 hq10) (cwV 3 hts gX10_findRow_X10_isAhead rfl rfl rfl (by decide +kernel) ⟨Nat.le_of_ble_eq_true rfl, Nat.le_of_ble_eq_true rfl⟩) (pf_v hK hP hD 10 0 rfl rfl rfl) rfl rfl hl.1 rfl (lv_room (Nat.le_of_ble_eq_true rfl)) dX10_findRow_48 ⟨Nat.le_refl _, Nat.le_refl _⟩) hS (fun q _ h => (fr_all hD hS hA) q h) (fr_all hD hS hA) (fun r10 v10 t10 H10 locs10 ht10 hvm10 hw10 hB10 hz10 hk10 hS10 => ?_)
        subst hw10
        obtain ⟨hP10, hD10⟩ := jn_all hD hS hA ht10 hB10
        have hP10 : va_P (dC, dI) vwCl (zc_10 a1 k1 u1) H10 := hP10
        have hD10 : va_D A (zc_10 a1 k1 u1) := hD10
        clear hP hD hS hB10 hk10 hvm10 hz10 ht10
        refine lv_if_eq (tgt := 76) hx hb dX10_findRow_51 (by decide) (fun c11 => ?_) (fun c11 => ?_)
        · replace hR := ifp_ hR c11
          exact hB76 rec7 hrec7 y1 y2 y3 y4 u1 H10 locs10 ls hP10 hD10 hS10 (lv_sub hl [0, 1, 2, 3, 4] rfl) hR
        · replace hR := ifn_ hR c11
          refine lv_aload_n hx hb dX10_findRow_54 rfl (lv_at hl 0 rfl) ?_
          refine va_get (D := (dC, dI)) (ci := 10) (v := .ref (a1 9)) (C := RX10) (T := TX10) (N := 35) hx hb hts hin10 hown hK hP10 0 rfl rfl 12 (by decide) (hts (.fieldLink RX10 34 "OldestCoinsModel" "row" "[I") (List.mem_of_getElem? (i := 4) rfl)) (fun _ h9 => h9) rfl dX10_findRow_55 ?_
          refine lv_iload hx hb dX10_findRow_58 (lv_at hl 4 rfl) ?_
          refine lv_aload_n hx hb dX10_findRow_60 rfl (lv_at hl 0 rfl) ?_
          refine va_get (D := (dC, dI)) (ci := 10) (v := .ref (a1 9)) (C := RX10) (T := TX10) (N := 35) hx hb hts hin10 hown hK hP10 0 rfl rfl 12 (by decide) (hts (.fieldLink RX10 34 "OldestCoinsModel" "row" "[I") (List.mem_of_getElem? (i := 4) rfl)) (fun _ h9 => h9) rfl dX10_findRow_61 ?_
          refine lv_iload hx hb dX10_findRow_64 (lv_at hl 4 rfl) ?_
          refine lv_iconst (v := (1 : Int32)) hx hb dX10_findRow_66 (by decide) ?_
          refine lv_isub hx hb dX10_findRow_67 ?_
          have i12 := (ck_ok hR).1
          replace hR := (ck_ok hR).2
          refine va_iald (f := u1.2.2.2.1.1) hx hb hK hP10 9 8 rfl rfl i12 dX10_findRow_68 ?_
          refine lv_topi (fun z13 ez13 => ?_)
          replace hR := lt_ok hR ez13
          have i14 := (ck_ok hR).1
          replace hR := (ck_ok hR).2
          refine va_iast (f := u1.2.2.2.1.1) hx hb hK hP10 hD10 hS10 9 8 rfl rfl i14 dX10_findRow_69 (fun H14 locs14 hP14 hD14 hS14 => ?_)
          have hP14 : va_P (dC, dI) vwCl (zc_10 a1 k1 (u1.1, u1.2.1, u1.2.2.1, ((upd u1.2.2.2.1.1 y4.toNatClampNeg z13), u1.2.2.2.1.2), u1.2.2.2.2)) H14 := hP14
          have hD14 : va_D A (zc_10 a1 k1 (u1.1, u1.2.1, u1.2.2.1, ((upd u1.2.2.2.1.1 y4.toNatClampNeg z13), u1.2.2.2.1.2), u1.2.2.2.2)) := hD14
          clear hP10 hD10 hS10
          obtain ⟨z15, ez15⟩ : ∃ y : Int32, y = (y4 + (-1 : Int32)) := ⟨_, rfl⟩
          replace hR := lt_ok hR ez15
          refine lv_iinc (v := z15) (lv' := [(4, .int z15), (0, .ref (a1 0)), (1, .int y1), (2, .int y2), (3, .int y3)]) hx hb dX10_findRow_70 hl (k := 4) rfl (by rw [ez15]; rfl) (by decide) rfl (fun ls15 hl15 => ?_)
          refine lv_goto (tgt := 31) hx hb dX10_findRow_73 (by decide) ?_
          exact ih y1 y2 y3 z15 (u1.1, u1.2.1, u1.2.2.1, ((upd u1.2.2.2.1.1 y4.toNatClampNeg z13), u1.2.2.2.1.2), u1.2.2.2.2) H14 locs14 ls15 hP14 hD14 hS14 (lv_sub hl15 [1, 2, 3, 4, 0] rfl) hR
  have hB7 : ∀ (n : Nat), ∀ (y1 : Int32) (y2 : Int32) (y3 : Int32) (u1 : ZT_10) (H : Heap) (locs : List Loc) (ls : Array Slot), va_P (dC, dI) vwCl (zc_10 a1 k1 u1) H → va_D A (zc_10 a1 k1 u1) → va_S A s.heap H locs → lv_has ls 5 [(0, .ref (a1 0)), (1, .int y1), (2, .int y2), (3, .int y3)] → rr_X10_findRow_7 fu n y1 y2 y3 u1 = some res → W p l e ({ frames := 3, cells := 0, slots := 0, locals := 67 } : Room) s m args below meth c H locs 0 0 Q (F0 m 7 ls []) := by
    intro  n
    induction n with
    | zero => intro y1 y2 y3 u1 H locs ls hP hD hS hl hR; exact absurd hR (by intro h; cases h)
    | succ n ih =>
      intro y1 y2 y3 u1 H locs ls hP hD hS hl hR
      replace hR : rr_X10_findRow_7_b fu (rr_X10_findRow_7 fu n) y1 y2 y3 u1 = some res := hR
      unfold rr_X10_findRow_7_b at hR
      refine lv_iload_n hx hb dX10_findRow_7 rfl (lv_at hl 3 rfl) ?_
      refine lv_aload_n hx hb dX10_findRow_8 rfl (lv_at hl 0 rfl) ?_
      refine va_get (D := (dC, dI)) (ci := 10) (v := .int u1.1.2.2.2.2.2.1) (C := RX10) (T := TX10) (N := 35) hx hb hts hin10 hown hK hP 0 rfl rfl 5 (by decide) (hts (.fieldLink RX10 74 "OldestCoinsModel" "many" "I") (List.mem_of_getElem? (i := 2) rfl)) (fun _ h9 => h9) rfl dX10_findRow_9 ?_
      refine lv_icmp_ge (tgt := 100) hx hb dX10_findRow_12 (by decide) (fun c3 => ?_) (fun c3 => ?_)
      · replace hR := ifp_ hR c3
        subst hQe
        exact W.vret hx hb hr (fun t ht hW => ⟨⟨u1, rfl, (Option.some.inj hR).symm, by rw [ht]; exact hP, va_K.moved hW.alike hK, hD⟩, hS.F ht⟩) hS.2.2 dX10_findRow_100
      · replace hR := ifn_ hR c3
        refine lv_aload_n hx hb dX10_findRow_15 rfl (lv_at hl 0 rfl) ?_
        refine va_get (D := (dC, dI)) (ci := 10) (v := .ref (a1 5)) (C := RX10) (T := TX10) (N := 35) hx hb hts hin10 hown hK hP 0 rfl rfl 4 (by decide) (hts (.fieldLink RX10 22 "OldestCoinsModel" "whose" "[I") (List.mem_of_getElem? (i := 3) rfl)) (fun _ h9 => h9) rfl dX10_findRow_16 ?_
        refine lv_iload_n hx hb dX10_findRow_19 rfl (lv_at hl 3 rfl) ?_
        have i4 := (ck_ok hR).1
        replace hR := (ck_ok hR).2
        refine va_iald (f := u1.1.2.2.2.2.1) hx hb hK hP 5 4 rfl rfl i4 dX10_findRow_20 ?_
        refine lv_iload_n hx hb dX10_findRow_21 rfl (lv_at hl 1 rfl) ?_
        refine lv_icmp_ne (tgt := 94) hx hb dX10_findRow_22 (by decide) (fun c5 => ?_) (fun c5 => ?_)
        · replace hR := ifn_ hR c5
          exact hB94 (rr_X10_findRow_7 fu n) ih y1 y2 y3 u1 H locs ls hP hD hS (lv_sub hl [0, 1, 2, 3] rfl) hR
        · replace hR := ifp_ hR c5
          refine lv_aload_n hx hb dX10_findRow_25 rfl (lv_at hl 0 rfl) ?_
          refine va_get (D := (dC, dI)) (ci := 10) (v := .int u1.2.2.2.1.2) (C := RX10) (T := TX10) (N := 35) hx hb hts hin10 hown hK hP 0 rfl rfl 13 (by decide) (hts (.fieldLink RX10 114 "OldestCoinsModel" "rowSize" "I") (List.mem_of_getElem? (i := 1) rfl)) (fun _ h9 => h9) rfl dX10_findRow_26 ?_
          refine lv_istore (lv' := [(4, .int u1.2.2.2.1.2), (0, .ref (a1 0)), (1, .int y1), (2, .int y2), (3, .int y3)]) hx hb dX10_findRow_29 hl (by decide) rfl (fun ls6 hl6 => ?_)
          exact hB31 (rr_X10_findRow_7 fu n) ih fu y1 y2 y3 u1.2.2.2.1.2 u1 H locs ls6 hP hD hS (lv_sub hl6 [1, 2, 3, 4, 0] rfl) hR
  unfold rr_X10_findRow at hR
  refine lv_aload_n hx hb dX10_findRow_0 rfl (lv_at hl 0 rfl) ?_
  refine lv_iconst (v := (0 : Int32)) hx hb dX10_findRow_1 (by decide) ?_
  refine va_put (D := (dC, dI)) (ci := 10) (v := .int (0 : Int32)) (ty := .int) (C := RX10) (T := TX10) (N := 35) hx hb hts hin10 tyX10 tyX10_ok nmX10 hown hK hP hD hS 0 rfl rfl 13 (by decide) (hts (.fieldLink RX10 114 "OldestCoinsModel" "rowSize" "I") (List.mem_of_getElem? (i := 1) rfl)) (fun _ h9 => h9) rfl (by decide +kernel) rfl rfl (Nat.le_of_ble_eq_true rfl) dX10_findRow_2 (fun H1 locs1 hP1 hD1 hS1 => ?_)
  have hP1 : va_P (dC, dI) vwCl (zc_10 a1 k1 (s1.1, s1.2.1, s1.2.2.1, (s1.2.2.2.1.1, (0 : Int32)), s1.2.2.2.2)) H1 := hP1
  have hD1 : va_D A (zc_10 a1 k1 (s1.1, s1.2.1, s1.2.2.1, (s1.2.2.2.1.1, (0 : Int32)), s1.2.2.2.2)) := hD1
  clear hP hD hS
  refine lv_iconst (v := (0 : Int32)) hx hb dX10_findRow_5 (by decide) ?_
  refine lv_istore_n (lv' := [(3, .int (0 : Int32)), (0, .ref (a1 0)), (1, .int x1), (2, .int x2)]) hx hb dX10_findRow_6 rfl hl (by decide) rfl (fun ls2 hl2 => ?_)
  exact hB7 fu x1 x2 (0 : Int32) (s1.1, s1.2.1, s1.2.2.1, (s1.2.2.2.1.1, (0 : Int32)), s1.2.2.2.2) H1 locs1 ls2 hP1 hD1 hS1 (lv_sub hl2 [1, 2, 3, 0] rfl) hR
def rr_X10_in (fu : Nat) (x0 : Int64) (x2 : Int64) (x4 : Int64) : Option (Int32) := (if (lg_cmp x0 x2) < (0 : Int32) then some (0 : Int32) else (if (0 : Int32) < (lg_cmp x0 x4) then some (0 : Int32) else some (1 : Int32)))
set_option maxHeartbeats 4000000 in
set_option maxRecDepth 100000 in
theorem cc_X10_in (l : Launch) (dC : Nat → ClassId) (dI : Nat → Nat → Nat) (fu : Nat) (sz : Nat) (x0 : Int64) (x2 : Int64) (x4 : Int64) (res : Int32) (hR : rr_X10_in fu x0 x2 x4 = some res) : Met l yX10_in wsX10_in ({ frames := 0, cells := 0, slots := 0, locals := 0 } : Room) (PcF [.long x0, .long x2, .long x4] sz (dC, dI) (([] : va_W)) ([])) (va_Qi (fun (r : Int32) (u : Unit) => res = r) (fun u t => at3_ (dC, dI) (([] : va_W)) ([]) (va_A (([] : va_W)) sz) t) (va_A (([] : va_W)) sz)) 0 0 (va_A (([] : va_W)) sz) := by
  refine Met.ofW (cc := cX10_in) (maxL := 6) (ret := (some .boolean)) (by decide) rfl ?_
  intro p e s m args below meth c s₁ B hml hv
  obtain ⟨hav, hsz, hP, hK, hD0⟩ := hv
  have hx := B.exec
  have hb := B.bytes
  have hr := B.returns
  have hts := atoms_spec (ws := wsX10_in) B.pre
  have hown : s.vm.findClass RX10 = some m.cls := findClass_of_methodNamed B.named
  have hlocks := B.notSynchronized
  subst hsz
  have hD := hD0.self (sz := s.heap.size)
  clear hD0
  generalize hAe : va_A (([] : va_W)) s.heap.size = A at hD ⊢
  have hA : ∀ q : Nat, s.heap.size ≤ q → A q := fun q h => by rw [← hAe]; exact Or.inr h
  have hS : va_S A s.heap s.heap [] := va_S.rf
  generalize hQe : MQ below _ args s 0 0 A = Q
  rw [show entryFrame m args 6 = F0 m 0 ((lg_sl ([.long x0, .long x2, .long x4]) ++ List.replicate (6 - (lg_sl ([.long x0, .long x2, .long x4])).length) Slot.unset).toArray) [] from by rw [hav]; exact lg_entry_eq m _ _]
  have hl := lv_entry ([.long x0, .long x2, .long x4]) (n := 6) (Nat.le_of_ble_eq_true rfl)
  generalize (lg_sl ([.long x0, .long x2, .long x4]) ++ List.replicate (6 - (lg_sl ([.long x0, .long x2, .long x4])).length) Slot.unset).toArray = ls at hl ⊢
  have hl : lv_has ls 6 [(0, .long x0), (2, .long x2), (4, .long x4)] := hl
  unfold rr_X10_in at hR
  refine lv_lload_n hx hb dX10_in_0 rfl (lv_at hl 0 rfl) ?_
  refine lv_lload_n hx hb dX10_in_1 rfl (lv_at hl 1 rfl) ?_
  refine W.lcmp hx hb dX10_in_2 ?_
  refine lv_if_lt (tgt := 17) hx hb dX10_in_3 (by decide) (fun c1 => ?_) (fun c1 => ?_)
  · replace hR := ifp_ hR c1
    refine lv_iconst (v := (0 : Int32)) hx hb dX10_in_17 (by decide) ?_
    subst hQe
    exact W.zret (ty := .boolean) (v := (0 : Int32)) hx hb hr rfl (fun t ht hW => ⟨⟨(0 : Int32), (), rfl, (Option.some.inj hR).symm, by rw [ht]; exact hP, va_K.moved hW.alike hK, hD⟩, hS.F ht⟩) hS.2.2 dX10_in_18
  · replace hR := ifn_ hR c1
    refine lv_lload_n hx hb dX10_in_6 rfl (lv_at hl 0 rfl) ?_
    refine lv_lload hx hb dX10_in_7 (lv_at hl 2 rfl) ?_
    refine W.lcmp hx hb dX10_in_9 ?_
    refine lv_if_gt (tgt := 17) hx hb dX10_in_10 (by decide) (fun c2 => ?_) (fun c2 => ?_)
    · replace hR := ifp_ hR c2
      refine lv_iconst (v := (0 : Int32)) hx hb dX10_in_17 (by decide) ?_
      subst hQe
      exact W.zret (ty := .boolean) (v := (0 : Int32)) hx hb hr rfl (fun t ht hW => ⟨⟨(0 : Int32), (), rfl, (Option.some.inj hR).symm, by rw [ht]; exact hP, va_K.moved hW.alike hK, hD⟩, hS.F ht⟩) hS.2.2 dX10_in_18
    · replace hR := ifn_ hR c2
      refine lv_iconst (v := (1 : Int32)) hx hb dX10_in_13 (by decide) ?_
      refine lv_goto (tgt := 18) hx hb dX10_in_14 (by decide) ?_
      subst hQe
      exact W.zret (ty := .boolean) (v := (1 : Int32)) hx hb hr rfl (fun t ht hW => ⟨⟨(1 : Int32), (), rfl, (Option.some.inj hR).symm, by rw [ht]; exact hP, va_K.moved hW.alike hK, hD⟩, hS.F ht⟩) hS.2.2 dX10_in_18
def rr_X10_isHolder (fu : Nat) (x0 : Int32) : Option (Int32) := (rr_X10_in fu x0.toInt64 (0 : Int64) (7 : Int64)).bind (fun q1 => zk_ q1 (some q1))
set_option maxHeartbeats 4000000 in
set_option maxRecDepth 100000 in
theorem cc_X10_isHolder (l : Launch) (dC : Nat → ClassId) (dI : Nat → Nat → Nat) (fu : Nat) (sz : Nat) (x0 : Int32) (res : Int32) (hR : rr_X10_isHolder fu x0 = some res) : Met l yX10_isHolder wsX10_isHolder ({ frames := 1, cells := 0, slots := 0, locals := 25 } : Room) (PcF [.int x0] sz (dC, dI) (([] : va_W)) ([])) (va_Qi (fun (r : Int32) (u : Unit) => res = r) (fun u t => at3_ (dC, dI) (([] : va_W)) ([]) (va_A (([] : va_W)) sz) t) (va_A (([] : va_W)) sz)) 0 0 (va_A (([] : va_W)) sz) := by
  refine Met.ofW (cc := cX10_isHolder) (maxL := 1) (ret := (some .boolean)) (by decide) rfl ?_
  intro p e s m args below meth c s₁ B hml hv
  obtain ⟨hav, hsz, hP, hK, hD0⟩ := hv
  have hx := B.exec
  have hb := B.bytes
  have hr := B.returns
  have hts := atoms_spec (ws := wsX10_isHolder) B.pre
  have hown : s.vm.findClass RX10 = some m.cls := findClass_of_methodNamed B.named
  have hlocks := B.notSynchronized
  subst hsz
  have hD := hD0.self (sz := s.heap.size)
  clear hD0
  generalize hAe : va_A (([] : va_W)) s.heap.size = A at hD ⊢
  have hA : ∀ q : Nat, s.heap.size ≤ q → A q := fun q h => by rw [← hAe]; exact Or.inr h
  have hS : va_S A s.heap s.heap [] := va_S.rf
  generalize hQe : MQ below _ args s 0 0 A = Q
  rw [show entryFrame m args 1 = F0 m 0 ((lg_sl ([.int x0]) ++ List.replicate (1 - (lg_sl ([.int x0])).length) Slot.unset).toArray) [] from by rw [hav]; exact lg_entry_eq m _ _]
  have hl := lv_entry ([.int x0]) (n := 1) (Nat.le_of_ble_eq_true rfl)
  generalize (lg_sl ([.int x0]) ++ List.replicate (1 - (lg_sl ([.int x0])).length) Slot.unset).toArray = ls at hl ⊢
  have hl : lv_has ls 1 [(0, .int x0)] := hl
  unfold rr_X10_isHolder at hR
  refine lv_iload_n hx hb dX10_isHolder_0 rfl (lv_at hl 0 rfl) ?_
  refine lv_i2l (v := x0.toInt64) hx hb dX10_isHolder_1 rfl ?_
  refine lv_lconst (v := (0 : Int64)) hx hb dX10_isHolder_2 (by decide) ?_
  refine lv_ldc2 (v := (7 : Int64)) hx hb hown (hts (.constantLong RX10 82 (7)) (List.mem_of_getElem? (i := 1) rfl)) dX10_isHolder_3 ?_
  have hR0 := ob_ok hR
  clear hR
  obtain ⟨q1, hq1, hR⟩ := hR0
  refine va_calli (va_runS (As := [.long x0.toInt64, .long (0 : Int64), .long (7 : Int64)]) (rest := []) ⟨hx, hb, hml, hown, hts⟩ (cc_X10_in l dC dI fu s.heap.size x0.toInt64 (0 : Int64) (7 : Int64) q1 hq1) (va_cwS 3 hts gX10_isHolder_X10_in rfl rfl rfl (by decide +kernel) ⟨Nat.le_of_ble_eq_true rfl, Nat.le_of_ble_eq_true rfl⟩) (pf_s (nil_K hK) nil_P (nil_D (A := A))) rfl rfl hl.1 rfl (lv_room (Nat.le_of_ble_eq_true rfl)) dX10_isHolder_6 ⟨Nat.le_refl _, Nat.le_refl _⟩) hS (fun q _ h => (fr_none hS hA) q h) (fr_none hS hA) (fun r1 v1 t1 H1 locs1 ht1 hvm1 hw1 hB1 hz1 hk1 hS1 => ?_)
  subst hw1
  have hP1 := jn_none hP hk1
  have hD1 := hD
  have hP1 : va_P (dC, dI) vwCl (([] : va_W)) H1 := hP1
  have hD1 : va_D A (([] : va_W)) := hD1
  clear hP hD hS hB1 hk1 hvm1 hz1 ht1
  have z2 := (zk_ok hR).1
  replace hR := (zk_ok hR).2
  subst hQe
  exact W.zret (ty := .boolean) (v := q1) hx hb hr (zk_nar z2) (fun t ht hW => ⟨⟨q1, (), rfl, (Option.some.inj hR).symm, by rw [ht]; exact hP1, va_K.moved hW.alike hK, hD1⟩, hS1.F ht⟩) hS1.2.2 dX10_isHolder_9
def rr_X10_isSheet (fu : Nat) (x0 : Int32) (x1 : Int32) : Option (Int32) := (rr_X10_in fu x0.toInt64 (0 : Int64) (3 : Int64)).bind (fun q1 => (if q1 = (0 : Int32) then some (0 : Int32) else (rr_X10_in fu x1.toInt64 (0 : Int64) (2 : Int64)).bind (fun q3 => (if q3 = (0 : Int32) then some (0 : Int32) else some (1 : Int32)))))
set_option maxHeartbeats 4000000 in
set_option maxRecDepth 100000 in
theorem cc_X10_isSheet (l : Launch) (dC : Nat → ClassId) (dI : Nat → Nat → Nat) (fu : Nat) (sz : Nat) (x0 : Int32) (x1 : Int32) (res : Int32) (hR : rr_X10_isSheet fu x0 x1 = some res) : Met l yX10_isSheet wsX10_isSheet ({ frames := 1, cells := 0, slots := 0, locals := 25 } : Room) (PcF [.int x0, .int x1] sz (dC, dI) (([] : va_W)) ([])) (va_Qi (fun (r : Int32) (u : Unit) => res = r) (fun u t => at3_ (dC, dI) (([] : va_W)) ([]) (va_A (([] : va_W)) sz) t) (va_A (([] : va_W)) sz)) 0 0 (va_A (([] : va_W)) sz) := by
  refine Met.ofW (cc := cX10_isSheet) (maxL := 2) (ret := (some .boolean)) (by decide) rfl ?_
  intro p e s m args below meth c s₁ B hml hv
  obtain ⟨hav, hsz, hP, hK, hD0⟩ := hv
  have hx := B.exec
  have hb := B.bytes
  have hr := B.returns
  have hts := atoms_spec (ws := wsX10_isSheet) B.pre
  have hown : s.vm.findClass RX10 = some m.cls := findClass_of_methodNamed B.named
  have hlocks := B.notSynchronized
  subst hsz
  have hD := hD0.self (sz := s.heap.size)
  clear hD0
  generalize hAe : va_A (([] : va_W)) s.heap.size = A at hD ⊢
  have hA : ∀ q : Nat, s.heap.size ≤ q → A q := fun q h => by rw [← hAe]; exact Or.inr h
  have hS : va_S A s.heap s.heap [] := va_S.rf
  generalize hQe : MQ below _ args s 0 0 A = Q
  rw [show entryFrame m args 2 = F0 m 0 ((lg_sl ([.int x0, .int x1]) ++ List.replicate (2 - (lg_sl ([.int x0, .int x1])).length) Slot.unset).toArray) [] from by rw [hav]; exact lg_entry_eq m _ _]
  have hl := lv_entry ([.int x0, .int x1]) (n := 2) (Nat.le_of_ble_eq_true rfl)
  generalize (lg_sl ([.int x0, .int x1]) ++ List.replicate (2 - (lg_sl ([.int x0, .int x1])).length) Slot.unset).toArray = ls at hl ⊢
  have hl : lv_has ls 2 [(0, .int x0), (1, .int x1)] := hl
  unfold rr_X10_isSheet at hR
  refine lv_iload_n hx hb dX10_isSheet_0 rfl (lv_at hl 0 rfl) ?_
  refine lv_i2l (v := x0.toInt64) hx hb dX10_isSheet_1 rfl ?_
  refine lv_lconst (v := (0 : Int64)) hx hb dX10_isSheet_2 (by decide) ?_
  refine lv_ldc2 (v := (3 : Int64)) hx hb hown (hts (.constantLong RX10 84 (3)) (List.mem_of_getElem? (i := 1) rfl)) dX10_isSheet_3 ?_
  have hR0 := ob_ok hR
  clear hR
  obtain ⟨q1, hq1, hR⟩ := hR0
  refine va_calli (va_runS (As := [.long x0.toInt64, .long (0 : Int64), .long (3 : Int64)]) (rest := []) ⟨hx, hb, hml, hown, hts⟩ (cc_X10_in l dC dI fu s.heap.size x0.toInt64 (0 : Int64) (3 : Int64) q1 hq1) (va_cwS 3 hts gX10_isSheet_X10_in rfl rfl rfl (by decide +kernel) ⟨Nat.le_of_ble_eq_true rfl, Nat.le_of_ble_eq_true rfl⟩) (pf_s (nil_K hK) nil_P (nil_D (A := A))) rfl rfl hl.1 rfl (lv_room (Nat.le_of_ble_eq_true rfl)) dX10_isSheet_6 ⟨Nat.le_refl _, Nat.le_refl _⟩) hS (fun q _ h => (fr_none hS hA) q h) (fr_none hS hA) (fun r1 v1 t1 H1 locs1 ht1 hvm1 hw1 hB1 hz1 hk1 hS1 => ?_)
  subst hw1
  have hP1 := jn_none hP hk1
  have hD1 := hD
  have hP1 : va_P (dC, dI) vwCl (([] : va_W)) H1 := hP1
  have hD1 : va_D A (([] : va_W)) := hD1
  clear hP hD hS hB1 hk1 hvm1 hz1 ht1
  refine lv_if_eq (tgt := 28) hx hb dX10_isSheet_9 (by decide) (fun c2 => ?_) (fun c2 => ?_)
  · replace hR := ifp_ hR c2
    refine lv_iconst (v := (0 : Int32)) hx hb dX10_isSheet_28 (by decide) ?_
    subst hQe
    exact W.zret (ty := .boolean) (v := (0 : Int32)) hx hb hr rfl (fun t ht hW => ⟨⟨(0 : Int32), (), rfl, (Option.some.inj hR).symm, by rw [ht]; exact hP1, va_K.moved hW.alike hK, hD1⟩, hS1.F ht⟩) hS1.2.2 dX10_isSheet_29
  · replace hR := ifn_ hR c2
    refine lv_iload_n hx hb dX10_isSheet_12 rfl (lv_at hl 1 rfl) ?_
    refine lv_i2l (v := x1.toInt64) hx hb dX10_isSheet_13 rfl ?_
    refine lv_lconst (v := (0 : Int64)) hx hb dX10_isSheet_14 (by decide) ?_
    refine lv_ldc2 (v := (2 : Int64)) hx hb hown (hts (.constantLong RX10 264 (2)) (List.mem_of_getElem? (i := 2) rfl)) dX10_isSheet_15 ?_
    have hR0 := ob_ok hR
    clear hR
    obtain ⟨q3, hq3, hR⟩ := hR0
    refine va_calli (va_runS (As := [.long x1.toInt64, .long (0 : Int64), .long (2 : Int64)]) (rest := []) ⟨hx, hb, hml, hown, hts⟩ (cc_X10_in l dC dI fu H1.size x1.toInt64 (0 : Int64) (2 : Int64) q3 hq3) (va_cwS 3 hts gX10_isSheet_X10_in rfl rfl rfl (by decide +kernel) ⟨Nat.le_of_ble_eq_true rfl, Nat.le_of_ble_eq_true rfl⟩) (pf_s (nil_K hK) nil_P (nil_D (A := A))) rfl rfl hl.1 rfl (lv_room (Nat.le_of_ble_eq_true rfl)) dX10_isSheet_18 ⟨Nat.le_refl _, Nat.le_refl _⟩) hS1 (fun q _ h => (fr_none hS1 hA) q h) (fr_none hS1 hA) (fun r3 v3 t3 H3 locs3 ht3 hvm3 hw3 hB3 hz3 hk3 hS3 => ?_)
    subst hw3
    have hP3 := jn_none hP1 hk3
    have hD3 := hD1
    have hP3 : va_P (dC, dI) vwCl (([] : va_W)) H3 := hP3
    have hD3 : va_D A (([] : va_W)) := hD3
    clear hP1 hD1 hS1 hB3 hk3 hvm3 hz3 ht3
    refine lv_if_eq (tgt := 28) hx hb dX10_isSheet_21 (by decide) (fun c4 => ?_) (fun c4 => ?_)
    · replace hR := ifp_ hR c4
      refine lv_iconst (v := (0 : Int32)) hx hb dX10_isSheet_28 (by decide) ?_
      subst hQe
      exact W.zret (ty := .boolean) (v := (0 : Int32)) hx hb hr rfl (fun t ht hW => ⟨⟨(0 : Int32), (), rfl, (Option.some.inj hR).symm, by rw [ht]; exact hP3, va_K.moved hW.alike hK, hD3⟩, hS3.F ht⟩) hS3.2.2 dX10_isSheet_29
    · replace hR := ifn_ hR c4
      refine lv_iconst (v := (1 : Int32)) hx hb dX10_isSheet_24 (by decide) ?_
      refine lv_goto (tgt := 29) hx hb dX10_isSheet_25 (by decide) ?_
      subst hQe
      exact W.zret (ty := .boolean) (v := (1 : Int32)) hx hb hr rfl (fun t ht hW => ⟨⟨(1 : Int32), (), rfl, (Option.some.inj hR).symm, by rw [ht]; exact hP3, va_K.moved hW.alike hK, hD3⟩, hS3.F ht⟩) hS3.2.2 dX10_isSheet_29
def rr_X10_lacksRow (fu : Nat) (x1 : Int32) (x2 : Int32) (x3 : Int32) (x4 : Int32) (s1 : ZT_10) : Option (Int32) := ck_ x1 4 ((if (s1.2.2.2.2.2.2.2.2.2.1 x1.toNatClampNeg) = x2 then ck_ x1 4 ((rr_X10_in fu x3.toInt64 (0 : Int64) ((s1.2.2.2.2.2.2.2.2.2.2.1 x1.toNatClampNeg) - x4).toInt64).bind (fun q4 => (if q4 = (0 : Int32) then some (-13 : Int32) else some (0 : Int32)))) else ck_ x1 4 ((if (0 : Int32) ≤ (s1.2.2.2.2.2.2.2.2.2.1 x1.toNatClampNeg) then some (-12 : Int32) else some (-11 : Int32)))))
set_option maxHeartbeats 4000000 in
set_option maxRecDepth 100000 in
theorem cc_X10_lacksRow (l : Launch) (dC : Nat → ClassId) (dI : Nat → Nat → Nat) (fu : Nat) (a1 : Nat → Nat) (k1 : Nat → ClassId) (sz : Nat) (x1 : Int32) (x2 : Int32) (x3 : Int32) (x4 : Int32) (s1 : ZT_10) (res : Int32) (hR : rr_X10_lacksRow fu x1 x2 x3 x4 s1 = some res) : Met l yX10_lacksRow wsX10_lacksRow ({ frames := 1, cells := 0, slots := 0, locals := 25 } : Room) (PcF [.ref (a1 0), .int x1, .int x2, .int x3, .int x4] sz (dC, dI) (zc_10 a1 k1 s1) (zt_10 k1)) (va_Qi (fun (r : Int32) (u : Unit) => res = r) (fun u t => at3_ (dC, dI) (zc_10 a1 k1 s1) (zt_10 k1) (va_A (zc_10 a1 k1 s1) sz) t) (va_A (zc_10 a1 k1 s1) sz)) 0 0 (va_A (zc_10 a1 k1 s1) sz) := by
  refine Met.ofW (cc := cX10_lacksRow) (maxL := 5) (ret := (some .int)) (by decide) rfl ?_
  intro p e s m args below meth c s₁ B hml hv
  obtain ⟨hav, hsz, hP, hK, hD0⟩ := hv
  have hx := B.exec
  have hb := B.bytes
  have hr := B.returns
  have hts := atoms_spec (ws := wsX10_lacksRow) B.pre
  have hown : s.vm.findClass RX10 = some m.cls := findClass_of_methodNamed B.named
  have hlocks := B.notSynchronized
  have hin10 : ∀ w ∈ wsX100, w ∈ wsX10_lacksRow := fun w h => List.mem_cons_of_mem _ (List.mem_append_right _ h)
  subst hsz
  have hD := hD0.self (sz := s.heap.size)
  clear hD0
  generalize hAe : va_A (zc_10 a1 k1 s1) s.heap.size = A at hD ⊢
  have hA : ∀ q : Nat, s.heap.size ≤ q → A q := fun q h => by rw [← hAe]; exact Or.inr h
  have hS : va_S A s.heap s.heap [] := va_S.rf
  generalize hQe : MQ below _ args s 0 0 A = Q
  rw [show entryFrame m args 5 = F0 m 0 ((lg_sl ([.ref (a1 0), .int x1, .int x2, .int x3, .int x4]) ++ List.replicate (5 - (lg_sl ([.ref (a1 0), .int x1, .int x2, .int x3, .int x4])).length) Slot.unset).toArray) [] from by rw [hav]; exact lg_entry_eq m _ _]
  have hl := lv_entry ([.ref (a1 0), .int x1, .int x2, .int x3, .int x4]) (n := 5) (Nat.le_of_ble_eq_true rfl)
  generalize (lg_sl ([.ref (a1 0), .int x1, .int x2, .int x3, .int x4]) ++ List.replicate (5 - (lg_sl ([.ref (a1 0), .int x1, .int x2, .int x3, .int x4])).length) Slot.unset).toArray = ls at hl ⊢
  have hl : lv_has ls 5 [(0, .ref (a1 0)), (1, .int x1), (2, .int x2), (3, .int x3), (4, .int x4)] := hl
  unfold rr_X10_lacksRow at hR
  refine lv_aload_n hx hb dX10_lacksRow_0 rfl (lv_at hl 0 rfl) ?_
  refine va_get (D := (dC, dI)) (ci := 10) (v := .ref (a1 19)) (C := RX10) (T := TX10) (N := 35) hx hb hts hin10 hown hK hP 0 rfl rfl 32 (by decide) (hts (.fieldLink RX10 65 "OldestCoinsModel" "lanes" "[I") (List.mem_of_getElem? (i := 1) rfl)) (fun _ h9 => h9) rfl dX10_lacksRow_1 ?_
  refine lv_iload_n hx hb dX10_lacksRow_4 rfl (lv_at hl 1 rfl) ?_
  have i1 := (ck_ok hR).1
  replace hR := (ck_ok hR).2
  refine va_iald (f := s1.2.2.2.2.2.2.2.2.2.1) hx hb hK hP 19 18 rfl rfl i1 dX10_lacksRow_5 ?_
  refine lv_iload_n hx hb dX10_lacksRow_6 rfl (lv_at hl 2 rfl) ?_
  refine lv_icmp_eq (tgt := 27) hx hb dX10_lacksRow_7 (by decide) (fun c2 => ?_) (fun c2 => ?_)
  · replace hR := ifp_ hR c2
    refine lv_iload_n hx hb dX10_lacksRow_27 rfl (lv_at hl 3 rfl) ?_
    refine lv_i2l (v := x3.toInt64) hx hb dX10_lacksRow_28 rfl ?_
    refine lv_lconst (v := (0 : Int64)) hx hb dX10_lacksRow_29 (by decide) ?_
    refine lv_aload_n hx hb dX10_lacksRow_30 rfl (lv_at hl 0 rfl) ?_
    refine va_get (D := (dC, dI)) (ci := 10) (v := .ref (a1 20)) (C := RX10) (T := TX10) (N := 35) hx hb hts hin10 hown hK hP 0 rfl rfl 33 (by decide) (hts (.fieldLink RX10 68 "OldestCoinsModel" "rowSizes" "[I") (List.mem_of_getElem? (i := 2) rfl)) (fun _ h9 => h9) rfl dX10_lacksRow_31 ?_
    refine lv_iload_n hx hb dX10_lacksRow_34 rfl (lv_at hl 1 rfl) ?_
    have i3 := (ck_ok hR).1
    replace hR := (ck_ok hR).2
    refine va_iald (f := s1.2.2.2.2.2.2.2.2.2.2.1) hx hb hK hP 20 19 rfl rfl i3 dX10_lacksRow_35 ?_
    refine lv_iload hx hb dX10_lacksRow_36 (lv_at hl 4 rfl) ?_
    refine lv_isub hx hb dX10_lacksRow_38 ?_
    refine lv_i2l (v := ((s1.2.2.2.2.2.2.2.2.2.2.1 x1.toNatClampNeg) - x4).toInt64) hx hb dX10_lacksRow_39 rfl ?_
    have hR0 := ob_ok hR
    clear hR
    obtain ⟨q4, hq4, hR⟩ := hR0
    refine va_calli (va_runS (As := [.long x3.toInt64, .long (0 : Int64), .long ((s1.2.2.2.2.2.2.2.2.2.2.1 x1.toNatClampNeg) - x4).toInt64]) (rest := []) ⟨hx, hb, hml, hown, hts⟩ (cc_X10_in l dC dI fu s.heap.size x3.toInt64 (0 : Int64) ((s1.2.2.2.2.2.2.2.2.2.2.1 x1.toNatClampNeg) - x4).toInt64 q4 hq4) (va_cwS 3 hts gX10_lacksRow_X10_in rfl rfl rfl (by decide +kernel) ⟨Nat.le_of_ble_eq_true rfl, Nat.le_of_ble_eq_true rfl⟩) (pf_s (nil_K hK) nil_P (nil_D (A := A))) rfl rfl hl.1 rfl (lv_room (Nat.le_of_ble_eq_true rfl)) dX10_lacksRow_40 ⟨Nat.le_refl _, Nat.le_refl _⟩) hS (fun q _ h => (fr_none hS hA) q h) (fr_none hS hA) (fun r4 v4 t4 H4 locs4 ht4 hvm4 hw4 hB4 hz4 hk4 hS4 => ?_)
    subst hw4
    have hP4 := jn_none hP hk4
    have hD4 := hD
    have hP4 : va_P (dC, dI) vwCl (zc_10 a1 k1 s1) H4 := hP4
    have hD4 : va_D A (zc_10 a1 k1 s1) := hD4
    clear hP hD hS hB4 hk4 hvm4 hz4 ht4
    refine lv_if_eq (tgt := 50) hx hb dX10_lacksRow_43 (by decide) (fun c5 => ?_) (fun c5 => ?_)
    · replace hR := ifp_ hR c5
      refine lv_bipush (v := (-13 : Int32)) hx hb dX10_lacksRow_50 (by decide) ?_
      subst hQe
      exact W.iret (v := (-13 : Int32)) hx hb hr (fun t ht hW => ⟨⟨(-13 : Int32), (), rfl, (Option.some.inj hR).symm, by rw [ht]; exact hP4, va_K.moved hW.alike hK, hD4⟩, hS4.F ht⟩) hS4.2.2 dX10_lacksRow_52
    · replace hR := ifn_ hR c5
      refine lv_iconst (v := (0 : Int32)) hx hb dX10_lacksRow_46 (by decide) ?_
      refine lv_goto (tgt := 52) hx hb dX10_lacksRow_47 (by decide) ?_
      subst hQe
      exact W.iret (v := (0 : Int32)) hx hb hr (fun t ht hW => ⟨⟨(0 : Int32), (), rfl, (Option.some.inj hR).symm, by rw [ht]; exact hP4, va_K.moved hW.alike hK, hD4⟩, hS4.F ht⟩) hS4.2.2 dX10_lacksRow_52
  · replace hR := ifn_ hR c2
    refine lv_aload_n hx hb dX10_lacksRow_10 rfl (lv_at hl 0 rfl) ?_
    refine va_get (D := (dC, dI)) (ci := 10) (v := .ref (a1 19)) (C := RX10) (T := TX10) (N := 35) hx hb hts hin10 hown hK hP 0 rfl rfl 32 (by decide) (hts (.fieldLink RX10 65 "OldestCoinsModel" "lanes" "[I") (List.mem_of_getElem? (i := 1) rfl)) (fun _ h9 => h9) rfl dX10_lacksRow_11 ?_
    refine lv_iload_n hx hb dX10_lacksRow_14 rfl (lv_at hl 1 rfl) ?_
    have i6 := (ck_ok hR).1
    replace hR := (ck_ok hR).2
    refine va_iald (f := s1.2.2.2.2.2.2.2.2.2.1) hx hb hK hP 19 18 rfl rfl i6 dX10_lacksRow_15 ?_
    refine lv_if_ge (tgt := 24) hx hb dX10_lacksRow_16 (by decide) (fun c7 => ?_) (fun c7 => ?_)
    · replace hR := ifp_ hR c7
      refine lv_bipush (v := (-12 : Int32)) hx hb dX10_lacksRow_24 (by decide) ?_
      subst hQe
      exact W.iret (v := (-12 : Int32)) hx hb hr (fun t ht hW => ⟨⟨(-12 : Int32), (), rfl, (Option.some.inj hR).symm, by rw [ht]; exact hP, va_K.moved hW.alike hK, hD⟩, hS.F ht⟩) hS.2.2 dX10_lacksRow_26
    · replace hR := ifn_ hR c7
      refine lv_bipush (v := (-11 : Int32)) hx hb dX10_lacksRow_19 (by decide) ?_
      refine lv_goto (tgt := 26) hx hb dX10_lacksRow_21 (by decide) ?_
      subst hQe
      exact W.iret (v := (-11 : Int32)) hx hb hr (fun t ht hW => ⟨⟨(-11 : Int32), (), rfl, (Option.some.inj hR).symm, by rw [ht]; exact hP, va_K.moved hW.alike hK, hD⟩, hS.F ht⟩) hS.2.2 dX10_lacksRow_26
def rr_X10_film_55_b (fu : Nat) (rec55 : Int32 → Int32 → Int32 → Int32 → ZT_10 → Option (Int32 × ZT_10)) (y2 : Int32) (y4 : Int32) (y5 : Int32) (y7 : Int32) (u1 : ZT_10) : Option (Int32 × ZT_10) := (if y5 ≤ y7 then some (y5, u1) else ck_ y7 40 (lt_ (α := Int64) (u1.2.2.2.1.1 y7.toNatClampNeg).toInt64 (fun z13 => ck_ ((((24 : Int32) * y2) + y4) + y7) 96 (lt_ (α := Int32) (y7 + (1 : Int32)) (fun z15 => rec55 y2 y4 y5 z15 (u1.1, u1.2.1, u1.2.2.1, u1.2.2.2.1, u1.2.2.2.2.1, u1.2.2.2.2.2.1, u1.2.2.2.2.2.2.1, u1.2.2.2.2.2.2.2.1, u1.2.2.2.2.2.2.2.2.1, (u1.2.2.2.2.2.2.2.2.2.1, u1.2.2.2.2.2.2.2.2.2.2.1, (vp_updL u1.2.2.2.2.2.2.2.2.2.2.2 ((((24 : Int32) * y2) + y4) + y7).toNatClampNeg z13))))))))
def rr_X10_film_55 (fu : Nat) (n : Nat) : Int32 → Int32 → Int32 → Int32 → ZT_10 → Option (Int32 × ZT_10) := lp_ (fun _ _ _ _ _ => none) (rr_X10_film_55_b fu) n
def rr_X10_film (fu : Nat) (x1 : Int32) (x2 : Int32) (x3 : Int32) (x4 : Int32) (s1 : ZT_10) : Option (Int32 × ZT_10) := (rr_X10_isHolder fu x1).bind (fun q1 => (if q1 = (0 : Int32) then some ((-1 : Int32), s1) else (rr_X10_isSheet fu x2 x3).bind (fun q3 => (if q3 = (0 : Int32) then some ((-1 : Int32), s1) else (rr_X10_findRow fu x1 s1.1.2.2.2.2.2.2 s1).bind (fun q5 => (rr_X10_lacksRow fu x2 x3 x4 q5.2.2.2.1.2 q5).bind (fun q7 => (if (0 : Int32) ≤ q7 then rr_X10_film_55 fu fu x2 x4 q5.2.2.2.1.2 (0 : Int32) q5 else some (q7, q5))))))))
set_option maxHeartbeats 4000000 in
set_option maxRecDepth 100000 in
theorem cc_X10_film (l : Launch) (dC : Nat → ClassId) (dI : Nat → Nat → Nat) (fu : Nat) (a1 : Nat → Nat) (k1 : Nat → ClassId) (sz : Nat) (x1 : Int32) (x2 : Int32) (x3 : Int32) (x4 : Int32) (s1 : ZT_10) (res : Int32 × ZT_10) (hR : rr_X10_film fu x1 x2 x3 x4 s1 = some res) : Met l yX10_film wsX10_film ({ frames := 4, cells := 0, slots := 0, locals := 91 } : Room) (PcF [.ref (a1 0), .int x1, .int x2, .int x3, .int x4] sz (dC, dI) (zc_10 a1 k1 s1) (zt_10 k1)) (va_Qi (fun (r : Int32) (u : ZT_10) => res = (r, u)) (fun u t => at3_ (dC, dI) (zc_10 a1 k1 u) (zt_10 k1) (va_A (zc_10 a1 k1 s1) sz) t) (va_A (zc_10 a1 k1 s1) sz)) 0 0 (va_A (zc_10 a1 k1 s1) sz) := by
  refine Met.ofW (cc := cX10_film) (maxL := 8) (ret := (some .int)) (by decide) rfl ?_
  intro p e s m args below meth c s₁ B hml hv
  obtain ⟨hav, hsz, hP, hK, hD0⟩ := hv
  have hx := B.exec
  have hb := B.bytes
  have hr := B.returns
  have hts := atoms_spec (ws := wsX10_film) B.pre
  have hown : s.vm.findClass RX10 = some m.cls := findClass_of_methodNamed B.named
  have hlocks := B.notSynchronized
  have hin10 : ∀ w ∈ wsX100, w ∈ wsX10_film := fun w h => List.mem_cons_of_mem _ (List.mem_append_right _ h)
  subst hsz
  have hD := hD0.self (sz := s.heap.size)
  clear hD0
  generalize hAe : va_A (zc_10 a1 k1 s1) s.heap.size = A at hD ⊢
  have hA : ∀ q : Nat, s.heap.size ≤ q → A q := fun q h => by rw [← hAe]; exact Or.inr h
  have hS : va_S A s.heap s.heap [] := va_S.rf
  generalize hQe : MQ below _ args s 0 0 A = Q
  rw [show entryFrame m args 8 = F0 m 0 ((lg_sl ([.ref (a1 0), .int x1, .int x2, .int x3, .int x4]) ++ List.replicate (8 - (lg_sl ([.ref (a1 0), .int x1, .int x2, .int x3, .int x4])).length) Slot.unset).toArray) [] from by rw [hav]; exact lg_entry_eq m _ _]
  have hl := lv_entry ([.ref (a1 0), .int x1, .int x2, .int x3, .int x4]) (n := 8) (Nat.le_of_ble_eq_true rfl)
  generalize (lg_sl ([.ref (a1 0), .int x1, .int x2, .int x3, .int x4]) ++ List.replicate (8 - (lg_sl ([.ref (a1 0), .int x1, .int x2, .int x3, .int x4])).length) Slot.unset).toArray = ls at hl ⊢
  have hl : lv_has ls 8 [(0, .ref (a1 0)), (1, .int x1), (2, .int x2), (3, .int x3), (4, .int x4)] := hl
  have hB55 : ∀ (n : Nat), ∀ (y2 : Int32) (y4 : Int32) (y5 : Int32) (y7 : Int32) (u1 : ZT_10) (H : Heap) (locs : List Loc) (ls : Array Slot), va_P (dC, dI) vwCl (zc_10 a1 k1 u1) H → va_D A (zc_10 a1 k1 u1) → va_S A s.heap H locs → lv_has ls 8 [(0, .ref (a1 0)), (2, .int y2), (4, .int y4), (5, .int y5), (7, .int y7)] → rr_X10_film_55 fu n y2 y4 y5 y7 u1 = some res → W p l e ({ frames := 4, cells := 0, slots := 0, locals := 91 } : Room) s m args below meth c H locs 0 0 Q (F0 m 55 ls []) := by
    intro  n
    induction n with
    | zero => intro y2 y4 y5 y7 u1 H locs ls hP hD hS hl hR; exact absurd hR (by intro h; cases h)
    | succ n ih =>
      intro y2 y4 y5 y7 u1 H locs ls hP hD hS hl hR
      replace hR : rr_X10_film_55_b fu (rr_X10_film_55 fu n) y2 y4 y5 y7 u1 = some res := hR
      unfold rr_X10_film_55_b at hR
      refine lv_iload hx hb dX10_film_55 (lv_at hl 4 rfl) ?_
      refine lv_iload hx hb dX10_film_57 (lv_at hl 3 rfl) ?_
      refine lv_icmp_ge (tgt := 91) hx hb dX10_film_59 (by decide) (fun c11 => ?_) (fun c11 => ?_)
      · replace hR := ifp_ hR c11
        refine lv_iload hx hb dX10_film_91 (lv_at hl 3 rfl) ?_
        subst hQe
        exact W.iret (v := y5) hx hb hr (fun t ht hW => ⟨⟨y5, u1, rfl, (Option.some.inj hR).symm, by rw [ht]; exact hP, va_K.moved hW.alike hK, hD⟩, hS.F ht⟩) hS.2.2 dX10_film_93
      · replace hR := ifn_ hR c11
        refine lv_aload_n hx hb dX10_film_62 rfl (lv_at hl 0 rfl) ?_
        refine va_get (D := (dC, dI)) (ci := 10) (v := .ref (a1 21)) (C := RX10) (T := TX10) (N := 35) hx hb hts hin10 hown hK hP 0 rfl rfl 34 (by decide) (hts (.fieldLink RX10 71 "OldestCoinsModel" "items" "[J") (List.mem_of_getElem? (i := 3) rfl)) (fun _ h9 => h9) rfl dX10_film_63 ?_
        refine lv_bipush (v := (24 : Int32)) hx hb dX10_film_66 (by decide) ?_
        refine lv_iload_n hx hb dX10_film_68 rfl (lv_at hl 1 rfl) ?_
        refine lv_imul hx hb dX10_film_69 ?_
        refine lv_iload hx hb dX10_film_70 (lv_at hl 2 rfl) ?_
        refine lv_iadd hx hb dX10_film_72 ?_
        refine lv_iload hx hb dX10_film_73 (lv_at hl 4 rfl) ?_
        refine lv_iadd hx hb dX10_film_75 ?_
        refine lv_aload_n hx hb dX10_film_76 rfl (lv_at hl 0 rfl) ?_
        refine va_get (D := (dC, dI)) (ci := 10) (v := .ref (a1 9)) (C := RX10) (T := TX10) (N := 35) hx hb hts hin10 hown hK hP 0 rfl rfl 12 (by decide) (hts (.fieldLink RX10 34 "OldestCoinsModel" "row" "[I") (List.mem_of_getElem? (i := 4) rfl)) (fun _ h9 => h9) rfl dX10_film_77 ?_
        refine lv_iload hx hb dX10_film_80 (lv_at hl 4 rfl) ?_
        have i12 := (ck_ok hR).1
        replace hR := (ck_ok hR).2
        refine va_iald (f := u1.2.2.2.1.1) hx hb hK hP 9 8 rfl rfl i12 dX10_film_82 ?_
        refine lv_i2l (v := (u1.2.2.2.1.1 y7.toNatClampNeg).toInt64) hx hb dX10_film_83 rfl ?_
        refine lv_topl (fun z13 ez13 => ?_)
        replace hR := lt_ok hR ez13
        have i14 := (ck_ok hR).1
        replace hR := (ck_ok hR).2
        refine va_last (f := u1.2.2.2.2.2.2.2.2.2.2.2) hx hb hK hP hD hS 21 20 rfl rfl i14 dX10_film_84 (fun H14 locs14 hP14 hD14 hS14 => ?_)
        have hP14 : va_P (dC, dI) vwCl (zc_10 a1 k1 (u1.1, u1.2.1, u1.2.2.1, u1.2.2.2.1, u1.2.2.2.2.1, u1.2.2.2.2.2.1, u1.2.2.2.2.2.2.1, u1.2.2.2.2.2.2.2.1, u1.2.2.2.2.2.2.2.2.1, (u1.2.2.2.2.2.2.2.2.2.1, u1.2.2.2.2.2.2.2.2.2.2.1, (vp_updL u1.2.2.2.2.2.2.2.2.2.2.2 ((((24 : Int32) * y2) + y4) + y7).toNatClampNeg z13)))) H14 := hP14
        have hD14 : va_D A (zc_10 a1 k1 (u1.1, u1.2.1, u1.2.2.1, u1.2.2.2.1, u1.2.2.2.2.1, u1.2.2.2.2.2.1, u1.2.2.2.2.2.2.1, u1.2.2.2.2.2.2.2.1, u1.2.2.2.2.2.2.2.2.1, (u1.2.2.2.2.2.2.2.2.2.1, u1.2.2.2.2.2.2.2.2.2.2.1, (vp_updL u1.2.2.2.2.2.2.2.2.2.2.2 ((((24 : Int32) * y2) + y4) + y7).toNatClampNeg z13)))) := hD14
        clear hP hD hS
        obtain ⟨z15, ez15⟩ : ∃ y : Int32, y = (y7 + (1 : Int32)) := ⟨_, rfl⟩
        replace hR := lt_ok hR ez15
        refine lv_iinc (v := z15) (lv' := [(7, .int z15), (0, .ref (a1 0)), (2, .int y2), (4, .int y4), (5, .int y5)]) hx hb dX10_film_85 hl (k := 4) rfl (by rw [ez15]; rfl) (by decide) rfl (fun ls15 hl15 => ?_)
        refine lv_goto (tgt := 55) hx hb dX10_film_88 (by decide) ?_
        exact ih y2 y4 y5 z15 (u1.1, u1.2.1, u1.2.2.1, u1.2.2.2.1, u1.2.2.2.2.1, u1.2.2.2.2.2.1, u1.2.2.2.2.2.2.1, u1.2.2.2.2.2.2.2.1, u1.2.2.2.2.2.2.2.2.1, (u1.2.2.2.2.2.2.2.2.2.1, u1.2.2.2.2.2.2.2.2.2.2.1, (vp_updL u1.2.2.2.2.2.2.2.2.2.2.2 ((((24 : Int32) * y2) + y4) + y7).toNatClampNeg z13))) H14 locs14 ls15 hP14 hD14 hS14 (lv_sub hl15 [1, 2, 3, 4, 0] rfl) hR
  unfold rr_X10_film at hR
  refine lv_iload_n hx hb dX10_film_0 rfl (lv_at hl 1 rfl) ?_
  have hR0 := ob_ok hR
  clear hR
  obtain ⟨q1, hq1, hR⟩ := hR0
  refine va_calli (va_runS (As := [.int x1]) (rest := []) ⟨hx, hb, hml, hown, hts⟩ (cc_X10_isHolder l dC dI fu s.heap.size x1 q1 hq1) (va_cwS 1 hts gX10_film_X10_isHolder rfl rfl rfl (by decide +kernel) ⟨Nat.le_of_ble_eq_true rfl, Nat.le_of_ble_eq_true rfl⟩) (pf_s (nil_K hK) nil_P (nil_D (A := A))) rfl rfl hl.1 rfl (lv_room (Nat.le_of_ble_eq_true rfl)) dX10_film_1 ⟨Nat.le_refl _, Nat.le_refl _⟩) hS (fun q _ h => (fr_none hS hA) q h) (fr_none hS hA) (fun r1 v1 t1 H1 locs1 ht1 hvm1 hw1 hB1 hz1 hk1 hS1 => ?_)
  subst hw1
  have hP1 := jn_none hP hk1
  have hD1 := hD
  have hP1 : va_P (dC, dI) vwCl (zc_10 a1 k1 s1) H1 := hP1
  have hD1 : va_D A (zc_10 a1 k1 s1) := hD1
  clear hP hD hS hB1 hk1 hvm1 hz1 ht1
  refine lv_if_eq (tgt := 15) hx hb dX10_film_4 (by decide) (fun c2 => ?_) (fun c2 => ?_)
  · replace hR := ifp_ hR c2
    refine lv_iconst (v := (-1 : Int32)) hx hb dX10_film_15 (by decide) ?_
    subst hQe
    exact W.iret (v := (-1 : Int32)) hx hb hr (fun t ht hW => ⟨⟨(-1 : Int32), s1, rfl, (Option.some.inj hR).symm, by rw [ht]; exact hP1, va_K.moved hW.alike hK, hD1⟩, hS1.F ht⟩) hS1.2.2 dX10_film_16
  · replace hR := ifn_ hR c2
    refine lv_iload_n hx hb dX10_film_7 rfl (lv_at hl 2 rfl) ?_
    refine lv_iload_n hx hb dX10_film_8 rfl (lv_at hl 3 rfl) ?_
    have hR0 := ob_ok hR
    clear hR
    obtain ⟨q3, hq3, hR⟩ := hR0
    refine va_calli (va_runS (As := [.int x2, .int x3]) (rest := []) ⟨hx, hb, hml, hown, hts⟩ (cc_X10_isSheet l dC dI fu H1.size x2 x3 q3 hq3) (va_cwS 2 hts gX10_film_X10_isSheet rfl rfl rfl (by decide +kernel) ⟨Nat.le_of_ble_eq_true rfl, Nat.le_of_ble_eq_true rfl⟩) (pf_s (nil_K hK) nil_P (nil_D (A := A))) rfl rfl hl.1 rfl (lv_room (Nat.le_of_ble_eq_true rfl)) dX10_film_9 ⟨Nat.le_refl _, Nat.le_refl _⟩) hS1 (fun q _ h => (fr_none hS1 hA) q h) (fr_none hS1 hA) (fun r3 v3 t3 H3 locs3 ht3 hvm3 hw3 hB3 hz3 hk3 hS3 => ?_)
    subst hw3
    have hP3 := jn_none hP1 hk3
    have hD3 := hD1
    have hP3 : va_P (dC, dI) vwCl (zc_10 a1 k1 s1) H3 := hP3
    have hD3 : va_D A (zc_10 a1 k1 s1) := hD3
    clear hP1 hD1 hS1 hB3 hk3 hvm3 hz3 ht3
    refine lv_if_ne (tgt := 17) hx hb dX10_film_12 (by decide) (fun c4 => ?_) (fun c4 => ?_)
    · replace hR := ifn_ hR c4
      refine lv_aload_n hx hb dX10_film_17 rfl (lv_at hl 0 rfl) ?_
      refine lv_iload_n hx hb dX10_film_18 rfl (lv_at hl 1 rfl) ?_
      refine lv_aload_n hx hb dX10_film_19 rfl (lv_at hl 0 rfl) ?_
      refine va_get (D := (dC, dI)) (ci := 10) (v := .int s1.1.2.2.2.2.2.2) (C := RX10) (T := TX10) (N := 35) hx hb hts hin10 hown hK hP3 0 rfl rfl 6 (by decide) (hts (.fieldLink RX10 111 "OldestCoinsModel" "law" "I") (List.mem_of_getElem? (i := 1) rfl)) (fun _ h9 => h9) rfl dX10_film_20 ?_
      have hR0 := ob_ok hR
      clear hR
      obtain ⟨q5, hq5, hR⟩ := hR0
      refine va_callv (va_runV (As := [.int x1, .int s1.1.2.2.2.2.2.2]) (rest := []) ⟨hx, hb, hml, hown, hts⟩ (cc_X10_findRow l dC dI fu a1 k1 H3.size x1 s1.1.2.2.2.2.2.2 s1 q5 hq5) (cwV 2 hts gX10_film_X10_findRow rfl rfl rfl (by decide +kernel) ⟨Nat.le_of_ble_eq_true rfl, Nat.le_of_ble_eq_true rfl⟩) (pf_v hK hP3 hD3 10 0 rfl rfl rfl) rfl rfl hl.1 rfl (lv_room (Nat.le_of_ble_eq_true rfl)) dX10_film_23 ⟨Nat.le_refl _, Nat.le_refl _⟩) hS3 (fun q _ h => (fr_all hD3 hS3 hA) q h) (fr_all hD3 hS3 hA) (fun v5 t5 H5 locs5 ht5 hvm5 hw5 hB5 hz5 hk5 hS5 => ?_)
      subst hw5
      obtain ⟨hP5, hD5⟩ := jn_all hD3 hS3 hA ht5 hB5
      have hP5 : va_P (dC, dI) vwCl (zc_10 a1 k1 q5) H5 := hP5
      have hD5 : va_D A (zc_10 a1 k1 q5) := hD5
      clear hP3 hD3 hS3 hB5 hk5 hvm5 hz5 ht5
      refine lv_aload_n hx hb dX10_film_26 rfl (lv_at hl 0 rfl) ?_
      refine va_get (D := (dC, dI)) (ci := 10) (v := .int q5.2.2.2.1.2) (C := RX10) (T := TX10) (N := 35) hx hb hts hin10 hown hK hP5 0 rfl rfl 13 (by decide) (hts (.fieldLink RX10 114 "OldestCoinsModel" "rowSize" "I") (List.mem_of_getElem? (i := 2) rfl)) (fun _ h9 => h9) rfl dX10_film_27 ?_
      refine lv_istore (lv' := [(5, .int q5.2.2.2.1.2), (0, .ref (a1 0)), (1, .int x1), (2, .int x2), (3, .int x3), (4, .int x4)]) hx hb dX10_film_30 hl (by decide) rfl (fun ls6 hl6 => ?_)
      refine lv_aload_n hx hb dX10_film_32 rfl (lv_at hl6 1 rfl) ?_
      refine lv_iload_n hx hb dX10_film_33 rfl (lv_at hl6 3 rfl) ?_
      refine lv_iload_n hx hb dX10_film_34 rfl (lv_at hl6 4 rfl) ?_
      refine lv_iload hx hb dX10_film_35 (lv_at hl6 5 rfl) ?_
      refine lv_iload hx hb dX10_film_37 (lv_at hl6 0 rfl) ?_
      have hR0 := ob_ok hR
      clear hR
      obtain ⟨q7, hq7, hR⟩ := hR0
      refine va_calli (va_runV (As := [.int x2, .int x3, .int x4, .int q5.2.2.2.1.2]) (rest := []) ⟨hx, hb, hml, hown, hts⟩ (cc_X10_lacksRow l dC dI fu a1 k1 H5.size x2 x3 x4 q5.2.2.2.1.2 q5 q7 hq7) (cwV 4 hts gX10_film_X10_lacksRow rfl rfl rfl (by decide +kernel) ⟨Nat.le_of_ble_eq_true rfl, Nat.le_of_ble_eq_true rfl⟩) (pf_v hK hP5 hD5 10 0 rfl rfl rfl) rfl rfl hl6.1 rfl (lv_room (Nat.le_of_ble_eq_true rfl)) dX10_film_39 ⟨Nat.le_refl _, Nat.le_refl _⟩) hS5 (fun q _ h => (fr_all hD5 hS5 hA) q h) (fr_all hD5 hS5 hA) (fun r7 v7 t7 H7 locs7 ht7 hvm7 hw7 hB7 hz7 hk7 hS7 => ?_)
      subst hw7
      obtain ⟨hP7, hD7⟩ := jn_all hD5 hS5 hA ht7 hB7
      have hP7 : va_P (dC, dI) vwCl (zc_10 a1 k1 q5) H7 := hP7
      have hD7 : va_D A (zc_10 a1 k1 q5) := hD7
      clear hP5 hD5 hS5 hB7 hk7 hvm7 hz7 ht7
      refine lv_istore (lv' := [(6, .int q7), (5, .int q5.2.2.2.1.2), (0, .ref (a1 0)), (1, .int x1), (2, .int x2), (3, .int x3), (4, .int x4)]) hx hb dX10_film_42 hl6 (by decide) rfl (fun ls8 hl8 => ?_)
      refine lv_iload hx hb dX10_film_44 (lv_at hl8 0 rfl) ?_
      refine lv_if_ge (tgt := 52) hx hb dX10_film_46 (by decide) (fun c9 => ?_) (fun c9 => ?_)
      · replace hR := ifp_ hR c9
        refine lv_iconst (v := (0 : Int32)) hx hb dX10_film_52 (by decide) ?_
        refine lv_istore (lv' := [(7, .int (0 : Int32)), (6, .int q7), (5, .int q5.2.2.2.1.2), (0, .ref (a1 0)), (1, .int x1), (2, .int x2), (3, .int x3), (4, .int x4)]) hx hb dX10_film_53 hl8 (by decide) rfl (fun ls10 hl10 => ?_)
        exact hB55 fu x2 x4 q5.2.2.2.1.2 (0 : Int32) q5 H7 locs7 ls10 hP7 hD7 hS7 (lv_sub hl10 [3, 5, 7, 2, 0] rfl) hR
      · replace hR := ifn_ hR c9
        refine lv_iload hx hb dX10_film_49 (lv_at hl8 0 rfl) ?_
        subst hQe
        exact W.iret (v := q7) hx hb hr (fun t ht hW => ⟨⟨q7, q5, rfl, (Option.some.inj hR).symm, by rw [ht]; exact hP7, va_K.moved hW.alike hK, hD7⟩, hS7.F ht⟩) hS7.2.2 dX10_film_51
    · replace hR := ifp_ hR c4
      refine lv_iconst (v := (-1 : Int32)) hx hb dX10_film_15 (by decide) ?_
      subst hQe
      exact W.iret (v := (-1 : Int32)) hx hb hr (fun t ht hW => ⟨⟨(-1 : Int32), s1, rfl, (Option.some.inj hR).symm, by rw [ht]; exact hP3, va_K.moved hW.alike hK, hD3⟩, hS3.F ht⟩) hS3.2.2 dX10_film_16
def rr_X10_item (fu : Nat) (x1 : Int32) (x2 : Int32) (x3 : Int32) (x4 : Int64) (s1 : ZT_10) : Option (Int32 × ZT_10) := (rr_X10_isSheet fu x1 x2).bind (fun q1 => (if q1 = (0 : Int32) then some ((-1 : Int32), s1) else (rr_X10_lacksRow fu x1 x2 x3 (1 : Int32) s1).bind (fun q3 => (if (0 : Int32) ≤ q3 then (if x2 = (0 : Int32) then lt_ (α := Int64) ((x4 <<< ((56 : Int32).toInt64 &&& 63)) >>> ((56 : Int32).toInt64 &&& 63)) (fun z11 => ck_ (((24 : Int32) * x1) + x3) 96 (some ((1 : Int32), (s1.1, s1.2.1, s1.2.2.1, s1.2.2.2.1, s1.2.2.2.2.1, s1.2.2.2.2.2.1, s1.2.2.2.2.2.2.1, s1.2.2.2.2.2.2.2.1, s1.2.2.2.2.2.2.2.2.1, (s1.2.2.2.2.2.2.2.2.2.1, s1.2.2.2.2.2.2.2.2.2.2.1, (vp_updL s1.2.2.2.2.2.2.2.2.2.2.2 (((24 : Int32) * x1) + x3).toNatClampNeg z11)))))) else (if x2 = (1 : Int32) then lt_ (α := Int64) ((x4 <<< ((32 : Int32).toInt64 &&& 63)) >>> ((32 : Int32).toInt64 &&& 63)) (fun z9 => ck_ (((24 : Int32) * x1) + x3) 96 (some ((1 : Int32), (s1.1, s1.2.1, s1.2.2.1, s1.2.2.2.1, s1.2.2.2.2.1, s1.2.2.2.2.2.1, s1.2.2.2.2.2.2.1, s1.2.2.2.2.2.2.2.1, s1.2.2.2.2.2.2.2.2.1, (s1.2.2.2.2.2.2.2.2.2.1, s1.2.2.2.2.2.2.2.2.2.2.1, (vp_updL s1.2.2.2.2.2.2.2.2.2.2.2 (((24 : Int32) * x1) + x3).toNatClampNeg z9)))))) else ck_ (((24 : Int32) * x1) + x3) 96 (some ((1 : Int32), (s1.1, s1.2.1, s1.2.2.1, s1.2.2.2.1, s1.2.2.2.2.1, s1.2.2.2.2.2.1, s1.2.2.2.2.2.2.1, s1.2.2.2.2.2.2.2.1, s1.2.2.2.2.2.2.2.2.1, (s1.2.2.2.2.2.2.2.2.2.1, s1.2.2.2.2.2.2.2.2.2.2.1, (vp_updL s1.2.2.2.2.2.2.2.2.2.2.2 (((24 : Int32) * x1) + x3).toNatClampNeg x4))))))) else some (q3, s1)))))
set_option maxHeartbeats 4000000 in
set_option maxRecDepth 100000 in
theorem cc_X10_item (l : Launch) (dC : Nat → ClassId) (dI : Nat → Nat → Nat) (fu : Nat) (a1 : Nat → Nat) (k1 : Nat → ClassId) (sz : Nat) (x1 : Int32) (x2 : Int32) (x3 : Int32) (x4 : Int64) (s1 : ZT_10) (res : Int32 × ZT_10) (hR : rr_X10_item fu x1 x2 x3 x4 s1 = some res) : Met l yX10_item wsX10_item ({ frames := 2, cells := 0, slots := 0, locals := 49 } : Room) (PcF [.ref (a1 0), .int x1, .int x2, .int x3, .long x4] sz (dC, dI) (zc_10 a1 k1 s1) (zt_10 k1)) (va_Qi (fun (r : Int32) (u : ZT_10) => res = (r, u)) (fun u t => at3_ (dC, dI) (zc_10 a1 k1 u) (zt_10 k1) (va_A (zc_10 a1 k1 s1) sz) t) (va_A (zc_10 a1 k1 s1) sz)) 0 0 (va_A (zc_10 a1 k1 s1) sz) := by
  refine Met.ofW (cc := cX10_item) (maxL := 7) (ret := (some .int)) (by decide) rfl ?_
  intro p e s m args below meth c s₁ B hml hv
  obtain ⟨hav, hsz, hP, hK, hD0⟩ := hv
  have hx := B.exec
  have hb := B.bytes
  have hr := B.returns
  have hts := atoms_spec (ws := wsX10_item) B.pre
  have hown : s.vm.findClass RX10 = some m.cls := findClass_of_methodNamed B.named
  have hlocks := B.notSynchronized
  have hin10 : ∀ w ∈ wsX100, w ∈ wsX10_item := fun w h => List.mem_cons_of_mem _ (List.mem_append_right _ h)
  subst hsz
  have hD := hD0.self (sz := s.heap.size)
  clear hD0
  generalize hAe : va_A (zc_10 a1 k1 s1) s.heap.size = A at hD ⊢
  have hA : ∀ q : Nat, s.heap.size ≤ q → A q := fun q h => by rw [← hAe]; exact Or.inr h
  have hS : va_S A s.heap s.heap [] := va_S.rf
  generalize hQe : MQ below _ args s 0 0 A = Q
  rw [show entryFrame m args 7 = F0 m 0 ((lg_sl ([.ref (a1 0), .int x1, .int x2, .int x3, .long x4]) ++ List.replicate (7 - (lg_sl ([.ref (a1 0), .int x1, .int x2, .int x3, .long x4])).length) Slot.unset).toArray) [] from by rw [hav]; exact lg_entry_eq m _ _]
  have hl := lv_entry ([.ref (a1 0), .int x1, .int x2, .int x3, .long x4]) (n := 7) (Nat.le_of_ble_eq_true rfl)
  generalize (lg_sl ([.ref (a1 0), .int x1, .int x2, .int x3, .long x4]) ++ List.replicate (7 - (lg_sl ([.ref (a1 0), .int x1, .int x2, .int x3, .long x4])).length) Slot.unset).toArray = ls at hl ⊢
  have hl : lv_has ls 7 [(0, .ref (a1 0)), (1, .int x1), (2, .int x2), (3, .int x3), (4, .long x4)] := hl
  unfold rr_X10_item at hR
  refine lv_iload_n hx hb dX10_item_0 rfl (lv_at hl 1 rfl) ?_
  refine lv_iload_n hx hb dX10_item_1 rfl (lv_at hl 2 rfl) ?_
  have hR0 := ob_ok hR
  clear hR
  obtain ⟨q1, hq1, hR⟩ := hR0
  refine va_calli (va_runS (As := [.int x1, .int x2]) (rest := []) ⟨hx, hb, hml, hown, hts⟩ (cc_X10_isSheet l dC dI fu s.heap.size x1 x2 q1 hq1) (va_cwS 2 hts gX10_item_X10_isSheet rfl rfl rfl (by decide +kernel) ⟨Nat.le_of_ble_eq_true rfl, Nat.le_of_ble_eq_true rfl⟩) (pf_s (nil_K hK) nil_P (nil_D (A := A))) rfl rfl hl.1 rfl (lv_room (Nat.le_of_ble_eq_true rfl)) dX10_item_2 ⟨Nat.le_refl _, Nat.le_refl _⟩) hS (fun q _ h => (fr_none hS hA) q h) (fr_none hS hA) (fun r1 v1 t1 H1 locs1 ht1 hvm1 hw1 hB1 hz1 hk1 hS1 => ?_)
  subst hw1
  have hP1 := jn_none hP hk1
  have hD1 := hD
  have hP1 : va_P (dC, dI) vwCl (zc_10 a1 k1 s1) H1 := hP1
  have hD1 : va_D A (zc_10 a1 k1 s1) := hD1
  clear hP hD hS hB1 hk1 hvm1 hz1 ht1
  refine lv_if_ne (tgt := 10) hx hb dX10_item_5 (by decide) (fun c2 => ?_) (fun c2 => ?_)
  · replace hR := ifn_ hR c2
    refine lv_aload_n hx hb dX10_item_10 rfl (lv_at hl 0 rfl) ?_
    refine lv_iload_n hx hb dX10_item_11 rfl (lv_at hl 1 rfl) ?_
    refine lv_iload_n hx hb dX10_item_12 rfl (lv_at hl 2 rfl) ?_
    refine lv_iload_n hx hb dX10_item_13 rfl (lv_at hl 3 rfl) ?_
    refine lv_iconst (v := (1 : Int32)) hx hb dX10_item_14 (by decide) ?_
    have hR0 := ob_ok hR
    clear hR
    obtain ⟨q3, hq3, hR⟩ := hR0
    refine va_calli (va_runV (As := [.int x1, .int x2, .int x3, .int (1 : Int32)]) (rest := []) ⟨hx, hb, hml, hown, hts⟩ (cc_X10_lacksRow l dC dI fu a1 k1 H1.size x1 x2 x3 (1 : Int32) s1 q3 hq3) (cwV 4 hts gX10_item_X10_lacksRow rfl rfl rfl (by decide +kernel) ⟨Nat.le_of_ble_eq_true rfl, Nat.le_of_ble_eq_true rfl⟩) (pf_v hK hP1 hD1 10 0 rfl rfl rfl) rfl rfl hl.1 rfl (lv_room (Nat.le_of_ble_eq_true rfl)) dX10_item_15 ⟨Nat.le_refl _, Nat.le_refl _⟩) hS1 (fun q _ h => (fr_all hD1 hS1 hA) q h) (fr_all hD1 hS1 hA) (fun r3 v3 t3 H3 locs3 ht3 hvm3 hw3 hB3 hz3 hk3 hS3 => ?_)
    subst hw3
    obtain ⟨hP3, hD3⟩ := jn_all hD1 hS1 hA ht3 hB3
    have hP3 : va_P (dC, dI) vwCl (zc_10 a1 k1 s1) H3 := hP3
    have hD3 : va_D A (zc_10 a1 k1 s1) := hD3
    clear hP1 hD1 hS1 hB3 hk3 hvm3 hz3 ht3
    refine lv_istore (lv' := [(6, .int q3), (0, .ref (a1 0)), (1, .int x1), (2, .int x2), (3, .int x3), (4, .long x4)]) hx hb dX10_item_18 hl (by decide) rfl (fun ls4 hl4 => ?_)
    refine lv_iload hx hb dX10_item_20 (lv_at hl4 0 rfl) ?_
    refine lv_if_ge (tgt := 28) hx hb dX10_item_22 (by decide) (fun c5 => ?_) (fun c5 => ?_)
    · replace hR := ifp_ hR c5
      refine lv_aload_n hx hb dX10_item_28 rfl (lv_at hl4 1 rfl) ?_
      refine va_get (D := (dC, dI)) (ci := 10) (v := .ref (a1 21)) (C := RX10) (T := TX10) (N := 35) hx hb hts hin10 hown hK hP3 0 rfl rfl 34 (by decide) (hts (.fieldLink RX10 71 "OldestCoinsModel" "items" "[J") (List.mem_of_getElem? (i := 1) rfl)) (fun _ h9 => h9) rfl dX10_item_29 ?_
      refine lv_bipush (v := (24 : Int32)) hx hb dX10_item_32 (by decide) ?_
      refine lv_iload_n hx hb dX10_item_34 rfl (lv_at hl4 2 rfl) ?_
      refine lv_imul hx hb dX10_item_35 ?_
      refine lv_iload_n hx hb dX10_item_36 rfl (lv_at hl4 4 rfl) ?_
      refine lv_iadd hx hb dX10_item_37 ?_
      refine lv_iload_n hx hb dX10_item_38 rfl (lv_at hl4 3 rfl) ?_
      refine lv_if_ne (tgt := 53) hx hb dX10_item_39 (by decide) (fun c6 => ?_) (fun c6 => ?_)
      · replace hR := ifn_ hR c6
        refine lv_iload_n hx hb dX10_item_53 rfl (lv_at hl4 3 rfl) ?_
        refine lv_iconst (v := (1 : Int32)) hx hb dX10_item_54 (by decide) ?_
        refine lv_icmp_ne (tgt := 69) hx hb dX10_item_55 (by decide) (fun c7 => ?_) (fun c7 => ?_)
        · replace hR := ifn_ hR c7
          refine lv_lload hx hb dX10_item_69 (lv_at hl4 5 rfl) ?_
          have i8 := (ck_ok hR).1
          replace hR := (ck_ok hR).2
          refine va_last (f := s1.2.2.2.2.2.2.2.2.2.2.2) hx hb hK hP3 hD3 hS3 21 20 rfl rfl i8 dX10_item_71 (fun H8 locs8 hP8 hD8 hS8 => ?_)
          have hP8 : va_P (dC, dI) vwCl (zc_10 a1 k1 (s1.1, s1.2.1, s1.2.2.1, s1.2.2.2.1, s1.2.2.2.2.1, s1.2.2.2.2.2.1, s1.2.2.2.2.2.2.1, s1.2.2.2.2.2.2.2.1, s1.2.2.2.2.2.2.2.2.1, (s1.2.2.2.2.2.2.2.2.2.1, s1.2.2.2.2.2.2.2.2.2.2.1, (vp_updL s1.2.2.2.2.2.2.2.2.2.2.2 (((24 : Int32) * x1) + x3).toNatClampNeg x4)))) H8 := hP8
          have hD8 : va_D A (zc_10 a1 k1 (s1.1, s1.2.1, s1.2.2.1, s1.2.2.2.1, s1.2.2.2.2.1, s1.2.2.2.2.2.1, s1.2.2.2.2.2.2.1, s1.2.2.2.2.2.2.2.1, s1.2.2.2.2.2.2.2.2.1, (s1.2.2.2.2.2.2.2.2.2.1, s1.2.2.2.2.2.2.2.2.2.2.1, (vp_updL s1.2.2.2.2.2.2.2.2.2.2.2 (((24 : Int32) * x1) + x3).toNatClampNeg x4)))) := hD8
          clear hP3 hD3 hS3
          refine lv_iconst (v := (1 : Int32)) hx hb dX10_item_72 (by decide) ?_
          subst hQe
          exact W.iret (v := (1 : Int32)) hx hb hr (fun t ht hW => ⟨⟨(1 : Int32), (s1.1, s1.2.1, s1.2.2.1, s1.2.2.2.1, s1.2.2.2.2.1, s1.2.2.2.2.2.1, s1.2.2.2.2.2.2.1, s1.2.2.2.2.2.2.2.1, s1.2.2.2.2.2.2.2.2.1, (s1.2.2.2.2.2.2.2.2.2.1, s1.2.2.2.2.2.2.2.2.2.2.1, (vp_updL s1.2.2.2.2.2.2.2.2.2.2.2 (((24 : Int32) * x1) + x3).toNatClampNeg x4))), rfl, (Option.some.inj hR).symm, by rw [ht]; exact hP8, va_K.moved hW.alike hK, hD8⟩, hS8.F ht⟩) hS8.2.2 dX10_item_73
        · replace hR := ifp_ hR c7
          refine lv_lload hx hb dX10_item_58 (lv_at hl4 5 rfl) ?_
          refine lv_bipush (v := (32 : Int32)) hx hb dX10_item_60 (by decide) ?_
          refine lv_lshl (v := (x4 <<< ((32 : Int32).toInt64 &&& 63))) hx hb dX10_item_62 rfl ?_
          refine lv_bipush (v := (32 : Int32)) hx hb dX10_item_63 (by decide) ?_
          refine lv_lshr (v := ((x4 <<< ((32 : Int32).toInt64 &&& 63)) >>> ((32 : Int32).toInt64 &&& 63))) hx hb dX10_item_65 rfl ?_
          refine lv_goto (tgt := 71) hx hb dX10_item_66 (by decide) ?_
          refine lv_topl (fun z9 ez9 => ?_)
          replace hR := lt_ok hR ez9
          have i10 := (ck_ok hR).1
          replace hR := (ck_ok hR).2
          refine va_last (f := s1.2.2.2.2.2.2.2.2.2.2.2) hx hb hK hP3 hD3 hS3 21 20 rfl rfl i10 dX10_item_71 (fun H10 locs10 hP10 hD10 hS10 => ?_)
          have hP10 : va_P (dC, dI) vwCl (zc_10 a1 k1 (s1.1, s1.2.1, s1.2.2.1, s1.2.2.2.1, s1.2.2.2.2.1, s1.2.2.2.2.2.1, s1.2.2.2.2.2.2.1, s1.2.2.2.2.2.2.2.1, s1.2.2.2.2.2.2.2.2.1, (s1.2.2.2.2.2.2.2.2.2.1, s1.2.2.2.2.2.2.2.2.2.2.1, (vp_updL s1.2.2.2.2.2.2.2.2.2.2.2 (((24 : Int32) * x1) + x3).toNatClampNeg z9)))) H10 := hP10
          have hD10 : va_D A (zc_10 a1 k1 (s1.1, s1.2.1, s1.2.2.1, s1.2.2.2.1, s1.2.2.2.2.1, s1.2.2.2.2.2.1, s1.2.2.2.2.2.2.1, s1.2.2.2.2.2.2.2.1, s1.2.2.2.2.2.2.2.2.1, (s1.2.2.2.2.2.2.2.2.2.1, s1.2.2.2.2.2.2.2.2.2.2.1, (vp_updL s1.2.2.2.2.2.2.2.2.2.2.2 (((24 : Int32) * x1) + x3).toNatClampNeg z9)))) := hD10
          clear hP3 hD3 hS3
          refine lv_iconst (v := (1 : Int32)) hx hb dX10_item_72 (by decide) ?_
          subst hQe
          exact W.iret (v := (1 : Int32)) hx hb hr (fun t ht hW => ⟨⟨(1 : Int32), (s1.1, s1.2.1, s1.2.2.1, s1.2.2.2.1, s1.2.2.2.2.1, s1.2.2.2.2.2.1, s1.2.2.2.2.2.2.1, s1.2.2.2.2.2.2.2.1, s1.2.2.2.2.2.2.2.2.1, (s1.2.2.2.2.2.2.2.2.2.1, s1.2.2.2.2.2.2.2.2.2.2.1, (vp_updL s1.2.2.2.2.2.2.2.2.2.2.2 (((24 : Int32) * x1) + x3).toNatClampNeg z9))), rfl, (Option.some.inj hR).symm, by rw [ht]; exact hP10, va_K.moved hW.alike hK, hD10⟩, hS10.F ht⟩) hS10.2.2 dX10_item_73
      · replace hR := ifp_ hR c6
        refine lv_lload hx hb dX10_item_42 (lv_at hl4 5 rfl) ?_
        refine lv_bipush (v := (56 : Int32)) hx hb dX10_item_44 (by decide) ?_
        refine lv_lshl (v := (x4 <<< ((56 : Int32).toInt64 &&& 63))) hx hb dX10_item_46 rfl ?_
        refine lv_bipush (v := (56 : Int32)) hx hb dX10_item_47 (by decide) ?_
        refine lv_lshr (v := ((x4 <<< ((56 : Int32).toInt64 &&& 63)) >>> ((56 : Int32).toInt64 &&& 63))) hx hb dX10_item_49 rfl ?_
        refine lv_goto (tgt := 71) hx hb dX10_item_50 (by decide) ?_
        refine lv_topl (fun z11 ez11 => ?_)
        replace hR := lt_ok hR ez11
        have i12 := (ck_ok hR).1
        replace hR := (ck_ok hR).2
        refine va_last (f := s1.2.2.2.2.2.2.2.2.2.2.2) hx hb hK hP3 hD3 hS3 21 20 rfl rfl i12 dX10_item_71 (fun H12 locs12 hP12 hD12 hS12 => ?_)
        have hP12 : va_P (dC, dI) vwCl (zc_10 a1 k1 (s1.1, s1.2.1, s1.2.2.1, s1.2.2.2.1, s1.2.2.2.2.1, s1.2.2.2.2.2.1, s1.2.2.2.2.2.2.1, s1.2.2.2.2.2.2.2.1, s1.2.2.2.2.2.2.2.2.1, (s1.2.2.2.2.2.2.2.2.2.1, s1.2.2.2.2.2.2.2.2.2.2.1, (vp_updL s1.2.2.2.2.2.2.2.2.2.2.2 (((24 : Int32) * x1) + x3).toNatClampNeg z11)))) H12 := hP12
        have hD12 : va_D A (zc_10 a1 k1 (s1.1, s1.2.1, s1.2.2.1, s1.2.2.2.1, s1.2.2.2.2.1, s1.2.2.2.2.2.1, s1.2.2.2.2.2.2.1, s1.2.2.2.2.2.2.2.1, s1.2.2.2.2.2.2.2.2.1, (s1.2.2.2.2.2.2.2.2.2.1, s1.2.2.2.2.2.2.2.2.2.2.1, (vp_updL s1.2.2.2.2.2.2.2.2.2.2.2 (((24 : Int32) * x1) + x3).toNatClampNeg z11)))) := hD12
        clear hP3 hD3 hS3
        refine lv_iconst (v := (1 : Int32)) hx hb dX10_item_72 (by decide) ?_
        subst hQe
        exact W.iret (v := (1 : Int32)) hx hb hr (fun t ht hW => ⟨⟨(1 : Int32), (s1.1, s1.2.1, s1.2.2.1, s1.2.2.2.1, s1.2.2.2.2.1, s1.2.2.2.2.2.1, s1.2.2.2.2.2.2.1, s1.2.2.2.2.2.2.2.1, s1.2.2.2.2.2.2.2.2.1, (s1.2.2.2.2.2.2.2.2.2.1, s1.2.2.2.2.2.2.2.2.2.2.1, (vp_updL s1.2.2.2.2.2.2.2.2.2.2.2 (((24 : Int32) * x1) + x3).toNatClampNeg z11))), rfl, (Option.some.inj hR).symm, by rw [ht]; exact hP12, va_K.moved hW.alike hK, hD12⟩, hS12.F ht⟩) hS12.2.2 dX10_item_73
    · replace hR := ifn_ hR c5
      refine lv_iload hx hb dX10_item_25 (lv_at hl4 0 rfl) ?_
      subst hQe
      exact W.iret (v := q3) hx hb hr (fun t ht hW => ⟨⟨q3, s1, rfl, (Option.some.inj hR).symm, by rw [ht]; exact hP3, va_K.moved hW.alike hK, hD3⟩, hS3.F ht⟩) hS3.2.2 dX10_item_27
  · replace hR := ifp_ hR c2
    refine lv_iconst (v := (-1 : Int32)) hx hb dX10_item_8 (by decide) ?_
    subst hQe
    exact W.iret (v := (-1 : Int32)) hx hb hr (fun t ht hW => ⟨⟨(-1 : Int32), s1, rfl, (Option.some.inj hR).symm, by rw [ht]; exact hP1, va_K.moved hW.alike hK, hD1⟩, hS1.F ht⟩) hS1.2.2 dX10_item_9
def rr_X10_drop (fu : Nat) (x1 : Int32) (s1 : ZT_10) : Option (Int32 × ZT_10) := (rr_X10_in fu x1.toInt64 (0 : Int64) (3 : Int64)).bind (fun q1 => (if q1 = (0 : Int32) then some ((-1 : Int32), s1) else ck_ x1 4 ((if (0 : Int32) ≤ (s1.2.2.2.2.2.2.2.2.2.1 x1.toNatClampNeg) then ck_ x1 4 (ck_ x1 4 (some ((s1.2.2.2.2.2.2.2.2.2.2.1 x1.toNatClampNeg), (s1.1, s1.2.1, s1.2.2.1, s1.2.2.2.1, s1.2.2.2.2.1, s1.2.2.2.2.2.1, s1.2.2.2.2.2.2.1, s1.2.2.2.2.2.2.2.1, s1.2.2.2.2.2.2.2.2.1, ((upd s1.2.2.2.2.2.2.2.2.2.1 x1.toNatClampNeg (-1 : Int32)), s1.2.2.2.2.2.2.2.2.2.2))))) else some ((-11 : Int32), s1)))))
set_option maxHeartbeats 4000000 in
set_option maxRecDepth 100000 in
theorem cc_X10_drop (l : Launch) (dC : Nat → ClassId) (dI : Nat → Nat → Nat) (fu : Nat) (a1 : Nat → Nat) (k1 : Nat → ClassId) (sz : Nat) (x1 : Int32) (s1 : ZT_10) (res : Int32 × ZT_10) (hR : rr_X10_drop fu x1 s1 = some res) : Met l yX10_drop wsX10_drop ({ frames := 1, cells := 0, slots := 0, locals := 25 } : Room) (PcF [.ref (a1 0), .int x1] sz (dC, dI) (zc_10 a1 k1 s1) (zt_10 k1)) (va_Qi (fun (r : Int32) (u : ZT_10) => res = (r, u)) (fun u t => at3_ (dC, dI) (zc_10 a1 k1 u) (zt_10 k1) (va_A (zc_10 a1 k1 s1) sz) t) (va_A (zc_10 a1 k1 s1) sz)) 0 0 (va_A (zc_10 a1 k1 s1) sz) := by
  refine Met.ofW (cc := cX10_drop) (maxL := 2) (ret := (some .int)) (by decide) rfl ?_
  intro p e s m args below meth c s₁ B hml hv
  obtain ⟨hav, hsz, hP, hK, hD0⟩ := hv
  have hx := B.exec
  have hb := B.bytes
  have hr := B.returns
  have hts := atoms_spec (ws := wsX10_drop) B.pre
  have hown : s.vm.findClass RX10 = some m.cls := findClass_of_methodNamed B.named
  have hlocks := B.notSynchronized
  have hin10 : ∀ w ∈ wsX100, w ∈ wsX10_drop := fun w h => List.mem_cons_of_mem _ (List.mem_append_right _ h)
  subst hsz
  have hD := hD0.self (sz := s.heap.size)
  clear hD0
  generalize hAe : va_A (zc_10 a1 k1 s1) s.heap.size = A at hD ⊢
  have hA : ∀ q : Nat, s.heap.size ≤ q → A q := fun q h => by rw [← hAe]; exact Or.inr h
  have hS : va_S A s.heap s.heap [] := va_S.rf
  generalize hQe : MQ below _ args s 0 0 A = Q
  rw [show entryFrame m args 2 = F0 m 0 ((lg_sl ([.ref (a1 0), .int x1]) ++ List.replicate (2 - (lg_sl ([.ref (a1 0), .int x1])).length) Slot.unset).toArray) [] from by rw [hav]; exact lg_entry_eq m _ _]
  have hl := lv_entry ([.ref (a1 0), .int x1]) (n := 2) (Nat.le_of_ble_eq_true rfl)
  generalize (lg_sl ([.ref (a1 0), .int x1]) ++ List.replicate (2 - (lg_sl ([.ref (a1 0), .int x1])).length) Slot.unset).toArray = ls at hl ⊢
  have hl : lv_has ls 2 [(0, .ref (a1 0)), (1, .int x1)] := hl
  unfold rr_X10_drop at hR
  refine lv_iload_n hx hb dX10_drop_0 rfl (lv_at hl 1 rfl) ?_
  refine lv_i2l (v := x1.toInt64) hx hb dX10_drop_1 rfl ?_
  refine lv_lconst (v := (0 : Int64)) hx hb dX10_drop_2 (by decide) ?_
  refine lv_ldc2 (v := (3 : Int64)) hx hb hown (hts (.constantLong RX10 84 (3)) (List.mem_of_getElem? (i := 1) rfl)) dX10_drop_3 ?_
  have hR0 := ob_ok hR
  clear hR
  obtain ⟨q1, hq1, hR⟩ := hR0
  refine va_calli (va_runS (As := [.long x1.toInt64, .long (0 : Int64), .long (3 : Int64)]) (rest := []) ⟨hx, hb, hml, hown, hts⟩ (cc_X10_in l dC dI fu s.heap.size x1.toInt64 (0 : Int64) (3 : Int64) q1 hq1) (va_cwS 3 hts gX10_drop_X10_in rfl rfl rfl (by decide +kernel) ⟨Nat.le_of_ble_eq_true rfl, Nat.le_of_ble_eq_true rfl⟩) (pf_s (nil_K hK) nil_P (nil_D (A := A))) rfl rfl hl.1 rfl (lv_room (Nat.le_of_ble_eq_true rfl)) dX10_drop_6 ⟨Nat.le_refl _, Nat.le_refl _⟩) hS (fun q _ h => (fr_none hS hA) q h) (fr_none hS hA) (fun r1 v1 t1 H1 locs1 ht1 hvm1 hw1 hB1 hz1 hk1 hS1 => ?_)
  subst hw1
  have hP1 := jn_none hP hk1
  have hD1 := hD
  have hP1 : va_P (dC, dI) vwCl (zc_10 a1 k1 s1) H1 := hP1
  have hD1 : va_D A (zc_10 a1 k1 s1) := hD1
  clear hP hD hS hB1 hk1 hvm1 hz1 ht1
  refine lv_if_ne (tgt := 14) hx hb dX10_drop_9 (by decide) (fun c2 => ?_) (fun c2 => ?_)
  · replace hR := ifn_ hR c2
    refine lv_aload_n hx hb dX10_drop_14 rfl (lv_at hl 0 rfl) ?_
    refine va_get (D := (dC, dI)) (ci := 10) (v := .ref (a1 19)) (C := RX10) (T := TX10) (N := 35) hx hb hts hin10 hown hK hP1 0 rfl rfl 32 (by decide) (hts (.fieldLink RX10 65 "OldestCoinsModel" "lanes" "[I") (List.mem_of_getElem? (i := 2) rfl)) (fun _ h9 => h9) rfl dX10_drop_15 ?_
    refine lv_iload_n hx hb dX10_drop_18 rfl (lv_at hl 1 rfl) ?_
    have i3 := (ck_ok hR).1
    replace hR := (ck_ok hR).2
    refine va_iald (f := s1.2.2.2.2.2.2.2.2.2.1) hx hb hK hP1 19 18 rfl rfl i3 dX10_drop_19 ?_
    refine lv_if_ge (tgt := 26) hx hb dX10_drop_20 (by decide) (fun c4 => ?_) (fun c4 => ?_)
    · replace hR := ifp_ hR c4
      refine lv_aload_n hx hb dX10_drop_26 rfl (lv_at hl 0 rfl) ?_
      refine va_get (D := (dC, dI)) (ci := 10) (v := .ref (a1 19)) (C := RX10) (T := TX10) (N := 35) hx hb hts hin10 hown hK hP1 0 rfl rfl 32 (by decide) (hts (.fieldLink RX10 65 "OldestCoinsModel" "lanes" "[I") (List.mem_of_getElem? (i := 2) rfl)) (fun _ h9 => h9) rfl dX10_drop_27 ?_
      refine lv_iload_n hx hb dX10_drop_30 rfl (lv_at hl 1 rfl) ?_
      refine lv_iconst (v := (-1 : Int32)) hx hb dX10_drop_31 (by decide) ?_
      have i5 := (ck_ok hR).1
      replace hR := (ck_ok hR).2
      refine va_iast (f := s1.2.2.2.2.2.2.2.2.2.1) hx hb hK hP1 hD1 hS1 19 18 rfl rfl i5 dX10_drop_32 (fun H5 locs5 hP5 hD5 hS5 => ?_)
      have hP5 : va_P (dC, dI) vwCl (zc_10 a1 k1 (s1.1, s1.2.1, s1.2.2.1, s1.2.2.2.1, s1.2.2.2.2.1, s1.2.2.2.2.2.1, s1.2.2.2.2.2.2.1, s1.2.2.2.2.2.2.2.1, s1.2.2.2.2.2.2.2.2.1, ((upd s1.2.2.2.2.2.2.2.2.2.1 x1.toNatClampNeg (-1 : Int32)), s1.2.2.2.2.2.2.2.2.2.2))) H5 := hP5
      have hD5 : va_D A (zc_10 a1 k1 (s1.1, s1.2.1, s1.2.2.1, s1.2.2.2.1, s1.2.2.2.2.1, s1.2.2.2.2.2.1, s1.2.2.2.2.2.2.1, s1.2.2.2.2.2.2.2.1, s1.2.2.2.2.2.2.2.2.1, ((upd s1.2.2.2.2.2.2.2.2.2.1 x1.toNatClampNeg (-1 : Int32)), s1.2.2.2.2.2.2.2.2.2.2))) := hD5
      clear hP1 hD1 hS1
      refine lv_aload_n hx hb dX10_drop_33 rfl (lv_at hl 0 rfl) ?_
      refine va_get (D := (dC, dI)) (ci := 10) (v := .ref (a1 20)) (C := RX10) (T := TX10) (N := 35) hx hb hts hin10 hown hK hP5 0 rfl rfl 33 (by decide) (hts (.fieldLink RX10 68 "OldestCoinsModel" "rowSizes" "[I") (List.mem_of_getElem? (i := 3) rfl)) (fun _ h9 => h9) rfl dX10_drop_34 ?_
      refine lv_iload_n hx hb dX10_drop_37 rfl (lv_at hl 1 rfl) ?_
      have i6 := (ck_ok hR).1
      replace hR := (ck_ok hR).2
      refine va_iald (f := s1.2.2.2.2.2.2.2.2.2.2.1) hx hb hK hP5 20 19 rfl rfl i6 dX10_drop_38 ?_
      subst hQe
      exact W.iret (v := (s1.2.2.2.2.2.2.2.2.2.2.1 x1.toNatClampNeg)) hx hb hr (fun t ht hW => ⟨⟨(s1.2.2.2.2.2.2.2.2.2.2.1 x1.toNatClampNeg), (s1.1, s1.2.1, s1.2.2.1, s1.2.2.2.1, s1.2.2.2.2.1, s1.2.2.2.2.2.1, s1.2.2.2.2.2.2.1, s1.2.2.2.2.2.2.2.1, s1.2.2.2.2.2.2.2.2.1, ((upd s1.2.2.2.2.2.2.2.2.2.1 x1.toNatClampNeg (-1 : Int32)), s1.2.2.2.2.2.2.2.2.2.2)), rfl, (Option.some.inj hR).symm, by rw [ht]; exact hP5, va_K.moved hW.alike hK, hD5⟩, hS5.F ht⟩) hS5.2.2 dX10_drop_39
    · replace hR := ifn_ hR c4
      refine lv_bipush (v := (-11 : Int32)) hx hb dX10_drop_23 (by decide) ?_
      subst hQe
      exact W.iret (v := (-11 : Int32)) hx hb hr (fun t ht hW => ⟨⟨(-11 : Int32), s1, rfl, (Option.some.inj hR).symm, by rw [ht]; exact hP1, va_K.moved hW.alike hK, hD1⟩, hS1.F ht⟩) hS1.2.2 dX10_drop_25
  · replace hR := ifp_ hR c2
    refine lv_iconst (v := (-1 : Int32)) hx hb dX10_drop_12 (by decide) ?_
    subst hQe
    exact W.iret (v := (-1 : Int32)) hx hb hr (fun t ht hW => ⟨⟨(-1 : Int32), s1, rfl, (Option.some.inj hR).symm, by rw [ht]; exact hP1, va_K.moved hW.alike hK, hD1⟩, hS1.F ht⟩) hS1.2.2 dX10_drop_13
def rr_X10_sheet_40_b (fu : Nat) (rec40 : Int32 → Int32 → Int32 → ZT_10 → Option (Int32 × ZT_10)) (y1 : Int32) (y3 : Int32) (y4 : Int32) (u1 : ZT_10) : Option (Int32 × ZT_10) := (if (24 : Int32) ≤ y4 then some (y3, u1) else ck_ (((24 : Int32) * y1) + y4) 96 (lt_ (α := Int32) (y4 + (1 : Int32)) (fun z10 => rec40 y1 y3 z10 (u1.1, u1.2.1, u1.2.2.1, u1.2.2.2.1, u1.2.2.2.2.1, u1.2.2.2.2.2.1, u1.2.2.2.2.2.2.1, u1.2.2.2.2.2.2.2.1, u1.2.2.2.2.2.2.2.2.1, (u1.2.2.2.2.2.2.2.2.2.1, u1.2.2.2.2.2.2.2.2.2.2.1, (vp_updL u1.2.2.2.2.2.2.2.2.2.2.2 (((24 : Int32) * y1) + y4).toNatClampNeg (0 : Int64)))))))
def rr_X10_sheet_40 (fu : Nat) (n : Nat) : Int32 → Int32 → Int32 → ZT_10 → Option (Int32 × ZT_10) := lp_ (fun _ _ _ _ => none) (rr_X10_sheet_40_b fu) n
def rr_X10_sheet (fu : Nat) (x1 : Int32) (x2 : Int32) (x3 : Int32) (s1 : ZT_10) : Option (Int32 × ZT_10) := (rr_X10_isSheet fu x1 x2).bind (fun q1 => (if q1 = (0 : Int32) then some ((-1 : Int32), s1) else (if x3 ≤ (24 : Int32) then (if (0 : Int32) ≤ x3 then ck_ x1 4 (ck_ x1 4 (rr_X10_sheet_40 fu fu x1 x3 (0 : Int32) (s1.1, s1.2.1, s1.2.2.1, s1.2.2.2.1, s1.2.2.2.2.1, s1.2.2.2.2.2.1, s1.2.2.2.2.2.2.1, s1.2.2.2.2.2.2.2.1, s1.2.2.2.2.2.2.2.2.1, ((upd s1.2.2.2.2.2.2.2.2.2.1 x1.toNatClampNeg x2), (upd s1.2.2.2.2.2.2.2.2.2.2.1 x1.toNatClampNeg x3), s1.2.2.2.2.2.2.2.2.2.2.2)))) else some ((-14 : Int32), s1)) else some ((-1 : Int32), s1))))
set_option maxHeartbeats 4000000 in
set_option maxRecDepth 100000 in
theorem cc_X10_sheet (l : Launch) (dC : Nat → ClassId) (dI : Nat → Nat → Nat) (fu : Nat) (a1 : Nat → Nat) (k1 : Nat → ClassId) (sz : Nat) (x1 : Int32) (x2 : Int32) (x3 : Int32) (s1 : ZT_10) (res : Int32 × ZT_10) (hR : rr_X10_sheet fu x1 x2 x3 s1 = some res) : Met l yX10_sheet wsX10_sheet ({ frames := 2, cells := 0, slots := 0, locals := 46 } : Room) (PcF [.ref (a1 0), .int x1, .int x2, .int x3] sz (dC, dI) (zc_10 a1 k1 s1) (zt_10 k1)) (va_Qi (fun (r : Int32) (u : ZT_10) => res = (r, u)) (fun u t => at3_ (dC, dI) (zc_10 a1 k1 u) (zt_10 k1) (va_A (zc_10 a1 k1 s1) sz) t) (va_A (zc_10 a1 k1 s1) sz)) 0 0 (va_A (zc_10 a1 k1 s1) sz) := by
  refine Met.ofW (cc := cX10_sheet) (maxL := 5) (ret := (some .int)) (by decide) rfl ?_
  intro p e s m args below meth c s₁ B hml hv
  obtain ⟨hav, hsz, hP, hK, hD0⟩ := hv
  have hx := B.exec
  have hb := B.bytes
  have hr := B.returns
  have hts := atoms_spec (ws := wsX10_sheet) B.pre
  have hown : s.vm.findClass RX10 = some m.cls := findClass_of_methodNamed B.named
  have hlocks := B.notSynchronized
  have hin10 : ∀ w ∈ wsX100, w ∈ wsX10_sheet := fun w h => List.mem_cons_of_mem _ (List.mem_append_right _ h)
  subst hsz
  have hD := hD0.self (sz := s.heap.size)
  clear hD0
  generalize hAe : va_A (zc_10 a1 k1 s1) s.heap.size = A at hD ⊢
  have hA : ∀ q : Nat, s.heap.size ≤ q → A q := fun q h => by rw [← hAe]; exact Or.inr h
  have hS : va_S A s.heap s.heap [] := va_S.rf
  generalize hQe : MQ below _ args s 0 0 A = Q
  rw [show entryFrame m args 5 = F0 m 0 ((lg_sl ([.ref (a1 0), .int x1, .int x2, .int x3]) ++ List.replicate (5 - (lg_sl ([.ref (a1 0), .int x1, .int x2, .int x3])).length) Slot.unset).toArray) [] from by rw [hav]; exact lg_entry_eq m _ _]
  have hl := lv_entry ([.ref (a1 0), .int x1, .int x2, .int x3]) (n := 5) (Nat.le_of_ble_eq_true rfl)
  generalize (lg_sl ([.ref (a1 0), .int x1, .int x2, .int x3]) ++ List.replicate (5 - (lg_sl ([.ref (a1 0), .int x1, .int x2, .int x3])).length) Slot.unset).toArray = ls at hl ⊢
  have hl : lv_has ls 5 [(0, .ref (a1 0)), (1, .int x1), (2, .int x2), (3, .int x3)] := hl
  have hB40 : ∀ (n : Nat), ∀ (y1 : Int32) (y3 : Int32) (y4 : Int32) (u1 : ZT_10) (H : Heap) (locs : List Loc) (ls : Array Slot), va_P (dC, dI) vwCl (zc_10 a1 k1 u1) H → va_D A (zc_10 a1 k1 u1) → va_S A s.heap H locs → lv_has ls 5 [(0, .ref (a1 0)), (1, .int y1), (3, .int y3), (4, .int y4)] → rr_X10_sheet_40 fu n y1 y3 y4 u1 = some res → W p l e ({ frames := 2, cells := 0, slots := 0, locals := 46 } : Room) s m args below meth c H locs 0 0 Q (F0 m 40 ls []) := by
    intro  n
    induction n with
    | zero => intro y1 y3 y4 u1 H locs ls hP hD hS hl hR; exact absurd hR (by intro h; cases h)
    | succ n ih =>
      intro y1 y3 y4 u1 H locs ls hP hD hS hl hR
      replace hR : rr_X10_sheet_40_b fu (rr_X10_sheet_40 fu n) y1 y3 y4 u1 = some res := hR
      unfold rr_X10_sheet_40_b at hR
      refine lv_iload hx hb dX10_sheet_40 (lv_at hl 3 rfl) ?_
      refine lv_bipush (v := (24 : Int32)) hx hb dX10_sheet_42 (by decide) ?_
      refine lv_icmp_ge (tgt := 66) hx hb dX10_sheet_44 (by decide) (fun c8 => ?_) (fun c8 => ?_)
      · replace hR := ifp_ hR c8
        refine lv_iload_n hx hb dX10_sheet_66 rfl (lv_at hl 2 rfl) ?_
        subst hQe
        exact W.iret (v := y3) hx hb hr (fun t ht hW => ⟨⟨y3, u1, rfl, (Option.some.inj hR).symm, by rw [ht]; exact hP, va_K.moved hW.alike hK, hD⟩, hS.F ht⟩) hS.2.2 dX10_sheet_67
      · replace hR := ifn_ hR c8
        refine lv_aload_n hx hb dX10_sheet_47 rfl (lv_at hl 0 rfl) ?_
        refine va_get (D := (dC, dI)) (ci := 10) (v := .ref (a1 21)) (C := RX10) (T := TX10) (N := 35) hx hb hts hin10 hown hK hP 0 rfl rfl 34 (by decide) (hts (.fieldLink RX10 71 "OldestCoinsModel" "items" "[J") (List.mem_of_getElem? (i := 3) rfl)) (fun _ h9 => h9) rfl dX10_sheet_48 ?_
        refine lv_bipush (v := (24 : Int32)) hx hb dX10_sheet_51 (by decide) ?_
        refine lv_iload_n hx hb dX10_sheet_53 rfl (lv_at hl 1 rfl) ?_
        refine lv_imul hx hb dX10_sheet_54 ?_
        refine lv_iload hx hb dX10_sheet_55 (lv_at hl 3 rfl) ?_
        refine lv_iadd hx hb dX10_sheet_57 ?_
        refine lv_lconst (v := (0 : Int64)) hx hb dX10_sheet_58 (by decide) ?_
        have i9 := (ck_ok hR).1
        replace hR := (ck_ok hR).2
        refine va_last (f := u1.2.2.2.2.2.2.2.2.2.2.2) hx hb hK hP hD hS 21 20 rfl rfl i9 dX10_sheet_59 (fun H9 locs9 hP9 hD9 hS9 => ?_)
        have hP9 : va_P (dC, dI) vwCl (zc_10 a1 k1 (u1.1, u1.2.1, u1.2.2.1, u1.2.2.2.1, u1.2.2.2.2.1, u1.2.2.2.2.2.1, u1.2.2.2.2.2.2.1, u1.2.2.2.2.2.2.2.1, u1.2.2.2.2.2.2.2.2.1, (u1.2.2.2.2.2.2.2.2.2.1, u1.2.2.2.2.2.2.2.2.2.2.1, (vp_updL u1.2.2.2.2.2.2.2.2.2.2.2 (((24 : Int32) * y1) + y4).toNatClampNeg (0 : Int64))))) H9 := hP9
        have hD9 : va_D A (zc_10 a1 k1 (u1.1, u1.2.1, u1.2.2.1, u1.2.2.2.1, u1.2.2.2.2.1, u1.2.2.2.2.2.1, u1.2.2.2.2.2.2.1, u1.2.2.2.2.2.2.2.1, u1.2.2.2.2.2.2.2.2.1, (u1.2.2.2.2.2.2.2.2.2.1, u1.2.2.2.2.2.2.2.2.2.2.1, (vp_updL u1.2.2.2.2.2.2.2.2.2.2.2 (((24 : Int32) * y1) + y4).toNatClampNeg (0 : Int64))))) := hD9
        clear hP hD hS
        obtain ⟨z10, ez10⟩ : ∃ y : Int32, y = (y4 + (1 : Int32)) := ⟨_, rfl⟩
        replace hR := lt_ok hR ez10
        refine lv_iinc (v := z10) (lv' := [(4, .int z10), (0, .ref (a1 0)), (1, .int y1), (3, .int y3)]) hx hb dX10_sheet_60 hl (k := 3) rfl (by rw [ez10]; rfl) (by decide) rfl (fun ls10 hl10 => ?_)
        refine lv_goto (tgt := 40) hx hb dX10_sheet_63 (by decide) ?_
        exact ih y1 y3 z10 (u1.1, u1.2.1, u1.2.2.1, u1.2.2.2.1, u1.2.2.2.2.1, u1.2.2.2.2.2.1, u1.2.2.2.2.2.2.1, u1.2.2.2.2.2.2.2.1, u1.2.2.2.2.2.2.2.2.1, (u1.2.2.2.2.2.2.2.2.2.1, u1.2.2.2.2.2.2.2.2.2.2.1, (vp_updL u1.2.2.2.2.2.2.2.2.2.2.2 (((24 : Int32) * y1) + y4).toNatClampNeg (0 : Int64)))) H9 locs9 ls10 hP9 hD9 hS9 (lv_sub hl10 [1, 2, 3, 0] rfl) hR
  unfold rr_X10_sheet at hR
  refine lv_iload_n hx hb dX10_sheet_0 rfl (lv_at hl 1 rfl) ?_
  refine lv_iload_n hx hb dX10_sheet_1 rfl (lv_at hl 2 rfl) ?_
  have hR0 := ob_ok hR
  clear hR
  obtain ⟨q1, hq1, hR⟩ := hR0
  refine va_calli (va_runS (As := [.int x1, .int x2]) (rest := []) ⟨hx, hb, hml, hown, hts⟩ (cc_X10_isSheet l dC dI fu s.heap.size x1 x2 q1 hq1) (va_cwS 2 hts gX10_sheet_X10_isSheet rfl rfl rfl (by decide +kernel) ⟨Nat.le_of_ble_eq_true rfl, Nat.le_of_ble_eq_true rfl⟩) (pf_s (nil_K hK) nil_P (nil_D (A := A))) rfl rfl hl.1 rfl (lv_room (Nat.le_of_ble_eq_true rfl)) dX10_sheet_2 ⟨Nat.le_refl _, Nat.le_refl _⟩) hS (fun q _ h => (fr_none hS hA) q h) (fr_none hS hA) (fun r1 v1 t1 H1 locs1 ht1 hvm1 hw1 hB1 hz1 hk1 hS1 => ?_)
  subst hw1
  have hP1 := jn_none hP hk1
  have hD1 := hD
  have hP1 : va_P (dC, dI) vwCl (zc_10 a1 k1 s1) H1 := hP1
  have hD1 : va_D A (zc_10 a1 k1 s1) := hD1
  clear hP hD hS hB1 hk1 hvm1 hz1 ht1
  refine lv_if_eq (tgt := 14) hx hb dX10_sheet_5 (by decide) (fun c2 => ?_) (fun c2 => ?_)
  · replace hR := ifp_ hR c2
    refine lv_iconst (v := (-1 : Int32)) hx hb dX10_sheet_14 (by decide) ?_
    subst hQe
    exact W.iret (v := (-1 : Int32)) hx hb hr (fun t ht hW => ⟨⟨(-1 : Int32), s1, rfl, (Option.some.inj hR).symm, by rw [ht]; exact hP1, va_K.moved hW.alike hK, hD1⟩, hS1.F ht⟩) hS1.2.2 dX10_sheet_15
  · replace hR := ifn_ hR c2
    refine lv_iload_n hx hb dX10_sheet_8 rfl (lv_at hl 3 rfl) ?_
    refine lv_bipush (v := (24 : Int32)) hx hb dX10_sheet_9 (by decide) ?_
    refine lv_icmp_le (tgt := 16) hx hb dX10_sheet_11 (by decide) (fun c3 => ?_) (fun c3 => ?_)
    · replace hR := ifp_ hR c3
      refine lv_iload_n hx hb dX10_sheet_16 rfl (lv_at hl 3 rfl) ?_
      refine lv_if_ge (tgt := 23) hx hb dX10_sheet_17 (by decide) (fun c4 => ?_) (fun c4 => ?_)
      · replace hR := ifp_ hR c4
        refine lv_aload_n hx hb dX10_sheet_23 rfl (lv_at hl 0 rfl) ?_
        refine va_get (D := (dC, dI)) (ci := 10) (v := .ref (a1 19)) (C := RX10) (T := TX10) (N := 35) hx hb hts hin10 hown hK hP1 0 rfl rfl 32 (by decide) (hts (.fieldLink RX10 65 "OldestCoinsModel" "lanes" "[I") (List.mem_of_getElem? (i := 1) rfl)) (fun _ h9 => h9) rfl dX10_sheet_24 ?_
        refine lv_iload_n hx hb dX10_sheet_27 rfl (lv_at hl 1 rfl) ?_
        refine lv_iload_n hx hb dX10_sheet_28 rfl (lv_at hl 2 rfl) ?_
        have i5 := (ck_ok hR).1
        replace hR := (ck_ok hR).2
        refine va_iast (f := s1.2.2.2.2.2.2.2.2.2.1) hx hb hK hP1 hD1 hS1 19 18 rfl rfl i5 dX10_sheet_29 (fun H5 locs5 hP5 hD5 hS5 => ?_)
        have hP5 : va_P (dC, dI) vwCl (zc_10 a1 k1 (s1.1, s1.2.1, s1.2.2.1, s1.2.2.2.1, s1.2.2.2.2.1, s1.2.2.2.2.2.1, s1.2.2.2.2.2.2.1, s1.2.2.2.2.2.2.2.1, s1.2.2.2.2.2.2.2.2.1, ((upd s1.2.2.2.2.2.2.2.2.2.1 x1.toNatClampNeg x2), s1.2.2.2.2.2.2.2.2.2.2))) H5 := hP5
        have hD5 : va_D A (zc_10 a1 k1 (s1.1, s1.2.1, s1.2.2.1, s1.2.2.2.1, s1.2.2.2.2.1, s1.2.2.2.2.2.1, s1.2.2.2.2.2.2.1, s1.2.2.2.2.2.2.2.1, s1.2.2.2.2.2.2.2.2.1, ((upd s1.2.2.2.2.2.2.2.2.2.1 x1.toNatClampNeg x2), s1.2.2.2.2.2.2.2.2.2.2))) := hD5
        clear hP1 hD1 hS1
        refine lv_aload_n hx hb dX10_sheet_30 rfl (lv_at hl 0 rfl) ?_
        refine va_get (D := (dC, dI)) (ci := 10) (v := .ref (a1 20)) (C := RX10) (T := TX10) (N := 35) hx hb hts hin10 hown hK hP5 0 rfl rfl 33 (by decide) (hts (.fieldLink RX10 68 "OldestCoinsModel" "rowSizes" "[I") (List.mem_of_getElem? (i := 2) rfl)) (fun _ h9 => h9) rfl dX10_sheet_31 ?_
        refine lv_iload_n hx hb dX10_sheet_34 rfl (lv_at hl 1 rfl) ?_
        refine lv_iload_n hx hb dX10_sheet_35 rfl (lv_at hl 3 rfl) ?_
        have i6 := (ck_ok hR).1
        replace hR := (ck_ok hR).2
        refine va_iast (f := s1.2.2.2.2.2.2.2.2.2.2.1) hx hb hK hP5 hD5 hS5 20 19 rfl rfl i6 dX10_sheet_36 (fun H6 locs6 hP6 hD6 hS6 => ?_)
        have hP6 : va_P (dC, dI) vwCl (zc_10 a1 k1 (s1.1, s1.2.1, s1.2.2.1, s1.2.2.2.1, s1.2.2.2.2.1, s1.2.2.2.2.2.1, s1.2.2.2.2.2.2.1, s1.2.2.2.2.2.2.2.1, s1.2.2.2.2.2.2.2.2.1, ((upd s1.2.2.2.2.2.2.2.2.2.1 x1.toNatClampNeg x2), (upd s1.2.2.2.2.2.2.2.2.2.2.1 x1.toNatClampNeg x3), s1.2.2.2.2.2.2.2.2.2.2.2))) H6 := hP6
        have hD6 : va_D A (zc_10 a1 k1 (s1.1, s1.2.1, s1.2.2.1, s1.2.2.2.1, s1.2.2.2.2.1, s1.2.2.2.2.2.1, s1.2.2.2.2.2.2.1, s1.2.2.2.2.2.2.2.1, s1.2.2.2.2.2.2.2.2.1, ((upd s1.2.2.2.2.2.2.2.2.2.1 x1.toNatClampNeg x2), (upd s1.2.2.2.2.2.2.2.2.2.2.1 x1.toNatClampNeg x3), s1.2.2.2.2.2.2.2.2.2.2.2))) := hD6
        clear hP5 hD5 hS5
        refine lv_iconst (v := (0 : Int32)) hx hb dX10_sheet_37 (by decide) ?_
        refine lv_istore (lv' := [(4, .int (0 : Int32)), (0, .ref (a1 0)), (1, .int x1), (2, .int x2), (3, .int x3)]) hx hb dX10_sheet_38 hl (by decide) rfl (fun ls7 hl7 => ?_)
        exact hB40 fu x1 x3 (0 : Int32) (s1.1, s1.2.1, s1.2.2.1, s1.2.2.2.1, s1.2.2.2.2.1, s1.2.2.2.2.2.1, s1.2.2.2.2.2.2.1, s1.2.2.2.2.2.2.2.1, s1.2.2.2.2.2.2.2.2.1, ((upd s1.2.2.2.2.2.2.2.2.2.1 x1.toNatClampNeg x2), (upd s1.2.2.2.2.2.2.2.2.2.2.1 x1.toNatClampNeg x3), s1.2.2.2.2.2.2.2.2.2.2.2)) H6 locs6 ls7 hP6 hD6 hS6 (lv_sub hl7 [1, 2, 4, 0] rfl) hR
      · replace hR := ifn_ hR c4
        refine lv_bipush (v := (-14 : Int32)) hx hb dX10_sheet_20 (by decide) ?_
        subst hQe
        exact W.iret (v := (-14 : Int32)) hx hb hr (fun t ht hW => ⟨⟨(-14 : Int32), s1, rfl, (Option.some.inj hR).symm, by rw [ht]; exact hP1, va_K.moved hW.alike hK, hD1⟩, hS1.F ht⟩) hS1.2.2 dX10_sheet_22
    · replace hR := ifn_ hR c3
      refine lv_iconst (v := (-1 : Int32)) hx hb dX10_sheet_14 (by decide) ?_
      subst hQe
      exact W.iret (v := (-1 : Int32)) hx hb hr (fun t ht hW => ⟨⟨(-1 : Int32), s1, rfl, (Option.some.inj hR).symm, by rw [ht]; exact hP1, va_K.moved hW.alike hK, hD1⟩, hS1.F ht⟩) hS1.2.2 dX10_sheet_15
def rr_X10_firstOrder_2_b (fu : Nat) (rec2 : Int32 → ZT_10 → Option (ZT_10)) (y1 : Int32) (u1 : ZT_10) : Option (ZT_10) := (if (6 : Int32) ≤ y1 then some u1 else ck_ y1 6 (lt_ (α := Int32) (y1 + (1 : Int32)) (fun z4 => rec2 z4 (u1.1, u1.2.1, u1.2.2.1, u1.2.2.2.1, u1.2.2.2.2.1, u1.2.2.2.2.2.1, (u1.2.2.2.2.2.2.1.1, (upd u1.2.2.2.2.2.2.1.2.1 y1.toNatClampNeg y1), u1.2.2.2.2.2.2.1.2.2), u1.2.2.2.2.2.2.2))))
def rr_X10_firstOrder_2 (fu : Nat) (n : Nat) : Int32 → ZT_10 → Option (ZT_10) := lp_ (fun _ _ => none) (rr_X10_firstOrder_2_b fu) n
def rr_X10_firstOrder (fu : Nat) (s1 : ZT_10) : Option (ZT_10) := rr_X10_firstOrder_2 fu fu (0 : Int32) s1
set_option maxHeartbeats 4000000 in
set_option maxRecDepth 100000 in
theorem cc_X10_firstOrder (l : Launch) (dC : Nat → ClassId) (dI : Nat → Nat → Nat) (fu : Nat) (a1 : Nat → Nat) (k1 : Nat → ClassId) (sz : Nat) (s1 : ZT_10) (res : ZT_10) (hR : rr_X10_firstOrder fu s1 = some res) : Met l yX10_firstOrder wsX10_firstOrder ({ frames := 0, cells := 0, slots := 0, locals := 0 } : Room) (PcF [.ref (a1 0)] sz (dC, dI) (zc_10 a1 k1 s1) (zt_10 k1)) (va_Qv (fun u : ZT_10 => res = u) (fun u t => at3_ (dC, dI) (zc_10 a1 k1 u) (zt_10 k1) (va_A (zc_10 a1 k1 s1) sz) t) (va_A (zc_10 a1 k1 s1) sz)) 0 0 (va_A (zc_10 a1 k1 s1) sz) := by
  refine Met.ofW (cc := cX10_firstOrder) (maxL := 2) (ret := none) (by decide) rfl ?_
  intro p e s m args below meth c s₁ B hml hv
  obtain ⟨hav, hsz, hP, hK, hD0⟩ := hv
  have hx := B.exec
  have hb := B.bytes
  have hr := B.returns
  have hts := atoms_spec (ws := wsX10_firstOrder) B.pre
  have hown : s.vm.findClass RX10 = some m.cls := findClass_of_methodNamed B.named
  have hlocks := B.notSynchronized
  have hin10 : ∀ w ∈ wsX100, w ∈ wsX10_firstOrder := fun w h => List.mem_cons_of_mem _ (List.mem_append_right _ h)
  subst hsz
  have hD := hD0.self (sz := s.heap.size)
  clear hD0
  generalize hAe : va_A (zc_10 a1 k1 s1) s.heap.size = A at hD ⊢
  have hA : ∀ q : Nat, s.heap.size ≤ q → A q := fun q h => by rw [← hAe]; exact Or.inr h
  have hS : va_S A s.heap s.heap [] := va_S.rf
  generalize hQe : MQ below _ args s 0 0 A = Q
  rw [show entryFrame m args 2 = F0 m 0 ((lg_sl ([.ref (a1 0)]) ++ List.replicate (2 - (lg_sl ([.ref (a1 0)])).length) Slot.unset).toArray) [] from by rw [hav]; exact lg_entry_eq m _ _]
  have hl := lv_entry ([.ref (a1 0)]) (n := 2) (Nat.le_of_ble_eq_true rfl)
  generalize (lg_sl ([.ref (a1 0)]) ++ List.replicate (2 - (lg_sl ([.ref (a1 0)])).length) Slot.unset).toArray = ls at hl ⊢
  have hl : lv_has ls 2 [(0, .ref (a1 0))] := hl
  have hB2 : ∀ (n : Nat), ∀ (y1 : Int32) (u1 : ZT_10) (H : Heap) (locs : List Loc) (ls : Array Slot), va_P (dC, dI) vwCl (zc_10 a1 k1 u1) H → va_D A (zc_10 a1 k1 u1) → va_S A s.heap H locs → lv_has ls 2 [(0, .ref (a1 0)), (1, .int y1)] → rr_X10_firstOrder_2 fu n y1 u1 = some res → W p l e ({ frames := 0, cells := 0, slots := 0, locals := 0 } : Room) s m args below meth c H locs 0 0 Q (F0 m 2 ls []) := by
    intro  n
    induction n with
    | zero => intro y1 u1 H locs ls hP hD hS hl hR; exact absurd hR (by intro h; cases h)
    | succ n ih =>
      intro y1 u1 H locs ls hP hD hS hl hR
      replace hR : rr_X10_firstOrder_2_b fu (rr_X10_firstOrder_2 fu n) y1 u1 = some res := hR
      unfold rr_X10_firstOrder_2_b at hR
      refine lv_iload_n hx hb dX10_firstOrder_2 rfl (lv_at hl 1 rfl) ?_
      refine lv_bipush (v := (6 : Int32)) hx hb dX10_firstOrder_3 (by decide) ?_
      refine lv_icmp_ge (tgt := 21) hx hb dX10_firstOrder_5 (by decide) (fun c2 => ?_) (fun c2 => ?_)
      · replace hR := ifp_ hR c2
        subst hQe
        exact W.vret hx hb hr (fun t ht hW => ⟨⟨u1, rfl, (Option.some.inj hR).symm, by rw [ht]; exact hP, va_K.moved hW.alike hK, hD⟩, hS.F ht⟩) hS.2.2 dX10_firstOrder_21
      · replace hR := ifn_ hR c2
        refine lv_aload_n hx hb dX10_firstOrder_8 rfl (lv_at hl 0 rfl) ?_
        refine va_get (D := (dC, dI)) (ci := 10) (v := .ref (a1 13)) (C := RX10) (T := TX10) (N := 35) hx hb hts hin10 hown hK hP 0 rfl rfl 25 (by decide) (hts (.fieldLink RX10 46 "OldestCoinsModel" "order" "[I") (List.mem_of_getElem? (i := 1) rfl)) (fun _ h9 => h9) rfl dX10_firstOrder_9 ?_
        refine lv_iload_n hx hb dX10_firstOrder_12 rfl (lv_at hl 1 rfl) ?_
        refine lv_iload_n hx hb dX10_firstOrder_13 rfl (lv_at hl 1 rfl) ?_
        have i3 := (ck_ok hR).1
        replace hR := (ck_ok hR).2
        refine va_iast (f := u1.2.2.2.2.2.2.1.2.1) hx hb hK hP hD hS 13 12 rfl rfl i3 dX10_firstOrder_14 (fun H3 locs3 hP3 hD3 hS3 => ?_)
        have hP3 : va_P (dC, dI) vwCl (zc_10 a1 k1 (u1.1, u1.2.1, u1.2.2.1, u1.2.2.2.1, u1.2.2.2.2.1, u1.2.2.2.2.2.1, (u1.2.2.2.2.2.2.1.1, (upd u1.2.2.2.2.2.2.1.2.1 y1.toNatClampNeg y1), u1.2.2.2.2.2.2.1.2.2), u1.2.2.2.2.2.2.2)) H3 := hP3
        have hD3 : va_D A (zc_10 a1 k1 (u1.1, u1.2.1, u1.2.2.1, u1.2.2.2.1, u1.2.2.2.2.1, u1.2.2.2.2.2.1, (u1.2.2.2.2.2.2.1.1, (upd u1.2.2.2.2.2.2.1.2.1 y1.toNatClampNeg y1), u1.2.2.2.2.2.2.1.2.2), u1.2.2.2.2.2.2.2)) := hD3
        clear hP hD hS
        obtain ⟨z4, ez4⟩ : ∃ y : Int32, y = (y1 + (1 : Int32)) := ⟨_, rfl⟩
        replace hR := lt_ok hR ez4
        refine lv_iinc (v := z4) (lv' := [(1, .int z4), (0, .ref (a1 0))]) hx hb dX10_firstOrder_15 hl (k := 1) rfl (by rw [ez4]; rfl) (by decide) rfl (fun ls4 hl4 => ?_)
        refine lv_goto (tgt := 2) hx hb dX10_firstOrder_18 (by decide) ?_
        exact ih z4 (u1.1, u1.2.1, u1.2.2.1, u1.2.2.2.1, u1.2.2.2.2.1, u1.2.2.2.2.2.1, (u1.2.2.2.2.2.2.1.1, (upd u1.2.2.2.2.2.2.1.2.1 y1.toNatClampNeg y1), u1.2.2.2.2.2.2.1.2.2), u1.2.2.2.2.2.2.2) H3 locs3 ls4 hP3 hD3 hS3 (lv_sub hl4 [1, 0] rfl) hR
  unfold rr_X10_firstOrder at hR
  refine lv_iconst (v := (0 : Int32)) hx hb dX10_firstOrder_0 (by decide) ?_
  refine lv_istore_n (lv' := [(1, .int (0 : Int32)), (0, .ref (a1 0))]) hx hb dX10_firstOrder_1 rfl hl (by decide) rfl (fun ls1 hl1 => ?_)
  exact hB2 fu (0 : Int32) s1 s.heap [] ls1 hP hD hS (lv_sub hl1 [1, 0] rfl) hR
def rr_X10_isSeen_6_b (fu : Nat) (s1 : ZT_10) (rec6 : Int32 → Int32 → Int32 → Int32 → Int64 → Int32 → Option (Int32)) (y1 : Int32) (y2 : Int32) (y3 : Int32) (y4 : Int32) (y5 : Int64) (y7 : Int32) : Option (Int32) := (if y3 ≤ y7 then (if (lg_cmp (y5 - y2.toInt64) y4.toInt64) = (0 : Int32) then some (1 : Int32) else some (0 : Int32)) else (if (lg_cmp y5 y2.toInt64) < (0 : Int32) then ck_ y7 6 (ck_ (y1 + (s1.2.2.2.2.2.2.1.2.1 y7.toNatClampNeg)) 96 (lt_ (α := Int64) (y5 + (s1.2.2.2.2.2.2.2.2.2.2.2 (y1 + (s1.2.2.2.2.2.2.1.2.1 y7.toNatClampNeg)).toNatClampNeg)) (fun z8 => lt_ (α := Int32) (y7 + (1 : Int32)) (fun z10 => rec6 y1 y2 y3 y4 z8 z10)))) else some (0 : Int32)))
def rr_X10_isSeen_6 (fu : Nat) (s1 : ZT_10) (n : Nat) : Int32 → Int32 → Int32 → Int32 → Int64 → Int32 → Option (Int32) := lp_ (fun _ _ _ _ _ _ => none) (rr_X10_isSeen_6_b fu s1) n
def rr_X10_isSeen (fu : Nat) (x1 : Int32) (x2 : Int32) (x3 : Int32) (x4 : Int32) (s1 : ZT_10) : Option (Int32) := rr_X10_isSeen_6 fu s1 fu x1 x2 x3 x4 (0 : Int64) (0 : Int32)
set_option maxHeartbeats 4000000 in
set_option maxRecDepth 100000 in
theorem cc_X10_isSeen (l : Launch) (dC : Nat → ClassId) (dI : Nat → Nat → Nat) (fu : Nat) (a1 : Nat → Nat) (k1 : Nat → ClassId) (sz : Nat) (x1 : Int32) (x2 : Int32) (x3 : Int32) (x4 : Int32) (s1 : ZT_10) (res : Int32) (hR : rr_X10_isSeen fu x1 x2 x3 x4 s1 = some res) : Met l yX10_isSeen wsX10_isSeen ({ frames := 0, cells := 0, slots := 0, locals := 0 } : Room) (PcF [.ref (a1 0), .int x1, .int x2, .int x3, .int x4] sz (dC, dI) (zc_10 a1 k1 s1) (zt_10 k1)) (va_Qi (fun (r : Int32) (u : Unit) => res = r) (fun u t => at3_ (dC, dI) (zc_10 a1 k1 s1) (zt_10 k1) (va_A (zc_10 a1 k1 s1) sz) t) (va_A (zc_10 a1 k1 s1) sz)) 0 0 (va_A (zc_10 a1 k1 s1) sz) := by
  refine Met.ofW (cc := cX10_isSeen) (maxL := 8) (ret := (some .boolean)) (by decide) rfl ?_
  intro p e s m args below meth c s₁ B hml hv
  obtain ⟨hav, hsz, hP, hK, hD0⟩ := hv
  have hx := B.exec
  have hb := B.bytes
  have hr := B.returns
  have hts := atoms_spec (ws := wsX10_isSeen) B.pre
  have hown : s.vm.findClass RX10 = some m.cls := findClass_of_methodNamed B.named
  have hlocks := B.notSynchronized
  have hin10 : ∀ w ∈ wsX100, w ∈ wsX10_isSeen := fun w h => List.mem_cons_of_mem _ (List.mem_append_right _ h)
  subst hsz
  have hD := hD0.self (sz := s.heap.size)
  clear hD0
  generalize hAe : va_A (zc_10 a1 k1 s1) s.heap.size = A at hD ⊢
  have hA : ∀ q : Nat, s.heap.size ≤ q → A q := fun q h => by rw [← hAe]; exact Or.inr h
  have hS : va_S A s.heap s.heap [] := va_S.rf
  generalize hQe : MQ below _ args s 0 0 A = Q
  rw [show entryFrame m args 8 = F0 m 0 ((lg_sl ([.ref (a1 0), .int x1, .int x2, .int x3, .int x4]) ++ List.replicate (8 - (lg_sl ([.ref (a1 0), .int x1, .int x2, .int x3, .int x4])).length) Slot.unset).toArray) [] from by rw [hav]; exact lg_entry_eq m _ _]
  have hl := lv_entry ([.ref (a1 0), .int x1, .int x2, .int x3, .int x4]) (n := 8) (Nat.le_of_ble_eq_true rfl)
  generalize (lg_sl ([.ref (a1 0), .int x1, .int x2, .int x3, .int x4]) ++ List.replicate (8 - (lg_sl ([.ref (a1 0), .int x1, .int x2, .int x3, .int x4])).length) Slot.unset).toArray = ls at hl ⊢
  have hl : lv_has ls 8 [(0, .ref (a1 0)), (1, .int x1), (2, .int x2), (3, .int x3), (4, .int x4)] := hl
  have hB6 : ∀ (n : Nat), ∀ (y1 : Int32) (y2 : Int32) (y3 : Int32) (y4 : Int32) (y5 : Int64) (y7 : Int32) (H : Heap) (locs : List Loc) (ls : Array Slot), va_P (dC, dI) vwCl (zc_10 a1 k1 s1) H → va_D A (zc_10 a1 k1 s1) → va_S A s.heap H locs → lv_has ls 8 [(0, .ref (a1 0)), (1, .int y1), (2, .int y2), (3, .int y3), (4, .int y4), (5, .long y5), (7, .int y7)] → rr_X10_isSeen_6 fu s1 n y1 y2 y3 y4 y5 y7 = some res → W p l e ({ frames := 0, cells := 0, slots := 0, locals := 0 } : Room) s m args below meth c H locs 0 0 Q (F0 m 6 ls []) := by
    intro  n
    induction n with
    | zero => intro y1 y2 y3 y4 y5 y7 H locs ls hP hD hS hl hR; exact absurd hR (by intro h; cases h)
    | succ n ih =>
      intro y1 y2 y3 y4 y5 y7 H locs ls hP hD hS hl hR
      replace hR : rr_X10_isSeen_6_b fu s1 (rr_X10_isSeen_6 fu s1 n) y1 y2 y3 y4 y5 y7 = some res := hR
      unfold rr_X10_isSeen_6_b at hR
      refine lv_iload hx hb dX10_isSeen_6 (lv_at hl 6 rfl) ?_
      refine lv_iload_n hx hb dX10_isSeen_8 rfl (lv_at hl 3 rfl) ?_
      refine lv_icmp_ge (tgt := 47) hx hb dX10_isSeen_9 (by decide) (fun c3 => ?_) (fun c3 => ?_)
      · replace hR := ifp_ hR c3
        refine lv_lload hx hb dX10_isSeen_47 (lv_at hl 5 rfl) ?_
        refine lv_iload_n hx hb dX10_isSeen_49 rfl (lv_at hl 2 rfl) ?_
        refine lv_i2l (v := y2.toInt64) hx hb dX10_isSeen_50 rfl ?_
        refine lv_lsub hx hb dX10_isSeen_51 ?_
        refine lv_iload hx hb dX10_isSeen_52 (lv_at hl 4 rfl) ?_
        refine lv_i2l (v := y4.toInt64) hx hb dX10_isSeen_54 rfl ?_
        refine W.lcmp hx hb dX10_isSeen_55 ?_
        refine lv_if_ne (tgt := 63) hx hb dX10_isSeen_56 (by decide) (fun c4 => ?_) (fun c4 => ?_)
        · replace hR := ifn_ hR c4
          refine lv_iconst (v := (0 : Int32)) hx hb dX10_isSeen_63 (by decide) ?_
          subst hQe
          exact W.zret (ty := .boolean) (v := (0 : Int32)) hx hb hr rfl (fun t ht hW => ⟨⟨(0 : Int32), (), rfl, (Option.some.inj hR).symm, by rw [ht]; exact hP, va_K.moved hW.alike hK, hD⟩, hS.F ht⟩) hS.2.2 dX10_isSeen_64
        · replace hR := ifp_ hR c4
          refine lv_iconst (v := (1 : Int32)) hx hb dX10_isSeen_59 (by decide) ?_
          refine lv_goto (tgt := 64) hx hb dX10_isSeen_60 (by decide) ?_
          subst hQe
          exact W.zret (ty := .boolean) (v := (1 : Int32)) hx hb hr rfl (fun t ht hW => ⟨⟨(1 : Int32), (), rfl, (Option.some.inj hR).symm, by rw [ht]; exact hP, va_K.moved hW.alike hK, hD⟩, hS.F ht⟩) hS.2.2 dX10_isSeen_64
      · replace hR := ifn_ hR c3
        refine lv_lload hx hb dX10_isSeen_12 (lv_at hl 5 rfl) ?_
        refine lv_iload_n hx hb dX10_isSeen_14 rfl (lv_at hl 2 rfl) ?_
        refine lv_i2l (v := y2.toInt64) hx hb dX10_isSeen_15 rfl ?_
        refine W.lcmp hx hb dX10_isSeen_16 ?_
        refine lv_if_lt (tgt := 22) hx hb dX10_isSeen_17 (by decide) (fun c5 => ?_) (fun c5 => ?_)
        · replace hR := ifp_ hR c5
          refine lv_lload hx hb dX10_isSeen_22 (lv_at hl 5 rfl) ?_
          refine lv_aload_n hx hb dX10_isSeen_24 rfl (lv_at hl 0 rfl) ?_
          refine va_get (D := (dC, dI)) (ci := 10) (v := .ref (a1 21)) (C := RX10) (T := TX10) (N := 35) hx hb hts hin10 hown hK hP 0 rfl rfl 34 (by decide) (hts (.fieldLink RX10 71 "OldestCoinsModel" "items" "[J") (List.mem_of_getElem? (i := 1) rfl)) (fun _ h9 => h9) rfl dX10_isSeen_25 ?_
          refine lv_iload_n hx hb dX10_isSeen_28 rfl (lv_at hl 1 rfl) ?_
          refine lv_aload_n hx hb dX10_isSeen_29 rfl (lv_at hl 0 rfl) ?_
          refine va_get (D := (dC, dI)) (ci := 10) (v := .ref (a1 13)) (C := RX10) (T := TX10) (N := 35) hx hb hts hin10 hown hK hP 0 rfl rfl 25 (by decide) (hts (.fieldLink RX10 46 "OldestCoinsModel" "order" "[I") (List.mem_of_getElem? (i := 2) rfl)) (fun _ h9 => h9) rfl dX10_isSeen_30 ?_
          refine lv_iload hx hb dX10_isSeen_33 (lv_at hl 6 rfl) ?_
          have i6 := (ck_ok hR).1
          replace hR := (ck_ok hR).2
          refine va_iald (f := s1.2.2.2.2.2.2.1.2.1) hx hb hK hP 13 12 rfl rfl i6 dX10_isSeen_35 ?_
          refine lv_iadd hx hb dX10_isSeen_36 ?_
          have i7 := (ck_ok hR).1
          replace hR := (ck_ok hR).2
          refine va_lald (f := s1.2.2.2.2.2.2.2.2.2.2.2) hx hb hK hP 21 20 rfl rfl i7 dX10_isSeen_37 ?_
          refine lv_ladd hx hb dX10_isSeen_38 ?_
          refine lv_topl (fun z8 ez8 => ?_)
          replace hR := lt_ok hR ez8
          refine lv_lstore (lv' := [(5, .long z8), (0, .ref (a1 0)), (1, .int y1), (2, .int y2), (3, .int y3), (4, .int y4), (7, .int y7)]) hx hb dX10_isSeen_39 hl (by decide) rfl (fun ls9 hl9 => ?_)
          obtain ⟨z10, ez10⟩ : ∃ y : Int32, y = (y7 + (1 : Int32)) := ⟨_, rfl⟩
          replace hR := lt_ok hR ez10
          refine lv_iinc (v := z10) (lv' := [(7, .int z10), (5, .long z8), (0, .ref (a1 0)), (1, .int y1), (2, .int y2), (3, .int y3), (4, .int y4)]) hx hb dX10_isSeen_41 hl9 (k := 6) rfl (by rw [ez10]; rfl) (by decide) rfl (fun ls10 hl10 => ?_)
          refine lv_goto (tgt := 6) hx hb dX10_isSeen_44 (by decide) ?_
          exact ih y1 y2 y3 y4 z8 z10 H locs ls10 hP hD hS (lv_sub hl10 [2, 3, 4, 5, 6, 1, 0] rfl) hR
        · replace hR := ifn_ hR c5
          refine lv_iconst (v := (0 : Int32)) hx hb dX10_isSeen_20 (by decide) ?_
          subst hQe
          exact W.zret (ty := .boolean) (v := (0 : Int32)) hx hb hr rfl (fun t ht hW => ⟨⟨(0 : Int32), (), rfl, (Option.some.inj hR).symm, by rw [ht]; exact hP, va_K.moved hW.alike hK, hD⟩, hS.F ht⟩) hS.2.2 dX10_isSeen_21
  unfold rr_X10_isSeen at hR
  refine lv_lconst (v := (0 : Int64)) hx hb dX10_isSeen_0 (by decide) ?_
  refine lv_lstore (lv' := [(5, .long (0 : Int64)), (0, .ref (a1 0)), (1, .int x1), (2, .int x2), (3, .int x3), (4, .int x4)]) hx hb dX10_isSeen_1 hl (by decide) rfl (fun ls1 hl1 => ?_)
  refine lv_iconst (v := (0 : Int32)) hx hb dX10_isSeen_3 (by decide) ?_
  refine lv_istore (lv' := [(7, .int (0 : Int32)), (5, .long (0 : Int64)), (0, .ref (a1 0)), (1, .int x1), (2, .int x2), (3, .int x3), (4, .int x4)]) hx hb dX10_isSeen_4 hl1 (by decide) rfl (fun ls2 hl2 => ?_)
  exact hB6 fu x1 x2 x3 x4 (0 : Int64) (0 : Int32) s.heap [] ls2 hP hD hS (lv_sub hl2 [2, 3, 4, 5, 6, 1, 0] rfl) hR
def rr_X10_isSum (fu : Nat) (x0 : Int32) : Option (Int32) := (rr_X10_in fu x0.toInt64 (1 : Int64) (999 : Int64)).bind (fun q1 => zk_ q1 (some q1))
set_option maxHeartbeats 4000000 in
set_option maxRecDepth 100000 in
theorem cc_X10_isSum (l : Launch) (dC : Nat → ClassId) (dI : Nat → Nat → Nat) (fu : Nat) (sz : Nat) (x0 : Int32) (res : Int32) (hR : rr_X10_isSum fu x0 = some res) : Met l yX10_isSum wsX10_isSum ({ frames := 1, cells := 0, slots := 0, locals := 25 } : Room) (PcF [.int x0] sz (dC, dI) (([] : va_W)) ([])) (va_Qi (fun (r : Int32) (u : Unit) => res = r) (fun u t => at3_ (dC, dI) (([] : va_W)) ([]) (va_A (([] : va_W)) sz) t) (va_A (([] : va_W)) sz)) 0 0 (va_A (([] : va_W)) sz) := by
  refine Met.ofW (cc := cX10_isSum) (maxL := 1) (ret := (some .boolean)) (by decide) rfl ?_
  intro p e s m args below meth c s₁ B hml hv
  obtain ⟨hav, hsz, hP, hK, hD0⟩ := hv
  have hx := B.exec
  have hb := B.bytes
  have hr := B.returns
  have hts := atoms_spec (ws := wsX10_isSum) B.pre
  have hown : s.vm.findClass RX10 = some m.cls := findClass_of_methodNamed B.named
  have hlocks := B.notSynchronized
  subst hsz
  have hD := hD0.self (sz := s.heap.size)
  clear hD0
  generalize hAe : va_A (([] : va_W)) s.heap.size = A at hD ⊢
  have hA : ∀ q : Nat, s.heap.size ≤ q → A q := fun q h => by rw [← hAe]; exact Or.inr h
  have hS : va_S A s.heap s.heap [] := va_S.rf
  generalize hQe : MQ below _ args s 0 0 A = Q
  rw [show entryFrame m args 1 = F0 m 0 ((lg_sl ([.int x0]) ++ List.replicate (1 - (lg_sl ([.int x0])).length) Slot.unset).toArray) [] from by rw [hav]; exact lg_entry_eq m _ _]
  have hl := lv_entry ([.int x0]) (n := 1) (Nat.le_of_ble_eq_true rfl)
  generalize (lg_sl ([.int x0]) ++ List.replicate (1 - (lg_sl ([.int x0])).length) Slot.unset).toArray = ls at hl ⊢
  have hl : lv_has ls 1 [(0, .int x0)] := hl
  unfold rr_X10_isSum at hR
  refine lv_iload_n hx hb dX10_isSum_0 rfl (lv_at hl 0 rfl) ?_
  refine lv_i2l (v := x0.toInt64) hx hb dX10_isSum_1 rfl ?_
  refine lv_lconst (v := (1 : Int64)) hx hb dX10_isSum_2 (by decide) ?_
  refine lv_ldc2 (v := (999 : Int64)) hx hb hown (hts (.constantLong RX10 88 (999)) (List.mem_of_getElem? (i := 1) rfl)) dX10_isSum_3 ?_
  have hR0 := ob_ok hR
  clear hR
  obtain ⟨q1, hq1, hR⟩ := hR0
  refine va_calli (va_runS (As := [.long x0.toInt64, .long (1 : Int64), .long (999 : Int64)]) (rest := []) ⟨hx, hb, hml, hown, hts⟩ (cc_X10_in l dC dI fu s.heap.size x0.toInt64 (1 : Int64) (999 : Int64) q1 hq1) (va_cwS 3 hts gX10_isSum_X10_in rfl rfl rfl (by decide +kernel) ⟨Nat.le_of_ble_eq_true rfl, Nat.le_of_ble_eq_true rfl⟩) (pf_s (nil_K hK) nil_P (nil_D (A := A))) rfl rfl hl.1 rfl (lv_room (Nat.le_of_ble_eq_true rfl)) dX10_isSum_6 ⟨Nat.le_refl _, Nat.le_refl _⟩) hS (fun q _ h => (fr_none hS hA) q h) (fr_none hS hA) (fun r1 v1 t1 H1 locs1 ht1 hvm1 hw1 hB1 hz1 hk1 hS1 => ?_)
  subst hw1
  have hP1 := jn_none hP hk1
  have hD1 := hD
  have hP1 : va_P (dC, dI) vwCl (([] : va_W)) H1 := hP1
  have hD1 : va_D A (([] : va_W)) := hD1
  clear hP hD hS hB1 hk1 hvm1 hz1 ht1
  have z2 := (zk_ok hR).1
  replace hR := (zk_ok hR).2
  subst hQe
  exact W.zret (ty := .boolean) (v := q1) hx hb hr (zk_nar z2) (fun t ht hW => ⟨⟨q1, (), rfl, (Option.some.inj hR).symm, by rw [ht]; exact hP1, va_K.moved hW.alike hK, hD1⟩, hS1.F ht⟩) hS1.2.2 dX10_isSum_9
def rr_X10_nextOrder_100_b (fu : Nat) (rec100 : Int32 → Int32 → ZT_10 → Option (Int32 × ZT_10)) (y5 : Int32) (y6 : Int32) (u1 : ZT_10) : Option (Int32 × ZT_10) := (if y5 ≤ y6 then some ((1 : Int32), u1) else ck_ y6 6 (lt_ (α := Int32) (u1.2.2.2.2.2.2.1.2.1 y6.toNatClampNeg) (fun z28 => ck_ y5 6 (lt_ (α := Int32) (u1.2.2.2.2.2.2.1.2.1 y5.toNatClampNeg) (fun z31 => ck_ y6 6 (ck_ y5 6 (lt_ (α := Int32) (y5 + (-1 : Int32)) (fun z34 => lt_ (α := Int32) (y6 + (1 : Int32)) (fun z35 => rec100 z34 z35 (u1.1, u1.2.1, u1.2.2.1, u1.2.2.2.1, u1.2.2.2.2.1, u1.2.2.2.2.2.1, (u1.2.2.2.2.2.2.1.1, (upd (upd u1.2.2.2.2.2.2.1.2.1 y6.toNatClampNeg z31) y5.toNatClampNeg z28), u1.2.2.2.2.2.2.1.2.2), u1.2.2.2.2.2.2.2))))))))))
def rr_X10_nextOrder_100 (fu : Nat) (n : Nat) : Int32 → Int32 → ZT_10 → Option (Int32 × ZT_10) := lp_ (fun _ _ _ => none) (rr_X10_nextOrder_100_b fu) n
def rr_X10_nextOrder_41_b (fu : Nat) (rec41 : Int32 → Int32 → Int32 → ZT_10 → Option (Int32 × ZT_10)) (y1 : Int32) (y2 : Int32) (y3 : Int32) (u1 : ZT_10) : Option (Int32 × ZT_10) := ck_ y3 6 (ck_ y2 6 ((if (u1.2.2.2.2.2.2.1.2.1 y2.toNatClampNeg) ≤ (u1.2.2.2.2.2.2.1.2.1 y3.toNatClampNeg) then ck_ y2 6 (lt_ (α := Int32) (u1.2.2.2.2.2.2.1.2.1 y2.toNatClampNeg) (fun z15 => ck_ y3 6 (lt_ (α := Int32) (u1.2.2.2.2.2.2.1.2.1 y3.toNatClampNeg) (fun z18 => ck_ y2 6 (ck_ y3 6 (lt_ (α := Int32) (y1 - (1 : Int32)) (fun z21 => lt_ (α := Int32) (y2 + (1 : Int32)) (fun z23 => rr_X10_nextOrder_100 fu fu z21 z23 (u1.1, u1.2.1, u1.2.2.1, u1.2.2.2.1, u1.2.2.2.2.1, u1.2.2.2.2.2.1, (u1.2.2.2.2.2.2.1.1, (upd (upd u1.2.2.2.2.2.2.1.2.1 y2.toNatClampNeg z18) y3.toNatClampNeg z15), u1.2.2.2.2.2.2.1.2.2), u1.2.2.2.2.2.2.2))))))))) else lt_ (α := Int32) (y3 + (-1 : Int32)) (fun z25 => rec41 y1 y2 z25 u1))))
def rr_X10_nextOrder_41 (fu : Nat) (n : Nat) : Int32 → Int32 → Int32 → ZT_10 → Option (Int32 × ZT_10) := lp_ (fun _ _ _ _ => none) (rr_X10_nextOrder_41_b fu) n
def rr_X10_nextOrder_31 (fu : Nat) (y1 : Int32) (y2 : Int32) (u1 : ZT_10) : Option (Int32 × ZT_10) := (if (0 : Int32) ≤ y2 then lt_ (α := Int32) (y1 - (1 : Int32)) (fun z9 => rr_X10_nextOrder_41 fu fu y1 y2 z9 u1) else some ((0 : Int32), u1))
def rr_X10_nextOrder_4_b (fu : Nat) (rec4 : Int32 → Int32 → ZT_10 → Option (Int32 × ZT_10)) (y1 : Int32) (y2 : Int32) (u1 : ZT_10) : Option (Int32 × ZT_10) := (if y2 < (0 : Int32) then rr_X10_nextOrder_31 fu y1 y2 u1 else ck_ y2 6 (ck_ (y2 + (1 : Int32)) 6 ((if (u1.2.2.2.2.2.2.1.2.1 y2.toNatClampNeg) ≤ (u1.2.2.2.2.2.2.1.2.1 (y2 + (1 : Int32)).toNatClampNeg) then rr_X10_nextOrder_31 fu y1 y2 u1 else lt_ (α := Int32) (y2 + (-1 : Int32)) (fun z7 => rec4 y1 z7 u1)))))
def rr_X10_nextOrder_4 (fu : Nat) (n : Nat) : Int32 → Int32 → ZT_10 → Option (Int32 × ZT_10) := lp_ (fun _ _ _ => none) (rr_X10_nextOrder_4_b fu) n
def rr_X10_nextOrder (fu : Nat) (x1 : Int32) (s1 : ZT_10) : Option (Int32 × ZT_10) := lt_ (α := Int32) (x1 - (2 : Int32)) (fun z1 => rr_X10_nextOrder_4 fu fu x1 z1 s1)
set_option maxHeartbeats 4000000 in
set_option maxRecDepth 100000 in
theorem cc_X10_nextOrder (l : Launch) (dC : Nat → ClassId) (dI : Nat → Nat → Nat) (fu : Nat) (a1 : Nat → Nat) (k1 : Nat → ClassId) (sz : Nat) (x1 : Int32) (s1 : ZT_10) (res : Int32 × ZT_10) (hR : rr_X10_nextOrder fu x1 s1 = some res) : Met l yX10_nextOrder wsX10_nextOrder ({ frames := 0, cells := 0, slots := 0, locals := 0 } : Room) (PcF [.ref (a1 0), .int x1] sz (dC, dI) (zc_10 a1 k1 s1) (zt_10 k1)) (va_Qi (fun (r : Int32) (u : ZT_10) => res = (r, u)) (fun u t => at3_ (dC, dI) (zc_10 a1 k1 u) (zt_10 k1) (va_A (zc_10 a1 k1 s1) sz) t) (va_A (zc_10 a1 k1 s1) sz)) 0 0 (va_A (zc_10 a1 k1 s1) sz) := by
  refine Met.ofW (cc := cX10_nextOrder) (maxL := 7) (ret := (some .boolean)) (by decide) rfl ?_
  intro p e s m args below meth c s₁ B hml hv
  obtain ⟨hav, hsz, hP, hK, hD0⟩ := hv
  have hx := B.exec
  have hb := B.bytes
  have hr := B.returns
  have hts := atoms_spec (ws := wsX10_nextOrder) B.pre
  have hown : s.vm.findClass RX10 = some m.cls := findClass_of_methodNamed B.named
  have hlocks := B.notSynchronized
  have hin10 : ∀ w ∈ wsX100, w ∈ wsX10_nextOrder := fun w h => List.mem_cons_of_mem _ (List.mem_append_right _ h)
  subst hsz
  have hD := hD0.self (sz := s.heap.size)
  clear hD0
  generalize hAe : va_A (zc_10 a1 k1 s1) s.heap.size = A at hD ⊢
  have hA : ∀ q : Nat, s.heap.size ≤ q → A q := fun q h => by rw [← hAe]; exact Or.inr h
  have hS : va_S A s.heap s.heap [] := va_S.rf
  generalize hQe : MQ below _ args s 0 0 A = Q
  rw [show entryFrame m args 7 = F0 m 0 ((lg_sl ([.ref (a1 0), .int x1]) ++ List.replicate (7 - (lg_sl ([.ref (a1 0), .int x1])).length) Slot.unset).toArray) [] from by rw [hav]; exact lg_entry_eq m _ _]
  have hl := lv_entry ([.ref (a1 0), .int x1]) (n := 7) (Nat.le_of_ble_eq_true rfl)
  generalize (lg_sl ([.ref (a1 0), .int x1]) ++ List.replicate (7 - (lg_sl ([.ref (a1 0), .int x1])).length) Slot.unset).toArray = ls at hl ⊢
  have hl : lv_has ls 7 [(0, .ref (a1 0)), (1, .int x1)] := hl
  have hB100 : ∀ (n : Nat), ∀ (y5 : Int32) (y6 : Int32) (u1 : ZT_10) (H : Heap) (locs : List Loc) (ls : Array Slot), va_P (dC, dI) vwCl (zc_10 a1 k1 u1) H → va_D A (zc_10 a1 k1 u1) → va_S A s.heap H locs → lv_has ls 7 [(0, .ref (a1 0)), (5, .int y5), (6, .int y6)] → rr_X10_nextOrder_100 fu n y5 y6 u1 = some res → W p l e ({ frames := 0, cells := 0, slots := 0, locals := 0 } : Room) s m args below meth c H locs 0 0 Q (F0 m 100 ls []) := by
    intro  n
    induction n with
    | zero => intro y5 y6 u1 H locs ls hP hD hS hl hR; exact absurd hR (by intro h; cases h)
    | succ n ih =>
      intro y5 y6 u1 H locs ls hP hD hS hl hR
      replace hR : rr_X10_nextOrder_100_b fu (rr_X10_nextOrder_100 fu n) y5 y6 u1 = some res := hR
      unfold rr_X10_nextOrder_100_b at hR
      refine lv_iload hx hb dX10_nextOrder_100 (lv_at hl 2 rfl) ?_
      refine lv_iload hx hb dX10_nextOrder_102 (lv_at hl 1 rfl) ?_
      refine lv_icmp_ge (tgt := 148) hx hb dX10_nextOrder_104 (by decide) (fun c26 => ?_) (fun c26 => ?_)
      · replace hR := ifp_ hR c26
        refine lv_iconst (v := (1 : Int32)) hx hb dX10_nextOrder_148 (by decide) ?_
        subst hQe
        exact W.zret (ty := .boolean) (v := (1 : Int32)) hx hb hr rfl (fun t ht hW => ⟨⟨(1 : Int32), u1, rfl, (Option.some.inj hR).symm, by rw [ht]; exact hP, va_K.moved hW.alike hK, hD⟩, hS.F ht⟩) hS.2.2 dX10_nextOrder_149
      · replace hR := ifn_ hR c26
        refine lv_aload_n hx hb dX10_nextOrder_107 rfl (lv_at hl 0 rfl) ?_
        refine va_get (D := (dC, dI)) (ci := 10) (v := .ref (a1 13)) (C := RX10) (T := TX10) (N := 35) hx hb hts hin10 hown hK hP 0 rfl rfl 25 (by decide) (hts (.fieldLink RX10 46 "OldestCoinsModel" "order" "[I") (List.mem_of_getElem? (i := 1) rfl)) (fun _ h9 => h9) rfl dX10_nextOrder_108 ?_
        refine lv_iload hx hb dX10_nextOrder_111 (lv_at hl 2 rfl) ?_
        have i27 := (ck_ok hR).1
        replace hR := (ck_ok hR).2
        refine va_iald (f := u1.2.2.2.2.2.2.1.2.1) hx hb hK hP 13 12 rfl rfl i27 dX10_nextOrder_113 ?_
        refine lv_topi (fun z28 ez28 => ?_)
        replace hR := lt_ok hR ez28
        refine lv_istore (lv' := [(4, .int z28), (0, .ref (a1 0)), (5, .int y5), (6, .int y6)]) hx hb dX10_nextOrder_114 hl (by decide) rfl (fun ls29 hl29 => ?_)
        refine lv_aload_n hx hb dX10_nextOrder_116 rfl (lv_at hl29 1 rfl) ?_
        refine va_get (D := (dC, dI)) (ci := 10) (v := .ref (a1 13)) (C := RX10) (T := TX10) (N := 35) hx hb hts hin10 hown hK hP 0 rfl rfl 25 (by decide) (hts (.fieldLink RX10 46 "OldestCoinsModel" "order" "[I") (List.mem_of_getElem? (i := 1) rfl)) (fun _ h9 => h9) rfl dX10_nextOrder_117 ?_
        refine lv_iload hx hb dX10_nextOrder_120 (lv_at hl29 3 rfl) ?_
        refine lv_aload_n hx hb dX10_nextOrder_122 rfl (lv_at hl29 1 rfl) ?_
        refine va_get (D := (dC, dI)) (ci := 10) (v := .ref (a1 13)) (C := RX10) (T := TX10) (N := 35) hx hb hts hin10 hown hK hP 0 rfl rfl 25 (by decide) (hts (.fieldLink RX10 46 "OldestCoinsModel" "order" "[I") (List.mem_of_getElem? (i := 1) rfl)) (fun _ h9 => h9) rfl dX10_nextOrder_123 ?_
        refine lv_iload hx hb dX10_nextOrder_126 (lv_at hl29 2 rfl) ?_
        have i30 := (ck_ok hR).1
        replace hR := (ck_ok hR).2
        refine va_iald (f := u1.2.2.2.2.2.2.1.2.1) hx hb hK hP 13 12 rfl rfl i30 dX10_nextOrder_128 ?_
        refine lv_topi (fun z31 ez31 => ?_)
        replace hR := lt_ok hR ez31
        have i32 := (ck_ok hR).1
        replace hR := (ck_ok hR).2
        refine va_iast (f := u1.2.2.2.2.2.2.1.2.1) hx hb hK hP hD hS 13 12 rfl rfl i32 dX10_nextOrder_129 (fun H32 locs32 hP32 hD32 hS32 => ?_)
        have hP32 : va_P (dC, dI) vwCl (zc_10 a1 k1 (u1.1, u1.2.1, u1.2.2.1, u1.2.2.2.1, u1.2.2.2.2.1, u1.2.2.2.2.2.1, (u1.2.2.2.2.2.2.1.1, (upd u1.2.2.2.2.2.2.1.2.1 y6.toNatClampNeg z31), u1.2.2.2.2.2.2.1.2.2), u1.2.2.2.2.2.2.2)) H32 := hP32
        have hD32 : va_D A (zc_10 a1 k1 (u1.1, u1.2.1, u1.2.2.1, u1.2.2.2.1, u1.2.2.2.2.1, u1.2.2.2.2.2.1, (u1.2.2.2.2.2.2.1.1, (upd u1.2.2.2.2.2.2.1.2.1 y6.toNatClampNeg z31), u1.2.2.2.2.2.2.1.2.2), u1.2.2.2.2.2.2.2)) := hD32
        clear hP hD hS
        refine lv_aload_n hx hb dX10_nextOrder_130 rfl (lv_at hl29 1 rfl) ?_
        refine va_get (D := (dC, dI)) (ci := 10) (v := .ref (a1 13)) (C := RX10) (T := TX10) (N := 35) hx hb hts hin10 hown hK hP32 0 rfl rfl 25 (by decide) (hts (.fieldLink RX10 46 "OldestCoinsModel" "order" "[I") (List.mem_of_getElem? (i := 1) rfl)) (fun _ h9 => h9) rfl dX10_nextOrder_131 ?_
        refine lv_iload hx hb dX10_nextOrder_134 (lv_at hl29 2 rfl) ?_
        refine lv_iload hx hb dX10_nextOrder_136 (lv_at hl29 0 rfl) ?_
        have i33 := (ck_ok hR).1
        replace hR := (ck_ok hR).2
        refine va_iast (f := (upd u1.2.2.2.2.2.2.1.2.1 y6.toNatClampNeg z31)) hx hb hK hP32 hD32 hS32 13 12 rfl rfl i33 dX10_nextOrder_138 (fun H33 locs33 hP33 hD33 hS33 => ?_)
        have hP33 : va_P (dC, dI) vwCl (zc_10 a1 k1 (u1.1, u1.2.1, u1.2.2.1, u1.2.2.2.1, u1.2.2.2.2.1, u1.2.2.2.2.2.1, (u1.2.2.2.2.2.2.1.1, (upd (upd u1.2.2.2.2.2.2.1.2.1 y6.toNatClampNeg z31) y5.toNatClampNeg z28), u1.2.2.2.2.2.2.1.2.2), u1.2.2.2.2.2.2.2)) H33 := hP33
        have hD33 : va_D A (zc_10 a1 k1 (u1.1, u1.2.1, u1.2.2.1, u1.2.2.2.1, u1.2.2.2.2.1, u1.2.2.2.2.2.1, (u1.2.2.2.2.2.2.1.1, (upd (upd u1.2.2.2.2.2.2.1.2.1 y6.toNatClampNeg z31) y5.toNatClampNeg z28), u1.2.2.2.2.2.2.1.2.2), u1.2.2.2.2.2.2.2)) := hD33
        clear hP32 hD32 hS32
        obtain ⟨z34, ez34⟩ : ∃ y : Int32, y = (y5 + (-1 : Int32)) := ⟨_, rfl⟩
        replace hR := lt_ok hR ez34
        refine lv_iinc (v := z34) (lv' := [(5, .int z34), (4, .int z28), (0, .ref (a1 0)), (6, .int y6)]) hx hb dX10_nextOrder_139 hl29 (k := 2) rfl (by rw [ez34]; rfl) (by decide) rfl (fun ls34 hl34 => ?_)
        obtain ⟨z35, ez35⟩ : ∃ y : Int32, y = (y6 + (1 : Int32)) := ⟨_, rfl⟩
        replace hR := lt_ok hR ez35
        refine lv_iinc (v := z35) (lv' := [(6, .int z35), (5, .int z34), (4, .int z28), (0, .ref (a1 0))]) hx hb dX10_nextOrder_142 hl34 (k := 3) rfl (by rw [ez35]; rfl) (by decide) rfl (fun ls35 hl35 => ?_)
        refine lv_goto (tgt := 100) hx hb dX10_nextOrder_145 (by decide) ?_
        exact ih z34 z35 (u1.1, u1.2.1, u1.2.2.1, u1.2.2.2.1, u1.2.2.2.2.1, u1.2.2.2.2.2.1, (u1.2.2.2.2.2.2.1.1, (upd (upd u1.2.2.2.2.2.2.1.2.1 y6.toNatClampNeg z31) y5.toNatClampNeg z28), u1.2.2.2.2.2.2.1.2.2), u1.2.2.2.2.2.2.2) H33 locs33 ls35 hP33 hD33 hS33 (lv_sub hl35 [3, 1, 0] rfl) hR
  have hB41 : ∀ (n : Nat), ∀ (y1 : Int32) (y2 : Int32) (y3 : Int32) (u1 : ZT_10) (H : Heap) (locs : List Loc) (ls : Array Slot), va_P (dC, dI) vwCl (zc_10 a1 k1 u1) H → va_D A (zc_10 a1 k1 u1) → va_S A s.heap H locs → lv_has ls 7 [(0, .ref (a1 0)), (1, .int y1), (2, .int y2), (3, .int y3)] → rr_X10_nextOrder_41 fu n y1 y2 y3 u1 = some res → W p l e ({ frames := 0, cells := 0, slots := 0, locals := 0 } : Room) s m args below meth c H locs 0 0 Q (F0 m 41 ls []) := by
    intro  n
    induction n with
    | zero => intro y1 y2 y3 u1 H locs ls hP hD hS hl hR; exact absurd hR (by intro h; cases h)
    | succ n ih =>
      intro y1 y2 y3 u1 H locs ls hP hD hS hl hR
      replace hR : rr_X10_nextOrder_41_b fu (rr_X10_nextOrder_41 fu n) y1 y2 y3 u1 = some res := hR
      unfold rr_X10_nextOrder_41_b at hR
      refine lv_aload_n hx hb dX10_nextOrder_41 rfl (lv_at hl 0 rfl) ?_
      refine va_get (D := (dC, dI)) (ci := 10) (v := .ref (a1 13)) (C := RX10) (T := TX10) (N := 35) hx hb hts hin10 hown hK hP 0 rfl rfl 25 (by decide) (hts (.fieldLink RX10 46 "OldestCoinsModel" "order" "[I") (List.mem_of_getElem? (i := 1) rfl)) (fun _ h9 => h9) rfl dX10_nextOrder_42 ?_
      refine lv_iload_n hx hb dX10_nextOrder_45 rfl (lv_at hl 3 rfl) ?_
      have i11 := (ck_ok hR).1
      replace hR := (ck_ok hR).2
      refine va_iald (f := u1.2.2.2.2.2.2.1.2.1) hx hb hK hP 13 12 rfl rfl i11 dX10_nextOrder_46 ?_
      refine lv_aload_n hx hb dX10_nextOrder_47 rfl (lv_at hl 0 rfl) ?_
      refine va_get (D := (dC, dI)) (ci := 10) (v := .ref (a1 13)) (C := RX10) (T := TX10) (N := 35) hx hb hts hin10 hown hK hP 0 rfl rfl 25 (by decide) (hts (.fieldLink RX10 46 "OldestCoinsModel" "order" "[I") (List.mem_of_getElem? (i := 1) rfl)) (fun _ h9 => h9) rfl dX10_nextOrder_48 ?_
      refine lv_iload_n hx hb dX10_nextOrder_51 rfl (lv_at hl 2 rfl) ?_
      have i12 := (ck_ok hR).1
      replace hR := (ck_ok hR).2
      refine va_iald (f := u1.2.2.2.2.2.2.1.2.1) hx hb hK hP 13 12 rfl rfl i12 dX10_nextOrder_52 ?_
      refine lv_icmp_ge (tgt := 62) hx hb dX10_nextOrder_53 (by decide) (fun c13 => ?_) (fun c13 => ?_)
      · replace hR := ifp_ hR c13
        refine lv_aload_n hx hb dX10_nextOrder_62 rfl (lv_at hl 0 rfl) ?_
        refine va_get (D := (dC, dI)) (ci := 10) (v := .ref (a1 13)) (C := RX10) (T := TX10) (N := 35) hx hb hts hin10 hown hK hP 0 rfl rfl 25 (by decide) (hts (.fieldLink RX10 46 "OldestCoinsModel" "order" "[I") (List.mem_of_getElem? (i := 1) rfl)) (fun _ h9 => h9) rfl dX10_nextOrder_63 ?_
        refine lv_iload_n hx hb dX10_nextOrder_66 rfl (lv_at hl 2 rfl) ?_
        have i14 := (ck_ok hR).1
        replace hR := (ck_ok hR).2
        refine va_iald (f := u1.2.2.2.2.2.2.1.2.1) hx hb hK hP 13 12 rfl rfl i14 dX10_nextOrder_67 ?_
        refine lv_topi (fun z15 ez15 => ?_)
        replace hR := lt_ok hR ez15
        refine lv_istore (lv' := [(4, .int z15), (0, .ref (a1 0)), (1, .int y1), (2, .int y2), (3, .int y3)]) hx hb dX10_nextOrder_68 hl (by decide) rfl (fun ls16 hl16 => ?_)
        refine lv_aload_n hx hb dX10_nextOrder_70 rfl (lv_at hl16 1 rfl) ?_
        refine va_get (D := (dC, dI)) (ci := 10) (v := .ref (a1 13)) (C := RX10) (T := TX10) (N := 35) hx hb hts hin10 hown hK hP 0 rfl rfl 25 (by decide) (hts (.fieldLink RX10 46 "OldestCoinsModel" "order" "[I") (List.mem_of_getElem? (i := 1) rfl)) (fun _ h9 => h9) rfl dX10_nextOrder_71 ?_
        refine lv_iload_n hx hb dX10_nextOrder_74 rfl (lv_at hl16 3 rfl) ?_
        refine lv_aload_n hx hb dX10_nextOrder_75 rfl (lv_at hl16 1 rfl) ?_
        refine va_get (D := (dC, dI)) (ci := 10) (v := .ref (a1 13)) (C := RX10) (T := TX10) (N := 35) hx hb hts hin10 hown hK hP 0 rfl rfl 25 (by decide) (hts (.fieldLink RX10 46 "OldestCoinsModel" "order" "[I") (List.mem_of_getElem? (i := 1) rfl)) (fun _ h9 => h9) rfl dX10_nextOrder_76 ?_
        refine lv_iload_n hx hb dX10_nextOrder_79 rfl (lv_at hl16 4 rfl) ?_
        have i17 := (ck_ok hR).1
        replace hR := (ck_ok hR).2
        refine va_iald (f := u1.2.2.2.2.2.2.1.2.1) hx hb hK hP 13 12 rfl rfl i17 dX10_nextOrder_80 ?_
        refine lv_topi (fun z18 ez18 => ?_)
        replace hR := lt_ok hR ez18
        have i19 := (ck_ok hR).1
        replace hR := (ck_ok hR).2
        refine va_iast (f := u1.2.2.2.2.2.2.1.2.1) hx hb hK hP hD hS 13 12 rfl rfl i19 dX10_nextOrder_81 (fun H19 locs19 hP19 hD19 hS19 => ?_)
        have hP19 : va_P (dC, dI) vwCl (zc_10 a1 k1 (u1.1, u1.2.1, u1.2.2.1, u1.2.2.2.1, u1.2.2.2.2.1, u1.2.2.2.2.2.1, (u1.2.2.2.2.2.2.1.1, (upd u1.2.2.2.2.2.2.1.2.1 y2.toNatClampNeg z18), u1.2.2.2.2.2.2.1.2.2), u1.2.2.2.2.2.2.2)) H19 := hP19
        have hD19 : va_D A (zc_10 a1 k1 (u1.1, u1.2.1, u1.2.2.1, u1.2.2.2.1, u1.2.2.2.2.1, u1.2.2.2.2.2.1, (u1.2.2.2.2.2.2.1.1, (upd u1.2.2.2.2.2.2.1.2.1 y2.toNatClampNeg z18), u1.2.2.2.2.2.2.1.2.2), u1.2.2.2.2.2.2.2)) := hD19
        clear hP hD hS
        refine lv_aload_n hx hb dX10_nextOrder_82 rfl (lv_at hl16 1 rfl) ?_
        refine va_get (D := (dC, dI)) (ci := 10) (v := .ref (a1 13)) (C := RX10) (T := TX10) (N := 35) hx hb hts hin10 hown hK hP19 0 rfl rfl 25 (by decide) (hts (.fieldLink RX10 46 "OldestCoinsModel" "order" "[I") (List.mem_of_getElem? (i := 1) rfl)) (fun _ h9 => h9) rfl dX10_nextOrder_83 ?_
        refine lv_iload_n hx hb dX10_nextOrder_86 rfl (lv_at hl16 4 rfl) ?_
        refine lv_iload hx hb dX10_nextOrder_87 (lv_at hl16 0 rfl) ?_
        have i20 := (ck_ok hR).1
        replace hR := (ck_ok hR).2
        refine va_iast (f := (upd u1.2.2.2.2.2.2.1.2.1 y2.toNatClampNeg z18)) hx hb hK hP19 hD19 hS19 13 12 rfl rfl i20 dX10_nextOrder_89 (fun H20 locs20 hP20 hD20 hS20 => ?_)
        have hP20 : va_P (dC, dI) vwCl (zc_10 a1 k1 (u1.1, u1.2.1, u1.2.2.1, u1.2.2.2.1, u1.2.2.2.2.1, u1.2.2.2.2.2.1, (u1.2.2.2.2.2.2.1.1, (upd (upd u1.2.2.2.2.2.2.1.2.1 y2.toNatClampNeg z18) y3.toNatClampNeg z15), u1.2.2.2.2.2.2.1.2.2), u1.2.2.2.2.2.2.2)) H20 := hP20
        have hD20 : va_D A (zc_10 a1 k1 (u1.1, u1.2.1, u1.2.2.1, u1.2.2.2.1, u1.2.2.2.2.1, u1.2.2.2.2.2.1, (u1.2.2.2.2.2.2.1.1, (upd (upd u1.2.2.2.2.2.2.1.2.1 y2.toNatClampNeg z18) y3.toNatClampNeg z15), u1.2.2.2.2.2.2.1.2.2), u1.2.2.2.2.2.2.2)) := hD20
        clear hP19 hD19 hS19
        refine lv_iload_n hx hb dX10_nextOrder_90 rfl (lv_at hl16 2 rfl) ?_
        refine lv_iconst (v := (1 : Int32)) hx hb dX10_nextOrder_91 (by decide) ?_
        refine lv_isub hx hb dX10_nextOrder_92 ?_
        refine lv_topi (fun z21 ez21 => ?_)
        replace hR := lt_ok hR ez21
        refine lv_istore (lv' := [(5, .int z21), (4, .int z15), (0, .ref (a1 0)), (1, .int y1), (2, .int y2), (3, .int y3)]) hx hb dX10_nextOrder_93 hl16 (by decide) rfl (fun ls22 hl22 => ?_)
        refine lv_iload_n hx hb dX10_nextOrder_95 rfl (lv_at hl22 4 rfl) ?_
        refine lv_iconst (v := (1 : Int32)) hx hb dX10_nextOrder_96 (by decide) ?_
        refine lv_iadd hx hb dX10_nextOrder_97 ?_
        refine lv_topi (fun z23 ez23 => ?_)
        replace hR := lt_ok hR ez23
        refine lv_istore (lv' := [(6, .int z23), (5, .int z21), (4, .int z15), (0, .ref (a1 0)), (1, .int y1), (2, .int y2), (3, .int y3)]) hx hb dX10_nextOrder_98 hl22 (by decide) rfl (fun ls24 hl24 => ?_)
        exact hB100 fu z21 z23 (u1.1, u1.2.1, u1.2.2.1, u1.2.2.2.1, u1.2.2.2.2.1, u1.2.2.2.2.2.1, (u1.2.2.2.2.2.2.1.1, (upd (upd u1.2.2.2.2.2.2.1.2.1 y2.toNatClampNeg z18) y3.toNatClampNeg z15), u1.2.2.2.2.2.2.1.2.2), u1.2.2.2.2.2.2.2) H20 locs20 ls24 hP20 hD20 hS20 (lv_sub hl24 [3, 1, 0] rfl) hR
      · replace hR := ifn_ hR c13
        obtain ⟨z25, ez25⟩ : ∃ y : Int32, y = (y3 + (-1 : Int32)) := ⟨_, rfl⟩
        replace hR := lt_ok hR ez25
        refine lv_iinc (v := z25) (lv' := [(3, .int z25), (0, .ref (a1 0)), (1, .int y1), (2, .int y2)]) hx hb dX10_nextOrder_56 hl (k := 3) rfl (by rw [ez25]; rfl) (by decide) rfl (fun ls25 hl25 => ?_)
        refine lv_goto (tgt := 41) hx hb dX10_nextOrder_59 (by decide) ?_
        exact ih y1 y2 z25 u1 H locs ls25 hP hD hS (lv_sub hl25 [1, 2, 3, 0] rfl) hR
  have hB31 : ∀ (y1 : Int32) (y2 : Int32) (u1 : ZT_10) (H : Heap) (locs : List Loc) (ls : Array Slot), va_P (dC, dI) vwCl (zc_10 a1 k1 u1) H → va_D A (zc_10 a1 k1 u1) → va_S A s.heap H locs → lv_has ls 7 [(0, .ref (a1 0)), (1, .int y1), (2, .int y2)] → rr_X10_nextOrder_31 fu y1 y2 u1 = some res → W p l e ({ frames := 0, cells := 0, slots := 0, locals := 0 } : Room) s m args below meth c H locs 0 0 Q (F0 m 31 ls []) := by
    intro  y1 y2 u1 H locs ls hP hD hS hl hR
    unfold rr_X10_nextOrder_31 at hR
    refine lv_iload_n hx hb dX10_nextOrder_31 rfl (lv_at hl 2 rfl) ?_
    refine lv_if_ge (tgt := 37) hx hb dX10_nextOrder_32 (by decide) (fun c8 => ?_) (fun c8 => ?_)
    · replace hR := ifp_ hR c8
      refine lv_iload_n hx hb dX10_nextOrder_37 rfl (lv_at hl 1 rfl) ?_
      refine lv_iconst (v := (1 : Int32)) hx hb dX10_nextOrder_38 (by decide) ?_
      refine lv_isub hx hb dX10_nextOrder_39 ?_
      refine lv_topi (fun z9 ez9 => ?_)
      replace hR := lt_ok hR ez9
      refine lv_istore_n (lv' := [(3, .int z9), (0, .ref (a1 0)), (1, .int y1), (2, .int y2)]) hx hb dX10_nextOrder_40 rfl hl (by decide) rfl (fun ls10 hl10 => ?_)
      exact hB41 fu y1 y2 z9 u1 H locs ls10 hP hD hS (lv_sub hl10 [1, 2, 3, 0] rfl) hR
    · replace hR := ifn_ hR c8
      refine lv_iconst (v := (0 : Int32)) hx hb dX10_nextOrder_35 (by decide) ?_
      subst hQe
      exact W.zret (ty := .boolean) (v := (0 : Int32)) hx hb hr rfl (fun t ht hW => ⟨⟨(0 : Int32), u1, rfl, (Option.some.inj hR).symm, by rw [ht]; exact hP, va_K.moved hW.alike hK, hD⟩, hS.F ht⟩) hS.2.2 dX10_nextOrder_36
  have hB4 : ∀ (n : Nat), ∀ (y1 : Int32) (y2 : Int32) (u1 : ZT_10) (H : Heap) (locs : List Loc) (ls : Array Slot), va_P (dC, dI) vwCl (zc_10 a1 k1 u1) H → va_D A (zc_10 a1 k1 u1) → va_S A s.heap H locs → lv_has ls 7 [(0, .ref (a1 0)), (1, .int y1), (2, .int y2)] → rr_X10_nextOrder_4 fu n y1 y2 u1 = some res → W p l e ({ frames := 0, cells := 0, slots := 0, locals := 0 } : Room) s m args below meth c H locs 0 0 Q (F0 m 4 ls []) := by
    intro  n
    induction n with
    | zero => intro y1 y2 u1 H locs ls hP hD hS hl hR; exact absurd hR (by intro h; cases h)
    | succ n ih =>
      intro y1 y2 u1 H locs ls hP hD hS hl hR
      replace hR : rr_X10_nextOrder_4_b fu (rr_X10_nextOrder_4 fu n) y1 y2 u1 = some res := hR
      unfold rr_X10_nextOrder_4_b at hR
      refine lv_iload_n hx hb dX10_nextOrder_4 rfl (lv_at hl 2 rfl) ?_
      refine lv_if_lt (tgt := 31) hx hb dX10_nextOrder_5 (by decide) (fun c3 => ?_) (fun c3 => ?_)
      · replace hR := ifp_ hR c3
        exact hB31 y1 y2 u1 H locs ls hP hD hS (lv_sub hl [0, 1, 2] rfl) hR
      · replace hR := ifn_ hR c3
        refine lv_aload_n hx hb dX10_nextOrder_8 rfl (lv_at hl 0 rfl) ?_
        refine va_get (D := (dC, dI)) (ci := 10) (v := .ref (a1 13)) (C := RX10) (T := TX10) (N := 35) hx hb hts hin10 hown hK hP 0 rfl rfl 25 (by decide) (hts (.fieldLink RX10 46 "OldestCoinsModel" "order" "[I") (List.mem_of_getElem? (i := 1) rfl)) (fun _ h9 => h9) rfl dX10_nextOrder_9 ?_
        refine lv_iload_n hx hb dX10_nextOrder_12 rfl (lv_at hl 2 rfl) ?_
        have i4 := (ck_ok hR).1
        replace hR := (ck_ok hR).2
        refine va_iald (f := u1.2.2.2.2.2.2.1.2.1) hx hb hK hP 13 12 rfl rfl i4 dX10_nextOrder_13 ?_
        refine lv_aload_n hx hb dX10_nextOrder_14 rfl (lv_at hl 0 rfl) ?_
        refine va_get (D := (dC, dI)) (ci := 10) (v := .ref (a1 13)) (C := RX10) (T := TX10) (N := 35) hx hb hts hin10 hown hK hP 0 rfl rfl 25 (by decide) (hts (.fieldLink RX10 46 "OldestCoinsModel" "order" "[I") (List.mem_of_getElem? (i := 1) rfl)) (fun _ h9 => h9) rfl dX10_nextOrder_15 ?_
        refine lv_iload_n hx hb dX10_nextOrder_18 rfl (lv_at hl 2 rfl) ?_
        refine lv_iconst (v := (1 : Int32)) hx hb dX10_nextOrder_19 (by decide) ?_
        refine lv_iadd hx hb dX10_nextOrder_20 ?_
        have i5 := (ck_ok hR).1
        replace hR := (ck_ok hR).2
        refine va_iald (f := u1.2.2.2.2.2.2.1.2.1) hx hb hK hP 13 12 rfl rfl i5 dX10_nextOrder_21 ?_
        refine lv_icmp_le (tgt := 31) hx hb dX10_nextOrder_22 (by decide) (fun c6 => ?_) (fun c6 => ?_)
        · replace hR := ifp_ hR c6
          exact hB31 y1 y2 u1 H locs ls hP hD hS (lv_sub hl [0, 1, 2] rfl) hR
        · replace hR := ifn_ hR c6
          obtain ⟨z7, ez7⟩ : ∃ y : Int32, y = (y2 + (-1 : Int32)) := ⟨_, rfl⟩
          replace hR := lt_ok hR ez7
          refine lv_iinc (v := z7) (lv' := [(2, .int z7), (0, .ref (a1 0)), (1, .int y1)]) hx hb dX10_nextOrder_25 hl (k := 2) rfl (by rw [ez7]; rfl) (by decide) rfl (fun ls7 hl7 => ?_)
          refine lv_goto (tgt := 4) hx hb dX10_nextOrder_28 (by decide) ?_
          exact ih y1 z7 u1 H locs ls7 hP hD hS (lv_sub hl7 [1, 2, 0] rfl) hR
  unfold rr_X10_nextOrder at hR
  refine lv_iload_n hx hb dX10_nextOrder_0 rfl (lv_at hl 1 rfl) ?_
  refine lv_iconst (v := (2 : Int32)) hx hb dX10_nextOrder_1 (by decide) ?_
  refine lv_isub hx hb dX10_nextOrder_2 ?_
  refine lv_topi (fun z1 ez1 => ?_)
  replace hR := lt_ok hR ez1
  refine lv_istore_n (lv' := [(2, .int z1), (0, .ref (a1 0)), (1, .int x1)]) hx hb dX10_nextOrder_3 rfl hl (by decide) rfl (fun ls2 hl2 => ?_)
  exact hB4 fu x1 z1 s1 s.heap [] ls2 hP hD hS (lv_sub hl2 [1, 2, 0] rfl) hR
