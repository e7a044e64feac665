def rr_X4_nextPaid (fu : Nat) (x1 : Int64) (s1 : ZT_4) : Option (Int32) := (rr_J13_numberOfTrailingZeros_95d88 fu x1).bind (fun q1 => some (q1 &&& (63 : Int32)))
set_option maxHeartbeats 4000000 in
set_option maxRecDepth 100000 in
theorem cc_X4_nextPaid (l : Launch) (dC : Nat → ClassId) (dI : Nat → Nat → Nat) (fu : Nat) (a1 : Nat → Nat) (k1 : Nat → ClassId) (sz : Nat) (x1 : Int64) (s1 : ZT_4) (res : Int32) (hR : rr_X4_nextPaid fu x1 s1 = some res) : Met l yX4_nextPaid wsX4_nextPaid ({ frames := 2, cells := 0, slots := 0, locals := 43 } : Room) (PcF [.ref (a1 0), .long x1] sz (dC, dI) (zc_4 a1 k1 s1) (zt_4 k1)) (va_Qi (fun (r : Int32) (u : Unit) => res = r) (fun u t => at3_ (dC, dI) (zc_4 a1 k1 s1) (zt_4 k1) (va_A (zc_4 a1 k1 s1) sz) t) (va_A (zc_4 a1 k1 s1) sz)) 0 0 (va_A (zc_4 a1 k1 s1) sz) := by
  refine Met.ofW (cc := cX4_nextPaid) (maxL := 3) (ret := (some .int)) (by decide) rfl ?_
  intro p e s m args below meth c s₁ B hml hv
  obtain ⟨hav, hsz, hP, hK, hD0⟩ := hv
  have hx := B.exec
  have hb := B.bytes
  have hr := B.returns
  have hts := atoms_spec (ws := wsX4_nextPaid) B.pre
  have hown : s.vm.findClass RX4 = some m.cls := findClass_of_methodNamed B.named
  have hlocks := B.notSynchronized
  subst hsz
  have hD := hD0.self (sz := s.heap.size)
  clear hD0
  generalize hAe : va_A (zc_4 a1 k1 s1) s.heap.size = A at hD ⊢
  have hA : ∀ q : Nat, s.heap.size ≤ q → A q := fun q h => by rw [← hAe]; exact Or.inr h
  have hS : va_S A s.heap s.heap [] := va_S.rf
  generalize hQe : MQ below _ args s 0 0 A = Q
  rw [show entryFrame m args 3 = F0 m 0 ((lg_sl ([.ref (a1 0), .long x1]) ++ List.replicate (3 - (lg_sl ([.ref (a1 0), .long x1])).length) Slot.unset).toArray) [] from by rw [hav]; exact lg_entry_eq m _ _]
  have hl := lv_entry ([.ref (a1 0), .long x1]) (n := 3) (Nat.le_of_ble_eq_true rfl)
  generalize (lg_sl ([.ref (a1 0), .long x1]) ++ List.replicate (3 - (lg_sl ([.ref (a1 0), .long x1])).length) Slot.unset).toArray = ls at hl ⊢
  have hl : lv_has ls 3 [(0, .ref (a1 0)), (1, .long x1)] := hl
  unfold rr_X4_nextPaid at hR
  refine lv_lload_n hx hb dX4_nextPaid_0 rfl (lv_at hl 1 rfl) ?_
  have hR0 := ob_ok hR
  clear hR
  obtain ⟨q1, hq1, hR⟩ := hR0
  refine va_calli (va_runS (As := [.long x1]) (rest := []) ⟨hx, hb, hml, hown, hts⟩ (cc_J13_numberOfTrailingZeros_95d88 l dC dI fu s.heap.size x1 q1 hq1) (va_cwS 1 hts gX4_nextPaid_J13_numberOfTrailingZeros_95d88 rfl rfl rfl (by decide +kernel) ⟨Nat.le_of_ble_eq_true rfl, Nat.le_of_ble_eq_true rfl⟩) (pf_s (nil_K hK) nil_P (nil_D (A := A))) rfl rfl hl.1 rfl (lv_room (Nat.le_of_ble_eq_true rfl)) dX4_nextPaid_1 ⟨Nat.le_refl _, Nat.le_refl _⟩) hS (fun q _ h => (fr_none hS hA) q h) (fr_none hS hA) (fun r1 v1 t1 H1 locs1 ht1 hvm1 hw1 hB1 hz1 hk1 hS1 => ?_)
  subst hw1
  have hP1 := jn_none hP hk1
  have hD1 := hD
  have hP1 : va_P (dC, dI) vwCl (zc_4 a1 k1 s1) H1 := hP1
  have hD1 : va_D A (zc_4 a1 k1 s1) := hD1
  clear hP hD hS hB1 hk1 hvm1 hz1 ht1
  refine lv_bipush (v := (63 : Int32)) hx hb dX4_nextPaid_4 (by decide) ?_
  refine lv_iand hx hb dX4_nextPaid_6 ?_
  subst hQe
  exact W.iret (v := (q1 &&& (63 : Int32))) hx hb hr (fun t ht hW => ⟨⟨(q1 &&& (63 : Int32)), (), rfl, (Option.some.inj hR).symm, by rw [ht]; exact hP1, va_K.moved hW.alike hK, hD1⟩, hS1.F ht⟩) hS1.2.2 dX4_nextPaid_7
def rr_X5_refusal (fu : Nat) (x1 : Int32) (x2 : Int32) (x3 : Int32) (x4 : Int32) (s1 : ZT_5) : Option (Int32) := ck_ x1 4 ((if (s1.1 x1.toNatClampNeg) = (-1 : Int32) then some (-11 : Int32) else ck_ x1 4 ((if (s1.1 x1.toNatClampNeg) = x2 then (if x3 < (0 : Int32) then some (-13 : Int32) else ck_ x1 4 ((if x3 ≤ ((s1.2.1 x1.toNatClampNeg) - x4) then some (0 : Int32) else some (-13 : Int32)))) else some (-12 : Int32)))))
set_option maxHeartbeats 4000000 in
set_option maxRecDepth 100000 in
theorem cc_X5_refusal (l : Launch) (dC : Nat → ClassId) (dI : Nat → Nat → Nat) (fu : Nat) (a1 : Nat → Nat) (k1 : Nat → ClassId) (sz : Nat) (x1 : Int32) (x2 : Int32) (x3 : Int32) (x4 : Int32) (s1 : ZT_5) (res : Int32) (hR : rr_X5_refusal fu x1 x2 x3 x4 s1 = some res) : Met l yX5_refusal wsX5_refusal ({ frames := 0, cells := 0, slots := 0, locals := 0 } : Room) (PcF [.ref (a1 0), .int x1, .int x2, .int x3, .int x4] sz (dC, dI) (zc_5 a1 k1 s1) (zt_5 k1)) (va_Qi (fun (r : Int32) (u : Unit) => res = r) (fun u t => at3_ (dC, dI) (zc_5 a1 k1 s1) (zt_5 k1) (va_A (zc_5 a1 k1 s1) sz) t) (va_A (zc_5 a1 k1 s1) sz)) 0 0 (va_A (zc_5 a1 k1 s1) sz) := by
  refine Met.ofW (cc := cX5_refusal) (maxL := 5) (ret := (some .int)) (by decide) rfl ?_
  intro p e s m args below meth c s₁ B hml hv
  obtain ⟨hav, hsz, hP, hK, hD0⟩ := hv
  have hx := B.exec
  have hb := B.bytes
  have hr := B.returns
  have hts := atoms_spec (ws := wsX5_refusal) B.pre
  have hown : s.vm.findClass RX5 = some m.cls := findClass_of_methodNamed B.named
  have hlocks := B.notSynchronized
  have hin5 : ∀ w ∈ wsX50, w ∈ wsX5_refusal := fun w h => List.mem_cons_of_mem _ (List.mem_append_right _ h)
  subst hsz
  have hD := hD0.self (sz := s.heap.size)
  clear hD0
  generalize hAe : va_A (zc_5 a1 k1 s1) s.heap.size = A at hD ⊢
  have hA : ∀ q : Nat, s.heap.size ≤ q → A q := fun q h => by rw [← hAe]; exact Or.inr h
  have hS : va_S A s.heap s.heap [] := va_S.rf
  generalize hQe : MQ below _ args s 0 0 A = Q
  rw [show entryFrame m args 5 = F0 m 0 ((lg_sl ([.ref (a1 0), .int x1, .int x2, .int x3, .int x4]) ++ List.replicate (5 - (lg_sl ([.ref (a1 0), .int x1, .int x2, .int x3, .int x4])).length) Slot.unset).toArray) [] from by rw [hav]; exact lg_entry_eq m _ _]
  have hl := lv_entry ([.ref (a1 0), .int x1, .int x2, .int x3, .int x4]) (n := 5) (Nat.le_of_ble_eq_true rfl)
  generalize (lg_sl ([.ref (a1 0), .int x1, .int x2, .int x3, .int x4]) ++ List.replicate (5 - (lg_sl ([.ref (a1 0), .int x1, .int x2, .int x3, .int x4])).length) Slot.unset).toArray = ls at hl ⊢
  have hl : lv_has ls 5 [(0, .ref (a1 0)), (1, .int x1), (2, .int x2), (3, .int x3), (4, .int x4)] := hl
  unfold rr_X5_refusal at hR
  refine lv_aload_n hx hb dX5_refusal_0 rfl (lv_at hl 0 rfl) ?_
  refine va_get (D := (dC, dI)) (ci := 5) (v := .ref (a1 1)) (C := RX5) (T := TX5) (N := 3) hx hb hts hin5 hown hK hP 0 rfl rfl 0 (by decide) (hts (.fieldLink RX5 9 "OldestCoins$Sheets" "lane" "[I") (List.mem_of_getElem? (i := 1) rfl)) (fun _ h9 => h9) rfl dX5_refusal_1 ?_
  refine lv_iload_n hx hb dX5_refusal_4 rfl (lv_at hl 1 rfl) ?_
  have i1 := (ck_ok hR).1
  replace hR := (ck_ok hR).2
  refine va_iald (f := s1.1) hx hb hK hP 1 0 rfl rfl i1 dX5_refusal_5 ?_
  refine lv_iconst (v := (-1 : Int32)) hx hb dX5_refusal_6 (by decide) ?_
  refine lv_icmp_ne (tgt := 13) hx hb dX5_refusal_7 (by decide) (fun c2 => ?_) (fun c2 => ?_)
  · replace hR := ifn_ hR c2
    refine lv_aload_n hx hb dX5_refusal_13 rfl (lv_at hl 0 rfl) ?_
    refine va_get (D := (dC, dI)) (ci := 5) (v := .ref (a1 1)) (C := RX5) (T := TX5) (N := 3) hx hb hts hin5 hown hK hP 0 rfl rfl 0 (by decide) (hts (.fieldLink RX5 9 "OldestCoins$Sheets" "lane" "[I") (List.mem_of_getElem? (i := 1) rfl)) (fun _ h9 => h9) rfl dX5_refusal_14 ?_
    refine lv_iload_n hx hb dX5_refusal_17 rfl (lv_at hl 1 rfl) ?_
    have i3 := (ck_ok hR).1
    replace hR := (ck_ok hR).2
    refine va_iald (f := s1.1) hx hb hK hP 1 0 rfl rfl i3 dX5_refusal_18 ?_
    refine lv_iload_n hx hb dX5_refusal_19 rfl (lv_at hl 2 rfl) ?_
    refine lv_icmp_eq (tgt := 26) hx hb dX5_refusal_20 (by decide) (fun c4 => ?_) (fun c4 => ?_)
    · replace hR := ifp_ hR c4
      refine lv_iload_n hx hb dX5_refusal_26 rfl (lv_at hl 3 rfl) ?_
      refine lv_if_lt (tgt := 43) hx hb dX5_refusal_27 (by decide) (fun c5 => ?_) (fun c5 => ?_)
      · replace hR := ifp_ hR c5
        refine lv_bipush (v := (-13 : Int32)) hx hb dX5_refusal_43 (by decide) ?_
        refine lv_goto (tgt := 49) hx hb dX5_refusal_45 (by decide) ?_
        subst hQe
        exact W.iret (v := (-13 : Int32)) hx hb hr (fun t ht hW => ⟨⟨(-13 : Int32), (), rfl, (Option.some.inj hR).symm, by rw [ht]; exact hP, va_K.moved hW.alike hK, hD⟩, hS.F ht⟩) hS.2.2 dX5_refusal_49
      · replace hR := ifn_ hR c5
        refine lv_iload_n hx hb dX5_refusal_30 rfl (lv_at hl 3 rfl) ?_
        refine lv_aload_n hx hb dX5_refusal_31 rfl (lv_at hl 0 rfl) ?_
        refine va_get (D := (dC, dI)) (ci := 5) (v := .ref (a1 2)) (C := RX5) (T := TX5) (N := 3) hx hb hts hin5 hown hK hP 0 rfl rfl 1 (by decide) (hts (.fieldLink RX5 15 "OldestCoins$Sheets" "size" "[I") (List.mem_of_getElem? (i := 2) rfl)) (fun _ h9 => h9) rfl dX5_refusal_32 ?_
        refine lv_iload_n hx hb dX5_refusal_35 rfl (lv_at hl 1 rfl) ?_
        have i6 := (ck_ok hR).1
        replace hR := (ck_ok hR).2
        refine va_iald (f := s1.2.1) hx hb hK hP 2 1 rfl rfl i6 dX5_refusal_36 ?_
        refine lv_iload hx hb dX5_refusal_37 (lv_at hl 4 rfl) ?_
        refine lv_isub hx hb dX5_refusal_39 ?_
        refine lv_icmp_le (tgt := 48) hx hb dX5_refusal_40 (by decide) (fun c7 => ?_) (fun c7 => ?_)
        · replace hR := ifp_ hR c7
          refine lv_iconst (v := (0 : Int32)) hx hb dX5_refusal_48 (by decide) ?_
          subst hQe
          exact W.iret (v := (0 : Int32)) hx hb hr (fun t ht hW => ⟨⟨(0 : Int32), (), rfl, (Option.some.inj hR).symm, by rw [ht]; exact hP, va_K.moved hW.alike hK, hD⟩, hS.F ht⟩) hS.2.2 dX5_refusal_49
        · replace hR := ifn_ hR c7
          refine lv_bipush (v := (-13 : Int32)) hx hb dX5_refusal_43 (by decide) ?_
          refine lv_goto (tgt := 49) hx hb dX5_refusal_45 (by decide) ?_
          subst hQe
          exact W.iret (v := (-13 : Int32)) hx hb hr (fun t ht hW => ⟨⟨(-13 : Int32), (), rfl, (Option.some.inj hR).symm, by rw [ht]; exact hP, va_K.moved hW.alike hK, hD⟩, hS.F ht⟩) hS.2.2 dX5_refusal_49
    · replace hR := ifn_ hR c4
      refine lv_bipush (v := (-12 : Int32)) hx hb dX5_refusal_23 (by decide) ?_
      subst hQe
      exact W.iret (v := (-12 : Int32)) hx hb hr (fun t ht hW => ⟨⟨(-12 : Int32), (), rfl, (Option.some.inj hR).symm, by rw [ht]; exact hP, va_K.moved hW.alike hK, hD⟩, hS.F ht⟩) hS.2.2 dX5_refusal_25
  · replace hR := ifp_ hR c2
    refine lv_bipush (v := (-11 : Int32)) hx hb dX5_refusal_10 (by decide) ?_
    subst hQe
    exact W.iret (v := (-11 : Int32)) hx hb hr (fun t ht hW => ⟨⟨(-11 : Int32), (), rfl, (Option.some.inj hR).symm, by rw [ht]; exact hP, va_K.moved hW.alike hK, hD⟩, hS.F ht⟩) hS.2.2 dX5_refusal_12
def rr_X5_write_36 (fu : Nat) (y1 : Int32) (y2 : Int32) (y5 : Int64) (u1 : ZT_5) : Option (ZT_5) := ck_ ((y1 * (24 : Int32)) + y2) 96 (some (u1.1, u1.2.1, (vp_updL u1.2.2 ((y1 * (24 : Int32)) + y2).toNatClampNeg y5)))
def rr_X5_write (fu : Nat) (x1 : Int32) (x2 : Int32) (x3 : Int64) (s1 : ZT_5) : Option (ZT_5) := ck_ x1 4 ((if (s1.1 x1.toNatClampNeg) = (0 : Int32) then lt_ (α := Int64) x3.toInt32.toInt8.toInt32.toInt64 (fun z8 => rr_X5_write_36 fu x1 x2 z8 s1) else ck_ x1 4 ((if (s1.1 x1.toNatClampNeg) = (1 : Int32) then lt_ (α := Int64) x3.toInt32.toInt64 (fun z6 => rr_X5_write_36 fu x1 x2 z6 s1) else rr_X5_write_36 fu x1 x2 x3 s1))))
set_option maxHeartbeats 4000000 in
set_option maxRecDepth 100000 in
theorem cc_X5_write (l : Launch) (dC : Nat → ClassId) (dI : Nat → Nat → Nat) (fu : Nat) (a1 : Nat → Nat) (k1 : Nat → ClassId) (sz : Nat) (x1 : Int32) (x2 : Int32) (x3 : Int64) (s1 : ZT_5) (res : ZT_5) (hR : rr_X5_write fu x1 x2 x3 s1 = some res) : Met l yX5_write wsX5_write ({ frames := 0, cells := 0, slots := 0, locals := 0 } : Room) (PcF [.ref (a1 0), .int x1, .int x2, .long x3] sz (dC, dI) (zc_5 a1 k1 s1) (zt_5 k1)) (va_Qv (fun u : ZT_5 => res = u) (fun u t => at3_ (dC, dI) (zc_5 a1 k1 u) (zt_5 k1) (va_A (zc_5 a1 k1 s1) sz) t) (va_A (zc_5 a1 k1 s1) sz)) 0 0 (va_A (zc_5 a1 k1 s1) sz) := by
  refine Met.ofW (cc := cX5_write) (maxL := 7) (ret := none) (by decide) rfl ?_
  intro p e s m args below meth c s₁ B hml hv
  obtain ⟨hav, hsz, hP, hK, hD0⟩ := hv
  have hx := B.exec
  have hb := B.bytes
  have hr := B.returns
  have hts := atoms_spec (ws := wsX5_write) B.pre
  have hown : s.vm.findClass RX5 = some m.cls := findClass_of_methodNamed B.named
  have hlocks := B.notSynchronized
  have hin5 : ∀ w ∈ wsX50, w ∈ wsX5_write := fun w h => List.mem_cons_of_mem _ (List.mem_append_right _ h)
  subst hsz
  have hD := hD0.self (sz := s.heap.size)
  clear hD0
  generalize hAe : va_A (zc_5 a1 k1 s1) s.heap.size = A at hD ⊢
  have hA : ∀ q : Nat, s.heap.size ≤ q → A q := fun q h => by rw [← hAe]; exact Or.inr h
  have hS : va_S A s.heap s.heap [] := va_S.rf
  generalize hQe : MQ below _ args s 0 0 A = Q
  rw [show entryFrame m args 7 = F0 m 0 ((lg_sl ([.ref (a1 0), .int x1, .int x2, .long x3]) ++ List.replicate (7 - (lg_sl ([.ref (a1 0), .int x1, .int x2, .long x3])).length) Slot.unset).toArray) [] from by rw [hav]; exact lg_entry_eq m _ _]
  have hl := lv_entry ([.ref (a1 0), .int x1, .int x2, .long x3]) (n := 7) (Nat.le_of_ble_eq_true rfl)
  generalize (lg_sl ([.ref (a1 0), .int x1, .int x2, .long x3]) ++ List.replicate (7 - (lg_sl ([.ref (a1 0), .int x1, .int x2, .long x3])).length) Slot.unset).toArray = ls at hl ⊢
  have hl : lv_has ls 7 [(0, .ref (a1 0)), (1, .int x1), (2, .int x2), (3, .long x3)] := hl
  have hB36 : ∀ (y1 : Int32) (y2 : Int32) (y5 : Int64) (u1 : ZT_5) (H : Heap) (locs : List Loc) (ls : Array Slot), va_P (dC, dI) vwCl (zc_5 a1 k1 u1) H → va_D A (zc_5 a1 k1 u1) → va_S A s.heap H locs → lv_has ls 7 [(0, .ref (a1 0)), (1, .int y1), (2, .int y2), (5, .long y5)] → rr_X5_write_36 fu y1 y2 y5 u1 = some res → W p l e ({ frames := 0, cells := 0, slots := 0, locals := 0 } : Room) s m args below meth c H locs 0 0 Q (F0 m 36 ls []) := by
    intro  y1 y2 y5 u1 H locs ls hP hD hS hl hR
    unfold rr_X5_write_36 at hR
    refine lv_aload_n hx hb dX5_write_36 rfl (lv_at hl 0 rfl) ?_
    refine va_get (D := (dC, dI)) (ci := 5) (v := .ref (a1 3)) (C := RX5) (T := TX5) (N := 3) hx hb hts hin5 hown hK hP 0 rfl rfl 2 (by decide) (hts (.fieldLink RX5 18 "OldestCoins$Sheets" "items" "[J") (List.mem_of_getElem? (i := 2) rfl)) (fun _ h9 => h9) rfl dX5_write_37 ?_
    refine lv_iload_n hx hb dX5_write_40 rfl (lv_at hl 1 rfl) ?_
    refine lv_bipush (v := (24 : Int32)) hx hb dX5_write_41 (by decide) ?_
    refine lv_imul hx hb dX5_write_43 ?_
    refine lv_iload_n hx hb dX5_write_44 rfl (lv_at hl 2 rfl) ?_
    refine lv_iadd hx hb dX5_write_45 ?_
    refine lv_lload hx hb dX5_write_46 (lv_at hl 3 rfl) ?_
    have i10 := (ck_ok hR).1
    replace hR := (ck_ok hR).2
    refine va_last (f := u1.2.2) hx hb hK hP hD hS 3 2 rfl rfl i10 dX5_write_48 (fun H10 locs10 hP10 hD10 hS10 => ?_)
    have hP10 : va_P (dC, dI) vwCl (zc_5 a1 k1 (u1.1, u1.2.1, (vp_updL u1.2.2 ((y1 * (24 : Int32)) + y2).toNatClampNeg y5))) H10 := hP10
    have hD10 : va_D A (zc_5 a1 k1 (u1.1, u1.2.1, (vp_updL u1.2.2 ((y1 * (24 : Int32)) + y2).toNatClampNeg y5))) := hD10
    clear hP hD hS
    subst hQe
    exact W.vret hx hb hr (fun t ht hW => ⟨⟨(u1.1, u1.2.1, (vp_updL u1.2.2 ((y1 * (24 : Int32)) + y2).toNatClampNeg y5)), rfl, (Option.some.inj hR).symm, by rw [ht]; exact hP10, va_K.moved hW.alike hK, hD10⟩, hS10.F ht⟩) hS10.2.2 dX5_write_49
  unfold rr_X5_write at hR
  refine lv_lload_n hx hb dX5_write_0 rfl (lv_at hl 3 rfl) ?_
  refine lv_lstore (lv' := [(5, .long x3), (0, .ref (a1 0)), (1, .int x1), (2, .int x2), (3, .long x3)]) hx hb dX5_write_1 hl (by decide) rfl (fun ls1 hl1 => ?_)
  refine lv_aload_n hx hb dX5_write_3 rfl (lv_at hl1 1 rfl) ?_
  refine va_get (D := (dC, dI)) (ci := 5) (v := .ref (a1 1)) (C := RX5) (T := TX5) (N := 3) hx hb hts hin5 hown hK hP 0 rfl rfl 0 (by decide) (hts (.fieldLink RX5 9 "OldestCoins$Sheets" "lane" "[I") (List.mem_of_getElem? (i := 1) rfl)) (fun _ h9 => h9) rfl dX5_write_4 ?_
  refine lv_iload_n hx hb dX5_write_7 rfl (lv_at hl1 2 rfl) ?_
  have i2 := (ck_ok hR).1
  replace hR := (ck_ok hR).2
  refine va_iald (f := s1.1) hx hb hK hP 1 0 rfl rfl i2 dX5_write_8 ?_
  refine lv_if_ne (tgt := 21) hx hb dX5_write_9 (by decide) (fun c3 => ?_) (fun c3 => ?_)
  · replace hR := ifn_ hR c3
    refine lv_aload_n hx hb dX5_write_21 rfl (lv_at hl1 1 rfl) ?_
    refine va_get (D := (dC, dI)) (ci := 5) (v := .ref (a1 1)) (C := RX5) (T := TX5) (N := 3) hx hb hts hin5 hown hK hP 0 rfl rfl 0 (by decide) (hts (.fieldLink RX5 9 "OldestCoins$Sheets" "lane" "[I") (List.mem_of_getElem? (i := 1) rfl)) (fun _ h9 => h9) rfl dX5_write_22 ?_
    refine lv_iload_n hx hb dX5_write_25 rfl (lv_at hl1 2 rfl) ?_
    have i4 := (ck_ok hR).1
    replace hR := (ck_ok hR).2
    refine va_iald (f := s1.1) hx hb hK hP 1 0 rfl rfl i4 dX5_write_26 ?_
    refine lv_iconst (v := (1 : Int32)) hx hb dX5_write_27 (by decide) ?_
    refine lv_icmp_ne (tgt := 36) hx hb dX5_write_28 (by decide) (fun c5 => ?_) (fun c5 => ?_)
    · replace hR := ifn_ hR c5
      exact hB36 x1 x2 x3 s1 s.heap [] ls1 hP hD hS (lv_sub hl1 [1, 2, 3, 0] rfl) hR
    · replace hR := ifp_ hR c5
      refine lv_lload_n hx hb dX5_write_31 rfl (lv_at hl1 4 rfl) ?_
      refine lv_l2i (v := x3.toInt32) hx hb dX5_write_32 rfl ?_
      refine lv_i2l (v := x3.toInt32.toInt64) hx hb dX5_write_33 rfl ?_
      refine lv_topl (fun z6 ez6 => ?_)
      replace hR := lt_ok hR ez6
      refine lv_lstore (lv' := [(5, .long z6), (0, .ref (a1 0)), (1, .int x1), (2, .int x2), (3, .long x3)]) hx hb dX5_write_34 hl1 (by decide) rfl (fun ls7 hl7 => ?_)
      exact hB36 x1 x2 z6 s1 s.heap [] ls7 hP hD hS (lv_sub hl7 [1, 2, 3, 0] rfl) hR
  · replace hR := ifp_ hR c3
    refine lv_lload_n hx hb dX5_write_12 rfl (lv_at hl1 4 rfl) ?_
    refine lv_l2i (v := x3.toInt32) hx hb dX5_write_13 rfl ?_
    refine lv_i2b (v := x3.toInt32.toInt8.toInt32) hx hb dX5_write_14 rfl ?_
    refine lv_i2l (v := x3.toInt32.toInt8.toInt32.toInt64) hx hb dX5_write_15 rfl ?_
    refine lv_topl (fun z8 ez8 => ?_)
    replace hR := lt_ok hR ez8
    refine lv_lstore (lv' := [(5, .long z8), (0, .ref (a1 0)), (1, .int x1), (2, .int x2), (3, .long x3)]) hx hb dX5_write_16 hl1 (by decide) rfl (fun ls9 hl9 => ?_)
    refine lv_goto (tgt := 36) hx hb dX5_write_18 (by decide) ?_
    exact hB36 x1 x2 z8 s1 s.heap [] ls9 hP hD hS (lv_sub hl9 [1, 2, 3, 0] rfl) hR
def rr_X1_layOut_23_b (fu : Nat) (n2 : Nat) (s2 : ZT_2) (s3 : ZT_4) (rec23 : Int32 → ZT_1 → Option (ZT_1)) (y3 : Int32) (u1 : ZT_1) : Option (ZT_1) := (if s2.1 ≤ y3 then some u1 else ck_ y3 n2 (ck_ (s2.2.1 y3.toNatClampNeg) 8 (ck_ y3 40 (lt_ (α := Int64) ((u1.1 (s2.2.1 y3.toNatClampNeg).toNatClampNeg) ||| ((1 : Int64) <<< ((s3.2.2.2.1 y3.toNatClampNeg).toInt64 &&& 63))) (fun z10 => ck_ (s2.2.1 y3.toNatClampNeg) 8 (lt_ (α := Int32) (y3 + (1 : Int32)) (fun z12 => rec23 z12 ((vp_updL u1.1 (s2.2.1 y3.toNatClampNeg).toNatClampNeg z10), u1.2))))))))
def rr_X1_layOut_23 (fu : Nat) (n2 : Nat) (s2 : ZT_2) (s3 : ZT_4) (n : Nat) : Int32 → ZT_1 → Option (ZT_1) := lp_ (fun _ _ => none) (rr_X1_layOut_23_b fu n2 s2 s3) n
def rr_X1_layOut_2_b (fu : Nat) (n2 : Nat) (s2 : ZT_2) (s3 : ZT_4) (rec2 : Int32 → ZT_1 → Option (ZT_1)) (y3 : Int32) (u1 : ZT_1) : Option (ZT_1) := (if (8 : Int32) ≤ y3 then rr_X1_layOut_23 fu n2 s2 s3 fu (0 : Int32) u1 else ck_ y3 8 (lt_ (α := Int32) (y3 + (1 : Int32)) (fun z5 => rec2 z5 ((vp_updL u1.1 y3.toNatClampNeg (0 : Int64)), u1.2))))
def rr_X1_layOut_2 (fu : Nat) (n2 : Nat) (s2 : ZT_2) (s3 : ZT_4) (n : Nat) : Int32 → ZT_1 → Option (ZT_1) := lp_ (fun _ _ => none) (rr_X1_layOut_2_b fu n2 s2 s3) n
def rr_X1_layOut (fu : Nat) (n2 : Nat) (s1 : ZT_1) (s2 : ZT_2) (s3 : ZT_4) : Option (ZT_1) := rr_X1_layOut_2 fu n2 s2 s3 fu (0 : Int32) s1
set_option maxHeartbeats 4000000 in
set_option maxRecDepth 100000 in
theorem cc_X1_layOut (l : Launch) (dC : Nat → ClassId) (dI : Nat → Nat → Nat) (fu : Nat) (a1 : Nat → Nat) (a2 : Nat → Nat) (a3 : Nat → Nat) (k1 : Nat → ClassId) (k2 : Nat → ClassId) (k3 : Nat → ClassId) (n2 : Nat) (sz : Nat) (s1 : ZT_1) (s2 : ZT_2) (s3 : ZT_4) (res : ZT_1) (hR : rr_X1_layOut fu n2 s1 s2 s3 = some res) : Met l yX1_layOut wsX1_layOut ({ frames := 0, cells := 0, slots := 0, locals := 0 } : Room) (PcF [.ref (a1 0), .ref (a2 0), .ref (a3 0)] sz (dC, dI) (zc_1 a1 k1 s1 ++ zc_2 a2 k2 n2 s2 ++ zc_4 a3 k3 s3) (zt_1 k1 ++ zt_2 k2 ++ zt_4 k3)) (va_Qv (fun u : ZT_1 => res = u) (fun u t => at3_ (dC, dI) (zc_1 a1 k1 u ++ zc_2 a2 k2 n2 s2 ++ zc_4 a3 k3 s3) (zt_1 k1 ++ zt_2 k2 ++ zt_4 k3) (va_A (zc_1 a1 k1 s1 ++ zc_2 a2 k2 n2 s2 ++ zc_4 a3 k3 s3) sz) t) (va_A (zc_1 a1 k1 s1 ++ zc_2 a2 k2 n2 s2 ++ zc_4 a3 k3 s3) sz)) 0 0 (va_A (zc_1 a1 k1 s1 ++ zc_2 a2 k2 n2 s2 ++ zc_4 a3 k3 s3) sz) := by
  refine Met.ofW (cc := cX1_layOut) (maxL := 4) (ret := none) (by decide) rfl ?_
  intro p e s m args below meth c s₁ B hml hv
  obtain ⟨hav, hsz, hP, hK, hD0⟩ := hv
  have hx := B.exec
  have hb := B.bytes
  have hr := B.returns
  have hts := atoms_spec (ws := wsX1_layOut) B.pre
  have hown : s.vm.findClass RX1 = some m.cls := findClass_of_methodNamed B.named
  have hlocks := B.notSynchronized
  have hin1 : ∀ w ∈ wsX10, w ∈ wsX1_layOut := fun w h => List.mem_cons_of_mem _ (List.mem_append_left _ (List.mem_append_left _ (List.mem_append_right _ h)))
  have hin2 : ∀ w ∈ wsX20, w ∈ wsX1_layOut := fun w h => List.mem_cons_of_mem _ (List.mem_append_left _ (List.mem_append_right _ h))
  have hin4 : ∀ w ∈ wsX40, w ∈ wsX1_layOut := fun w h => List.mem_cons_of_mem _ (List.mem_append_right _ h)
  subst hsz
  have hD := hD0.self (sz := s.heap.size)
  clear hD0
  generalize hAe : va_A (zc_1 a1 k1 s1 ++ zc_2 a2 k2 n2 s2 ++ zc_4 a3 k3 s3) s.heap.size = A at hD ⊢
  have hA : ∀ q : Nat, s.heap.size ≤ q → A q := fun q h => by rw [← hAe]; exact Or.inr h
  have hS : va_S A s.heap s.heap [] := va_S.rf
  generalize hQe : MQ below _ args s 0 0 A = Q
  rw [show entryFrame m args 4 = F0 m 0 ((lg_sl ([.ref (a1 0), .ref (a2 0), .ref (a3 0)]) ++ List.replicate (4 - (lg_sl ([.ref (a1 0), .ref (a2 0), .ref (a3 0)])).length) Slot.unset).toArray) [] from by rw [hav]; exact lg_entry_eq m _ _]
  have hl := lv_entry ([.ref (a1 0), .ref (a2 0), .ref (a3 0)]) (n := 4) (Nat.le_of_ble_eq_true rfl)
  generalize (lg_sl ([.ref (a1 0), .ref (a2 0), .ref (a3 0)]) ++ List.replicate (4 - (lg_sl ([.ref (a1 0), .ref (a2 0), .ref (a3 0)])).length) Slot.unset).toArray = ls at hl ⊢
  have hl : lv_has ls 4 [(0, .ref (a1 0)), (1, .ref (a2 0)), (2, .ref (a3 0))] := hl
  have hB23 : ∀ (n : Nat), ∀ (y3 : Int32) (u1 : ZT_1) (H : Heap) (locs : List Loc) (ls : Array Slot), va_P (dC, dI) vwCl (zc_1 a1 k1 u1 ++ zc_2 a2 k2 n2 s2 ++ zc_4 a3 k3 s3) H → va_D A (zc_1 a1 k1 u1 ++ zc_2 a2 k2 n2 s2 ++ zc_4 a3 k3 s3) → va_S A s.heap H locs → lv_has ls 4 [(0, .ref (a1 0)), (1, .ref (a2 0)), (2, .ref (a3 0)), (3, .int y3)] → rr_X1_layOut_23 fu n2 s2 s3 n y3 u1 = some res → W p l e ({ frames := 0, cells := 0, slots := 0, locals := 0 } : Room) s m args below meth c H locs 0 0 Q (F0 m 23 ls []) := by
    intro  n
    induction n with
    | zero => intro y3 u1 H locs ls hP hD hS hl hR; exact absurd hR (by intro h; cases h)
    | succ n ih =>
      intro y3 u1 H locs ls hP hD hS hl hR
      replace hR : rr_X1_layOut_23_b fu n2 s2 s3 (rr_X1_layOut_23 fu n2 s2 s3 n) y3 u1 = some res := hR
      unfold rr_X1_layOut_23_b at hR
      refine lv_iload_n hx hb dX1_layOut_23 rfl (lv_at hl 3 rfl) ?_
      refine lv_aload_n hx hb dX1_layOut_24 rfl (lv_at hl 1 rfl) ?_
      refine va_get (D := (dC, dI)) (ci := 2) (v := .int s2.1) (C := RX2) (T := TX2) (N := 6) hx hb hts hin2 hown hK hP 2 rfl rfl 0 (by decide) (hts (.fieldLink RX1 15 "OldestCoins$Coins" "size" "I") (List.mem_of_getElem? (i := 2) rfl)) (fun _ h9 => h9) rfl dX1_layOut_25 ?_
      refine lv_icmp_ge (tgt := 59) hx hb dX1_layOut_28 (by decide) (fun c6 => ?_) (fun c6 => ?_)
      · replace hR := ifp_ hR c6
        subst hQe
        exact W.vret hx hb hr (fun t ht hW => ⟨⟨u1, rfl, (Option.some.inj hR).symm, by rw [ht]; exact hP, va_K.moved hW.alike hK, hD⟩, hS.F ht⟩) hS.2.2 dX1_layOut_59
      · replace hR := ifn_ hR c6
        refine lv_aload_n hx hb dX1_layOut_31 rfl (lv_at hl 0 rfl) ?_
        refine va_get (D := (dC, dI)) (ci := 1) (v := .ref (a1 1)) (C := RX1) (T := TX1) (N := 5) hx hb hts hin1 hown hK hP 0 rfl rfl 0 (by decide) (hts (.fieldLink RX1 9 "OldestCoins$Board" "had" "[J") (List.mem_of_getElem? (i := 1) rfl)) (fun _ h9 => h9) rfl dX1_layOut_32 ?_
        refine lv_aload_n hx hb dX1_layOut_35 rfl (lv_at hl 1 rfl) ?_
        refine va_get (D := (dC, dI)) (ci := 2) (v := .ref (a2 1)) (C := RX2) (T := TX2) (N := 6) hx hb hts hin2 hown hK hP 2 rfl rfl 1 (by decide) (hts (.fieldLink RX1 21 "OldestCoins$Coins" "holder" "[I") (List.mem_of_getElem? (i := 3) rfl)) (fun _ h9 => h9) rfl dX1_layOut_36 ?_
        refine lv_iload_n hx hb dX1_layOut_39 rfl (lv_at hl 3 rfl) ?_
        have i7 := (ck_ok hR).1
        replace hR := (ck_ok hR).2
        refine va_iald (f := s2.2.1) hx hb hK hP 3 1 rfl rfl i7 dX1_layOut_40 ?_
        refine lv_dup2_11 hx hb dX1_layOut_41 rfl rfl ?_
        have i8 := (ck_ok hR).1
        replace hR := (ck_ok hR).2
        refine va_lald (f := u1.1) hx hb hK hP 1 0 rfl rfl i8 dX1_layOut_42 ?_
        refine lv_lconst (v := (1 : Int64)) hx hb dX1_layOut_43 (by decide) ?_
        refine lv_aload_n hx hb dX1_layOut_44 rfl (lv_at hl 2 rfl) ?_
        refine va_get (D := (dC, dI)) (ci := 4) (v := .ref (a3 3)) (C := RX4) (T := TX4) (N := 6) hx hb hts hin4 hown hK hP 8 rfl rfl 3 (by decide) (hts (.fieldLink RX1 25 "OldestCoins$Ranks" "rankOf" "[I") (List.mem_of_getElem? (i := 4) rfl)) (fun _ h9 => h9) rfl dX1_layOut_45 ?_
        refine lv_iload_n hx hb dX1_layOut_48 rfl (lv_at hl 3 rfl) ?_
        have i9 := (ck_ok hR).1
        replace hR := (ck_ok hR).2
        refine va_iald (f := s3.2.2.2.1) hx hb hK hP 11 8 rfl rfl i9 dX1_layOut_49 ?_
        refine lv_lshl (v := ((1 : Int64) <<< ((s3.2.2.2.1 y3.toNatClampNeg).toInt64 &&& 63))) hx hb dX1_layOut_50 rfl ?_
        refine lv_lor hx hb dX1_layOut_51 ?_
        refine lv_topl (fun z10 ez10 => ?_)
        replace hR := lt_ok hR ez10
        have i11 := (ck_ok hR).1
        replace hR := (ck_ok hR).2
        refine va_last (f := u1.1) hx hb hK hP hD hS 1 0 rfl rfl i11 dX1_layOut_52 (fun H11 locs11 hP11 hD11 hS11 => ?_)
        have hP11 : va_P (dC, dI) vwCl (zc_1 a1 k1 ((vp_updL u1.1 (s2.2.1 y3.toNatClampNeg).toNatClampNeg z10), u1.2) ++ zc_2 a2 k2 n2 s2 ++ zc_4 a3 k3 s3) H11 := hP11
        have hD11 : va_D A (zc_1 a1 k1 ((vp_updL u1.1 (s2.2.1 y3.toNatClampNeg).toNatClampNeg z10), u1.2) ++ zc_2 a2 k2 n2 s2 ++ zc_4 a3 k3 s3) := hD11
        clear hP hD hS
        obtain ⟨z12, ez12⟩ : ∃ y : Int32, y = (y3 + (1 : Int32)) := ⟨_, rfl⟩
        replace hR := lt_ok hR ez12
        refine lv_iinc (v := z12) (lv' := [(3, .int z12), (0, .ref (a1 0)), (1, .ref (a2 0)), (2, .ref (a3 0))]) hx hb dX1_layOut_53 hl (k := 3) rfl (by rw [ez12]; rfl) (by decide) rfl (fun ls12 hl12 => ?_)
        refine lv_goto (tgt := 23) hx hb dX1_layOut_56 (by decide) ?_
        exact ih z12 ((vp_updL u1.1 (s2.2.1 y3.toNatClampNeg).toNatClampNeg z10), u1.2) H11 locs11 ls12 hP11 hD11 hS11 (lv_sub hl12 [1, 2, 3, 0] rfl) hR
  have hB2 : ∀ (n : Nat), ∀ (y3 : Int32) (u1 : ZT_1) (H : Heap) (locs : List Loc) (ls : Array Slot), va_P (dC, dI) vwCl (zc_1 a1 k1 u1 ++ zc_2 a2 k2 n2 s2 ++ zc_4 a3 k3 s3) H → va_D A (zc_1 a1 k1 u1 ++ zc_2 a2 k2 n2 s2 ++ zc_4 a3 k3 s3) → va_S A s.heap H locs → lv_has ls 4 [(0, .ref (a1 0)), (1, .ref (a2 0)), (2, .ref (a3 0)), (3, .int y3)] → rr_X1_layOut_2 fu n2 s2 s3 n y3 u1 = some res → W p l e ({ frames := 0, cells := 0, slots := 0, locals := 0 } : Room) s m args below meth c H locs 0 0 Q (F0 m 2 ls []) := by
    intro  n
    induction n with
    | zero => intro y3 u1 H locs ls hP hD hS hl hR; exact absurd hR (by intro h; cases h)
    | succ n ih =>
      intro y3 u1 H locs ls hP hD hS hl hR
      replace hR : rr_X1_layOut_2_b fu n2 s2 s3 (rr_X1_layOut_2 fu n2 s2 s3 n) y3 u1 = some res := hR
      unfold rr_X1_layOut_2_b at hR
      refine lv_iload_n hx hb dX1_layOut_2 rfl (lv_at hl 3 rfl) ?_
      refine lv_bipush (v := (8 : Int32)) hx hb dX1_layOut_3 (by decide) ?_
      refine lv_icmp_ge (tgt := 21) hx hb dX1_layOut_5 (by decide) (fun c2 => ?_) (fun c2 => ?_)
      · replace hR := ifp_ hR c2
        refine lv_iconst (v := (0 : Int32)) hx hb dX1_layOut_21 (by decide) ?_
        refine lv_istore_n (lv' := [(3, .int (0 : Int32)), (0, .ref (a1 0)), (1, .ref (a2 0)), (2, .ref (a3 0))]) hx hb dX1_layOut_22 rfl hl (by decide) rfl (fun ls3 hl3 => ?_)
        exact hB23 fu (0 : Int32) u1 H locs ls3 hP hD hS (lv_sub hl3 [1, 2, 3, 0] rfl) hR
      · replace hR := ifn_ hR c2
        refine lv_aload_n hx hb dX1_layOut_8 rfl (lv_at hl 0 rfl) ?_
        refine va_get (D := (dC, dI)) (ci := 1) (v := .ref (a1 1)) (C := RX1) (T := TX1) (N := 5) hx hb hts hin1 hown hK hP 0 rfl rfl 0 (by decide) (hts (.fieldLink RX1 9 "OldestCoins$Board" "had" "[J") (List.mem_of_getElem? (i := 1) rfl)) (fun _ h9 => h9) rfl dX1_layOut_9 ?_
        refine lv_iload_n hx hb dX1_layOut_12 rfl (lv_at hl 3 rfl) ?_
        refine lv_lconst (v := (0 : Int64)) hx hb dX1_layOut_13 (by decide) ?_
        have i4 := (ck_ok hR).1
        replace hR := (ck_ok hR).2
        refine va_last (f := u1.1) hx hb hK hP hD hS 1 0 rfl rfl i4 dX1_layOut_14 (fun H4 locs4 hP4 hD4 hS4 => ?_)
        have hP4 : va_P (dC, dI) vwCl (zc_1 a1 k1 ((vp_updL u1.1 y3.toNatClampNeg (0 : Int64)), u1.2) ++ zc_2 a2 k2 n2 s2 ++ zc_4 a3 k3 s3) H4 := hP4
        have hD4 : va_D A (zc_1 a1 k1 ((vp_updL u1.1 y3.toNatClampNeg (0 : Int64)), u1.2) ++ zc_2 a2 k2 n2 s2 ++ zc_4 a3 k3 s3) := hD4
        clear hP hD hS
        obtain ⟨z5, ez5⟩ : ∃ y : Int32, y = (y3 + (1 : Int32)) := ⟨_, rfl⟩
        replace hR := lt_ok hR ez5
        refine lv_iinc (v := z5) (lv' := [(3, .int z5), (0, .ref (a1 0)), (1, .ref (a2 0)), (2, .ref (a3 0))]) hx hb dX1_layOut_15 hl (k := 3) rfl (by rw [ez5]; rfl) (by decide) rfl (fun ls5 hl5 => ?_)
        refine lv_goto (tgt := 2) hx hb dX1_layOut_18 (by decide) ?_
        exact ih z5 ((vp_updL u1.1 y3.toNatClampNeg (0 : Int64)), u1.2) H4 locs4 ls5 hP4 hD4 hS4 (lv_sub hl5 [1, 2, 3, 0] rfl) hR
  unfold rr_X1_layOut at hR
  refine lv_iconst (v := (0 : Int32)) hx hb dX1_layOut_0 (by decide) ?_
  refine lv_istore_n (lv' := [(3, .int (0 : Int32)), (0, .ref (a1 0)), (1, .ref (a2 0)), (2, .ref (a3 0))]) hx hb dX1_layOut_1 rfl hl (by decide) rfl (fun ls1 hl1 => ?_)
  exact hB2 fu (0 : Int32) s1 s.heap [] ls1 hP hD hS (lv_sub hl1 [1, 2, 3, 0] rfl) hR
def rr_X2_ageAs (fu : Nat) (x0 : Int32) (x1 : Int32) (x2 : Int32) : Option (Int32) := (if x1 = (1 : Int32) then some (x2 + (1 : Int32)) else if x1 = (2 : Int32) then some (0 : Int32) else if x1 = (3 : Int32) then some (101 : Int32) else some (x0 + (1 : Int32)))
set_option maxHeartbeats 4000000 in
set_option maxRecDepth 100000 in
theorem cc_X2_ageAs (l : Launch) (dC : Nat → ClassId) (dI : Nat → Nat → Nat) (fu : Nat) (sz : Nat) (x0 : Int32) (x1 : Int32) (x2 : Int32) (res : Int32) (hR : rr_X2_ageAs fu x0 x1 x2 = some res) : Met l yX2_ageAs wsX2_ageAs ({ frames := 0, cells := 0, slots := 0, locals := 0 } : Room) (PcF [.int x0, .int x1, .int x2] sz (dC, dI) (([] : va_W)) ([])) (va_Qi (fun (r : Int32) (u : Unit) => res = r) (fun u t => at3_ (dC, dI) (([] : va_W)) ([]) (va_A (([] : va_W)) sz) t) (va_A (([] : va_W)) sz)) 0 0 (va_A (([] : va_W)) sz) := by
  refine Met.ofW (cc := cX2_ageAs) (maxL := 3) (ret := (some .int)) (by decide) rfl ?_
  intro p e s m args below meth c s₁ B hml hv
  obtain ⟨hav, hsz, hP, hK, hD0⟩ := hv
  have hx := B.exec
  have hb := B.bytes
  have hr := B.returns
  have hts := atoms_spec (ws := wsX2_ageAs) B.pre
  have hown : s.vm.findClass RX2 = some m.cls := findClass_of_methodNamed B.named
  have hlocks := B.notSynchronized
  subst hsz
  have hD := hD0.self (sz := s.heap.size)
  clear hD0
  generalize hAe : va_A (([] : va_W)) s.heap.size = A at hD ⊢
  have hA : ∀ q : Nat, s.heap.size ≤ q → A q := fun q h => by rw [← hAe]; exact Or.inr h
  have hS : va_S A s.heap s.heap [] := va_S.rf
  generalize hQe : MQ below _ args s 0 0 A = Q
  rw [show entryFrame m args 3 = F0 m 0 ((lg_sl ([.int x0, .int x1, .int x2]) ++ List.replicate (3 - (lg_sl ([.int x0, .int x1, .int x2])).length) Slot.unset).toArray) [] from by rw [hav]; exact lg_entry_eq m _ _]
  have hl := lv_entry ([.int x0, .int x1, .int x2]) (n := 3) (Nat.le_of_ble_eq_true rfl)
  generalize (lg_sl ([.int x0, .int x1, .int x2]) ++ List.replicate (3 - (lg_sl ([.int x0, .int x1, .int x2])).length) Slot.unset).toArray = ls at hl ⊢
  have hl : lv_has ls 3 [(0, .int x0), (1, .int x1), (2, .int x2)] := hl
  unfold rr_X2_ageAs at hR
  refine lv_iload_n hx hb dX2_ageAs_0 rfl (lv_at hl 1 rfl) ?_
  by_cases c1_0 : x1 = (1 : Int32)
  · replace hR := ifp_ hR c1_0
    refine lv_tableIn (tgt := 28) (off := 27) hx hb dX2_ageAs_1 (by rw [c1_0]; decide) (by rw [c1_0]; decide) (by rw [c1_0]; decide) (by decide) ?_
    refine lv_iload_n hx hb dX2_ageAs_28 rfl (lv_at hl 2 rfl) ?_
    refine lv_iconst (v := (1 : Int32)) hx hb dX2_ageAs_29 (by decide) ?_
    refine lv_iadd hx hb dX2_ageAs_30 ?_
    subst hQe
    exact W.iret (v := (x2 + (1 : Int32))) hx hb hr (fun t ht hW => ⟨⟨(x2 + (1 : Int32)), (), rfl, (Option.some.inj hR).symm, by rw [ht]; exact hP, va_K.moved hW.alike hK, hD⟩, hS.F ht⟩) hS.2.2 dX2_ageAs_31
  replace hR := ifn_ hR c1_0
  by_cases c1_1 : x1 = (2 : Int32)
  · replace hR := ifp_ hR c1_1
    refine lv_tableIn (tgt := 32) (off := 31) hx hb dX2_ageAs_1 (by rw [c1_1]; decide) (by rw [c1_1]; decide) (by rw [c1_1]; decide) (by decide) ?_
    refine lv_iconst (v := (0 : Int32)) hx hb dX2_ageAs_32 (by decide) ?_
    subst hQe
    exact W.iret (v := (0 : Int32)) hx hb hr (fun t ht hW => ⟨⟨(0 : Int32), (), rfl, (Option.some.inj hR).symm, by rw [ht]; exact hP, va_K.moved hW.alike hK, hD⟩, hS.F ht⟩) hS.2.2 dX2_ageAs_33
  replace hR := ifn_ hR c1_1
  by_cases c1_2 : x1 = (3 : Int32)
  · replace hR := ifp_ hR c1_2
    refine lv_tableIn (tgt := 34) (off := 33) hx hb dX2_ageAs_1 (by rw [c1_2]; decide) (by rw [c1_2]; decide) (by rw [c1_2]; decide) (by decide) ?_
    refine lv_bipush (v := (101 : Int32)) hx hb dX2_ageAs_34 (by decide) ?_
    subst hQe
    exact W.iret (v := (101 : Int32)) hx hb hr (fun t ht hW => ⟨⟨(101 : Int32), (), rfl, (Option.some.inj hR).symm, by rw [ht]; exact hP, va_K.moved hW.alike hK, hD⟩, hS.F ht⟩) hS.2.2 dX2_ageAs_36
  replace hR := ifn_ hR c1_2
  refine lv_tableOut (tgt := 37) hx hb dX2_ageAs_1 (by have k0 := ne_i 1 (1 : Int32) (by decide) c1_0; have k1 := ne_i 2 (2 : Int32) (by decide) c1_1; have k2 := ne_i 3 (3 : Int32) (by decide) c1_2; omega) (by decide) ?_
  refine lv_iload_n hx hb dX2_ageAs_37 rfl (lv_at hl 0 rfl) ?_
  refine lv_iconst (v := (1 : Int32)) hx hb dX2_ageAs_38 (by decide) ?_
  refine lv_iadd hx hb dX2_ageAs_39 ?_
  subst hQe
  exact W.iret (v := (x0 + (1 : Int32))) hx hb hr (fun t ht hW => ⟨⟨(x0 + (1 : Int32)), (), rfl, (Option.some.inj hR).symm, by rw [ht]; exact hP, va_K.moved hW.alike hK, hD⟩, hS.F ht⟩) hS.2.2 dX2_ageAs_40
def rr_X2_oldnessAs (fu : Nat) (n1 : Nat) (x1 : Int32) (x2 : Int32) (x3 : Int32) (s1 : ZT_2) : Option (Int32) := ck_ x1 n1 ((rr_X2_ageAs fu (s1.2.2.2.1 x1.toNatClampNeg) x2 x3).bind (fun q2 => some ((q2 * (64 : Int32)) + x1)))
set_option maxHeartbeats 4000000 in
set_option maxRecDepth 100000 in
theorem cc_X2_oldnessAs (l : Launch) (dC : Nat → ClassId) (dI : Nat → Nat → Nat) (fu : Nat) (a1 : Nat → Nat) (k1 : Nat → ClassId) (n1 : Nat) (sz : Nat) (x1 : Int32) (x2 : Int32) (x3 : Int32) (s1 : ZT_2) (res : Int32) (hR : rr_X2_oldnessAs fu n1 x1 x2 x3 s1 = some res) : Met l yX2_oldnessAs wsX2_oldnessAs ({ frames := 1, cells := 0, slots := 0, locals := 22 } : Room) (PcF [.ref (a1 0), .int x1, .int x2, .int x3] sz (dC, dI) (zc_2 a1 k1 n1 s1) (zt_2 k1)) (va_Qi (fun (r : Int32) (u : Unit) => res = r) (fun u t => at3_ (dC, dI) (zc_2 a1 k1 n1 s1) (zt_2 k1) (va_A (zc_2 a1 k1 n1 s1) sz) t) (va_A (zc_2 a1 k1 n1 s1) sz)) 0 0 (va_A (zc_2 a1 k1 n1 s1) sz) := by
  refine Met.ofW (cc := cX2_oldnessAs) (maxL := 4) (ret := (some .int)) (by decide) rfl ?_
  intro p e s m args below meth c s₁ B hml hv
  obtain ⟨hav, hsz, hP, hK, hD0⟩ := hv
  have hx := B.exec
  have hb := B.bytes
  have hr := B.returns
  have hts := atoms_spec (ws := wsX2_oldnessAs) B.pre
  have hown : s.vm.findClass RX2 = some m.cls := findClass_of_methodNamed B.named
  have hlocks := B.notSynchronized
  have hin2 : ∀ w ∈ wsX20, w ∈ wsX2_oldnessAs := fun w h => List.mem_cons_of_mem _ (List.mem_append_right _ h)
  subst hsz
  have hD := hD0.self (sz := s.heap.size)
  clear hD0
  generalize hAe : va_A (zc_2 a1 k1 n1 s1) s.heap.size = A at hD ⊢
  have hA : ∀ q : Nat, s.heap.size ≤ q → A q := fun q h => by rw [← hAe]; exact Or.inr h
  have hS : va_S A s.heap s.heap [] := va_S.rf
  generalize hQe : MQ below _ args s 0 0 A = Q
  rw [show entryFrame m args 4 = F0 m 0 ((lg_sl ([.ref (a1 0), .int x1, .int x2, .int x3]) ++ List.replicate (4 - (lg_sl ([.ref (a1 0), .int x1, .int x2, .int x3])).length) Slot.unset).toArray) [] from by rw [hav]; exact lg_entry_eq m _ _]
  have hl := lv_entry ([.ref (a1 0), .int x1, .int x2, .int x3]) (n := 4) (Nat.le_of_ble_eq_true rfl)
  generalize (lg_sl ([.ref (a1 0), .int x1, .int x2, .int x3]) ++ List.replicate (4 - (lg_sl ([.ref (a1 0), .int x1, .int x2, .int x3])).length) Slot.unset).toArray = ls at hl ⊢
  have hl : lv_has ls 4 [(0, .ref (a1 0)), (1, .int x1), (2, .int x2), (3, .int x3)] := hl
  unfold rr_X2_oldnessAs at hR
  refine lv_aload_n hx hb dX2_oldnessAs_0 rfl (lv_at hl 0 rfl) ?_
  refine va_get (D := (dC, dI)) (ci := 2) (v := .ref (a1 3)) (C := RX2) (T := TX2) (N := 6) hx hb hts hin2 hown hK hP 0 rfl rfl 3 (by decide) (hts (.fieldLink RX2 18 "OldestCoins$Coins" "year" "[I") (List.mem_of_getElem? (i := 1) rfl)) (fun _ h9 => h9) rfl dX2_oldnessAs_1 ?_
  refine lv_iload_n hx hb dX2_oldnessAs_4 rfl (lv_at hl 1 rfl) ?_
  have i1 := (ck_ok hR).1
  replace hR := (ck_ok hR).2
  refine va_iald (f := s1.2.2.2.1) hx hb hK hP 3 2 rfl rfl i1 dX2_oldnessAs_5 ?_
  refine lv_iload_n hx hb dX2_oldnessAs_6 rfl (lv_at hl 2 rfl) ?_
  refine lv_iload_n hx hb dX2_oldnessAs_7 rfl (lv_at hl 3 rfl) ?_
  have hR0 := ob_ok hR
  clear hR
  obtain ⟨q2, hq2, hR⟩ := hR0
  refine va_calli (va_runS (As := [.int (s1.2.2.2.1 x1.toNatClampNeg), .int x2, .int x3]) (rest := []) ⟨hx, hb, hml, hown, hts⟩ (cc_X2_ageAs l dC dI fu s.heap.size (s1.2.2.2.1 x1.toNatClampNeg) x2 x3 q2 hq2) (va_cwS 3 hts gX2_oldnessAs_X2_ageAs rfl rfl rfl (by decide +kernel) ⟨Nat.le_of_ble_eq_true rfl, Nat.le_of_ble_eq_true rfl⟩) (pf_s (nil_K hK) nil_P (nil_D (A := A))) rfl rfl hl.1 rfl (lv_room (Nat.le_of_ble_eq_true rfl)) dX2_oldnessAs_8 ⟨Nat.le_refl _, Nat.le_refl _⟩) hS (fun q _ h => (fr_none hS hA) q h) (fr_none hS hA) (fun r2 v2 t2 H2 locs2 ht2 hvm2 hw2 hB2 hz2 hk2 hS2 => ?_)
  subst hw2
  have hP2 := jn_none hP hk2
  have hD2 := hD
  have hP2 : va_P (dC, dI) vwCl (zc_2 a1 k1 n1 s1) H2 := hP2
  have hD2 : va_D A (zc_2 a1 k1 n1 s1) := hD2
  clear hP hD hS hB2 hk2 hvm2 hz2 ht2
  refine lv_bipush (v := (64 : Int32)) hx hb dX2_oldnessAs_11 (by decide) ?_
  refine lv_imul hx hb dX2_oldnessAs_13 ?_
  refine lv_iload_n hx hb dX2_oldnessAs_14 rfl (lv_at hl 1 rfl) ?_
  refine lv_iadd hx hb dX2_oldnessAs_15 ?_
  subst hQe
  exact W.iret (v := ((q2 * (64 : Int32)) + x1)) hx hb hr (fun t ht hW => ⟨⟨((q2 * (64 : Int32)) + x1), (), rfl, (Option.some.inj hR).symm, by rw [ht]; exact hP2, va_K.moved hW.alike hK, hD2⟩, hS2.F ht⟩) hS2.2.2 dX2_oldnessAs_16
def rr_X2_oldness (fu : Nat) (n1 : Nat) (x1 : Int32) (s1 : ZT_2) : Option (Int32) := ck_ x1 n1 (ck_ x1 n1 ((rr_X2_oldnessAs fu n1 x1 (s1.2.2.2.2.2 x1.toNatClampNeg) (s1.2.2.2.2.1 x1.toNatClampNeg) s1).bind (fun q3 => some q3)))
set_option maxHeartbeats 4000000 in
set_option maxRecDepth 100000 in
theorem cc_X2_oldness (l : Launch) (dC : Nat → ClassId) (dI : Nat → Nat → Nat) (fu : Nat) (a1 : Nat → Nat) (k1 : Nat → ClassId) (n1 : Nat) (sz : Nat) (x1 : Int32) (s1 : ZT_2) (res : Int32) (hR : rr_X2_oldness fu n1 x1 s1 = some res) : Met l yX2_oldness wsX2_oldness ({ frames := 2, cells := 0, slots := 0, locals := 45 } : Room) (PcF [.ref (a1 0), .int x1] sz (dC, dI) (zc_2 a1 k1 n1 s1) (zt_2 k1)) (va_Qi (fun (r : Int32) (u : Unit) => res = r) (fun u t => at3_ (dC, dI) (zc_2 a1 k1 n1 s1) (zt_2 k1) (va_A (zc_2 a1 k1 n1 s1) sz) t) (va_A (zc_2 a1 k1 n1 s1) sz)) 0 0 (va_A (zc_2 a1 k1 n1 s1) sz) := by
  refine Met.ofW (cc := cX2_oldness) (maxL := 2) (ret := (some .int)) (by decide) rfl ?_
  intro p e s m args below meth c s₁ B hml hv
  obtain ⟨hav, hsz, hP, hK, hD0⟩ := hv
  have hx := B.exec
  have hb := B.bytes
  have hr := B.returns
  have hts := atoms_spec (ws := wsX2_oldness) B.pre
  have hown : s.vm.findClass RX2 = some m.cls := findClass_of_methodNamed B.named
  have hlocks := B.notSynchronized
  have hin2 : ∀ w ∈ wsX20, w ∈ wsX2_oldness := fun w h => List.mem_cons_of_mem _ (List.mem_append_right _ h)
  subst hsz
  have hD := hD0.self (sz := s.heap.size)
  clear hD0
  generalize hAe : va_A (zc_2 a1 k1 n1 s1) s.heap.size = A at hD ⊢
  have hA : ∀ q : Nat, s.heap.size ≤ q → A q := fun q h => by rw [← hAe]; exact Or.inr h
  have hS : va_S A s.heap s.heap [] := va_S.rf
  generalize hQe : MQ below _ args s 0 0 A = Q
  rw [show entryFrame m args 2 = F0 m 0 ((lg_sl ([.ref (a1 0), .int x1]) ++ List.replicate (2 - (lg_sl ([.ref (a1 0), .int x1])).length) Slot.unset).toArray) [] from by rw [hav]; exact lg_entry_eq m _ _]
  have hl := lv_entry ([.ref (a1 0), .int x1]) (n := 2) (Nat.le_of_ble_eq_true rfl)
  generalize (lg_sl ([.ref (a1 0), .int x1]) ++ List.replicate (2 - (lg_sl ([.ref (a1 0), .int x1])).length) Slot.unset).toArray = ls at hl ⊢
  have hl : lv_has ls 2 [(0, .ref (a1 0)), (1, .int x1)] := hl
  unfold rr_X2_oldness at hR
  refine lv_aload_n hx hb dX2_oldness_0 rfl (lv_at hl 0 rfl) ?_
  refine lv_iload_n hx hb dX2_oldness_1 rfl (lv_at hl 1 rfl) ?_
  refine lv_aload_n hx hb dX2_oldness_2 rfl (lv_at hl 0 rfl) ?_
  refine va_get (D := (dC, dI)) (ci := 2) (v := .ref (a1 5)) (C := RX2) (T := TX2) (N := 6) hx hb hts hin2 hown hK hP 0 rfl rfl 5 (by decide) (hts (.fieldLink RX2 24 "OldestCoins$Coins" "kind" "[I") (List.mem_of_getElem? (i := 1) rfl)) (fun _ h9 => h9) rfl dX2_oldness_3 ?_
  refine lv_iload_n hx hb dX2_oldness_6 rfl (lv_at hl 1 rfl) ?_
  have i1 := (ck_ok hR).1
  replace hR := (ck_ok hR).2
  refine va_iald (f := s1.2.2.2.2.2) hx hb hK hP 5 4 rfl rfl i1 dX2_oldness_7 ?_
  refine lv_aload_n hx hb dX2_oldness_8 rfl (lv_at hl 0 rfl) ?_
  refine va_get (D := (dC, dI)) (ci := 2) (v := .ref (a1 4)) (C := RX2) (T := TX2) (N := 6) hx hb hts hin2 hown hK hP 0 rfl rfl 4 (by decide) (hts (.fieldLink RX2 21 "OldestCoins$Coins" "stamp" "[I") (List.mem_of_getElem? (i := 2) rfl)) (fun _ h9 => h9) rfl dX2_oldness_9 ?_
  refine lv_iload_n hx hb dX2_oldness_12 rfl (lv_at hl 1 rfl) ?_
  have i2 := (ck_ok hR).1
  replace hR := (ck_ok hR).2
  refine va_iald (f := s1.2.2.2.2.1) hx hb hK hP 4 3 rfl rfl i2 dX2_oldness_13 ?_
  have hR0 := ob_ok hR
  clear hR
  obtain ⟨q3, hq3, hR⟩ := hR0
  refine va_calli (va_runV (As := [.int x1, .int (s1.2.2.2.2.2 x1.toNatClampNeg), .int (s1.2.2.2.2.1 x1.toNatClampNeg)]) (rest := []) ⟨hx, hb, hml, hown, hts⟩ (cc_X2_oldnessAs l dC dI fu a1 k1 n1 s.heap.size x1 (s1.2.2.2.2.2 x1.toNatClampNeg) (s1.2.2.2.2.1 x1.toNatClampNeg) s1 q3 hq3) (cwV 3 hts gX2_oldness_X2_oldnessAs rfl rfl rfl (by decide +kernel) ⟨Nat.le_of_ble_eq_true rfl, Nat.le_of_ble_eq_true rfl⟩) (pf_v hK hP hD 2 0 rfl rfl rfl) rfl rfl hl.1 rfl (lv_room (Nat.le_of_ble_eq_true rfl)) dX2_oldness_14 ⟨Nat.le_refl _, Nat.le_refl _⟩) hS (fun q _ h => (fr_all hD hS hA) q h) (fr_all hD hS hA) (fun r3 v3 t3 H3 locs3 ht3 hvm3 hw3 hB3 hz3 hk3 hS3 => ?_)
  subst hw3
  obtain ⟨hP3, hD3⟩ := jn_all hD hS hA ht3 hB3
  have hP3 : va_P (dC, dI) vwCl (zc_2 a1 k1 n1 s1) H3 := hP3
  have hD3 : va_D A (zc_2 a1 k1 n1 s1) := hD3
  clear hP hD hS hB3 hk3 hvm3 hz3 ht3
  subst hQe
  exact W.iret (v := q3) hx hb hr (fun t ht hW => ⟨⟨q3, (), rfl, (Option.some.inj hR).symm, by rw [ht]; exact hP3, va_K.moved hW.alike hK, hD3⟩, hS3.F ht⟩) hS3.2.2 dX2_oldness_17
def rr_X4_insert_55 (fu : Nat) (y1 : Int32) (y2 : Int32) (y3 : Int32) (u1 : ZT_4) : Option (ZT_4) := ck_ y3 64 (ck_ y3 64 (lt_ (α := Int32) (u1.1 + (1 : Int32)) (fun z14 => some (z14, (upd u1.2.1 y3.toNatClampNeg y1), u1.2.2.1, u1.2.2.2.1, (upd u1.2.2.2.2.1 y3.toNatClampNeg y2), u1.2.2.2.2.2))))
def rr_X4_insert_5_b (fu : Nat) (rec5 : Int32 → Int32 → Int32 → ZT_4 → Option (ZT_4)) (y1 : Int32) (y2 : Int32) (y3 : Int32) (u1 : ZT_4) : Option (ZT_4) := (if y3 ≤ (0 : Int32) then rr_X4_insert_55 fu y1 y2 y3 u1 else ck_ (y3 - (1 : Int32)) 64 ((if (u1.2.2.2.2.1 (y3 - (1 : Int32)).toNatClampNeg) ≤ y2 then rr_X4_insert_55 fu y1 y2 y3 u1 else ck_ (y3 - (1 : Int32)) 64 (lt_ (α := Int32) (u1.2.2.2.2.1 (y3 - (1 : Int32)).toNatClampNeg) (fun z6 => ck_ y3 64 (ck_ (y3 - (1 : Int32)) 64 (lt_ (α := Int32) (u1.2.1 (y3 - (1 : Int32)).toNatClampNeg) (fun z9 => ck_ y3 64 (lt_ (α := Int32) (y3 + (-1 : Int32)) (fun z11 => rec5 y1 y2 z11 (u1.1, (upd u1.2.1 y3.toNatClampNeg z9), u1.2.2.1, u1.2.2.2.1, (upd u1.2.2.2.2.1 y3.toNatClampNeg z6), u1.2.2.2.2.2)))))))))))
def rr_X4_insert_5 (fu : Nat) (n : Nat) : Int32 → Int32 → Int32 → ZT_4 → Option (ZT_4) := lp_ (fun _ _ _ _ => none) (rr_X4_insert_5_b fu) n
def rr_X4_insert (fu : Nat) (x1 : Int32) (x2 : Int32) (s1 : ZT_4) : Option (ZT_4) := rr_X4_insert_5 fu fu x1 x2 s1.1 s1
set_option maxHeartbeats 4000000 in
set_option maxRecDepth 100000 in
theorem cc_X4_insert (l : Launch) (dC : Nat → ClassId) (dI : Nat → Nat → Nat) (fu : Nat) (a1 : Nat → Nat) (k1 : Nat → ClassId) (sz : Nat) (x1 : Int32) (x2 : Int32) (s1 : ZT_4) (res : ZT_4) (hR : rr_X4_insert fu x1 x2 s1 = some res) : Met l yX4_insert wsX4_insert ({ frames := 0, cells := 0, slots := 0, locals := 0 } : Room) (PcF [.ref (a1 0), .int x1, .int x2] sz (dC, dI) (zc_4 a1 k1 s1) (zt_4 k1)) (va_Qv (fun u : ZT_4 => res = u) (fun u t => at3_ (dC, dI) (zc_4 a1 k1 u) (zt_4 k1) (va_A (zc_4 a1 k1 s1) sz) t) (va_A (zc_4 a1 k1 s1) sz)) 0 0 (va_A (zc_4 a1 k1 s1) sz) := by
  refine Met.ofW (cc := cX4_insert) (maxL := 4) (ret := none) (by decide) rfl ?_
  intro p e s m args below meth c s₁ B hml hv
  obtain ⟨hav, hsz, hP, hK, hD0⟩ := hv
  have hx := B.exec
  have hb := B.bytes
  have hr := B.returns
  have hts := atoms_spec (ws := wsX4_insert) B.pre
  have hown : s.vm.findClass RX4 = some m.cls := findClass_of_methodNamed B.named
  have hlocks := B.notSynchronized
  have hin4 : ∀ w ∈ wsX40, w ∈ wsX4_insert := fun w h => List.mem_cons_of_mem _ (List.mem_append_right _ h)
  subst hsz
  have hD := hD0.self (sz := s.heap.size)
  clear hD0
  generalize hAe : va_A (zc_4 a1 k1 s1) s.heap.size = A at hD ⊢
  have hA : ∀ q : Nat, s.heap.size ≤ q → A q := fun q h => by rw [← hAe]; exact Or.inr h
  have hS : va_S A s.heap s.heap [] := va_S.rf
  generalize hQe : MQ below _ args s 0 0 A = Q
  rw [show entryFrame m args 4 = F0 m 0 ((lg_sl ([.ref (a1 0), .int x1, .int x2]) ++ List.replicate (4 - (lg_sl ([.ref (a1 0), .int x1, .int x2])).length) Slot.unset).toArray) [] from by rw [hav]; exact lg_entry_eq m _ _]
  have hl := lv_entry ([.ref (a1 0), .int x1, .int x2]) (n := 4) (Nat.le_of_ble_eq_true rfl)
  generalize (lg_sl ([.ref (a1 0), .int x1, .int x2]) ++ List.replicate (4 - (lg_sl ([.ref (a1 0), .int x1, .int x2])).length) Slot.unset).toArray = ls at hl ⊢
  have hl : lv_has ls 4 [(0, .ref (a1 0)), (1, .int x1), (2, .int x2)] := hl
  have hB55 : ∀ (y1 : Int32) (y2 : Int32) (y3 : Int32) (u1 : ZT_4) (H : Heap) (locs : List Loc) (ls : Array Slot), va_P (dC, dI) vwCl (zc_4 a1 k1 u1) H → va_D A (zc_4 a1 k1 u1) → va_S A s.heap H locs → lv_has ls 4 [(0, .ref (a1 0)), (1, .int y1), (2, .int y2), (3, .int y3)] → rr_X4_insert_55 fu y1 y2 y3 u1 = some res → W p l e ({ frames := 0, cells := 0, slots := 0, locals := 0 } : Room) s m args below meth c H locs 0 0 Q (F0 m 55 ls []) := by
    intro  y1 y2 y3 u1 H locs ls hP hD hS hl hR
    unfold rr_X4_insert_55 at hR
    refine lv_aload_n hx hb dX4_insert_55 rfl (lv_at hl 0 rfl) ?_
    refine va_get (D := (dC, dI)) (ci := 4) (v := .ref (a1 4)) (C := RX4) (T := TX4) (N := 6) hx hb hts hin4 hown hK hP 0 rfl rfl 4 (by decide) (hts (.fieldLink RX4 21 "OldestCoins$Ranks" "keyAt" "[I") (List.mem_of_getElem? (i := 2) rfl)) (fun _ h9 => h9) rfl dX4_insert_56 ?_
    refine lv_iload_n hx hb dX4_insert_59 rfl (lv_at hl 3 rfl) ?_
    refine lv_iload_n hx hb dX4_insert_60 rfl (lv_at hl 2 rfl) ?_
    have i12 := (ck_ok hR).1
    replace hR := (ck_ok hR).2
    refine va_iast (f := u1.2.2.2.2.1) hx hb hK hP hD hS 4 3 rfl rfl i12 dX4_insert_61 (fun H12 locs12 hP12 hD12 hS12 => ?_)
    have hP12 : va_P (dC, dI) vwCl (zc_4 a1 k1 (u1.1, u1.2.1, u1.2.2.1, u1.2.2.2.1, (upd u1.2.2.2.2.1 y3.toNatClampNeg y2), u1.2.2.2.2.2)) H12 := hP12
    have hD12 : va_D A (zc_4 a1 k1 (u1.1, u1.2.1, u1.2.2.1, u1.2.2.2.1, (upd u1.2.2.2.2.1 y3.toNatClampNeg y2), u1.2.2.2.2.2)) := hD12
    clear hP hD hS
    refine lv_aload_n hx hb dX4_insert_62 rfl (lv_at hl 0 rfl) ?_
    refine va_get (D := (dC, dI)) (ci := 4) (v := .ref (a1 1)) (C := RX4) (T := TX4) (N := 6) hx hb hts hin4 hown hK hP12 0 rfl rfl 1 (by decide) (hts (.fieldLink RX4 9 "OldestCoins$Ranks" "coinAt" "[I") (List.mem_of_getElem? (i := 3) rfl)) (fun _ h9 => h9) rfl dX4_insert_63 ?_
    refine lv_iload_n hx hb dX4_insert_66 rfl (lv_at hl 3 rfl) ?_
    refine lv_iload_n hx hb dX4_insert_67 rfl (lv_at hl 1 rfl) ?_
    have i13 := (ck_ok hR).1
    replace hR := (ck_ok hR).2
    refine va_iast (f := u1.2.1) hx hb hK hP12 hD12 hS12 1 0 rfl rfl i13 dX4_insert_68 (fun H13 locs13 hP13 hD13 hS13 => ?_)
    have hP13 : va_P (dC, dI) vwCl (zc_4 a1 k1 (u1.1, (upd u1.2.1 y3.toNatClampNeg y1), u1.2.2.1, u1.2.2.2.1, (upd u1.2.2.2.2.1 y3.toNatClampNeg y2), u1.2.2.2.2.2)) H13 := hP13
    have hD13 : va_D A (zc_4 a1 k1 (u1.1, (upd u1.2.1 y3.toNatClampNeg y1), u1.2.2.1, u1.2.2.2.1, (upd u1.2.2.2.2.1 y3.toNatClampNeg y2), u1.2.2.2.2.2)) := hD13
    clear hP12 hD12 hS12
    refine lv_aload_n hx hb dX4_insert_69 rfl (lv_at hl 0 rfl) ?_
    refine lv_dup hx hb dX4_insert_70 rfl ?_
    refine va_get (D := (dC, dI)) (ci := 4) (v := .int u1.1) (C := RX4) (T := TX4) (N := 6) hx hb hts hin4 hown hK hP13 0 rfl rfl 0 (by decide) (hts (.fieldLink RX4 28 "OldestCoins$Ranks" "size" "I") (List.mem_of_getElem? (i := 1) rfl)) (fun _ h9 => h9) rfl dX4_insert_71 ?_
    refine lv_iconst (v := (1 : Int32)) hx hb dX4_insert_74 (by decide) ?_
    refine lv_iadd hx hb dX4_insert_75 ?_
    refine lv_topi (fun z14 ez14 => ?_)
    replace hR := lt_ok hR ez14
    refine va_put (D := (dC, dI)) (ci := 4) (v := .int z14) (ty := .int) (C := RX4) (T := TX4) (N := 6) hx hb hts hin4 tyX4 tyX4_ok nmX4 hown hK hP13 hD13 hS13 0 rfl rfl 0 (by decide) (hts (.fieldLink RX4 28 "OldestCoins$Ranks" "size" "I") (List.mem_of_getElem? (i := 1) rfl)) (fun _ h9 => h9) rfl (by decide +kernel) rfl rfl (Nat.le_of_ble_eq_true rfl) dX4_insert_76 (fun H15 locs15 hP15 hD15 hS15 => ?_)
    have hP15 : va_P (dC, dI) vwCl (zc_4 a1 k1 (z14, (upd u1.2.1 y3.toNatClampNeg y1), u1.2.2.1, u1.2.2.2.1, (upd u1.2.2.2.2.1 y3.toNatClampNeg y2), u1.2.2.2.2.2)) H15 := hP15
    have hD15 : va_D A (zc_4 a1 k1 (z14, (upd u1.2.1 y3.toNatClampNeg y1), u1.2.2.1, u1.2.2.2.1, (upd u1.2.2.2.2.1 y3.toNatClampNeg y2), u1.2.2.2.2.2)) := hD15
    clear hP13 hD13 hS13
    subst hQe
    exact W.vret hx hb hr (fun t ht hW => ⟨⟨(z14, (upd u1.2.1 y3.toNatClampNeg y1), u1.2.2.1, u1.2.2.2.1, (upd u1.2.2.2.2.1 y3.toNatClampNeg y2), u1.2.2.2.2.2), rfl, (Option.some.inj hR).symm, by rw [ht]; exact hP15, va_K.moved hW.alike hK, hD15⟩, hS15.F ht⟩) hS15.2.2 dX4_insert_79
  have hB5 : ∀ (n : Nat), ∀ (y1 : Int32) (y2 : Int32) (y3 : Int32) (u1 : ZT_4) (H : Heap) (locs : List Loc) (ls : Array Slot), va_P (dC, dI) vwCl (zc_4 a1 k1 u1) H → va_D A (zc_4 a1 k1 u1) → va_S A s.heap H locs → lv_has ls 4 [(0, .ref (a1 0)), (1, .int y1), (2, .int y2), (3, .int y3)] → rr_X4_insert_5 fu n y1 y2 y3 u1 = some res → W p l e ({ frames := 0, cells := 0, slots := 0, locals := 0 } : Room) s m args below meth c H locs 0 0 Q (F0 m 5 ls []) := by
    intro  n
    induction n with
    | zero => intro y1 y2 y3 u1 H locs ls hP hD hS hl hR; exact absurd hR (by intro h; cases h)
    | succ n ih =>
      intro y1 y2 y3 u1 H locs ls hP hD hS hl hR
      replace hR : rr_X4_insert_5_b fu (rr_X4_insert_5 fu n) y1 y2 y3 u1 = some res := hR
      unfold rr_X4_insert_5_b at hR
      refine lv_iload_n hx hb dX4_insert_5 rfl (lv_at hl 3 rfl) ?_
      refine lv_if_le (tgt := 55) hx hb dX4_insert_6 (by decide) (fun c2 => ?_) (fun c2 => ?_)
      · replace hR := ifp_ hR c2
        exact hB55 y1 y2 y3 u1 H locs ls hP hD hS (lv_sub hl [0, 1, 2, 3] rfl) hR
      · replace hR := ifn_ hR c2
        refine lv_aload_n hx hb dX4_insert_9 rfl (lv_at hl 0 rfl) ?_
        refine va_get (D := (dC, dI)) (ci := 4) (v := .ref (a1 4)) (C := RX4) (T := TX4) (N := 6) hx hb hts hin4 hown hK hP 0 rfl rfl 4 (by decide) (hts (.fieldLink RX4 21 "OldestCoins$Ranks" "keyAt" "[I") (List.mem_of_getElem? (i := 2) rfl)) (fun _ h9 => h9) rfl dX4_insert_10 ?_
        refine lv_iload_n hx hb dX4_insert_13 rfl (lv_at hl 3 rfl) ?_
        refine lv_iconst (v := (1 : Int32)) hx hb dX4_insert_14 (by decide) ?_
        refine lv_isub hx hb dX4_insert_15 ?_
        have i3 := (ck_ok hR).1
        replace hR := (ck_ok hR).2
        refine va_iald (f := u1.2.2.2.2.1) hx hb hK hP 4 3 rfl rfl i3 dX4_insert_16 ?_
        refine lv_iload_n hx hb dX4_insert_17 rfl (lv_at hl 2 rfl) ?_
        refine lv_icmp_le (tgt := 55) hx hb dX4_insert_18 (by decide) (fun c4 => ?_) (fun c4 => ?_)
        · replace hR := ifp_ hR c4
          exact hB55 y1 y2 y3 u1 H locs ls hP hD hS (lv_sub hl [0, 1, 2, 3] rfl) hR
        · replace hR := ifn_ hR c4
          refine lv_aload_n hx hb dX4_insert_21 rfl (lv_at hl 0 rfl) ?_
          refine va_get (D := (dC, dI)) (ci := 4) (v := .ref (a1 4)) (C := RX4) (T := TX4) (N := 6) hx hb hts hin4 hown hK hP 0 rfl rfl 4 (by decide) (hts (.fieldLink RX4 21 "OldestCoins$Ranks" "keyAt" "[I") (List.mem_of_getElem? (i := 2) rfl)) (fun _ h9 => h9) rfl dX4_insert_22 ?_
          refine lv_iload_n hx hb dX4_insert_25 rfl (lv_at hl 3 rfl) ?_
          refine lv_aload_n hx hb dX4_insert_26 rfl (lv_at hl 0 rfl) ?_
          refine va_get (D := (dC, dI)) (ci := 4) (v := .ref (a1 4)) (C := RX4) (T := TX4) (N := 6) hx hb hts hin4 hown hK hP 0 rfl rfl 4 (by decide) (hts (.fieldLink RX4 21 "OldestCoins$Ranks" "keyAt" "[I") (List.mem_of_getElem? (i := 2) rfl)) (fun _ h9 => h9) rfl dX4_insert_27 ?_
          refine lv_iload_n hx hb dX4_insert_30 rfl (lv_at hl 3 rfl) ?_
          refine lv_iconst (v := (1 : Int32)) hx hb dX4_insert_31 (by decide) ?_
          refine lv_isub hx hb dX4_insert_32 ?_
          have i5 := (ck_ok hR).1
          replace hR := (ck_ok hR).2
          refine va_iald (f := u1.2.2.2.2.1) hx hb hK hP 4 3 rfl rfl i5 dX4_insert_33 ?_
          refine lv_topi (fun z6 ez6 => ?_)
          replace hR := lt_ok hR ez6
          have i7 := (ck_ok hR).1
          replace hR := (ck_ok hR).2
          refine va_iast (f := u1.2.2.2.2.1) hx hb hK hP hD hS 4 3 rfl rfl i7 dX4_insert_34 (fun H7 locs7 hP7 hD7 hS7 => ?_)
          have hP7 : va_P (dC, dI) vwCl (zc_4 a1 k1 (u1.1, u1.2.1, u1.2.2.1, u1.2.2.2.1, (upd u1.2.2.2.2.1 y3.toNatClampNeg z6), u1.2.2.2.2.2)) H7 := hP7
          have hD7 : va_D A (zc_4 a1 k1 (u1.1, u1.2.1, u1.2.2.1, u1.2.2.2.1, (upd u1.2.2.2.2.1 y3.toNatClampNeg z6), u1.2.2.2.2.2)) := hD7
          clear hP hD hS
          refine lv_aload_n hx hb dX4_insert_35 rfl (lv_at hl 0 rfl) ?_
          refine va_get (D := (dC, dI)) (ci := 4) (v := .ref (a1 1)) (C := RX4) (T := TX4) (N := 6) hx hb hts hin4 hown hK hP7 0 rfl rfl 1 (by decide) (hts (.fieldLink RX4 9 "OldestCoins$Ranks" "coinAt" "[I") (List.mem_of_getElem? (i := 3) rfl)) (fun _ h9 => h9) rfl dX4_insert_36 ?_
          refine lv_iload_n hx hb dX4_insert_39 rfl (lv_at hl 3 rfl) ?_
          refine lv_aload_n hx hb dX4_insert_40 rfl (lv_at hl 0 rfl) ?_
          refine va_get (D := (dC, dI)) (ci := 4) (v := .ref (a1 1)) (C := RX4) (T := TX4) (N := 6) hx hb hts hin4 hown hK hP7 0 rfl rfl 1 (by decide) (hts (.fieldLink RX4 9 "OldestCoins$Ranks" "coinAt" "[I") (List.mem_of_getElem? (i := 3) rfl)) (fun _ h9 => h9) rfl dX4_insert_41 ?_
          refine lv_iload_n hx hb dX4_insert_44 rfl (lv_at hl 3 rfl) ?_
          refine lv_iconst (v := (1 : Int32)) hx hb dX4_insert_45 (by decide) ?_
          refine lv_isub hx hb dX4_insert_46 ?_
          have i8 := (ck_ok hR).1
          replace hR := (ck_ok hR).2
          refine va_iald (f := u1.2.1) hx hb hK hP7 1 0 rfl rfl i8 dX4_insert_47 ?_
          refine lv_topi (fun z9 ez9 => ?_)
          replace hR := lt_ok hR ez9
          have i10 := (ck_ok hR).1
          replace hR := (ck_ok hR).2
          refine va_iast (f := u1.2.1) hx hb hK hP7 hD7 hS7 1 0 rfl rfl i10 dX4_insert_48 (fun H10 locs10 hP10 hD10 hS10 => ?_)
          have hP10 : va_P (dC, dI) vwCl (zc_4 a1 k1 (u1.1, (upd u1.2.1 y3.toNatClampNeg z9), u1.2.2.1, u1.2.2.2.1, (upd u1.2.2.2.2.1 y3.toNatClampNeg z6), u1.2.2.2.2.2)) H10 := hP10
          have hD10 : va_D A (zc_4 a1 k1 (u1.1, (upd u1.2.1 y3.toNatClampNeg z9), u1.2.2.1, u1.2.2.2.1, (upd u1.2.2.2.2.1 y3.toNatClampNeg z6), u1.2.2.2.2.2)) := hD10
          clear hP7 hD7 hS7
          obtain ⟨z11, ez11⟩ : ∃ y : Int32, y = (y3 + (-1 : Int32)) := ⟨_, rfl⟩
          replace hR := lt_ok hR ez11
          refine lv_iinc (v := z11) (lv' := [(3, .int z11), (0, .ref (a1 0)), (1, .int y1), (2, .int y2)]) hx hb dX4_insert_49 hl (k := 3) rfl (by rw [ez11]; rfl) (by decide) rfl (fun ls11 hl11 => ?_)
          refine lv_goto (tgt := 5) hx hb dX4_insert_52 (by decide) ?_
          exact ih y1 y2 z11 (u1.1, (upd u1.2.1 y3.toNatClampNeg z9), u1.2.2.1, u1.2.2.2.1, (upd u1.2.2.2.2.1 y3.toNatClampNeg z6), u1.2.2.2.2.2) H10 locs10 ls11 hP10 hD10 hS10 (lv_sub hl11 [1, 2, 3, 0] rfl) hR
  unfold rr_X4_insert at hR
  refine lv_aload_n hx hb dX4_insert_0 rfl (lv_at hl 0 rfl) ?_
  refine va_get (D := (dC, dI)) (ci := 4) (v := .int s1.1) (C := RX4) (T := TX4) (N := 6) hx hb hts hin4 hown hK hP 0 rfl rfl 0 (by decide) (hts (.fieldLink RX4 28 "OldestCoins$Ranks" "size" "I") (List.mem_of_getElem? (i := 1) rfl)) (fun _ h9 => h9) rfl dX4_insert_1 ?_
  refine lv_istore_n (lv' := [(3, .int s1.1), (0, .ref (a1 0)), (1, .int x1), (2, .int x2)]) hx hb dX4_insert_4 rfl hl (by decide) rfl (fun ls1 hl1 => ?_)
  exact hB5 fu x1 x2 s1.1 s1 s.heap [] ls1 hP hD hS (lv_sub hl1 [1, 2, 3, 0] rfl) hR
def rr_X4_keyBy (fu : Nat) (x0 : Int32) (x1 : Int32) (x2 : Int32) : Option (Int32) := (if x0 = (0 : Int32) then some x2 else if x0 = (1 : Int32) then some (-x2) else if x0 = (2 : Int32) then some ((x1 * (6528 : Int32)) + x2) else some (((-x1) * (6528 : Int32)) + x2))
set_option maxHeartbeats 4000000 in
set_option maxRecDepth 100000 in
theorem cc_X4_keyBy (l : Launch) (dC : Nat → ClassId) (dI : Nat → Nat → Nat) (fu : Nat) (sz : Nat) (x0 : Int32) (x1 : Int32) (x2 : Int32) (res : Int32) (hR : rr_X4_keyBy fu x0 x1 x2 = some res) : Met l yX4_keyBy wsX4_keyBy ({ frames := 0, cells := 0, slots := 0, locals := 0 } : Room) (PcF [.int x0, .int x1, .int x2] sz (dC, dI) (([] : va_W)) ([])) (va_Qi (fun (r : Int32) (u : Unit) => res = r) (fun u t => at3_ (dC, dI) (([] : va_W)) ([]) (va_A (([] : va_W)) sz) t) (va_A (([] : va_W)) sz)) 0 0 (va_A (([] : va_W)) sz) := by
  refine Met.ofW (cc := cX4_keyBy) (maxL := 4) (ret := (some .int)) (by decide) rfl ?_
  intro p e s m args below meth c s₁ B hml hv
  obtain ⟨hav, hsz, hP, hK, hD0⟩ := hv
  have hx := B.exec
  have hb := B.bytes
  have hr := B.returns
  have hts := atoms_spec (ws := wsX4_keyBy) B.pre
  have hown : s.vm.findClass RX4 = some m.cls := findClass_of_methodNamed B.named
  have hlocks := B.notSynchronized
  subst hsz
  have hD := hD0.self (sz := s.heap.size)
  clear hD0
  generalize hAe : va_A (([] : va_W)) s.heap.size = A at hD ⊢
  have hA : ∀ q : Nat, s.heap.size ≤ q → A q := fun q h => by rw [← hAe]; exact Or.inr h
  have hS : va_S A s.heap s.heap [] := va_S.rf
  generalize hQe : MQ below _ args s 0 0 A = Q
  rw [show entryFrame m args 4 = F0 m 0 ((lg_sl ([.int x0, .int x1, .int x2]) ++ List.replicate (4 - (lg_sl ([.int x0, .int x1, .int x2])).length) Slot.unset).toArray) [] from by rw [hav]; exact lg_entry_eq m _ _]
  have hl := lv_entry ([.int x0, .int x1, .int x2]) (n := 4) (Nat.le_of_ble_eq_true rfl)
  generalize (lg_sl ([.int x0, .int x1, .int x2]) ++ List.replicate (4 - (lg_sl ([.int x0, .int x1, .int x2])).length) Slot.unset).toArray = ls at hl ⊢
  have hl : lv_has ls 4 [(0, .int x0), (1, .int x1), (2, .int x2)] := hl
  unfold rr_X4_keyBy at hR
  refine lv_sipush (v := (6528 : Int32)) hx hb dX4_keyBy_0 (by decide) ?_
  refine lv_istore_n (lv' := [(3, .int (6528 : Int32)), (0, .int x0), (1, .int x1), (2, .int x2)]) hx hb dX4_keyBy_3 rfl hl (by decide) rfl (fun ls1 hl1 => ?_)
  refine lv_iload_n hx hb dX4_keyBy_4 rfl (lv_at hl1 1 rfl) ?_
  by_cases c2_0 : x0 = (0 : Int32)
  · replace hR := ifp_ hR c2_0
    refine lv_tableIn (tgt := 32) (off := 27) hx hb dX4_keyBy_5 (by rw [c2_0]; decide) (by rw [c2_0]; decide) (by rw [c2_0]; decide) (by decide) ?_
    refine lv_iload_n hx hb dX4_keyBy_32 rfl (lv_at hl1 3 rfl) ?_
    subst hQe
    exact W.iret (v := x2) hx hb hr (fun t ht hW => ⟨⟨x2, (), rfl, (Option.some.inj hR).symm, by rw [ht]; exact hP, va_K.moved hW.alike hK, hD⟩, hS.F ht⟩) hS.2.2 dX4_keyBy_33
  replace hR := ifn_ hR c2_0
  by_cases c2_1 : x0 = (1 : Int32)
  · replace hR := ifp_ hR c2_1
    refine lv_tableIn (tgt := 34) (off := 29) hx hb dX4_keyBy_5 (by rw [c2_1]; decide) (by rw [c2_1]; decide) (by rw [c2_1]; decide) (by decide) ?_
    refine lv_iload_n hx hb dX4_keyBy_34 rfl (lv_at hl1 3 rfl) ?_
    refine lv_ineg hx hb dX4_keyBy_35 ?_
    subst hQe
    exact W.iret (v := (-x2)) hx hb hr (fun t ht hW => ⟨⟨(-x2), (), rfl, (Option.some.inj hR).symm, by rw [ht]; exact hP, va_K.moved hW.alike hK, hD⟩, hS.F ht⟩) hS.2.2 dX4_keyBy_36
  replace hR := ifn_ hR c2_1
  by_cases c2_2 : x0 = (2 : Int32)
  · replace hR := ifp_ hR c2_2
    refine lv_tableIn (tgt := 37) (off := 32) hx hb dX4_keyBy_5 (by rw [c2_2]; decide) (by rw [c2_2]; decide) (by rw [c2_2]; decide) (by decide) ?_
    refine lv_iload_n hx hb dX4_keyBy_37 rfl (lv_at hl1 2 rfl) ?_
    refine lv_iload_n hx hb dX4_keyBy_38 rfl (lv_at hl1 0 rfl) ?_
    refine lv_imul hx hb dX4_keyBy_39 ?_
    refine lv_iload_n hx hb dX4_keyBy_40 rfl (lv_at hl1 3 rfl) ?_
    refine lv_iadd hx hb dX4_keyBy_41 ?_
    subst hQe
    exact W.iret (v := ((x1 * (6528 : Int32)) + x2)) hx hb hr (fun t ht hW => ⟨⟨((x1 * (6528 : Int32)) + x2), (), rfl, (Option.some.inj hR).symm, by rw [ht]; exact hP, va_K.moved hW.alike hK, hD⟩, hS.F ht⟩) hS.2.2 dX4_keyBy_42
  replace hR := ifn_ hR c2_2
  refine lv_tableOut (tgt := 43) hx hb dX4_keyBy_5 (by have k0 := ne_i 0 (0 : Int32) (by decide) c2_0; have k1 := ne_i 1 (1 : Int32) (by decide) c2_1; have k2 := ne_i 2 (2 : Int32) (by decide) c2_2; omega) (by decide) ?_
  refine lv_iload_n hx hb dX4_keyBy_43 rfl (lv_at hl1 2 rfl) ?_
  refine lv_ineg hx hb dX4_keyBy_44 ?_
  refine lv_iload_n hx hb dX4_keyBy_45 rfl (lv_at hl1 0 rfl) ?_
  refine lv_imul hx hb dX4_keyBy_46 ?_
  refine lv_iload_n hx hb dX4_keyBy_47 rfl (lv_at hl1 3 rfl) ?_
  refine lv_iadd hx hb dX4_keyBy_48 ?_
  subst hQe
  exact W.iret (v := (((-x1) * (6528 : Int32)) + x2)) hx hb hr (fun t ht hW => ⟨⟨(((-x1) * (6528 : Int32)) + x2), (), rfl, (Option.some.inj hR).symm, by rw [ht]; exact hP, va_K.moved hW.alike hK, hD⟩, hS.F ht⟩) hS.2.2 dX4_keyBy_49
def rr_X4_build_196 (fu : Nat) (s2 : ZT_8) (rec85 : Int32 → ZT_4 → Option (ZT_4)) (y4 : Int32) (w0 : Int64) (w1 : Int64) (w2 : Int32) (u1 : ZT_4) : Option (ZT_4) := lt_ (α := Int64) (w1 ||| w0) (fun z29 => ck_ w2 64 (lt_ (α := Int32) (y4 + (1 : Int32)) (fun z31 => rec85 z31 (u1.1, u1.2.1, u1.2.2.1, u1.2.2.2.1, u1.2.2.2.2.1, (vp_updL u1.2.2.2.2.2 w2.toNatClampNeg z29)))))
def rr_X4_build_166 (fu : Nat) (s2 : ZT_8) (rec85 : Int32 → ZT_4 → Option (ZT_4)) (y4 : Int32) (w0 : Int32) (u1 : ZT_4) : Option (ZT_4) := (if w0 = (0 : Int32) then rr_X4_build_196 fu s2 rec85 y4 (0 : Int64) ((1 : Int64) <<< (y4.toInt64 &&& 63)) y4 u1 else ck_ (y4 - (1 : Int32)) 64 (rr_X4_build_196 fu s2 rec85 y4 (u1.2.2.2.2.2 (y4 - (1 : Int32)).toNatClampNeg) ((1 : Int64) <<< (y4.toInt64 &&& 63)) y4 u1))
def rr_X4_build_165 (fu : Nat) (s2 : ZT_8) (rec85 : Int32 → ZT_4 → Option (ZT_4)) (y4 : Int32) (u1 : ZT_4) : Option (ZT_4) := rr_X4_build_166 fu s2 rec85 y4 (0 : Int32) u1
def rr_X4_build_85_b (fu : Nat) (s2 : ZT_8) (rec85 : Int32 → ZT_4 → Option (ZT_4)) (y4 : Int32) (u1 : ZT_4) : Option (ZT_4) := (if u1.1 ≤ y4 then some u1 else ck_ y4 64 (lt_ (α := Int32) (u1.2.1 y4.toNatClampNeg) (fun z10 => ck_ z10 40 (ck_ z10 40 (lt_ (α := Int32) (s2.2.1.2.2.1 z10.toNatClampNeg) (fun z14 => ck_ y4 64 ((if s2.1 < (2 : Int32) then rr_X4_build_165 fu s2 rec85 y4 (u1.1, u1.2.1, (upd u1.2.2.1 y4.toNatClampNeg z14), (upd u1.2.2.2.1 z10.toNatClampNeg y4), u1.2.2.2.2) else (if y4 ≤ (0 : Int32) then rr_X4_build_165 fu s2 rec85 y4 (u1.1, u1.2.1, (upd u1.2.2.1 y4.toNatClampNeg z14), (upd u1.2.2.2.1 z10.toNatClampNeg y4), u1.2.2.2.2) else ck_ (y4 - (1 : Int32)) 64 (ck_ y4 64 ((if ((upd u1.2.2.1 y4.toNatClampNeg z14) (y4 - (1 : Int32)).toNatClampNeg) = ((upd u1.2.2.1 y4.toNatClampNeg z14) y4.toNatClampNeg) then rr_X4_build_166 fu s2 rec85 y4 (1 : Int32) (u1.1, u1.2.1, (upd u1.2.2.1 y4.toNatClampNeg z14), (upd u1.2.2.2.1 z10.toNatClampNeg y4), u1.2.2.2.2) else rr_X4_build_165 fu s2 rec85 y4 (u1.1, u1.2.1, (upd u1.2.2.1 y4.toNatClampNeg z14), (upd u1.2.2.2.1 z10.toNatClampNeg y4), u1.2.2.2.2)))))))))))))
def rr_X4_build_85 (fu : Nat) (s2 : ZT_8) (n : Nat) : Int32 → ZT_4 → Option (ZT_4) := lp_ (fun _ _ => none) (rr_X4_build_85_b fu s2) n
def rr_X4_build_49 (fu : Nat) (s2 : ZT_8) (rec8 : Int32 → Int32 → Int32 → ZT_4 → Option (ZT_4)) (y2 : Int32) (y3 : Int32) (y4 : Int32) (w0 : Int32) (u1 : ZT_4) : Option (ZT_4) := ck_ y4 40 ((rr_X4_keyBy fu s2.1 (s2.2.1.2.2.1 y4.toNatClampNeg) w0).bind (fun q23 => (rr_X4_insert fu y4 q23 u1).bind (fun q24 => lt_ (α := Int32) (y4 + (1 : Int32)) (fun z25 => rec8 y2 y3 z25 q24))))
def rr_X4_build_8_b (fu : Nat) (s2 : ZT_8) (rec8 : Int32 → Int32 → Int32 → ZT_4 → Option (ZT_4)) (y2 : Int32) (y3 : Int32) (y4 : Int32) (u1 : ZT_4) : Option (ZT_4) := (if s2.2.1.1 ≤ y4 then rr_X4_build_85 fu s2 fu (0 : Int32) u1 else (if y4 = y2 then (rr_X2_oldnessAs fu 40 y4 (1 : Int32) y3 s2.2.1).bind (fun q7 => rr_X4_build_49 fu s2 rec8 y2 y3 y4 q7 u1) else (rr_X2_oldness fu 40 y4 s2.2.1).bind (fun q6 => rr_X4_build_49 fu s2 rec8 y2 y3 y4 q6 u1)))
def rr_X4_build_8 (fu : Nat) (s2 : ZT_8) (n : Nat) : Int32 → Int32 → Int32 → ZT_4 → Option (ZT_4) := lp_ (fun _ _ _ _ => none) (rr_X4_build_8_b fu s2) n
def rr_X4_build (fu : Nat) (x2 : Int32) (x3 : Int32) (s1 : ZT_4) (s2 : ZT_8) : Option (ZT_4) := rr_X4_build_8 fu s2 fu x2 x3 (0 : Int32) ((0 : Int32), s1.2)
set_option maxRecDepth 100000 in
theorem sb_4_8__1c1 (a1 : Nat → Nat) (a2 : Nat → Nat) (k1 : Nat → ClassId) (k2 : Nat → ClassId) (s1 : ZT_4) (s2 : ZT_8) : List.Perm (zc_4 a1 k1 s1 ++ zc_8 a2 k2 s2) ((zc_2 (sh_ a2 1) (sh_ k2 1) 40 s2.2.1) ++ (zc_4 a1 k1 s1 ++ ([(a2 0, .inr (8, [.int s2.1, .ref (a2 1), .ref (a2 7), .ref (a2 11)]))] ++ (([] : va_W) ++ (zc_0 (sh_ a2 7) (sh_ k2 7) 24 s2.2.2.1 ++ zc_0 (sh_ a2 11) (sh_ k2 11) 6 s2.2.2.2))))) := (pu_r (zc_4 a1 k1 s1) (pu_r ([(a2 0, .inr (8, [.int s2.1, .ref (a2 1), .ref (a2 7), .ref (a2 11)]))]) (pu_l ((zc_0 (sh_ a2 7) (sh_ k2 7) 24 s2.2.2.1 ++ zc_0 (sh_ a2 11) (sh_ k2 11) 6 s2.2.2.2)) (pu_1 (zc_2 (sh_ a2 1) (sh_ k2 1) 40 s2.2.1)))))
set_option maxRecDepth 100000 in
theorem jo_4_8__1c1__ (a1 : Nat → Nat) (a2 : Nat → Nat) (k1 : Nat → ClassId) (k2 : Nat → ClassId) (s1 : ZT_4) (s2 : ZT_8) : List.Perm (zc_4 a1 k1 s1 ++ zc_8 a2 k2 s2) ((zc_2 (sh_ a2 1) (sh_ k2 1) 40 s2.2.1) ++ (zc_4 a1 k1 s1 ++ ([(a2 0, .inr (8, [.int s2.1, .ref (a2 1), .ref (a2 7), .ref (a2 11)]))] ++ (([] : va_W) ++ (zc_0 (sh_ a2 7) (sh_ k2 7) 24 s2.2.2.1 ++ zc_0 (sh_ a2 11) (sh_ k2 11) 6 s2.2.2.2))))) := (pu_r (zc_4 a1 k1 s1) (pu_r ([(a2 0, .inr (8, [.int s2.1, .ref (a2 1), .ref (a2 7), .ref (a2 11)]))]) (pu_l ((zc_0 (sh_ a2 7) (sh_ k2 7) 24 s2.2.2.1 ++ zc_0 (sh_ a2 11) (sh_ k2 11) 6 s2.2.2.2)) (pu_1 (zc_2 (sh_ a2 1) (sh_ k2 1) 40 s2.2.1)))))
set_option maxRecDepth 100000 in
theorem sb_4_8__0c0 (a1 : Nat → Nat) (a2 : Nat → Nat) (k1 : Nat → ClassId) (k2 : Nat → ClassId) (s1 : ZT_4) (s2 : ZT_8) : List.Perm (zc_4 a1 k1 s1 ++ zc_8 a2 k2 s2) ((zc_4 a1 k1 s1) ++ (([] : va_W) ++ zc_8 a2 k2 s2)) := (pu_l (zc_8 a2 k2 s2) (pu_1 (zc_4 a1 k1 s1)))
set_option maxRecDepth 100000 in
theorem jo_4_8__0c0__0 (a1 : Nat → Nat) (a2 : Nat → Nat) (k1 : Nat → ClassId) (k2 : Nat → ClassId) (s1 : ZT_4) (s2 : ZT_8) (u1 : ZT_4) : List.Perm (zc_4 a1 k1 u1 ++ zc_8 a2 k2 s2) ((zc_4 a1 k1 u1) ++ (([] : va_W) ++ zc_8 a2 k2 s2)) := (pu_l (zc_8 a2 k2 s2) (pu_1 (zc_4 a1 k1 u1)))
set_option maxHeartbeats 4000000 in
set_option maxRecDepth 100000 in
theorem cc_X4_build (l : Launch) (dC : Nat → ClassId) (dI : Nat → Nat → Nat) (fu : Nat) (a1 : Nat → Nat) (a2 : Nat → Nat) (k1 : Nat → ClassId) (k2 : Nat → ClassId) (sz : Nat) (x2 : Int32) (x3 : Int32) (s1 : ZT_4) (s2 : ZT_8) (res : ZT_4) (hR : rr_X4_build fu x2 x3 s1 s2 = some res) : Met l yX4_build wsX4_build ({ frames := 3, cells := 0, slots := 0, locals := 66 } : Room) (PcF [.ref (a1 0), .ref (a2 0), .int x2, .int x3] sz (dC, dI) (zc_4 a1 k1 s1 ++ zc_8 a2 k2 s2) (zt_4 k1 ++ zt_8 k2)) (va_Qv (fun u : ZT_4 => res = u) (fun u t => at3_ (dC, dI) (zc_4 a1 k1 u ++ zc_8 a2 k2 s2) (zt_4 k1 ++ zt_8 k2) (va_A (zc_4 a1 k1 s1 ++ zc_8 a2 k2 s2) sz) t) (va_A (zc_4 a1 k1 s1 ++ zc_8 a2 k2 s2) sz)) 0 0 (va_A (zc_4 a1 k1 s1 ++ zc_8 a2 k2 s2) sz) := by
  refine Met.ofW (cc := cX4_build) (maxL := 7) (ret := none) (by decide) rfl ?_
  intro p e s m args below meth c s₁ B hml hv
  obtain ⟨hav, hsz, hP, hK, hD0⟩ := hv
  have hx := B.exec
  have hb := B.bytes
  have hr := B.returns
  have hts := atoms_spec (ws := wsX4_build) B.pre
  have hown : s.vm.findClass RX4 = some m.cls := findClass_of_methodNamed B.named
  have hlocks := B.notSynchronized
  have hin2 : ∀ w ∈ wsX20, w ∈ wsX4_build := fun w h => List.mem_cons_of_mem _ (List.mem_append_right _ h)
  have hin4 : ∀ w ∈ wsX40, w ∈ wsX4_build := fun w h => List.mem_cons_of_mem _ (List.mem_append_left _ (List.mem_append_left _ (List.mem_append_right _ h)))
  have hin8 : ∀ w ∈ wsX80, w ∈ wsX4_build := fun w h => List.mem_cons_of_mem _ (List.mem_append_left _ (List.mem_append_right _ h))
  subst hsz
  have hD := hD0.self (sz := s.heap.size)
  clear hD0
  generalize hAe : va_A (zc_4 a1 k1 s1 ++ zc_8 a2 k2 s2) s.heap.size = A at hD ⊢
  have hA : ∀ q : Nat, s.heap.size ≤ q → A q := fun q h => by rw [← hAe]; exact Or.inr h
  have hS : va_S A s.heap s.heap [] := va_S.rf
  generalize hQe : MQ below _ args s 0 0 A = Q
  rw [show entryFrame m args 7 = F0 m 0 ((lg_sl ([.ref (a1 0), .ref (a2 0), .int x2, .int x3]) ++ List.replicate (7 - (lg_sl ([.ref (a1 0), .ref (a2 0), .int x2, .int x3])).length) Slot.unset).toArray) [] from by rw [hav]; exact lg_entry_eq m _ _]
  have hl := lv_entry ([.ref (a1 0), .ref (a2 0), .int x2, .int x3]) (n := 7) (Nat.le_of_ble_eq_true rfl)
  generalize (lg_sl ([.ref (a1 0), .ref (a2 0), .int x2, .int x3]) ++ List.replicate (7 - (lg_sl ([.ref (a1 0), .ref (a2 0), .int x2, .int x3])).length) Slot.unset).toArray = ls at hl ⊢
  have hl : lv_has ls 7 [(0, .ref (a1 0)), (1, .ref (a2 0)), (2, .int x2), (3, .int x3)] := hl
  have hB196 : ∀ (rec85 : Int32 → ZT_4 → Option (ZT_4)) (hrec85 : ∀ (y4 : Int32) (u1 : ZT_4) (H : Heap) (locs : List Loc) (ls : Array Slot), va_P (dC, dI) vwCl (zc_4 a1 k1 u1 ++ zc_8 a2 k2 s2) H → va_D A (zc_4 a1 k1 u1 ++ zc_8 a2 k2 s2) → va_S A s.heap H locs → lv_has ls 7 [(0, .ref (a1 0)), (1, .ref (a2 0)), (4, .int y4)] → rec85 y4 u1 = some res → W p l e ({ frames := 3, cells := 0, slots := 0, locals := 66 } : Room) s m args below meth c H locs 0 0 Q (F0 m 85 ls [])), ∀ (y4 : Int32) (w0 : Int64) (w1 : Int64) (w2 : Int32) (u1 : ZT_4) (H : Heap) (locs : List Loc) (ls : Array Slot), va_P (dC, dI) vwCl (zc_4 a1 k1 u1 ++ zc_8 a2 k2 s2) H → va_D A (zc_4 a1 k1 u1 ++ zc_8 a2 k2 s2) → va_S A s.heap H locs → lv_has ls 7 [(0, .ref (a1 0)), (1, .ref (a2 0)), (4, .int y4)] → rr_X4_build_196 fu s2 rec85 y4 w0 w1 w2 u1 = some res → W p l e ({ frames := 3, cells := 0, slots := 0, locals := 66 } : Room) s m args below meth c H locs 0 0 Q (F0 m 196 ls [.long w0, .long w1, .int w2, .ref (a1 5)]) := by
    intro rec85 hrec85 y4 w0 w1 w2 u1 H locs ls hP hD hS hl hR
    unfold rr_X4_build_196 at hR
    refine lv_lor hx hb dX4_build_196 ?_
    refine lv_topl (fun z29 ez29 => ?_)
    replace hR := lt_ok hR ez29
    have i30 := (ck_ok hR).1
    replace hR := (ck_ok hR).2
    refine va_last (f := u1.2.2.2.2.2) hx hb hK hP hD hS 5 4 rfl rfl i30 dX4_build_197 (fun H30 locs30 hP30 hD30 hS30 => ?_)
    have hP30 : va_P (dC, dI) vwCl (zc_4 a1 k1 (u1.1, u1.2.1, u1.2.2.1, u1.2.2.2.1, u1.2.2.2.2.1, (vp_updL u1.2.2.2.2.2 w2.toNatClampNeg z29)) ++ zc_8 a2 k2 s2) H30 := hP30
    have hD30 : va_D A (zc_4 a1 k1 (u1.1, u1.2.1, u1.2.2.1, u1.2.2.2.1, u1.2.2.2.2.1, (vp_updL u1.2.2.2.2.2 w2.toNatClampNeg z29)) ++ zc_8 a2 k2 s2) := hD30
    clear hP hD hS
    obtain ⟨z31, ez31⟩ : ∃ y : Int32, y = (y4 + (1 : Int32)) := ⟨_, rfl⟩
    replace hR := lt_ok hR ez31
    refine lv_iinc (v := z31) (lv' := [(4, .int z31), (0, .ref (a1 0)), (1, .ref (a2 0))]) hx hb dX4_build_198 hl (k := 2) rfl (by rw [ez31]; rfl) (by decide) rfl (fun ls31 hl31 => ?_)
    refine lv_goto (tgt := 85) hx hb dX4_build_201 (by decide) ?_
    exact hrec85 z31 (u1.1, u1.2.1, u1.2.2.1, u1.2.2.2.1, u1.2.2.2.2.1, (vp_updL u1.2.2.2.2.2 w2.toNatClampNeg z29)) H30 locs30 ls31 hP30 hD30 hS30 (lv_sub hl31 [1, 2, 0] rfl) hR
  have hB166 : ∀ (rec85 : Int32 → ZT_4 → Option (ZT_4)) (hrec85 : ∀ (y4 : Int32) (u1 : ZT_4) (H : Heap) (locs : List Loc) (ls : Array Slot), va_P (dC, dI) vwCl (zc_4 a1 k1 u1 ++ zc_8 a2 k2 s2) H → va_D A (zc_4 a1 k1 u1 ++ zc_8 a2 k2 s2) → va_S A s.heap H locs → lv_has ls 7 [(0, .ref (a1 0)), (1, .ref (a2 0)), (4, .int y4)] → rec85 y4 u1 = some res → W p l e ({ frames := 3, cells := 0, slots := 0, locals := 66 } : Room) s m args below meth c H locs 0 0 Q (F0 m 85 ls [])), ∀ (y4 : Int32) (w0 : Int32) (u1 : ZT_4) (H : Heap) (locs : List Loc) (ls : Array Slot), va_P (dC, dI) vwCl (zc_4 a1 k1 u1 ++ zc_8 a2 k2 s2) H → va_D A (zc_4 a1 k1 u1 ++ zc_8 a2 k2 s2) → va_S A s.heap H locs → lv_has ls 7 [(0, .ref (a1 0)), (1, .ref (a2 0)), (4, .int y4)] → rr_X4_build_166 fu s2 rec85 y4 w0 u1 = some res → W p l e ({ frames := 3, cells := 0, slots := 0, locals := 66 } : Room) s m args below meth c H locs 0 0 Q (F0 m 166 ls [.int w0]) := by
    intro rec85 hrec85 y4 w0 u1 H locs ls hP hD hS hl hR
    unfold rr_X4_build_166 at hR
    refine lv_istore (lv' := [(6, .int w0), (0, .ref (a1 0)), (1, .ref (a2 0)), (4, .int y4)]) hx hb dX4_build_166 hl (by decide) rfl (fun ls26 hl26 => ?_)
    refine lv_aload_n hx hb dX4_build_168 rfl (lv_at hl26 1 rfl) ?_
    refine va_get (D := (dC, dI)) (ci := 4) (v := .ref (a1 5)) (C := RX4) (T := TX4) (N := 6) hx hb hts hin4 hown hK hP 0 rfl rfl 5 (by decide) (hts (.fieldLink RX4 24 "OldestCoins$Ranks" "alike" "[J") (List.mem_of_getElem? (i := 9) rfl)) (fun _ h9 => h9) rfl dX4_build_169 ?_
    refine lv_iload hx hb dX4_build_172 (lv_at hl26 3 rfl) ?_
    refine lv_lconst (v := (1 : Int64)) hx hb dX4_build_174 (by decide) ?_
    refine lv_iload hx hb dX4_build_175 (lv_at hl26 3 rfl) ?_
    refine lv_lshl (v := ((1 : Int64) <<< (y4.toInt64 &&& 63))) hx hb dX4_build_177 rfl ?_
    refine lv_iload hx hb dX4_build_178 (lv_at hl26 0 rfl) ?_
    refine lv_if_eq (tgt := 195) hx hb dX4_build_180 (by decide) (fun c27 => ?_) (fun c27 => ?_)
    · replace hR := ifp_ hR c27
      refine lv_lconst (v := (0 : Int64)) hx hb dX4_build_195 (by decide) ?_
      exact hB196 rec85 hrec85 y4 (0 : Int64) ((1 : Int64) <<< (y4.toInt64 &&& 63)) y4 u1 H locs ls26 hP hD hS (lv_sub hl26 [1, 2, 3] rfl) hR
    · replace hR := ifn_ hR c27
      refine lv_aload_n hx hb dX4_build_183 rfl (lv_at hl26 1 rfl) ?_
      refine va_get (D := (dC, dI)) (ci := 4) (v := .ref (a1 5)) (C := RX4) (T := TX4) (N := 6) hx hb hts hin4 hown hK hP 0 rfl rfl 5 (by decide) (hts (.fieldLink RX4 24 "OldestCoins$Ranks" "alike" "[J") (List.mem_of_getElem? (i := 9) rfl)) (fun _ h9 => h9) rfl dX4_build_184 ?_
      refine lv_iload hx hb dX4_build_187 (lv_at hl26 3 rfl) ?_
      refine lv_iconst (v := (1 : Int32)) hx hb dX4_build_189 (by decide) ?_
      refine lv_isub hx hb dX4_build_190 ?_
      have i28 := (ck_ok hR).1
      replace hR := (ck_ok hR).2
      refine va_lald (f := u1.2.2.2.2.2) hx hb hK hP 5 4 rfl rfl i28 dX4_build_191 ?_
      refine lv_goto (tgt := 196) hx hb dX4_build_192 (by decide) ?_
      exact hB196 rec85 hrec85 y4 (u1.2.2.2.2.2 (y4 - (1 : Int32)).toNatClampNeg) ((1 : Int64) <<< (y4.toInt64 &&& 63)) y4 u1 H locs ls26 hP hD hS (lv_sub hl26 [1, 2, 3] rfl) hR
  have hB165 : ∀ (rec85 : Int32 → ZT_4 → Option (ZT_4)) (hrec85 : ∀ (y4 : Int32) (u1 : ZT_4) (H : Heap) (locs : List Loc) (ls : Array Slot), va_P (dC, dI) vwCl (zc_4 a1 k1 u1 ++ zc_8 a2 k2 s2) H → va_D A (zc_4 a1 k1 u1 ++ zc_8 a2 k2 s2) → va_S A s.heap H locs → lv_has ls 7 [(0, .ref (a1 0)), (1, .ref (a2 0)), (4, .int y4)] → rec85 y4 u1 = some res → W p l e ({ frames := 3, cells := 0, slots := 0, locals := 66 } : Room) s m args below meth c H locs 0 0 Q (F0 m 85 ls [])), ∀ (y4 : Int32) (u1 : ZT_4) (H : Heap) (locs : List Loc) (ls : Array Slot), va_P (dC, dI) vwCl (zc_4 a1 k1 u1 ++ zc_8 a2 k2 s2) H → va_D A (zc_4 a1 k1 u1 ++ zc_8 a2 k2 s2) → va_S A s.heap H locs → lv_has ls 7 [(0, .ref (a1 0)), (1, .ref (a2 0)), (4, .int y4)] → rr_X4_build_165 fu s2 rec85 y4 u1 = some res → W p l e ({ frames := 3, cells := 0, slots := 0, locals := 66 } : Room) s m args below meth c H locs 0 0 Q (F0 m 165 ls []) := by
    intro rec85 hrec85 y4 u1 H locs ls hP hD hS hl hR
    unfold rr_X4_build_165 at hR
    refine lv_iconst (v := (0 : Int32)) hx hb dX4_build_165 (by decide) ?_
    exact hB166 rec85 hrec85 y4 (0 : Int32) u1 H locs ls hP hD hS (lv_sub hl [0, 1, 2] rfl) hR
  have hB85 : ∀ (n : Nat), ∀ (y4 : Int32) (u1 : ZT_4) (H : Heap) (locs : List Loc) (ls : Array Slot), va_P (dC, dI) vwCl (zc_4 a1 k1 u1 ++ zc_8 a2 k2 s2) H → va_D A (zc_4 a1 k1 u1 ++ zc_8 a2 k2 s2) → va_S A s.heap H locs → lv_has ls 7 [(0, .ref (a1 0)), (1, .ref (a2 0)), (4, .int y4)] → rr_X4_build_85 fu s2 n y4 u1 = some res → W p l e ({ frames := 3, cells := 0, slots := 0, locals := 66 } : Room) s m args below meth c H locs 0 0 Q (F0 m 85 ls []) := by
    intro  n
    induction n with
    | zero => intro y4 u1 H locs ls hP hD hS hl hR; exact absurd hR (by intro h; cases h)
    | succ n ih =>
      intro y4 u1 H locs ls hP hD hS hl hR
      replace hR : rr_X4_build_85_b fu s2 (rr_X4_build_85 fu s2 n) y4 u1 = some res := hR
      unfold rr_X4_build_85_b at hR
      refine lv_iload hx hb dX4_build_85 (lv_at hl 2 rfl) ?_
      refine lv_aload_n hx hb dX4_build_87 rfl (lv_at hl 0 rfl) ?_
      refine va_get (D := (dC, dI)) (ci := 4) (v := .int u1.1) (C := RX4) (T := TX4) (N := 6) hx hb hts hin4 hown hK hP 0 rfl rfl 0 (by decide) (hts (.fieldLink RX4 28 "OldestCoins$Ranks" "size" "I") (List.mem_of_getElem? (i := 1) rfl)) (fun _ h9 => h9) rfl dX4_build_88 ?_
      refine lv_icmp_ge (tgt := 204) hx hb dX4_build_91 (by decide) (fun c8 => ?_) (fun c8 => ?_)
      · replace hR := ifp_ hR c8
        subst hQe
        exact W.vret hx hb hr (fun t ht hW => ⟨⟨u1, rfl, (Option.some.inj hR).symm, by rw [ht]; exact hP, va_K.moved hW.alike hK, hD⟩, hS.F ht⟩) hS.2.2 dX4_build_204
      · replace hR := ifn_ hR c8
        refine lv_aload_n hx hb dX4_build_94 rfl (lv_at hl 0 rfl) ?_
        refine va_get (D := (dC, dI)) (ci := 4) (v := .ref (a1 1)) (C := RX4) (T := TX4) (N := 6) hx hb hts hin4 hown hK hP 0 rfl rfl 1 (by decide) (hts (.fieldLink RX4 9 "OldestCoins$Ranks" "coinAt" "[I") (List.mem_of_getElem? (i := 6) rfl)) (fun _ h9 => h9) rfl dX4_build_95 ?_
        refine lv_iload hx hb dX4_build_98 (lv_at hl 2 rfl) ?_
        have i9 := (ck_ok hR).1
        replace hR := (ck_ok hR).2
        refine va_iald (f := u1.2.1) hx hb hK hP 1 0 rfl rfl i9 dX4_build_100 ?_
        refine lv_topi (fun z10 ez10 => ?_)
        replace hR := lt_ok hR ez10
        refine lv_istore (lv' := [(5, .int z10), (0, .ref (a1 0)), (1, .ref (a2 0)), (4, .int y4)]) hx hb dX4_build_101 hl (by decide) rfl (fun ls11 hl11 => ?_)
        refine lv_aload_n hx hb dX4_build_103 rfl (lv_at hl11 1 rfl) ?_
        refine va_get (D := (dC, dI)) (ci := 4) (v := .ref (a1 3)) (C := RX4) (T := TX4) (N := 6) hx hb hts hin4 hown hK hP 0 rfl rfl 3 (by decide) (hts (.fieldLink RX4 18 "OldestCoins$Ranks" "rankOf" "[I") (List.mem_of_getElem? (i := 7) rfl)) (fun _ h9 => h9) rfl dX4_build_104 ?_
        refine lv_iload hx hb dX4_build_107 (lv_at hl11 0 rfl) ?_
        refine lv_iload hx hb dX4_build_109 (lv_at hl11 3 rfl) ?_
        have i12 := (ck_ok hR).1
        replace hR := (ck_ok hR).2
        refine va_iast (f := u1.2.2.2.1) hx hb hK hP hD hS 3 2 rfl rfl i12 dX4_build_111 (fun H12 locs12 hP12 hD12 hS12 => ?_)
        have hP12 : va_P (dC, dI) vwCl (zc_4 a1 k1 (u1.1, u1.2.1, u1.2.2.1, (upd u1.2.2.2.1 z10.toNatClampNeg y4), u1.2.2.2.2) ++ zc_8 a2 k2 s2) H12 := hP12
        have hD12 : va_D A (zc_4 a1 k1 (u1.1, u1.2.1, u1.2.2.1, (upd u1.2.2.2.1 z10.toNatClampNeg y4), u1.2.2.2.2) ++ zc_8 a2 k2 s2) := hD12
        clear hP hD hS
        refine lv_aload_n hx hb dX4_build_112 rfl (lv_at hl11 1 rfl) ?_
        refine va_get (D := (dC, dI)) (ci := 4) (v := .ref (a1 2)) (C := RX4) (T := TX4) (N := 6) hx hb hts hin4 hown hK hP12 0 rfl rfl 2 (by decide) (hts (.fieldLink RX4 15 "OldestCoins$Ranks" "worthAt" "[I") (List.mem_of_getElem? (i := 8) rfl)) (fun _ h9 => h9) rfl dX4_build_113 ?_
        refine lv_iload hx hb dX4_build_116 (lv_at hl11 3 rfl) ?_
        refine lv_aload_n hx hb dX4_build_118 rfl (lv_at hl11 2 rfl) ?_
        refine va_get (D := (dC, dI)) (ci := 8) (v := .ref (a2 1)) (C := RX8) (T := TX8) (N := 4) hx hb hts hin8 hown hK hP12 6 rfl rfl 1 (by decide) (hts (.fieldLink RX4 32 "OldestCoins$Town" "coins" "LOldestCoins$Coins;") (List.mem_of_getElem? (i := 2) rfl)) (fun _ h9 => h9) rfl dX4_build_119 ?_
        refine va_get (D := (dC, dI)) (ci := 2) (v := .ref (a2 3)) (C := RX2) (T := TX2) (N := 6) hx hb hts hin2 hown hK hP12 7 rfl rfl 2 (by decide) (hts (.fieldLink RX4 52 "OldestCoins$Coins" "worth" "[I") (List.mem_of_getElem? (i := 5) rfl)) (fun _ h9 => h9) rfl dX4_build_122 ?_
        refine lv_iload hx hb dX4_build_125 (lv_at hl11 0 rfl) ?_
        have i13 := (ck_ok hR).1
        replace hR := (ck_ok hR).2
        refine va_iald (f := s2.2.1.2.2.1) hx hb hK hP12 9 6 rfl rfl i13 dX4_build_127 ?_
        refine lv_topi (fun z14 ez14 => ?_)
        replace hR := lt_ok hR ez14
        have i15 := (ck_ok hR).1
        replace hR := (ck_ok hR).2
        refine va_iast (f := u1.2.2.1) hx hb hK hP12 hD12 hS12 2 1 rfl rfl i15 dX4_build_128 (fun H15 locs15 hP15 hD15 hS15 => ?_)
        have hP15 : va_P (dC, dI) vwCl (zc_4 a1 k1 (u1.1, u1.2.1, (upd u1.2.2.1 y4.toNatClampNeg z14), (upd u1.2.2.2.1 z10.toNatClampNeg y4), u1.2.2.2.2) ++ zc_8 a2 k2 s2) H15 := hP15
        have hD15 : va_D A (zc_4 a1 k1 (u1.1, u1.2.1, (upd u1.2.2.1 y4.toNatClampNeg z14), (upd u1.2.2.2.1 z10.toNatClampNeg y4), u1.2.2.2.2) ++ zc_8 a2 k2 s2) := hD15
        clear hP12 hD12 hS12
        refine lv_aload_n hx hb dX4_build_129 rfl (lv_at hl11 2 rfl) ?_
        refine va_get (D := (dC, dI)) (ci := 8) (v := .int s2.1) (C := RX8) (T := TX8) (N := 4) hx hb hts hin8 hown hK hP15 6 rfl rfl 0 (by decide) (hts (.fieldLink RX4 49 "OldestCoins$Town" "law" "I") (List.mem_of_getElem? (i := 4) rfl)) (fun _ h9 => h9) rfl dX4_build_130 ?_
        refine lv_iconst (v := (2 : Int32)) hx hb dX4_build_133 (by decide) ?_
        refine lv_icmp_lt (tgt := 165) hx hb dX4_build_134 (by decide) (fun c16 => ?_) (fun c16 => ?_)
        · replace hR := ifp_ hR c16
          exact hB165 (rr_X4_build_85 fu s2 n) ih y4 (u1.1, u1.2.1, (upd u1.2.2.1 y4.toNatClampNeg z14), (upd u1.2.2.2.1 z10.toNatClampNeg y4), u1.2.2.2.2) H15 locs15 ls11 hP15 hD15 hS15 (lv_sub hl11 [1, 2, 3] rfl) hR
        · replace hR := ifn_ hR c16
          refine lv_iload hx hb dX4_build_137 (lv_at hl11 3 rfl) ?_
          refine lv_if_le (tgt := 165) hx hb dX4_build_139 (by decide) (fun c17 => ?_) (fun c17 => ?_)
          · replace hR := ifp_ hR c17
            exact hB165 (rr_X4_build_85 fu s2 n) ih y4 (u1.1, u1.2.1, (upd u1.2.2.1 y4.toNatClampNeg z14), (upd u1.2.2.2.1 z10.toNatClampNeg y4), u1.2.2.2.2) H15 locs15 ls11 hP15 hD15 hS15 (lv_sub hl11 [1, 2, 3] rfl) hR
          · replace hR := ifn_ hR c17
            refine lv_aload_n hx hb dX4_build_142 rfl (lv_at hl11 1 rfl) ?_
            refine va_get (D := (dC, dI)) (ci := 4) (v := .ref (a1 2)) (C := RX4) (T := TX4) (N := 6) hx hb hts hin4 hown hK hP15 0 rfl rfl 2 (by decide) (hts (.fieldLink RX4 15 "OldestCoins$Ranks" "worthAt" "[I") (List.mem_of_getElem? (i := 8) rfl)) (fun _ h9 => h9) rfl dX4_build_143 ?_
            refine lv_iload hx hb dX4_build_146 (lv_at hl11 3 rfl) ?_
            refine lv_iconst (v := (1 : Int32)) hx hb dX4_build_148 (by decide) ?_
            refine lv_isub hx hb dX4_build_149 ?_
            have i18 := (ck_ok hR).1
            replace hR := (ck_ok hR).2
            refine va_iald (f := (upd u1.2.2.1 y4.toNatClampNeg z14)) hx hb hK hP15 2 1 rfl rfl i18 dX4_build_150 ?_
            refine lv_aload_n hx hb dX4_build_151 rfl (lv_at hl11 1 rfl) ?_
            refine va_get (D := (dC, dI)) (ci := 4) (v := .ref (a1 2)) (C := RX4) (T := TX4) (N := 6) hx hb hts hin4 hown hK hP15 0 rfl rfl 2 (by decide) (hts (.fieldLink RX4 15 "OldestCoins$Ranks" "worthAt" "[I") (List.mem_of_getElem? (i := 8) rfl)) (fun _ h9 => h9) rfl dX4_build_152 ?_
            refine lv_iload hx hb dX4_build_155 (lv_at hl11 3 rfl) ?_
            have i19 := (ck_ok hR).1
            replace hR := (ck_ok hR).2
            refine va_iald (f := (upd u1.2.2.1 y4.toNatClampNeg z14)) hx hb hK hP15 2 1 rfl rfl i19 dX4_build_157 ?_
            refine lv_icmp_ne (tgt := 165) hx hb dX4_build_158 (by decide) (fun c20 => ?_) (fun c20 => ?_)
            · replace hR := ifn_ hR c20
              exact hB165 (rr_X4_build_85 fu s2 n) ih y4 (u1.1, u1.2.1, (upd u1.2.2.1 y4.toNatClampNeg z14), (upd u1.2.2.2.1 z10.toNatClampNeg y4), u1.2.2.2.2) H15 locs15 ls11 hP15 hD15 hS15 (lv_sub hl11 [1, 2, 3] rfl) hR
            · replace hR := ifp_ hR c20
              refine lv_iconst (v := (1 : Int32)) hx hb dX4_build_161 (by decide) ?_
              refine lv_goto (tgt := 166) hx hb dX4_build_162 (by decide) ?_
              exact hB166 (rr_X4_build_85 fu s2 n) ih y4 (1 : Int32) (u1.1, u1.2.1, (upd u1.2.2.1 y4.toNatClampNeg z14), (upd u1.2.2.2.1 z10.toNatClampNeg y4), u1.2.2.2.2) H15 locs15 ls11 hP15 hD15 hS15 (lv_sub hl11 [1, 2, 3] rfl) hR
  have hB49 : ∀ (rec8 : Int32 → Int32 → Int32 → ZT_4 → Option (ZT_4)) (hrec8 : ∀ (y2 : Int32) (y3 : Int32) (y4 : Int32) (u1 : ZT_4) (H : Heap) (locs : List Loc) (ls : Array Slot), va_P (dC, dI) vwCl (zc_4 a1 k1 u1 ++ zc_8 a2 k2 s2) H → va_D A (zc_4 a1 k1 u1 ++ zc_8 a2 k2 s2) → va_S A s.heap H locs → lv_has ls 7 [(0, .ref (a1 0)), (1, .ref (a2 0)), (2, .int y2), (3, .int y3), (4, .int y4)] → rec8 y2 y3 y4 u1 = some res → W p l e ({ frames := 3, cells := 0, slots := 0, locals := 66 } : Room) s m args below meth c H locs 0 0 Q (F0 m 8 ls [])), ∀ (y2 : Int32) (y3 : Int32) (y4 : Int32) (w0 : Int32) (u1 : ZT_4) (H : Heap) (locs : List Loc) (ls : Array Slot), va_P (dC, dI) vwCl (zc_4 a1 k1 u1 ++ zc_8 a2 k2 s2) H → va_D A (zc_4 a1 k1 u1 ++ zc_8 a2 k2 s2) → va_S A s.heap H locs → lv_has ls 7 [(0, .ref (a1 0)), (1, .ref (a2 0)), (2, .int y2), (3, .int y3), (4, .int y4)] → rr_X4_build_49 fu s2 rec8 y2 y3 y4 w0 u1 = some res → W p l e ({ frames := 3, cells := 0, slots := 0, locals := 66 } : Room) s m args below meth c H locs 0 0 Q (F0 m 49 ls [.int w0]) := by
    intro rec8 hrec8 y2 y3 y4 w0 u1 H locs ls hP hD hS hl hR
    unfold rr_X4_build_49 at hR
    refine lv_istore (lv' := [(5, .int w0), (0, .ref (a1 0)), (1, .ref (a2 0)), (2, .int y2), (3, .int y3), (4, .int y4)]) hx hb dX4_build_49 hl (by decide) rfl (fun ls21 hl21 => ?_)
    refine lv_aload_n hx hb dX4_build_51 rfl (lv_at hl21 1 rfl) ?_
    refine lv_iload hx hb dX4_build_52 (lv_at hl21 5 rfl) ?_
    refine lv_aload_n hx hb dX4_build_54 rfl (lv_at hl21 2 rfl) ?_
    refine va_get (D := (dC, dI)) (ci := 8) (v := .int s2.1) (C := RX8) (T := TX8) (N := 4) hx hb hts hin8 hown hK hP 6 rfl rfl 0 (by decide) (hts (.fieldLink RX4 49 "OldestCoins$Town" "law" "I") (List.mem_of_getElem? (i := 4) rfl)) (fun _ h9 => h9) rfl dX4_build_55 ?_
    refine lv_aload_n hx hb dX4_build_58 rfl (lv_at hl21 2 rfl) ?_
    refine va_get (D := (dC, dI)) (ci := 8) (v := .ref (a2 1)) (C := RX8) (T := TX8) (N := 4) hx hb hts hin8 hown hK hP 6 rfl rfl 1 (by decide) (hts (.fieldLink RX4 32 "OldestCoins$Town" "coins" "LOldestCoins$Coins;") (List.mem_of_getElem? (i := 2) rfl)) (fun _ h9 => h9) rfl dX4_build_59 ?_
    refine va_get (D := (dC, dI)) (ci := 2) (v := .ref (a2 3)) (C := RX2) (T := TX2) (N := 6) hx hb hts hin2 hown hK hP 7 rfl rfl 2 (by decide) (hts (.fieldLink RX4 52 "OldestCoins$Coins" "worth" "[I") (List.mem_of_getElem? (i := 5) rfl)) (fun _ h9 => h9) rfl dX4_build_62 ?_
    refine lv_iload hx hb dX4_build_65 (lv_at hl21 5 rfl) ?_
    have i22 := (ck_ok hR).1
    replace hR := (ck_ok hR).2
    refine va_iald (f := s2.2.1.2.2.1) hx hb hK hP 9 6 rfl rfl i22 dX4_build_67 ?_
    refine lv_iload hx hb dX4_build_68 (lv_at hl21 0 rfl) ?_
    have hR0 := ob_ok hR
    clear hR
    obtain ⟨q23, hq23, hR⟩ := hR0
    refine va_calli (va_runS (As := [.int s2.1, .int (s2.2.1.2.2.1 y4.toNatClampNeg), .int w0]) (rest := [.int y4, .ref (a1 0)]) ⟨hx, hb, hml, hown, hts⟩ (cc_X4_keyBy l dC dI fu H.size s2.1 (s2.2.1.2.2.1 y4.toNatClampNeg) w0 q23 hq23) (va_cwS 3 hts gX4_build_X4_keyBy rfl rfl rfl (by decide +kernel) ⟨Nat.le_of_ble_eq_true rfl, Nat.le_of_ble_eq_true rfl⟩) (pf_s (nil_K hK) nil_P (nil_D (A := A))) rfl rfl hl21.1 rfl (lv_room (Nat.le_of_ble_eq_true rfl)) dX4_build_70 ⟨Nat.le_refl _, Nat.le_refl _⟩) hS (fun q _ h => (fr_none hS hA) q h) (fr_none hS hA) (fun r23 v23 t23 H23 locs23 ht23 hvm23 hw23 hB23 hz23 hk23 hS23 => ?_)
    subst hw23
    have hP23 := jn_none hP hk23
    have hD23 := hD
    have hP23 : va_P (dC, dI) vwCl (zc_4 a1 k1 u1 ++ zc_8 a2 k2 s2) H23 := hP23
    have hD23 : va_D A (zc_4 a1 k1 u1 ++ zc_8 a2 k2 s2) := hD23
    clear hP hD hS hB23 hk23 hvm23 hz23 ht23
    have hR0 := ob_ok hR
    clear hR
    obtain ⟨q24, hq24, hR⟩ := hR0
    refine va_callv (va_runV (As := [.int y4, .int q23]) (rest := []) ⟨hx, hb, hml, hown, hts⟩ (cc_X4_insert l dC dI fu a1 k1 H23.size y4 q23 u1 q24 hq24) (cwV 2 hts gX4_build_X4_insert rfl rfl rfl (by decide +kernel) ⟨Nat.le_of_ble_eq_true rfl, Nat.le_of_ble_eq_true rfl⟩) (pf_v (hK.sub (tys' := zt_4 k1) [0, 1, 2, 3, 4] rfl) (sub_P (sb_4_8__0c0 a1 a2 k1 k2 u1 s2) hP23) (sub_D (sb_4_8__0c0 a1 a2 k1 k2 u1 s2) hD23) 4 0 rfl rfl rfl) rfl rfl hl21.1 rfl (lv_room (Nat.le_of_ble_eq_true rfl)) dX4_build_73 ⟨Nat.le_refl _, Nat.le_refl _⟩) hS23 (fun q _ h => (sub_F (sb_4_8__0c0 a1 a2 k1 k2 u1 s2) hD23 hS23 hA) q h) (sub_F (sb_4_8__0c0 a1 a2 k1 k2 u1 s2) hD23 hS23 hA) (fun v24 t24 H24 locs24 ht24 hvm24 hw24 hB24 hz24 hk24 hS24 => ?_)
    subst hw24
    obtain ⟨hP24, hD24⟩ := jn_sub (sb_4_8__0c0 a1 a2 k1 k2 u1 s2) (jo_4_8__0c0__0 a1 a2 k1 k2 u1 s2 q24) rfl hP23 hD23 hk24 ht24 hB24
    have hP24 : va_P (dC, dI) vwCl (zc_4 a1 k1 q24 ++ zc_8 a2 k2 s2) H24 := hP24
    have hD24 : va_D A (zc_4 a1 k1 q24 ++ zc_8 a2 k2 s2) := hD24
    clear hP23 hD23 hS23 hB24 hk24 hvm24 hz24 ht24
    obtain ⟨z25, ez25⟩ : ∃ y : Int32, y = (y4 + (1 : Int32)) := ⟨_, rfl⟩
    replace hR := lt_ok hR ez25
    refine lv_iinc (v := z25) (lv' := [(4, .int z25), (5, .int w0), (0, .ref (a1 0)), (1, .ref (a2 0)), (2, .int y2), (3, .int y3)]) hx hb dX4_build_76 hl21 (k := 5) rfl (by rw [ez25]; rfl) (by decide) rfl (fun ls25 hl25 => ?_)
    refine lv_goto (tgt := 8) hx hb dX4_build_79 (by decide) ?_
    exact hrec8 y2 y3 z25 q24 H24 locs24 ls25 hP24 hD24 hS24 (lv_sub hl25 [2, 3, 4, 5, 0] rfl) hR
  have hB8 : ∀ (n : Nat), ∀ (y2 : Int32) (y3 : Int32) (y4 : Int32) (u1 : ZT_4) (H : Heap) (locs : List Loc) (ls : Array Slot), va_P (dC, dI) vwCl (zc_4 a1 k1 u1 ++ zc_8 a2 k2 s2) H → va_D A (zc_4 a1 k1 u1 ++ zc_8 a2 k2 s2) → va_S A s.heap H locs → lv_has ls 7 [(0, .ref (a1 0)), (1, .ref (a2 0)), (2, .int y2), (3, .int y3), (4, .int y4)] → rr_X4_build_8 fu s2 n y2 y3 y4 u1 = some res → W p l e ({ frames := 3, cells := 0, slots := 0, locals := 66 } : Room) s m args below meth c H locs 0 0 Q (F0 m 8 ls []) := by
    intro  n
    induction n with
    | zero => intro y2 y3 y4 u1 H locs ls hP hD hS hl hR; exact absurd hR (by intro h; cases h)
    | succ n ih =>
      intro y2 y3 y4 u1 H locs ls hP hD hS hl hR
      replace hR : rr_X4_build_8_b fu s2 (rr_X4_build_8 fu s2 n) y2 y3 y4 u1 = some res := hR
      unfold rr_X4_build_8_b at hR
      refine lv_iload hx hb dX4_build_8 (lv_at hl 4 rfl) ?_
      refine lv_aload_n hx hb dX4_build_10 rfl (lv_at hl 1 rfl) ?_
      refine va_get (D := (dC, dI)) (ci := 8) (v := .ref (a2 1)) (C := RX8) (T := TX8) (N := 4) hx hb hts hin8 hown hK hP 6 rfl rfl 1 (by decide) (hts (.fieldLink RX4 32 "OldestCoins$Town" "coins" "LOldestCoins$Coins;") (List.mem_of_getElem? (i := 2) rfl)) (fun _ h9 => h9) rfl dX4_build_11 ?_
      refine va_get (D := (dC, dI)) (ci := 2) (v := .int s2.2.1.1) (C := RX2) (T := TX2) (N := 6) hx hb hts hin2 hown hK hP 7 rfl rfl 0 (by decide) (hts (.fieldLink RX4 38 "OldestCoins$Coins" "size" "I") (List.mem_of_getElem? (i := 3) rfl)) (fun _ h9 => h9) rfl dX4_build_14 ?_
      refine lv_icmp_ge (tgt := 82) hx hb dX4_build_17 (by decide) (fun c3 => ?_) (fun c3 => ?_)
      · replace hR := ifp_ hR c3
        refine lv_iconst (v := (0 : Int32)) hx hb dX4_build_82 (by decide) ?_
        refine lv_istore (lv' := [(4, .int (0 : Int32)), (0, .ref (a1 0)), (1, .ref (a2 0)), (2, .int y2), (3, .int y3)]) hx hb dX4_build_83 hl (by decide) rfl (fun ls4 hl4 => ?_)
        exact hB85 fu (0 : Int32) u1 H locs ls4 hP hD hS (lv_sub hl4 [1, 2, 0] rfl) hR
      · replace hR := ifn_ hR c3
        refine lv_iload hx hb dX4_build_20 (lv_at hl 4 rfl) ?_
        refine lv_iload_n hx hb dX4_build_22 rfl (lv_at hl 2 rfl) ?_
        refine lv_icmp_ne (tgt := 40) hx hb dX4_build_23 (by decide) (fun c5 => ?_) (fun c5 => ?_)
        · replace hR := ifn_ hR c5
          refine lv_aload_n hx hb dX4_build_40 rfl (lv_at hl 1 rfl) ?_
          refine va_get (D := (dC, dI)) (ci := 8) (v := .ref (a2 1)) (C := RX8) (T := TX8) (N := 4) hx hb hts hin8 hown hK hP 6 rfl rfl 1 (by decide) (hts (.fieldLink RX4 32 "OldestCoins$Town" "coins" "LOldestCoins$Coins;") (List.mem_of_getElem? (i := 2) rfl)) (fun _ h9 => h9) rfl dX4_build_41 ?_
          refine lv_iload hx hb dX4_build_44 (lv_at hl 4 rfl) ?_
          have hR0 := ob_ok hR
          clear hR
          obtain ⟨q6, hq6, hR⟩ := hR0
          refine va_calli (va_runV (As := [.int y4]) (rest := []) ⟨hx, hb, hml, hown, hts⟩ (cc_X2_oldness l dC dI fu (sh_ a2 1) (sh_ k2 1) 40 H.size y4 s2.2.1 q6 hq6) (cwV 1 hts gX4_build_X2_oldness rfl rfl rfl (by decide +kernel) ⟨Nat.le_of_ble_eq_true rfl, Nat.le_of_ble_eq_true rfl⟩) (pf_v (hK.sub (tys' := zt_2 (sh_ k2 1)) [5, 6, 7, 8, 9] rfl) (sub_P (sb_4_8__1c1 a1 a2 k1 k2 u1 s2) hP) (sub_D (sb_4_8__1c1 a1 a2 k1 k2 u1 s2) hD) 2 0 rfl rfl rfl) rfl rfl hl.1 rfl (lv_room (Nat.le_of_ble_eq_true rfl)) dX4_build_46 ⟨Nat.le_refl _, Nat.le_refl _⟩) hS (fun q _ h => (sub_F (sb_4_8__1c1 a1 a2 k1 k2 u1 s2) hD hS hA) q h) (sub_F (sb_4_8__1c1 a1 a2 k1 k2 u1 s2) hD hS hA) (fun r6 v6 t6 H6 locs6 ht6 hvm6 hw6 hB6 hz6 hk6 hS6 => ?_)
          subst hw6
          obtain ⟨hP6, hD6⟩ := jn_sub (sb_4_8__1c1 a1 a2 k1 k2 u1 s2) (jo_4_8__1c1__ a1 a2 k1 k2 u1 s2 ) rfl hP hD hk6 ht6 hB6
          have hP6 : va_P (dC, dI) vwCl (zc_4 a1 k1 u1 ++ zc_8 a2 k2 s2) H6 := hP6
          have hD6 : va_D A (zc_4 a1 k1 u1 ++ zc_8 a2 k2 s2) := hD6
          clear hP hD hS hB6 hk6 hvm6 hz6 ht6
          exact hB49 (rr_X4_build_8 fu s2 n) ih y2 y3 y4 q6 u1 H6 locs6 ls hP6 hD6 hS6 (lv_sub hl [0, 1, 2, 3, 4] rfl) hR
        · replace hR := ifp_ hR c5
          refine lv_aload_n hx hb dX4_build_26 rfl (lv_at hl 1 rfl) ?_
          refine va_get (D := (dC, dI)) (ci := 8) (v := .ref (a2 1)) (C := RX8) (T := TX8) (N := 4) hx hb hts hin8 hown hK hP 6 rfl rfl 1 (by decide) (hts (.fieldLink RX4 32 "OldestCoins$Town" "coins" "LOldestCoins$Coins;") (List.mem_of_getElem? (i := 2) rfl)) (fun _ h9 => h9) rfl dX4_build_27 ?_
          refine lv_iload hx hb dX4_build_30 (lv_at hl 4 rfl) ?_
          refine lv_iconst (v := (1 : Int32)) hx hb dX4_build_32 (by decide) ?_
          refine lv_iload_n hx hb dX4_build_33 rfl (lv_at hl 3 rfl) ?_
          have hR0 := ob_ok hR
          clear hR
          obtain ⟨q7, hq7, hR⟩ := hR0
          refine va_calli (va_runV (As := [.int y4, .int (1 : Int32), .int y3]) (rest := []) ⟨hx, hb, hml, hown, hts⟩ (cc_X2_oldnessAs l dC dI fu (sh_ a2 1) (sh_ k2 1) 40 H.size y4 (1 : Int32) y3 s2.2.1 q7 hq7) (cwV 3 hts gX4_build_X2_oldnessAs rfl rfl rfl (by decide +kernel) ⟨Nat.le_of_ble_eq_true rfl, Nat.le_of_ble_eq_true rfl⟩) (pf_v (hK.sub (tys' := zt_2 (sh_ k2 1)) [5, 6, 7, 8, 9] rfl) (sub_P (sb_4_8__1c1 a1 a2 k1 k2 u1 s2) hP) (sub_D (sb_4_8__1c1 a1 a2 k1 k2 u1 s2) hD) 2 0 rfl rfl rfl) rfl rfl hl.1 rfl (lv_room (Nat.le_of_ble_eq_true rfl)) dX4_build_34 ⟨Nat.le_refl _, Nat.le_refl _⟩) hS (fun q _ h => (sub_F (sb_4_8__1c1 a1 a2 k1 k2 u1 s2) hD hS hA) q h) (sub_F (sb_4_8__1c1 a1 a2 k1 k2 u1 s2) hD hS hA) (fun r7 v7 t7 H7 locs7 ht7 hvm7 hw7 hB7 hz7 hk7 hS7 => ?_)
          subst hw7
          obtain ⟨hP7, hD7⟩ := jn_sub (sb_4_8__1c1 a1 a2 k1 k2 u1 s2) (jo_4_8__1c1__ a1 a2 k1 k2 u1 s2 ) rfl hP hD hk7 ht7 hB7
          have hP7 : va_P (dC, dI) vwCl (zc_4 a1 k1 u1 ++ zc_8 a2 k2 s2) H7 := hP7
          have hD7 : va_D A (zc_4 a1 k1 u1 ++ zc_8 a2 k2 s2) := hD7
          clear hP hD hS hB7 hk7 hvm7 hz7 ht7
          refine lv_goto (tgt := 49) hx hb dX4_build_37 (by decide) ?_
          exact hB49 (rr_X4_build_8 fu s2 n) ih y2 y3 y4 q7 u1 H7 locs7 ls hP7 hD7 hS7 (lv_sub hl [0, 1, 2, 3, 4] rfl) hR
  unfold rr_X4_build at hR
  refine lv_aload_n hx hb dX4_build_0 rfl (lv_at hl 0 rfl) ?_
  refine lv_iconst (v := (0 : Int32)) hx hb dX4_build_1 (by decide) ?_
  refine va_put (D := (dC, dI)) (ci := 4) (v := .int (0 : Int32)) (ty := .int) (C := RX4) (T := TX4) (N := 6) hx hb hts hin4 tyX4 tyX4_ok nmX4 hown hK hP hD hS 0 rfl rfl 0 (by decide) (hts (.fieldLink RX4 28 "OldestCoins$Ranks" "size" "I") (List.mem_of_getElem? (i := 1) rfl)) (fun _ h9 => h9) rfl (by decide +kernel) rfl rfl (Nat.le_of_ble_eq_true rfl) dX4_build_2 (fun H1 locs1 hP1 hD1 hS1 => ?_)
  have hP1 : va_P (dC, dI) vwCl (zc_4 a1 k1 ((0 : Int32), s1.2) ++ zc_8 a2 k2 s2) H1 := hP1
  have hD1 : va_D A (zc_4 a1 k1 ((0 : Int32), s1.2) ++ zc_8 a2 k2 s2) := hD1
  clear hP hD hS
  refine lv_iconst (v := (0 : Int32)) hx hb dX4_build_5 (by decide) ?_
  refine lv_istore (lv' := [(4, .int (0 : Int32)), (0, .ref (a1 0)), (1, .ref (a2 0)), (2, .int x2), (3, .int x3)]) hx hb dX4_build_6 hl (by decide) rfl (fun ls2 hl2 => ?_)
  exact hB8 fu x2 x3 (0 : Int32) ((0 : Int32), s1.2) H1 locs1 ls2 hP1 hD1 hS1 (lv_sub hl2 [1, 2, 3, 4, 0] rfl) hR
def rr_X5_lay_17_b (fu : Nat) (rec17 : Int32 → Int32 → Int32 → ZT_5 → Option (ZT_5)) (y1 : Int32) (y3 : Int32) (y4 : Int32) (u1 : ZT_5) : Option (ZT_5) := (if y3 ≤ y4 then some u1 else ck_ ((y1 * (24 : Int32)) + y4) 96 (lt_ (α := Int32) (y4 + (1 : Int32)) (fun z6 => rec17 y1 y3 z6 (u1.1, u1.2.1, (vp_updL u1.2.2 ((y1 * (24 : Int32)) + y4).toNatClampNeg (0 : Int64))))))
def rr_X5_lay_17 (fu : Nat) (n : Nat) : Int32 → Int32 → Int32 → ZT_5 → Option (ZT_5) := lp_ (fun _ _ _ _ => none) (rr_X5_lay_17_b fu) n
def rr_X5_lay (fu : Nat) (x1 : Int32) (x2 : Int32) (x3 : Int32) (s1 : ZT_5) : Option (ZT_5) := ck_ x1 4 (ck_ x1 4 (rr_X5_lay_17 fu fu x1 x3 (0 : Int32) ((upd s1.1 x1.toNatClampNeg x2), (upd s1.2.1 x1.toNatClampNeg x3), s1.2.2)))
set_option maxHeartbeats 4000000 in
set_option maxRecDepth 100000 in
theorem cc_X5_lay (l : Launch) (dC : Nat → ClassId) (dI : Nat → Nat → Nat) (fu : Nat) (a1 : Nat → Nat) (k1 : Nat → ClassId) (sz : Nat) (x1 : Int32) (x2 : Int32) (x3 : Int32) (s1 : ZT_5) (res : ZT_5) (hR : rr_X5_lay fu x1 x2 x3 s1 = some res) : Met l yX5_lay wsX5_lay ({ frames := 0, cells := 0, slots := 0, locals := 0 } : Room) (PcF [.ref (a1 0), .int x1, .int x2, .int x3] sz (dC, dI) (zc_5 a1 k1 s1) (zt_5 k1)) (va_Qv (fun u : ZT_5 => res = u) (fun u t => at3_ (dC, dI) (zc_5 a1 k1 u) (zt_5 k1) (va_A (zc_5 a1 k1 s1) sz) t) (va_A (zc_5 a1 k1 s1) sz)) 0 0 (va_A (zc_5 a1 k1 s1) sz) := by
  refine Met.ofW (cc := cX5_lay) (maxL := 5) (ret := none) (by decide) rfl ?_
  intro p e s m args below meth c s₁ B hml hv
  obtain ⟨hav, hsz, hP, hK, hD0⟩ := hv
  have hx := B.exec
  have hb := B.bytes
  have hr := B.returns
  have hts := atoms_spec (ws := wsX5_lay) B.pre
  have hown : s.vm.findClass RX5 = some m.cls := findClass_of_methodNamed B.named
  have hlocks := B.notSynchronized
  have hin5 : ∀ w ∈ wsX50, w ∈ wsX5_lay := fun w h => List.mem_cons_of_mem _ (List.mem_append_right _ h)
  subst hsz
  have hD := hD0.self (sz := s.heap.size)
  clear hD0
  generalize hAe : va_A (zc_5 a1 k1 s1) s.heap.size = A at hD ⊢
  have hA : ∀ q : Nat, s.heap.size ≤ q → A q := fun q h => by rw [← hAe]; exact Or.inr h
  have hS : va_S A s.heap s.heap [] := va_S.rf
  generalize hQe : MQ below _ args s 0 0 A = Q
  rw [show entryFrame m args 5 = F0 m 0 ((lg_sl ([.ref (a1 0), .int x1, .int x2, .int x3]) ++ List.replicate (5 - (lg_sl ([.ref (a1 0), .int x1, .int x2, .int x3])).length) Slot.unset).toArray) [] from by rw [hav]; exact lg_entry_eq m _ _]
  have hl := lv_entry ([.ref (a1 0), .int x1, .int x2, .int x3]) (n := 5) (Nat.le_of_ble_eq_true rfl)
  generalize (lg_sl ([.ref (a1 0), .int x1, .int x2, .int x3]) ++ List.replicate (5 - (lg_sl ([.ref (a1 0), .int x1, .int x2, .int x3])).length) Slot.unset).toArray = ls at hl ⊢
  have hl : lv_has ls 5 [(0, .ref (a1 0)), (1, .int x1), (2, .int x2), (3, .int x3)] := hl
  have hB17 : ∀ (n : Nat), ∀ (y1 : Int32) (y3 : Int32) (y4 : Int32) (u1 : ZT_5) (H : Heap) (locs : List Loc) (ls : Array Slot), va_P (dC, dI) vwCl (zc_5 a1 k1 u1) H → va_D A (zc_5 a1 k1 u1) → va_S A s.heap H locs → lv_has ls 5 [(0, .ref (a1 0)), (1, .int y1), (3, .int y3), (4, .int y4)] → rr_X5_lay_17 fu n y1 y3 y4 u1 = some res → W p l e ({ frames := 0, cells := 0, slots := 0, locals := 0 } : Room) s m args below meth c H locs 0 0 Q (F0 m 17 ls []) := by
    intro  n
    induction n with
    | zero => intro y1 y3 y4 u1 H locs ls hP hD hS hl hR; exact absurd hR (by intro h; cases h)
    | succ n ih =>
      intro y1 y3 y4 u1 H locs ls hP hD hS hl hR
      replace hR : rr_X5_lay_17_b fu (rr_X5_lay_17 fu n) y1 y3 y4 u1 = some res := hR
      unfold rr_X5_lay_17_b at hR
      refine lv_iload hx hb dX5_lay_17 (lv_at hl 3 rfl) ?_
      refine lv_iload_n hx hb dX5_lay_19 rfl (lv_at hl 2 rfl) ?_
      refine lv_icmp_ge (tgt := 42) hx hb dX5_lay_20 (by decide) (fun c4 => ?_) (fun c4 => ?_)
      · replace hR := ifp_ hR c4
        subst hQe
        exact W.vret hx hb hr (fun t ht hW => ⟨⟨u1, rfl, (Option.some.inj hR).symm, by rw [ht]; exact hP, va_K.moved hW.alike hK, hD⟩, hS.F ht⟩) hS.2.2 dX5_lay_42
      · replace hR := ifn_ hR c4
        refine lv_aload_n hx hb dX5_lay_23 rfl (lv_at hl 0 rfl) ?_
        refine va_get (D := (dC, dI)) (ci := 5) (v := .ref (a1 3)) (C := RX5) (T := TX5) (N := 3) hx hb hts hin5 hown hK hP 0 rfl rfl 2 (by decide) (hts (.fieldLink RX5 18 "OldestCoins$Sheets" "items" "[J") (List.mem_of_getElem? (i := 3) rfl)) (fun _ h9 => h9) rfl dX5_lay_24 ?_
        refine lv_iload_n hx hb dX5_lay_27 rfl (lv_at hl 1 rfl) ?_
        refine lv_bipush (v := (24 : Int32)) hx hb dX5_lay_28 (by decide) ?_
        refine lv_imul hx hb dX5_lay_30 ?_
        refine lv_iload hx hb dX5_lay_31 (lv_at hl 3 rfl) ?_
        refine lv_iadd hx hb dX5_lay_33 ?_
        refine lv_lconst (v := (0 : Int64)) hx hb dX5_lay_34 (by decide) ?_
        have i5 := (ck_ok hR).1
        replace hR := (ck_ok hR).2
        refine va_last (f := u1.2.2) hx hb hK hP hD hS 3 2 rfl rfl i5 dX5_lay_35 (fun H5 locs5 hP5 hD5 hS5 => ?_)
        have hP5 : va_P (dC, dI) vwCl (zc_5 a1 k1 (u1.1, u1.2.1, (vp_updL u1.2.2 ((y1 * (24 : Int32)) + y4).toNatClampNeg (0 : Int64)))) H5 := hP5
        have hD5 : va_D A (zc_5 a1 k1 (u1.1, u1.2.1, (vp_updL u1.2.2 ((y1 * (24 : Int32)) + y4).toNatClampNeg (0 : Int64)))) := hD5
        clear hP hD hS
        obtain ⟨z6, ez6⟩ : ∃ y : Int32, y = (y4 + (1 : Int32)) := ⟨_, rfl⟩
        replace hR := lt_ok hR ez6
        refine lv_iinc (v := z6) (lv' := [(4, .int z6), (0, .ref (a1 0)), (1, .int y1), (3, .int y3)]) hx hb dX5_lay_36 hl (k := 3) rfl (by rw [ez6]; rfl) (by decide) rfl (fun ls6 hl6 => ?_)
        refine lv_goto (tgt := 17) hx hb dX5_lay_39 (by decide) ?_
        exact ih y1 y3 z6 (u1.1, u1.2.1, (vp_updL u1.2.2 ((y1 * (24 : Int32)) + y4).toNatClampNeg (0 : Int64))) H5 locs5 ls6 hP5 hD5 hS5 (lv_sub hl6 [1, 2, 3, 0] rfl) hR
  unfold rr_X5_lay at hR
  refine lv_aload_n hx hb dX5_lay_0 rfl (lv_at hl 0 rfl) ?_
  refine va_get (D := (dC, dI)) (ci := 5) (v := .ref (a1 1)) (C := RX5) (T := TX5) (N := 3) hx hb hts hin5 hown hK hP 0 rfl rfl 0 (by decide) (hts (.fieldLink RX5 9 "OldestCoins$Sheets" "lane" "[I") (List.mem_of_getElem? (i := 1) rfl)) (fun _ h9 => h9) rfl dX5_lay_1 ?_
  refine lv_iload_n hx hb dX5_lay_4 rfl (lv_at hl 1 rfl) ?_
  refine lv_iload_n hx hb dX5_lay_5 rfl (lv_at hl 2 rfl) ?_
  have i1 := (ck_ok hR).1
  replace hR := (ck_ok hR).2
  refine va_iast (f := s1.1) hx hb hK hP hD hS 1 0 rfl rfl i1 dX5_lay_6 (fun H1 locs1 hP1 hD1 hS1 => ?_)
  have hP1 : va_P (dC, dI) vwCl (zc_5 a1 k1 ((upd s1.1 x1.toNatClampNeg x2), s1.2)) H1 := hP1
  have hD1 : va_D A (zc_5 a1 k1 ((upd s1.1 x1.toNatClampNeg x2), s1.2)) := hD1
  clear hP hD hS
  refine lv_aload_n hx hb dX5_lay_7 rfl (lv_at hl 0 rfl) ?_
  refine va_get (D := (dC, dI)) (ci := 5) (v := .ref (a1 2)) (C := RX5) (T := TX5) (N := 3) hx hb hts hin5 hown hK hP1 0 rfl rfl 1 (by decide) (hts (.fieldLink RX5 15 "OldestCoins$Sheets" "size" "[I") (List.mem_of_getElem? (i := 2) rfl)) (fun _ h9 => h9) rfl dX5_lay_8 ?_
  refine lv_iload_n hx hb dX5_lay_11 rfl (lv_at hl 1 rfl) ?_
  refine lv_iload_n hx hb dX5_lay_12 rfl (lv_at hl 3 rfl) ?_
  have i2 := (ck_ok hR).1
  replace hR := (ck_ok hR).2
  refine va_iast (f := s1.2.1) hx hb hK hP1 hD1 hS1 2 1 rfl rfl i2 dX5_lay_13 (fun H2 locs2 hP2 hD2 hS2 => ?_)
  have hP2 : va_P (dC, dI) vwCl (zc_5 a1 k1 ((upd s1.1 x1.toNatClampNeg x2), (upd s1.2.1 x1.toNatClampNeg x3), s1.2.2)) H2 := hP2
  have hD2 : va_D A (zc_5 a1 k1 ((upd s1.1 x1.toNatClampNeg x2), (upd s1.2.1 x1.toNatClampNeg x3), s1.2.2)) := hD2
  clear hP1 hD1 hS1
  refine lv_iconst (v := (0 : Int32)) hx hb dX5_lay_14 (by decide) ?_
  refine lv_istore (lv' := [(4, .int (0 : Int32)), (0, .ref (a1 0)), (1, .int x1), (2, .int x2), (3, .int x3)]) hx hb dX5_lay_15 hl (by decide) rfl (fun ls3 hl3 => ?_)
  exact hB17 fu x1 x3 (0 : Int32) ((upd s1.1 x1.toNatClampNeg x2), (upd s1.2.1 x1.toNatClampNeg x3), s1.2.2) H2 locs2 ls3 hP2 hD2 hS2 (lv_sub hl3 [1, 2, 4, 0] rfl) hR
def rr_X3_judge_97 (fu : Nat) (u1 : ZT_3) : Option (ZT_3) := lt_ (α := Int32) (u1.2.2.1 + (1 : Int32)) (fun z14 => some (u1.1, u1.2.1, z14, u1.2.2.2))
def rr_X3_judge_71_b (fu : Nat) (rec71 : Int32 → ZT_3 → Option (ZT_3)) (y3 : Int32) (u1 : ZT_3) : Option (ZT_3) := (if u1.2.2.2.2.1 ≤ y3 then rr_X3_judge_97 fu u1 else ck_ y3 4 (lt_ (α := Int32) (u1.2.2.2.1 y3.toNatClampNeg) (fun z18 => ck_ y3 4 (lt_ (α := Int32) (y3 + (1 : Int32)) (fun z20 => rec71 z20 (u1.1, (upd u1.2.1 y3.toNatClampNeg z18), u1.2.2))))))
def rr_X3_judge_71 (fu : Nat) (n : Nat) : Int32 → ZT_3 → Option (ZT_3) := lp_ (fun _ _ => none) (rr_X3_judge_71_b fu) n
def rr_X3_judge_40 (fu : Nat) (y1 : Int32) (y2 : Int32) (u1 : ZT_3) : Option (ZT_3) := (if y1 = u1.2.2.2.2.2.2.1 then (if (y2 - u1.2.2.2.2.2.1) = u1.2.2.2.2.2.2.2 then (if u1.2.2.1 = (0 : Int32) then rr_X3_judge_71 fu fu (0 : Int32) u1 else rr_X3_judge_97 fu u1) else some u1) else some u1)
def rr_X3_judge_4_b (fu : Nat) (rec4 : Int32 → Int32 → ZT_3 → Option (ZT_3)) (y1 : Int32) (y2 : Int32) (u1 : ZT_3) : Option (ZT_3) := (if u1.2.2.2.2.1 ≤ y1 then rr_X3_judge_40 fu y1 y2 u1 else (if u1.2.2.2.2.2.1 ≤ y2 then rr_X3_judge_40 fu y1 y2 u1 else ck_ y1 4 (ck_ (u1.2.2.2.1 y1.toNatClampNeg) 4 (lt_ (α := Int32) (y2 + (u1.1 (u1.2.2.2.1 y1.toNatClampNeg).toNatClampNeg)) (fun z7 => lt_ (α := Int32) (y1 + (1 : Int32)) (fun z9 => rec4 z9 z7 u1))))))
def rr_X3_judge_4 (fu : Nat) (n : Nat) : Int32 → Int32 → ZT_3 → Option (ZT_3) := lp_ (fun _ _ _ => none) (rr_X3_judge_4_b fu) n
def rr_X3_judge (fu : Nat) (s1 : ZT_3) : Option (ZT_3) := rr_X3_judge_4 fu fu (0 : Int32) (0 : Int32) s1
set_option maxHeartbeats 4000000 in
set_option maxRecDepth 100000 in
theorem cc_X3_judge (l : Launch) (dC : Nat → ClassId) (dI : Nat → Nat → Nat) (fu : Nat) (a1 : Nat → Nat) (k1 : Nat → ClassId) (sz : Nat) (s1 : ZT_3) (res : ZT_3) (hR : rr_X3_judge fu s1 = some res) : Met l yX3_judge wsX3_judge ({ frames := 0, cells := 0, slots := 0, locals := 0 } : Room) (PcF [.ref (a1 0)] sz (dC, dI) (zc_3 a1 k1 s1) (zt_3 k1)) (va_Qv (fun u : ZT_3 => res = u) (fun u t => at3_ (dC, dI) (zc_3 a1 k1 u) (zt_3 k1) (va_A (zc_3 a1 k1 s1) sz) t) (va_A (zc_3 a1 k1 s1) sz)) 0 0 (va_A (zc_3 a1 k1 s1) sz) := by
  refine Met.ofW (cc := cX3_judge) (maxL := 4) (ret := none) (by decide) rfl ?_
  intro p e s m args below meth c s₁ B hml hv
  obtain ⟨hav, hsz, hP, hK, hD0⟩ := hv
  have hx := B.exec
  have hb := B.bytes
  have hr := B.returns
  have hts := atoms_spec (ws := wsX3_judge) B.pre
  have hown : s.vm.findClass RX3 = some m.cls := findClass_of_methodNamed B.named
  have hlocks := B.notSynchronized
  have hin3 : ∀ w ∈ wsX30, w ∈ wsX3_judge := fun w h => List.mem_cons_of_mem _ (List.mem_append_right _ h)
  subst hsz
  have hD := hD0.self (sz := s.heap.size)
  clear hD0
  generalize hAe : va_A (zc_3 a1 k1 s1) s.heap.size = A at hD ⊢
  have hA : ∀ q : Nat, s.heap.size ≤ q → A q := fun q h => by rw [← hAe]; exact Or.inr h
  have hS : va_S A s.heap s.heap [] := va_S.rf
  generalize hQe : MQ below _ args s 0 0 A = Q
  rw [show entryFrame m args 4 = F0 m 0 ((lg_sl ([.ref (a1 0)]) ++ List.replicate (4 - (lg_sl ([.ref (a1 0)])).length) Slot.unset).toArray) [] from by rw [hav]; exact lg_entry_eq m _ _]
  have hl := lv_entry ([.ref (a1 0)]) (n := 4) (Nat.le_of_ble_eq_true rfl)
  generalize (lg_sl ([.ref (a1 0)]) ++ List.replicate (4 - (lg_sl ([.ref (a1 0)])).length) Slot.unset).toArray = ls at hl ⊢
  have hl : lv_has ls 4 [(0, .ref (a1 0))] := hl
  have hB97 : ∀ (u1 : ZT_3) (H : Heap) (locs : List Loc) (ls : Array Slot), va_P (dC, dI) vwCl (zc_3 a1 k1 u1) H → va_D A (zc_3 a1 k1 u1) → va_S A s.heap H locs → lv_has ls 4 [(0, .ref (a1 0))] → rr_X3_judge_97 fu u1 = some res → W p l e ({ frames := 0, cells := 0, slots := 0, locals := 0 } : Room) s m args below meth c H locs 0 0 Q (F0 m 97 ls []) := by
    intro  u1 H locs ls hP hD hS hl hR
    unfold rr_X3_judge_97 at hR
    refine lv_aload_n hx hb dX3_judge_97 rfl (lv_at hl 0 rfl) ?_
    refine lv_dup hx hb dX3_judge_98 rfl ?_
    refine va_get (D := (dC, dI)) (ci := 3) (v := .int u1.2.2.1) (C := RX3) (T := TX3) (N := 8) hx hb hts hin3 hown hK hP 0 rfl rfl 2 (by decide) (hts (.fieldLink RX3 34 "OldestCoins$Guess" "found" "I") (List.mem_of_getElem? (i := 7) rfl)) (fun _ h9 => h9) rfl dX3_judge_99 ?_
    refine lv_iconst (v := (1 : Int32)) hx hb dX3_judge_102 (by decide) ?_
    refine lv_iadd hx hb dX3_judge_103 ?_
    refine lv_topi (fun z14 ez14 => ?_)
    replace hR := lt_ok hR ez14
    refine va_put (D := (dC, dI)) (ci := 3) (v := .int z14) (ty := .int) (C := RX3) (T := TX3) (N := 8) hx hb hts hin3 tyX3 tyX3_ok nmX3 hown hK hP hD hS 0 rfl rfl 2 (by decide) (hts (.fieldLink RX3 34 "OldestCoins$Guess" "found" "I") (List.mem_of_getElem? (i := 7) rfl)) (fun _ h9 => h9) rfl (by decide +kernel) rfl rfl (Nat.le_of_ble_eq_true rfl) dX3_judge_104 (fun H15 locs15 hP15 hD15 hS15 => ?_)
    have hP15 : va_P (dC, dI) vwCl (zc_3 a1 k1 (u1.1, u1.2.1, z14, u1.2.2.2)) H15 := hP15
    have hD15 : va_D A (zc_3 a1 k1 (u1.1, u1.2.1, z14, u1.2.2.2)) := hD15
    clear hP hD hS
    subst hQe
    exact W.vret hx hb hr (fun t ht hW => ⟨⟨(u1.1, u1.2.1, z14, u1.2.2.2), rfl, (Option.some.inj hR).symm, by rw [ht]; exact hP15, va_K.moved hW.alike hK, hD15⟩, hS15.F ht⟩) hS15.2.2 dX3_judge_107
  have hB71 : ∀ (n : Nat), ∀ (y3 : Int32) (u1 : ZT_3) (H : Heap) (locs : List Loc) (ls : Array Slot), va_P (dC, dI) vwCl (zc_3 a1 k1 u1) H → va_D A (zc_3 a1 k1 u1) → va_S A s.heap H locs → lv_has ls 4 [(0, .ref (a1 0)), (3, .int y3)] → rr_X3_judge_71 fu n y3 u1 = some res → W p l e ({ frames := 0, cells := 0, slots := 0, locals := 0 } : Room) s m args below meth c H locs 0 0 Q (F0 m 71 ls []) := by
    intro  n
    induction n with
    | zero => intro y3 u1 H locs ls hP hD hS hl hR; exact absurd hR (by intro h; cases h)
    | succ n ih =>
      intro y3 u1 H locs ls hP hD hS hl hR
      replace hR : rr_X3_judge_71_b fu (rr_X3_judge_71 fu n) y3 u1 = some res := hR
      unfold rr_X3_judge_71_b at hR
      refine lv_iload_n hx hb dX3_judge_71 rfl (lv_at hl 1 rfl) ?_
      refine lv_aload_n hx hb dX3_judge_72 rfl (lv_at hl 0 rfl) ?_
      refine va_get (D := (dC, dI)) (ci := 3) (v := .int u1.2.2.2.2.1) (C := RX3) (T := TX3) (N := 8) hx hb hts hin3 hown hK hP 0 rfl rfl 4 (by decide) (hts (.fieldLink RX3 21 "OldestCoins$Guess" "size" "I") (List.mem_of_getElem? (i := 1) rfl)) (fun _ h9 => h9) rfl dX3_judge_73 ?_
      refine lv_icmp_ge (tgt := 97) hx hb dX3_judge_76 (by decide) (fun c16 => ?_) (fun c16 => ?_)
      · replace hR := ifp_ hR c16
        exact hB97 u1 H locs ls hP hD hS (lv_sub hl [0] rfl) hR
      · replace hR := ifn_ hR c16
        refine lv_aload_n hx hb dX3_judge_79 rfl (lv_at hl 0 rfl) ?_
        refine va_get (D := (dC, dI)) (ci := 3) (v := .ref (a1 2)) (C := RX3) (T := TX3) (N := 8) hx hb hts hin3 hown hK hP 0 rfl rfl 1 (by decide) (hts (.fieldLink RX3 15 "OldestCoins$Guess" "first" "[I") (List.mem_of_getElem? (i := 8) rfl)) (fun _ h9 => h9) rfl dX3_judge_80 ?_
        refine lv_iload_n hx hb dX3_judge_83 rfl (lv_at hl 1 rfl) ?_
        refine lv_aload_n hx hb dX3_judge_84 rfl (lv_at hl 0 rfl) ?_
        refine va_get (D := (dC, dI)) (ci := 3) (v := .ref (a1 3)) (C := RX3) (T := TX3) (N := 8) hx hb hts hin3 hown hK hP 0 rfl rfl 3 (by decide) (hts (.fieldLink RX3 18 "OldestCoins$Guess" "path" "[I") (List.mem_of_getElem? (i := 4) rfl)) (fun _ h9 => h9) rfl dX3_judge_85 ?_
        refine lv_iload_n hx hb dX3_judge_88 rfl (lv_at hl 1 rfl) ?_
        have i17 := (ck_ok hR).1
        replace hR := (ck_ok hR).2
        refine va_iald (f := u1.2.2.2.1) hx hb hK hP 3 2 rfl rfl i17 dX3_judge_89 ?_
        refine lv_topi (fun z18 ez18 => ?_)
        replace hR := lt_ok hR ez18
        have i19 := (ck_ok hR).1
        replace hR := (ck_ok hR).2
        refine va_iast (f := u1.2.1) hx hb hK hP hD hS 2 1 rfl rfl i19 dX3_judge_90 (fun H19 locs19 hP19 hD19 hS19 => ?_)
        have hP19 : va_P (dC, dI) vwCl (zc_3 a1 k1 (u1.1, (upd u1.2.1 y3.toNatClampNeg z18), u1.2.2)) H19 := hP19
        have hD19 : va_D A (zc_3 a1 k1 (u1.1, (upd u1.2.1 y3.toNatClampNeg z18), u1.2.2)) := hD19
        clear hP hD hS
        obtain ⟨z20, ez20⟩ : ∃ y : Int32, y = (y3 + (1 : Int32)) := ⟨_, rfl⟩
        replace hR := lt_ok hR ez20
        refine lv_iinc (v := z20) (lv' := [(3, .int z20), (0, .ref (a1 0))]) hx hb dX3_judge_91 hl (k := 1) rfl (by rw [ez20]; rfl) (by decide) rfl (fun ls20 hl20 => ?_)
        refine lv_goto (tgt := 71) hx hb dX3_judge_94 (by decide) ?_
        exact ih z20 (u1.1, (upd u1.2.1 y3.toNatClampNeg z18), u1.2.2) H19 locs19 ls20 hP19 hD19 hS19 (lv_sub hl20 [1, 0] rfl) hR
  have hB40 : ∀ (y1 : Int32) (y2 : Int32) (u1 : ZT_3) (H : Heap) (locs : List Loc) (ls : Array Slot), va_P (dC, dI) vwCl (zc_3 a1 k1 u1) H → va_D A (zc_3 a1 k1 u1) → va_S A s.heap H locs → lv_has ls 4 [(0, .ref (a1 0)), (1, .int y1), (2, .int y2)] → rr_X3_judge_40 fu y1 y2 u1 = some res → W p l e ({ frames := 0, cells := 0, slots := 0, locals := 0 } : Room) s m args below meth c H locs 0 0 Q (F0 m 40 ls []) := by
    intro  y1 y2 u1 H locs ls hP hD hS hl hR
    unfold rr_X3_judge_40 at hR
    refine lv_iload_n hx hb dX3_judge_40 rfl (lv_at hl 1 rfl) ?_
    refine lv_aload_n hx hb dX3_judge_41 rfl (lv_at hl 0 rfl) ?_
    refine va_get (D := (dC, dI)) (ci := 3) (v := .int u1.2.2.2.2.2.2.1) (C := RX3) (T := TX3) (N := 8) hx hb hts hin3 hown hK hP 0 rfl rfl 6 (by decide) (hts (.fieldLink RX3 28 "OldestCoins$Guess" "paid" "I") (List.mem_of_getElem? (i := 5) rfl)) (fun _ h9 => h9) rfl dX3_judge_42 ?_
    refine lv_icmp_ne (tgt := 61) hx hb dX3_judge_45 (by decide) (fun c10 => ?_) (fun c10 => ?_)
    · replace hR := ifn_ hR c10
      subst hQe
      exact W.vret hx hb hr (fun t ht hW => ⟨⟨u1, rfl, (Option.some.inj hR).symm, by rw [ht]; exact hP, va_K.moved hW.alike hK, hD⟩, hS.F ht⟩) hS.2.2 dX3_judge_61
    · replace hR := ifp_ hR c10
      refine lv_iload_n hx hb dX3_judge_48 rfl (lv_at hl 2 rfl) ?_
      refine lv_aload_n hx hb dX3_judge_49 rfl (lv_at hl 0 rfl) ?_
      refine va_get (D := (dC, dI)) (ci := 3) (v := .int u1.2.2.2.2.2.1) (C := RX3) (T := TX3) (N := 8) hx hb hts hin3 hown hK hP 0 rfl rfl 5 (by decide) (hts (.fieldLink RX3 25 "OldestCoins$Guess" "sum" "I") (List.mem_of_getElem? (i := 2) rfl)) (fun _ h9 => h9) rfl dX3_judge_50 ?_
      refine lv_isub hx hb dX3_judge_53 ?_
      refine lv_aload_n hx hb dX3_judge_54 rfl (lv_at hl 0 rfl) ?_
      refine va_get (D := (dC, dI)) (ci := 3) (v := .int u1.2.2.2.2.2.2.2) (C := RX3) (T := TX3) (N := 8) hx hb hts hin3 hown hK hP 0 rfl rfl 7 (by decide) (hts (.fieldLink RX3 31 "OldestCoins$Guess" "change" "I") (List.mem_of_getElem? (i := 6) rfl)) (fun _ h9 => h9) rfl dX3_judge_55 ?_
      refine lv_icmp_eq (tgt := 62) hx hb dX3_judge_58 (by decide) (fun c11 => ?_) (fun c11 => ?_)
      · replace hR := ifp_ hR c11
        refine lv_aload_n hx hb dX3_judge_62 rfl (lv_at hl 0 rfl) ?_
        refine va_get (D := (dC, dI)) (ci := 3) (v := .int u1.2.2.1) (C := RX3) (T := TX3) (N := 8) hx hb hts hin3 hown hK hP 0 rfl rfl 2 (by decide) (hts (.fieldLink RX3 34 "OldestCoins$Guess" "found" "I") (List.mem_of_getElem? (i := 7) rfl)) (fun _ h9 => h9) rfl dX3_judge_63 ?_
        refine lv_if_ne (tgt := 97) hx hb dX3_judge_66 (by decide) (fun c12 => ?_) (fun c12 => ?_)
        · replace hR := ifn_ hR c12
          exact hB97 u1 H locs ls hP hD hS (lv_sub hl [0] rfl) hR
        · replace hR := ifp_ hR c12
          refine lv_iconst (v := (0 : Int32)) hx hb dX3_judge_69 (by decide) ?_
          refine lv_istore_n (lv' := [(3, .int (0 : Int32)), (0, .ref (a1 0)), (1, .int y1), (2, .int y2)]) hx hb dX3_judge_70 rfl hl (by decide) rfl (fun ls13 hl13 => ?_)
          exact hB71 fu (0 : Int32) u1 H locs ls13 hP hD hS (lv_sub hl13 [1, 0] rfl) hR
      · replace hR := ifn_ hR c11
        subst hQe
        exact W.vret hx hb hr (fun t ht hW => ⟨⟨u1, rfl, (Option.some.inj hR).symm, by rw [ht]; exact hP, va_K.moved hW.alike hK, hD⟩, hS.F ht⟩) hS.2.2 dX3_judge_61
  have hB4 : ∀ (n : Nat), ∀ (y1 : Int32) (y2 : Int32) (u1 : ZT_3) (H : Heap) (locs : List Loc) (ls : Array Slot), va_P (dC, dI) vwCl (zc_3 a1 k1 u1) H → va_D A (zc_3 a1 k1 u1) → va_S A s.heap H locs → lv_has ls 4 [(0, .ref (a1 0)), (1, .int y1), (2, .int y2)] → rr_X3_judge_4 fu n y1 y2 u1 = some res → W p l e ({ frames := 0, cells := 0, slots := 0, locals := 0 } : Room) s m args below meth c H locs 0 0 Q (F0 m 4 ls []) := by
    intro  n
    induction n with
    | zero => intro y1 y2 u1 H locs ls hP hD hS hl hR; exact absurd hR (by intro h; cases h)
    | succ n ih =>
      intro y1 y2 u1 H locs ls hP hD hS hl hR
      replace hR : rr_X3_judge_4_b fu (rr_X3_judge_4 fu n) y1 y2 u1 = some res := hR
      unfold rr_X3_judge_4_b at hR
      refine lv_iload_n hx hb dX3_judge_4 rfl (lv_at hl 1 rfl) ?_
      refine lv_aload_n hx hb dX3_judge_5 rfl (lv_at hl 0 rfl) ?_
      refine va_get (D := (dC, dI)) (ci := 3) (v := .int u1.2.2.2.2.1) (C := RX3) (T := TX3) (N := 8) hx hb hts hin3 hown hK hP 0 rfl rfl 4 (by decide) (hts (.fieldLink RX3 21 "OldestCoins$Guess" "size" "I") (List.mem_of_getElem? (i := 1) rfl)) (fun _ h9 => h9) rfl dX3_judge_6 ?_
      refine lv_icmp_ge (tgt := 40) hx hb dX3_judge_9 (by decide) (fun c3 => ?_) (fun c3 => ?_)
      · replace hR := ifp_ hR c3
        exact hB40 y1 y2 u1 H locs ls hP hD hS (lv_sub hl [0, 1, 2] rfl) hR
      · replace hR := ifn_ hR c3
        refine lv_iload_n hx hb dX3_judge_12 rfl (lv_at hl 2 rfl) ?_
        refine lv_aload_n hx hb dX3_judge_13 rfl (lv_at hl 0 rfl) ?_
        refine va_get (D := (dC, dI)) (ci := 3) (v := .int u1.2.2.2.2.2.1) (C := RX3) (T := TX3) (N := 8) hx hb hts hin3 hown hK hP 0 rfl rfl 5 (by decide) (hts (.fieldLink RX3 25 "OldestCoins$Guess" "sum" "I") (List.mem_of_getElem? (i := 2) rfl)) (fun _ h9 => h9) rfl dX3_judge_14 ?_
        refine lv_icmp_ge (tgt := 40) hx hb dX3_judge_17 (by decide) (fun c4 => ?_) (fun c4 => ?_)
        · replace hR := ifp_ hR c4
          exact hB40 y1 y2 u1 H locs ls hP hD hS (lv_sub hl [0, 1, 2] rfl) hR
        · replace hR := ifn_ hR c4
          refine lv_iload_n hx hb dX3_judge_20 rfl (lv_at hl 2 rfl) ?_
          refine lv_aload_n hx hb dX3_judge_21 rfl (lv_at hl 0 rfl) ?_
          refine va_get (D := (dC, dI)) (ci := 3) (v := .ref (a1 1)) (C := RX3) (T := TX3) (N := 8) hx hb hts hin3 hown hK hP 0 rfl rfl 0 (by decide) (hts (.fieldLink RX3 9 "OldestCoins$Guess" "worth" "[I") (List.mem_of_getElem? (i := 3) rfl)) (fun _ h9 => h9) rfl dX3_judge_22 ?_
          refine lv_aload_n hx hb dX3_judge_25 rfl (lv_at hl 0 rfl) ?_
          refine va_get (D := (dC, dI)) (ci := 3) (v := .ref (a1 3)) (C := RX3) (T := TX3) (N := 8) hx hb hts hin3 hown hK hP 0 rfl rfl 3 (by decide) (hts (.fieldLink RX3 18 "OldestCoins$Guess" "path" "[I") (List.mem_of_getElem? (i := 4) rfl)) (fun _ h9 => h9) rfl dX3_judge_26 ?_
          refine lv_iload_n hx hb dX3_judge_29 rfl (lv_at hl 1 rfl) ?_
          have i5 := (ck_ok hR).1
          replace hR := (ck_ok hR).2
          refine va_iald (f := u1.2.2.2.1) hx hb hK hP 3 2 rfl rfl i5 dX3_judge_30 ?_
          have i6 := (ck_ok hR).1
          replace hR := (ck_ok hR).2
          refine va_iald (f := u1.1) hx hb hK hP 1 0 rfl rfl i6 dX3_judge_31 ?_
          refine lv_iadd hx hb dX3_judge_32 ?_
          refine lv_topi (fun z7 ez7 => ?_)
          replace hR := lt_ok hR ez7
          refine lv_istore_n (lv' := [(2, .int z7), (0, .ref (a1 0)), (1, .int y1)]) hx hb dX3_judge_33 rfl hl (by decide) rfl (fun ls8 hl8 => ?_)
          obtain ⟨z9, ez9⟩ : ∃ y : Int32, y = (y1 + (1 : Int32)) := ⟨_, rfl⟩
          replace hR := lt_ok hR ez9
          refine lv_iinc (v := z9) (lv' := [(1, .int z9), (2, .int z7), (0, .ref (a1 0))]) hx hb dX3_judge_34 hl8 (k := 2) rfl (by rw [ez9]; rfl) (by decide) rfl (fun ls9 hl9 => ?_)
          refine lv_goto (tgt := 4) hx hb dX3_judge_37 (by decide) ?_
          exact ih z9 z7 u1 H locs ls9 hP hD hS (lv_sub hl9 [2, 0, 1] rfl) hR
  unfold rr_X3_judge at hR
  refine lv_iconst (v := (0 : Int32)) hx hb dX3_judge_0 (by decide) ?_
  refine lv_istore_n (lv' := [(1, .int (0 : Int32)), (0, .ref (a1 0))]) hx hb dX3_judge_1 rfl hl (by decide) rfl (fun ls1 hl1 => ?_)
  refine lv_iconst (v := (0 : Int32)) hx hb dX3_judge_2 (by decide) ?_
  refine lv_istore_n (lv' := [(2, .int (0 : Int32)), (1, .int (0 : Int32)), (0, .ref (a1 0))]) hx hb dX3_judge_3 rfl hl1 (by decide) rfl (fun ls2 hl2 => ?_)
  exact hB4 fu (0 : Int32) (0 : Int32) s1 s.heap [] ls2 hP hD hS (lv_sub hl2 [2, 1, 0] rfl) hR
def rr_X3_arrange_13 (fu : Nat) (self : Int32 → Int32 → ZT_3 → Option (ZT_3)) (u1 : ZT_3) : Option (ZT_3) := (rr_X3_judge fu u1).bind (fun q4 => some q4)
def rr_X3_arrange_55 (fu : Nat) (self : Int32 → Int32 → ZT_3 → Option (ZT_3)) (rec20 : Int32 → Int32 → Int32 → ZT_3 → Option (ZT_3)) (y1 : Int32) (y2 : Int32) (y3 : Int32) (u1 : ZT_3) : Option (ZT_3) := lt_ (α := Int32) (y3 + (1 : Int32)) (fun z9 => rec20 y1 y2 z9 u1)
def rr_X3_arrange_20_b (fu : Nat) (self : Int32 → Int32 → ZT_3 → Option (ZT_3)) (rec20 : Int32 → Int32 → Int32 → ZT_3 → Option (ZT_3)) (y1 : Int32) (y2 : Int32) (y3 : Int32) (u1 : ZT_3) : Option (ZT_3) := (if u1.2.2.2.2.1 ≤ y3 then some u1 else (if ((y2 >>> (y3 &&& 31)) &&& (1 : Int32)) = (0 : Int32) then ck_ y1 4 ((self (y1 + (1 : Int32)) (y2 ||| ((1 : Int32) <<< (y3 &&& 31))) (u1.1, u1.2.1, u1.2.2.1, (upd u1.2.2.2.1 y1.toNatClampNeg y3), u1.2.2.2.2)).bind (fun q8 => rr_X3_arrange_55 fu self rec20 y1 y2 y3 q8)) else rr_X3_arrange_55 fu self rec20 y1 y2 y3 u1))
def rr_X3_arrange_20 (fu : Nat) (self : Int32 → Int32 → ZT_3 → Option (ZT_3)) (n : Nat) : Int32 → Int32 → Int32 → ZT_3 → Option (ZT_3) := lp_ (fun _ _ _ _ => none) (rr_X3_arrange_20_b fu self) n
def rr_X3_arrange_b (fu : Nat) (self : Int32 → Int32 → ZT_3 → Option (ZT_3)) (x1 : Int32) (x2 : Int32) (s1 : ZT_3) : Option (ZT_3) := (if s1.2.2.2.2.1 ≤ x1 then rr_X3_arrange_13 fu self s1 else (if x1 < (4 : Int32) then rr_X3_arrange_20 fu self fu x1 x2 (0 : Int32) s1 else rr_X3_arrange_13 fu self s1))
def rr_X3_arrange (fu : Nat) (d : Nat) : Int32 → Int32 → ZT_3 → Option (ZT_3) := lp_ (fun _ _ _ => none) (rr_X3_arrange_b fu) d
set_option maxHeartbeats 4000000 in
set_option maxRecDepth 100000 in
theorem cc_X3_arrange (l : Launch) (dC : Nat → ClassId) (dI : Nat → Nat → Nat) (fu : Nat) : ∀ (d : Nat) (a1 : Nat → Nat) (k1 : Nat → ClassId) (sz : Nat) (x1 : Int32) (x2 : Int32) (s1 : ZT_3) (res : ZT_3) (hR : rr_X3_arrange fu d x1 x2 s1 = some res), Met l yX3_arrange wsX3_arrange ({ frames := 1 + d, cells := 0, slots := 0, locals := 23 + 23 * d } : Room) (PcF [.ref (a1 0), .int x1, .int x2] sz (dC, dI) (zc_3 a1 k1 s1) (zt_3 k1)) (va_Qv (fun u : ZT_3 => res = u) (fun u t => at3_ (dC, dI) (zc_3 a1 k1 u) (zt_3 k1) (va_A (zc_3 a1 k1 s1) sz) t) (va_A (zc_3 a1 k1 s1) sz)) 0 0 (va_A (zc_3 a1 k1 s1) sz) := by
  intro d
  induction d with
  | zero => intros; rename_i hR; exact absurd hR (by intro h; cases h)
  | succ d ihd =>
  intro a1 k1 sz x1 x2 s1 res hR
  replace hR : rr_X3_arrange_b fu (rr_X3_arrange fu d) x1 x2 s1 = some res := hR
  refine Met.ofW (cc := cX3_arrange) (maxL := 4) (ret := none) (by decide) rfl ?_
  intro p e s m args below meth c s₁ B hml hv
  obtain ⟨hav, hsz, hP, hK, hD0⟩ := hv
  have hx := B.exec
  have hb := B.bytes
  have hr := B.returns
  have hts := atoms_spec (ws := wsX3_arrange) B.pre
  have hown : s.vm.findClass RX3 = some m.cls := findClass_of_methodNamed B.named
  have hlocks := B.notSynchronized
  have hin3 : ∀ w ∈ wsX30, w ∈ wsX3_arrange := fun w h => List.mem_cons_of_mem _ (List.mem_append_right _ h)
  subst hsz
  have hD := hD0.self (sz := s.heap.size)
  clear hD0
  generalize hAe : va_A (zc_3 a1 k1 s1) s.heap.size = A at hD ⊢
  have hA : ∀ q : Nat, s.heap.size ≤ q → A q := fun q h => by rw [← hAe]; exact Or.inr h
  have hS : va_S A s.heap s.heap [] := va_S.rf
  generalize hQe : MQ below _ args s 0 0 A = Q
  rw [show entryFrame m args 4 = F0 m 0 ((lg_sl ([.ref (a1 0), .int x1, .int x2]) ++ List.replicate (4 - (lg_sl ([.ref (a1 0), .int x1, .int x2])).length) Slot.unset).toArray) [] from by rw [hav]; exact lg_entry_eq m _ _]
  have hl := lv_entry ([.ref (a1 0), .int x1, .int x2]) (n := 4) (Nat.le_of_ble_eq_true rfl)
  generalize (lg_sl ([.ref (a1 0), .int x1, .int x2]) ++ List.replicate (4 - (lg_sl ([.ref (a1 0), .int x1, .int x2])).length) Slot.unset).toArray = ls at hl ⊢
  have hl : lv_has ls 4 [(0, .ref (a1 0)), (1, .int x1), (2, .int x2)] := hl
  have hB13 : ∀ (u1 : ZT_3) (H : Heap) (locs : List Loc) (ls : Array Slot), va_P (dC, dI) vwCl (zc_3 a1 k1 u1) H → va_D A (zc_3 a1 k1 u1) → va_S A s.heap H locs → lv_has ls 4 [(0, .ref (a1 0))] → rr_X3_arrange_13 fu (rr_X3_arrange fu d) u1 = some res → W p l e ({ frames := 1 + (d + 1), cells := 0, slots := 0, locals := 23 + 23 * (d + 1) } : Room) s m args below meth c H locs 0 0 Q (F0 m 13 ls []) := by
    intro  u1 H locs ls hP hD hS hl hR
    unfold rr_X3_arrange_13 at hR
    refine lv_aload_n hx hb dX3_arrange_13 rfl (lv_at hl 0 rfl) ?_
    have hR0 := ob_ok hR
    clear hR
    obtain ⟨q4, hq4, hR⟩ := hR0
    refine va_callv (va_runV (As := []) (rest := []) ⟨hx, hb, hml, hown, hts⟩ (cc_X3_judge l dC dI fu a1 k1 H.size u1 q4 hq4) (cwV 0 hts gX3_arrange_X3_judge rfl rfl rfl (by decide +kernel) ⟨by dsimp only; omega, by dsimp only; omega⟩) (pf_v hK hP hD 3 0 rfl rfl rfl) rfl rfl hl.1 rfl (lv_room (Nat.le_of_ble_eq_true rfl)) dX3_arrange_14 ⟨Nat.le_refl _, Nat.le_refl _⟩) hS (fun q _ h => (fr_all hD hS hA) q h) (fr_all hD hS hA) (fun v4 t4 H4 locs4 ht4 hvm4 hw4 hB4 hz4 hk4 hS4 => ?_)
    subst hw4
    obtain ⟨hP4, hD4⟩ := jn_all hD hS hA ht4 hB4
    have hP4 : va_P (dC, dI) vwCl (zc_3 a1 k1 q4) H4 := hP4
    have hD4 : va_D A (zc_3 a1 k1 q4) := hD4
    clear hP hD hS hB4 hk4 hvm4 hz4 ht4
    subst hQe
    exact W.vret hx hb hr (fun t ht hW => ⟨⟨q4, rfl, (Option.some.inj hR).symm, by rw [ht]; exact hP4, va_K.moved hW.alike hK, hD4⟩, hS4.F ht⟩) hS4.2.2 dX3_arrange_17
  have hB55 : ∀ (rec20 : Int32 → Int32 → Int32 → ZT_3 → Option (ZT_3)) (hrec20 : ∀ (y1 : Int32) (y2 : Int32) (y3 : Int32) (u1 : ZT_3) (H : Heap) (locs : List Loc) (ls : Array Slot), va_P (dC, dI) vwCl (zc_3 a1 k1 u1) H → va_D A (zc_3 a1 k1 u1) → va_S A s.heap H locs → lv_has ls 4 [(0, .ref (a1 0)), (1, .int y1), (2, .int y2), (3, .int y3)] → rec20 y1 y2 y3 u1 = some res → W p l e ({ frames := 1 + (d + 1), cells := 0, slots := 0, locals := 23 + 23 * (d + 1) } : Room) s m args below meth c H locs 0 0 Q (F0 m 20 ls [])), ∀ (y1 : Int32) (y2 : Int32) (y3 : Int32) (u1 : ZT_3) (H : Heap) (locs : List Loc) (ls : Array Slot), va_P (dC, dI) vwCl (zc_3 a1 k1 u1) H → va_D A (zc_3 a1 k1 u1) → va_S A s.heap H locs → lv_has ls 4 [(0, .ref (a1 0)), (1, .int y1), (2, .int y2), (3, .int y3)] → rr_X3_arrange_55 fu (rr_X3_arrange fu d) rec20 y1 y2 y3 u1 = some res → W p l e ({ frames := 1 + (d + 1), cells := 0, slots := 0, locals := 23 + 23 * (d + 1) } : Room) s m args below meth c H locs 0 0 Q (F0 m 55 ls []) := by
    intro rec20 hrec20 y1 y2 y3 u1 H locs ls hP hD hS hl hR
    unfold rr_X3_arrange_55 at hR
    obtain ⟨z9, ez9⟩ : ∃ y : Int32, y = (y3 + (1 : Int32)) := ⟨_, rfl⟩
    replace hR := lt_ok hR ez9
    refine lv_iinc (v := z9) (lv' := [(3, .int z9), (0, .ref (a1 0)), (1, .int y1), (2, .int y2)]) hx hb dX3_arrange_55 hl (k := 3) rfl (by rw [ez9]; rfl) (by decide) rfl (fun ls9 hl9 => ?_)
    refine lv_goto (tgt := 20) hx hb dX3_arrange_58 (by decide) ?_
    exact hrec20 y1 y2 z9 u1 H locs ls9 hP hD hS (lv_sub hl9 [1, 2, 3, 0] rfl) hR
  have hB20 : ∀ (n : Nat), ∀ (y1 : Int32) (y2 : Int32) (y3 : Int32) (u1 : ZT_3) (H : Heap) (locs : List Loc) (ls : Array Slot), va_P (dC, dI) vwCl (zc_3 a1 k1 u1) H → va_D A (zc_3 a1 k1 u1) → va_S A s.heap H locs → lv_has ls 4 [(0, .ref (a1 0)), (1, .int y1), (2, .int y2), (3, .int y3)] → rr_X3_arrange_20 fu (rr_X3_arrange fu d) n y1 y2 y3 u1 = some res → W p l e ({ frames := 1 + (d + 1), cells := 0, slots := 0, locals := 23 + 23 * (d + 1) } : Room) s m args below meth c H locs 0 0 Q (F0 m 20 ls []) := by
    intro  n
    induction n with
    | zero => intro y1 y2 y3 u1 H locs ls hP hD hS hl hR; exact absurd hR (by intro h; cases h)
    | succ n ih =>
      intro y1 y2 y3 u1 H locs ls hP hD hS hl hR
      replace hR : rr_X3_arrange_20_b fu (rr_X3_arrange fu d) (rr_X3_arrange_20 fu (rr_X3_arrange fu d) n) y1 y2 y3 u1 = some res := hR
      unfold rr_X3_arrange_20_b at hR
      refine lv_iload_n hx hb dX3_arrange_20 rfl (lv_at hl 3 rfl) ?_
      refine lv_aload_n hx hb dX3_arrange_21 rfl (lv_at hl 0 rfl) ?_
      refine va_get (D := (dC, dI)) (ci := 3) (v := .int u1.2.2.2.2.1) (C := RX3) (T := TX3) (N := 8) hx hb hts hin3 hown hK hP 0 rfl rfl 4 (by decide) (hts (.fieldLink RX3 21 "OldestCoins$Guess" "size" "I") (List.mem_of_getElem? (i := 1) rfl)) (fun _ h9 => h9) rfl dX3_arrange_22 ?_
      refine lv_icmp_ge (tgt := 61) hx hb dX3_arrange_25 (by decide) (fun c5 => ?_) (fun c5 => ?_)
      · replace hR := ifp_ hR c5
        subst hQe
        exact W.vret hx hb hr (fun t ht hW => ⟨⟨u1, rfl, (Option.some.inj hR).symm, by rw [ht]; exact hP, va_K.moved hW.alike hK, hD⟩, hS.F ht⟩) hS.2.2 dX3_arrange_61
      · replace hR := ifn_ hR c5
        refine lv_iload_n hx hb dX3_arrange_28 rfl (lv_at hl 2 rfl) ?_
        refine lv_iload_n hx hb dX3_arrange_29 rfl (lv_at hl 3 rfl) ?_
        refine lv_ishr hx hb dX3_arrange_30 ?_
        refine lv_iconst (v := (1 : Int32)) hx hb dX3_arrange_31 (by decide) ?_
        refine lv_iand hx hb dX3_arrange_32 ?_
        refine lv_if_ne (tgt := 55) hx hb dX3_arrange_33 (by decide) (fun c6 => ?_) (fun c6 => ?_)
        · replace hR := ifn_ hR c6
          exact hB55 (rr_X3_arrange_20 fu (rr_X3_arrange fu d) n) ih y1 y2 y3 u1 H locs ls hP hD hS (lv_sub hl [0, 1, 2, 3] rfl) hR
        · replace hR := ifp_ hR c6
          refine lv_aload_n hx hb dX3_arrange_36 rfl (lv_at hl 0 rfl) ?_
          refine va_get (D := (dC, dI)) (ci := 3) (v := .ref (a1 3)) (C := RX3) (T := TX3) (N := 8) hx hb hts hin3 hown hK hP 0 rfl rfl 3 (by decide) (hts (.fieldLink RX3 18 "OldestCoins$Guess" "path" "[I") (List.mem_of_getElem? (i := 2) rfl)) (fun _ h9 => h9) rfl dX3_arrange_37 ?_
          refine lv_iload_n hx hb dX3_arrange_40 rfl (lv_at hl 1 rfl) ?_
          refine lv_iload_n hx hb dX3_arrange_41 rfl (lv_at hl 3 rfl) ?_
          have i7 := (ck_ok hR).1
          replace hR := (ck_ok hR).2
          refine va_iast (f := u1.2.2.2.1) hx hb hK hP hD hS 3 2 rfl rfl i7 dX3_arrange_42 (fun H7 locs7 hP7 hD7 hS7 => ?_)
          have hP7 : va_P (dC, dI) vwCl (zc_3 a1 k1 (u1.1, u1.2.1, u1.2.2.1, (upd u1.2.2.2.1 y1.toNatClampNeg y3), u1.2.2.2.2)) H7 := hP7
          have hD7 : va_D A (zc_3 a1 k1 (u1.1, u1.2.1, u1.2.2.1, (upd u1.2.2.2.1 y1.toNatClampNeg y3), u1.2.2.2.2)) := hD7
          clear hP hD hS
          refine lv_aload_n hx hb dX3_arrange_43 rfl (lv_at hl 0 rfl) ?_
          refine lv_iload_n hx hb dX3_arrange_44 rfl (lv_at hl 1 rfl) ?_
          refine lv_iconst (v := (1 : Int32)) hx hb dX3_arrange_45 (by decide) ?_
          refine lv_iadd hx hb dX3_arrange_46 ?_
          refine lv_iload_n hx hb dX3_arrange_47 rfl (lv_at hl 2 rfl) ?_
          refine lv_iconst (v := (1 : Int32)) hx hb dX3_arrange_48 (by decide) ?_
          refine lv_iload_n hx hb dX3_arrange_49 rfl (lv_at hl 3 rfl) ?_
          refine lv_ishl hx hb dX3_arrange_50 ?_
          refine lv_ior hx hb dX3_arrange_51 ?_
          have hR0 := ob_ok hR
          clear hR
          obtain ⟨q8, hq8, hR⟩ := hR0
          refine va_callv (va_runV (As := [.int (y1 + (1 : Int32)), .int (y2 ||| ((1 : Int32) <<< (y3 &&& 31)))]) (rest := []) ⟨hx, hb, hml, hown, hts⟩ (ihd a1 k1 H7.size (y1 + (1 : Int32)) (y2 ||| ((1 : Int32) <<< (y3 &&& 31))) (u1.1, u1.2.1, u1.2.2.1, (upd u1.2.2.2.1 y1.toNatClampNeg y3), u1.2.2.2.2) q8 hq8) (cwV 2 hts gX3_arrange_X3_arrange rfl rfl rfl (by decide +kernel) ⟨by dsimp only; omega, by dsimp only; omega⟩) (pf_v hK hP7 hD7 3 0 rfl rfl rfl) rfl rfl hl.1 rfl (lv_room (Nat.le_of_ble_eq_true rfl)) dX3_arrange_52 ⟨Nat.le_refl _, Nat.le_refl _⟩) hS7 (fun q _ h => (fr_all hD7 hS7 hA) q h) (fr_all hD7 hS7 hA) (fun v8 t8 H8 locs8 ht8 hvm8 hw8 hB8 hz8 hk8 hS8 => ?_)
          subst hw8
          obtain ⟨hP8, hD8⟩ := jn_all hD7 hS7 hA ht8 hB8
          have hP8 : va_P (dC, dI) vwCl (zc_3 a1 k1 q8) H8 := hP8
          have hD8 : va_D A (zc_3 a1 k1 q8) := hD8
          clear hP7 hD7 hS7 hB8 hk8 hvm8 hz8 ht8
          exact hB55 (rr_X3_arrange_20 fu (rr_X3_arrange fu d) n) ih y1 y2 y3 q8 H8 locs8 ls hP8 hD8 hS8 (lv_sub hl [0, 1, 2, 3] rfl) hR
  change W p l e ({ frames := 1 + (d + 1), cells := 0, slots := 0, locals := 23 + 23 * (d + 1) } : Room) s m args below meth c s.heap [] 0 0 Q (F0 m 0 ls [])
  unfold rr_X3_arrange_b at hR
  refine lv_iload_n hx hb dX3_arrange_0 rfl (lv_at hl 1 rfl) ?_
  refine lv_aload_n hx hb dX3_arrange_1 rfl (lv_at hl 0 rfl) ?_
  refine va_get (D := (dC, dI)) (ci := 3) (v := .int s1.2.2.2.2.1) (C := RX3) (T := TX3) (N := 8) hx hb hts hin3 hown hK hP 0 rfl rfl 4 (by decide) (hts (.fieldLink RX3 21 "OldestCoins$Guess" "size" "I") (List.mem_of_getElem? (i := 1) rfl)) (fun _ h9 => h9) rfl dX3_arrange_2 ?_
  refine lv_icmp_ge (tgt := 13) hx hb dX3_arrange_5 (by decide) (fun c1 => ?_) (fun c1 => ?_)
  · replace hR := ifp_ hR c1
    exact hB13 s1 s.heap [] ls hP hD hS (lv_sub hl [0] rfl) hR
  · replace hR := ifn_ hR c1
    refine lv_iload_n hx hb dX3_arrange_8 rfl (lv_at hl 1 rfl) ?_
    refine lv_iconst (v := (4 : Int32)) hx hb dX3_arrange_9 (by decide) ?_
    refine lv_icmp_lt (tgt := 18) hx hb dX3_arrange_10 (by decide) (fun c2 => ?_) (fun c2 => ?_)
    · replace hR := ifp_ hR c2
      refine lv_iconst (v := (0 : Int32)) hx hb dX3_arrange_18 (by decide) ?_
      refine lv_istore_n (lv' := [(3, .int (0 : Int32)), (0, .ref (a1 0)), (1, .int x1), (2, .int x2)]) hx hb dX3_arrange_19 rfl hl (by decide) rfl (fun ls3 hl3 => ?_)
      exact hB20 fu x1 x2 (0 : Int32) s1 s.heap [] ls3 hP hD hS (lv_sub hl3 [1, 2, 3, 0] rfl) hR
    · replace hR := ifn_ hR c2
      exact hB13 s1 s.heap [] ls hP hD hS (lv_sub hl [0] rfl) hR
def rr_X3_countOrders (fu : Nat) (x1 : Int32) (x2 : Int32) (x3 : Int32) (x4 : Int32) (s1 : ZT_3) : Option (Int32 × ZT_3) := (rr_X3_arrange fu 6 (0 : Int32) (0 : Int32) (s1.1, s1.2.1, (0 : Int32), s1.2.2.2.1, x1, x2, x3, x4)).bind (fun q6 => some (q6.2.2.1, q6))
set_option maxHeartbeats 4000000 in
set_option maxRecDepth 100000 in
theorem cc_X3_countOrders (l : Launch) (dC : Nat → ClassId) (dI : Nat → Nat → Nat) (fu : Nat) (a1 : Nat → Nat) (k1 : Nat → ClassId) (sz : Nat) (x1 : Int32) (x2 : Int32) (x3 : Int32) (x4 : Int32) (s1 : ZT_3) (res : Int32 × ZT_3) (hR : rr_X3_countOrders fu x1 x2 x3 x4 s1 = some res) : Met l yX3_countOrders wsX3_countOrders ({ frames := 8, cells := 0, slots := 0, locals := 184 } : Room) (PcF [.ref (a1 0), .int x1, .int x2, .int x3, .int x4] sz (dC, dI) (zc_3 a1 k1 s1) (zt_3 k1)) (va_Qi (fun (r : Int32) (u : ZT_3) => res = (r, u)) (fun u t => at3_ (dC, dI) (zc_3 a1 k1 u) (zt_3 k1) (va_A (zc_3 a1 k1 s1) sz) t) (va_A (zc_3 a1 k1 s1) sz)) 0 0 (va_A (zc_3 a1 k1 s1) sz) := by
  refine Met.ofW (cc := cX3_countOrders) (maxL := 5) (ret := (some .int)) (by decide) rfl ?_
  intro p e s m args below meth c s₁ B hml hv
  obtain ⟨hav, hsz, hP, hK, hD0⟩ := hv
  have hx := B.exec
  have hb := B.bytes
  have hr := B.returns
  have hts := atoms_spec (ws := wsX3_countOrders) B.pre
  have hown : s.vm.findClass RX3 = some m.cls := findClass_of_methodNamed B.named
  have hlocks := B.notSynchronized
  have hin3 : ∀ w ∈ wsX30, w ∈ wsX3_countOrders := fun w h => List.mem_cons_of_mem _ (List.mem_append_right _ h)
  subst hsz
  have hD := hD0.self (sz := s.heap.size)
  clear hD0
  generalize hAe : va_A (zc_3 a1 k1 s1) s.heap.size = A at hD ⊢
  have hA : ∀ q : Nat, s.heap.size ≤ q → A q := fun q h => by rw [← hAe]; exact Or.inr h
  have hS : va_S A s.heap s.heap [] := va_S.rf
  generalize hQe : MQ below _ args s 0 0 A = Q
  rw [show entryFrame m args 5 = F0 m 0 ((lg_sl ([.ref (a1 0), .int x1, .int x2, .int x3, .int x4]) ++ List.replicate (5 - (lg_sl ([.ref (a1 0), .int x1, .int x2, .int x3, .int x4])).length) Slot.unset).toArray) [] from by rw [hav]; exact lg_entry_eq m _ _]
  have hl := lv_entry ([.ref (a1 0), .int x1, .int x2, .int x3, .int x4]) (n := 5) (Nat.le_of_ble_eq_true rfl)
  generalize (lg_sl ([.ref (a1 0), .int x1, .int x2, .int x3, .int x4]) ++ List.replicate (5 - (lg_sl ([.ref (a1 0), .int x1, .int x2, .int x3, .int x4])).length) Slot.unset).toArray = ls at hl ⊢
  have hl : lv_has ls 5 [(0, .ref (a1 0)), (1, .int x1), (2, .int x2), (3, .int x3), (4, .int x4)] := hl
  unfold rr_X3_countOrders at hR
  refine lv_aload_n hx hb dX3_countOrders_0 rfl (lv_at hl 0 rfl) ?_
  refine lv_iload_n hx hb dX3_countOrders_1 rfl (lv_at hl 1 rfl) ?_
  refine va_put (D := (dC, dI)) (ci := 3) (v := .int x1) (ty := .int) (C := RX3) (T := TX3) (N := 8) hx hb hts hin3 tyX3 tyX3_ok nmX3 hown hK hP hD hS 0 rfl rfl 4 (by decide) (hts (.fieldLink RX3 21 "OldestCoins$Guess" "size" "I") (List.mem_of_getElem? (i := 1) rfl)) (fun _ h9 => h9) rfl (by decide +kernel) rfl rfl (Nat.le_of_ble_eq_true rfl) dX3_countOrders_2 (fun H1 locs1 hP1 hD1 hS1 => ?_)
  have hP1 : va_P (dC, dI) vwCl (zc_3 a1 k1 (s1.1, s1.2.1, s1.2.2.1, s1.2.2.2.1, x1, s1.2.2.2.2.2)) H1 := hP1
  have hD1 : va_D A (zc_3 a1 k1 (s1.1, s1.2.1, s1.2.2.1, s1.2.2.2.1, x1, s1.2.2.2.2.2)) := hD1
  clear hP hD hS
  refine lv_aload_n hx hb dX3_countOrders_5 rfl (lv_at hl 0 rfl) ?_
  refine lv_iload_n hx hb dX3_countOrders_6 rfl (lv_at hl 2 rfl) ?_
  refine va_put (D := (dC, dI)) (ci := 3) (v := .int x2) (ty := .int) (C := RX3) (T := TX3) (N := 8) hx hb hts hin3 tyX3 tyX3_ok nmX3 hown hK hP1 hD1 hS1 0 rfl rfl 5 (by decide) (hts (.fieldLink RX3 25 "OldestCoins$Guess" "sum" "I") (List.mem_of_getElem? (i := 2) rfl)) (fun _ h9 => h9) rfl (by decide +kernel) rfl rfl (Nat.le_of_ble_eq_true rfl) dX3_countOrders_7 (fun H2 locs2 hP2 hD2 hS2 => ?_)
  have hP2 : va_P (dC, dI) vwCl (zc_3 a1 k1 (s1.1, s1.2.1, s1.2.2.1, s1.2.2.2.1, x1, x2, s1.2.2.2.2.2.2)) H2 := hP2
  have hD2 : va_D A (zc_3 a1 k1 (s1.1, s1.2.1, s1.2.2.1, s1.2.2.2.1, x1, x2, s1.2.2.2.2.2.2)) := hD2
  clear hP1 hD1 hS1
  refine lv_aload_n hx hb dX3_countOrders_10 rfl (lv_at hl 0 rfl) ?_
  refine lv_iload_n hx hb dX3_countOrders_11 rfl (lv_at hl 3 rfl) ?_
  refine va_put (D := (dC, dI)) (ci := 3) (v := .int x3) (ty := .int) (C := RX3) (T := TX3) (N := 8) hx hb hts hin3 tyX3 tyX3_ok nmX3 hown hK hP2 hD2 hS2 0 rfl rfl 6 (by decide) (hts (.fieldLink RX3 28 "OldestCoins$Guess" "paid" "I") (List.mem_of_getElem? (i := 3) rfl)) (fun _ h9 => h9) rfl (by decide +kernel) rfl rfl (Nat.le_of_ble_eq_true rfl) dX3_countOrders_12 (fun H3 locs3 hP3 hD3 hS3 => ?_)
  have hP3 : va_P (dC, dI) vwCl (zc_3 a1 k1 (s1.1, s1.2.1, s1.2.2.1, s1.2.2.2.1, x1, x2, x3, s1.2.2.2.2.2.2.2)) H3 := hP3
  have hD3 : va_D A (zc_3 a1 k1 (s1.1, s1.2.1, s1.2.2.1, s1.2.2.2.1, x1, x2, x3, s1.2.2.2.2.2.2.2)) := hD3
  clear hP2 hD2 hS2
  refine lv_aload_n hx hb dX3_countOrders_15 rfl (lv_at hl 0 rfl) ?_
  refine lv_iload hx hb dX3_countOrders_16 (lv_at hl 4 rfl) ?_
  refine va_put (D := (dC, dI)) (ci := 3) (v := .int x4) (ty := .int) (C := RX3) (T := TX3) (N := 8) hx hb hts hin3 tyX3 tyX3_ok nmX3 hown hK hP3 hD3 hS3 0 rfl rfl 7 (by decide) (hts (.fieldLink RX3 31 "OldestCoins$Guess" "change" "I") (List.mem_of_getElem? (i := 4) rfl)) (fun _ h9 => h9) rfl (by decide +kernel) rfl rfl (Nat.le_of_ble_eq_true rfl) dX3_countOrders_18 (fun H4 locs4 hP4 hD4 hS4 => ?_)
  have hP4 : va_P (dC, dI) vwCl (zc_3 a1 k1 (s1.1, s1.2.1, s1.2.2.1, s1.2.2.2.1, x1, x2, x3, x4)) H4 := hP4
  have hD4 : va_D A (zc_3 a1 k1 (s1.1, s1.2.1, s1.2.2.1, s1.2.2.2.1, x1, x2, x3, x4)) := hD4
  clear hP3 hD3 hS3
  refine lv_aload_n hx hb dX3_countOrders_21 rfl (lv_at hl 0 rfl) ?_
  refine lv_iconst (v := (0 : Int32)) hx hb dX3_countOrders_22 (by decide) ?_
  refine va_put (D := (dC, dI)) (ci := 3) (v := .int (0 : Int32)) (ty := .int) (C := RX3) (T := TX3) (N := 8) hx hb hts hin3 tyX3 tyX3_ok nmX3 hown hK hP4 hD4 hS4 0 rfl rfl 2 (by decide) (hts (.fieldLink RX3 34 "OldestCoins$Guess" "found" "I") (List.mem_of_getElem? (i := 5) rfl)) (fun _ h9 => h9) rfl (by decide +kernel) rfl rfl (Nat.le_of_ble_eq_true rfl) dX3_countOrders_23 (fun H5 locs5 hP5 hD5 hS5 => ?_)
  have hP5 : va_P (dC, dI) vwCl (zc_3 a1 k1 (s1.1, s1.2.1, (0 : Int32), s1.2.2.2.1, x1, x2, x3, x4)) H5 := hP5
  have hD5 : va_D A (zc_3 a1 k1 (s1.1, s1.2.1, (0 : Int32), s1.2.2.2.1, x1, x2, x3, x4)) := hD5
  clear hP4 hD4 hS4
  refine lv_aload_n hx hb dX3_countOrders_26 rfl (lv_at hl 0 rfl) ?_
  refine lv_iconst (v := (0 : Int32)) hx hb dX3_countOrders_27 (by decide) ?_
  refine lv_iconst (v := (0 : Int32)) hx hb dX3_countOrders_28 (by decide) ?_
  have hR0 := ob_ok hR
  clear hR
  obtain ⟨q6, hq6, hR⟩ := hR0
  refine va_callv (va_runV (As := [.int (0 : Int32), .int (0 : Int32)]) (rest := []) ⟨hx, hb, hml, hown, hts⟩ (cc_X3_arrange l dC dI fu 6 a1 k1 H5.size (0 : Int32) (0 : Int32) (s1.1, s1.2.1, (0 : Int32), s1.2.2.2.1, x1, x2, x3, x4) q6 hq6) (cwV 2 hts gX3_countOrders_X3_arrange rfl rfl rfl (by decide +kernel) ⟨Nat.le_of_ble_eq_true rfl, Nat.le_of_ble_eq_true rfl⟩) (pf_v hK hP5 hD5 3 0 rfl rfl rfl) rfl rfl hl.1 rfl (lv_room (Nat.le_of_ble_eq_true rfl)) dX3_countOrders_29 ⟨Nat.le_refl _, Nat.le_refl _⟩) hS5 (fun q _ h => (fr_all hD5 hS5 hA) q h) (fr_all hD5 hS5 hA) (fun v6 t6 H6 locs6 ht6 hvm6 hw6 hB6 hz6 hk6 hS6 => ?_)
  subst hw6
  obtain ⟨hP6, hD6⟩ := jn_all hD5 hS5 hA ht6 hB6
  have hP6 : va_P (dC, dI) vwCl (zc_3 a1 k1 q6) H6 := hP6
  have hD6 : va_D A (zc_3 a1 k1 q6) := hD6
  clear hP5 hD5 hS5 hB6 hk6 hvm6 hz6 ht6
  refine lv_aload_n hx hb dX3_countOrders_32 rfl (lv_at hl 0 rfl) ?_
  refine va_get (D := (dC, dI)) (ci := 3) (v := .int q6.2.2.1) (C := RX3) (T := TX3) (N := 8) hx hb hts hin3 hown hK hP6 0 rfl rfl 2 (by decide) (hts (.fieldLink RX3 34 "OldestCoins$Guess" "found" "I") (List.mem_of_getElem? (i := 5) rfl)) (fun _ h9 => h9) rfl dX3_countOrders_33 ?_
  subst hQe
  exact W.iret (v := q6.2.2.1) hx hb hr (fun t ht hW => ⟨⟨q6.2.2.1, q6, rfl, (Option.some.inj hR).symm, by rw [ht]; exact hP6, va_K.moved hW.alike hK, hD6⟩, hS6.F ht⟩) hS6.2.2 dX3_countOrders_36
def rr_X5_read (fu : Nat) (x1 : Int32) (x2 : Int32) (s1 : ZT_5) : Option (Int64) := ck_ ((x1 * (24 : Int32)) + x2) 96 (some (s1.2.2 ((x1 * (24 : Int32)) + x2).toNatClampNeg))
set_option maxHeartbeats 4000000 in
set_option maxRecDepth 100000 in
theorem cc_X5_read (l : Launch) (dC : Nat → ClassId) (dI : Nat → Nat → Nat) (fu : Nat) (a1 : Nat → Nat) (k1 : Nat → ClassId) (sz : Nat) (x1 : Int32) (x2 : Int32) (s1 : ZT_5) (res : Int64) (hR : rr_X5_read fu x1 x2 s1 = some res) : Met l yX5_read wsX5_read ({ frames := 0, cells := 0, slots := 0, locals := 0 } : Room) (PcF [.ref (a1 0), .int x1, .int x2] sz (dC, dI) (zc_5 a1 k1 s1) (zt_5 k1)) (va_Ql (fun (r : Int64) (u : Unit) => res = r) (fun u t => at3_ (dC, dI) (zc_5 a1 k1 s1) (zt_5 k1) (va_A (zc_5 a1 k1 s1) sz) t) (va_A (zc_5 a1 k1 s1) sz)) 0 0 (va_A (zc_5 a1 k1 s1) sz) := by
  refine Met.ofW (cc := cX5_read) (maxL := 3) (ret := (some .long)) (by decide) rfl ?_
  intro p e s m args below meth c s₁ B hml hv
  obtain ⟨hav, hsz, hP, hK, hD0⟩ := hv
  have hx := B.exec
  have hb := B.bytes
  have hr := B.returns
  have hts := atoms_spec (ws := wsX5_read) B.pre
  have hown : s.vm.findClass RX5 = some m.cls := findClass_of_methodNamed B.named
  have hlocks := B.notSynchronized
  have hin5 : ∀ w ∈ wsX50, w ∈ wsX5_read := fun w h => List.mem_cons_of_mem _ (List.mem_append_right _ h)
  subst hsz
  have hD := hD0.self (sz := s.heap.size)
  clear hD0
  generalize hAe : va_A (zc_5 a1 k1 s1) s.heap.size = A at hD ⊢
  have hA : ∀ q : Nat, s.heap.size ≤ q → A q := fun q h => by rw [← hAe]; exact Or.inr h
  have hS : va_S A s.heap s.heap [] := va_S.rf
  generalize hQe : MQ below _ args s 0 0 A = Q
  rw [show entryFrame m args 3 = F0 m 0 ((lg_sl ([.ref (a1 0), .int x1, .int x2]) ++ List.replicate (3 - (lg_sl ([.ref (a1 0), .int x1, .int x2])).length) Slot.unset).toArray) [] from by rw [hav]; exact lg_entry_eq m _ _]
  have hl := lv_entry ([.ref (a1 0), .int x1, .int x2]) (n := 3) (Nat.le_of_ble_eq_true rfl)
  generalize (lg_sl ([.ref (a1 0), .int x1, .int x2]) ++ List.replicate (3 - (lg_sl ([.ref (a1 0), .int x1, .int x2])).length) Slot.unset).toArray = ls at hl ⊢
  have hl : lv_has ls 3 [(0, .ref (a1 0)), (1, .int x1), (2, .int x2)] := hl
  unfold rr_X5_read at hR
  refine lv_aload_n hx hb dX5_read_0 rfl (lv_at hl 0 rfl) ?_
  refine va_get (D := (dC, dI)) (ci := 5) (v := .ref (a1 3)) (C := RX5) (T := TX5) (N := 3) hx hb hts hin5 hown hK hP 0 rfl rfl 2 (by decide) (hts (.fieldLink RX5 18 "OldestCoins$Sheets" "items" "[J") (List.mem_of_getElem? (i := 1) rfl)) (fun _ h9 => h9) rfl dX5_read_1 ?_
  refine lv_iload_n hx hb dX5_read_4 rfl (lv_at hl 1 rfl) ?_
  refine lv_bipush (v := (24 : Int32)) hx hb dX5_read_5 (by decide) ?_
  refine lv_imul hx hb dX5_read_7 ?_
  refine lv_iload_n hx hb dX5_read_8 rfl (lv_at hl 2 rfl) ?_
  refine lv_iadd hx hb dX5_read_9 ?_
  have i1 := (ck_ok hR).1
  replace hR := (ck_ok hR).2
  refine va_lald (f := s1.2.2) hx hb hK hP 3 2 rfl rfl i1 dX5_read_10 ?_
  subst hQe
  exact W.lret (v := (s1.2.2 ((x1 * (24 : Int32)) + x2).toNatClampNeg)) hx hb hr (fun t ht hW => ⟨⟨(s1.2.2 ((x1 * (24 : Int32)) + x2).toNatClampNeg), (), rfl, (Option.some.inj hR).symm, by rw [ht]; exact hP, va_K.moved hW.alike hK, hD⟩, hS.F ht⟩) hS.2.2 dX5_read_11
def rr_X0_add (fu : Nat) (n1 : Nat) (x1 : Int32) (x2 : Int32) (x3 : Int32) (s1 : ZT_0) : Option (ZT_0) := (if s1.1 < (Int32.ofNat n1) then ck_ s1.1 n1 (ck_ s1.1 n1 (ck_ s1.1 n1 (lt_ (α := Int32) (s1.1 + (1 : Int32)) (fun z5 => some (z5, (upd s1.2.1 s1.1.toNatClampNeg x1), (upd s1.2.2.1 s1.1.toNatClampNeg x2), (upd s1.2.2.2 s1.1.toNatClampNeg x3)))))) else some s1)
set_option maxHeartbeats 4000000 in
set_option maxRecDepth 100000 in
theorem cc_X0_add (l : Launch) (dC : Nat → ClassId) (dI : Nat → Nat → Nat) (fu : Nat) (a1 : Nat → Nat) (k1 : Nat → ClassId) (n1 : Nat) (sz : Nat) (x1 : Int32) (x2 : Int32) (x3 : Int32) (s1 : ZT_0) (res : ZT_0) (hR : rr_X0_add fu n1 x1 x2 x3 s1 = some res) : Met l yX0_add wsX0_add ({ frames := 0, cells := 0, slots := 0, locals := 0 } : Room) (PcF [.ref (a1 0), .int x1, .int x2, .int x3] sz (dC, dI) (zc_0 a1 k1 n1 s1) (zt_0 k1)) (va_Qv (fun u : ZT_0 => res = u) (fun u t => at3_ (dC, dI) (zc_0 a1 k1 n1 u) (zt_0 k1) (va_A (zc_0 a1 k1 n1 s1) sz) t) (va_A (zc_0 a1 k1 n1 s1) sz)) 0 0 (va_A (zc_0 a1 k1 n1 s1) sz) := by
  refine Met.ofW (cc := cX0_add) (maxL := 4) (ret := none) (by decide) rfl ?_
  intro p e s m args below meth c s₁ B hml hv
  obtain ⟨hav, hsz, hP, hK, hD0⟩ := hv
  have hx := B.exec
  have hb := B.bytes
  have hr := B.returns
  have hts := atoms_spec (ws := wsX0_add) B.pre
  have hown : s.vm.findClass RX0 = some m.cls := findClass_of_methodNamed B.named
  have hlocks := B.notSynchronized
  have hin0 : ∀ w ∈ wsX00, w ∈ wsX0_add := fun w h => List.mem_cons_of_mem _ (List.mem_append_right _ h)
  subst hsz
  have hD := hD0.self (sz := s.heap.size)
  clear hD0
  generalize hAe : va_A (zc_0 a1 k1 n1 s1) s.heap.size = A at hD ⊢
  have hA : ∀ q : Nat, s.heap.size ≤ q → A q := fun q h => by rw [← hAe]; exact Or.inr h
  have hS : va_S A s.heap s.heap [] := va_S.rf
  generalize hQe : MQ below _ args s 0 0 A = Q
  rw [show entryFrame m args 4 = F0 m 0 ((lg_sl ([.ref (a1 0), .int x1, .int x2, .int x3]) ++ List.replicate (4 - (lg_sl ([.ref (a1 0), .int x1, .int x2, .int x3])).length) Slot.unset).toArray) [] from by rw [hav]; exact lg_entry_eq m _ _]
  have hl := lv_entry ([.ref (a1 0), .int x1, .int x2, .int x3]) (n := 4) (Nat.le_of_ble_eq_true rfl)
  generalize (lg_sl ([.ref (a1 0), .int x1, .int x2, .int x3]) ++ List.replicate (4 - (lg_sl ([.ref (a1 0), .int x1, .int x2, .int x3])).length) Slot.unset).toArray = ls at hl ⊢
  have hl : lv_has ls 4 [(0, .ref (a1 0)), (1, .int x1), (2, .int x2), (3, .int x3)] := hl
  unfold rr_X0_add at hR
  refine lv_aload_n hx hb dX0_add_0 rfl (lv_at hl 0 rfl) ?_
  refine va_get (D := (dC, dI)) (ci := 0) (v := .int s1.1) (C := RX0) (T := TX0) (N := 4) hx hb hts hin0 hown hK hP 0 rfl rfl 0 (by decide) (hts (.fieldLink RX0 19 "OldestCoins$Bills" "size" "I") (List.mem_of_getElem? (i := 1) rfl)) (fun _ h9 => h9) rfl dX0_add_1 ?_
  refine lv_aload_n hx hb dX0_add_4 rfl (lv_at hl 0 rfl) ?_
  refine va_get (D := (dC, dI)) (ci := 0) (v := .ref (a1 1)) (C := RX0) (T := TX0) (N := 4) hx hb hts hin0 hown hK hP 0 rfl rfl 1 (by decide) (hts (.fieldLink RX0 7 "OldestCoins$Bills" "purse" "[I") (List.mem_of_getElem? (i := 2) rfl)) (fun _ h9 => h9) rfl dX0_add_5 ?_
  refine va_alen (v := (Int32.ofNat n1)) hx hb hK hP 1 0 rfl rfl rfl dX0_add_8 ?_
  refine lv_icmp_lt (tgt := 13) hx hb dX0_add_9 (by decide) (fun c1 => ?_) (fun c1 => ?_)
  · replace hR := ifp_ hR c1
    refine lv_aload_n hx hb dX0_add_13 rfl (lv_at hl 0 rfl) ?_
    refine va_get (D := (dC, dI)) (ci := 0) (v := .ref (a1 1)) (C := RX0) (T := TX0) (N := 4) hx hb hts hin0 hown hK hP 0 rfl rfl 1 (by decide) (hts (.fieldLink RX0 7 "OldestCoins$Bills" "purse" "[I") (List.mem_of_getElem? (i := 2) rfl)) (fun _ h9 => h9) rfl dX0_add_14 ?_
    refine lv_aload_n hx hb dX0_add_17 rfl (lv_at hl 0 rfl) ?_
    refine va_get (D := (dC, dI)) (ci := 0) (v := .int s1.1) (C := RX0) (T := TX0) (N := 4) hx hb hts hin0 hown hK hP 0 rfl rfl 0 (by decide) (hts (.fieldLink RX0 19 "OldestCoins$Bills" "size" "I") (List.mem_of_getElem? (i := 1) rfl)) (fun _ h9 => h9) rfl dX0_add_18 ?_
    refine lv_iload_n hx hb dX0_add_21 rfl (lv_at hl 1 rfl) ?_
    have i2 := (ck_ok hR).1
    replace hR := (ck_ok hR).2
    refine va_iast (f := s1.2.1) hx hb hK hP hD hS 1 0 rfl rfl i2 dX0_add_22 (fun H2 locs2 hP2 hD2 hS2 => ?_)
    have hP2 : va_P (dC, dI) vwCl (zc_0 a1 k1 n1 (s1.1, (upd s1.2.1 s1.1.toNatClampNeg x1), s1.2.2)) H2 := hP2
    have hD2 : va_D A (zc_0 a1 k1 n1 (s1.1, (upd s1.2.1 s1.1.toNatClampNeg x1), s1.2.2)) := hD2
    clear hP hD hS
    refine lv_aload_n hx hb dX0_add_23 rfl (lv_at hl 0 rfl) ?_
    refine va_get (D := (dC, dI)) (ci := 0) (v := .ref (a1 2)) (C := RX0) (T := TX0) (N := 4) hx hb hts hin0 hown hK hP2 0 rfl rfl 2 (by decide) (hts (.fieldLink RX0 13 "OldestCoins$Bills" "shop" "[I") (List.mem_of_getElem? (i := 3) rfl)) (fun _ h9 => h9) rfl dX0_add_24 ?_
    refine lv_aload_n hx hb dX0_add_27 rfl (lv_at hl 0 rfl) ?_
    refine va_get (D := (dC, dI)) (ci := 0) (v := .int s1.1) (C := RX0) (T := TX0) (N := 4) hx hb hts hin0 hown hK hP2 0 rfl rfl 0 (by decide) (hts (.fieldLink RX0 19 "OldestCoins$Bills" "size" "I") (List.mem_of_getElem? (i := 1) rfl)) (fun _ h9 => h9) rfl dX0_add_28 ?_
    refine lv_iload_n hx hb dX0_add_31 rfl (lv_at hl 2 rfl) ?_
    have i3 := (ck_ok hR).1
    replace hR := (ck_ok hR).2
    refine va_iast (f := s1.2.2.1) hx hb hK hP2 hD2 hS2 2 1 rfl rfl i3 dX0_add_32 (fun H3 locs3 hP3 hD3 hS3 => ?_)
    have hP3 : va_P (dC, dI) vwCl (zc_0 a1 k1 n1 (s1.1, (upd s1.2.1 s1.1.toNatClampNeg x1), (upd s1.2.2.1 s1.1.toNatClampNeg x2), s1.2.2.2)) H3 := hP3
    have hD3 : va_D A (zc_0 a1 k1 n1 (s1.1, (upd s1.2.1 s1.1.toNatClampNeg x1), (upd s1.2.2.1 s1.1.toNatClampNeg x2), s1.2.2.2)) := hD3
    clear hP2 hD2 hS2
    refine lv_aload_n hx hb dX0_add_33 rfl (lv_at hl 0 rfl) ?_
    refine va_get (D := (dC, dI)) (ci := 0) (v := .ref (a1 3)) (C := RX0) (T := TX0) (N := 4) hx hb hts hin0 hown hK hP3 0 rfl rfl 3 (by decide) (hts (.fieldLink RX0 16 "OldestCoins$Bills" "sum" "[I") (List.mem_of_getElem? (i := 4) rfl)) (fun _ h9 => h9) rfl dX0_add_34 ?_
    refine lv_aload_n hx hb dX0_add_37 rfl (lv_at hl 0 rfl) ?_
    refine va_get (D := (dC, dI)) (ci := 0) (v := .int s1.1) (C := RX0) (T := TX0) (N := 4) hx hb hts hin0 hown hK hP3 0 rfl rfl 0 (by decide) (hts (.fieldLink RX0 19 "OldestCoins$Bills" "size" "I") (List.mem_of_getElem? (i := 1) rfl)) (fun _ h9 => h9) rfl dX0_add_38 ?_
    refine lv_iload_n hx hb dX0_add_41 rfl (lv_at hl 3 rfl) ?_
    have i4 := (ck_ok hR).1
    replace hR := (ck_ok hR).2
    refine va_iast (f := s1.2.2.2) hx hb hK hP3 hD3 hS3 3 2 rfl rfl i4 dX0_add_42 (fun H4 locs4 hP4 hD4 hS4 => ?_)
    have hP4 : va_P (dC, dI) vwCl (zc_0 a1 k1 n1 (s1.1, (upd s1.2.1 s1.1.toNatClampNeg x1), (upd s1.2.2.1 s1.1.toNatClampNeg x2), (upd s1.2.2.2 s1.1.toNatClampNeg x3))) H4 := hP4
    have hD4 : va_D A (zc_0 a1 k1 n1 (s1.1, (upd s1.2.1 s1.1.toNatClampNeg x1), (upd s1.2.2.1 s1.1.toNatClampNeg x2), (upd s1.2.2.2 s1.1.toNatClampNeg x3))) := hD4
    clear hP3 hD3 hS3
    refine lv_aload_n hx hb dX0_add_43 rfl (lv_at hl 0 rfl) ?_
    refine lv_dup hx hb dX0_add_44 rfl ?_
    refine va_get (D := (dC, dI)) (ci := 0) (v := .int s1.1) (C := RX0) (T := TX0) (N := 4) hx hb hts hin0 hown hK hP4 0 rfl rfl 0 (by decide) (hts (.fieldLink RX0 19 "OldestCoins$Bills" "size" "I") (List.mem_of_getElem? (i := 1) rfl)) (fun _ h9 => h9) rfl dX0_add_45 ?_
    refine lv_iconst (v := (1 : Int32)) hx hb dX0_add_48 (by decide) ?_
    refine lv_iadd hx hb dX0_add_49 ?_
    refine lv_topi (fun z5 ez5 => ?_)
    replace hR := lt_ok hR ez5
    refine va_put (D := (dC, dI)) (ci := 0) (v := .int z5) (ty := .int) (C := RX0) (T := TX0) (N := 4) hx hb hts hin0 tyX0 tyX0_ok nmX0 hown hK hP4 hD4 hS4 0 rfl rfl 0 (by decide) (hts (.fieldLink RX0 19 "OldestCoins$Bills" "size" "I") (List.mem_of_getElem? (i := 1) rfl)) (fun _ h9 => h9) rfl (by decide +kernel) rfl rfl (Nat.le_of_ble_eq_true rfl) dX0_add_50 (fun H6 locs6 hP6 hD6 hS6 => ?_)
    have hP6 : va_P (dC, dI) vwCl (zc_0 a1 k1 n1 (z5, (upd s1.2.1 s1.1.toNatClampNeg x1), (upd s1.2.2.1 s1.1.toNatClampNeg x2), (upd s1.2.2.2 s1.1.toNatClampNeg x3))) H6 := hP6
    have hD6 : va_D A (zc_0 a1 k1 n1 (z5, (upd s1.2.1 s1.1.toNatClampNeg x1), (upd s1.2.2.1 s1.1.toNatClampNeg x2), (upd s1.2.2.2 s1.1.toNatClampNeg x3))) := hD6
    clear hP4 hD4 hS4
    subst hQe
    exact W.vret hx hb hr (fun t ht hW => ⟨⟨(z5, (upd s1.2.1 s1.1.toNatClampNeg x1), (upd s1.2.2.1 s1.1.toNatClampNeg x2), (upd s1.2.2.2 s1.1.toNatClampNeg x3)), rfl, (Option.some.inj hR).symm, by rw [ht]; exact hP6, va_K.moved hW.alike hK, hD6⟩, hS6.F ht⟩) hS6.2.2 dX0_add_53
  · replace hR := ifn_ hR c1
    subst hQe
    exact W.vret hx hb hr (fun t ht hW => ⟨⟨s1, rfl, (Option.some.inj hR).symm, by rw [ht]; exact hP, va_K.moved hW.alike hK, hD⟩, hS.F ht⟩) hS.2.2 dX0_add_12
