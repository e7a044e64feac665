def rr_X9_type (fu : Nat) (x1 : Int64) (x3 : Int32) (s1 : ZT_9) : Option (Int32 × ZT_9) := (rr_X9_isWithin fu x3 (1 : Int32) (8 : Int32)).bind (fun q1 => (if q1 = (0 : Int32) then some ((-1 : Int32), s1) else (rr_X6_mayHold fu x1 x3).bind (fun q3 => (if q3 = (0 : Int32) then some ((-1 : Int32), s1) else (if (s1.2.2.2.2.2.2.2.2.2.2.1.1 + x3) ≤ (160 : Int32) then (rr_X6_append fu x1 x3 s1.2.2.2.2.2.2.2.2.2.2.1).bind (fun q6 => some (q6.1, (s1.1, s1.2.1, s1.2.2.1, s1.2.2.2.1, s1.2.2.2.2.1, s1.2.2.2.2.2.1, s1.2.2.2.2.2.2.1, s1.2.2.2.2.2.2.2.1, s1.2.2.2.2.2.2.2.2.1, s1.2.2.2.2.2.2.2.2.2.1, q6, s1.2.2.2.2.2.2.2.2.2.2.2))) else some ((-3 : Int32), s1))))))
set_option maxHeartbeats 4000000 in
set_option maxRecDepth 100000 in
theorem cc_X9_type (l : Launch) (dC : Nat → ClassId) (dI : Nat → Nat → Nat) (fu : Nat) (a1 : Nat → Nat) (k1 : Nat → ClassId) (sz : Nat) (x1 : Int64) (x3 : Int32) (s1 : ZT_9) (res : Int32 × ZT_9) (hR : rr_X9_type fu x1 x3 s1 = some res) : Met l yX9_type wsX9_type ({ frames := 2, cells := 0, slots := 0, locals := 45 } : Room) (PcN [.ref (a1 0), .long x1, .int x3] sz (dC, dI) (zc_9 a1 k1 s1) (zt_9 k1)) (va_Qi (fun (r : Int32) (u : ZT_9) => res = (r, u)) (fun u t => at3_ (dC, dI) (zc_9 a1 k1 u) (zt_9 k1) (va_A (zc_9 a1 k1 s1) sz) t) (va_A (zc_9 a1 k1 s1) sz)) 0 0 (va_A (zc_9 a1 k1 s1) sz) := by
  refine Met.ofW (cc := cX9_type) (maxL := 4) (ret := (some .int)) (by decide) rfl ?_
  intro p e s m args below meth c s₁ B hml hv
  obtain ⟨hav, hsz, hP, hK, hD0, hN⟩ := hv
  have hx := B.exec
  have hb := B.bytes
  have hr := B.returns
  have hts := atoms_spec (ws := wsX9_type) B.pre
  have hown : s.vm.findClass RX9 = some m.cls := findClass_of_methodNamed B.named
  have hlocks := B.notSynchronized
  have hin6 : ∀ w ∈ wsX60, w ∈ wsX9_type := fun w h => List.mem_cons_of_mem _ (List.mem_append_right _ h)
  have hin9 : ∀ w ∈ wsX90, w ∈ wsX9_type := fun w h => List.mem_cons_of_mem _ (List.mem_append_left _ (List.mem_append_right _ h))
  subst hsz
  have hD := hD0.self (sz := s.heap.size)
  clear hD0
  generalize hAe : va_A (zc_9 a1 k1 s1) s.heap.size = A at hD ⊢
  have hA : ∀ q : Nat, s.heap.size ≤ q → A q := fun q h => by rw [← hAe]; exact Or.inr h
  have hS : va_S A s.heap s.heap [] := va_S.rf
  generalize hQe : MQ below _ args s 0 0 A = Q
  rw [show entryFrame m args 4 = F0 m 0 ((lg_sl ([.ref (a1 0), .long x1, .int x3]) ++ List.replicate (4 - (lg_sl ([.ref (a1 0), .long x1, .int x3])).length) Slot.unset).toArray) [] from by rw [hav]; exact lg_entry_eq m _ _]
  have hl := lv_entry ([.ref (a1 0), .long x1, .int x3]) (n := 4) (Nat.le_of_ble_eq_true rfl)
  generalize (lg_sl ([.ref (a1 0), .long x1, .int x3]) ++ List.replicate (4 - (lg_sl ([.ref (a1 0), .long x1, .int x3])).length) Slot.unset).toArray = ls at hl ⊢
  have hl : lv_has ls 4 [(0, .ref (a1 0)), (1, .long x1), (3, .int x3)] := hl
  unfold rr_X9_type at hR
  refine lv_iload_n hx hb dX9_type_0 rfl (lv_at hl 2 rfl) ?_
  refine lv_iconst (v := (1 : Int32)) hx hb dX9_type_1 (by decide) ?_
  refine lv_bipush (v := (8 : Int32)) hx hb dX9_type_2 (by decide) ?_
  have hR0 := ob_ok hR
  clear hR
  obtain ⟨q1, hq1, hR⟩ := hR0
  refine va_calli (va_runS (As := [.int x3, .int (1 : Int32), .int (8 : Int32)]) (rest := []) ⟨hx, hb, hml, hown, hts⟩ (cc_X9_isWithin l dC dI fu s.heap.size x3 (1 : Int32) (8 : Int32) q1 hq1) (va_cwS 3 hts gX9_type_X9_isWithin rfl rfl rfl (by decide +kernel) ⟨Nat.le_of_ble_eq_true rfl, Nat.le_of_ble_eq_true rfl⟩) (pf_s (nil_K hK) nil_P (nil_D (A := A))) rfl rfl hl.1 rfl (lv_room (Nat.le_of_ble_eq_true rfl)) dX9_type_4 ⟨Nat.le_refl _, Nat.le_refl _⟩) hS (fun q _ h => (fr_none hS hA) q h) (fr_none hS hA) (fun r1 v1 t1 H1 locs1 ht1 hvm1 hw1 hB1 hz1 hk1 hS1 => ?_)
  subst hw1
  have hP1 := jn_none hP hk1
  have hD1 := hD
  have hP1 : va_P (dC, dI) vwCl (zc_9 a1 k1 s1) H1 := hP1
  have hD1 : va_D A (zc_9 a1 k1 s1) := hD1
  clear hP hD hS hB1 hk1 hvm1 hz1 ht1
  refine lv_if_eq (tgt := 18) hx hb dX9_type_7 (by decide) (fun c2 => ?_) (fun c2 => ?_)
  · replace hR := ifp_ hR c2
    refine lv_iconst (v := (-1 : Int32)) hx hb dX9_type_18 (by decide) ?_
    subst hQe
    exact W.iret (v := (-1 : Int32)) hx hb hr (fun t ht hW => ⟨⟨(-1 : Int32), s1, rfl, (Option.some.inj hR).symm, by rw [ht]; exact hP1, va_K.moved hW.alike hK, hD1⟩, hS1.F ht⟩) hS1.2.2 dX9_type_19
  · replace hR := ifn_ hR c2
    refine lv_lload_n hx hb dX9_type_10 rfl (lv_at hl 1 rfl) ?_
    refine lv_iload_n hx hb dX9_type_11 rfl (lv_at hl 2 rfl) ?_
    have hR0 := ob_ok hR
    clear hR
    obtain ⟨q3, hq3, hR⟩ := hR0
    refine va_calli (va_runS (As := [.long x1, .int x3]) (rest := []) ⟨hx, hb, hml, hown, hts⟩ (cc_X6_mayHold l dC dI fu H1.size x1 x3 q3 hq3) (va_cwS 2 hts gX9_type_X6_mayHold rfl rfl rfl (by decide +kernel) ⟨Nat.le_of_ble_eq_true rfl, Nat.le_of_ble_eq_true rfl⟩) (pn_s hN (nil_K hK) nil_P (nil_D (A := A))) rfl rfl hl.1 rfl (lv_room (Nat.le_of_ble_eq_true rfl)) dX9_type_12 ⟨Nat.le_refl _, Nat.le_refl _⟩) hS1 (fun q _ h => (fr_none hS1 hA) q h) (fr_none hS1 hA) (fun r3 v3 t3 H3 locs3 ht3 hvm3 hw3 hB3 hz3 hk3 hS3 => ?_)
    subst hw3
    have hP3 := jn_none hP1 hk3
    have hD3 := hD1
    have hP3 : va_P (dC, dI) vwCl (zc_9 a1 k1 s1) H3 := hP3
    have hD3 : va_D A (zc_9 a1 k1 s1) := hD3
    clear hP1 hD1 hS1 hB3 hk3 hvm3 hz3 ht3
    refine lv_if_ne (tgt := 20) hx hb dX9_type_15 (by decide) (fun c4 => ?_) (fun c4 => ?_)
    · replace hR := ifn_ hR c4
      refine lv_aload_n hx hb dX9_type_20 rfl (lv_at hl 0 rfl) ?_
      refine va_get (D := (dC, dI)) (ci := 9) (v := .ref (a1 54)) (C := RX9) (T := TX9) (N := 14) hx hb hts hin9 hown hK hP3 0 rfl rfl 10 (by decide) (hts (.fieldLink RX9 60 "OldestCoins" "tape" "LOldestCoins$Tape;") (List.mem_of_getElem? (i := 1) rfl)) (fun _ h9 => h9) rfl dX9_type_21 ?_
      refine va_get (D := (dC, dI)) (ci := 6) (v := .int s1.2.2.2.2.2.2.2.2.2.2.1.1) (C := RX6) (T := TX6) (N := 4) hx hb hts hin6 hown hK hP3 54 rfl rfl 0 (by decide) (hts (.fieldLink RX9 164 "OldestCoins$Tape" "size" "I") (List.mem_of_getElem? (i := 2) rfl)) (fun _ h9 => h9) rfl dX9_type_24 ?_
      refine lv_iload_n hx hb dX9_type_27 rfl (lv_at hl 2 rfl) ?_
      refine lv_iadd hx hb dX9_type_28 ?_
      refine lv_sipush (v := (160 : Int32)) hx hb dX9_type_29 (by decide) ?_
      refine lv_icmp_le (tgt := 38) hx hb dX9_type_32 (by decide) (fun c5 => ?_) (fun c5 => ?_)
      · replace hR := ifp_ hR c5
        refine lv_aload_n hx hb dX9_type_38 rfl (lv_at hl 0 rfl) ?_
        refine va_get (D := (dC, dI)) (ci := 9) (v := .ref (a1 54)) (C := RX9) (T := TX9) (N := 14) hx hb hts hin9 hown hK hP3 0 rfl rfl 10 (by decide) (hts (.fieldLink RX9 60 "OldestCoins" "tape" "LOldestCoins$Tape;") (List.mem_of_getElem? (i := 1) rfl)) (fun _ h9 => h9) rfl dX9_type_39 ?_
        refine lv_lload_n hx hb dX9_type_42 rfl (lv_at hl 1 rfl) ?_
        refine lv_iload_n hx hb dX9_type_43 rfl (lv_at hl 2 rfl) ?_
        have hR0 := ob_ok hR
        clear hR
        obtain ⟨q6, hq6, hR⟩ := hR0
        refine va_callv (va_runV (As := [.long x1, .int x3]) (rest := []) ⟨hx, hb, hml, hown, hts⟩ (cc_X6_append l dC dI fu (sh_ a1 54) (sh_ k1 54) H3.size x1 x3 s1.2.2.2.2.2.2.2.2.2.2.1 q6 hq6) (cwV 2 hts gX9_type_X6_append rfl rfl rfl (by decide +kernel) ⟨Nat.le_of_ble_eq_true rfl, Nat.le_of_ble_eq_true rfl⟩) (pf_v (hK.sub (tys' := zt_6 (sh_ k1 54)) [39] rfl) (sub_P (sb_9__0c54 a1 k1 s1) hP3) (sub_D (sb_9__0c54 a1 k1 s1) hD3) 6 0 rfl rfl rfl) rfl rfl hl.1 rfl (lv_room (Nat.le_of_ble_eq_true rfl)) dX9_type_44 ⟨Nat.le_refl _, Nat.le_refl _⟩) hS3 (fun q _ h => (sub_F (sb_9__0c54 a1 k1 s1) hD3 hS3 hA) q h) (sub_F (sb_9__0c54 a1 k1 s1) hD3 hS3 hA) (fun v6 t6 H6 locs6 ht6 hvm6 hw6 hB6 hz6 hk6 hS6 => ?_)
        subst hw6
        obtain ⟨hP6, hD6⟩ := jn_sub (sb_9__0c54 a1 k1 s1) (jo_9__0c54__0 a1 k1 s1 q6) rfl hP3 hD3 hk6 ht6 hB6
        have hP6 : va_P (dC, dI) vwCl (zc_9 a1 k1 (s1.1, s1.2.1, s1.2.2.1, s1.2.2.2.1, s1.2.2.2.2.1, s1.2.2.2.2.2.1, s1.2.2.2.2.2.2.1, s1.2.2.2.2.2.2.2.1, s1.2.2.2.2.2.2.2.2.1, s1.2.2.2.2.2.2.2.2.2.1, q6, s1.2.2.2.2.2.2.2.2.2.2.2)) H6 := hP6
        have hD6 : va_D A (zc_9 a1 k1 (s1.1, s1.2.1, s1.2.2.1, s1.2.2.2.1, s1.2.2.2.2.1, s1.2.2.2.2.2.1, s1.2.2.2.2.2.2.1, s1.2.2.2.2.2.2.2.1, s1.2.2.2.2.2.2.2.2.1, s1.2.2.2.2.2.2.2.2.2.1, q6, s1.2.2.2.2.2.2.2.2.2.2.2)) := hD6
        clear hP3 hD3 hS3 hB6 hk6 hvm6 hz6 ht6
        refine lv_aload_n hx hb dX9_type_47 rfl (lv_at hl 0 rfl) ?_
        refine va_get (D := (dC, dI)) (ci := 9) (v := .ref (a1 54)) (C := RX9) (T := TX9) (N := 14) hx hb hts hin9 hown hK hP6 0 rfl rfl 10 (by decide) (hts (.fieldLink RX9 60 "OldestCoins" "tape" "LOldestCoins$Tape;") (List.mem_of_getElem? (i := 1) rfl)) (fun _ h9 => h9) rfl dX9_type_48 ?_
        refine va_get (D := (dC, dI)) (ci := 6) (v := .int q6.1) (C := RX6) (T := TX6) (N := 4) hx hb hts hin6 hown hK hP6 54 rfl rfl 0 (by decide) (hts (.fieldLink RX9 164 "OldestCoins$Tape" "size" "I") (List.mem_of_getElem? (i := 2) rfl)) (fun _ h9 => h9) rfl dX9_type_51 ?_
        subst hQe
        exact W.iret (v := q6.1) hx hb hr (fun t ht hW => ⟨⟨q6.1, (s1.1, s1.2.1, s1.2.2.1, s1.2.2.2.1, s1.2.2.2.2.1, s1.2.2.2.2.2.1, s1.2.2.2.2.2.2.1, s1.2.2.2.2.2.2.2.1, s1.2.2.2.2.2.2.2.2.1, s1.2.2.2.2.2.2.2.2.2.1, q6, s1.2.2.2.2.2.2.2.2.2.2.2), rfl, (Option.some.inj hR).symm, by rw [ht]; exact hP6, va_K.moved hW.alike hK, hD6⟩, hS6.F ht⟩) hS6.2.2 dX9_type_54
      · replace hR := ifn_ hR c5
        refine lv_bipush (v := (-3 : Int32)) hx hb dX9_type_35 (by decide) ?_
        subst hQe
        exact W.iret (v := (-3 : Int32)) hx hb hr (fun t ht hW => ⟨⟨(-3 : Int32), s1, rfl, (Option.some.inj hR).symm, by rw [ht]; exact hP3, va_K.moved hW.alike hK, hD3⟩, hS3.F ht⟩) hS3.2.2 dX9_type_37
    · replace hR := ifp_ hR c4
      refine lv_iconst (v := (-1 : Int32)) hx hb dX9_type_18 (by decide) ?_
      subst hQe
      exact W.iret (v := (-1 : Int32)) hx hb hr (fun t ht hW => ⟨⟨(-1 : Int32), s1, rfl, (Option.some.inj hR).symm, by rw [ht]; exact hP3, va_K.moved hW.alike hK, hD3⟩, hS3.F ht⟩) hS3.2.2 dX9_type_19
def rr_X9_of (fu : Nat) (x1 : Int32) (x2 : Int32) (s1 : ZT_9) : Option (Int32 × ZT_9) := (rr_X9_isHolder fu x1).bind (fun q1 => (if q1 = (0 : Int32) then some ((-1 : Int32), s1) else (rr_X9_isWithin fu x2 (0 : Int32) (3 : Int32)).bind (fun q3 => (if q3 = (0 : Int32) then some ((-1 : Int32), s1) else (rr_X9_layOut fu s1).bind (fun q5 => ck_ x1 8 (lt_ (α := Int64) (q5.2.2.2.2.2.2.1.1 x1.toNatClampNeg) (fun z7 => (if x2 = (0 : Int32) then (rr_J13_bitCount_95d88 fu z7).bind (fun q18 => some (q18, q5)) else (if x2 = (1 : Int32) then (rr_X4_worthOf fu z7 q5.2.2.2.1).bind (fun q17 => some (q17, q5)) else (if (lg_cmp z7 (0 : Int64)) = (0 : Int32) then some ((-4 : Int32), q5) else (if x2 = (2 : Int32) then (rr_X4_nextPaid fu z7 q5.2.2.2.1).bind (fun q15 => ck_ q15 64 (some ((q5.2.2.2.1.2.1 q15.toNatClampNeg), q5))) else (rr_X4_nextBack fu z7 q5.2.2.2.1).bind (fun q13 => ck_ q13 64 (some ((q5.2.2.2.1.2.1 q13.toNatClampNeg), q5))))))))))))))
set_option maxHeartbeats 4000000 in
set_option maxRecDepth 100000 in
theorem cc_X9_of (l : Launch) (dC : Nat → ClassId) (dI : Nat → Nat → Nat) (fu : Nat) (a1 : Nat → Nat) (k1 : Nat → ClassId) (sz : Nat) (x1 : Int32) (x2 : Int32) (s1 : ZT_9) (res : Int32 × ZT_9) (hR : rr_X9_of fu x1 x2 s1 = some res) : Met l yX9_of wsX9_of ({ frames := 5, cells := 0, slots := 0, locals := 112 } : Room) (PcF [.ref (a1 0), .int x1, .int x2] sz (dC, dI) (zc_9 a1 k1 s1) (zt_9 k1)) (va_Qi (fun (r : Int32) (u : ZT_9) => res = (r, u)) (fun u t => at3_ (dC, dI) (zc_9 a1 k1 u) (zt_9 k1) (va_A (zc_9 a1 k1 s1) sz) t) (va_A (zc_9 a1 k1 s1) sz)) 0 0 (va_A (zc_9 a1 k1 s1) sz) := by
  refine Met.ofW (cc := cX9_of) (maxL := 5) (ret := (some .int)) (by decide) rfl ?_
  intro p e s m args below meth c s₁ B hml hv
  obtain ⟨hav, hsz, hP, hK, hD0⟩ := hv
  have hx := B.exec
  have hb := B.bytes
  have hr := B.returns
  have hts := atoms_spec (ws := wsX9_of) B.pre
  have hown : s.vm.findClass RX9 = some m.cls := findClass_of_methodNamed B.named
  have hlocks := B.notSynchronized
  have hin1 : ∀ w ∈ wsX10, w ∈ wsX9_of := fun w h => List.mem_cons_of_mem _ (List.mem_append_left _ (List.mem_append_left _ (List.mem_append_left _ (List.mem_append_right _ h))))
  have hin4 : ∀ w ∈ wsX40, w ∈ wsX9_of := fun w h => List.mem_cons_of_mem _ (List.mem_append_left _ (List.mem_append_left _ (List.mem_append_right _ h)))
  have hin9 : ∀ w ∈ wsX90, w ∈ wsX9_of := fun w h => List.mem_cons_of_mem _ (List.mem_append_left _ (List.mem_append_left _ (List.mem_append_left _ (List.mem_append_left _ (List.mem_append_right _ h)))))
  subst hsz
  have hD := hD0.self (sz := s.heap.size)
  clear hD0
  generalize hAe : va_A (zc_9 a1 k1 s1) s.heap.size = A at hD ⊢
  have hA : ∀ q : Nat, s.heap.size ≤ q → A q := fun q h => by rw [← hAe]; exact Or.inr h
  have hS : va_S A s.heap s.heap [] := va_S.rf
  generalize hQe : MQ below _ args s 0 0 A = Q
  rw [show entryFrame m args 5 = F0 m 0 ((lg_sl ([.ref (a1 0), .int x1, .int x2]) ++ List.replicate (5 - (lg_sl ([.ref (a1 0), .int x1, .int x2])).length) Slot.unset).toArray) [] from by rw [hav]; exact lg_entry_eq m _ _]
  have hl := lv_entry ([.ref (a1 0), .int x1, .int x2]) (n := 5) (Nat.le_of_ble_eq_true rfl)
  generalize (lg_sl ([.ref (a1 0), .int x1, .int x2]) ++ List.replicate (5 - (lg_sl ([.ref (a1 0), .int x1, .int x2])).length) Slot.unset).toArray = ls at hl ⊢
  have hl : lv_has ls 5 [(0, .ref (a1 0)), (1, .int x1), (2, .int x2)] := hl
  unfold rr_X9_of at hR
  refine lv_iload_n hx hb dX9_of_0 rfl (lv_at hl 1 rfl) ?_
  have hR0 := ob_ok hR
  clear hR
  obtain ⟨q1, hq1, hR⟩ := hR0
  refine va_calli (va_runS (As := [.int x1]) (rest := []) ⟨hx, hb, hml, hown, hts⟩ (cc_X9_isHolder l dC dI fu s.heap.size x1 q1 hq1) (va_cwS 1 hts gX9_of_X9_isHolder rfl rfl rfl (by decide +kernel) ⟨Nat.le_of_ble_eq_true rfl, Nat.le_of_ble_eq_true rfl⟩) (pf_s (nil_K hK) nil_P (nil_D (A := A))) rfl rfl hl.1 rfl (lv_room (Nat.le_of_ble_eq_true rfl)) dX9_of_1 ⟨Nat.le_refl _, Nat.le_refl _⟩) hS (fun q _ h => (fr_none hS hA) q h) (fr_none hS hA) (fun r1 v1 t1 H1 locs1 ht1 hvm1 hw1 hB1 hz1 hk1 hS1 => ?_)
  subst hw1
  have hP1 := jn_none hP hk1
  have hD1 := hD
  have hP1 : va_P (dC, dI) vwCl (zc_9 a1 k1 s1) H1 := hP1
  have hD1 : va_D A (zc_9 a1 k1 s1) := hD1
  clear hP hD hS hB1 hk1 hvm1 hz1 ht1
  refine lv_if_eq (tgt := 16) hx hb dX9_of_4 (by decide) (fun c2 => ?_) (fun c2 => ?_)
  · replace hR := ifp_ hR c2
    refine lv_iconst (v := (-1 : Int32)) hx hb dX9_of_16 (by decide) ?_
    subst hQe
    exact W.iret (v := (-1 : Int32)) hx hb hr (fun t ht hW => ⟨⟨(-1 : Int32), s1, rfl, (Option.some.inj hR).symm, by rw [ht]; exact hP1, va_K.moved hW.alike hK, hD1⟩, hS1.F ht⟩) hS1.2.2 dX9_of_17
  · replace hR := ifn_ hR c2
    refine lv_iload_n hx hb dX9_of_7 rfl (lv_at hl 2 rfl) ?_
    refine lv_iconst (v := (0 : Int32)) hx hb dX9_of_8 (by decide) ?_
    refine lv_iconst (v := (3 : Int32)) hx hb dX9_of_9 (by decide) ?_
    have hR0 := ob_ok hR
    clear hR
    obtain ⟨q3, hq3, hR⟩ := hR0
    refine va_calli (va_runS (As := [.int x2, .int (0 : Int32), .int (3 : Int32)]) (rest := []) ⟨hx, hb, hml, hown, hts⟩ (cc_X9_isWithin l dC dI fu H1.size x2 (0 : Int32) (3 : Int32) q3 hq3) (va_cwS 3 hts gX9_of_X9_isWithin rfl rfl rfl (by decide +kernel) ⟨Nat.le_of_ble_eq_true rfl, Nat.le_of_ble_eq_true rfl⟩) (pf_s (nil_K hK) nil_P (nil_D (A := A))) rfl rfl hl.1 rfl (lv_room (Nat.le_of_ble_eq_true rfl)) dX9_of_10 ⟨Nat.le_refl _, Nat.le_refl _⟩) hS1 (fun q _ h => (fr_none hS1 hA) q h) (fr_none hS1 hA) (fun r3 v3 t3 H3 locs3 ht3 hvm3 hw3 hB3 hz3 hk3 hS3 => ?_)
    subst hw3
    have hP3 := jn_none hP1 hk3
    have hD3 := hD1
    have hP3 : va_P (dC, dI) vwCl (zc_9 a1 k1 s1) H3 := hP3
    have hD3 : va_D A (zc_9 a1 k1 s1) := hD3
    clear hP1 hD1 hS1 hB3 hk3 hvm3 hz3 ht3
    refine lv_if_ne (tgt := 18) hx hb dX9_of_13 (by decide) (fun c4 => ?_) (fun c4 => ?_)
    · replace hR := ifn_ hR c4
      refine lv_aload_n hx hb dX9_of_18 rfl (lv_at hl 0 rfl) ?_
      have hR0 := ob_ok hR
      clear hR
      obtain ⟨q5, hq5, hR⟩ := hR0
      refine va_callv (va_runV (As := []) (rest := []) ⟨hx, hb, hml, hown, hts⟩ (cc_X9_layOut l dC dI fu a1 k1 H3.size s1 q5 hq5) (cwV 0 hts gX9_of_X9_layOut rfl rfl rfl (by decide +kernel) ⟨Nat.le_of_ble_eq_true rfl, Nat.le_of_ble_eq_true rfl⟩) (pf_v hK hP3 hD3 9 0 rfl rfl rfl) rfl rfl hl.1 rfl (lv_room (Nat.le_of_ble_eq_true rfl)) dX9_of_19 ⟨Nat.le_refl _, Nat.le_refl _⟩) hS3 (fun q _ h => (fr_all hD3 hS3 hA) q h) (fr_all hD3 hS3 hA) (fun v5 t5 H5 locs5 ht5 hvm5 hw5 hB5 hz5 hk5 hS5 => ?_)
      subst hw5
      obtain ⟨hP5, hD5⟩ := jn_all hD3 hS3 hA ht5 hB5
      have hP5 : va_P (dC, dI) vwCl (zc_9 a1 k1 q5) H5 := hP5
      have hD5 : va_D A (zc_9 a1 k1 q5) := hD5
      clear hP3 hD3 hS3 hB5 hk5 hvm5 hz5 ht5
      refine lv_aload_n hx hb dX9_of_22 rfl (lv_at hl 0 rfl) ?_
      refine va_get (D := (dC, dI)) (ci := 9) (v := .ref (a1 43)) (C := RX9) (T := TX9) (N := 14) hx hb hts hin9 hown hK hP5 0 rfl rfl 6 (by decide) (hts (.fieldLink RX9 36 "OldestCoins" "board" "LOldestCoins$Board;") (List.mem_of_getElem? (i := 1) rfl)) (fun _ h9 => h9) rfl dX9_of_23 ?_
      refine va_get (D := (dC, dI)) (ci := 1) (v := .ref (a1 44)) (C := RX1) (T := TX1) (N := 5) hx hb hts hin1 hown hK hP5 43 rfl rfl 0 (by decide) (hts (.fieldLink RX9 138 "OldestCoins$Board" "had" "[J") (List.mem_of_getElem? (i := 2) rfl)) (fun _ h9 => h9) rfl dX9_of_26 ?_
      refine lv_iload_n hx hb dX9_of_29 rfl (lv_at hl 1 rfl) ?_
      have i6 := (ck_ok hR).1
      replace hR := (ck_ok hR).2
      refine va_lald (f := q5.2.2.2.2.2.2.1.1) hx hb hK hP5 44 32 rfl rfl i6 dX9_of_30 ?_
      refine lv_topl (fun z7 ez7 => ?_)
      replace hR := lt_ok hR ez7
      refine lv_lstore_n (lv' := [(3, .long z7), (0, .ref (a1 0)), (1, .int x1), (2, .int x2)]) hx hb dX9_of_31 rfl hl (by decide) rfl (fun ls8 hl8 => ?_)
      refine lv_iload_n hx hb dX9_of_32 rfl (lv_at hl8 3 rfl) ?_
      refine lv_if_ne (tgt := 41) hx hb dX9_of_33 (by decide) (fun c9 => ?_) (fun c9 => ?_)
      · replace hR := ifn_ hR c9
        refine lv_iload_n hx hb dX9_of_41 rfl (lv_at hl8 3 rfl) ?_
        refine lv_iconst (v := (1 : Int32)) hx hb dX9_of_42 (by decide) ?_
        refine lv_icmp_ne (tgt := 55) hx hb dX9_of_43 (by decide) (fun c10 => ?_) (fun c10 => ?_)
        · replace hR := ifn_ hR c10
          refine lv_lload_n hx hb dX9_of_55 rfl (lv_at hl8 0 rfl) ?_
          refine lv_lconst (v := (0 : Int64)) hx hb dX9_of_56 (by decide) ?_
          refine W.lcmp hx hb dX9_of_57 ?_
          refine lv_if_ne (tgt := 64) hx hb dX9_of_58 (by decide) (fun c11 => ?_) (fun c11 => ?_)
          · replace hR := ifn_ hR c11
            refine lv_aload_n hx hb dX9_of_64 rfl (lv_at hl8 1 rfl) ?_
            refine va_get (D := (dC, dI)) (ci := 9) (v := .ref (a1 31)) (C := RX9) (T := TX9) (N := 14) hx hb hts hin9 hown hK hP5 0 rfl rfl 3 (by decide) (hts (.fieldLink RX9 22 "OldestCoins" "ranks" "LOldestCoins$Ranks;") (List.mem_of_getElem? (i := 3) rfl)) (fun _ h9 => h9) rfl dX9_of_65 ?_
            refine va_get (D := (dC, dI)) (ci := 4) (v := .ref (a1 32)) (C := RX4) (T := TX4) (N := 6) hx hb hts hin4 hown hK hP5 31 rfl rfl 1 (by decide) (hts (.fieldLink RX9 151 "OldestCoins$Ranks" "coinAt" "[I") (List.mem_of_getElem? (i := 4) rfl)) (fun _ h9 => h9) rfl dX9_of_68 ?_
            refine lv_iload_n hx hb dX9_of_71 rfl (lv_at hl8 3 rfl) ?_
            refine lv_iconst (v := (2 : Int32)) hx hb dX9_of_72 (by decide) ?_
            refine lv_icmp_ne (tgt := 87) hx hb dX9_of_73 (by decide) (fun c12 => ?_) (fun c12 => ?_)
            · replace hR := ifn_ hR c12
              refine lv_aload_n hx hb dX9_of_87 rfl (lv_at hl8 1 rfl) ?_
              refine va_get (D := (dC, dI)) (ci := 9) (v := .ref (a1 31)) (C := RX9) (T := TX9) (N := 14) hx hb hts hin9 hown hK hP5 0 rfl rfl 3 (by decide) (hts (.fieldLink RX9 22 "OldestCoins" "ranks" "LOldestCoins$Ranks;") (List.mem_of_getElem? (i := 3) rfl)) (fun _ h9 => h9) rfl dX9_of_88 ?_
              refine lv_lload_n hx hb dX9_of_91 rfl (lv_at hl8 0 rfl) ?_
              have hR0 := ob_ok hR
              clear hR
              obtain ⟨q13, hq13, hR⟩ := hR0
              refine va_calli (va_runV (As := [.long z7]) (rest := [.ref (a1 32)]) ⟨hx, hb, hml, hown, hts⟩ (cc_X4_nextBack l dC dI fu (sh_ a1 31) (sh_ k1 31) H5.size z7 q5.2.2.2.1 q13 hq13) (cwV 1 hts gX9_of_X4_nextBack rfl rfl rfl (by decide +kernel) ⟨Nat.le_of_ble_eq_true rfl, Nat.le_of_ble_eq_true rfl⟩) (pf_v (hK.sub (tys' := zt_4 (sh_ k1 31)) [22, 23, 24, 25, 26] rfl) (sub_P (sb_9__0c31 a1 k1 q5) hP5) (sub_D (sb_9__0c31 a1 k1 q5) hD5) 4 0 rfl rfl rfl) rfl rfl hl8.1 rfl (lv_room (Nat.le_of_ble_eq_true rfl)) dX9_of_92 ⟨Nat.le_refl _, Nat.le_refl _⟩) hS5 (fun q _ h => (sub_F (sb_9__0c31 a1 k1 q5) hD5 hS5 hA) q h) (sub_F (sb_9__0c31 a1 k1 q5) hD5 hS5 hA) (fun r13 v13 t13 H13 locs13 ht13 hvm13 hw13 hB13 hz13 hk13 hS13 => ?_)
              subst hw13
              obtain ⟨hP13, hD13⟩ := jn_sub (sb_9__0c31 a1 k1 q5) (jo_9__0c31__ a1 k1 q5 ) rfl hP5 hD5 hk13 ht13 hB13
              have hP13 : va_P (dC, dI) vwCl (zc_9 a1 k1 q5) H13 := hP13
              have hD13 : va_D A (zc_9 a1 k1 q5) := hD13
              clear hP5 hD5 hS5 hB13 hk13 hvm13 hz13 ht13
              have i14 := (ck_ok hR).1
              replace hR := (ck_ok hR).2
              refine va_iald (f := q5.2.2.2.1.2.1) hx hb hK hP13 32 22 rfl rfl i14 dX9_of_95 ?_
              subst hQe
              exact W.iret (v := (q5.2.2.2.1.2.1 q13.toNatClampNeg)) hx hb hr (fun t ht hW => ⟨⟨(q5.2.2.2.1.2.1 q13.toNatClampNeg), q5, rfl, (Option.some.inj hR).symm, by rw [ht]; exact hP13, va_K.moved hW.alike hK, hD13⟩, hS13.F ht⟩) hS13.2.2 dX9_of_96
            · replace hR := ifp_ hR c12
              refine lv_aload_n hx hb dX9_of_76 rfl (lv_at hl8 1 rfl) ?_
              refine va_get (D := (dC, dI)) (ci := 9) (v := .ref (a1 31)) (C := RX9) (T := TX9) (N := 14) hx hb hts hin9 hown hK hP5 0 rfl rfl 3 (by decide) (hts (.fieldLink RX9 22 "OldestCoins" "ranks" "LOldestCoins$Ranks;") (List.mem_of_getElem? (i := 3) rfl)) (fun _ h9 => h9) rfl dX9_of_77 ?_
              refine lv_lload_n hx hb dX9_of_80 rfl (lv_at hl8 0 rfl) ?_
              have hR0 := ob_ok hR
              clear hR
              obtain ⟨q15, hq15, hR⟩ := hR0
              refine va_calli (va_runV (As := [.long z7]) (rest := [.ref (a1 32)]) ⟨hx, hb, hml, hown, hts⟩ (cc_X4_nextPaid l dC dI fu (sh_ a1 31) (sh_ k1 31) H5.size z7 q5.2.2.2.1 q15 hq15) (cwV 1 hts gX9_of_X4_nextPaid rfl rfl rfl (by decide +kernel) ⟨Nat.le_of_ble_eq_true rfl, Nat.le_of_ble_eq_true rfl⟩) (pf_v (hK.sub (tys' := zt_4 (sh_ k1 31)) [22, 23, 24, 25, 26] rfl) (sub_P (sb_9__0c31 a1 k1 q5) hP5) (sub_D (sb_9__0c31 a1 k1 q5) hD5) 4 0 rfl rfl rfl) rfl rfl hl8.1 rfl (lv_room (Nat.le_of_ble_eq_true rfl)) dX9_of_81 ⟨Nat.le_refl _, Nat.le_refl _⟩) hS5 (fun q _ h => (sub_F (sb_9__0c31 a1 k1 q5) hD5 hS5 hA) q h) (sub_F (sb_9__0c31 a1 k1 q5) hD5 hS5 hA) (fun r15 v15 t15 H15 locs15 ht15 hvm15 hw15 hB15 hz15 hk15 hS15 => ?_)
              subst hw15
              obtain ⟨hP15, hD15⟩ := jn_sub (sb_9__0c31 a1 k1 q5) (jo_9__0c31__ a1 k1 q5 ) rfl hP5 hD5 hk15 ht15 hB15
              have hP15 : va_P (dC, dI) vwCl (zc_9 a1 k1 q5) H15 := hP15
              have hD15 : va_D A (zc_9 a1 k1 q5) := hD15
              clear hP5 hD5 hS5 hB15 hk15 hvm15 hz15 ht15
              refine lv_goto (tgt := 95) hx hb dX9_of_84 (by decide) ?_
              have i16 := (ck_ok hR).1
              replace hR := (ck_ok hR).2
              refine va_iald (f := q5.2.2.2.1.2.1) hx hb hK hP15 32 22 rfl rfl i16 dX9_of_95 ?_
              subst hQe
              exact W.iret (v := (q5.2.2.2.1.2.1 q15.toNatClampNeg)) hx hb hr (fun t ht hW => ⟨⟨(q5.2.2.2.1.2.1 q15.toNatClampNeg), q5, rfl, (Option.some.inj hR).symm, by rw [ht]; exact hP15, va_K.moved hW.alike hK, hD15⟩, hS15.F ht⟩) hS15.2.2 dX9_of_96
          · replace hR := ifp_ hR c11
            refine lv_bipush (v := (-4 : Int32)) hx hb dX9_of_61 (by decide) ?_
            subst hQe
            exact W.iret (v := (-4 : Int32)) hx hb hr (fun t ht hW => ⟨⟨(-4 : Int32), q5, rfl, (Option.some.inj hR).symm, by rw [ht]; exact hP5, va_K.moved hW.alike hK, hD5⟩, hS5.F ht⟩) hS5.2.2 dX9_of_63
        · replace hR := ifp_ hR c10
          refine lv_aload_n hx hb dX9_of_46 rfl (lv_at hl8 1 rfl) ?_
          refine va_get (D := (dC, dI)) (ci := 9) (v := .ref (a1 31)) (C := RX9) (T := TX9) (N := 14) hx hb hts hin9 hown hK hP5 0 rfl rfl 3 (by decide) (hts (.fieldLink RX9 22 "OldestCoins" "ranks" "LOldestCoins$Ranks;") (List.mem_of_getElem? (i := 3) rfl)) (fun _ h9 => h9) rfl dX9_of_47 ?_
          refine lv_lload_n hx hb dX9_of_50 rfl (lv_at hl8 0 rfl) ?_
          have hR0 := ob_ok hR
          clear hR
          obtain ⟨q17, hq17, hR⟩ := hR0
          refine va_calli (va_runV (As := [.long z7]) (rest := []) ⟨hx, hb, hml, hown, hts⟩ (cc_X4_worthOf l dC dI fu (sh_ a1 31) (sh_ k1 31) H5.size z7 q5.2.2.2.1 q17 hq17) (cwV 1 hts gX9_of_X4_worthOf rfl rfl rfl (by decide +kernel) ⟨Nat.le_of_ble_eq_true rfl, Nat.le_of_ble_eq_true rfl⟩) (pf_v (hK.sub (tys' := zt_4 (sh_ k1 31)) [22, 23, 24, 25, 26] rfl) (sub_P (sb_9__0c31 a1 k1 q5) hP5) (sub_D (sb_9__0c31 a1 k1 q5) hD5) 4 0 rfl rfl rfl) rfl rfl hl8.1 rfl (lv_room (Nat.le_of_ble_eq_true rfl)) dX9_of_51 ⟨Nat.le_refl _, Nat.le_refl _⟩) hS5 (fun q _ h => (sub_F (sb_9__0c31 a1 k1 q5) hD5 hS5 hA) q h) (sub_F (sb_9__0c31 a1 k1 q5) hD5 hS5 hA) (fun r17 v17 t17 H17 locs17 ht17 hvm17 hw17 hB17 hz17 hk17 hS17 => ?_)
          subst hw17
          obtain ⟨hP17, hD17⟩ := jn_sub (sb_9__0c31 a1 k1 q5) (jo_9__0c31__ a1 k1 q5 ) rfl hP5 hD5 hk17 ht17 hB17
          have hP17 : va_P (dC, dI) vwCl (zc_9 a1 k1 q5) H17 := hP17
          have hD17 : va_D A (zc_9 a1 k1 q5) := hD17
          clear hP5 hD5 hS5 hB17 hk17 hvm17 hz17 ht17
          subst hQe
          exact W.iret (v := q17) hx hb hr (fun t ht hW => ⟨⟨q17, q5, rfl, (Option.some.inj hR).symm, by rw [ht]; exact hP17, va_K.moved hW.alike hK, hD17⟩, hS17.F ht⟩) hS17.2.2 dX9_of_54
      · replace hR := ifp_ hR c9
        refine lv_lload_n hx hb dX9_of_36 rfl (lv_at hl8 0 rfl) ?_
        have hR0 := ob_ok hR
        clear hR
        obtain ⟨q18, hq18, hR⟩ := hR0
        refine va_calli (va_runS (As := [.long z7]) (rest := []) ⟨hx, hb, hml, hown, hts⟩ (cc_J13_bitCount_95d88 l dC dI fu H5.size z7 q18 hq18) (va_cwS 1 hts gX9_of_J13_bitCount_95d88 rfl rfl rfl (by decide +kernel) ⟨Nat.le_of_ble_eq_true rfl, Nat.le_of_ble_eq_true rfl⟩) (pf_s (nil_K hK) nil_P (nil_D (A := A))) rfl rfl hl8.1 rfl (lv_room (Nat.le_of_ble_eq_true rfl)) dX9_of_37 ⟨Nat.le_refl _, Nat.le_refl _⟩) hS5 (fun q _ h => (fr_none hS5 hA) q h) (fr_none hS5 hA) (fun r18 v18 t18 H18 locs18 ht18 hvm18 hw18 hB18 hz18 hk18 hS18 => ?_)
        subst hw18
        have hP18 := jn_none hP5 hk18
        have hD18 := hD5
        have hP18 : va_P (dC, dI) vwCl (zc_9 a1 k1 q5) H18 := hP18
        have hD18 : va_D A (zc_9 a1 k1 q5) := hD18
        clear hP5 hD5 hS5 hB18 hk18 hvm18 hz18 ht18
        subst hQe
        exact W.iret (v := q18) hx hb hr (fun t ht hW => ⟨⟨q18, q5, rfl, (Option.some.inj hR).symm, by rw [ht]; exact hP18, va_K.moved hW.alike hK, hD18⟩, hS18.F ht⟩) hS18.2.2 dX9_of_40
    · replace hR := ifp_ hR c4
      refine lv_iconst (v := (-1 : Int32)) hx hb dX9_of_16 (by decide) ?_
      subst hQe
      exact W.iret (v := (-1 : Int32)) hx hb hr (fun t ht hW => ⟨⟨(-1 : Int32), s1, rfl, (Option.some.inj hR).symm, by rw [ht]; exact hP3, va_K.moved hW.alike hK, hD3⟩, hS3.F ht⟩) hS3.2.2 dX9_of_17
def rr_X9_rule (fu : Nat) (x1 : Int32) (s1 : ZT_9) : Option (Int32 × ZT_9) := (rr_X9_isWithin fu x1 (0 : Int32) (3 : Int32)).bind (fun q1 => (if q1 = (0 : Int32) then some ((-1 : Int32), s1) else some (s1.1.1, ((x1, s1.1.2), s1.2.1, s1.2.2.1, s1.2.2.2.1, (1 : Int32), s1.2.2.2.2.2))))
set_option maxHeartbeats 4000000 in
set_option maxRecDepth 100000 in
theorem cc_X9_rule (l : Launch) (dC : Nat → ClassId) (dI : Nat → Nat → Nat) (fu : Nat) (a1 : Nat → Nat) (k1 : Nat → ClassId) (sz : Nat) (x1 : Int32) (s1 : ZT_9) (res : Int32 × ZT_9) (hR : rr_X9_rule fu x1 s1 = some res) : Met l yX9_rule wsX9_rule ({ frames := 1, cells := 0, slots := 0, locals := 22 } : Room) (PcF [.ref (a1 0), .int x1] sz (dC, dI) (zc_9 a1 k1 s1) (zt_9 k1)) (va_Qi (fun (r : Int32) (u : ZT_9) => res = (r, u)) (fun u t => at3_ (dC, dI) (zc_9 a1 k1 u) (zt_9 k1) (va_A (zc_9 a1 k1 s1) sz) t) (va_A (zc_9 a1 k1 s1) sz)) 0 0 (va_A (zc_9 a1 k1 s1) sz) := by
  refine Met.ofW (cc := cX9_rule) (maxL := 3) (ret := (some .int)) (by decide) rfl ?_
  intro p e s m args below meth c s₁ B hml hv
  obtain ⟨hav, hsz, hP, hK, hD0⟩ := hv
  have hx := B.exec
  have hb := B.bytes
  have hr := B.returns
  have hts := atoms_spec (ws := wsX9_rule) B.pre
  have hown : s.vm.findClass RX9 = some m.cls := findClass_of_methodNamed B.named
  have hlocks := B.notSynchronized
  have hin8 : ∀ w ∈ wsX80, w ∈ wsX9_rule := fun w h => List.mem_cons_of_mem _ (List.mem_append_right _ h)
  have hin9 : ∀ w ∈ wsX90, w ∈ wsX9_rule := fun w h => List.mem_cons_of_mem _ (List.mem_append_left _ (List.mem_append_right _ h))
  subst hsz
  have hD := hD0.self (sz := s.heap.size)
  clear hD0
  generalize hAe : va_A (zc_9 a1 k1 s1) s.heap.size = A at hD ⊢
  have hA : ∀ q : Nat, s.heap.size ≤ q → A q := fun q h => by rw [← hAe]; exact Or.inr h
  have hS : va_S A s.heap s.heap [] := va_S.rf
  generalize hQe : MQ below _ args s 0 0 A = Q
  rw [show entryFrame m args 3 = F0 m 0 ((lg_sl ([.ref (a1 0), .int x1]) ++ List.replicate (3 - (lg_sl ([.ref (a1 0), .int x1])).length) Slot.unset).toArray) [] from by rw [hav]; exact lg_entry_eq m _ _]
  have hl := lv_entry ([.ref (a1 0), .int x1]) (n := 3) (Nat.le_of_ble_eq_true rfl)
  generalize (lg_sl ([.ref (a1 0), .int x1]) ++ List.replicate (3 - (lg_sl ([.ref (a1 0), .int x1])).length) Slot.unset).toArray = ls at hl ⊢
  have hl : lv_has ls 3 [(0, .ref (a1 0)), (1, .int x1)] := hl
  unfold rr_X9_rule at hR
  refine lv_iload_n hx hb dX9_rule_0 rfl (lv_at hl 1 rfl) ?_
  refine lv_iconst (v := (0 : Int32)) hx hb dX9_rule_1 (by decide) ?_
  refine lv_iconst (v := (3 : Int32)) hx hb dX9_rule_2 (by decide) ?_
  have hR0 := ob_ok hR
  clear hR
  obtain ⟨q1, hq1, hR⟩ := hR0
  refine va_calli (va_runS (As := [.int x1, .int (0 : Int32), .int (3 : Int32)]) (rest := []) ⟨hx, hb, hml, hown, hts⟩ (cc_X9_isWithin l dC dI fu s.heap.size x1 (0 : Int32) (3 : Int32) q1 hq1) (va_cwS 3 hts gX9_rule_X9_isWithin rfl rfl rfl (by decide +kernel) ⟨Nat.le_of_ble_eq_true rfl, Nat.le_of_ble_eq_true rfl⟩) (pf_s (nil_K hK) nil_P (nil_D (A := A))) rfl rfl hl.1 rfl (lv_room (Nat.le_of_ble_eq_true rfl)) dX9_rule_3 ⟨Nat.le_refl _, Nat.le_refl _⟩) hS (fun q _ h => (fr_none hS hA) q h) (fr_none hS hA) (fun r1 v1 t1 H1 locs1 ht1 hvm1 hw1 hB1 hz1 hk1 hS1 => ?_)
  subst hw1
  have hP1 := jn_none hP hk1
  have hD1 := hD
  have hP1 : va_P (dC, dI) vwCl (zc_9 a1 k1 s1) H1 := hP1
  have hD1 : va_D A (zc_9 a1 k1 s1) := hD1
  clear hP hD hS hB1 hk1 hvm1 hz1 ht1
  refine lv_if_ne (tgt := 11) hx hb dX9_rule_6 (by decide) (fun c2 => ?_) (fun c2 => ?_)
  · replace hR := ifn_ hR c2
    refine lv_aload_n hx hb dX9_rule_11 rfl (lv_at hl 0 rfl) ?_
    refine va_get (D := (dC, dI)) (ci := 9) (v := .ref (a1 1)) (C := RX9) (T := TX9) (N := 14) hx hb hts hin9 hown hK hP1 0 rfl rfl 0 (by decide) (hts (.fieldLink RX9 10 "OldestCoins" "town" "LOldestCoins$Town;") (List.mem_of_getElem? (i := 1) rfl)) (fun _ h9 => h9) rfl dX9_rule_12 ?_
    refine va_get (D := (dC, dI)) (ci := 8) (v := .int s1.1.1) (C := RX8) (T := TX8) (N := 4) hx hb hts hin8 hown hK hP1 1 rfl rfl 0 (by decide) (hts (.fieldLink RX9 132 "OldestCoins$Town" "law" "I") (List.mem_of_getElem? (i := 2) rfl)) (fun _ h9 => h9) rfl dX9_rule_15 ?_
    refine lv_istore_n (lv' := [(2, .int s1.1.1), (0, .ref (a1 0)), (1, .int x1)]) hx hb dX9_rule_18 rfl hl (by decide) rfl (fun ls3 hl3 => ?_)
    refine lv_aload_n hx hb dX9_rule_19 rfl (lv_at hl3 1 rfl) ?_
    refine va_get (D := (dC, dI)) (ci := 9) (v := .ref (a1 1)) (C := RX9) (T := TX9) (N := 14) hx hb hts hin9 hown hK hP1 0 rfl rfl 0 (by decide) (hts (.fieldLink RX9 10 "OldestCoins" "town" "LOldestCoins$Town;") (List.mem_of_getElem? (i := 1) rfl)) (fun _ h9 => h9) rfl dX9_rule_20 ?_
    refine lv_iload_n hx hb dX9_rule_23 rfl (lv_at hl3 2 rfl) ?_
    refine va_put (D := (dC, dI)) (ci := 8) (v := .int x1) (ty := .int) (C := RX8) (T := TX8) (N := 4) hx hb hts hin8 tyX8 tyX8_ok nmX8 hown hK hP1 hD1 hS1 1 rfl rfl 0 (by decide) (hts (.fieldLink RX9 132 "OldestCoins$Town" "law" "I") (List.mem_of_getElem? (i := 2) rfl)) (fun _ h9 => h9) rfl (by decide +kernel) rfl rfl (Nat.le_of_ble_eq_true rfl) dX9_rule_24 (fun H4 locs4 hP4 hD4 hS4 => ?_)
    have hP4 : va_P (dC, dI) vwCl (zc_9 a1 k1 ((x1, s1.1.2), s1.2)) H4 := hP4
    have hD4 : va_D A (zc_9 a1 k1 ((x1, s1.1.2), s1.2)) := hD4
    clear hP1 hD1 hS1
    refine lv_aload_n hx hb dX9_rule_27 rfl (lv_at hl3 1 rfl) ?_
    refine lv_iconst (v := (1 : Int32)) hx hb dX9_rule_28 (by decide) ?_
    refine va_put (D := (dC, dI)) (ci := 9) (v := .int (1 : Int32)) (ty := .boolean) (C := RX9) (T := TX9) (N := 14) hx hb hts hin9 tyX9 tyX9_ok nmX9 hown hK hP4 hD4 hS4 0 rfl rfl 4 (by decide) (hts (.fieldLink RX9 26 "OldestCoins" "ranksAreOld" "Z") (List.mem_of_getElem? (i := 3) rfl)) (fun _ h9 => h9) rfl (by decide +kernel) rfl rfl (Nat.le_of_ble_eq_true rfl) dX9_rule_29 (fun H5 locs5 hP5 hD5 hS5 => ?_)
    have hP5 : va_P (dC, dI) vwCl (zc_9 a1 k1 ((x1, s1.1.2), s1.2.1, s1.2.2.1, s1.2.2.2.1, (1 : Int32), s1.2.2.2.2.2)) H5 := hP5
    have hD5 : va_D A (zc_9 a1 k1 ((x1, s1.1.2), s1.2.1, s1.2.2.1, s1.2.2.2.1, (1 : Int32), s1.2.2.2.2.2)) := hD5
    clear hP4 hD4 hS4
    refine lv_iload_n hx hb dX9_rule_32 rfl (lv_at hl3 0 rfl) ?_
    subst hQe
    exact W.iret (v := s1.1.1) hx hb hr (fun t ht hW => ⟨⟨s1.1.1, ((x1, s1.1.2), s1.2.1, s1.2.2.1, s1.2.2.2.1, (1 : Int32), s1.2.2.2.2.2), rfl, (Option.some.inj hR).symm, by rw [ht]; exact hP5, va_K.moved hW.alike hK, hD5⟩, hS5.F ht⟩) hS5.2.2 dX9_rule_33
  · replace hR := ifp_ hR c2
    refine lv_iconst (v := (-1 : Int32)) hx hb dX9_rule_9 (by decide) ?_
    subst hQe
    exact W.iret (v := (-1 : Int32)) hx hb hr (fun t ht hW => ⟨⟨(-1 : Int32), s1, rfl, (Option.some.inj hR).symm, by rw [ht]; exact hP1, va_K.moved hW.alike hK, hD1⟩, hS1.F ht⟩) hS1.2.2 dX9_rule_10
def rr_X9_older (fu : Nat) (x1 : Int32) (x2 : Int32) (s1 : ZT_9) : Option (Int32) := (rr_X9_isCoin fu x1 s1).bind (fun q1 => (if q1 = (0 : Int32) then some (-1 : Int32) else (rr_X9_isCoin fu x2 s1).bind (fun q3 => (if q3 = (0 : Int32) then some (-1 : Int32) else (if x1 = x2 then some (-1 : Int32) else (rr_X2_oldness fu 40 x1 s1.1.2.1).bind (fun q6 => (rr_X2_oldness fu 40 x2 s1.1.2.1).bind (fun q7 => (if q7 ≤ q6 then some x2 else some x1))))))))
set_option maxHeartbeats 4000000 in
set_option maxRecDepth 100000 in
theorem cc_X9_older (l : Launch) (dC : Nat → ClassId) (dI : Nat → Nat → Nat) (fu : Nat) (a1 : Nat → Nat) (k1 : Nat → ClassId) (sz : Nat) (x1 : Int32) (x2 : Int32) (s1 : ZT_9) (res : Int32) (hR : rr_X9_older fu x1 x2 s1 = some res) : Met l yX9_older wsX9_older ({ frames := 3, cells := 0, slots := 0, locals := 66 } : Room) (PcF [.ref (a1 0), .int x1, .int x2] sz (dC, dI) (zc_9 a1 k1 s1) (zt_9 k1)) (va_Qi (fun (r : Int32) (u : Unit) => res = r) (fun u t => at3_ (dC, dI) (zc_9 a1 k1 s1) (zt_9 k1) (va_A (zc_9 a1 k1 s1) sz) t) (va_A (zc_9 a1 k1 s1) sz)) 0 0 (va_A (zc_9 a1 k1 s1) sz) := by
  refine Met.ofW (cc := cX9_older) (maxL := 3) (ret := (some .int)) (by decide) rfl ?_
  intro p e s m args below meth c s₁ B hml hv
  obtain ⟨hav, hsz, hP, hK, hD0⟩ := hv
  have hx := B.exec
  have hb := B.bytes
  have hr := B.returns
  have hts := atoms_spec (ws := wsX9_older) B.pre
  have hown : s.vm.findClass RX9 = some m.cls := findClass_of_methodNamed B.named
  have hlocks := B.notSynchronized
  have hin8 : ∀ w ∈ wsX80, w ∈ wsX9_older := fun w h => List.mem_cons_of_mem _ (List.mem_append_left _ (List.mem_append_right _ h))
  have hin9 : ∀ w ∈ wsX90, w ∈ wsX9_older := fun w h => List.mem_cons_of_mem _ (List.mem_append_left _ (List.mem_append_left _ (List.mem_append_right _ h)))
  subst hsz
  have hD := hD0.self (sz := s.heap.size)
  clear hD0
  generalize hAe : va_A (zc_9 a1 k1 s1) s.heap.size = A at hD ⊢
  have hA : ∀ q : Nat, s.heap.size ≤ q → A q := fun q h => by rw [← hAe]; exact Or.inr h
  have hS : va_S A s.heap s.heap [] := va_S.rf
  generalize hQe : MQ below _ args s 0 0 A = Q
  rw [show entryFrame m args 3 = F0 m 0 ((lg_sl ([.ref (a1 0), .int x1, .int x2]) ++ List.replicate (3 - (lg_sl ([.ref (a1 0), .int x1, .int x2])).length) Slot.unset).toArray) [] from by rw [hav]; exact lg_entry_eq m _ _]
  have hl := lv_entry ([.ref (a1 0), .int x1, .int x2]) (n := 3) (Nat.le_of_ble_eq_true rfl)
  generalize (lg_sl ([.ref (a1 0), .int x1, .int x2]) ++ List.replicate (3 - (lg_sl ([.ref (a1 0), .int x1, .int x2])).length) Slot.unset).toArray = ls at hl ⊢
  have hl : lv_has ls 3 [(0, .ref (a1 0)), (1, .int x1), (2, .int x2)] := hl
  unfold rr_X9_older at hR
  refine lv_aload_n hx hb dX9_older_0 rfl (lv_at hl 0 rfl) ?_
  refine lv_iload_n hx hb dX9_older_1 rfl (lv_at hl 1 rfl) ?_
  have hR0 := ob_ok hR
  clear hR
  obtain ⟨q1, hq1, hR⟩ := hR0
  refine va_calli (va_runV (As := [.int x1]) (rest := []) ⟨hx, hb, hml, hown, hts⟩ (cc_X9_isCoin l dC dI fu a1 k1 s.heap.size x1 s1 q1 hq1) (cwV 1 hts gX9_older_X9_isCoin rfl rfl rfl (by decide +kernel) ⟨Nat.le_of_ble_eq_true rfl, Nat.le_of_ble_eq_true rfl⟩) (pf_v hK hP hD 9 0 rfl rfl rfl) rfl rfl hl.1 rfl (lv_room (Nat.le_of_ble_eq_true rfl)) dX9_older_2 ⟨Nat.le_refl _, Nat.le_refl _⟩) hS (fun q _ h => (fr_all hD hS hA) q h) (fr_all hD hS hA) (fun r1 v1 t1 H1 locs1 ht1 hvm1 hw1 hB1 hz1 hk1 hS1 => ?_)
  subst hw1
  obtain ⟨hP1, hD1⟩ := jn_all hD hS hA ht1 hB1
  have hP1 : va_P (dC, dI) vwCl (zc_9 a1 k1 s1) H1 := hP1
  have hD1 : va_D A (zc_9 a1 k1 s1) := hD1
  clear hP hD hS hB1 hk1 hvm1 hz1 ht1
  refine lv_if_eq (tgt := 21) hx hb dX9_older_5 (by decide) (fun c2 => ?_) (fun c2 => ?_)
  · replace hR := ifp_ hR c2
    refine lv_iconst (v := (-1 : Int32)) hx hb dX9_older_21 (by decide) ?_
    subst hQe
    exact W.iret (v := (-1 : Int32)) hx hb hr (fun t ht hW => ⟨⟨(-1 : Int32), (), rfl, (Option.some.inj hR).symm, by rw [ht]; exact hP1, va_K.moved hW.alike hK, hD1⟩, hS1.F ht⟩) hS1.2.2 dX9_older_22
  · replace hR := ifn_ hR c2
    refine lv_aload_n hx hb dX9_older_8 rfl (lv_at hl 0 rfl) ?_
    refine lv_iload_n hx hb dX9_older_9 rfl (lv_at hl 2 rfl) ?_
    have hR0 := ob_ok hR
    clear hR
    obtain ⟨q3, hq3, hR⟩ := hR0
    refine va_calli (va_runV (As := [.int x2]) (rest := []) ⟨hx, hb, hml, hown, hts⟩ (cc_X9_isCoin l dC dI fu a1 k1 H1.size x2 s1 q3 hq3) (cwV 1 hts gX9_older_X9_isCoin rfl rfl rfl (by decide +kernel) ⟨Nat.le_of_ble_eq_true rfl, Nat.le_of_ble_eq_true rfl⟩) (pf_v hK hP1 hD1 9 0 rfl rfl rfl) rfl rfl hl.1 rfl (lv_room (Nat.le_of_ble_eq_true rfl)) dX9_older_10 ⟨Nat.le_refl _, Nat.le_refl _⟩) hS1 (fun q _ h => (fr_all hD1 hS1 hA) q h) (fr_all hD1 hS1 hA) (fun r3 v3 t3 H3 locs3 ht3 hvm3 hw3 hB3 hz3 hk3 hS3 => ?_)
    subst hw3
    obtain ⟨hP3, hD3⟩ := jn_all hD1 hS1 hA ht3 hB3
    have hP3 : va_P (dC, dI) vwCl (zc_9 a1 k1 s1) H3 := hP3
    have hD3 : va_D A (zc_9 a1 k1 s1) := hD3
    clear hP1 hD1 hS1 hB3 hk3 hvm3 hz3 ht3
    refine lv_if_eq (tgt := 21) hx hb dX9_older_13 (by decide) (fun c4 => ?_) (fun c4 => ?_)
    · replace hR := ifp_ hR c4
      refine lv_iconst (v := (-1 : Int32)) hx hb dX9_older_21 (by decide) ?_
      subst hQe
      exact W.iret (v := (-1 : Int32)) hx hb hr (fun t ht hW => ⟨⟨(-1 : Int32), (), rfl, (Option.some.inj hR).symm, by rw [ht]; exact hP3, va_K.moved hW.alike hK, hD3⟩, hS3.F ht⟩) hS3.2.2 dX9_older_22
    · replace hR := ifn_ hR c4
      refine lv_iload_n hx hb dX9_older_16 rfl (lv_at hl 1 rfl) ?_
      refine lv_iload_n hx hb dX9_older_17 rfl (lv_at hl 2 rfl) ?_
      refine lv_icmp_ne (tgt := 23) hx hb dX9_older_18 (by decide) (fun c5 => ?_) (fun c5 => ?_)
      · replace hR := ifn_ hR c5
        refine lv_aload_n hx hb dX9_older_23 rfl (lv_at hl 0 rfl) ?_
        refine va_get (D := (dC, dI)) (ci := 9) (v := .ref (a1 1)) (C := RX9) (T := TX9) (N := 14) hx hb hts hin9 hown hK hP3 0 rfl rfl 0 (by decide) (hts (.fieldLink RX9 10 "OldestCoins" "town" "LOldestCoins$Town;") (List.mem_of_getElem? (i := 1) rfl)) (fun _ h9 => h9) rfl dX9_older_24 ?_
        refine va_get (D := (dC, dI)) (ci := 8) (v := .ref (a1 2)) (C := RX8) (T := TX8) (N := 4) hx hb hts hin8 hown hK hP3 1 rfl rfl 1 (by decide) (hts (.fieldLink RX9 98 "OldestCoins$Town" "coins" "LOldestCoins$Coins;") (List.mem_of_getElem? (i := 2) rfl)) (fun _ h9 => h9) rfl dX9_older_27 ?_
        refine lv_iload_n hx hb dX9_older_30 rfl (lv_at hl 1 rfl) ?_
        have hR0 := ob_ok hR
        clear hR
        obtain ⟨q6, hq6, hR⟩ := hR0
        refine va_calli (va_runV (As := [.int x1]) (rest := []) ⟨hx, hb, hml, hown, hts⟩ (cc_X2_oldness l dC dI fu (sh_ (sh_ a1 1) 1) (sh_ (sh_ k1 1) 1) 40 H3.size x1 s1.1.2.1 q6 hq6) (cwV 1 hts gX9_older_X2_oldness rfl rfl rfl (by decide +kernel) ⟨Nat.le_of_ble_eq_true rfl, Nat.le_of_ble_eq_true rfl⟩) (pf_v (hK.sub (tys' := zt_2 (sh_ (sh_ k1 1) 1)) [0, 1, 2, 3, 4] rfl) (sub_P (sb_9__0c2 a1 k1 s1) hP3) (sub_D (sb_9__0c2 a1 k1 s1) hD3) 2 0 rfl rfl rfl) rfl rfl hl.1 rfl (lv_room (Nat.le_of_ble_eq_true rfl)) dX9_older_31 ⟨Nat.le_refl _, Nat.le_refl _⟩) hS3 (fun q _ h => (sub_F (sb_9__0c2 a1 k1 s1) hD3 hS3 hA) q h) (sub_F (sb_9__0c2 a1 k1 s1) hD3 hS3 hA) (fun r6 v6 t6 H6 locs6 ht6 hvm6 hw6 hB6 hz6 hk6 hS6 => ?_)
        subst hw6
        obtain ⟨hP6, hD6⟩ := jn_sub (sb_9__0c2 a1 k1 s1) (jo_9__0c2__ a1 k1 s1 ) rfl hP3 hD3 hk6 ht6 hB6
        have hP6 : va_P (dC, dI) vwCl (zc_9 a1 k1 s1) H6 := hP6
        have hD6 : va_D A (zc_9 a1 k1 s1) := hD6
        clear hP3 hD3 hS3 hB6 hk6 hvm6 hz6 ht6
        refine lv_aload_n hx hb dX9_older_34 rfl (lv_at hl 0 rfl) ?_
        refine va_get (D := (dC, dI)) (ci := 9) (v := .ref (a1 1)) (C := RX9) (T := TX9) (N := 14) hx hb hts hin9 hown hK hP6 0 rfl rfl 0 (by decide) (hts (.fieldLink RX9 10 "OldestCoins" "town" "LOldestCoins$Town;") (List.mem_of_getElem? (i := 1) rfl)) (fun _ h9 => h9) rfl dX9_older_35 ?_
        refine va_get (D := (dC, dI)) (ci := 8) (v := .ref (a1 2)) (C := RX8) (T := TX8) (N := 4) hx hb hts hin8 hown hK hP6 1 rfl rfl 1 (by decide) (hts (.fieldLink RX9 98 "OldestCoins$Town" "coins" "LOldestCoins$Coins;") (List.mem_of_getElem? (i := 2) rfl)) (fun _ h9 => h9) rfl dX9_older_38 ?_
        refine lv_iload_n hx hb dX9_older_41 rfl (lv_at hl 2 rfl) ?_
        have hR0 := ob_ok hR
        clear hR
        obtain ⟨q7, hq7, hR⟩ := hR0
        refine va_calli (va_runV (As := [.int x2]) (rest := [.int q6]) ⟨hx, hb, hml, hown, hts⟩ (cc_X2_oldness l dC dI fu (sh_ (sh_ a1 1) 1) (sh_ (sh_ k1 1) 1) 40 H6.size x2 s1.1.2.1 q7 hq7) (cwV 1 hts gX9_older_X2_oldness rfl rfl rfl (by decide +kernel) ⟨Nat.le_of_ble_eq_true rfl, Nat.le_of_ble_eq_true rfl⟩) (pf_v (hK.sub (tys' := zt_2 (sh_ (sh_ k1 1) 1)) [0, 1, 2, 3, 4] rfl) (sub_P (sb_9__0c2 a1 k1 s1) hP6) (sub_D (sb_9__0c2 a1 k1 s1) hD6) 2 0 rfl rfl rfl) rfl rfl hl.1 rfl (lv_room (Nat.le_of_ble_eq_true rfl)) dX9_older_42 ⟨Nat.le_refl _, Nat.le_refl _⟩) hS6 (fun q _ h => (sub_F (sb_9__0c2 a1 k1 s1) hD6 hS6 hA) q h) (sub_F (sb_9__0c2 a1 k1 s1) hD6 hS6 hA) (fun r7 v7 t7 H7 locs7 ht7 hvm7 hw7 hB7 hz7 hk7 hS7 => ?_)
        subst hw7
        obtain ⟨hP7, hD7⟩ := jn_sub (sb_9__0c2 a1 k1 s1) (jo_9__0c2__ a1 k1 s1 ) rfl hP6 hD6 hk7 ht7 hB7
        have hP7 : va_P (dC, dI) vwCl (zc_9 a1 k1 s1) H7 := hP7
        have hD7 : va_D A (zc_9 a1 k1 s1) := hD7
        clear hP6 hD6 hS6 hB7 hk7 hvm7 hz7 ht7
        refine lv_icmp_ge (tgt := 52) hx hb dX9_older_45 (by decide) (fun c8 => ?_) (fun c8 => ?_)
        · replace hR := ifp_ hR c8
          refine lv_iload_n hx hb dX9_older_52 rfl (lv_at hl 2 rfl) ?_
          subst hQe
          exact W.iret (v := x2) hx hb hr (fun t ht hW => ⟨⟨x2, (), rfl, (Option.some.inj hR).symm, by rw [ht]; exact hP7, va_K.moved hW.alike hK, hD7⟩, hS7.F ht⟩) hS7.2.2 dX9_older_53
        · replace hR := ifn_ hR c8
          refine lv_iload_n hx hb dX9_older_48 rfl (lv_at hl 1 rfl) ?_
          refine lv_goto (tgt := 53) hx hb dX9_older_49 (by decide) ?_
          subst hQe
          exact W.iret (v := x1) hx hb hr (fun t ht hW => ⟨⟨x1, (), rfl, (Option.some.inj hR).symm, by rw [ht]; exact hP7, va_K.moved hW.alike hK, hD7⟩, hS7.F ht⟩) hS7.2.2 dX9_older_53
      · replace hR := ifp_ hR c5
        refine lv_iconst (v := (-1 : Int32)) hx hb dX9_older_21 (by decide) ?_
        subst hQe
        exact W.iret (v := (-1 : Int32)) hx hb hr (fun t ht hW => ⟨⟨(-1 : Int32), (), rfl, (Option.some.inj hR).symm, by rw [ht]; exact hP3, va_K.moved hW.alike hK, hD3⟩, hS3.F ht⟩) hS3.2.2 dX9_older_22
def rr_X9_give (fu : Nat) (x1 : Int32) (x2 : Int32) (s1 : ZT_9) : Option (Int32 × ZT_9) := (rr_X9_isCoin fu x1 s1).bind (fun q1 => (if q1 = (0 : Int32) then some ((-1 : Int32), s1) else (rr_X9_isHolder fu x2).bind (fun q3 => (if q3 = (0 : Int32) then some ((-1 : Int32), s1) else ck_ x1 40 (lt_ (α := Int32) (s1.1.2.1.2.1 x1.toNatClampNeg) (fun z6 => ck_ x1 40 (some (z6, ((s1.1.1, (s1.1.2.1.1, (upd s1.1.2.1.2.1 x1.toNatClampNeg x2), s1.1.2.1.2.2), s1.1.2.2), s1.2)))))))))
set_option maxHeartbeats 4000000 in
set_option maxRecDepth 100000 in
theorem cc_X9_give (l : Launch) (dC : Nat → ClassId) (dI : Nat → Nat → Nat) (fu : Nat) (a1 : Nat → Nat) (k1 : Nat → ClassId) (sz : Nat) (x1 : Int32) (x2 : Int32) (s1 : ZT_9) (res : Int32 × ZT_9) (hR : rr_X9_give fu x1 x2 s1 = some res) : Met l yX9_give wsX9_give ({ frames := 2, cells := 0, slots := 0, locals := 43 } : Room) (PcF [.ref (a1 0), .int x1, .int x2] sz (dC, dI) (zc_9 a1 k1 s1) (zt_9 k1)) (va_Qi (fun (r : Int32) (u : ZT_9) => res = (r, u)) (fun u t => at3_ (dC, dI) (zc_9 a1 k1 u) (zt_9 k1) (va_A (zc_9 a1 k1 s1) sz) t) (va_A (zc_9 a1 k1 s1) sz)) 0 0 (va_A (zc_9 a1 k1 s1) sz) := by
  refine Met.ofW (cc := cX9_give) (maxL := 4) (ret := (some .int)) (by decide) rfl ?_
  intro p e s m args below meth c s₁ B hml hv
  obtain ⟨hav, hsz, hP, hK, hD0⟩ := hv
  have hx := B.exec
  have hb := B.bytes
  have hr := B.returns
  have hts := atoms_spec (ws := wsX9_give) B.pre
  have hown : s.vm.findClass RX9 = some m.cls := findClass_of_methodNamed B.named
  have hlocks := B.notSynchronized
  have hin2 : ∀ w ∈ wsX20, w ∈ wsX9_give := fun w h => List.mem_cons_of_mem _ (List.mem_append_right _ h)
  have hin8 : ∀ w ∈ wsX80, w ∈ wsX9_give := fun w h => List.mem_cons_of_mem _ (List.mem_append_left _ (List.mem_append_right _ h))
  have hin9 : ∀ w ∈ wsX90, w ∈ wsX9_give := fun w h => List.mem_cons_of_mem _ (List.mem_append_left _ (List.mem_append_left _ (List.mem_append_right _ h)))
  subst hsz
  have hD := hD0.self (sz := s.heap.size)
  clear hD0
  generalize hAe : va_A (zc_9 a1 k1 s1) s.heap.size = A at hD ⊢
  have hA : ∀ q : Nat, s.heap.size ≤ q → A q := fun q h => by rw [← hAe]; exact Or.inr h
  have hS : va_S A s.heap s.heap [] := va_S.rf
  generalize hQe : MQ below _ args s 0 0 A = Q
  rw [show entryFrame m args 4 = F0 m 0 ((lg_sl ([.ref (a1 0), .int x1, .int x2]) ++ List.replicate (4 - (lg_sl ([.ref (a1 0), .int x1, .int x2])).length) Slot.unset).toArray) [] from by rw [hav]; exact lg_entry_eq m _ _]
  have hl := lv_entry ([.ref (a1 0), .int x1, .int x2]) (n := 4) (Nat.le_of_ble_eq_true rfl)
  generalize (lg_sl ([.ref (a1 0), .int x1, .int x2]) ++ List.replicate (4 - (lg_sl ([.ref (a1 0), .int x1, .int x2])).length) Slot.unset).toArray = ls at hl ⊢
  have hl : lv_has ls 4 [(0, .ref (a1 0)), (1, .int x1), (2, .int x2)] := hl
  unfold rr_X9_give at hR
  refine lv_aload_n hx hb dX9_give_0 rfl (lv_at hl 0 rfl) ?_
  refine lv_iload_n hx hb dX9_give_1 rfl (lv_at hl 1 rfl) ?_
  have hR0 := ob_ok hR
  clear hR
  obtain ⟨q1, hq1, hR⟩ := hR0
  refine va_calli (va_runV (As := [.int x1]) (rest := []) ⟨hx, hb, hml, hown, hts⟩ (cc_X9_isCoin l dC dI fu a1 k1 s.heap.size x1 s1 q1 hq1) (cwV 1 hts gX9_give_X9_isCoin rfl rfl rfl (by decide +kernel) ⟨Nat.le_of_ble_eq_true rfl, Nat.le_of_ble_eq_true rfl⟩) (pf_v hK hP hD 9 0 rfl rfl rfl) rfl rfl hl.1 rfl (lv_room (Nat.le_of_ble_eq_true rfl)) dX9_give_2 ⟨Nat.le_refl _, Nat.le_refl _⟩) hS (fun q _ h => (fr_all hD hS hA) q h) (fr_all hD hS hA) (fun r1 v1 t1 H1 locs1 ht1 hvm1 hw1 hB1 hz1 hk1 hS1 => ?_)
  subst hw1
  obtain ⟨hP1, hD1⟩ := jn_all hD hS hA ht1 hB1
  have hP1 : va_P (dC, dI) vwCl (zc_9 a1 k1 s1) H1 := hP1
  have hD1 : va_D A (zc_9 a1 k1 s1) := hD1
  clear hP hD hS hB1 hk1 hvm1 hz1 ht1
  refine lv_if_eq (tgt := 15) hx hb dX9_give_5 (by decide) (fun c2 => ?_) (fun c2 => ?_)
  · replace hR := ifp_ hR c2
    refine lv_iconst (v := (-1 : Int32)) hx hb dX9_give_15 (by decide) ?_
    subst hQe
    exact W.iret (v := (-1 : Int32)) hx hb hr (fun t ht hW => ⟨⟨(-1 : Int32), s1, rfl, (Option.some.inj hR).symm, by rw [ht]; exact hP1, va_K.moved hW.alike hK, hD1⟩, hS1.F ht⟩) hS1.2.2 dX9_give_16
  · replace hR := ifn_ hR c2
    refine lv_iload_n hx hb dX9_give_8 rfl (lv_at hl 2 rfl) ?_
    have hR0 := ob_ok hR
    clear hR
    obtain ⟨q3, hq3, hR⟩ := hR0
    refine va_calli (va_runS (As := [.int x2]) (rest := []) ⟨hx, hb, hml, hown, hts⟩ (cc_X9_isHolder l dC dI fu H1.size x2 q3 hq3) (va_cwS 1 hts gX9_give_X9_isHolder rfl rfl rfl (by decide +kernel) ⟨Nat.le_of_ble_eq_true rfl, Nat.le_of_ble_eq_true rfl⟩) (pf_s (nil_K hK) nil_P (nil_D (A := A))) rfl rfl hl.1 rfl (lv_room (Nat.le_of_ble_eq_true rfl)) dX9_give_9 ⟨Nat.le_refl _, Nat.le_refl _⟩) hS1 (fun q _ h => (fr_none hS1 hA) q h) (fr_none hS1 hA) (fun r3 v3 t3 H3 locs3 ht3 hvm3 hw3 hB3 hz3 hk3 hS3 => ?_)
    subst hw3
    have hP3 := jn_none hP1 hk3
    have hD3 := hD1
    have hP3 : va_P (dC, dI) vwCl (zc_9 a1 k1 s1) H3 := hP3
    have hD3 : va_D A (zc_9 a1 k1 s1) := hD3
    clear hP1 hD1 hS1 hB3 hk3 hvm3 hz3 ht3
    refine lv_if_ne (tgt := 17) hx hb dX9_give_12 (by decide) (fun c4 => ?_) (fun c4 => ?_)
    · replace hR := ifn_ hR c4
      refine lv_aload_n hx hb dX9_give_17 rfl (lv_at hl 0 rfl) ?_
      refine va_get (D := (dC, dI)) (ci := 9) (v := .ref (a1 1)) (C := RX9) (T := TX9) (N := 14) hx hb hts hin9 hown hK hP3 0 rfl rfl 0 (by decide) (hts (.fieldLink RX9 10 "OldestCoins" "town" "LOldestCoins$Town;") (List.mem_of_getElem? (i := 1) rfl)) (fun _ h9 => h9) rfl dX9_give_18 ?_
      refine va_get (D := (dC, dI)) (ci := 8) (v := .ref (a1 2)) (C := RX8) (T := TX8) (N := 4) hx hb hts hin8 hown hK hP3 1 rfl rfl 1 (by decide) (hts (.fieldLink RX9 98 "OldestCoins$Town" "coins" "LOldestCoins$Coins;") (List.mem_of_getElem? (i := 2) rfl)) (fun _ h9 => h9) rfl dX9_give_21 ?_
      refine va_get (D := (dC, dI)) (ci := 2) (v := .ref (a1 3)) (C := RX2) (T := TX2) (N := 6) hx hb hts hin2 hown hK hP3 2 rfl rfl 1 (by decide) (hts (.fieldLink RX9 125 "OldestCoins$Coins" "holder" "[I") (List.mem_of_getElem? (i := 3) rfl)) (fun _ h9 => h9) rfl dX9_give_24 ?_
      refine lv_iload_n hx hb dX9_give_27 rfl (lv_at hl 1 rfl) ?_
      have i5 := (ck_ok hR).1
      replace hR := (ck_ok hR).2
      refine va_iald (f := s1.1.2.1.2.1) hx hb hK hP3 3 0 rfl rfl i5 dX9_give_28 ?_
      refine lv_topi (fun z6 ez6 => ?_)
      replace hR := lt_ok hR ez6
      refine lv_istore_n (lv' := [(3, .int z6), (0, .ref (a1 0)), (1, .int x1), (2, .int x2)]) hx hb dX9_give_29 rfl hl (by decide) rfl (fun ls7 hl7 => ?_)
      refine lv_aload_n hx hb dX9_give_30 rfl (lv_at hl7 1 rfl) ?_
      refine va_get (D := (dC, dI)) (ci := 9) (v := .ref (a1 1)) (C := RX9) (T := TX9) (N := 14) hx hb hts hin9 hown hK hP3 0 rfl rfl 0 (by decide) (hts (.fieldLink RX9 10 "OldestCoins" "town" "LOldestCoins$Town;") (List.mem_of_getElem? (i := 1) rfl)) (fun _ h9 => h9) rfl dX9_give_31 ?_
      refine va_get (D := (dC, dI)) (ci := 8) (v := .ref (a1 2)) (C := RX8) (T := TX8) (N := 4) hx hb hts hin8 hown hK hP3 1 rfl rfl 1 (by decide) (hts (.fieldLink RX9 98 "OldestCoins$Town" "coins" "LOldestCoins$Coins;") (List.mem_of_getElem? (i := 2) rfl)) (fun _ h9 => h9) rfl dX9_give_34 ?_
      refine va_get (D := (dC, dI)) (ci := 2) (v := .ref (a1 3)) (C := RX2) (T := TX2) (N := 6) hx hb hts hin2 hown hK hP3 2 rfl rfl 1 (by decide) (hts (.fieldLink RX9 125 "OldestCoins$Coins" "holder" "[I") (List.mem_of_getElem? (i := 3) rfl)) (fun _ h9 => h9) rfl dX9_give_37 ?_
      refine lv_iload_n hx hb dX9_give_40 rfl (lv_at hl7 2 rfl) ?_
      refine lv_iload_n hx hb dX9_give_41 rfl (lv_at hl7 3 rfl) ?_
      have i8 := (ck_ok hR).1
      replace hR := (ck_ok hR).2
      refine va_iast (f := s1.1.2.1.2.1) hx hb hK hP3 hD3 hS3 3 0 rfl rfl i8 dX9_give_42 (fun H8 locs8 hP8 hD8 hS8 => ?_)
      have hP8 : va_P (dC, dI) vwCl (zc_9 a1 k1 ((s1.1.1, (s1.1.2.1.1, (upd s1.1.2.1.2.1 x1.toNatClampNeg x2), s1.1.2.1.2.2), s1.1.2.2), s1.2)) H8 := hP8
      have hD8 : va_D A (zc_9 a1 k1 ((s1.1.1, (s1.1.2.1.1, (upd s1.1.2.1.2.1 x1.toNatClampNeg x2), s1.1.2.1.2.2), s1.1.2.2), s1.2)) := hD8
      clear hP3 hD3 hS3
      refine lv_iload_n hx hb dX9_give_43 rfl (lv_at hl7 0 rfl) ?_
      subst hQe
      exact W.iret (v := z6) hx hb hr (fun t ht hW => ⟨⟨z6, ((s1.1.1, (s1.1.2.1.1, (upd s1.1.2.1.2.1 x1.toNatClampNeg x2), s1.1.2.1.2.2), s1.1.2.2), s1.2), rfl, (Option.some.inj hR).symm, by rw [ht]; exact hP8, va_K.moved hW.alike hK, hD8⟩, hS8.F ht⟩) hS8.2.2 dX9_give_44
    · replace hR := ifp_ hR c4
      refine lv_iconst (v := (-1 : Int32)) hx hb dX9_give_15 (by decide) ?_
      subst hQe
      exact W.iret (v := (-1 : Int32)) hx hb hr (fun t ht hW => ⟨⟨(-1 : Int32), s1, rfl, (Option.some.inj hR).symm, by rw [ht]; exact hP3, va_K.moved hW.alike hK, hD3⟩, hS3.F ht⟩) hS3.2.2 dX9_give_16
def rr_X9_told (fu : Nat) (x1 : Int32) (x2 : Int32) (s1 : ZT_9) : Option (Int32) := (rr_X9_isCoin fu x1 s1).bind (fun q1 => (if q1 = (0 : Int32) then some (-1 : Int32) else (if x2 = (0 : Int32) then ck_ x1 40 (some (s1.1.2.1.2.2.1 x1.toNatClampNeg)) else if x2 = (1 : Int32) then ck_ x1 40 (some (s1.1.2.1.2.2.2.1 x1.toNatClampNeg)) else if x2 = (2 : Int32) then ck_ x1 40 (some (s1.1.2.1.2.2.2.2.1 x1.toNatClampNeg)) else if x2 = (3 : Int32) then ck_ x1 40 (some (s1.1.2.1.2.2.2.2.2 x1.toNatClampNeg)) else if x2 = (4 : Int32) then ck_ x1 40 (some (s1.1.2.1.2.1 x1.toNatClampNeg)) else some (-1 : Int32))))
set_option maxHeartbeats 4000000 in
set_option maxRecDepth 100000 in
theorem cc_X9_told (l : Launch) (dC : Nat → ClassId) (dI : Nat → Nat → Nat) (fu : Nat) (a1 : Nat → Nat) (k1 : Nat → ClassId) (sz : Nat) (x1 : Int32) (x2 : Int32) (s1 : ZT_9) (res : Int32) (hR : rr_X9_told fu x1 x2 s1 = some res) : Met l yX9_told wsX9_told ({ frames := 2, cells := 0, slots := 0, locals := 43 } : Room) (PcF [.ref (a1 0), .int x1, .int x2] sz (dC, dI) (zc_9 a1 k1 s1) (zt_9 k1)) (va_Qi (fun (r : Int32) (u : Unit) => res = r) (fun u t => at3_ (dC, dI) (zc_9 a1 k1 s1) (zt_9 k1) (va_A (zc_9 a1 k1 s1) sz) t) (va_A (zc_9 a1 k1 s1) sz)) 0 0 (va_A (zc_9 a1 k1 s1) sz) := by
  refine Met.ofW (cc := cX9_told) (maxL := 3) (ret := (some .int)) (by decide) rfl ?_
  intro p e s m args below meth c s₁ B hml hv
  obtain ⟨hav, hsz, hP, hK, hD0⟩ := hv
  have hx := B.exec
  have hb := B.bytes
  have hr := B.returns
  have hts := atoms_spec (ws := wsX9_told) B.pre
  have hown : s.vm.findClass RX9 = some m.cls := findClass_of_methodNamed B.named
  have hlocks := B.notSynchronized
  have hin2 : ∀ w ∈ wsX20, w ∈ wsX9_told := fun w h => List.mem_cons_of_mem _ (List.mem_append_right _ h)
  have hin8 : ∀ w ∈ wsX80, w ∈ wsX9_told := fun w h => List.mem_cons_of_mem _ (List.mem_append_left _ (List.mem_append_right _ h))
  have hin9 : ∀ w ∈ wsX90, w ∈ wsX9_told := fun w h => List.mem_cons_of_mem _ (List.mem_append_left _ (List.mem_append_left _ (List.mem_append_right _ h)))
  subst hsz
  have hD := hD0.self (sz := s.heap.size)
  clear hD0
  generalize hAe : va_A (zc_9 a1 k1 s1) s.heap.size = A at hD ⊢
  have hA : ∀ q : Nat, s.heap.size ≤ q → A q := fun q h => by rw [← hAe]; exact Or.inr h
  have hS : va_S A s.heap s.heap [] := va_S.rf
  generalize hQe : MQ below _ args s 0 0 A = Q
  rw [show entryFrame m args 3 = F0 m 0 ((lg_sl ([.ref (a1 0), .int x1, .int x2]) ++ List.replicate (3 - (lg_sl ([.ref (a1 0), .int x1, .int x2])).length) Slot.unset).toArray) [] from by rw [hav]; exact lg_entry_eq m _ _]
  have hl := lv_entry ([.ref (a1 0), .int x1, .int x2]) (n := 3) (Nat.le_of_ble_eq_true rfl)
  generalize (lg_sl ([.ref (a1 0), .int x1, .int x2]) ++ List.replicate (3 - (lg_sl ([.ref (a1 0), .int x1, .int x2])).length) Slot.unset).toArray = ls at hl ⊢
  have hl : lv_has ls 3 [(0, .ref (a1 0)), (1, .int x1), (2, .int x2)] := hl
  unfold rr_X9_told at hR
  refine lv_aload_n hx hb dX9_told_0 rfl (lv_at hl 0 rfl) ?_
  refine lv_iload_n hx hb dX9_told_1 rfl (lv_at hl 1 rfl) ?_
  have hR0 := ob_ok hR
  clear hR
  obtain ⟨q1, hq1, hR⟩ := hR0
  refine va_calli (va_runV (As := [.int x1]) (rest := []) ⟨hx, hb, hml, hown, hts⟩ (cc_X9_isCoin l dC dI fu a1 k1 s.heap.size x1 s1 q1 hq1) (cwV 1 hts gX9_told_X9_isCoin rfl rfl rfl (by decide +kernel) ⟨Nat.le_of_ble_eq_true rfl, Nat.le_of_ble_eq_true rfl⟩) (pf_v hK hP hD 9 0 rfl rfl rfl) rfl rfl hl.1 rfl (lv_room (Nat.le_of_ble_eq_true rfl)) dX9_told_2 ⟨Nat.le_refl _, Nat.le_refl _⟩) hS (fun q _ h => (fr_all hD hS hA) q h) (fr_all hD hS hA) (fun r1 v1 t1 H1 locs1 ht1 hvm1 hw1 hB1 hz1 hk1 hS1 => ?_)
  subst hw1
  obtain ⟨hP1, hD1⟩ := jn_all hD hS hA ht1 hB1
  have hP1 : va_P (dC, dI) vwCl (zc_9 a1 k1 s1) H1 := hP1
  have hD1 : va_D A (zc_9 a1 k1 s1) := hD1
  clear hP hD hS hB1 hk1 hvm1 hz1 ht1
  refine lv_if_ne (tgt := 10) hx hb dX9_told_5 (by decide) (fun c2 => ?_) (fun c2 => ?_)
  · replace hR := ifn_ hR c2
    refine lv_iload_n hx hb dX9_told_10 rfl (lv_at hl 2 rfl) ?_
    by_cases c3_0 : x2 = (0 : Int32)
    · replace hR := ifp_ hR c3_0
      refine lv_tableIn (tgt := 44) (off := 33) hx hb dX9_told_11 (by rw [c3_0]; decide) (by rw [c3_0]; decide) (by rw [c3_0]; decide) (by decide) ?_
      refine lv_aload_n hx hb dX9_told_44 rfl (lv_at hl 0 rfl) ?_
      refine va_get (D := (dC, dI)) (ci := 9) (v := .ref (a1 1)) (C := RX9) (T := TX9) (N := 14) hx hb hts hin9 hown hK hP1 0 rfl rfl 0 (by decide) (hts (.fieldLink RX9 10 "OldestCoins" "town" "LOldestCoins$Town;") (List.mem_of_getElem? (i := 1) rfl)) (fun _ h9 => h9) rfl dX9_told_45 ?_
      refine va_get (D := (dC, dI)) (ci := 8) (v := .ref (a1 2)) (C := RX8) (T := TX8) (N := 4) hx hb hts hin8 hown hK hP1 1 rfl rfl 1 (by decide) (hts (.fieldLink RX9 98 "OldestCoins$Town" "coins" "LOldestCoins$Coins;") (List.mem_of_getElem? (i := 2) rfl)) (fun _ h9 => h9) rfl dX9_told_48 ?_
      refine va_get (D := (dC, dI)) (ci := 2) (v := .ref (a1 4)) (C := RX2) (T := TX2) (N := 6) hx hb hts hin2 hown hK hP1 2 rfl rfl 2 (by decide) (hts (.fieldLink RX9 116 "OldestCoins$Coins" "worth" "[I") (List.mem_of_getElem? (i := 3) rfl)) (fun _ h9 => h9) rfl dX9_told_51 ?_
      refine lv_iload_n hx hb dX9_told_54 rfl (lv_at hl 1 rfl) ?_
      have i4 := (ck_ok hR).1
      replace hR := (ck_ok hR).2
      refine va_iald (f := s1.1.2.1.2.2.1) hx hb hK hP1 4 1 rfl rfl i4 dX9_told_55 ?_
      subst hQe
      exact W.iret (v := (s1.1.2.1.2.2.1 x1.toNatClampNeg)) hx hb hr (fun t ht hW => ⟨⟨(s1.1.2.1.2.2.1 x1.toNatClampNeg), (), rfl, (Option.some.inj hR).symm, by rw [ht]; exact hP1, va_K.moved hW.alike hK, hD1⟩, hS1.F ht⟩) hS1.2.2 dX9_told_56
    replace hR := ifn_ hR c3_0
    by_cases c3_1 : x2 = (1 : Int32)
    · replace hR := ifp_ hR c3_1
      refine lv_tableIn (tgt := 57) (off := 46) hx hb dX9_told_11 (by rw [c3_1]; decide) (by rw [c3_1]; decide) (by rw [c3_1]; decide) (by decide) ?_
      refine lv_aload_n hx hb dX9_told_57 rfl (lv_at hl 0 rfl) ?_
      refine va_get (D := (dC, dI)) (ci := 9) (v := .ref (a1 1)) (C := RX9) (T := TX9) (N := 14) hx hb hts hin9 hown hK hP1 0 rfl rfl 0 (by decide) (hts (.fieldLink RX9 10 "OldestCoins" "town" "LOldestCoins$Town;") (List.mem_of_getElem? (i := 1) rfl)) (fun _ h9 => h9) rfl dX9_told_58 ?_
      refine va_get (D := (dC, dI)) (ci := 8) (v := .ref (a1 2)) (C := RX8) (T := TX8) (N := 4) hx hb hts hin8 hown hK hP1 1 rfl rfl 1 (by decide) (hts (.fieldLink RX9 98 "OldestCoins$Town" "coins" "LOldestCoins$Coins;") (List.mem_of_getElem? (i := 2) rfl)) (fun _ h9 => h9) rfl dX9_told_61 ?_
      refine va_get (D := (dC, dI)) (ci := 2) (v := .ref (a1 5)) (C := RX2) (T := TX2) (N := 6) hx hb hts hin2 hown hK hP1 2 rfl rfl 3 (by decide) (hts (.fieldLink RX9 119 "OldestCoins$Coins" "year" "[I") (List.mem_of_getElem? (i := 4) rfl)) (fun _ h9 => h9) rfl dX9_told_64 ?_
      refine lv_iload_n hx hb dX9_told_67 rfl (lv_at hl 1 rfl) ?_
      have i5 := (ck_ok hR).1
      replace hR := (ck_ok hR).2
      refine va_iald (f := s1.1.2.1.2.2.2.1) hx hb hK hP1 5 2 rfl rfl i5 dX9_told_68 ?_
      subst hQe
      exact W.iret (v := (s1.1.2.1.2.2.2.1 x1.toNatClampNeg)) hx hb hr (fun t ht hW => ⟨⟨(s1.1.2.1.2.2.2.1 x1.toNatClampNeg), (), rfl, (Option.some.inj hR).symm, by rw [ht]; exact hP1, va_K.moved hW.alike hK, hD1⟩, hS1.F ht⟩) hS1.2.2 dX9_told_69
    replace hR := ifn_ hR c3_1
    by_cases c3_2 : x2 = (2 : Int32)
    · replace hR := ifp_ hR c3_2
      refine lv_tableIn (tgt := 70) (off := 59) hx hb dX9_told_11 (by rw [c3_2]; decide) (by rw [c3_2]; decide) (by rw [c3_2]; decide) (by decide) ?_
      refine lv_aload_n hx hb dX9_told_70 rfl (lv_at hl 0 rfl) ?_
      refine va_get (D := (dC, dI)) (ci := 9) (v := .ref (a1 1)) (C := RX9) (T := TX9) (N := 14) hx hb hts hin9 hown hK hP1 0 rfl rfl 0 (by decide) (hts (.fieldLink RX9 10 "OldestCoins" "town" "LOldestCoins$Town;") (List.mem_of_getElem? (i := 1) rfl)) (fun _ h9 => h9) rfl dX9_told_71 ?_
      refine va_get (D := (dC, dI)) (ci := 8) (v := .ref (a1 2)) (C := RX8) (T := TX8) (N := 4) hx hb hts hin8 hown hK hP1 1 rfl rfl 1 (by decide) (hts (.fieldLink RX9 98 "OldestCoins$Town" "coins" "LOldestCoins$Coins;") (List.mem_of_getElem? (i := 2) rfl)) (fun _ h9 => h9) rfl dX9_told_74 ?_
      refine va_get (D := (dC, dI)) (ci := 2) (v := .ref (a1 6)) (C := RX2) (T := TX2) (N := 6) hx hb hts hin2 hown hK hP1 2 rfl rfl 4 (by decide) (hts (.fieldLink RX9 112 "OldestCoins$Coins" "stamp" "[I") (List.mem_of_getElem? (i := 5) rfl)) (fun _ h9 => h9) rfl dX9_told_77 ?_
      refine lv_iload_n hx hb dX9_told_80 rfl (lv_at hl 1 rfl) ?_
      have i6 := (ck_ok hR).1
      replace hR := (ck_ok hR).2
      refine va_iald (f := s1.1.2.1.2.2.2.2.1) hx hb hK hP1 6 3 rfl rfl i6 dX9_told_81 ?_
      subst hQe
      exact W.iret (v := (s1.1.2.1.2.2.2.2.1 x1.toNatClampNeg)) hx hb hr (fun t ht hW => ⟨⟨(s1.1.2.1.2.2.2.2.1 x1.toNatClampNeg), (), rfl, (Option.some.inj hR).symm, by rw [ht]; exact hP1, va_K.moved hW.alike hK, hD1⟩, hS1.F ht⟩) hS1.2.2 dX9_told_82
    replace hR := ifn_ hR c3_2
    by_cases c3_3 : x2 = (3 : Int32)
    · replace hR := ifp_ hR c3_3
      refine lv_tableIn (tgt := 83) (off := 72) hx hb dX9_told_11 (by rw [c3_3]; decide) (by rw [c3_3]; decide) (by rw [c3_3]; decide) (by decide) ?_
      refine lv_aload_n hx hb dX9_told_83 rfl (lv_at hl 0 rfl) ?_
      refine va_get (D := (dC, dI)) (ci := 9) (v := .ref (a1 1)) (C := RX9) (T := TX9) (N := 14) hx hb hts hin9 hown hK hP1 0 rfl rfl 0 (by decide) (hts (.fieldLink RX9 10 "OldestCoins" "town" "LOldestCoins$Town;") (List.mem_of_getElem? (i := 1) rfl)) (fun _ h9 => h9) rfl dX9_told_84 ?_
      refine va_get (D := (dC, dI)) (ci := 8) (v := .ref (a1 2)) (C := RX8) (T := TX8) (N := 4) hx hb hts hin8 hown hK hP1 1 rfl rfl 1 (by decide) (hts (.fieldLink RX9 98 "OldestCoins$Town" "coins" "LOldestCoins$Coins;") (List.mem_of_getElem? (i := 2) rfl)) (fun _ h9 => h9) rfl dX9_told_87 ?_
      refine va_get (D := (dC, dI)) (ci := 2) (v := .ref (a1 7)) (C := RX2) (T := TX2) (N := 6) hx hb hts hin2 hown hK hP1 2 rfl rfl 5 (by decide) (hts (.fieldLink RX9 122 "OldestCoins$Coins" "kind" "[I") (List.mem_of_getElem? (i := 6) rfl)) (fun _ h9 => h9) rfl dX9_told_90 ?_
      refine lv_iload_n hx hb dX9_told_93 rfl (lv_at hl 1 rfl) ?_
      have i7 := (ck_ok hR).1
      replace hR := (ck_ok hR).2
      refine va_iald (f := s1.1.2.1.2.2.2.2.2) hx hb hK hP1 7 4 rfl rfl i7 dX9_told_94 ?_
      subst hQe
      exact W.iret (v := (s1.1.2.1.2.2.2.2.2 x1.toNatClampNeg)) hx hb hr (fun t ht hW => ⟨⟨(s1.1.2.1.2.2.2.2.2 x1.toNatClampNeg), (), rfl, (Option.some.inj hR).symm, by rw [ht]; exact hP1, va_K.moved hW.alike hK, hD1⟩, hS1.F ht⟩) hS1.2.2 dX9_told_95
    replace hR := ifn_ hR c3_3
    by_cases c3_4 : x2 = (4 : Int32)
    · replace hR := ifp_ hR c3_4
      refine lv_tableIn (tgt := 96) (off := 85) hx hb dX9_told_11 (by rw [c3_4]; decide) (by rw [c3_4]; decide) (by rw [c3_4]; decide) (by decide) ?_
      refine lv_aload_n hx hb dX9_told_96 rfl (lv_at hl 0 rfl) ?_
      refine va_get (D := (dC, dI)) (ci := 9) (v := .ref (a1 1)) (C := RX9) (T := TX9) (N := 14) hx hb hts hin9 hown hK hP1 0 rfl rfl 0 (by decide) (hts (.fieldLink RX9 10 "OldestCoins" "town" "LOldestCoins$Town;") (List.mem_of_getElem? (i := 1) rfl)) (fun _ h9 => h9) rfl dX9_told_97 ?_
      refine va_get (D := (dC, dI)) (ci := 8) (v := .ref (a1 2)) (C := RX8) (T := TX8) (N := 4) hx hb hts hin8 hown hK hP1 1 rfl rfl 1 (by decide) (hts (.fieldLink RX9 98 "OldestCoins$Town" "coins" "LOldestCoins$Coins;") (List.mem_of_getElem? (i := 2) rfl)) (fun _ h9 => h9) rfl dX9_told_100 ?_
      refine va_get (D := (dC, dI)) (ci := 2) (v := .ref (a1 3)) (C := RX2) (T := TX2) (N := 6) hx hb hts hin2 hown hK hP1 2 rfl rfl 1 (by decide) (hts (.fieldLink RX9 125 "OldestCoins$Coins" "holder" "[I") (List.mem_of_getElem? (i := 7) rfl)) (fun _ h9 => h9) rfl dX9_told_103 ?_
      refine lv_iload_n hx hb dX9_told_106 rfl (lv_at hl 1 rfl) ?_
      have i8 := (ck_ok hR).1
      replace hR := (ck_ok hR).2
      refine va_iald (f := s1.1.2.1.2.1) hx hb hK hP1 3 0 rfl rfl i8 dX9_told_107 ?_
      subst hQe
      exact W.iret (v := (s1.1.2.1.2.1 x1.toNatClampNeg)) hx hb hr (fun t ht hW => ⟨⟨(s1.1.2.1.2.1 x1.toNatClampNeg), (), rfl, (Option.some.inj hR).symm, by rw [ht]; exact hP1, va_K.moved hW.alike hK, hD1⟩, hS1.F ht⟩) hS1.2.2 dX9_told_108
    replace hR := ifn_ hR c3_4
    refine lv_tableOut (tgt := 109) hx hb dX9_told_11 (by have k0 := ne_i 0 (0 : Int32) (by decide) c3_0; have k1 := ne_i 1 (1 : Int32) (by decide) c3_1; have k2 := ne_i 2 (2 : Int32) (by decide) c3_2; have k3 := ne_i 3 (3 : Int32) (by decide) c3_3; have k4 := ne_i 4 (4 : Int32) (by decide) c3_4; omega) (by decide) ?_
    refine lv_iconst (v := (-1 : Int32)) hx hb dX9_told_109 (by decide) ?_
    subst hQe
    exact W.iret (v := (-1 : Int32)) hx hb hr (fun t ht hW => ⟨⟨(-1 : Int32), (), rfl, (Option.some.inj hR).symm, by rw [ht]; exact hP1, va_K.moved hW.alike hK, hD1⟩, hS1.F ht⟩) hS1.2.2 dX9_told_110
  · replace hR := ifp_ hR c2
    refine lv_iconst (v := (-1 : Int32)) hx hb dX9_told_8 (by decide) ?_
    subst hQe
    exact W.iret (v := (-1 : Int32)) hx hb hr (fun t ht hW => ⟨⟨(-1 : Int32), (), rfl, (Option.some.inj hR).symm, by rw [ht]; exact hP1, va_K.moved hW.alike hK, hD1⟩, hS1.F ht⟩) hS1.2.2 dX9_told_9
