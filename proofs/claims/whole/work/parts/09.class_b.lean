def rr_X9_item (fu : Nat) (x1 : Int32) (x2 : Int32) (x3 : Int32) (x4 : Int64) (s1 : ZT_9) : Option (Int32 × ZT_9) := (rr_X9_isSheet fu x1).bind (fun q1 => (if q1 = (0 : Int32) then some ((-1 : Int32), s1) else (rr_X9_isLane fu x2).bind (fun q3 => (if q3 = (0 : Int32) then some ((-1 : Int32), s1) else (rr_X5_refusal fu x1 x2 x3 (1 : Int32) s1.2.2.2.2.2.2.2.2.2.2.2.2.2).bind (fun q5 => (if q5 = (0 : Int32) then (rr_X5_write fu x1 x3 x4 s1.2.2.2.2.2.2.2.2.2.2.2.2.2).bind (fun q8 => some ((1 : Int32), (s1.1, s1.2.1, s1.2.2.1, s1.2.2.2.1, s1.2.2.2.2.1, s1.2.2.2.2.2.1, s1.2.2.2.2.2.2.1, s1.2.2.2.2.2.2.2.1, s1.2.2.2.2.2.2.2.2.1, s1.2.2.2.2.2.2.2.2.2.1, s1.2.2.2.2.2.2.2.2.2.2.1, s1.2.2.2.2.2.2.2.2.2.2.2.1, s1.2.2.2.2.2.2.2.2.2.2.2.2.1, q8))) else some (q5, s1)))))))
set_option maxHeartbeats 4000000 in
set_option maxRecDepth 100000 in
theorem cc_X9_item (l : Launch) (dC : Nat → ClassId) (dI : Nat → Nat → Nat) (fu : Nat) (a1 : Nat → Nat) (k1 : Nat → ClassId) (sz : Nat) (x1 : Int32) (x2 : Int32) (x3 : Int32) (x4 : Int64) (s1 : ZT_9) (res : Int32 × ZT_9) (hR : rr_X9_item fu x1 x2 x3 x4 s1 = some res) : Met l yX9_item wsX9_item ({ frames := 2, cells := 0, slots := 0, locals := 42 } : Room) (PcF [.ref (a1 0), .int x1, .int x2, .int x3, .long x4] sz (dC, dI) (zc_9 a1 k1 s1) (zt_9 k1)) (va_Qi (fun (r : Int32) (u : ZT_9) => res = (r, u)) (fun u t => at3_ (dC, dI) (zc_9 a1 k1 u) (zt_9 k1) (va_A (zc_9 a1 k1 s1) sz) t) (va_A (zc_9 a1 k1 s1) sz)) 0 0 (va_A (zc_9 a1 k1 s1) sz) := by
  refine Met.ofW (cc := cX9_item) (maxL := 7) (ret := (some .int)) (by decide) rfl ?_
  intro p e s m args below meth c s₁ B hml hv
  obtain ⟨hav, hsz, hP, hK, hD0⟩ := hv
  have hx := B.exec
  have hb := B.bytes
  have hr := B.returns
  have hts := atoms_spec (ws := wsX9_item) B.pre
  have hown : s.vm.findClass RX9 = some m.cls := findClass_of_methodNamed B.named
  have hlocks := B.notSynchronized
  have hin9 : ∀ w ∈ wsX90, w ∈ wsX9_item := fun w h => List.mem_cons_of_mem _ (List.mem_append_left _ (List.mem_append_right _ h))
  subst hsz
  have hD := hD0.self (sz := s.heap.size)
  clear hD0
  generalize hAe : va_A (zc_9 a1 k1 s1) s.heap.size = A at hD ⊢
  have hA : ∀ q : Nat, s.heap.size ≤ q → A q := fun q h => by rw [← hAe]; exact Or.inr h
  have hS : va_S A s.heap s.heap [] := va_S.rf
  generalize hQe : MQ below _ args s 0 0 A = Q
  rw [show entryFrame m args 7 = F0 m 0 ((lg_sl ([.ref (a1 0), .int x1, .int x2, .int x3, .long x4]) ++ List.replicate (7 - (lg_sl ([.ref (a1 0), .int x1, .int x2, .int x3, .long x4])).length) Slot.unset).toArray) [] from by rw [hav]; exact lg_entry_eq m _ _]
  have hl := lv_entry ([.ref (a1 0), .int x1, .int x2, .int x3, .long x4]) (n := 7) (Nat.le_of_ble_eq_true rfl)
  generalize (lg_sl ([.ref (a1 0), .int x1, .int x2, .int x3, .long x4]) ++ List.replicate (7 - (lg_sl ([.ref (a1 0), .int x1, .int x2, .int x3, .long x4])).length) Slot.unset).toArray = ls at hl ⊢
  have hl : lv_has ls 7 [(0, .ref (a1 0)), (1, .int x1), (2, .int x2), (3, .int x3), (4, .long x4)] := hl
  unfold rr_X9_item at hR
  refine lv_iload_n hx hb dX9_item_0 rfl (lv_at hl 1 rfl) ?_
  have hR0 := ob_ok hR
  clear hR
  obtain ⟨q1, hq1, hR⟩ := hR0
  refine va_calli (va_runS (As := [.int x1]) (rest := []) ⟨hx, hb, hml, hown, hts⟩ (cc_X9_isSheet l dC dI fu s.heap.size x1 q1 hq1) (va_cwS 1 hts gX9_item_X9_isSheet rfl rfl rfl (by decide +kernel) ⟨Nat.le_of_ble_eq_true rfl, Nat.le_of_ble_eq_true rfl⟩) (pf_s (nil_K hK) nil_P (nil_D (A := A))) rfl rfl hl.1 rfl (lv_room (Nat.le_of_ble_eq_true rfl)) dX9_item_1 ⟨Nat.le_refl _, Nat.le_refl _⟩) hS (fun q _ h => (fr_none hS hA) q h) (fr_none hS hA) (fun r1 v1 t1 H1 locs1 ht1 hvm1 hw1 hB1 hz1 hk1 hS1 => ?_)
  subst hw1
  have hP1 := jn_none hP hk1
  have hD1 := hD
  have hP1 : va_P (dC, dI) vwCl (zc_9 a1 k1 s1) H1 := hP1
  have hD1 : va_D A (zc_9 a1 k1 s1) := hD1
  clear hP hD hS hB1 hk1 hvm1 hz1 ht1
  refine lv_if_eq (tgt := 14) hx hb dX9_item_4 (by decide) (fun c2 => ?_) (fun c2 => ?_)
  · replace hR := ifp_ hR c2
    refine lv_iconst (v := (-1 : Int32)) hx hb dX9_item_14 (by decide) ?_
    subst hQe
    exact W.iret (v := (-1 : Int32)) hx hb hr (fun t ht hW => ⟨⟨(-1 : Int32), s1, rfl, (Option.some.inj hR).symm, by rw [ht]; exact hP1, va_K.moved hW.alike hK, hD1⟩, hS1.F ht⟩) hS1.2.2 dX9_item_15
  · replace hR := ifn_ hR c2
    refine lv_iload_n hx hb dX9_item_7 rfl (lv_at hl 2 rfl) ?_
    have hR0 := ob_ok hR
    clear hR
    obtain ⟨q3, hq3, hR⟩ := hR0
    refine va_calli (va_runS (As := [.int x2]) (rest := []) ⟨hx, hb, hml, hown, hts⟩ (cc_X9_isLane l dC dI fu H1.size x2 q3 hq3) (va_cwS 1 hts gX9_item_X9_isLane rfl rfl rfl (by decide +kernel) ⟨Nat.le_of_ble_eq_true rfl, Nat.le_of_ble_eq_true rfl⟩) (pf_s (nil_K hK) nil_P (nil_D (A := A))) rfl rfl hl.1 rfl (lv_room (Nat.le_of_ble_eq_true rfl)) dX9_item_8 ⟨Nat.le_refl _, Nat.le_refl _⟩) hS1 (fun q _ h => (fr_none hS1 hA) q h) (fr_none hS1 hA) (fun r3 v3 t3 H3 locs3 ht3 hvm3 hw3 hB3 hz3 hk3 hS3 => ?_)
    subst hw3
    have hP3 := jn_none hP1 hk3
    have hD3 := hD1
    have hP3 : va_P (dC, dI) vwCl (zc_9 a1 k1 s1) H3 := hP3
    have hD3 : va_D A (zc_9 a1 k1 s1) := hD3
    clear hP1 hD1 hS1 hB3 hk3 hvm3 hz3 ht3
    refine lv_if_ne (tgt := 16) hx hb dX9_item_11 (by decide) (fun c4 => ?_) (fun c4 => ?_)
    · replace hR := ifn_ hR c4
      refine lv_aload_n hx hb dX9_item_16 rfl (lv_at hl 0 rfl) ?_
      refine va_get (D := (dC, dI)) (ci := 9) (v := .ref (a1 66)) (C := RX9) (T := TX9) (N := 14) hx hb hts hin9 hown hK hP3 0 rfl rfl 13 (by decide) (hts (.fieldLink RX9 83 "OldestCoins" "sheets" "LOldestCoins$Sheets;") (List.mem_of_getElem? (i := 1) rfl)) (fun _ h9 => h9) rfl dX9_item_17 ?_
      refine lv_iload_n hx hb dX9_item_20 rfl (lv_at hl 1 rfl) ?_
      refine lv_iload_n hx hb dX9_item_21 rfl (lv_at hl 2 rfl) ?_
      refine lv_iload_n hx hb dX9_item_22 rfl (lv_at hl 3 rfl) ?_
      refine lv_iconst (v := (1 : Int32)) hx hb dX9_item_23 (by decide) ?_
      have hR0 := ob_ok hR
      clear hR
      obtain ⟨q5, hq5, hR⟩ := hR0
      refine va_calli (va_runV (As := [.int x1, .int x2, .int x3, .int (1 : Int32)]) (rest := []) ⟨hx, hb, hml, hown, hts⟩ (cc_X5_refusal l dC dI fu (sh_ a1 66) (sh_ k1 66) H3.size x1 x2 x3 (1 : Int32) s1.2.2.2.2.2.2.2.2.2.2.2.2.2 q5 hq5) (cwV 4 hts gX9_item_X5_refusal rfl rfl rfl (by decide +kernel) ⟨Nat.le_of_ble_eq_true rfl, Nat.le_of_ble_eq_true rfl⟩) (pf_v (hK.sub (tys' := zt_5 (sh_ k1 66)) [48, 49, 50] rfl) (sub_P (sb_9__0c66 a1 k1 s1) hP3) (sub_D (sb_9__0c66 a1 k1 s1) hD3) 5 0 rfl rfl rfl) rfl rfl hl.1 rfl (lv_room (Nat.le_of_ble_eq_true rfl)) dX9_item_24 ⟨Nat.le_refl _, Nat.le_refl _⟩) hS3 (fun q _ h => (sub_F (sb_9__0c66 a1 k1 s1) hD3 hS3 hA) q h) (sub_F (sb_9__0c66 a1 k1 s1) hD3 hS3 hA) (fun r5 v5 t5 H5 locs5 ht5 hvm5 hw5 hB5 hz5 hk5 hS5 => ?_)
      subst hw5
      obtain ⟨hP5, hD5⟩ := jn_sub (sb_9__0c66 a1 k1 s1) (jo_9__0c66__ a1 k1 s1 ) rfl hP3 hD3 hk5 ht5 hB5
      have hP5 : va_P (dC, dI) vwCl (zc_9 a1 k1 s1) H5 := hP5
      have hD5 : va_D A (zc_9 a1 k1 s1) := hD5
      clear hP3 hD3 hS3 hB5 hk5 hvm5 hz5 ht5
      refine lv_istore (lv' := [(6, .int q5), (0, .ref (a1 0)), (1, .int x1), (2, .int x2), (3, .int x3), (4, .long x4)]) hx hb dX9_item_27 hl (by decide) rfl (fun ls6 hl6 => ?_)
      refine lv_iload hx hb dX9_item_29 (lv_at hl6 0 rfl) ?_
      refine lv_if_eq (tgt := 37) hx hb dX9_item_31 (by decide) (fun c7 => ?_) (fun c7 => ?_)
      · replace hR := ifp_ hR c7
        refine lv_aload_n hx hb dX9_item_37 rfl (lv_at hl6 1 rfl) ?_
        refine va_get (D := (dC, dI)) (ci := 9) (v := .ref (a1 66)) (C := RX9) (T := TX9) (N := 14) hx hb hts hin9 hown hK hP5 0 rfl rfl 13 (by decide) (hts (.fieldLink RX9 83 "OldestCoins" "sheets" "LOldestCoins$Sheets;") (List.mem_of_getElem? (i := 1) rfl)) (fun _ h9 => h9) rfl dX9_item_38 ?_
        refine lv_iload_n hx hb dX9_item_41 rfl (lv_at hl6 2 rfl) ?_
        refine lv_iload_n hx hb dX9_item_42 rfl (lv_at hl6 4 rfl) ?_
        refine lv_lload hx hb dX9_item_43 (lv_at hl6 5 rfl) ?_
        have hR0 := ob_ok hR
        clear hR
        obtain ⟨q8, hq8, hR⟩ := hR0
        refine va_callv (va_runV (As := [.int x1, .int x3, .long x4]) (rest := []) ⟨hx, hb, hml, hown, hts⟩ (cc_X5_write l dC dI fu (sh_ a1 66) (sh_ k1 66) H5.size x1 x3 x4 s1.2.2.2.2.2.2.2.2.2.2.2.2.2 q8 hq8) (cwV 3 hts gX9_item_X5_write rfl rfl rfl (by decide +kernel) ⟨Nat.le_of_ble_eq_true rfl, Nat.le_of_ble_eq_true rfl⟩) (pf_v (hK.sub (tys' := zt_5 (sh_ k1 66)) [48, 49, 50] rfl) (sub_P (sb_9__0c66 a1 k1 s1) hP5) (sub_D (sb_9__0c66 a1 k1 s1) hD5) 5 0 rfl rfl rfl) rfl rfl hl6.1 rfl (lv_room (Nat.le_of_ble_eq_true rfl)) dX9_item_45 ⟨Nat.le_refl _, Nat.le_refl _⟩) hS5 (fun q _ h => (sub_F (sb_9__0c66 a1 k1 s1) hD5 hS5 hA) q h) (sub_F (sb_9__0c66 a1 k1 s1) hD5 hS5 hA) (fun v8 t8 H8 locs8 ht8 hvm8 hw8 hB8 hz8 hk8 hS8 => ?_)
        subst hw8
        obtain ⟨hP8, hD8⟩ := jn_sub (sb_9__0c66 a1 k1 s1) (jo_9__0c66__0 a1 k1 s1 q8) rfl hP5 hD5 hk8 ht8 hB8
        have hP8 : va_P (dC, dI) vwCl (zc_9 a1 k1 (s1.1, s1.2.1, s1.2.2.1, s1.2.2.2.1, s1.2.2.2.2.1, s1.2.2.2.2.2.1, s1.2.2.2.2.2.2.1, s1.2.2.2.2.2.2.2.1, s1.2.2.2.2.2.2.2.2.1, s1.2.2.2.2.2.2.2.2.2.1, s1.2.2.2.2.2.2.2.2.2.2.1, s1.2.2.2.2.2.2.2.2.2.2.2.1, s1.2.2.2.2.2.2.2.2.2.2.2.2.1, q8)) H8 := hP8
        have hD8 : va_D A (zc_9 a1 k1 (s1.1, s1.2.1, s1.2.2.1, s1.2.2.2.1, s1.2.2.2.2.1, s1.2.2.2.2.2.1, s1.2.2.2.2.2.2.1, s1.2.2.2.2.2.2.2.1, s1.2.2.2.2.2.2.2.2.1, s1.2.2.2.2.2.2.2.2.2.1, s1.2.2.2.2.2.2.2.2.2.2.1, s1.2.2.2.2.2.2.2.2.2.2.2.1, s1.2.2.2.2.2.2.2.2.2.2.2.2.1, q8)) := hD8
        clear hP5 hD5 hS5 hB8 hk8 hvm8 hz8 ht8
        refine lv_iconst (v := (1 : Int32)) hx hb dX9_item_48 (by decide) ?_
        subst hQe
        exact W.iret (v := (1 : Int32)) hx hb hr (fun t ht hW => ⟨⟨(1 : Int32), (s1.1, s1.2.1, s1.2.2.1, s1.2.2.2.1, s1.2.2.2.2.1, s1.2.2.2.2.2.1, s1.2.2.2.2.2.2.1, s1.2.2.2.2.2.2.2.1, s1.2.2.2.2.2.2.2.2.1, s1.2.2.2.2.2.2.2.2.2.1, s1.2.2.2.2.2.2.2.2.2.2.1, s1.2.2.2.2.2.2.2.2.2.2.2.1, s1.2.2.2.2.2.2.2.2.2.2.2.2.1, q8), rfl, (Option.some.inj hR).symm, by rw [ht]; exact hP8, va_K.moved hW.alike hK, hD8⟩, hS8.F ht⟩) hS8.2.2 dX9_item_49
      · replace hR := ifn_ hR c7
        refine lv_iload hx hb dX9_item_34 (lv_at hl6 0 rfl) ?_
        subst hQe
        exact W.iret (v := q5) hx hb hr (fun t ht hW => ⟨⟨q5, s1, rfl, (Option.some.inj hR).symm, by rw [ht]; exact hP5, va_K.moved hW.alike hK, hD5⟩, hS5.F ht⟩) hS5.2.2 dX9_item_36
    · replace hR := ifp_ hR c4
      refine lv_iconst (v := (-1 : Int32)) hx hb dX9_item_14 (by decide) ?_
      subst hQe
      exact W.iret (v := (-1 : Int32)) hx hb hr (fun t ht hW => ⟨⟨(-1 : Int32), s1, rfl, (Option.some.inj hR).symm, by rw [ht]; exact hP3, va_K.moved hW.alike hK, hD3⟩, hS3.F ht⟩) hS3.2.2 dX9_item_15
def rr_X9_drop (fu : Nat) (x1 : Int32) (s1 : ZT_9) : Option (Int32 × ZT_9) := (rr_X9_isSheet fu x1).bind (fun q1 => (if q1 = (0 : Int32) then some ((-1 : Int32), s1) else ck_ x1 4 ((if (s1.2.2.2.2.2.2.2.2.2.2.2.2.2.1 x1.toNatClampNeg) = (-1 : Int32) then some ((-11 : Int32), s1) else ck_ x1 4 (ck_ x1 4 (some ((s1.2.2.2.2.2.2.2.2.2.2.2.2.2.2.1 x1.toNatClampNeg), (s1.1, s1.2.1, s1.2.2.1, s1.2.2.2.1, s1.2.2.2.2.1, s1.2.2.2.2.2.1, s1.2.2.2.2.2.2.1, s1.2.2.2.2.2.2.2.1, s1.2.2.2.2.2.2.2.2.1, s1.2.2.2.2.2.2.2.2.2.1, s1.2.2.2.2.2.2.2.2.2.2.1, s1.2.2.2.2.2.2.2.2.2.2.2.1, s1.2.2.2.2.2.2.2.2.2.2.2.2.1, ((upd s1.2.2.2.2.2.2.2.2.2.2.2.2.2.1 x1.toNatClampNeg (-1 : Int32)), s1.2.2.2.2.2.2.2.2.2.2.2.2.2.2)))))))))
set_option maxHeartbeats 4000000 in
set_option maxRecDepth 100000 in
theorem cc_X9_drop (l : Launch) (dC : Nat → ClassId) (dI : Nat → Nat → Nat) (fu : Nat) (a1 : Nat → Nat) (k1 : Nat → ClassId) (sz : Nat) (x1 : Int32) (s1 : ZT_9) (res : Int32 × ZT_9) (hR : rr_X9_drop fu x1 s1 = some res) : Met l yX9_drop wsX9_drop ({ frames := 2, cells := 0, slots := 0, locals := 42 } : Room) (PcF [.ref (a1 0), .int x1] sz (dC, dI) (zc_9 a1 k1 s1) (zt_9 k1)) (va_Qi (fun (r : Int32) (u : ZT_9) => res = (r, u)) (fun u t => at3_ (dC, dI) (zc_9 a1 k1 u) (zt_9 k1) (va_A (zc_9 a1 k1 s1) sz) t) (va_A (zc_9 a1 k1 s1) sz)) 0 0 (va_A (zc_9 a1 k1 s1) sz) := by
  refine Met.ofW (cc := cX9_drop) (maxL := 2) (ret := (some .int)) (by decide) rfl ?_
  intro p e s m args below meth c s₁ B hml hv
  obtain ⟨hav, hsz, hP, hK, hD0⟩ := hv
  have hx := B.exec
  have hb := B.bytes
  have hr := B.returns
  have hts := atoms_spec (ws := wsX9_drop) B.pre
  have hown : s.vm.findClass RX9 = some m.cls := findClass_of_methodNamed B.named
  have hlocks := B.notSynchronized
  have hin5 : ∀ w ∈ wsX50, w ∈ wsX9_drop := fun w h => List.mem_cons_of_mem _ (List.mem_append_right _ h)
  have hin9 : ∀ w ∈ wsX90, w ∈ wsX9_drop := fun w h => List.mem_cons_of_mem _ (List.mem_append_left _ (List.mem_append_right _ h))
  subst hsz
  have hD := hD0.self (sz := s.heap.size)
  clear hD0
  generalize hAe : va_A (zc_9 a1 k1 s1) s.heap.size = A at hD ⊢
  have hA : ∀ q : Nat, s.heap.size ≤ q → A q := fun q h => by rw [← hAe]; exact Or.inr h
  have hS : va_S A s.heap s.heap [] := va_S.rf
  generalize hQe : MQ below _ args s 0 0 A = Q
  rw [show entryFrame m args 2 = F0 m 0 ((lg_sl ([.ref (a1 0), .int x1]) ++ List.replicate (2 - (lg_sl ([.ref (a1 0), .int x1])).length) Slot.unset).toArray) [] from by rw [hav]; exact lg_entry_eq m _ _]
  have hl := lv_entry ([.ref (a1 0), .int x1]) (n := 2) (Nat.le_of_ble_eq_true rfl)
  generalize (lg_sl ([.ref (a1 0), .int x1]) ++ List.replicate (2 - (lg_sl ([.ref (a1 0), .int x1])).length) Slot.unset).toArray = ls at hl ⊢
  have hl : lv_has ls 2 [(0, .ref (a1 0)), (1, .int x1)] := hl
  unfold rr_X9_drop at hR
  refine lv_iload_n hx hb dX9_drop_0 rfl (lv_at hl 1 rfl) ?_
  have hR0 := ob_ok hR
  clear hR
  obtain ⟨q1, hq1, hR⟩ := hR0
  refine va_calli (va_runS (As := [.int x1]) (rest := []) ⟨hx, hb, hml, hown, hts⟩ (cc_X9_isSheet l dC dI fu s.heap.size x1 q1 hq1) (va_cwS 1 hts gX9_drop_X9_isSheet rfl rfl rfl (by decide +kernel) ⟨Nat.le_of_ble_eq_true rfl, Nat.le_of_ble_eq_true rfl⟩) (pf_s (nil_K hK) nil_P (nil_D (A := A))) rfl rfl hl.1 rfl (lv_room (Nat.le_of_ble_eq_true rfl)) dX9_drop_1 ⟨Nat.le_refl _, Nat.le_refl _⟩) hS (fun q _ h => (fr_none hS hA) q h) (fr_none hS hA) (fun r1 v1 t1 H1 locs1 ht1 hvm1 hw1 hB1 hz1 hk1 hS1 => ?_)
  subst hw1
  have hP1 := jn_none hP hk1
  have hD1 := hD
  have hP1 : va_P (dC, dI) vwCl (zc_9 a1 k1 s1) H1 := hP1
  have hD1 : va_D A (zc_9 a1 k1 s1) := hD1
  clear hP hD hS hB1 hk1 hvm1 hz1 ht1
  refine lv_if_ne (tgt := 9) hx hb dX9_drop_4 (by decide) (fun c2 => ?_) (fun c2 => ?_)
  · replace hR := ifn_ hR c2
    refine lv_aload_n hx hb dX9_drop_9 rfl (lv_at hl 0 rfl) ?_
    refine va_get (D := (dC, dI)) (ci := 9) (v := .ref (a1 66)) (C := RX9) (T := TX9) (N := 14) hx hb hts hin9 hown hK hP1 0 rfl rfl 13 (by decide) (hts (.fieldLink RX9 83 "OldestCoins" "sheets" "LOldestCoins$Sheets;") (List.mem_of_getElem? (i := 1) rfl)) (fun _ h9 => h9) rfl dX9_drop_10 ?_
    refine va_get (D := (dC, dI)) (ci := 5) (v := .ref (a1 67)) (C := RX5) (T := TX5) (N := 3) hx hb hts hin5 hown hK hP1 66 rfl rfl 0 (by decide) (hts (.fieldLink RX9 312 "OldestCoins$Sheets" "lane" "[I") (List.mem_of_getElem? (i := 2) rfl)) (fun _ h9 => h9) rfl dX9_drop_13 ?_
    refine lv_iload_n hx hb dX9_drop_16 rfl (lv_at hl 1 rfl) ?_
    have i3 := (ck_ok hR).1
    replace hR := (ck_ok hR).2
    refine va_iald (f := s1.2.2.2.2.2.2.2.2.2.2.2.2.2.1) hx hb hK hP1 67 48 rfl rfl i3 dX9_drop_17 ?_
    refine lv_iconst (v := (-1 : Int32)) hx hb dX9_drop_18 (by decide) ?_
    refine lv_icmp_ne (tgt := 25) hx hb dX9_drop_19 (by decide) (fun c4 => ?_) (fun c4 => ?_)
    · replace hR := ifn_ hR c4
      refine lv_aload_n hx hb dX9_drop_25 rfl (lv_at hl 0 rfl) ?_
      refine va_get (D := (dC, dI)) (ci := 9) (v := .ref (a1 66)) (C := RX9) (T := TX9) (N := 14) hx hb hts hin9 hown hK hP1 0 rfl rfl 13 (by decide) (hts (.fieldLink RX9 83 "OldestCoins" "sheets" "LOldestCoins$Sheets;") (List.mem_of_getElem? (i := 1) rfl)) (fun _ h9 => h9) rfl dX9_drop_26 ?_
      refine va_get (D := (dC, dI)) (ci := 5) (v := .ref (a1 67)) (C := RX5) (T := TX5) (N := 3) hx hb hts hin5 hown hK hP1 66 rfl rfl 0 (by decide) (hts (.fieldLink RX9 312 "OldestCoins$Sheets" "lane" "[I") (List.mem_of_getElem? (i := 2) rfl)) (fun _ h9 => h9) rfl dX9_drop_29 ?_
      refine lv_iload_n hx hb dX9_drop_32 rfl (lv_at hl 1 rfl) ?_
      refine lv_iconst (v := (-1 : Int32)) hx hb dX9_drop_33 (by decide) ?_
      have i5 := (ck_ok hR).1
      replace hR := (ck_ok hR).2
      refine va_iast (f := s1.2.2.2.2.2.2.2.2.2.2.2.2.2.1) hx hb hK hP1 hD1 hS1 67 48 rfl rfl i5 dX9_drop_34 (fun H5 locs5 hP5 hD5 hS5 => ?_)
      have hP5 : va_P (dC, dI) vwCl (zc_9 a1 k1 (s1.1, s1.2.1, s1.2.2.1, s1.2.2.2.1, s1.2.2.2.2.1, s1.2.2.2.2.2.1, s1.2.2.2.2.2.2.1, s1.2.2.2.2.2.2.2.1, s1.2.2.2.2.2.2.2.2.1, s1.2.2.2.2.2.2.2.2.2.1, s1.2.2.2.2.2.2.2.2.2.2.1, s1.2.2.2.2.2.2.2.2.2.2.2.1, s1.2.2.2.2.2.2.2.2.2.2.2.2.1, ((upd s1.2.2.2.2.2.2.2.2.2.2.2.2.2.1 x1.toNatClampNeg (-1 : Int32)), s1.2.2.2.2.2.2.2.2.2.2.2.2.2.2))) H5 := hP5
      have hD5 : va_D A (zc_9 a1 k1 (s1.1, s1.2.1, s1.2.2.1, s1.2.2.2.1, s1.2.2.2.2.1, s1.2.2.2.2.2.1, s1.2.2.2.2.2.2.1, s1.2.2.2.2.2.2.2.1, s1.2.2.2.2.2.2.2.2.1, s1.2.2.2.2.2.2.2.2.2.1, s1.2.2.2.2.2.2.2.2.2.2.1, s1.2.2.2.2.2.2.2.2.2.2.2.1, s1.2.2.2.2.2.2.2.2.2.2.2.2.1, ((upd s1.2.2.2.2.2.2.2.2.2.2.2.2.2.1 x1.toNatClampNeg (-1 : Int32)), s1.2.2.2.2.2.2.2.2.2.2.2.2.2.2))) := hD5
      clear hP1 hD1 hS1
      refine lv_aload_n hx hb dX9_drop_35 rfl (lv_at hl 0 rfl) ?_
      refine va_get (D := (dC, dI)) (ci := 9) (v := .ref (a1 66)) (C := RX9) (T := TX9) (N := 14) hx hb hts hin9 hown hK hP5 0 rfl rfl 13 (by decide) (hts (.fieldLink RX9 83 "OldestCoins" "sheets" "LOldestCoins$Sheets;") (List.mem_of_getElem? (i := 1) rfl)) (fun _ h9 => h9) rfl dX9_drop_36 ?_
      refine va_get (D := (dC, dI)) (ci := 5) (v := .ref (a1 68)) (C := RX5) (T := TX5) (N := 3) hx hb hts hin5 hown hK hP5 66 rfl rfl 1 (by decide) (hts (.fieldLink RX9 315 "OldestCoins$Sheets" "size" "[I") (List.mem_of_getElem? (i := 3) rfl)) (fun _ h9 => h9) rfl dX9_drop_39 ?_
      refine lv_iload_n hx hb dX9_drop_42 rfl (lv_at hl 1 rfl) ?_
      have i6 := (ck_ok hR).1
      replace hR := (ck_ok hR).2
      refine va_iald (f := s1.2.2.2.2.2.2.2.2.2.2.2.2.2.2.1) hx hb hK hP5 68 49 rfl rfl i6 dX9_drop_43 ?_
      subst hQe
      exact W.iret (v := (s1.2.2.2.2.2.2.2.2.2.2.2.2.2.2.1 x1.toNatClampNeg)) hx hb hr (fun t ht hW => ⟨⟨(s1.2.2.2.2.2.2.2.2.2.2.2.2.2.2.1 x1.toNatClampNeg), (s1.1, s1.2.1, s1.2.2.1, s1.2.2.2.1, s1.2.2.2.2.1, s1.2.2.2.2.2.1, s1.2.2.2.2.2.2.1, s1.2.2.2.2.2.2.2.1, s1.2.2.2.2.2.2.2.2.1, s1.2.2.2.2.2.2.2.2.2.1, s1.2.2.2.2.2.2.2.2.2.2.1, s1.2.2.2.2.2.2.2.2.2.2.2.1, s1.2.2.2.2.2.2.2.2.2.2.2.2.1, ((upd s1.2.2.2.2.2.2.2.2.2.2.2.2.2.1 x1.toNatClampNeg (-1 : Int32)), s1.2.2.2.2.2.2.2.2.2.2.2.2.2.2)), rfl, (Option.some.inj hR).symm, by rw [ht]; exact hP5, va_K.moved hW.alike hK, hD5⟩, hS5.F ht⟩) hS5.2.2 dX9_drop_44
    · replace hR := ifp_ hR c4
      refine lv_bipush (v := (-11 : Int32)) hx hb dX9_drop_22 (by decide) ?_
      subst hQe
      exact W.iret (v := (-11 : Int32)) hx hb hr (fun t ht hW => ⟨⟨(-11 : Int32), s1, rfl, (Option.some.inj hR).symm, by rw [ht]; exact hP1, va_K.moved hW.alike hK, hD1⟩, hS1.F ht⟩) hS1.2.2 dX9_drop_24
  · replace hR := ifp_ hR c2
    refine lv_iconst (v := (-1 : Int32)) hx hb dX9_drop_7 (by decide) ?_
    subst hQe
    exact W.iret (v := (-1 : Int32)) hx hb hr (fun t ht hW => ⟨⟨(-1 : Int32), s1, rfl, (Option.some.inj hR).symm, by rw [ht]; exact hP1, va_K.moved hW.alike hK, hD1⟩, hS1.F ht⟩) hS1.2.2 dX9_drop_8
def rr_X9_sheet (fu : Nat) (x1 : Int32) (x2 : Int32) (x3 : Int32) (s1 : ZT_9) : Option (Int32 × ZT_9) := (rr_X9_isSheet fu x1).bind (fun q1 => (if q1 = (0 : Int32) then some ((-1 : Int32), s1) else (rr_X9_isLane fu x2).bind (fun q3 => (if q3 = (0 : Int32) then some ((-1 : Int32), s1) else (if x3 ≤ (24 : Int32) then (if (0 : Int32) ≤ x3 then (rr_X5_lay fu x1 x2 x3 s1.2.2.2.2.2.2.2.2.2.2.2.2.2).bind (fun q7 => some (x3, (s1.1, s1.2.1, s1.2.2.1, s1.2.2.2.1, s1.2.2.2.2.1, s1.2.2.2.2.2.1, s1.2.2.2.2.2.2.1, s1.2.2.2.2.2.2.2.1, s1.2.2.2.2.2.2.2.2.1, s1.2.2.2.2.2.2.2.2.2.1, s1.2.2.2.2.2.2.2.2.2.2.1, s1.2.2.2.2.2.2.2.2.2.2.2.1, s1.2.2.2.2.2.2.2.2.2.2.2.2.1, q7))) else some ((-14 : Int32), s1)) else some ((-1 : Int32), s1))))))
set_option maxHeartbeats 4000000 in
set_option maxRecDepth 100000 in
theorem cc_X9_sheet (l : Launch) (dC : Nat → ClassId) (dI : Nat → Nat → Nat) (fu : Nat) (a1 : Nat → Nat) (k1 : Nat → ClassId) (sz : Nat) (x1 : Int32) (x2 : Int32) (x3 : Int32) (s1 : ZT_9) (res : Int32 × ZT_9) (hR : rr_X9_sheet fu x1 x2 x3 s1 = some res) : Met l yX9_sheet wsX9_sheet ({ frames := 2, cells := 0, slots := 0, locals := 42 } : Room) (PcF [.ref (a1 0), .int x1, .int x2, .int x3] sz (dC, dI) (zc_9 a1 k1 s1) (zt_9 k1)) (va_Qi (fun (r : Int32) (u : ZT_9) => res = (r, u)) (fun u t => at3_ (dC, dI) (zc_9 a1 k1 u) (zt_9 k1) (va_A (zc_9 a1 k1 s1) sz) t) (va_A (zc_9 a1 k1 s1) sz)) 0 0 (va_A (zc_9 a1 k1 s1) sz) := by
  refine Met.ofW (cc := cX9_sheet) (maxL := 4) (ret := (some .int)) (by decide) rfl ?_
  intro p e s m args below meth c s₁ B hml hv
  obtain ⟨hav, hsz, hP, hK, hD0⟩ := hv
  have hx := B.exec
  have hb := B.bytes
  have hr := B.returns
  have hts := atoms_spec (ws := wsX9_sheet) B.pre
  have hown : s.vm.findClass RX9 = some m.cls := findClass_of_methodNamed B.named
  have hlocks := B.notSynchronized
  have hin9 : ∀ w ∈ wsX90, w ∈ wsX9_sheet := fun w h => List.mem_cons_of_mem _ (List.mem_append_left _ (List.mem_append_right _ h))
  subst hsz
  have hD := hD0.self (sz := s.heap.size)
  clear hD0
  generalize hAe : va_A (zc_9 a1 k1 s1) s.heap.size = A at hD ⊢
  have hA : ∀ q : Nat, s.heap.size ≤ q → A q := fun q h => by rw [← hAe]; exact Or.inr h
  have hS : va_S A s.heap s.heap [] := va_S.rf
  generalize hQe : MQ below _ args s 0 0 A = Q
  rw [show entryFrame m args 4 = F0 m 0 ((lg_sl ([.ref (a1 0), .int x1, .int x2, .int x3]) ++ List.replicate (4 - (lg_sl ([.ref (a1 0), .int x1, .int x2, .int x3])).length) Slot.unset).toArray) [] from by rw [hav]; exact lg_entry_eq m _ _]
  have hl := lv_entry ([.ref (a1 0), .int x1, .int x2, .int x3]) (n := 4) (Nat.le_of_ble_eq_true rfl)
  generalize (lg_sl ([.ref (a1 0), .int x1, .int x2, .int x3]) ++ List.replicate (4 - (lg_sl ([.ref (a1 0), .int x1, .int x2, .int x3])).length) Slot.unset).toArray = ls at hl ⊢
  have hl : lv_has ls 4 [(0, .ref (a1 0)), (1, .int x1), (2, .int x2), (3, .int x3)] := hl
  unfold rr_X9_sheet at hR
  refine lv_iload_n hx hb dX9_sheet_0 rfl (lv_at hl 1 rfl) ?_
  have hR0 := ob_ok hR
  clear hR
  obtain ⟨q1, hq1, hR⟩ := hR0
  refine va_calli (va_runS (As := [.int x1]) (rest := []) ⟨hx, hb, hml, hown, hts⟩ (cc_X9_isSheet l dC dI fu s.heap.size x1 q1 hq1) (va_cwS 1 hts gX9_sheet_X9_isSheet rfl rfl rfl (by decide +kernel) ⟨Nat.le_of_ble_eq_true rfl, Nat.le_of_ble_eq_true rfl⟩) (pf_s (nil_K hK) nil_P (nil_D (A := A))) rfl rfl hl.1 rfl (lv_room (Nat.le_of_ble_eq_true rfl)) dX9_sheet_1 ⟨Nat.le_refl _, Nat.le_refl _⟩) hS (fun q _ h => (fr_none hS hA) q h) (fr_none hS hA) (fun r1 v1 t1 H1 locs1 ht1 hvm1 hw1 hB1 hz1 hk1 hS1 => ?_)
  subst hw1
  have hP1 := jn_none hP hk1
  have hD1 := hD
  have hP1 : va_P (dC, dI) vwCl (zc_9 a1 k1 s1) H1 := hP1
  have hD1 : va_D A (zc_9 a1 k1 s1) := hD1
  clear hP hD hS hB1 hk1 hvm1 hz1 ht1
  refine lv_if_eq (tgt := 20) hx hb dX9_sheet_4 (by decide) (fun c2 => ?_) (fun c2 => ?_)
  · replace hR := ifp_ hR c2
    refine lv_iconst (v := (-1 : Int32)) hx hb dX9_sheet_20 (by decide) ?_
    subst hQe
    exact W.iret (v := (-1 : Int32)) hx hb hr (fun t ht hW => ⟨⟨(-1 : Int32), s1, rfl, (Option.some.inj hR).symm, by rw [ht]; exact hP1, va_K.moved hW.alike hK, hD1⟩, hS1.F ht⟩) hS1.2.2 dX9_sheet_21
  · replace hR := ifn_ hR c2
    refine lv_iload_n hx hb dX9_sheet_7 rfl (lv_at hl 2 rfl) ?_
    have hR0 := ob_ok hR
    clear hR
    obtain ⟨q3, hq3, hR⟩ := hR0
    refine va_calli (va_runS (As := [.int x2]) (rest := []) ⟨hx, hb, hml, hown, hts⟩ (cc_X9_isLane l dC dI fu H1.size x2 q3 hq3) (va_cwS 1 hts gX9_sheet_X9_isLane rfl rfl rfl (by decide +kernel) ⟨Nat.le_of_ble_eq_true rfl, Nat.le_of_ble_eq_true rfl⟩) (pf_s (nil_K hK) nil_P (nil_D (A := A))) rfl rfl hl.1 rfl (lv_room (Nat.le_of_ble_eq_true rfl)) dX9_sheet_8 ⟨Nat.le_refl _, Nat.le_refl _⟩) hS1 (fun q _ h => (fr_none hS1 hA) q h) (fr_none hS1 hA) (fun r3 v3 t3 H3 locs3 ht3 hvm3 hw3 hB3 hz3 hk3 hS3 => ?_)
    subst hw3
    have hP3 := jn_none hP1 hk3
    have hD3 := hD1
    have hP3 : va_P (dC, dI) vwCl (zc_9 a1 k1 s1) H3 := hP3
    have hD3 : va_D A (zc_9 a1 k1 s1) := hD3
    clear hP1 hD1 hS1 hB3 hk3 hvm3 hz3 ht3
    refine lv_if_eq (tgt := 20) hx hb dX9_sheet_11 (by decide) (fun c4 => ?_) (fun c4 => ?_)
    · replace hR := ifp_ hR c4
      refine lv_iconst (v := (-1 : Int32)) hx hb dX9_sheet_20 (by decide) ?_
      subst hQe
      exact W.iret (v := (-1 : Int32)) hx hb hr (fun t ht hW => ⟨⟨(-1 : Int32), s1, rfl, (Option.some.inj hR).symm, by rw [ht]; exact hP3, va_K.moved hW.alike hK, hD3⟩, hS3.F ht⟩) hS3.2.2 dX9_sheet_21
    · replace hR := ifn_ hR c4
      refine lv_iload_n hx hb dX9_sheet_14 rfl (lv_at hl 3 rfl) ?_
      refine lv_bipush (v := (24 : Int32)) hx hb dX9_sheet_15 (by decide) ?_
      refine lv_icmp_le (tgt := 22) hx hb dX9_sheet_17 (by decide) (fun c5 => ?_) (fun c5 => ?_)
      · replace hR := ifp_ hR c5
        refine lv_iload_n hx hb dX9_sheet_22 rfl (lv_at hl 3 rfl) ?_
        refine lv_if_ge (tgt := 29) hx hb dX9_sheet_23 (by decide) (fun c6 => ?_) (fun c6 => ?_)
        · replace hR := ifp_ hR c6
          refine lv_aload_n hx hb dX9_sheet_29 rfl (lv_at hl 0 rfl) ?_
          refine va_get (D := (dC, dI)) (ci := 9) (v := .ref (a1 66)) (C := RX9) (T := TX9) (N := 14) hx hb hts hin9 hown hK hP3 0 rfl rfl 13 (by decide) (hts (.fieldLink RX9 83 "OldestCoins" "sheets" "LOldestCoins$Sheets;") (List.mem_of_getElem? (i := 1) rfl)) (fun _ h9 => h9) rfl dX9_sheet_30 ?_
          refine lv_iload_n hx hb dX9_sheet_33 rfl (lv_at hl 1 rfl) ?_
          refine lv_iload_n hx hb dX9_sheet_34 rfl (lv_at hl 2 rfl) ?_
          refine lv_iload_n hx hb dX9_sheet_35 rfl (lv_at hl 3 rfl) ?_
          have hR0 := ob_ok hR
          clear hR
          obtain ⟨q7, hq7, hR⟩ := hR0
          refine va_callv (va_runV (As := [.int x1, .int x2, .int x3]) (rest := []) ⟨hx, hb, hml, hown, hts⟩ (cc_X5_lay l dC dI fu (sh_ a1 66) (sh_ k1 66) H3.size x1 x2 x3 s1.2.2.2.2.2.2.2.2.2.2.2.2.2 q7 hq7) (cwV 3 hts gX9_sheet_X5_lay rfl rfl rfl (by decide +kernel) ⟨Nat.le_of_ble_eq_true rfl, Nat.le_of_ble_eq_true rfl⟩) (pf_v (hK.sub (tys' := zt_5 (sh_ k1 66)) [48, 49, 50] rfl) (sub_P (sb_9__0c66 a1 k1 s1) hP3) (sub_D (sb_9__0c66 a1 k1 s1) hD3) 5 0 rfl rfl rfl) rfl rfl hl.1 rfl (lv_room (Nat.le_of_ble_eq_true rfl)) dX9_sheet_36 ⟨Nat.le_refl _, Nat.le_refl _⟩) hS3 (fun q _ h => (sub_F (sb_9__0c66 a1 k1 s1) hD3 hS3 hA) q h) (sub_F (sb_9__0c66 a1 k1 s1) hD3 hS3 hA) (fun v7 t7 H7 locs7 ht7 hvm7 hw7 hB7 hz7 hk7 hS7 => ?_)
          subst hw7
          obtain ⟨hP7, hD7⟩ := jn_sub (sb_9__0c66 a1 k1 s1) (jo_9__0c66__0 a1 k1 s1 q7) rfl hP3 hD3 hk7 ht7 hB7
          have hP7 : va_P (dC, dI) vwCl (zc_9 a1 k1 (s1.1, s1.2.1, s1.2.2.1, s1.2.2.2.1, s1.2.2.2.2.1, s1.2.2.2.2.2.1, s1.2.2.2.2.2.2.1, s1.2.2.2.2.2.2.2.1, s1.2.2.2.2.2.2.2.2.1, s1.2.2.2.2.2.2.2.2.2.1, s1.2.2.2.2.2.2.2.2.2.2.1, s1.2.2.2.2.2.2.2.2.2.2.2.1, s1.2.2.2.2.2.2.2.2.2.2.2.2.1, q7)) H7 := hP7
          have hD7 : va_D A (zc_9 a1 k1 (s1.1, s1.2.1, s1.2.2.1, s1.2.2.2.1, s1.2.2.2.2.1, s1.2.2.2.2.2.1, s1.2.2.2.2.2.2.1, s1.2.2.2.2.2.2.2.1, s1.2.2.2.2.2.2.2.2.1, s1.2.2.2.2.2.2.2.2.2.1, s1.2.2.2.2.2.2.2.2.2.2.1, s1.2.2.2.2.2.2.2.2.2.2.2.1, s1.2.2.2.2.2.2.2.2.2.2.2.2.1, q7)) := hD7
          clear hP3 hD3 hS3 hB7 hk7 hvm7 hz7 ht7
          refine lv_iload_n hx hb dX9_sheet_39 rfl (lv_at hl 3 rfl) ?_
          subst hQe
          exact W.iret (v := x3) hx hb hr (fun t ht hW => ⟨⟨x3, (s1.1, s1.2.1, s1.2.2.1, s1.2.2.2.1, s1.2.2.2.2.1, s1.2.2.2.2.2.1, s1.2.2.2.2.2.2.1, s1.2.2.2.2.2.2.2.1, s1.2.2.2.2.2.2.2.2.1, s1.2.2.2.2.2.2.2.2.2.1, s1.2.2.2.2.2.2.2.2.2.2.1, s1.2.2.2.2.2.2.2.2.2.2.2.1, s1.2.2.2.2.2.2.2.2.2.2.2.2.1, q7), rfl, (Option.some.inj hR).symm, by rw [ht]; exact hP7, va_K.moved hW.alike hK, hD7⟩, hS7.F ht⟩) hS7.2.2 dX9_sheet_40
        · replace hR := ifn_ hR c6
          refine lv_bipush (v := (-14 : Int32)) hx hb dX9_sheet_26 (by decide) ?_
          subst hQe
          exact W.iret (v := (-14 : Int32)) hx hb hr (fun t ht hW => ⟨⟨(-14 : Int32), s1, rfl, (Option.some.inj hR).symm, by rw [ht]; exact hP3, va_K.moved hW.alike hK, hD3⟩, hS3.F ht⟩) hS3.2.2 dX9_sheet_28
      · replace hR := ifn_ hR c5
        refine lv_iconst (v := (-1 : Int32)) hx hb dX9_sheet_20 (by decide) ?_
        subst hQe
        exact W.iret (v := (-1 : Int32)) hx hb hr (fun t ht hW => ⟨⟨(-1 : Int32), s1, rfl, (Option.some.inj hR).symm, by rw [ht]; exact hP3, va_K.moved hW.alike hK, hD3⟩, hS3.F ht⟩) hS3.2.2 dX9_sheet_21
def rr_X9_isSum (fu : Nat) (x0 : Int32) : Option (Int32) := (rr_X9_isWithin fu x0 (1 : Int32) (999 : Int32)).bind (fun q1 => zk_ q1 (some q1))
set_option maxHeartbeats 4000000 in
set_option maxRecDepth 100000 in
theorem cc_X9_isSum (l : Launch) (dC : Nat → ClassId) (dI : Nat → Nat → Nat) (fu : Nat) (sz : Nat) (x0 : Int32) (res : Int32) (hR : rr_X9_isSum fu x0 = some res) : Met l yX9_isSum wsX9_isSum ({ frames := 1, cells := 0, slots := 0, locals := 22 } : Room) (PcF [.int x0] sz (dC, dI) (([] : va_W)) ([])) (va_Qi (fun (r : Int32) (u : Unit) => res = r) (fun u t => at3_ (dC, dI) (([] : va_W)) ([]) (va_A (([] : va_W)) sz) t) (va_A (([] : va_W)) sz)) 0 0 (va_A (([] : va_W)) sz) := by
  refine Met.ofW (cc := cX9_isSum) (maxL := 1) (ret := (some .boolean)) (by decide) rfl ?_
  intro p e s m args below meth c s₁ B hml hv
  obtain ⟨hav, hsz, hP, hK, hD0⟩ := hv
  have hx := B.exec
  have hb := B.bytes
  have hr := B.returns
  have hts := atoms_spec (ws := wsX9_isSum) B.pre
  have hown : s.vm.findClass RX9 = some m.cls := findClass_of_methodNamed B.named
  have hlocks := B.notSynchronized
  subst hsz
  have hD := hD0.self (sz := s.heap.size)
  clear hD0
  generalize hAe : va_A (([] : va_W)) s.heap.size = A at hD ⊢
  have hA : ∀ q : Nat, s.heap.size ≤ q → A q := fun q h => by rw [← hAe]; exact Or.inr h
  have hS : va_S A s.heap s.heap [] := va_S.rf
  generalize hQe : MQ below _ args s 0 0 A = Q
  rw [show entryFrame m args 1 = F0 m 0 ((lg_sl ([.int x0]) ++ List.replicate (1 - (lg_sl ([.int x0])).length) Slot.unset).toArray) [] from by rw [hav]; exact lg_entry_eq m _ _]
  have hl := lv_entry ([.int x0]) (n := 1) (Nat.le_of_ble_eq_true rfl)
  generalize (lg_sl ([.int x0]) ++ List.replicate (1 - (lg_sl ([.int x0])).length) Slot.unset).toArray = ls at hl ⊢
  have hl : lv_has ls 1 [(0, .int x0)] := hl
  unfold rr_X9_isSum at hR
  refine lv_iload_n hx hb dX9_isSum_0 rfl (lv_at hl 0 rfl) ?_
  refine lv_iconst (v := (1 : Int32)) hx hb dX9_isSum_1 (by decide) ?_
  refine lv_sipush (v := (999 : Int32)) hx hb dX9_isSum_2 (by decide) ?_
  have hR0 := ob_ok hR
  clear hR
  obtain ⟨q1, hq1, hR⟩ := hR0
  refine va_calli (va_runS (As := [.int x0, .int (1 : Int32), .int (999 : Int32)]) (rest := []) ⟨hx, hb, hml, hown, hts⟩ (cc_X9_isWithin l dC dI fu s.heap.size x0 (1 : Int32) (999 : Int32) q1 hq1) (va_cwS 3 hts gX9_isSum_X9_isWithin rfl rfl rfl (by decide +kernel) ⟨Nat.le_of_ble_eq_true rfl, Nat.le_of_ble_eq_true rfl⟩) (pf_s (nil_K hK) nil_P (nil_D (A := A))) rfl rfl hl.1 rfl (lv_room (Nat.le_of_ble_eq_true rfl)) dX9_isSum_5 ⟨Nat.le_refl _, Nat.le_refl _⟩) hS (fun q _ h => (fr_none hS hA) q h) (fr_none hS hA) (fun r1 v1 t1 H1 locs1 ht1 hvm1 hw1 hB1 hz1 hk1 hS1 => ?_)
  subst hw1
  have hP1 := jn_none hP hk1
  have hD1 := hD
  have hP1 : va_P (dC, dI) vwCl (([] : va_W)) H1 := hP1
  have hD1 : va_D A (([] : va_W)) := hD1
  clear hP hD hS hB1 hk1 hvm1 hz1 ht1
  have z2 := (zk_ok hR).1
  replace hR := (zk_ok hR).2
  subst hQe
  exact W.zret (ty := .boolean) (v := q1) hx hb hr (zk_nar z2) (fun t ht hW => ⟨⟨q1, (), rfl, (Option.some.inj hR).symm, by rw [ht]; exact hP1, va_K.moved hW.alike hK, hD1⟩, hS1.F ht⟩) hS1.2.2 dX9_isSum_8
def rr_X9_seen_93_b (fu : Nat) (rec93 : Int32 → Int32 → Int32 → Int32 → Int32 → Int32 → Int32 → Int32 → ZT_9 → Option (Int32 × ZT_9)) (y1 : Int32) (y3 : Int32) (y4 : Int32) (y5 : Int32) (y6 : Int32) (y7 : Int32) (y8 : Int32) (y10 : Int32) (u1 : ZT_9) : Option (Int32 × ZT_9) := (if y4 ≤ y10 then (rr_X3_countOrders fu y4 y5 y6 y7 u1.2.2.2.2.2.2.2.2.2.1).bind (fun q20 => (if q20.1 = (0 : Int32) then some ((-4 : Int32), (u1.1, u1.2.1, u1.2.2.1, u1.2.2.2.1, u1.2.2.2.2.1, u1.2.2.2.2.2.1, u1.2.2.2.2.2.2.1, u1.2.2.2.2.2.2.2.1, u1.2.2.2.2.2.2.2.2.1, q20.2, u1.2.2.2.2.2.2.2.2.2.2)) else (if y8 = (-1 : Int32) then some (q20.1, (u1.1, u1.2.1, u1.2.2.1, u1.2.2.2.1, u1.2.2.2.2.1, u1.2.2.2.2.2.1, u1.2.2.2.2.2.2.1, u1.2.2.2.2.2.2.2.1, u1.2.2.2.2.2.2.2.2.1, q20.2, u1.2.2.2.2.2.2.2.2.2.2)) else ck_ y8 4 (some ((q20.2.2.1 y8.toNatClampNeg), (u1.1, u1.2.1, u1.2.2.1, u1.2.2.2.1, u1.2.2.2.2.1, u1.2.2.2.2.2.1, u1.2.2.2.2.2.2.1, u1.2.2.2.2.2.2.2.1, u1.2.2.2.2.2.2.2.2.1, q20.2, u1.2.2.2.2.2.2.2.2.2.2)))))) else (rr_X5_read fu y1 (y3 + y10) u1.2.2.2.2.2.2.2.2.2.2.2.2.2).bind (fun q25 => (if (lg_cmp q25 (1 : Int64)) < (0 : Int32) then some ((-2 : Int32), u1) else (if (lg_cmp q25 (99 : Int64)) ≤ (0 : Int32) then lt_ (α := Int32) q25.toInt32 (fun z29 => ck_ y10 4 (lt_ (α := Int32) (y10 + (1 : Int32)) (fun z31 => rec93 y1 y3 y4 y5 y6 y7 y8 z31 (u1.1, u1.2.1, u1.2.2.1, u1.2.2.2.1, u1.2.2.2.2.1, u1.2.2.2.2.2.1, u1.2.2.2.2.2.2.1, u1.2.2.2.2.2.2.2.1, u1.2.2.2.2.2.2.2.2.1, ((upd u1.2.2.2.2.2.2.2.2.2.1.1 y10.toNatClampNeg z29), u1.2.2.2.2.2.2.2.2.2.1.2), u1.2.2.2.2.2.2.2.2.2.2)))) else some ((-2 : Int32), u1)))))
def rr_X9_seen_93 (fu : Nat) (n : Nat) : Int32 → Int32 → Int32 → Int32 → Int32 → Int32 → Int32 → Int32 → ZT_9 → Option (Int32 × ZT_9) := lp_ (fun _ _ _ _ _ _ _ _ _ => none) (rr_X9_seen_93_b fu) n
def rr_X9_seen (fu : Nat) (x1 : Int32) (x2 : Int32) (x3 : Int32) (x4 : Int32) (x5 : Int32) (x6 : Int32) (x7 : Int32) (x8 : Int32) (s1 : ZT_9) : Option (Int32 × ZT_9) := (rr_X9_isSheet fu x1).bind (fun q1 => (if q1 = (0 : Int32) then some ((-1 : Int32), s1) else (rr_X9_isLane fu x2).bind (fun q3 => (if q3 = (0 : Int32) then some ((-1 : Int32), s1) else (rr_X9_isWithin fu x4 (1 : Int32) (4 : Int32)).bind (fun q5 => (if q5 = (0 : Int32) then some ((-1 : Int32), s1) else (rr_X9_isSum fu x5).bind (fun q7 => (if q7 = (0 : Int32) then some ((-1 : Int32), s1) else (rr_X9_isWithin fu x6 (1 : Int32) (4 : Int32)).bind (fun q9 => (if q9 = (0 : Int32) then some ((-1 : Int32), s1) else (rr_X9_isWithin fu x7 (0 : Int32) (99 : Int32)).bind (fun q11 => (if q11 = (0 : Int32) then some ((-1 : Int32), s1) else (rr_X9_isWithin fu x8 (-1 : Int32) (x4 - (1 : Int32))).bind (fun q13 => (if q13 = (0 : Int32) then some ((-1 : Int32), s1) else (rr_X5_refusal fu x1 x2 x3 x4 s1.2.2.2.2.2.2.2.2.2.2.2.2.2).bind (fun q15 => (if q15 = (0 : Int32) then rr_X9_seen_93 fu fu x1 x3 x4 x5 x6 x7 x8 (0 : Int32) s1 else some (q15, s1)))))))))))))))))
set_option maxRecDepth 100000 in
theorem sb_9__0c50 (a1 : Nat → Nat) (k1 : Nat → ClassId) (s1 : ZT_9) : List.Perm (zc_9 a1 k1 s1) ((zc_3 (sh_ a1 50) (sh_ k1 50) s1.2.2.2.2.2.2.2.2.2.1) ++ ([(a1 0, .inr (9, [.ref (a1 1), .ref (a1 16), .int s1.2.2.1, .ref (a1 31), .int s1.2.2.2.2.1, .ref (a1 37), .ref (a1 43), .ref (a1 45), .ref (a1 47), .ref (a1 50), .ref (a1 54), .ref (a1 56), .ref (a1 62), .ref (a1 66)]))] ++ (zc_8 (sh_ a1 1) (sh_ k1 1) s1.1 ++ (zc_8 (sh_ a1 16) (sh_ k1 16) s1.2.1 ++ (zc_4 (sh_ a1 31) (sh_ k1 31) s1.2.2.2.1 ++ (zc_4 (sh_ a1 37) (sh_ k1 37) s1.2.2.2.2.2.1 ++ (zc_1 (sh_ a1 43) (sh_ k1 43) s1.2.2.2.2.2.2.1 ++ (zc_1 (sh_ a1 45) (sh_ k1 45) s1.2.2.2.2.2.2.2.1 ++ (zc_7 (sh_ a1 47) (sh_ k1 47) s1.2.2.2.2.2.2.2.2.1 ++ (([] : va_W) ++ (zc_6 (sh_ a1 54) (sh_ k1 54) s1.2.2.2.2.2.2.2.2.2.2.1 ++ (zc_2 (sh_ a1 56) (sh_ k1 56) 10 s1.2.2.2.2.2.2.2.2.2.2.2.1 ++ (zc_0 (sh_ a1 62) (sh_ k1 62) 24 s1.2.2.2.2.2.2.2.2.2.2.2.2.1 ++ zc_5 (sh_ a1 66) (sh_ k1 66) s1.2.2.2.2.2.2.2.2.2.2.2.2.2))))))))))))) := (pu_r ([(a1 0, .inr (9, [.ref (a1 1), .ref (a1 16), .int s1.2.2.1, .ref (a1 31), .int s1.2.2.2.2.1, .ref (a1 37), .ref (a1 43), .ref (a1 45), .ref (a1 47), .ref (a1 50), .ref (a1 54), .ref (a1 56), .ref (a1 62), .ref (a1 66)]))]) (pu_r (zc_8 (sh_ a1 1) (sh_ k1 1) s1.1) (pu_r (zc_8 (sh_ a1 16) (sh_ k1 16) s1.2.1) (pu_r (zc_4 (sh_ a1 31) (sh_ k1 31) s1.2.2.2.1) (pu_r (zc_4 (sh_ a1 37) (sh_ k1 37) s1.2.2.2.2.2.1) (pu_r (zc_1 (sh_ a1 43) (sh_ k1 43) s1.2.2.2.2.2.2.1) (pu_r (zc_1 (sh_ a1 45) (sh_ k1 45) s1.2.2.2.2.2.2.2.1) (pu_r (zc_7 (sh_ a1 47) (sh_ k1 47) s1.2.2.2.2.2.2.2.2.1) (pu_l ((zc_6 (sh_ a1 54) (sh_ k1 54) s1.2.2.2.2.2.2.2.2.2.2.1 ++ (zc_2 (sh_ a1 56) (sh_ k1 56) 10 s1.2.2.2.2.2.2.2.2.2.2.2.1 ++ (zc_0 (sh_ a1 62) (sh_ k1 62) 24 s1.2.2.2.2.2.2.2.2.2.2.2.2.1 ++ zc_5 (sh_ a1 66) (sh_ k1 66) s1.2.2.2.2.2.2.2.2.2.2.2.2.2)))) (pu_1 (zc_3 (sh_ a1 50) (sh_ k1 50) s1.2.2.2.2.2.2.2.2.2.1)))))))))))
set_option maxRecDepth 100000 in
theorem jo_9__0c50__0 (a1 : Nat → Nat) (k1 : Nat → ClassId) (s1 : ZT_9) (u1 : ZT_3) : List.Perm (zc_9 a1 k1 (s1.1, s1.2.1, s1.2.2.1, s1.2.2.2.1, s1.2.2.2.2.1, s1.2.2.2.2.2.1, s1.2.2.2.2.2.2.1, s1.2.2.2.2.2.2.2.1, s1.2.2.2.2.2.2.2.2.1, u1, s1.2.2.2.2.2.2.2.2.2.2)) ((zc_3 (sh_ a1 50) (sh_ k1 50) u1) ++ ([(a1 0, .inr (9, [.ref (a1 1), .ref (a1 16), .int s1.2.2.1, .ref (a1 31), .int s1.2.2.2.2.1, .ref (a1 37), .ref (a1 43), .ref (a1 45), .ref (a1 47), .ref (a1 50), .ref (a1 54), .ref (a1 56), .ref (a1 62), .ref (a1 66)]))] ++ (zc_8 (sh_ a1 1) (sh_ k1 1) s1.1 ++ (zc_8 (sh_ a1 16) (sh_ k1 16) s1.2.1 ++ (zc_4 (sh_ a1 31) (sh_ k1 31) s1.2.2.2.1 ++ (zc_4 (sh_ a1 37) (sh_ k1 37) s1.2.2.2.2.2.1 ++ (zc_1 (sh_ a1 43) (sh_ k1 43) s1.2.2.2.2.2.2.1 ++ (zc_1 (sh_ a1 45) (sh_ k1 45) s1.2.2.2.2.2.2.2.1 ++ (zc_7 (sh_ a1 47) (sh_ k1 47) s1.2.2.2.2.2.2.2.2.1 ++ (([] : va_W) ++ (zc_6 (sh_ a1 54) (sh_ k1 54) s1.2.2.2.2.2.2.2.2.2.2.1 ++ (zc_2 (sh_ a1 56) (sh_ k1 56) 10 s1.2.2.2.2.2.2.2.2.2.2.2.1 ++ (zc_0 (sh_ a1 62) (sh_ k1 62) 24 s1.2.2.2.2.2.2.2.2.2.2.2.2.1 ++ zc_5 (sh_ a1 66) (sh_ k1 66) s1.2.2.2.2.2.2.2.2.2.2.2.2.2))))))))))))) := (pu_r ([(a1 0, .inr (9, [.ref (a1 1), .ref (a1 16), .int s1.2.2.1, .ref (a1 31), .int s1.2.2.2.2.1, .ref (a1 37), .ref (a1 43), .ref (a1 45), .ref (a1 47), .ref (a1 50), .ref (a1 54), .ref (a1 56), .ref (a1 62), .ref (a1 66)]))]) (pu_r (zc_8 (sh_ a1 1) (sh_ k1 1) s1.1) (pu_r (zc_8 (sh_ a1 16) (sh_ k1 16) s1.2.1) (pu_r (zc_4 (sh_ a1 31) (sh_ k1 31) s1.2.2.2.1) (pu_r (zc_4 (sh_ a1 37) (sh_ k1 37) s1.2.2.2.2.2.1) (pu_r (zc_1 (sh_ a1 43) (sh_ k1 43) s1.2.2.2.2.2.2.1) (pu_r (zc_1 (sh_ a1 45) (sh_ k1 45) s1.2.2.2.2.2.2.2.1) (pu_r (zc_7 (sh_ a1 47) (sh_ k1 47) s1.2.2.2.2.2.2.2.2.1) (pu_l ((zc_6 (sh_ a1 54) (sh_ k1 54) s1.2.2.2.2.2.2.2.2.2.2.1 ++ (zc_2 (sh_ a1 56) (sh_ k1 56) 10 s1.2.2.2.2.2.2.2.2.2.2.2.1 ++ (zc_0 (sh_ a1 62) (sh_ k1 62) 24 s1.2.2.2.2.2.2.2.2.2.2.2.2.1 ++ zc_5 (sh_ a1 66) (sh_ k1 66) s1.2.2.2.2.2.2.2.2.2.2.2.2.2)))) (pu_1 (zc_3 (sh_ a1 50) (sh_ k1 50) u1)))))))))))
set_option maxHeartbeats 4000000 in
set_option maxRecDepth 100000 in
theorem cc_X9_seen (l : Launch) (dC : Nat → ClassId) (dI : Nat → Nat → Nat) (fu : Nat) (a1 : Nat → Nat) (k1 : Nat → ClassId) (sz : Nat) (x1 : Int32) (x2 : Int32) (x3 : Int32) (x4 : Int32) (x5 : Int32) (x6 : Int32) (x7 : Int32) (x8 : Int32) (s1 : ZT_9) (res : Int32 × ZT_9) (hR : rr_X9_seen fu x1 x2 x3 x4 x5 x6 x7 x8 s1 = some res) : Met l yX9_seen wsX9_seen ({ frames := 9, cells := 0, slots := 0, locals := 208 } : Room) (PcF [.ref (a1 0), .int x1, .int x2, .int x3, .int x4, .int x5, .int x6, .int x7, .int x8] sz (dC, dI) (zc_9 a1 k1 s1) (zt_9 k1)) (va_Qi (fun (r : Int32) (u : ZT_9) => res = (r, u)) (fun u t => at3_ (dC, dI) (zc_9 a1 k1 u) (zt_9 k1) (va_A (zc_9 a1 k1 s1) sz) t) (va_A (zc_9 a1 k1 s1) sz)) 0 0 (va_A (zc_9 a1 k1 s1) sz) := by
  refine Met.ofW (cc := cX9_seen) (maxL := 13) (ret := (some .int)) (by decide) rfl ?_
  intro p e s m args below meth c s₁ B hml hv
  obtain ⟨hav, hsz, hP, hK, hD0⟩ := hv
  have hx := B.exec
  have hb := B.bytes
  have hr := B.returns
  have hts := atoms_spec (ws := wsX9_seen) B.pre
  have hown : s.vm.findClass RX9 = some m.cls := findClass_of_methodNamed B.named
  have hlocks := B.notSynchronized
  have hin3 : ∀ w ∈ wsX30, w ∈ wsX9_seen := fun w h => List.mem_cons_of_mem _ (List.mem_append_left _ (List.mem_append_right _ h))
  have hin9 : ∀ w ∈ wsX90, w ∈ wsX9_seen := fun w h => List.mem_cons_of_mem _ (List.mem_append_left _ (List.mem_append_left _ (List.mem_append_right _ h)))
  subst hsz
  have hD := hD0.self (sz := s.heap.size)
  clear hD0
  generalize hAe : va_A (zc_9 a1 k1 s1) s.heap.size = A at hD ⊢
  have hA : ∀ q : Nat, s.heap.size ≤ q → A q := fun q h => by rw [← hAe]; exact Or.inr h
  have hS : va_S A s.heap s.heap [] := va_S.rf
  generalize hQe : MQ below _ args s 0 0 A = Q
  rw [show entryFrame m args 13 = F0 m 0 ((lg_sl ([.ref (a1 0), .int x1, .int x2, .int x3, .int x4, .int x5, .int x6, .int x7, .int x8]) ++ List.replicate (13 - (lg_sl ([.ref (a1 0), .int x1, .int x2, .int x3, .int x4, .int x5, .int x6, .int x7, .int x8])).length) Slot.unset).toArray) [] from by rw [hav]; exact lg_entry_eq m _ _]
  have hl := lv_entry ([.ref (a1 0), .int x1, .int x2, .int x3, .int x4, .int x5, .int x6, .int x7, .int x8]) (n := 13) (Nat.le_of_ble_eq_true rfl)
  generalize (lg_sl ([.ref (a1 0), .int x1, .int x2, .int x3, .int x4, .int x5, .int x6, .int x7, .int x8]) ++ List.replicate (13 - (lg_sl ([.ref (a1 0), .int x1, .int x2, .int x3, .int x4, .int x5, .int x6, .int x7, .int x8])).length) Slot.unset).toArray = ls at hl ⊢
  have hl : lv_has ls 13 [(0, .ref (a1 0)), (1, .int x1), (2, .int x2), (3, .int x3), (4, .int x4), (5, .int x5), (6, .int x6), (7, .int x7), (8, .int x8)] := hl
  have hB93 : ∀ (n : Nat), ∀ (y1 : Int32) (y3 : Int32) (y4 : Int32) (y5 : Int32) (y6 : Int32) (y7 : Int32) (y8 : Int32) (y10 : Int32) (u1 : ZT_9) (H : Heap) (locs : List Loc) (ls : Array Slot), va_P (dC, dI) vwCl (zc_9 a1 k1 u1) H → va_D A (zc_9 a1 k1 u1) → va_S A s.heap H locs → lv_has ls 13 [(0, .ref (a1 0)), (1, .int y1), (3, .int y3), (4, .int y4), (5, .int y5), (6, .int y6), (7, .int y7), (8, .int y8), (10, .int y10)] → rr_X9_seen_93 fu n y1 y3 y4 y5 y6 y7 y8 y10 u1 = some res → W p l e ({ frames := 9, cells := 0, slots := 0, locals := 208 } : Room) s m args below meth c H locs 0 0 Q (F0 m 93 ls []) := by
    intro  n
    induction n with
    | zero => intro y1 y3 y4 y5 y6 y7 y8 y10 u1 H locs ls hP hD hS hl hR; exact absurd hR (by intro h; cases h)
    | succ n ih =>
      intro y1 y3 y4 y5 y6 y7 y8 y10 u1 H locs ls hP hD hS hl hR
      replace hR : rr_X9_seen_93_b fu (rr_X9_seen_93 fu n) y1 y3 y4 y5 y6 y7 y8 y10 u1 = some res := hR
      unfold rr_X9_seen_93_b at hR
      refine lv_iload hx hb dX9_seen_93 (lv_at hl 8 rfl) ?_
      refine lv_iload hx hb dX9_seen_95 (lv_at hl 3 rfl) ?_
      refine lv_icmp_ge (tgt := 152) hx hb dX9_seen_97 (by decide) (fun c19 => ?_) (fun c19 => ?_)
      · replace hR := ifp_ hR c19
        refine lv_aload_n hx hb dX9_seen_152 rfl (lv_at hl 0 rfl) ?_
        refine va_get (D := (dC, dI)) (ci := 9) (v := .ref (a1 50)) (C := RX9) (T := TX9) (N := 14) hx hb hts hin9 hown hK hP 0 rfl rfl 9 (by decide) (hts (.fieldLink RX9 53 "OldestCoins" "guess" "LOldestCoins$Guess;") (List.mem_of_getElem? (i := 3) rfl)) (fun _ h9 => h9) rfl dX9_seen_153 ?_
        refine lv_iload hx hb dX9_seen_156 (lv_at hl 3 rfl) ?_
        refine lv_iload hx hb dX9_seen_158 (lv_at hl 4 rfl) ?_
        refine lv_iload hx hb dX9_seen_160 (lv_at hl 5 rfl) ?_
        refine lv_iload hx hb dX9_seen_162 (lv_at hl 6 rfl) ?_
        have hR0 := ob_ok hR
        clear hR
        obtain ⟨q20, hq20, hR⟩ := hR0
        refine va_calli (va_runV (As := [.int y4, .int y5, .int y6, .int y7]) (rest := []) ⟨hx, hb, hml, hown, hts⟩ (cc_X3_countOrders l dC dI fu (sh_ a1 50) (sh_ k1 50) H.size y4 y5 y6 y7 u1.2.2.2.2.2.2.2.2.2.1 q20 hq20) (cwV 4 hts gX9_seen_X3_countOrders rfl rfl rfl (by decide +kernel) ⟨Nat.le_of_ble_eq_true rfl, Nat.le_of_ble_eq_true rfl⟩) (pf_v (hK.sub (tys' := zt_3 (sh_ k1 50)) [36, 37, 38] rfl) (sub_P (sb_9__0c50 a1 k1 u1) hP) (sub_D (sb_9__0c50 a1 k1 u1) hD) 3 0 rfl rfl rfl) rfl rfl hl.1 rfl (lv_room (Nat.le_of_ble_eq_true rfl)) dX9_seen_164 ⟨Nat.le_refl _, Nat.le_refl _⟩) hS (fun q _ h => (sub_F (sb_9__0c50 a1 k1 u1) hD hS hA) q h) (sub_F (sb_9__0c50 a1 k1 u1) hD hS hA) (fun r20 v20 t20 H20 locs20 ht20 hvm20 hw20 hB20 hz20 hk20 hS20 => ?_)
        obtain rfl : r20 = q20.1 := (congrArg Prod.fst hw20).symm
        obtain rfl : v20 = q20.2 := (congrArg Prod.snd hw20).symm
        obtain ⟨hP20, hD20⟩ := jn_sub (sb_9__0c50 a1 k1 u1) (jo_9__0c50__0 a1 k1 u1 q20.2) rfl hP hD hk20 ht20 hB20
        have hP20 : va_P (dC, dI) vwCl (zc_9 a1 k1 (u1.1, u1.2.1, u1.2.2.1, u1.2.2.2.1, u1.2.2.2.2.1, u1.2.2.2.2.2.1, u1.2.2.2.2.2.2.1, u1.2.2.2.2.2.2.2.1, u1.2.2.2.2.2.2.2.2.1, q20.2, u1.2.2.2.2.2.2.2.2.2.2)) H20 := hP20
        have hD20 : va_D A (zc_9 a1 k1 (u1.1, u1.2.1, u1.2.2.1, u1.2.2.2.1, u1.2.2.2.2.1, u1.2.2.2.2.2.1, u1.2.2.2.2.2.2.1, u1.2.2.2.2.2.2.2.1, u1.2.2.2.2.2.2.2.2.1, q20.2, u1.2.2.2.2.2.2.2.2.2.2)) := hD20
        clear hP hD hS hB20 hk20 hvm20 hz20 ht20
        refine lv_istore (lv' := [(10, .int q20.1), (0, .ref (a1 0)), (1, .int y1), (3, .int y3), (4, .int y4), (5, .int y5), (6, .int y6), (7, .int y7), (8, .int y8)]) hx hb dX9_seen_167 hl (by decide) rfl (fun ls21 hl21 => ?_)
        refine lv_iload hx hb dX9_seen_169 (lv_at hl21 0 rfl) ?_
        refine lv_if_ne (tgt := 177) hx hb dX9_seen_171 (by decide) (fun c22 => ?_) (fun c22 => ?_)
        · replace hR := ifn_ hR c22
          refine lv_iload hx hb dX9_seen_177 (lv_at hl21 8 rfl) ?_
          refine lv_iconst (v := (-1 : Int32)) hx hb dX9_seen_179 (by decide) ?_
          refine lv_icmp_ne (tgt := 188) hx hb dX9_seen_180 (by decide) (fun c23 => ?_) (fun c23 => ?_)
          · replace hR := ifn_ hR c23
            refine lv_aload_n hx hb dX9_seen_188 rfl (lv_at hl21 1 rfl) ?_
            refine va_get (D := (dC, dI)) (ci := 9) (v := .ref (a1 50)) (C := RX9) (T := TX9) (N := 14) hx hb hts hin9 hown hK hP20 0 rfl rfl 9 (by decide) (hts (.fieldLink RX9 53 "OldestCoins" "guess" "LOldestCoins$Guess;") (List.mem_of_getElem? (i := 3) rfl)) (fun _ h9 => h9) rfl dX9_seen_189 ?_
            refine va_get (D := (dC, dI)) (ci := 3) (v := .ref (a1 52)) (C := RX3) (T := TX3) (N := 8) hx hb hts hin3 hown hK hP20 50 rfl rfl 1 (by decide) (hts (.fieldLink RX9 306 "OldestCoins$Guess" "first" "[I") (List.mem_of_getElem? (i := 5) rfl)) (fun _ h9 => h9) rfl dX9_seen_192 ?_
            refine lv_iload hx hb dX9_seen_195 (lv_at hl21 8 rfl) ?_
            have i24 := (ck_ok hR).1
            replace hR := (ck_ok hR).2
            refine va_iald (f := q20.2.2.1) hx hb hK hP20 52 37 rfl rfl i24 dX9_seen_197 ?_
            subst hQe
            exact W.iret (v := (q20.2.2.1 y8.toNatClampNeg)) hx hb hr (fun t ht hW => ⟨⟨(q20.2.2.1 y8.toNatClampNeg), (u1.1, u1.2.1, u1.2.2.1, u1.2.2.2.1, u1.2.2.2.2.1, u1.2.2.2.2.2.1, u1.2.2.2.2.2.2.1, u1.2.2.2.2.2.2.2.1, u1.2.2.2.2.2.2.2.2.1, q20.2, u1.2.2.2.2.2.2.2.2.2.2), rfl, (Option.some.inj hR).symm, by rw [ht]; exact hP20, va_K.moved hW.alike hK, hD20⟩, hS20.F ht⟩) hS20.2.2 dX9_seen_198
          · replace hR := ifp_ hR c23
            refine lv_iload hx hb dX9_seen_183 (lv_at hl21 0 rfl) ?_
            refine lv_goto (tgt := 198) hx hb dX9_seen_185 (by decide) ?_
            subst hQe
            exact W.iret (v := q20.1) hx hb hr (fun t ht hW => ⟨⟨q20.1, (u1.1, u1.2.1, u1.2.2.1, u1.2.2.2.1, u1.2.2.2.2.1, u1.2.2.2.2.2.1, u1.2.2.2.2.2.2.1, u1.2.2.2.2.2.2.2.1, u1.2.2.2.2.2.2.2.2.1, q20.2, u1.2.2.2.2.2.2.2.2.2.2), rfl, (Option.some.inj hR).symm, by rw [ht]; exact hP20, va_K.moved hW.alike hK, hD20⟩, hS20.F ht⟩) hS20.2.2 dX9_seen_198
        · replace hR := ifp_ hR c22
          refine lv_bipush (v := (-4 : Int32)) hx hb dX9_seen_174 (by decide) ?_
          subst hQe
          exact W.iret (v := (-4 : Int32)) hx hb hr (fun t ht hW => ⟨⟨(-4 : Int32), (u1.1, u1.2.1, u1.2.2.1, u1.2.2.2.1, u1.2.2.2.2.1, u1.2.2.2.2.2.1, u1.2.2.2.2.2.2.1, u1.2.2.2.2.2.2.2.1, u1.2.2.2.2.2.2.2.2.1, q20.2, u1.2.2.2.2.2.2.2.2.2.2), rfl, (Option.some.inj hR).symm, by rw [ht]; exact hP20, va_K.moved hW.alike hK, hD20⟩, hS20.F ht⟩) hS20.2.2 dX9_seen_176
      · replace hR := ifn_ hR c19
        refine lv_aload_n hx hb dX9_seen_100 rfl (lv_at hl 0 rfl) ?_
        refine va_get (D := (dC, dI)) (ci := 9) (v := .ref (a1 66)) (C := RX9) (T := TX9) (N := 14) hx hb hts hin9 hown hK hP 0 rfl rfl 13 (by decide) (hts (.fieldLink RX9 83 "OldestCoins" "sheets" "LOldestCoins$Sheets;") (List.mem_of_getElem? (i := 1) rfl)) (fun _ h9 => h9) rfl dX9_seen_101 ?_
        refine lv_iload_n hx hb dX9_seen_104 rfl (lv_at hl 1 rfl) ?_
        refine lv_iload_n hx hb dX9_seen_105 rfl (lv_at hl 2 rfl) ?_
        refine lv_iload hx hb dX9_seen_106 (lv_at hl 8 rfl) ?_
        refine lv_iadd hx hb dX9_seen_108 ?_
        have hR0 := ob_ok hR
        clear hR
        obtain ⟨q25, hq25, hR⟩ := hR0
        refine va_calll (va_runV (As := [.int y1, .int (y3 + y10)]) (rest := []) ⟨hx, hb, hml, hown, hts⟩ (cc_X5_read l dC dI fu (sh_ a1 66) (sh_ k1 66) H.size y1 (y3 + y10) u1.2.2.2.2.2.2.2.2.2.2.2.2.2 q25 hq25) (cwV 2 hts gX9_seen_X5_read rfl rfl rfl (by decide +kernel) ⟨Nat.le_of_ble_eq_true rfl, Nat.le_of_ble_eq_true rfl⟩) (pf_v (hK.sub (tys' := zt_5 (sh_ k1 66)) [48, 49, 50] rfl) (sub_P (sb_9__0c66 a1 k1 u1) hP) (sub_D (sb_9__0c66 a1 k1 u1) hD) 5 0 rfl rfl rfl) rfl rfl hl.1 rfl (lv_room (Nat.le_of_ble_eq_true rfl)) dX9_seen_109 ⟨Nat.le_refl _, Nat.le_refl _⟩) hS (fun q _ h => (sub_F (sb_9__0c66 a1 k1 u1) hD hS hA) q h) (sub_F (sb_9__0c66 a1 k1 u1) hD hS hA) (fun r25 v25 t25 H25 locs25 ht25 hvm25 hw25 hB25 hz25 hk25 hS25 => ?_)
        subst hw25
        obtain ⟨hP25, hD25⟩ := jn_sub (sb_9__0c66 a1 k1 u1) (jo_9__0c66__ a1 k1 u1 ) rfl hP hD hk25 ht25 hB25
        have hP25 : va_P (dC, dI) vwCl (zc_9 a1 k1 u1) H25 := hP25
        have hD25 : va_D A (zc_9 a1 k1 u1) := hD25
        clear hP hD hS hB25 hk25 hvm25 hz25 ht25
        refine lv_lstore (lv' := [(11, .long q25), (0, .ref (a1 0)), (1, .int y1), (3, .int y3), (4, .int y4), (5, .int y5), (6, .int y6), (7, .int y7), (8, .int y8), (10, .int y10)]) hx hb dX9_seen_112 hl (by decide) rfl (fun ls26 hl26 => ?_)
        refine lv_lload hx hb dX9_seen_114 (lv_at hl26 0 rfl) ?_
        refine lv_lconst (v := (1 : Int64)) hx hb dX9_seen_116 (by decide) ?_
        refine W.lcmp hx hb dX9_seen_117 ?_
        refine lv_if_lt (tgt := 130) hx hb dX9_seen_118 (by decide) (fun c27 => ?_) (fun c27 => ?_)
        · replace hR := ifp_ hR c27
          refine lv_bipush (v := (-2 : Int32)) hx hb dX9_seen_130 (by decide) ?_
          subst hQe
          exact W.iret (v := (-2 : Int32)) hx hb hr (fun t ht hW => ⟨⟨(-2 : Int32), u1, rfl, (Option.some.inj hR).symm, by rw [ht]; exact hP25, va_K.moved hW.alike hK, hD25⟩, hS25.F ht⟩) hS25.2.2 dX9_seen_132
        · replace hR := ifn_ hR c27
          refine lv_lload hx hb dX9_seen_121 (lv_at hl26 0 rfl) ?_
          refine lv_ldc2 (v := (99 : Int64)) hx hb hown (hts (.constantLong RX9 300 (99)) (List.mem_of_getElem? (i := 2) rfl)) dX9_seen_123 ?_
          refine W.lcmp hx hb dX9_seen_126 ?_
          refine lv_if_le (tgt := 133) hx hb dX9_seen_127 (by decide) (fun c28 => ?_) (fun c28 => ?_)
          · replace hR := ifp_ hR c28
            refine lv_aload_n hx hb dX9_seen_133 rfl (lv_at hl26 1 rfl) ?_
            refine va_get (D := (dC, dI)) (ci := 9) (v := .ref (a1 50)) (C := RX9) (T := TX9) (N := 14) hx hb hts hin9 hown hK hP25 0 rfl rfl 9 (by decide) (hts (.fieldLink RX9 53 "OldestCoins" "guess" "LOldestCoins$Guess;") (List.mem_of_getElem? (i := 3) rfl)) (fun _ h9 => h9) rfl dX9_seen_134 ?_
            refine va_get (D := (dC, dI)) (ci := 3) (v := .ref (a1 51)) (C := RX3) (T := TX3) (N := 8) hx hb hts hin3 hown hK hP25 50 rfl rfl 0 (by decide) (hts (.fieldLink RX9 302 "OldestCoins$Guess" "worth" "[I") (List.mem_of_getElem? (i := 4) rfl)) (fun _ h9 => h9) rfl dX9_seen_137 ?_
            refine lv_iload hx hb dX9_seen_140 (lv_at hl26 9 rfl) ?_
            refine lv_lload hx hb dX9_seen_142 (lv_at hl26 0 rfl) ?_
            refine lv_l2i (v := q25.toInt32) hx hb dX9_seen_144 rfl ?_
            refine lv_topi (fun z29 ez29 => ?_)
            replace hR := lt_ok hR ez29
            have i30 := (ck_ok hR).1
            replace hR := (ck_ok hR).2
            refine va_iast (f := u1.2.2.2.2.2.2.2.2.2.1.1) hx hb hK hP25 hD25 hS25 51 36 rfl rfl i30 dX9_seen_145 (fun H30 locs30 hP30 hD30 hS30 => ?_)
            have hP30 : va_P (dC, dI) vwCl (zc_9 a1 k1 (u1.1, u1.2.1, u1.2.2.1, u1.2.2.2.1, u1.2.2.2.2.1, u1.2.2.2.2.2.1, u1.2.2.2.2.2.2.1, u1.2.2.2.2.2.2.2.1, u1.2.2.2.2.2.2.2.2.1, ((upd u1.2.2.2.2.2.2.2.2.2.1.1 y10.toNatClampNeg z29), u1.2.2.2.2.2.2.2.2.2.1.2), u1.2.2.2.2.2.2.2.2.2.2)) H30 := hP30
            have hD30 : va_D A (zc_9 a1 k1 (u1.1, u1.2.1, u1.2.2.1, u1.2.2.2.1, u1.2.2.2.2.1, u1.2.2.2.2.2.1, u1.2.2.2.2.2.2.1, u1.2.2.2.2.2.2.2.1, u1.2.2.2.2.2.2.2.2.1, ((upd u1.2.2.2.2.2.2.2.2.2.1.1 y10.toNatClampNeg z29), u1.2.2.2.2.2.2.2.2.2.1.2), u1.2.2.2.2.2.2.2.2.2.2)) := hD30
            clear hP25 hD25 hS25
            obtain ⟨z31, ez31⟩ : ∃ y : Int32, y = (y10 + (1 : Int32)) := ⟨_, rfl⟩
            replace hR := lt_ok hR ez31
            refine lv_iinc (v := z31) (lv' := [(10, .int z31), (11, .long q25), (0, .ref (a1 0)), (1, .int y1), (3, .int y3), (4, .int y4), (5, .int y5), (6, .int y6), (7, .int y7), (8, .int y8)]) hx hb dX9_seen_146 hl26 (k := 9) rfl (by rw [ez31]; rfl) (by decide) rfl (fun ls31 hl31 => ?_)
            refine lv_goto (tgt := 93) hx hb dX9_seen_149 (by decide) ?_
            exact ih y1 y3 y4 y5 y6 y7 y8 z31 (u1.1, u1.2.1, u1.2.2.1, u1.2.2.2.1, u1.2.2.2.2.1, u1.2.2.2.2.2.1, u1.2.2.2.2.2.2.1, u1.2.2.2.2.2.2.2.1, u1.2.2.2.2.2.2.2.2.1, ((upd u1.2.2.2.2.2.2.2.2.2.1.1 y10.toNatClampNeg z29), u1.2.2.2.2.2.2.2.2.2.1.2), u1.2.2.2.2.2.2.2.2.2.2) H30 locs30 ls31 hP30 hD30 hS30 (lv_sub hl31 [2, 3, 4, 5, 6, 7, 8, 9, 0] rfl) hR
          · replace hR := ifn_ hR c28
            refine lv_bipush (v := (-2 : Int32)) hx hb dX9_seen_130 (by decide) ?_
            subst hQe
            exact W.iret (v := (-2 : Int32)) hx hb hr (fun t ht hW => ⟨⟨(-2 : Int32), u1, rfl, (Option.some.inj hR).symm, by rw [ht]; exact hP25, va_K.moved hW.alike hK, hD25⟩, hS25.F ht⟩) hS25.2.2 dX9_seen_132
  unfold rr_X9_seen at hR
  refine lv_iload_n hx hb dX9_seen_0 rfl (lv_at hl 1 rfl) ?_
  have hR0 := ob_ok hR
  clear hR
  obtain ⟨q1, hq1, hR⟩ := hR0
  refine va_calli (va_runS (As := [.int x1]) (rest := []) ⟨hx, hb, hml, hown, hts⟩ (cc_X9_isSheet l dC dI fu s.heap.size x1 q1 hq1) (va_cwS 1 hts gX9_seen_X9_isSheet rfl rfl rfl (by decide +kernel) ⟨Nat.le_of_ble_eq_true rfl, Nat.le_of_ble_eq_true rfl⟩) (pf_s (nil_K hK) nil_P (nil_D (A := A))) rfl rfl hl.1 rfl (lv_room (Nat.le_of_ble_eq_true rfl)) dX9_seen_1 ⟨Nat.le_refl _, Nat.le_refl _⟩) hS (fun q _ h => (fr_none hS hA) q h) (fr_none hS hA) (fun r1 v1 t1 H1 locs1 ht1 hvm1 hw1 hB1 hz1 hk1 hS1 => ?_)
  subst hw1
  have hP1 := jn_none hP hk1
  have hD1 := hD
  have hP1 : va_P (dC, dI) vwCl (zc_9 a1 k1 s1) H1 := hP1
  have hD1 : va_D A (zc_9 a1 k1 s1) := hD1
  clear hP hD hS hB1 hk1 hvm1 hz1 ht1
  refine lv_if_eq (tgt := 66) hx hb dX9_seen_4 (by decide) (fun c2 => ?_) (fun c2 => ?_)
  · replace hR := ifp_ hR c2
    refine lv_iconst (v := (-1 : Int32)) hx hb dX9_seen_66 (by decide) ?_
    subst hQe
    exact W.iret (v := (-1 : Int32)) hx hb hr (fun t ht hW => ⟨⟨(-1 : Int32), s1, rfl, (Option.some.inj hR).symm, by rw [ht]; exact hP1, va_K.moved hW.alike hK, hD1⟩, hS1.F ht⟩) hS1.2.2 dX9_seen_67
  · replace hR := ifn_ hR c2
    refine lv_iload_n hx hb dX9_seen_7 rfl (lv_at hl 2 rfl) ?_
    have hR0 := ob_ok hR
    clear hR
    obtain ⟨q3, hq3, hR⟩ := hR0
    refine va_calli (va_runS (As := [.int x2]) (rest := []) ⟨hx, hb, hml, hown, hts⟩ (cc_X9_isLane l dC dI fu H1.size x2 q3 hq3) (va_cwS 1 hts gX9_seen_X9_isLane rfl rfl rfl (by decide +kernel) ⟨Nat.le_of_ble_eq_true rfl, Nat.le_of_ble_eq_true rfl⟩) (pf_s (nil_K hK) nil_P (nil_D (A := A))) rfl rfl hl.1 rfl (lv_room (Nat.le_of_ble_eq_true rfl)) dX9_seen_8 ⟨Nat.le_refl _, Nat.le_refl _⟩) hS1 (fun q _ h => (fr_none hS1 hA) q h) (fr_none hS1 hA) (fun r3 v3 t3 H3 locs3 ht3 hvm3 hw3 hB3 hz3 hk3 hS3 => ?_)
    subst hw3
    have hP3 := jn_none hP1 hk3
    have hD3 := hD1
    have hP3 : va_P (dC, dI) vwCl (zc_9 a1 k1 s1) H3 := hP3
    have hD3 : va_D A (zc_9 a1 k1 s1) := hD3
    clear hP1 hD1 hS1 hB3 hk3 hvm3 hz3 ht3
    refine lv_if_eq (tgt := 66) hx hb dX9_seen_11 (by decide) (fun c4 => ?_) (fun c4 => ?_)
    · replace hR := ifp_ hR c4
      refine lv_iconst (v := (-1 : Int32)) hx hb dX9_seen_66 (by decide) ?_
      subst hQe
      exact W.iret (v := (-1 : Int32)) hx hb hr (fun t ht hW => ⟨⟨(-1 : Int32), s1, rfl, (Option.some.inj hR).symm, by rw [ht]; exact hP3, va_K.moved hW.alike hK, hD3⟩, hS3.F ht⟩) hS3.2.2 dX9_seen_67
    · replace hR := ifn_ hR c4
      refine lv_iload hx hb dX9_seen_14 (lv_at hl 4 rfl) ?_
      refine lv_iconst (v := (1 : Int32)) hx hb dX9_seen_16 (by decide) ?_
      refine lv_iconst (v := (4 : Int32)) hx hb dX9_seen_17 (by decide) ?_
      have hR0 := ob_ok hR
      clear hR
      obtain ⟨q5, hq5, hR⟩ := hR0
      refine va_calli (va_runS (As := [.int x4, .int (1 : Int32), .int (4 : Int32)]) (rest := []) ⟨hx, hb, hml, hown, hts⟩ (cc_X9_isWithin l dC dI fu H3.size x4 (1 : Int32) (4 : Int32) q5 hq5) (va_cwS 3 hts gX9_seen_X9_isWithin rfl rfl rfl (by decide +kernel) ⟨Nat.le_of_ble_eq_true rfl, Nat.le_of_ble_eq_true rfl⟩) (pf_s (nil_K hK) nil_P (nil_D (A := A))) rfl rfl hl.1 rfl (lv_room (Nat.le_of_ble_eq_true rfl)) dX9_seen_18 ⟨Nat.le_refl _, Nat.le_refl _⟩) hS3 (fun q _ h => (fr_none hS3 hA) q h) (fr_none hS3 hA) (fun r5 v5 t5 H5 locs5 ht5 hvm5 hw5 hB5 hz5 hk5 hS5 => ?_)
      subst hw5
      have hP5 := jn_none hP3 hk5
      have hD5 := hD3
      have hP5 : va_P (dC, dI) vwCl (zc_9 a1 k1 s1) H5 := hP5
      have hD5 : va_D A (zc_9 a1 k1 s1) := hD5
      clear hP3 hD3 hS3 hB5 hk5 hvm5 hz5 ht5
      refine lv_if_eq (tgt := 66) hx hb dX9_seen_21 (by decide) (fun c6 => ?_) (fun c6 => ?_)
      · replace hR := ifp_ hR c6
        refine lv_iconst (v := (-1 : Int32)) hx hb dX9_seen_66 (by decide) ?_
        subst hQe
        exact W.iret (v := (-1 : Int32)) hx hb hr (fun t ht hW => ⟨⟨(-1 : Int32), s1, rfl, (Option.some.inj hR).symm, by rw [ht]; exact hP5, va_K.moved hW.alike hK, hD5⟩, hS5.F ht⟩) hS5.2.2 dX9_seen_67
      · replace hR := ifn_ hR c6
        refine lv_iload hx hb dX9_seen_24 (lv_at hl 5 rfl) ?_
        have hR0 := ob_ok hR
        clear hR
        obtain ⟨q7, hq7, hR⟩ := hR0
        refine va_calli (va_runS (As := [.int x5]) (rest := []) ⟨hx, hb, hml, hown, hts⟩ (cc_X9_isSum l dC dI fu H5.size x5 q7 hq7) (va_cwS 1 hts gX9_seen_X9_isSum rfl rfl rfl (by decide +kernel) ⟨Nat.le_of_ble_eq_true rfl, Nat.le_of_ble_eq_true rfl⟩) (pf_s (nil_K hK) nil_P (nil_D (A := A))) rfl rfl hl.1 rfl (lv_room (Nat.le_of_ble_eq_true rfl)) dX9_seen_26 ⟨Nat.le_refl _, Nat.le_refl _⟩) hS5 (fun q _ h => (fr_none hS5 hA) q h) (fr_none hS5 hA) (fun r7 v7 t7 H7 locs7 ht7 hvm7 hw7 hB7 hz7 hk7 hS7 => ?_)
        subst hw7
        have hP7 := jn_none hP5 hk7
        have hD7 := hD5
        have hP7 : va_P (dC, dI) vwCl (zc_9 a1 k1 s1) H7 := hP7
        have hD7 : va_D A (zc_9 a1 k1 s1) := hD7
        clear hP5 hD5 hS5 hB7 hk7 hvm7 hz7 ht7
        refine lv_if_eq (tgt := 66) hx hb dX9_seen_29 (by decide) (fun c8 => ?_) (fun c8 => ?_)
        · replace hR := ifp_ hR c8
          refine lv_iconst (v := (-1 : Int32)) hx hb dX9_seen_66 (by decide) ?_
          subst hQe
          exact W.iret (v := (-1 : Int32)) hx hb hr (fun t ht hW => ⟨⟨(-1 : Int32), s1, rfl, (Option.some.inj hR).symm, by rw [ht]; exact hP7, va_K.moved hW.alike hK, hD7⟩, hS7.F ht⟩) hS7.2.2 dX9_seen_67
        · replace hR := ifn_ hR c8
          refine lv_iload hx hb dX9_seen_32 (lv_at hl 6 rfl) ?_
          refine lv_iconst (v := (1 : Int32)) hx hb dX9_seen_34 (by decide) ?_
          refine lv_iconst (v := (4 : Int32)) hx hb dX9_seen_35 (by decide) ?_
          have hR0 := ob_ok hR
          clear hR
          obtain ⟨q9, hq9, hR⟩ := hR0
          refine va_calli (va_runS (As := [.int x6, .int (1 : Int32), .int (4 : Int32)]) (rest := []) ⟨hx, hb, hml, hown, hts⟩ (cc_X9_isWithin l dC dI fu H7.size x6 (1 : Int32) (4 : Int32) q9 hq9) (va_cwS 3 hts gX9_seen_X9_isWithin rfl rfl rfl (by decide +kernel) ⟨Nat.le_of_ble_eq_true rfl, Nat.le_of_ble_eq_true rfl⟩) (pf_s (nil_K hK) nil_P (nil_D (A := A))) rfl rfl hl.1 rfl (lv_room (Nat.le_of_ble_eq_true rfl)) dX9_seen_36 ⟨Nat.le_refl _, Nat.le_refl _⟩) hS7 (fun q _ h => (fr_none hS7 hA) q h) (fr_none hS7 hA) (fun r9 v9 t9 H9 locs9 ht9 hvm9 hw9 hB9 hz9 hk9 hS9 => ?_)
          subst hw9
          have hP9 := jn_none hP7 hk9
          have hD9 := hD7
          have hP9 : va_P (dC, dI) vwCl (zc_9 a1 k1 s1) H9 := hP9
          have hD9 : va_D A (zc_9 a1 k1 s1) := hD9
          clear hP7 hD7 hS7 hB9 hk9 hvm9 hz9 ht9
          refine lv_if_eq (tgt := 66) hx hb dX9_seen_39 (by decide) (fun c10 => ?_) (fun c10 => ?_)
          · replace hR := ifp_ hR c10
            refine lv_iconst (v := (-1 : Int32)) hx hb dX9_seen_66 (by decide) ?_
            subst hQe
            exact W.iret (v := (-1 : Int32)) hx hb hr (fun t ht hW => ⟨⟨(-1 : Int32), s1, rfl, (Option.some.inj hR).symm, by rw [ht]; exact hP9, va_K.moved hW.alike hK, hD9⟩, hS9.F ht⟩) hS9.2.2 dX9_seen_67
          · replace hR := ifn_ hR c10
            refine lv_iload hx hb dX9_seen_42 (lv_at hl 7 rfl) ?_
            refine lv_iconst (v := (0 : Int32)) hx hb dX9_seen_44 (by decide) ?_
            refine lv_bipush (v := (99 : Int32)) hx hb dX9_seen_45 (by decide) ?_
            have hR0 := ob_ok hR
            clear hR
            obtain ⟨q11, hq11, hR⟩ := hR0
            refine va_calli (va_runS (As := [.int x7, .int (0 : Int32), .int (99 : Int32)]) (rest := []) ⟨hx, hb, hml, hown, hts⟩ (cc_X9_isWithin l dC dI fu H9.size x7 (0 : Int32) (99 : Int32) q11 hq11) (va_cwS 3 hts gX9_seen_X9_isWithin rfl rfl rfl (by decide +kernel) ⟨Nat.le_of_ble_eq_true rfl, Nat.le_of_ble_eq_true rfl⟩) (pf_s (nil_K hK) nil_P (nil_D (A := A))) rfl rfl hl.1 rfl (lv_room (Nat.le_of_ble_eq_true rfl)) dX9_seen_47 ⟨Nat.le_refl _, Nat.le_refl _⟩) hS9 (fun q _ h => (fr_none hS9 hA) q h) (fr_none hS9 hA) (fun r11 v11 t11 H11 locs11 ht11 hvm11 hw11 hB11 hz11 hk11 hS11 => ?_)
            subst hw11
            have hP11 := jn_none hP9 hk11
            have hD11 := hD9
            have hP11 : va_P (dC, dI) vwCl (zc_9 a1 k1 s1) H11 := hP11
            have hD11 : va_D A (zc_9 a1 k1 s1) := hD11
            clear hP9 hD9 hS9 hB11 hk11 hvm11 hz11 ht11
            refine lv_if_eq (tgt := 66) hx hb dX9_seen_50 (by decide) (fun c12 => ?_) (fun c12 => ?_)
            · replace hR := ifp_ hR c12
              refine lv_iconst (v := (-1 : Int32)) hx hb dX9_seen_66 (by decide) ?_
              subst hQe
              exact W.iret (v := (-1 : Int32)) hx hb hr (fun t ht hW => ⟨⟨(-1 : Int32), s1, rfl, (Option.some.inj hR).symm, by rw [ht]; exact hP11, va_K.moved hW.alike hK, hD11⟩, hS11.F ht⟩) hS11.2.2 dX9_seen_67
            · replace hR := ifn_ hR c12
              refine lv_iload hx hb dX9_seen_53 (lv_at hl 8 rfl) ?_
              refine lv_iconst (v := (-1 : Int32)) hx hb dX9_seen_55 (by decide) ?_
              refine lv_iload hx hb dX9_seen_56 (lv_at hl 4 rfl) ?_
              refine lv_iconst (v := (1 : Int32)) hx hb dX9_seen_58 (by decide) ?_
              refine lv_isub hx hb dX9_seen_59 ?_
              have hR0 := ob_ok hR
              clear hR
              obtain ⟨q13, hq13, hR⟩ := hR0
              refine va_calli (va_runS (As := [.int x8, .int (-1 : Int32), .int (x4 - (1 : Int32))]) (rest := []) ⟨hx, hb, hml, hown, hts⟩ (cc_X9_isWithin l dC dI fu H11.size x8 (-1 : Int32) (x4 - (1 : Int32)) q13 hq13) (va_cwS 3 hts gX9_seen_X9_isWithin rfl rfl rfl (by decide +kernel) ⟨Nat.le_of_ble_eq_true rfl, Nat.le_of_ble_eq_true rfl⟩) (pf_s (nil_K hK) nil_P (nil_D (A := A))) rfl rfl hl.1 rfl (lv_room (Nat.le_of_ble_eq_true rfl)) dX9_seen_60 ⟨Nat.le_refl _, Nat.le_refl _⟩) hS11 (fun q _ h => (fr_none hS11 hA) q h) (fr_none hS11 hA) (fun r13 v13 t13 H13 locs13 ht13 hvm13 hw13 hB13 hz13 hk13 hS13 => ?_)
              subst hw13
              have hP13 := jn_none hP11 hk13
              have hD13 := hD11
              have hP13 : va_P (dC, dI) vwCl (zc_9 a1 k1 s1) H13 := hP13
              have hD13 : va_D A (zc_9 a1 k1 s1) := hD13
              clear hP11 hD11 hS11 hB13 hk13 hvm13 hz13 ht13
              refine lv_if_ne (tgt := 68) hx hb dX9_seen_63 (by decide) (fun c14 => ?_) (fun c14 => ?_)
              · replace hR := ifn_ hR c14
                refine lv_aload_n hx hb dX9_seen_68 rfl (lv_at hl 0 rfl) ?_
                refine va_get (D := (dC, dI)) (ci := 9) (v := .ref (a1 66)) (C := RX9) (T := TX9) (N := 14) hx hb hts hin9 hown hK hP13 0 rfl rfl 13 (by decide) (hts (.fieldLink RX9 83 "OldestCoins" "sheets" "LOldestCoins$Sheets;") (List.mem_of_getElem? (i := 1) rfl)) (fun _ h9 => h9) rfl dX9_seen_69 ?_
                refine lv_iload_n hx hb dX9_seen_72 rfl (lv_at hl 1 rfl) ?_
                refine lv_iload_n hx hb dX9_seen_73 rfl (lv_at hl 2 rfl) ?_
                refine lv_iload_n hx hb dX9_seen_74 rfl (lv_at hl 3 rfl) ?_
                refine lv_iload hx hb dX9_seen_75 (lv_at hl 4 rfl) ?_
                have hR0 := ob_ok hR
                clear hR
                obtain ⟨q15, hq15, hR⟩ := hR0
                refine va_calli (va_runV (As := [.int x1, .int x2, .int x3, .int x4]) (rest := []) ⟨hx, hb, hml, hown, hts⟩ (cc_X5_refusal l dC dI fu (sh_ a1 66) (sh_ k1 66) H13.size x1 x2 x3 x4 s1.2.2.2.2.2.2.2.2.2.2.2.2.2 q15 hq15) (cwV 4 hts gX9_seen_X5_refusal rfl rfl rfl (by decide +kernel) ⟨Nat.le_of_ble_eq_true rfl, Nat.le_of_ble_eq_true rfl⟩) (pf_v (hK.sub (tys' := zt_5 (sh_ k1 66)) [48, 49, 50] rfl) (sub_P (sb_9__0c66 a1 k1 s1) hP13) (sub_D (sb_9__0c66 a1 k1 s1) hD13) 5 0 rfl rfl rfl) rfl rfl hl.1 rfl (lv_room (Nat.le_of_ble_eq_true rfl)) dX9_seen_77 ⟨Nat.le_refl _, Nat.le_refl _⟩) hS13 (fun q _ h => (sub_F (sb_9__0c66 a1 k1 s1) hD13 hS13 hA) q h) (sub_F (sb_9__0c66 a1 k1 s1) hD13 hS13 hA) (fun r15 v15 t15 H15 locs15 ht15 hvm15 hw15 hB15 hz15 hk15 hS15 => ?_)
                subst hw15
                obtain ⟨hP15, hD15⟩ := jn_sub (sb_9__0c66 a1 k1 s1) (jo_9__0c66__ a1 k1 s1 ) rfl hP13 hD13 hk15 ht15 hB15
                have hP15 : va_P (dC, dI) vwCl (zc_9 a1 k1 s1) H15 := hP15
                have hD15 : va_D A (zc_9 a1 k1 s1) := hD15
                clear hP13 hD13 hS13 hB15 hk15 hvm15 hz15 ht15
                refine lv_istore (lv' := [(9, .int q15), (0, .ref (a1 0)), (1, .int x1), (2, .int x2), (3, .int x3), (4, .int x4), (5, .int x5), (6, .int x6), (7, .int x7), (8, .int x8)]) hx hb dX9_seen_80 hl (by decide) rfl (fun ls16 hl16 => ?_)
                refine lv_iload hx hb dX9_seen_82 (lv_at hl16 0 rfl) ?_
                refine lv_if_eq (tgt := 90) hx hb dX9_seen_84 (by decide) (fun c17 => ?_) (fun c17 => ?_)
                · replace hR := ifp_ hR c17
                  refine lv_iconst (v := (0 : Int32)) hx hb dX9_seen_90 (by decide) ?_
                  refine lv_istore (lv' := [(10, .int (0 : Int32)), (9, .int q15), (0, .ref (a1 0)), (1, .int x1), (2, .int x2), (3, .int x3), (4, .int x4), (5, .int x5), (6, .int x6), (7, .int x7), (8, .int x8)]) hx hb dX9_seen_91 hl16 (by decide) rfl (fun ls18 hl18 => ?_)
                  exact hB93 fu x1 x3 x4 x5 x6 x7 x8 (0 : Int32) s1 H15 locs15 ls18 hP15 hD15 hS15 (lv_sub hl18 [2, 3, 5, 6, 7, 8, 9, 10, 0] rfl) hR
                · replace hR := ifn_ hR c17
                  refine lv_iload hx hb dX9_seen_87 (lv_at hl16 0 rfl) ?_
                  subst hQe
                  exact W.iret (v := q15) hx hb hr (fun t ht hW => ⟨⟨q15, s1, rfl, (Option.some.inj hR).symm, by rw [ht]; exact hP15, va_K.moved hW.alike hK, hD15⟩, hS15.F ht⟩) hS15.2.2 dX9_seen_89
              · replace hR := ifp_ hR c14
                refine lv_iconst (v := (-1 : Int32)) hx hb dX9_seen_66 (by decide) ?_
                subst hQe
                exact W.iret (v := (-1 : Int32)) hx hb hr (fun t ht hW => ⟨⟨(-1 : Int32), s1, rfl, (Option.some.inj hR).symm, by rw [ht]; exact hP13, va_K.moved hW.alike hK, hD13⟩, hS13.F ht⟩) hS13.2.2 dX9_seen_67
