def rr_X9_order (fu : Nat) (x1 : Int32) (x2 : Int32) (s1 : ZT_9) : Option (Int32 × ZT_9) := (rr_X9_isPurse fu x1).bind (fun q1 => (if q1 = (0 : Int32) then some ((-1 : Int32), s1) else (rr_X9_isWithin fu x2 (-1 : Int32) (5 : Int32)).bind (fun q3 => (if q3 = (0 : Int32) then some ((-1 : Int32), s1) else (if s1.1.2.2.2.1 = (0 : Int32) then some ((-4 : Int32), s1) else (if x2 < s1.1.2.2.2.1 then (rr_X9_layOut fu s1).bind (fun q7 => (rr_X7_begin fu x1 (0 : Int64) (0 : Int32) (-1 : Int32) q7.1.2.2.2.1 q7.2.2.2.2.2.2.2.2.1).bind (fun q8 => (rr_X9_seek fu 8 (0 : Int32) (0 : Int32) (0 : Int32) (q7.1, q7.2.1, q7.2.2.1, q7.2.2.2.1, q7.2.2.2.2.1, q7.2.2.2.2.2.1, q7.2.2.2.2.2.2.1, q7.2.2.2.2.2.2.2.1, q8, q7.2.2.2.2.2.2.2.2.2)).bind (fun q9 => (if x2 = (-1 : Int32) then some (q9.2.2.2.2.2.2.2.2.1.2.1, q9) else ck_ x2 6 (some ((q9.2.2.2.2.2.2.2.2.1.2.2.2.2.1 x2.toNatClampNeg), q9)))))) else some ((-4 : Int32), s1)))))))
set_option maxHeartbeats 4000000 in
set_option maxRecDepth 100000 in
theorem cc_X9_order (l : Launch) (dC : Nat → ClassId) (dI : Nat → Nat → Nat) (fu : Nat) (a1 : Nat → Nat) (k1 : Nat → ClassId) (sz : Nat) (x1 : Int32) (x2 : Int32) (s1 : ZT_9) (res : Int32 × ZT_9) (hR : rr_X9_order fu x1 x2 s1 = some res) : Met l yX9_order wsX9_order ({ frames := 15, cells := 0, slots := 0, locals := 422 } : Room) (PcF [.ref (a1 0), .int x1, .int x2] sz (dC, dI) (zc_9 a1 k1 s1) (zt_9 k1)) (va_Qi (fun (r : Int32) (u : ZT_9) => res = (r, u)) (fun u t => at3_ (dC, dI) (zc_9 a1 k1 u) (zt_9 k1) (va_A (zc_9 a1 k1 s1) sz) t) (va_A (zc_9 a1 k1 s1) sz)) 0 0 (va_A (zc_9 a1 k1 s1) sz) := by
  refine Met.ofW (cc := cX9_order) (maxL := 3) (ret := (some .int)) (by decide) rfl ?_
  intro p e s m args below meth c s₁ B hml hv
  obtain ⟨hav, hsz, hP, hK, hD0⟩ := hv
  have hx := B.exec
  have hb := B.bytes
  have hr := B.returns
  have hts := atoms_spec (ws := wsX9_order) B.pre
  have hown : s.vm.findClass RX9 = some m.cls := findClass_of_methodNamed B.named
  have hlocks := B.notSynchronized
  have hin0 : ∀ w ∈ wsX00, w ∈ wsX9_order := fun w h => List.mem_cons_of_mem _ (List.mem_append_left _ (List.mem_append_left _ (List.mem_append_left _ (List.mem_append_left _ (List.mem_append_right _ h)))))
  have hin7 : ∀ w ∈ wsX70, w ∈ wsX9_order := fun w h => List.mem_cons_of_mem _ (List.mem_append_left _ (List.mem_append_left _ (List.mem_append_left _ (List.mem_append_right _ h))))
  have hin8 : ∀ w ∈ wsX80, w ∈ wsX9_order := fun w h => List.mem_cons_of_mem _ (List.mem_append_left _ (List.mem_append_left _ (List.mem_append_left _ (List.mem_append_left _ (List.mem_append_left _ (List.mem_append_right _ h))))))
  have hin9 : ∀ w ∈ wsX90, w ∈ wsX9_order := fun w h => List.mem_cons_of_mem _ (List.mem_append_left _ (List.mem_append_left _ (List.mem_append_left _ (List.mem_append_left _ (List.mem_append_left _ (List.mem_append_left _ (List.mem_append_right _ h)))))))
  subst hsz
  have hD := hD0.self (sz := s.heap.size)
  clear hD0
  generalize hAe : va_A (zc_9 a1 k1 s1) s.heap.size = A at hD ⊢
  have hA : ∀ q : Nat, s.heap.size ≤ q → A q := fun q h => by rw [← hAe]; exact Or.inr h
  have hS : va_S A s.heap s.heap [] := va_S.rf
  generalize hQe : MQ below _ args s 0 0 A = Q
  rw [show entryFrame m args 3 = F0 m 0 ((lg_sl ([.ref (a1 0), .int x1, .int x2]) ++ List.replicate (3 - (lg_sl ([.ref (a1 0), .int x1, .int x2])).length) Slot.unset).toArray) [] from by rw [hav]; exact lg_entry_eq m _ _]
  have hl := lv_entry ([.ref (a1 0), .int x1, .int x2]) (n := 3) (Nat.le_of_ble_eq_true rfl)
  generalize (lg_sl ([.ref (a1 0), .int x1, .int x2]) ++ List.replicate (3 - (lg_sl ([.ref (a1 0), .int x1, .int x2])).length) Slot.unset).toArray = ls at hl ⊢
  have hl : lv_has ls 3 [(0, .ref (a1 0)), (1, .int x1), (2, .int x2)] := hl
  unfold rr_X9_order at hR
  refine lv_iload_n hx hb dX9_order_0 rfl (lv_at hl 1 rfl) ?_
  have hR0 := ob_ok hR
  clear hR
  obtain ⟨q1, hq1, hR⟩ := hR0
  refine va_calli (va_runS (As := [.int x1]) (rest := []) ⟨hx, hb, hml, hown, hts⟩ (cc_X9_isPurse l dC dI fu s.heap.size x1 q1 hq1) (va_cwS 1 hts gX9_order_X9_isPurse rfl rfl rfl (by decide +kernel) ⟨Nat.le_of_ble_eq_true rfl, Nat.le_of_ble_eq_true rfl⟩) (pf_s (nil_K hK) nil_P (nil_D (A := A))) rfl rfl hl.1 rfl (lv_room (Nat.le_of_ble_eq_true rfl)) dX9_order_1 ⟨Nat.le_refl _, Nat.le_refl _⟩) hS (fun q _ h => (fr_none hS hA) q h) (fr_none hS hA) (fun r1 v1 t1 H1 locs1 ht1 hvm1 hw1 hB1 hz1 hk1 hS1 => ?_)
  subst hw1
  have hP1 := jn_none hP hk1
  have hD1 := hD
  have hP1 : va_P (dC, dI) vwCl (zc_9 a1 k1 s1) H1 := hP1
  have hD1 : va_D A (zc_9 a1 k1 s1) := hD1
  clear hP hD hS hB1 hk1 hvm1 hz1 ht1
  refine lv_if_eq (tgt := 16) hx hb dX9_order_4 (by decide) (fun c2 => ?_) (fun c2 => ?_)
  · replace hR := ifp_ hR c2
    refine lv_iconst (v := (-1 : Int32)) hx hb dX9_order_16 (by decide) ?_
    subst hQe
    exact W.iret (v := (-1 : Int32)) hx hb hr (fun t ht hW => ⟨⟨(-1 : Int32), s1, rfl, (Option.some.inj hR).symm, by rw [ht]; exact hP1, va_K.moved hW.alike hK, hD1⟩, hS1.F ht⟩) hS1.2.2 dX9_order_17
  · replace hR := ifn_ hR c2
    refine lv_iload_n hx hb dX9_order_7 rfl (lv_at hl 2 rfl) ?_
    refine lv_iconst (v := (-1 : Int32)) hx hb dX9_order_8 (by decide) ?_
    refine lv_iconst (v := (5 : Int32)) hx hb dX9_order_9 (by decide) ?_
    have hR0 := ob_ok hR
    clear hR
    obtain ⟨q3, hq3, hR⟩ := hR0
    refine va_calli (va_runS (As := [.int x2, .int (-1 : Int32), .int (5 : Int32)]) (rest := []) ⟨hx, hb, hml, hown, hts⟩ (cc_X9_isWithin l dC dI fu H1.size x2 (-1 : Int32) (5 : Int32) q3 hq3) (va_cwS 3 hts gX9_order_X9_isWithin rfl rfl rfl (by decide +kernel) ⟨Nat.le_of_ble_eq_true rfl, Nat.le_of_ble_eq_true rfl⟩) (pf_s (nil_K hK) nil_P (nil_D (A := A))) rfl rfl hl.1 rfl (lv_room (Nat.le_of_ble_eq_true rfl)) dX9_order_10 ⟨Nat.le_refl _, Nat.le_refl _⟩) hS1 (fun q _ h => (fr_none hS1 hA) q h) (fr_none hS1 hA) (fun r3 v3 t3 H3 locs3 ht3 hvm3 hw3 hB3 hz3 hk3 hS3 => ?_)
    subst hw3
    have hP3 := jn_none hP1 hk3
    have hD3 := hD1
    have hP3 : va_P (dC, dI) vwCl (zc_9 a1 k1 s1) H3 := hP3
    have hD3 : va_D A (zc_9 a1 k1 s1) := hD3
    clear hP1 hD1 hS1 hB3 hk3 hvm3 hz3 ht3
    refine lv_if_ne (tgt := 18) hx hb dX9_order_13 (by decide) (fun c4 => ?_) (fun c4 => ?_)
    · replace hR := ifn_ hR c4
      refine lv_aload_n hx hb dX9_order_18 rfl (lv_at hl 0 rfl) ?_
      refine va_get (D := (dC, dI)) (ci := 9) (v := .ref (a1 1)) (C := RX9) (T := TX9) (N := 14) hx hb hts hin9 hown hK hP3 0 rfl rfl 0 (by decide) (hts (.fieldLink RX9 10 "OldestCoins" "town" "LOldestCoins$Town;") (List.mem_of_getElem? (i := 1) rfl)) (fun _ h9 => h9) rfl dX9_order_19 ?_
      refine va_get (D := (dC, dI)) (ci := 8) (v := .ref (a1 12)) (C := RX8) (T := TX8) (N := 4) hx hb hts hin8 hown hK hP3 1 rfl rfl 3 (by decide) (hts (.fieldLink RX9 198 "OldestCoins$Town" "errands" "LOldestCoins$Bills;") (List.mem_of_getElem? (i := 2) rfl)) (fun _ h9 => h9) rfl dX9_order_22 ?_
      refine va_get (D := (dC, dI)) (ci := 0) (v := .int s1.1.2.2.2.1) (C := RX0) (T := TX0) (N := 4) hx hb hts hin0 hown hK hP3 12 rfl rfl 0 (by decide) (hts (.fieldLink RX9 193 "OldestCoins$Bills" "size" "I") (List.mem_of_getElem? (i := 3) rfl)) (fun _ h9 => h9) rfl dX9_order_25 ?_
      refine lv_if_eq (tgt := 45) hx hb dX9_order_28 (by decide) (fun c5 => ?_) (fun c5 => ?_)
      · replace hR := ifp_ hR c5
        refine lv_bipush (v := (-4 : Int32)) hx hb dX9_order_45 (by decide) ?_
        subst hQe
        exact W.iret (v := (-4 : Int32)) hx hb hr (fun t ht hW => ⟨⟨(-4 : Int32), s1, rfl, (Option.some.inj hR).symm, by rw [ht]; exact hP3, va_K.moved hW.alike hK, hD3⟩, hS3.F ht⟩) hS3.2.2 dX9_order_47
      · replace hR := ifn_ hR c5
        refine lv_iload_n hx hb dX9_order_31 rfl (lv_at hl 2 rfl) ?_
        refine lv_aload_n hx hb dX9_order_32 rfl (lv_at hl 0 rfl) ?_
        refine va_get (D := (dC, dI)) (ci := 9) (v := .ref (a1 1)) (C := RX9) (T := TX9) (N := 14) hx hb hts hin9 hown hK hP3 0 rfl rfl 0 (by decide) (hts (.fieldLink RX9 10 "OldestCoins" "town" "LOldestCoins$Town;") (List.mem_of_getElem? (i := 1) rfl)) (fun _ h9 => h9) rfl dX9_order_33 ?_
        refine va_get (D := (dC, dI)) (ci := 8) (v := .ref (a1 12)) (C := RX8) (T := TX8) (N := 4) hx hb hts hin8 hown hK hP3 1 rfl rfl 3 (by decide) (hts (.fieldLink RX9 198 "OldestCoins$Town" "errands" "LOldestCoins$Bills;") (List.mem_of_getElem? (i := 2) rfl)) (fun _ h9 => h9) rfl dX9_order_36 ?_
        refine va_get (D := (dC, dI)) (ci := 0) (v := .int s1.1.2.2.2.1) (C := RX0) (T := TX0) (N := 4) hx hb hts hin0 hown hK hP3 12 rfl rfl 0 (by decide) (hts (.fieldLink RX9 193 "OldestCoins$Bills" "size" "I") (List.mem_of_getElem? (i := 3) rfl)) (fun _ h9 => h9) rfl dX9_order_39 ?_
        refine lv_icmp_lt (tgt := 48) hx hb dX9_order_42 (by decide) (fun c6 => ?_) (fun c6 => ?_)
        · replace hR := ifp_ hR c6
          refine lv_aload_n hx hb dX9_order_48 rfl (lv_at hl 0 rfl) ?_
          have hR0 := ob_ok hR
          clear hR
          obtain ⟨q7, hq7, hR⟩ := hR0
          refine va_callv (va_runV (As := []) (rest := []) ⟨hx, hb, hml, hown, hts⟩ (cc_X9_layOut l dC dI fu a1 k1 H3.size s1 q7 hq7) (cwV 0 hts gX9_order_X9_layOut rfl rfl rfl (by decide +kernel) ⟨Nat.le_of_ble_eq_true rfl, Nat.le_of_ble_eq_true rfl⟩) (pf_v hK hP3 hD3 9 0 rfl rfl rfl) rfl rfl hl.1 rfl (lv_room (Nat.le_of_ble_eq_true rfl)) dX9_order_49 ⟨Nat.le_refl _, Nat.le_refl _⟩) hS3 (fun q _ h => (fr_all hD3 hS3 hA) q h) (fr_all hD3 hS3 hA) (fun v7 t7 H7 locs7 ht7 hvm7 hw7 hB7 hz7 hk7 hS7 => ?_)
          subst hw7
          obtain ⟨hP7, hD7⟩ := jn_all hD3 hS3 hA ht7 hB7
          have hP7 : va_P (dC, dI) vwCl (zc_9 a1 k1 q7) H7 := hP7
          have hD7 : va_D A (zc_9 a1 k1 q7) := hD7
          clear hP3 hD3 hS3 hB7 hk7 hvm7 hz7 ht7
          refine lv_aload_n hx hb dX9_order_52 rfl (lv_at hl 0 rfl) ?_
          refine va_get (D := (dC, dI)) (ci := 9) (v := .ref (a1 47)) (C := RX9) (T := TX9) (N := 14) hx hb hts hin9 hown hK hP7 0 rfl rfl 8 (by decide) (hts (.fieldLink RX9 46 "OldestCoins" "tour" "LOldestCoins$Tour;") (List.mem_of_getElem? (i := 4) rfl)) (fun _ h9 => h9) rfl dX9_order_53 ?_
          refine lv_iload_n hx hb dX9_order_56 rfl (lv_at hl 1 rfl) ?_
          refine lv_lconst (v := (0 : Int64)) hx hb dX9_order_57 (by decide) ?_
          refine lv_iconst (v := (0 : Int32)) hx hb dX9_order_58 (by decide) ?_
          refine lv_iconst (v := (-1 : Int32)) hx hb dX9_order_59 (by decide) ?_
          refine lv_aload_n hx hb dX9_order_60 rfl (lv_at hl 0 rfl) ?_
          refine va_get (D := (dC, dI)) (ci := 9) (v := .ref (a1 1)) (C := RX9) (T := TX9) (N := 14) hx hb hts hin9 hown hK hP7 0 rfl rfl 0 (by decide) (hts (.fieldLink RX9 10 "OldestCoins" "town" "LOldestCoins$Town;") (List.mem_of_getElem? (i := 1) rfl)) (fun _ h9 => h9) rfl dX9_order_61 ?_
          refine va_get (D := (dC, dI)) (ci := 8) (v := .ref (a1 12)) (C := RX8) (T := TX8) (N := 4) hx hb hts hin8 hown hK hP7 1 rfl rfl 3 (by decide) (hts (.fieldLink RX9 198 "OldestCoins$Town" "errands" "LOldestCoins$Bills;") (List.mem_of_getElem? (i := 2) rfl)) (fun _ h9 => h9) rfl dX9_order_64 ?_
          refine va_get (D := (dC, dI)) (ci := 0) (v := .int q7.1.2.2.2.1) (C := RX0) (T := TX0) (N := 4) hx hb hts hin0 hown hK hP7 12 rfl rfl 0 (by decide) (hts (.fieldLink RX9 193 "OldestCoins$Bills" "size" "I") (List.mem_of_getElem? (i := 3) rfl)) (fun _ h9 => h9) rfl dX9_order_67 ?_
          have hR0 := ob_ok hR
          clear hR
          obtain ⟨q8, hq8, hR⟩ := hR0
          refine va_callv (va_runV (As := [.int x1, .long (0 : Int64), .int (0 : Int32), .int (-1 : Int32), .int q7.1.2.2.2.1]) (rest := []) ⟨hx, hb, hml, hown, hts⟩ (cc_X7_begin l dC dI fu (sh_ a1 47) (sh_ k1 47) H7.size x1 (0 : Int64) (0 : Int32) (-1 : Int32) q7.1.2.2.2.1 q7.2.2.2.2.2.2.2.2.1 q8 hq8) (cwV 5 hts gX9_order_X7_begin rfl rfl rfl (by decide +kernel) ⟨Nat.le_of_ble_eq_true rfl, Nat.le_of_ble_eq_true rfl⟩) (pf_v (hK.sub (tys' := zt_7 (sh_ k1 47)) [34, 35] rfl) (sub_P (sb_9__0c47 a1 k1 q7) hP7) (sub_D (sb_9__0c47 a1 k1 q7) hD7) 7 0 rfl rfl rfl) rfl rfl hl.1 rfl (lv_room (Nat.le_of_ble_eq_true rfl)) dX9_order_70 ⟨Nat.le_refl _, Nat.le_refl _⟩) hS7 (fun q _ h => (sub_F (sb_9__0c47 a1 k1 q7) hD7 hS7 hA) q h) (sub_F (sb_9__0c47 a1 k1 q7) hD7 hS7 hA) (fun v8 t8 H8 locs8 ht8 hvm8 hw8 hB8 hz8 hk8 hS8 => ?_)
          subst hw8
          obtain ⟨hP8, hD8⟩ := jn_sub (sb_9__0c47 a1 k1 q7) (jo_9__0c47__0 a1 k1 q7 q8) rfl hP7 hD7 hk8 ht8 hB8
          have hP8 : va_P (dC, dI) vwCl (zc_9 a1 k1 (q7.1, q7.2.1, q7.2.2.1, q7.2.2.2.1, q7.2.2.2.2.1, q7.2.2.2.2.2.1, q7.2.2.2.2.2.2.1, q7.2.2.2.2.2.2.2.1, q8, q7.2.2.2.2.2.2.2.2.2)) H8 := hP8
          have hD8 : va_D A (zc_9 a1 k1 (q7.1, q7.2.1, q7.2.2.1, q7.2.2.2.1, q7.2.2.2.2.1, q7.2.2.2.2.2.1, q7.2.2.2.2.2.2.1, q7.2.2.2.2.2.2.2.1, q8, q7.2.2.2.2.2.2.2.2.2)) := hD8
          clear hP7 hD7 hS7 hB8 hk8 hvm8 hz8 ht8
          refine lv_aload_n hx hb dX9_order_73 rfl (lv_at hl 0 rfl) ?_
          refine lv_iconst (v := (0 : Int32)) hx hb dX9_order_74 (by decide) ?_
          refine lv_iconst (v := (0 : Int32)) hx hb dX9_order_75 (by decide) ?_
          refine lv_iconst (v := (0 : Int32)) hx hb dX9_order_76 (by decide) ?_
          have hR0 := ob_ok hR
          clear hR
          obtain ⟨q9, hq9, hR⟩ := hR0
          refine va_callv (va_runV (As := [.int (0 : Int32), .int (0 : Int32), .int (0 : Int32)]) (rest := []) ⟨hx, hb, hml, hown, hts⟩ (cc_X9_seek l dC dI fu 8 a1 k1 H8.size (0 : Int32) (0 : Int32) (0 : Int32) (q7.1, q7.2.1, q7.2.2.1, q7.2.2.2.1, q7.2.2.2.2.1, q7.2.2.2.2.2.1, q7.2.2.2.2.2.2.1, q7.2.2.2.2.2.2.2.1, q8, q7.2.2.2.2.2.2.2.2.2) q9 hq9) (cwV 3 hts gX9_order_X9_seek rfl rfl rfl (by decide +kernel) ⟨Nat.le_of_ble_eq_true rfl, Nat.le_of_ble_eq_true rfl⟩) (pf_v hK hP8 hD8 9 0 rfl rfl rfl) rfl rfl hl.1 rfl (lv_room (Nat.le_of_ble_eq_true rfl)) dX9_order_77 ⟨Nat.le_refl _, Nat.le_refl _⟩) hS8 (fun q _ h => (fr_all hD8 hS8 hA) q h) (fr_all hD8 hS8 hA) (fun v9 t9 H9 locs9 ht9 hvm9 hw9 hB9 hz9 hk9 hS9 => ?_)
          subst hw9
          obtain ⟨hP9, hD9⟩ := jn_all hD8 hS8 hA ht9 hB9
          have hP9 : va_P (dC, dI) vwCl (zc_9 a1 k1 q9) H9 := hP9
          have hD9 : va_D A (zc_9 a1 k1 q9) := hD9
          clear hP8 hD8 hS8 hB9 hk9 hvm9 hz9 ht9
          refine lv_iload_n hx hb dX9_order_80 rfl (lv_at hl 2 rfl) ?_
          refine lv_iconst (v := (-1 : Int32)) hx hb dX9_order_81 (by decide) ?_
          refine lv_icmp_ne (tgt := 95) hx hb dX9_order_82 (by decide) (fun c10 => ?_) (fun c10 => ?_)
          · replace hR := ifn_ hR c10
            refine lv_aload_n hx hb dX9_order_95 rfl (lv_at hl 0 rfl) ?_
            refine va_get (D := (dC, dI)) (ci := 9) (v := .ref (a1 47)) (C := RX9) (T := TX9) (N := 14) hx hb hts hin9 hown hK hP9 0 rfl rfl 8 (by decide) (hts (.fieldLink RX9 46 "OldestCoins" "tour" "LOldestCoins$Tour;") (List.mem_of_getElem? (i := 4) rfl)) (fun _ h9 => h9) rfl dX9_order_96 ?_
            refine va_get (D := (dC, dI)) (ci := 7) (v := .ref (a1 49)) (C := RX7) (T := TX7) (N := 7) hx hb hts hin7 hown hK hP9 47 rfl rfl 4 (by decide) (hts (.fieldLink RX9 255 "OldestCoins$Tour" "found" "[I") (List.mem_of_getElem? (i := 6) rfl)) (fun _ h9 => h9) rfl dX9_order_99 ?_
            refine lv_iload_n hx hb dX9_order_102 rfl (lv_at hl 2 rfl) ?_
            have i11 := (ck_ok hR).1
            replace hR := (ck_ok hR).2
            refine va_iald (f := q9.2.2.2.2.2.2.2.2.1.2.2.2.2.1) hx hb hK hP9 49 35 rfl rfl i11 dX9_order_103 ?_
            subst hQe
            exact W.iret (v := (q9.2.2.2.2.2.2.2.2.1.2.2.2.2.1 x2.toNatClampNeg)) hx hb hr (fun t ht hW => ⟨⟨(q9.2.2.2.2.2.2.2.2.1.2.2.2.2.1 x2.toNatClampNeg), q9, rfl, (Option.some.inj hR).symm, by rw [ht]; exact hP9, va_K.moved hW.alike hK, hD9⟩, hS9.F ht⟩) hS9.2.2 dX9_order_104
          · replace hR := ifp_ hR c10
            refine lv_aload_n hx hb dX9_order_85 rfl (lv_at hl 0 rfl) ?_
            refine va_get (D := (dC, dI)) (ci := 9) (v := .ref (a1 47)) (C := RX9) (T := TX9) (N := 14) hx hb hts hin9 hown hK hP9 0 rfl rfl 8 (by decide) (hts (.fieldLink RX9 46 "OldestCoins" "tour" "LOldestCoins$Tour;") (List.mem_of_getElem? (i := 4) rfl)) (fun _ h9 => h9) rfl dX9_order_86 ?_
            refine va_get (D := (dC, dI)) (ci := 7) (v := .int q9.2.2.2.2.2.2.2.2.1.2.1) (C := RX7) (T := TX7) (N := 7) hx hb hts hin7 hown hK hP9 47 rfl rfl 1 (by decide) (hts (.fieldLink RX9 252 "OldestCoins$Tour" "best" "I") (List.mem_of_getElem? (i := 5) rfl)) (fun _ h9 => h9) rfl dX9_order_89 ?_
            refine lv_goto (tgt := 104) hx hb dX9_order_92 (by decide) ?_
            subst hQe
            exact W.iret (v := q9.2.2.2.2.2.2.2.2.1.2.1) hx hb hr (fun t ht hW => ⟨⟨q9.2.2.2.2.2.2.2.2.1.2.1, q9, rfl, (Option.some.inj hR).symm, by rw [ht]; exact hP9, va_K.moved hW.alike hK, hD9⟩, hS9.F ht⟩) hS9.2.2 dX9_order_104
        · replace hR := ifn_ hR c6
          refine lv_bipush (v := (-4 : Int32)) hx hb dX9_order_45 (by decide) ?_
          subst hQe
          exact W.iret (v := (-4 : Int32)) hx hb hr (fun t ht hW => ⟨⟨(-4 : Int32), s1, rfl, (Option.some.inj hR).symm, by rw [ht]; exact hP3, va_K.moved hW.alike hK, hD3⟩, hS3.F ht⟩) hS3.2.2 dX9_order_47
    · replace hR := ifp_ hR c4
      refine lv_iconst (v := (-1 : Int32)) hx hb dX9_order_16 (by decide) ?_
      subst hQe
      exact W.iret (v := (-1 : Int32)) hx hb hr (fun t ht hW => ⟨⟨(-1 : Int32), s1, rfl, (Option.some.inj hR).symm, by rw [ht]; exact hP3, va_K.moved hW.alike hK, hD3⟩, hS3.F ht⟩) hS3.2.2 dX9_order_17
def rr_X9_home (fu : Nat) (s1 : ZT_9) : Option (Int32 × ZT_9) := some (s1.1.2.2.2.1, ((s1.1.1, s1.1.2.1, s1.1.2.2.1, ((0 : Int32), s1.1.2.2.2.2)), s1.2))
set_option maxHeartbeats 4000000 in
set_option maxRecDepth 100000 in
theorem cc_X9_home (l : Launch) (dC : Nat → ClassId) (dI : Nat → Nat → Nat) (fu : Nat) (a1 : Nat → Nat) (k1 : Nat → ClassId) (sz : Nat) (s1 : ZT_9) (res : Int32 × ZT_9) (hR : rr_X9_home fu s1 = some res) : Met l yX9_home wsX9_home ({ frames := 0, cells := 0, slots := 0, locals := 0 } : Room) (PcF [.ref (a1 0)] sz (dC, dI) (zc_9 a1 k1 s1) (zt_9 k1)) (va_Qi (fun (r : Int32) (u : ZT_9) => res = (r, u)) (fun u t => at3_ (dC, dI) (zc_9 a1 k1 u) (zt_9 k1) (va_A (zc_9 a1 k1 s1) sz) t) (va_A (zc_9 a1 k1 s1) sz)) 0 0 (va_A (zc_9 a1 k1 s1) sz) := by
  refine Met.ofW (cc := cX9_home) (maxL := 2) (ret := (some .int)) (by decide) rfl ?_
  intro p e s m args below meth c s₁ B hml hv
  obtain ⟨hav, hsz, hP, hK, hD0⟩ := hv
  have hx := B.exec
  have hb := B.bytes
  have hr := B.returns
  have hts := atoms_spec (ws := wsX9_home) B.pre
  have hown : s.vm.findClass RX9 = some m.cls := findClass_of_methodNamed B.named
  have hlocks := B.notSynchronized
  have hin0 : ∀ w ∈ wsX00, w ∈ wsX9_home := fun w h => List.mem_cons_of_mem _ (List.mem_append_right _ h)
  have hin8 : ∀ w ∈ wsX80, w ∈ wsX9_home := fun w h => List.mem_cons_of_mem _ (List.mem_append_left _ (List.mem_append_right _ h))
  have hin9 : ∀ w ∈ wsX90, w ∈ wsX9_home := fun w h => List.mem_cons_of_mem _ (List.mem_append_left _ (List.mem_append_left _ (List.mem_append_right _ h)))
  subst hsz
  have hD := hD0.self (sz := s.heap.size)
  clear hD0
  generalize hAe : va_A (zc_9 a1 k1 s1) s.heap.size = A at hD ⊢
  have hA : ∀ q : Nat, s.heap.size ≤ q → A q := fun q h => by rw [← hAe]; exact Or.inr h
  have hS : va_S A s.heap s.heap [] := va_S.rf
  generalize hQe : MQ below _ args s 0 0 A = Q
  rw [show entryFrame m args 2 = F0 m 0 ((lg_sl ([.ref (a1 0)]) ++ List.replicate (2 - (lg_sl ([.ref (a1 0)])).length) Slot.unset).toArray) [] from by rw [hav]; exact lg_entry_eq m _ _]
  have hl := lv_entry ([.ref (a1 0)]) (n := 2) (Nat.le_of_ble_eq_true rfl)
  generalize (lg_sl ([.ref (a1 0)]) ++ List.replicate (2 - (lg_sl ([.ref (a1 0)])).length) Slot.unset).toArray = ls at hl ⊢
  have hl : lv_has ls 2 [(0, .ref (a1 0))] := hl
  unfold rr_X9_home at hR
  refine lv_aload_n hx hb dX9_home_0 rfl (lv_at hl 0 rfl) ?_
  refine va_get (D := (dC, dI)) (ci := 9) (v := .ref (a1 1)) (C := RX9) (T := TX9) (N := 14) hx hb hts hin9 hown hK hP 0 rfl rfl 0 (by decide) (hts (.fieldLink RX9 10 "OldestCoins" "town" "LOldestCoins$Town;") (List.mem_of_getElem? (i := 1) rfl)) (fun _ h9 => h9) rfl dX9_home_1 ?_
  refine va_get (D := (dC, dI)) (ci := 8) (v := .ref (a1 12)) (C := RX8) (T := TX8) (N := 4) hx hb hts hin8 hown hK hP 1 rfl rfl 3 (by decide) (hts (.fieldLink RX9 198 "OldestCoins$Town" "errands" "LOldestCoins$Bills;") (List.mem_of_getElem? (i := 2) rfl)) (fun _ h9 => h9) rfl dX9_home_4 ?_
  refine va_get (D := (dC, dI)) (ci := 0) (v := .int s1.1.2.2.2.1) (C := RX0) (T := TX0) (N := 4) hx hb hts hin0 hown hK hP 12 rfl rfl 0 (by decide) (hts (.fieldLink RX9 193 "OldestCoins$Bills" "size" "I") (List.mem_of_getElem? (i := 3) rfl)) (fun _ h9 => h9) rfl dX9_home_7 ?_
  refine lv_istore_n (lv' := [(1, .int s1.1.2.2.2.1), (0, .ref (a1 0))]) hx hb dX9_home_10 rfl hl (by decide) rfl (fun ls1 hl1 => ?_)
  refine lv_aload_n hx hb dX9_home_11 rfl (lv_at hl1 1 rfl) ?_
  refine va_get (D := (dC, dI)) (ci := 9) (v := .ref (a1 1)) (C := RX9) (T := TX9) (N := 14) hx hb hts hin9 hown hK hP 0 rfl rfl 0 (by decide) (hts (.fieldLink RX9 10 "OldestCoins" "town" "LOldestCoins$Town;") (List.mem_of_getElem? (i := 1) rfl)) (fun _ h9 => h9) rfl dX9_home_12 ?_
  refine va_get (D := (dC, dI)) (ci := 8) (v := .ref (a1 12)) (C := RX8) (T := TX8) (N := 4) hx hb hts hin8 hown hK hP 1 rfl rfl 3 (by decide) (hts (.fieldLink RX9 198 "OldestCoins$Town" "errands" "LOldestCoins$Bills;") (List.mem_of_getElem? (i := 2) rfl)) (fun _ h9 => h9) rfl dX9_home_15 ?_
  refine lv_iconst (v := (0 : Int32)) hx hb dX9_home_18 (by decide) ?_
  refine va_put (D := (dC, dI)) (ci := 0) (v := .int (0 : Int32)) (ty := .int) (C := RX0) (T := TX0) (N := 4) hx hb hts hin0 tyX0 tyX0_ok nmX0 hown hK hP hD hS 12 rfl rfl 0 (by decide) (hts (.fieldLink RX9 193 "OldestCoins$Bills" "size" "I") (List.mem_of_getElem? (i := 3) rfl)) (fun _ h9 => h9) rfl (by decide +kernel) rfl rfl (Nat.le_of_ble_eq_true rfl) dX9_home_19 (fun H2 locs2 hP2 hD2 hS2 => ?_)
  have hP2 : va_P (dC, dI) vwCl (zc_9 a1 k1 ((s1.1.1, s1.1.2.1, s1.1.2.2.1, ((0 : Int32), s1.1.2.2.2.2)), s1.2)) H2 := hP2
  have hD2 : va_D A (zc_9 a1 k1 ((s1.1.1, s1.1.2.1, s1.1.2.2.1, ((0 : Int32), s1.1.2.2.2.2)), s1.2)) := hD2
  clear hP hD hS
  refine lv_iload_n hx hb dX9_home_22 rfl (lv_at hl1 0 rfl) ?_
  subst hQe
  exact W.iret (v := s1.1.2.2.2.1) hx hb hr (fun t ht hW => ⟨⟨s1.1.2.2.2.1, ((s1.1.1, s1.1.2.1, s1.1.2.2.1, ((0 : Int32), s1.1.2.2.2.2)), s1.2), rfl, (Option.some.inj hR).symm, by rw [ht]; exact hP2, va_K.moved hW.alike hK, hD2⟩, hS2.F ht⟩) hS2.2.2 dX9_home_23
def rr_X9_errand (fu : Nat) (x1 : Int32) (x2 : Int32) (s1 : ZT_9) : Option (Int32 × ZT_9) := (rr_X9_isShop fu x1).bind (fun q1 => (if q1 = (0 : Int32) then some ((-1 : Int32), s1) else (rr_X9_isSum fu x2).bind (fun q3 => (if q3 = (0 : Int32) then some ((-1 : Int32), s1) else (if s1.1.2.2.2.1 < (6 : Int32) then (rr_X0_add fu 6 (0 : Int32) x1 x2 s1.1.2.2.2).bind (fun q6 => some ((q6.1 - (1 : Int32)), ((s1.1.1, s1.1.2.1, s1.1.2.2.1, q6), s1.2))) else some ((-3 : Int32), s1))))))
set_option maxRecDepth 100000 in
theorem sb_9__0c12 (a1 : Nat → Nat) (k1 : Nat → ClassId) (s1 : ZT_9) : List.Perm (zc_9 a1 k1 s1) ((zc_0 (sh_ (sh_ a1 1) 11) (sh_ (sh_ k1 1) 11) 6 s1.1.2.2.2) ++ ([(a1 0, .inr (9, [.ref (a1 1), .ref (a1 16), .int s1.2.2.1, .ref (a1 31), .int s1.2.2.2.2.1, .ref (a1 37), .ref (a1 43), .ref (a1 45), .ref (a1 47), .ref (a1 50), .ref (a1 54), .ref (a1 56), .ref (a1 62), .ref (a1 66)]))] ++ (([((sh_ a1 1) 0, .inr (8, [.int s1.1.1, .ref ((sh_ a1 1) 1), .ref ((sh_ a1 1) 7), .ref ((sh_ a1 1) 11)]))] ++ (zc_2 (sh_ (sh_ a1 1) 1) (sh_ (sh_ k1 1) 1) 40 s1.1.2.1 ++ (zc_0 (sh_ (sh_ a1 1) 7) (sh_ (sh_ k1 1) 7) 24 s1.1.2.2.1 ++ ([] : va_W)))) ++ (zc_8 (sh_ a1 16) (sh_ k1 16) s1.2.1 ++ (zc_4 (sh_ a1 31) (sh_ k1 31) s1.2.2.2.1 ++ (zc_4 (sh_ a1 37) (sh_ k1 37) s1.2.2.2.2.2.1 ++ (zc_1 (sh_ a1 43) (sh_ k1 43) s1.2.2.2.2.2.2.1 ++ (zc_1 (sh_ a1 45) (sh_ k1 45) s1.2.2.2.2.2.2.2.1 ++ (zc_7 (sh_ a1 47) (sh_ k1 47) s1.2.2.2.2.2.2.2.2.1 ++ (zc_3 (sh_ a1 50) (sh_ k1 50) s1.2.2.2.2.2.2.2.2.2.1 ++ (zc_6 (sh_ a1 54) (sh_ k1 54) s1.2.2.2.2.2.2.2.2.2.2.1 ++ (zc_2 (sh_ a1 56) (sh_ k1 56) 10 s1.2.2.2.2.2.2.2.2.2.2.2.1 ++ (zc_0 (sh_ a1 62) (sh_ k1 62) 24 s1.2.2.2.2.2.2.2.2.2.2.2.2.1 ++ zc_5 (sh_ a1 66) (sh_ k1 66) s1.2.2.2.2.2.2.2.2.2.2.2.2.2))))))))))))) := (pu_r ([(a1 0, .inr (9, [.ref (a1 1), .ref (a1 16), .int s1.2.2.1, .ref (a1 31), .int s1.2.2.2.2.1, .ref (a1 37), .ref (a1 43), .ref (a1 45), .ref (a1 47), .ref (a1 50), .ref (a1 54), .ref (a1 56), .ref (a1 62), .ref (a1 66)]))]) (pu_l ((zc_8 (sh_ a1 16) (sh_ k1 16) s1.2.1 ++ (zc_4 (sh_ a1 31) (sh_ k1 31) s1.2.2.2.1 ++ (zc_4 (sh_ a1 37) (sh_ k1 37) s1.2.2.2.2.2.1 ++ (zc_1 (sh_ a1 43) (sh_ k1 43) s1.2.2.2.2.2.2.1 ++ (zc_1 (sh_ a1 45) (sh_ k1 45) s1.2.2.2.2.2.2.2.1 ++ (zc_7 (sh_ a1 47) (sh_ k1 47) s1.2.2.2.2.2.2.2.2.1 ++ (zc_3 (sh_ a1 50) (sh_ k1 50) s1.2.2.2.2.2.2.2.2.2.1 ++ (zc_6 (sh_ a1 54) (sh_ k1 54) s1.2.2.2.2.2.2.2.2.2.2.1 ++ (zc_2 (sh_ a1 56) (sh_ k1 56) 10 s1.2.2.2.2.2.2.2.2.2.2.2.1 ++ (zc_0 (sh_ a1 62) (sh_ k1 62) 24 s1.2.2.2.2.2.2.2.2.2.2.2.2.1 ++ zc_5 (sh_ a1 66) (sh_ k1 66) s1.2.2.2.2.2.2.2.2.2.2.2.2.2))))))))))) (pu_r ([((sh_ a1 1) 0, .inr (8, [.int s1.1.1, .ref ((sh_ a1 1) 1), .ref ((sh_ a1 1) 7), .ref ((sh_ a1 1) 11)]))]) (pu_r (zc_2 (sh_ (sh_ a1 1) 1) (sh_ (sh_ k1 1) 1) 40 s1.1.2.1) (pu_r (zc_0 (sh_ (sh_ a1 1) 7) (sh_ (sh_ k1 1) 7) 24 s1.1.2.2.1) (pu_1 (zc_0 (sh_ (sh_ a1 1) 11) (sh_ (sh_ k1 1) 11) 6 s1.1.2.2.2)))))))
set_option maxRecDepth 100000 in
theorem jo_9__0c12__0 (a1 : Nat → Nat) (k1 : Nat → ClassId) (s1 : ZT_9) (u1 : ZT_0) : List.Perm (zc_9 a1 k1 ((s1.1.1, s1.1.2.1, s1.1.2.2.1, u1), s1.2)) ((zc_0 (sh_ (sh_ a1 1) 11) (sh_ (sh_ k1 1) 11) 6 u1) ++ ([(a1 0, .inr (9, [.ref (a1 1), .ref (a1 16), .int s1.2.2.1, .ref (a1 31), .int s1.2.2.2.2.1, .ref (a1 37), .ref (a1 43), .ref (a1 45), .ref (a1 47), .ref (a1 50), .ref (a1 54), .ref (a1 56), .ref (a1 62), .ref (a1 66)]))] ++ (([((sh_ a1 1) 0, .inr (8, [.int s1.1.1, .ref ((sh_ a1 1) 1), .ref ((sh_ a1 1) 7), .ref ((sh_ a1 1) 11)]))] ++ (zc_2 (sh_ (sh_ a1 1) 1) (sh_ (sh_ k1 1) 1) 40 s1.1.2.1 ++ (zc_0 (sh_ (sh_ a1 1) 7) (sh_ (sh_ k1 1) 7) 24 s1.1.2.2.1 ++ ([] : va_W)))) ++ (zc_8 (sh_ a1 16) (sh_ k1 16) s1.2.1 ++ (zc_4 (sh_ a1 31) (sh_ k1 31) s1.2.2.2.1 ++ (zc_4 (sh_ a1 37) (sh_ k1 37) s1.2.2.2.2.2.1 ++ (zc_1 (sh_ a1 43) (sh_ k1 43) s1.2.2.2.2.2.2.1 ++ (zc_1 (sh_ a1 45) (sh_ k1 45) s1.2.2.2.2.2.2.2.1 ++ (zc_7 (sh_ a1 47) (sh_ k1 47) s1.2.2.2.2.2.2.2.2.1 ++ (zc_3 (sh_ a1 50) (sh_ k1 50) s1.2.2.2.2.2.2.2.2.2.1 ++ (zc_6 (sh_ a1 54) (sh_ k1 54) s1.2.2.2.2.2.2.2.2.2.2.1 ++ (zc_2 (sh_ a1 56) (sh_ k1 56) 10 s1.2.2.2.2.2.2.2.2.2.2.2.1 ++ (zc_0 (sh_ a1 62) (sh_ k1 62) 24 s1.2.2.2.2.2.2.2.2.2.2.2.2.1 ++ zc_5 (sh_ a1 66) (sh_ k1 66) s1.2.2.2.2.2.2.2.2.2.2.2.2.2))))))))))))) := (pu_r ([(a1 0, .inr (9, [.ref (a1 1), .ref (a1 16), .int s1.2.2.1, .ref (a1 31), .int s1.2.2.2.2.1, .ref (a1 37), .ref (a1 43), .ref (a1 45), .ref (a1 47), .ref (a1 50), .ref (a1 54), .ref (a1 56), .ref (a1 62), .ref (a1 66)]))]) (pu_l ((zc_8 (sh_ a1 16) (sh_ k1 16) s1.2.1 ++ (zc_4 (sh_ a1 31) (sh_ k1 31) s1.2.2.2.1 ++ (zc_4 (sh_ a1 37) (sh_ k1 37) s1.2.2.2.2.2.1 ++ (zc_1 (sh_ a1 43) (sh_ k1 43) s1.2.2.2.2.2.2.1 ++ (zc_1 (sh_ a1 45) (sh_ k1 45) s1.2.2.2.2.2.2.2.1 ++ (zc_7 (sh_ a1 47) (sh_ k1 47) s1.2.2.2.2.2.2.2.2.1 ++ (zc_3 (sh_ a1 50) (sh_ k1 50) s1.2.2.2.2.2.2.2.2.2.1 ++ (zc_6 (sh_ a1 54) (sh_ k1 54) s1.2.2.2.2.2.2.2.2.2.2.1 ++ (zc_2 (sh_ a1 56) (sh_ k1 56) 10 s1.2.2.2.2.2.2.2.2.2.2.2.1 ++ (zc_0 (sh_ a1 62) (sh_ k1 62) 24 s1.2.2.2.2.2.2.2.2.2.2.2.2.1 ++ zc_5 (sh_ a1 66) (sh_ k1 66) s1.2.2.2.2.2.2.2.2.2.2.2.2.2))))))))))) (pu_r ([((sh_ a1 1) 0, .inr (8, [.int s1.1.1, .ref ((sh_ a1 1) 1), .ref ((sh_ a1 1) 7), .ref ((sh_ a1 1) 11)]))]) (pu_r (zc_2 (sh_ (sh_ a1 1) 1) (sh_ (sh_ k1 1) 1) 40 s1.1.2.1) (pu_r (zc_0 (sh_ (sh_ a1 1) 7) (sh_ (sh_ k1 1) 7) 24 s1.1.2.2.1) (pu_1 (zc_0 (sh_ (sh_ a1 1) 11) (sh_ (sh_ k1 1) 11) 6 u1)))))))
set_option maxHeartbeats 4000000 in
set_option maxRecDepth 100000 in
theorem cc_X9_errand (l : Launch) (dC : Nat → ClassId) (dI : Nat → Nat → Nat) (fu : Nat) (a1 : Nat → Nat) (k1 : Nat → ClassId) (sz : Nat) (x1 : Int32) (x2 : Int32) (s1 : ZT_9) (res : Int32 × ZT_9) (hR : rr_X9_errand fu x1 x2 s1 = some res) : Met l yX9_errand wsX9_errand ({ frames := 2, cells := 0, slots := 0, locals := 42 } : Room) (PcF [.ref (a1 0), .int x1, .int x2] sz (dC, dI) (zc_9 a1 k1 s1) (zt_9 k1)) (va_Qi (fun (r : Int32) (u : ZT_9) => res = (r, u)) (fun u t => at3_ (dC, dI) (zc_9 a1 k1 u) (zt_9 k1) (va_A (zc_9 a1 k1 s1) sz) t) (va_A (zc_9 a1 k1 s1) sz)) 0 0 (va_A (zc_9 a1 k1 s1) sz) := by
  refine Met.ofW (cc := cX9_errand) (maxL := 3) (ret := (some .int)) (by decide) rfl ?_
  intro p e s m args below meth c s₁ B hml hv
  obtain ⟨hav, hsz, hP, hK, hD0⟩ := hv
  have hx := B.exec
  have hb := B.bytes
  have hr := B.returns
  have hts := atoms_spec (ws := wsX9_errand) B.pre
  have hown : s.vm.findClass RX9 = some m.cls := findClass_of_methodNamed B.named
  have hlocks := B.notSynchronized
  have hin0 : ∀ w ∈ wsX00, w ∈ wsX9_errand := fun w h => List.mem_cons_of_mem _ (List.mem_append_right _ h)
  have hin8 : ∀ w ∈ wsX80, w ∈ wsX9_errand := fun w h => List.mem_cons_of_mem _ (List.mem_append_left _ (List.mem_append_right _ h))
  have hin9 : ∀ w ∈ wsX90, w ∈ wsX9_errand := fun w h => List.mem_cons_of_mem _ (List.mem_append_left _ (List.mem_append_left _ (List.mem_append_right _ h)))
  subst hsz
  have hD := hD0.self (sz := s.heap.size)
  clear hD0
  generalize hAe : va_A (zc_9 a1 k1 s1) s.heap.size = A at hD ⊢
  have hA : ∀ q : Nat, s.heap.size ≤ q → A q := fun q h => by rw [← hAe]; exact Or.inr h
  have hS : va_S A s.heap s.heap [] := va_S.rf
  generalize hQe : MQ below _ args s 0 0 A = Q
  rw [show entryFrame m args 3 = F0 m 0 ((lg_sl ([.ref (a1 0), .int x1, .int x2]) ++ List.replicate (3 - (lg_sl ([.ref (a1 0), .int x1, .int x2])).length) Slot.unset).toArray) [] from by rw [hav]; exact lg_entry_eq m _ _]
  have hl := lv_entry ([.ref (a1 0), .int x1, .int x2]) (n := 3) (Nat.le_of_ble_eq_true rfl)
  generalize (lg_sl ([.ref (a1 0), .int x1, .int x2]) ++ List.replicate (3 - (lg_sl ([.ref (a1 0), .int x1, .int x2])).length) Slot.unset).toArray = ls at hl ⊢
  have hl : lv_has ls 3 [(0, .ref (a1 0)), (1, .int x1), (2, .int x2)] := hl
  unfold rr_X9_errand at hR
  refine lv_iload_n hx hb dX9_errand_0 rfl (lv_at hl 1 rfl) ?_
  have hR0 := ob_ok hR
  clear hR
  obtain ⟨q1, hq1, hR⟩ := hR0
  refine va_calli (va_runS (As := [.int x1]) (rest := []) ⟨hx, hb, hml, hown, hts⟩ (cc_X9_isShop l dC dI fu s.heap.size x1 q1 hq1) (va_cwS 1 hts gX9_errand_X9_isShop rfl rfl rfl (by decide +kernel) ⟨Nat.le_of_ble_eq_true rfl, Nat.le_of_ble_eq_true rfl⟩) (pf_s (nil_K hK) nil_P (nil_D (A := A))) rfl rfl hl.1 rfl (lv_room (Nat.le_of_ble_eq_true rfl)) dX9_errand_1 ⟨Nat.le_refl _, Nat.le_refl _⟩) hS (fun q _ h => (fr_none hS hA) q h) (fr_none hS hA) (fun r1 v1 t1 H1 locs1 ht1 hvm1 hw1 hB1 hz1 hk1 hS1 => ?_)
  subst hw1
  have hP1 := jn_none hP hk1
  have hD1 := hD
  have hP1 : va_P (dC, dI) vwCl (zc_9 a1 k1 s1) H1 := hP1
  have hD1 : va_D A (zc_9 a1 k1 s1) := hD1
  clear hP hD hS hB1 hk1 hvm1 hz1 ht1
  refine lv_if_eq (tgt := 14) hx hb dX9_errand_4 (by decide) (fun c2 => ?_) (fun c2 => ?_)
  · replace hR := ifp_ hR c2
    refine lv_iconst (v := (-1 : Int32)) hx hb dX9_errand_14 (by decide) ?_
    subst hQe
    exact W.iret (v := (-1 : Int32)) hx hb hr (fun t ht hW => ⟨⟨(-1 : Int32), s1, rfl, (Option.some.inj hR).symm, by rw [ht]; exact hP1, va_K.moved hW.alike hK, hD1⟩, hS1.F ht⟩) hS1.2.2 dX9_errand_15
  · replace hR := ifn_ hR c2
    refine lv_iload_n hx hb dX9_errand_7 rfl (lv_at hl 2 rfl) ?_
    have hR0 := ob_ok hR
    clear hR
    obtain ⟨q3, hq3, hR⟩ := hR0
    refine va_calli (va_runS (As := [.int x2]) (rest := []) ⟨hx, hb, hml, hown, hts⟩ (cc_X9_isSum l dC dI fu H1.size x2 q3 hq3) (va_cwS 1 hts gX9_errand_X9_isSum rfl rfl rfl (by decide +kernel) ⟨Nat.le_of_ble_eq_true rfl, Nat.le_of_ble_eq_true rfl⟩) (pf_s (nil_K hK) nil_P (nil_D (A := A))) rfl rfl hl.1 rfl (lv_room (Nat.le_of_ble_eq_true rfl)) dX9_errand_8 ⟨Nat.le_refl _, Nat.le_refl _⟩) hS1 (fun q _ h => (fr_none hS1 hA) q h) (fr_none hS1 hA) (fun r3 v3 t3 H3 locs3 ht3 hvm3 hw3 hB3 hz3 hk3 hS3 => ?_)
    subst hw3
    have hP3 := jn_none hP1 hk3
    have hD3 := hD1
    have hP3 : va_P (dC, dI) vwCl (zc_9 a1 k1 s1) H3 := hP3
    have hD3 : va_D A (zc_9 a1 k1 s1) := hD3
    clear hP1 hD1 hS1 hB3 hk3 hvm3 hz3 ht3
    refine lv_if_ne (tgt := 16) hx hb dX9_errand_11 (by decide) (fun c4 => ?_) (fun c4 => ?_)
    · replace hR := ifn_ hR c4
      refine lv_aload_n hx hb dX9_errand_16 rfl (lv_at hl 0 rfl) ?_
      refine va_get (D := (dC, dI)) (ci := 9) (v := .ref (a1 1)) (C := RX9) (T := TX9) (N := 14) hx hb hts hin9 hown hK hP3 0 rfl rfl 0 (by decide) (hts (.fieldLink RX9 10 "OldestCoins" "town" "LOldestCoins$Town;") (List.mem_of_getElem? (i := 1) rfl)) (fun _ h9 => h9) rfl dX9_errand_17 ?_
      refine va_get (D := (dC, dI)) (ci := 8) (v := .ref (a1 12)) (C := RX8) (T := TX8) (N := 4) hx hb hts hin8 hown hK hP3 1 rfl rfl 3 (by decide) (hts (.fieldLink RX9 198 "OldestCoins$Town" "errands" "LOldestCoins$Bills;") (List.mem_of_getElem? (i := 2) rfl)) (fun _ h9 => h9) rfl dX9_errand_20 ?_
      refine va_get (D := (dC, dI)) (ci := 0) (v := .int s1.1.2.2.2.1) (C := RX0) (T := TX0) (N := 4) hx hb hts hin0 hown hK hP3 12 rfl rfl 0 (by decide) (hts (.fieldLink RX9 193 "OldestCoins$Bills" "size" "I") (List.mem_of_getElem? (i := 3) rfl)) (fun _ h9 => h9) rfl dX9_errand_23 ?_
      refine lv_bipush (v := (6 : Int32)) hx hb dX9_errand_26 (by decide) ?_
      refine lv_icmp_lt (tgt := 34) hx hb dX9_errand_28 (by decide) (fun c5 => ?_) (fun c5 => ?_)
      · replace hR := ifp_ hR c5
        refine lv_aload_n hx hb dX9_errand_34 rfl (lv_at hl 0 rfl) ?_
        refine va_get (D := (dC, dI)) (ci := 9) (v := .ref (a1 1)) (C := RX9) (T := TX9) (N := 14) hx hb hts hin9 hown hK hP3 0 rfl rfl 0 (by decide) (hts (.fieldLink RX9 10 "OldestCoins" "town" "LOldestCoins$Town;") (List.mem_of_getElem? (i := 1) rfl)) (fun _ h9 => h9) rfl dX9_errand_35 ?_
        refine va_get (D := (dC, dI)) (ci := 8) (v := .ref (a1 12)) (C := RX8) (T := TX8) (N := 4) hx hb hts hin8 hown hK hP3 1 rfl rfl 3 (by decide) (hts (.fieldLink RX9 198 "OldestCoins$Town" "errands" "LOldestCoins$Bills;") (List.mem_of_getElem? (i := 2) rfl)) (fun _ h9 => h9) rfl dX9_errand_38 ?_
        refine lv_iconst (v := (0 : Int32)) hx hb dX9_errand_41 (by decide) ?_
        refine lv_iload_n hx hb dX9_errand_42 rfl (lv_at hl 1 rfl) ?_
        refine lv_iload_n hx hb dX9_errand_43 rfl (lv_at hl 2 rfl) ?_
        have hR0 := ob_ok hR
        clear hR
        obtain ⟨q6, hq6, hR⟩ := hR0
        refine va_callv (va_runV (As := [.int (0 : Int32), .int x1, .int x2]) (rest := []) ⟨hx, hb, hml, hown, hts⟩ (cc_X0_add l dC dI fu (sh_ (sh_ a1 1) 11) (sh_ (sh_ k1 1) 11) 6 H3.size (0 : Int32) x1 x2 s1.1.2.2.2 q6 hq6) (cwV 3 hts gX9_errand_X0_add rfl rfl rfl (by decide +kernel) ⟨Nat.le_of_ble_eq_true rfl, Nat.le_of_ble_eq_true rfl⟩) (pf_v (hK.sub (tys' := zt_0 (sh_ (sh_ k1 1) 11)) [8, 9, 10] rfl) (sub_P (sb_9__0c12 a1 k1 s1) hP3) (sub_D (sb_9__0c12 a1 k1 s1) hD3) 0 0 rfl rfl rfl) rfl rfl hl.1 rfl (lv_room (Nat.le_of_ble_eq_true rfl)) dX9_errand_44 ⟨Nat.le_refl _, Nat.le_refl _⟩) hS3 (fun q _ h => (sub_F (sb_9__0c12 a1 k1 s1) hD3 hS3 hA) q h) (sub_F (sb_9__0c12 a1 k1 s1) hD3 hS3 hA) (fun v6 t6 H6 locs6 ht6 hvm6 hw6 hB6 hz6 hk6 hS6 => ?_)
        subst hw6
        obtain ⟨hP6, hD6⟩ := jn_sub (sb_9__0c12 a1 k1 s1) (jo_9__0c12__0 a1 k1 s1 q6) rfl hP3 hD3 hk6 ht6 hB6
        have hP6 : va_P (dC, dI) vwCl (zc_9 a1 k1 ((s1.1.1, s1.1.2.1, s1.1.2.2.1, q6), s1.2)) H6 := hP6
        have hD6 : va_D A (zc_9 a1 k1 ((s1.1.1, s1.1.2.1, s1.1.2.2.1, q6), s1.2)) := hD6
        clear hP3 hD3 hS3 hB6 hk6 hvm6 hz6 ht6
        refine lv_aload_n hx hb dX9_errand_47 rfl (lv_at hl 0 rfl) ?_
        refine va_get (D := (dC, dI)) (ci := 9) (v := .ref (a1 1)) (C := RX9) (T := TX9) (N := 14) hx hb hts hin9 hown hK hP6 0 rfl rfl 0 (by decide) (hts (.fieldLink RX9 10 "OldestCoins" "town" "LOldestCoins$Town;") (List.mem_of_getElem? (i := 1) rfl)) (fun _ h9 => h9) rfl dX9_errand_48 ?_
        refine va_get (D := (dC, dI)) (ci := 8) (v := .ref (a1 12)) (C := RX8) (T := TX8) (N := 4) hx hb hts hin8 hown hK hP6 1 rfl rfl 3 (by decide) (hts (.fieldLink RX9 198 "OldestCoins$Town" "errands" "LOldestCoins$Bills;") (List.mem_of_getElem? (i := 2) rfl)) (fun _ h9 => h9) rfl dX9_errand_51 ?_
        refine va_get (D := (dC, dI)) (ci := 0) (v := .int q6.1) (C := RX0) (T := TX0) (N := 4) hx hb hts hin0 hown hK hP6 12 rfl rfl 0 (by decide) (hts (.fieldLink RX9 193 "OldestCoins$Bills" "size" "I") (List.mem_of_getElem? (i := 3) rfl)) (fun _ h9 => h9) rfl dX9_errand_54 ?_
        refine lv_iconst (v := (1 : Int32)) hx hb dX9_errand_57 (by decide) ?_
        refine lv_isub hx hb dX9_errand_58 ?_
        subst hQe
        exact W.iret (v := (q6.1 - (1 : Int32))) hx hb hr (fun t ht hW => ⟨⟨(q6.1 - (1 : Int32)), ((s1.1.1, s1.1.2.1, s1.1.2.2.1, q6), s1.2), rfl, (Option.some.inj hR).symm, by rw [ht]; exact hP6, va_K.moved hW.alike hK, hD6⟩, hS6.F ht⟩) hS6.2.2 dX9_errand_59
      · replace hR := ifn_ hR c5
        refine lv_bipush (v := (-3 : Int32)) hx hb dX9_errand_31 (by decide) ?_
        subst hQe
        exact W.iret (v := (-3 : Int32)) hx hb hr (fun t ht hW => ⟨⟨(-3 : Int32), s1, rfl, (Option.some.inj hR).symm, by rw [ht]; exact hP3, va_K.moved hW.alike hK, hD3⟩, hS3.F ht⟩) hS3.2.2 dX9_errand_33
    · replace hR := ifp_ hR c4
      refine lv_iconst (v := (-1 : Int32)) hx hb dX9_errand_14 (by decide) ?_
      subst hQe
      exact W.iret (v := (-1 : Int32)) hx hb hr (fun t ht hW => ⟨⟨(-1 : Int32), s1, rfl, (Option.some.inj hR).symm, by rw [ht]; exact hP3, va_K.moved hW.alike hK, hD3⟩, hS3.F ht⟩) hS3.2.2 dX9_errand_15
def rr_X9_least_114 (fu : Nat) (rec57 : Int32 → Int32 → Int32 → Int32 → Int32 → ZT_9 → Option (Int32 × ZT_9)) (y1 : Int32) (y2 : Int32) (y3 : Int32) (y4 : Int32) (y5 : Int32) (u1 : ZT_9) : Option (Int32 × ZT_9) := lt_ (α := Int32) (y5 + (1 : Int32)) (fun z16 => rec57 y1 y2 y3 y4 z16 u1)
def rr_X9_least_57_b (fu : Nat) (rec57 : Int32 → Int32 → Int32 → Int32 → Int32 → ZT_9 → Option (Int32 × ZT_9)) (y1 : Int32) (y2 : Int32) (y3 : Int32) (y4 : Int32) (y5 : Int32) (u1 : ZT_9) : Option (Int32 × ZT_9) := (if (99 : Int32) < y5 then some ((-4 : Int32), u1) else (rr_X1_copyFrom fu u1.2.2.2.2.2.2.2.1 u1.2.2.2.2.2.2.1).bind (fun q11 => (rr_X1_meets fu y1 y2 y5 q11 u1.2.2.2.1).bind (fun q12 => (if q12.1 = (0 : Int32) then rr_X9_least_114 fu rec57 y1 y2 y3 y4 y5 (u1.1, u1.2.1, u1.2.2.1, u1.2.2.2.1, u1.2.2.2.2.1, u1.2.2.2.2.2.1, u1.2.2.2.2.2.2.1, q12.2, u1.2.2.2.2.2.2.2.2) else (rr_X1_meetsEvenly fu y1 y3 y4 q12.2 u1.2.2.2.1).bind (fun q14 => (if q14.1 = (0 : Int32) then rr_X9_least_114 fu rec57 y1 y2 y3 y4 y5 (u1.1, u1.2.1, u1.2.2.1, u1.2.2.2.1, u1.2.2.2.2.1, u1.2.2.2.2.2.1, u1.2.2.2.2.2.2.1, q14.2, u1.2.2.2.2.2.2.2.2) else some (y5, (u1.1, u1.2.1, u1.2.2.1, u1.2.2.2.1, u1.2.2.2.2.1, u1.2.2.2.2.2.1, u1.2.2.2.2.2.2.1, q14.2, u1.2.2.2.2.2.2.2.2))))))))
def rr_X9_least_57 (fu : Nat) (n : Nat) : Int32 → Int32 → Int32 → Int32 → Int32 → ZT_9 → Option (Int32 × ZT_9) := lp_ (fun _ _ _ _ _ _ => none) (rr_X9_least_57_b fu) n
def rr_X9_least (fu : Nat) (x1 : Int32) (x2 : Int32) (x3 : Int32) (x4 : Int32) (s1 : ZT_9) : Option (Int32 × ZT_9) := (rr_X9_isBill fu x1 x3 x4).bind (fun q1 => (if q1 = (0 : Int32) then some ((-1 : Int32), s1) else (rr_X9_isShop fu x2).bind (fun q3 => (if q3 = (0 : Int32) then some ((-1 : Int32), s1) else (rr_X9_layOut fu s1).bind (fun q5 => (rr_X1_copyFrom fu q5.2.2.2.2.2.2.2.1 q5.2.2.2.2.2.2.1).bind (fun q6 => (rr_X1_meetsEvenly fu x1 x3 x4 q6 q5.2.2.2.1).bind (fun q7 => (if q7.1 = (0 : Int32) then rr_X9_least_57 fu fu x1 x2 x3 x4 (1 : Int32) (q5.1, q5.2.1, q5.2.2.1, q5.2.2.2.1, q5.2.2.2.2.1, q5.2.2.2.2.2.1, q5.2.2.2.2.2.2.1, q7.2, q5.2.2.2.2.2.2.2.2) else some ((0 : Int32), (q5.1, q5.2.1, q5.2.2.1, q5.2.2.2.1, q5.2.2.2.2.1, q5.2.2.2.2.2.1, q5.2.2.2.2.2.2.1, q7.2, q5.2.2.2.2.2.2.2.2))))))))))
set_option maxHeartbeats 4000000 in
set_option maxRecDepth 100000 in
theorem cc_X9_least (l : Launch) (dC : Nat → ClassId) (dI : Nat → Nat → Nat) (fu : Nat) (a1 : Nat → Nat) (k1 : Nat → ClassId) (sz : Nat) (x1 : Int32) (x2 : Int32) (x3 : Int32) (x4 : Int32) (s1 : ZT_9) (res : Int32 × ZT_9) (hR : rr_X9_least fu x1 x2 x3 x4 s1 = some res) : Met l yX9_least wsX9_least ({ frames := 6, cells := 0, slots := 0, locals := 143 } : Room) (PcF [.ref (a1 0), .int x1, .int x2, .int x3, .int x4] sz (dC, dI) (zc_9 a1 k1 s1) (zt_9 k1)) (va_Qi (fun (r : Int32) (u : ZT_9) => res = (r, u)) (fun u t => at3_ (dC, dI) (zc_9 a1 k1 u) (zt_9 k1) (va_A (zc_9 a1 k1 s1) sz) t) (va_A (zc_9 a1 k1 s1) sz)) 0 0 (va_A (zc_9 a1 k1 s1) sz) := by
  refine Met.ofW (cc := cX9_least) (maxL := 6) (ret := (some .int)) (by decide) rfl ?_
  intro p e s m args below meth c s₁ B hml hv
  obtain ⟨hav, hsz, hP, hK, hD0⟩ := hv
  have hx := B.exec
  have hb := B.bytes
  have hr := B.returns
  have hts := atoms_spec (ws := wsX9_least) B.pre
  have hown : s.vm.findClass RX9 = some m.cls := findClass_of_methodNamed B.named
  have hlocks := B.notSynchronized
  have hin9 : ∀ w ∈ wsX90, w ∈ wsX9_least := fun w h => List.mem_cons_of_mem _ (List.mem_append_left _ (List.mem_append_left _ (List.mem_append_left _ (List.mem_append_left _ (List.mem_append_right _ h)))))
  subst hsz
  have hD := hD0.self (sz := s.heap.size)
  clear hD0
  generalize hAe : va_A (zc_9 a1 k1 s1) s.heap.size = A at hD ⊢
  have hA : ∀ q : Nat, s.heap.size ≤ q → A q := fun q h => by rw [← hAe]; exact Or.inr h
  have hS : va_S A s.heap s.heap [] := va_S.rf
  generalize hQe : MQ below _ args s 0 0 A = Q
  rw [show entryFrame m args 6 = F0 m 0 ((lg_sl ([.ref (a1 0), .int x1, .int x2, .int x3, .int x4]) ++ List.replicate (6 - (lg_sl ([.ref (a1 0), .int x1, .int x2, .int x3, .int x4])).length) Slot.unset).toArray) [] from by rw [hav]; exact lg_entry_eq m _ _]
  have hl := lv_entry ([.ref (a1 0), .int x1, .int x2, .int x3, .int x4]) (n := 6) (Nat.le_of_ble_eq_true rfl)
  generalize (lg_sl ([.ref (a1 0), .int x1, .int x2, .int x3, .int x4]) ++ List.replicate (6 - (lg_sl ([.ref (a1 0), .int x1, .int x2, .int x3, .int x4])).length) Slot.unset).toArray = ls at hl ⊢
  have hl : lv_has ls 6 [(0, .ref (a1 0)), (1, .int x1), (2, .int x2), (3, .int x3), (4, .int x4)] := hl
  have hB114 : ∀ (rec57 : Int32 → Int32 → Int32 → Int32 → Int32 → ZT_9 → Option (Int32 × ZT_9)) (hrec57 : ∀ (y1 : Int32) (y2 : Int32) (y3 : Int32) (y4 : Int32) (y5 : Int32) (u1 : ZT_9) (H : Heap) (locs : List Loc) (ls : Array Slot), va_P (dC, dI) vwCl (zc_9 a1 k1 u1) H → va_D A (zc_9 a1 k1 u1) → va_S A s.heap H locs → lv_has ls 6 [(0, .ref (a1 0)), (1, .int y1), (2, .int y2), (3, .int y3), (4, .int y4), (5, .int y5)] → rec57 y1 y2 y3 y4 y5 u1 = some res → W p l e ({ frames := 6, cells := 0, slots := 0, locals := 143 } : Room) s m args below meth c H locs 0 0 Q (F0 m 57 ls [])), ∀ (y1 : Int32) (y2 : Int32) (y3 : Int32) (y4 : Int32) (y5 : Int32) (u1 : ZT_9) (H : Heap) (locs : List Loc) (ls : Array Slot), va_P (dC, dI) vwCl (zc_9 a1 k1 u1) H → va_D A (zc_9 a1 k1 u1) → va_S A s.heap H locs → lv_has ls 6 [(0, .ref (a1 0)), (1, .int y1), (2, .int y2), (3, .int y3), (4, .int y4), (5, .int y5)] → rr_X9_least_114 fu rec57 y1 y2 y3 y4 y5 u1 = some res → W p l e ({ frames := 6, cells := 0, slots := 0, locals := 143 } : Room) s m args below meth c H locs 0 0 Q (F0 m 114 ls []) := by
    intro rec57 hrec57 y1 y2 y3 y4 y5 u1 H locs ls hP hD hS hl hR
    unfold rr_X9_least_114 at hR
    obtain ⟨z16, ez16⟩ : ∃ y : Int32, y = (y5 + (1 : Int32)) := ⟨_, rfl⟩
    replace hR := lt_ok hR ez16
    refine lv_iinc (v := z16) (lv' := [(5, .int z16), (0, .ref (a1 0)), (1, .int y1), (2, .int y2), (3, .int y3), (4, .int y4)]) hx hb dX9_least_114 hl (k := 5) rfl (by rw [ez16]; rfl) (by decide) rfl (fun ls16 hl16 => ?_)
    refine lv_goto (tgt := 57) hx hb dX9_least_117 (by decide) ?_
    exact hrec57 y1 y2 y3 y4 z16 u1 H locs ls16 hP hD hS (lv_sub hl16 [1, 2, 3, 4, 5, 0] rfl) hR
  have hB57 : ∀ (n : Nat), ∀ (y1 : Int32) (y2 : Int32) (y3 : Int32) (y4 : Int32) (y5 : Int32) (u1 : ZT_9) (H : Heap) (locs : List Loc) (ls : Array Slot), va_P (dC, dI) vwCl (zc_9 a1 k1 u1) H → va_D A (zc_9 a1 k1 u1) → va_S A s.heap H locs → lv_has ls 6 [(0, .ref (a1 0)), (1, .int y1), (2, .int y2), (3, .int y3), (4, .int y4), (5, .int y5)] → rr_X9_least_57 fu n y1 y2 y3 y4 y5 u1 = some res → W p l e ({ frames := 6, cells := 0, slots := 0, locals := 143 } : Room) s m args below meth c H locs 0 0 Q (F0 m 57 ls []) := by
    intro  n
    induction n with
    | zero => intro y1 y2 y3 y4 y5 u1 H locs ls hP hD hS hl hR; exact absurd hR (by intro h; cases h)
    | succ n ih =>
      intro y1 y2 y3 y4 y5 u1 H locs ls hP hD hS hl hR
      replace hR : rr_X9_least_57_b fu (rr_X9_least_57 fu n) y1 y2 y3 y4 y5 u1 = some res := hR
      unfold rr_X9_least_57_b at hR
      refine lv_iload hx hb dX9_least_57 (lv_at hl 5 rfl) ?_
      refine lv_bipush (v := (99 : Int32)) hx hb dX9_least_59 (by decide) ?_
      refine lv_icmp_gt (tgt := 120) hx hb dX9_least_61 (by decide) (fun c10 => ?_) (fun c10 => ?_)
      · replace hR := ifp_ hR c10
        refine lv_bipush (v := (-4 : Int32)) hx hb dX9_least_120 (by decide) ?_
        subst hQe
        exact W.iret (v := (-4 : Int32)) hx hb hr (fun t ht hW => ⟨⟨(-4 : Int32), u1, rfl, (Option.some.inj hR).symm, by rw [ht]; exact hP, va_K.moved hW.alike hK, hD⟩, hS.F ht⟩) hS.2.2 dX9_least_122
      · replace hR := ifn_ hR c10
        refine lv_aload_n hx hb dX9_least_64 rfl (lv_at hl 0 rfl) ?_
        refine va_get (D := (dC, dI)) (ci := 9) (v := .ref (a1 45)) (C := RX9) (T := TX9) (N := 14) hx hb hts hin9 hown hK hP 0 rfl rfl 7 (by decide) (hts (.fieldLink RX9 40 "OldestCoins" "trial" "LOldestCoins$Board;") (List.mem_of_getElem? (i := 1) rfl)) (fun _ h9 => h9) rfl dX9_least_65 ?_
        refine lv_aload_n hx hb dX9_least_68 rfl (lv_at hl 0 rfl) ?_
        refine va_get (D := (dC, dI)) (ci := 9) (v := .ref (a1 43)) (C := RX9) (T := TX9) (N := 14) hx hb hts hin9 hown hK hP 0 rfl rfl 6 (by decide) (hts (.fieldLink RX9 36 "OldestCoins" "board" "LOldestCoins$Board;") (List.mem_of_getElem? (i := 2) rfl)) (fun _ h9 => h9) rfl dX9_least_69 ?_
        have hR0 := ob_ok hR
        clear hR
        obtain ⟨q11, hq11, hR⟩ := hR0
        refine va_callv (va_runV (As := [.ref (a1 43)]) (rest := []) ⟨hx, hb, hml, hown, hts⟩ (cc_X1_copyFrom l dC dI fu (sh_ a1 45) (sh_ a1 43) (sh_ k1 45) (sh_ k1 43) H.size u1.2.2.2.2.2.2.2.1 u1.2.2.2.2.2.2.1 q11 hq11) (cwV 1 hts gX9_least_X1_copyFrom rfl rfl rfl (by decide +kernel) ⟨Nat.le_of_ble_eq_true rfl, Nat.le_of_ble_eq_true rfl⟩) (pf_v (hK.sub (tys' := zt_1 (sh_ k1 45) ++ zt_1 (sh_ k1 43)) [33, 32] rfl) (sub_P (sb_9__0c45_0c43 a1 k1 u1) hP) (sub_D (sb_9__0c45_0c43 a1 k1 u1) hD) 1 0 rfl rfl rfl) rfl rfl hl.1 rfl (lv_room (Nat.le_of_ble_eq_true rfl)) dX9_least_72 ⟨Nat.le_refl _, Nat.le_refl _⟩) hS (fun q _ h => (sub_F (sb_9__0c45_0c43 a1 k1 u1) hD hS hA) q h) (sub_F (sb_9__0c45_0c43 a1 k1 u1) hD hS hA) (fun v11 t11 H11 locs11 ht11 hvm11 hw11 hB11 hz11 hk11 hS11 => ?_)
        subst hw11
        obtain ⟨hP11, hD11⟩ := jn_sub (sb_9__0c45_0c43 a1 k1 u1) (jo_9__0c45_0c43__0 a1 k1 u1 q11) rfl hP hD hk11 ht11 hB11
        have hP11 : va_P (dC, dI) vwCl (zc_9 a1 k1 (u1.1, u1.2.1, u1.2.2.1, u1.2.2.2.1, u1.2.2.2.2.1, u1.2.2.2.2.2.1, u1.2.2.2.2.2.2.1, q11, u1.2.2.2.2.2.2.2.2)) H11 := hP11
        have hD11 : va_D A (zc_9 a1 k1 (u1.1, u1.2.1, u1.2.2.1, u1.2.2.2.1, u1.2.2.2.2.1, u1.2.2.2.2.2.1, u1.2.2.2.2.2.2.1, q11, u1.2.2.2.2.2.2.2.2)) := hD11
        clear hP hD hS hB11 hk11 hvm11 hz11 ht11
        refine lv_aload_n hx hb dX9_least_75 rfl (lv_at hl 0 rfl) ?_
        refine va_get (D := (dC, dI)) (ci := 9) (v := .ref (a1 45)) (C := RX9) (T := TX9) (N := 14) hx hb hts hin9 hown hK hP11 0 rfl rfl 7 (by decide) (hts (.fieldLink RX9 40 "OldestCoins" "trial" "LOldestCoins$Board;") (List.mem_of_getElem? (i := 1) rfl)) (fun _ h9 => h9) rfl dX9_least_76 ?_
        refine lv_aload_n hx hb dX9_least_79 rfl (lv_at hl 0 rfl) ?_
        refine va_get (D := (dC, dI)) (ci := 9) (v := .ref (a1 31)) (C := RX9) (T := TX9) (N := 14) hx hb hts hin9 hown hK hP11 0 rfl rfl 3 (by decide) (hts (.fieldLink RX9 22 "OldestCoins" "ranks" "LOldestCoins$Ranks;") (List.mem_of_getElem? (i := 3) rfl)) (fun _ h9 => h9) rfl dX9_least_80 ?_
        refine lv_iload_n hx hb dX9_least_83 rfl (lv_at hl 1 rfl) ?_
        refine lv_iload_n hx hb dX9_least_84 rfl (lv_at hl 2 rfl) ?_
        refine lv_iload hx hb dX9_least_85 (lv_at hl 5 rfl) ?_
        have hR0 := ob_ok hR
        clear hR
        obtain ⟨q12, hq12, hR⟩ := hR0
        refine va_calli (va_runV (As := [.ref (a1 31), .int y1, .int y2, .int y5]) (rest := []) ⟨hx, hb, hml, hown, hts⟩ (cc_X1_meets l dC dI fu (sh_ a1 45) (sh_ a1 31) (sh_ k1 45) (sh_ k1 31) H11.size y1 y2 y5 q11 u1.2.2.2.1 q12 hq12) (cwV 4 hts gX9_least_X1_meets rfl rfl rfl (by decide +kernel) ⟨Nat.le_of_ble_eq_true rfl, Nat.le_of_ble_eq_true rfl⟩) (pf_v (hK.sub (tys' := zt_1 (sh_ k1 45) ++ zt_4 (sh_ k1 31)) [33, 22, 23, 24, 25, 26] rfl) (sub_P (sb_9__0c45_0c31 a1 k1 (u1.1, u1.2.1, u1.2.2.1, u1.2.2.2.1, u1.2.2.2.2.1, u1.2.2.2.2.2.1, u1.2.2.2.2.2.2.1, q11, u1.2.2.2.2.2.2.2.2)) hP11) (sub_D (sb_9__0c45_0c31 a1 k1 (u1.1, u1.2.1, u1.2.2.1, u1.2.2.2.1, u1.2.2.2.2.1, u1.2.2.2.2.2.1, u1.2.2.2.2.2.2.1, q11, u1.2.2.2.2.2.2.2.2)) hD11) 1 0 rfl rfl rfl) rfl rfl hl.1 rfl (lv_room (Nat.le_of_ble_eq_true rfl)) dX9_least_87 ⟨Nat.le_refl _, Nat.le_refl _⟩) hS11 (fun q _ h => (sub_F (sb_9__0c45_0c31 a1 k1 (u1.1, u1.2.1, u1.2.2.1, u1.2.2.2.1, u1.2.2.2.2.1, u1.2.2.2.2.2.1, u1.2.2.2.2.2.2.1, q11, u1.2.2.2.2.2.2.2.2)) hD11 hS11 hA) q h) (sub_F (sb_9__0c45_0c31 a1 k1 (u1.1, u1.2.1, u1.2.2.1, u1.2.2.2.1, u1.2.2.2.2.1, u1.2.2.2.2.2.1, u1.2.2.2.2.2.2.1, q11, u1.2.2.2.2.2.2.2.2)) hD11 hS11 hA) (fun r12 v12 t12 H12 locs12 ht12 hvm12 hw12 hB12 hz12 hk12 hS12 => ?_)
        obtain rfl : r12 = q12.1 := (congrArg Prod.fst hw12).symm
        obtain rfl : v12 = q12.2 := (congrArg Prod.snd hw12).symm
        obtain ⟨hP12, hD12⟩ := jn_sub (sb_9__0c45_0c31 a1 k1 (u1.1, u1.2.1, u1.2.2.1, u1.2.2.2.1, u1.2.2.2.2.1, u1.2.2.2.2.2.1, u1.2.2.2.2.2.2.1, q11, u1.2.2.2.2.2.2.2.2)) (jo_9__0c45_0c31__0 a1 k1 (u1.1, u1.2.1, u1.2.2.1, u1.2.2.2.1, u1.2.2.2.2.1, u1.2.2.2.2.2.1, u1.2.2.2.2.2.2.1, q11, u1.2.2.2.2.2.2.2.2) q12.2) rfl hP11 hD11 hk12 ht12 hB12
        have hP12 : va_P (dC, dI) vwCl (zc_9 a1 k1 (u1.1, u1.2.1, u1.2.2.1, u1.2.2.2.1, u1.2.2.2.2.1, u1.2.2.2.2.2.1, u1.2.2.2.2.2.2.1, q12.2, u1.2.2.2.2.2.2.2.2)) H12 := hP12
        have hD12 : va_D A (zc_9 a1 k1 (u1.1, u1.2.1, u1.2.2.1, u1.2.2.2.1, u1.2.2.2.2.1, u1.2.2.2.2.2.1, u1.2.2.2.2.2.2.1, q12.2, u1.2.2.2.2.2.2.2.2)) := hD12
        clear hP11 hD11 hS11 hB12 hk12 hvm12 hz12 ht12
        refine lv_if_eq (tgt := 114) hx hb dX9_least_90 (by decide) (fun c13 => ?_) (fun c13 => ?_)
        · replace hR := ifp_ hR c13
          exact hB114 (rr_X9_least_57 fu n) ih y1 y2 y3 y4 y5 (u1.1, u1.2.1, u1.2.2.1, u1.2.2.2.1, u1.2.2.2.2.1, u1.2.2.2.2.2.1, u1.2.2.2.2.2.2.1, q12.2, u1.2.2.2.2.2.2.2.2) H12 locs12 ls hP12 hD12 hS12 (lv_sub hl [0, 1, 2, 3, 4, 5] rfl) hR
        · replace hR := ifn_ hR c13
          refine lv_aload_n hx hb dX9_least_93 rfl (lv_at hl 0 rfl) ?_
          refine va_get (D := (dC, dI)) (ci := 9) (v := .ref (a1 45)) (C := RX9) (T := TX9) (N := 14) hx hb hts hin9 hown hK hP12 0 rfl rfl 7 (by decide) (hts (.fieldLink RX9 40 "OldestCoins" "trial" "LOldestCoins$Board;") (List.mem_of_getElem? (i := 1) rfl)) (fun _ h9 => h9) rfl dX9_least_94 ?_
          refine lv_aload_n hx hb dX9_least_97 rfl (lv_at hl 0 rfl) ?_
          refine va_get (D := (dC, dI)) (ci := 9) (v := .ref (a1 31)) (C := RX9) (T := TX9) (N := 14) hx hb hts hin9 hown hK hP12 0 rfl rfl 3 (by decide) (hts (.fieldLink RX9 22 "OldestCoins" "ranks" "LOldestCoins$Ranks;") (List.mem_of_getElem? (i := 3) rfl)) (fun _ h9 => h9) rfl dX9_least_98 ?_
          refine lv_iload_n hx hb dX9_least_101 rfl (lv_at hl 1 rfl) ?_
          refine lv_iload_n hx hb dX9_least_102 rfl (lv_at hl 3 rfl) ?_
          refine lv_iload hx hb dX9_least_103 (lv_at hl 4 rfl) ?_
          have hR0 := ob_ok hR
          clear hR
          obtain ⟨q14, hq14, hR⟩ := hR0
          refine va_calli (va_runV (As := [.ref (a1 31), .int y1, .int y3, .int y4]) (rest := []) ⟨hx, hb, hml, hown, hts⟩ (cc_X1_meetsEvenly l dC dI fu (sh_ a1 45) (sh_ a1 31) (sh_ k1 45) (sh_ k1 31) H12.size y1 y3 y4 q12.2 u1.2.2.2.1 q14 hq14) (cwV 4 hts gX9_least_X1_meetsEvenly rfl rfl rfl (by decide +kernel) ⟨Nat.le_of_ble_eq_true rfl, Nat.le_of_ble_eq_true rfl⟩) (pf_v (hK.sub (tys' := zt_1 (sh_ k1 45) ++ zt_4 (sh_ k1 31)) [33, 22, 23, 24, 25, 26] rfl) (sub_P (sb_9__0c45_0c31 a1 k1 (u1.1, u1.2.1, u1.2.2.1, u1.2.2.2.1, u1.2.2.2.2.1, u1.2.2.2.2.2.1, u1.2.2.2.2.2.2.1, q12.2, u1.2.2.2.2.2.2.2.2)) hP12) (sub_D (sb_9__0c45_0c31 a1 k1 (u1.1, u1.2.1, u1.2.2.1, u1.2.2.2.1, u1.2.2.2.2.1, u1.2.2.2.2.2.1, u1.2.2.2.2.2.2.1, q12.2, u1.2.2.2.2.2.2.2.2)) hD12) 1 0 rfl rfl rfl) rfl rfl hl.1 rfl (lv_room (Nat.le_of_ble_eq_true rfl)) dX9_least_105 ⟨Nat.le_refl _, Nat.le_refl _⟩) hS12 (fun q _ h => (sub_F (sb_9__0c45_0c31 a1 k1 (u1.1, u1.2.1, u1.2.2.1, u1.2.2.2.1, u1.2.2.2.2.1, u1.2.2.2.2.2.1, u1.2.2.2.2.2.2.1, q12.2, u1.2.2.2.2.2.2.2.2)) hD12 hS12 hA) q h) (sub_F (sb_9__0c45_0c31 a1 k1 (u1.1, u1.2.1, u1.2.2.1, u1.2.2.2.1, u1.2.2.2.2.1, u1.2.2.2.2.2.1, u1.2.2.2.2.2.2.1, q12.2, u1.2.2.2.2.2.2.2.2)) hD12 hS12 hA) (fun r14 v14 t14 H14 locs14 ht14 hvm14 hw14 hB14 hz14 hk14 hS14 => ?_)
          obtain rfl : r14 = q14.1 := (congrArg Prod.fst hw14).symm
          obtain rfl : v14 = q14.2 := (congrArg Prod.snd hw14).symm
          obtain ⟨hP14, hD14⟩ := jn_sub (sb_9__0c45_0c31 a1 k1 (u1.1, u1.2.1, u1.2.2.1, u1.2.2.2.1, u1.2.2.2.2.1, u1.2.2.2.2.2.1, u1.2.2.2.2.2.2.1, q12.2, u1.2.2.2.2.2.2.2.2)) (jo_9__0c45_0c31__0 a1 k1 (u1.1, u1.2.1, u1.2.2.1, u1.2.2.2.1, u1.2.2.2.2.1, u1.2.2.2.2.2.1, u1.2.2.2.2.2.2.1, q12.2, u1.2.2.2.2.2.2.2.2) q14.2) rfl hP12 hD12 hk14 ht14 hB14
          have hP14 : va_P (dC, dI) vwCl (zc_9 a1 k1 (u1.1, u1.2.1, u1.2.2.1, u1.2.2.2.1, u1.2.2.2.2.1, u1.2.2.2.2.2.1, u1.2.2.2.2.2.2.1, q14.2, u1.2.2.2.2.2.2.2.2)) H14 := hP14
          have hD14 : va_D A (zc_9 a1 k1 (u1.1, u1.2.1, u1.2.2.1, u1.2.2.2.1, u1.2.2.2.2.1, u1.2.2.2.2.2.1, u1.2.2.2.2.2.2.1, q14.2, u1.2.2.2.2.2.2.2.2)) := hD14
          clear hP12 hD12 hS12 hB14 hk14 hvm14 hz14 ht14
          refine lv_if_eq (tgt := 114) hx hb dX9_least_108 (by decide) (fun c15 => ?_) (fun c15 => ?_)
          · replace hR := ifp_ hR c15
            exact hB114 (rr_X9_least_57 fu n) ih y1 y2 y3 y4 y5 (u1.1, u1.2.1, u1.2.2.1, u1.2.2.2.1, u1.2.2.2.2.1, u1.2.2.2.2.2.1, u1.2.2.2.2.2.2.1, q14.2, u1.2.2.2.2.2.2.2.2) H14 locs14 ls hP14 hD14 hS14 (lv_sub hl [0, 1, 2, 3, 4, 5] rfl) hR
          · replace hR := ifn_ hR c15
            refine lv_iload hx hb dX9_least_111 (lv_at hl 5 rfl) ?_
            subst hQe
            exact W.iret (v := y5) hx hb hr (fun t ht hW => ⟨⟨y5, (u1.1, u1.2.1, u1.2.2.1, u1.2.2.2.1, u1.2.2.2.2.1, u1.2.2.2.2.2.1, u1.2.2.2.2.2.2.1, q14.2, u1.2.2.2.2.2.2.2.2), rfl, (Option.some.inj hR).symm, by rw [ht]; exact hP14, va_K.moved hW.alike hK, hD14⟩, hS14.F ht⟩) hS14.2.2 dX9_least_113
  unfold rr_X9_least at hR
  refine lv_iload_n hx hb dX9_least_0 rfl (lv_at hl 1 rfl) ?_
  refine lv_iload_n hx hb dX9_least_1 rfl (lv_at hl 3 rfl) ?_
  refine lv_iload hx hb dX9_least_2 (lv_at hl 4 rfl) ?_
  have hR0 := ob_ok hR
  clear hR
  obtain ⟨q1, hq1, hR⟩ := hR0
  refine va_calli (va_runS (As := [.int x1, .int x3, .int x4]) (rest := []) ⟨hx, hb, hml, hown, hts⟩ (cc_X9_isBill l dC dI fu s.heap.size x1 x3 x4 q1 hq1) (va_cwS 3 hts gX9_least_X9_isBill rfl rfl rfl (by decide +kernel) ⟨Nat.le_of_ble_eq_true rfl, Nat.le_of_ble_eq_true rfl⟩) (pf_s (nil_K hK) nil_P (nil_D (A := A))) rfl rfl hl.1 rfl (lv_room (Nat.le_of_ble_eq_true rfl)) dX9_least_4 ⟨Nat.le_refl _, Nat.le_refl _⟩) hS (fun q _ h => (fr_none hS hA) q h) (fr_none hS hA) (fun r1 v1 t1 H1 locs1 ht1 hvm1 hw1 hB1 hz1 hk1 hS1 => ?_)
  subst hw1
  have hP1 := jn_none hP hk1
  have hD1 := hD
  have hP1 : va_P (dC, dI) vwCl (zc_9 a1 k1 s1) H1 := hP1
  have hD1 : va_D A (zc_9 a1 k1 s1) := hD1
  clear hP hD hS hB1 hk1 hvm1 hz1 ht1
  refine lv_if_eq (tgt := 17) hx hb dX9_least_7 (by decide) (fun c2 => ?_) (fun c2 => ?_)
  · replace hR := ifp_ hR c2
    refine lv_iconst (v := (-1 : Int32)) hx hb dX9_least_17 (by decide) ?_
    subst hQe
    exact W.iret (v := (-1 : Int32)) hx hb hr (fun t ht hW => ⟨⟨(-1 : Int32), s1, rfl, (Option.some.inj hR).symm, by rw [ht]; exact hP1, va_K.moved hW.alike hK, hD1⟩, hS1.F ht⟩) hS1.2.2 dX9_least_18
  · replace hR := ifn_ hR c2
    refine lv_iload_n hx hb dX9_least_10 rfl (lv_at hl 2 rfl) ?_
    have hR0 := ob_ok hR
    clear hR
    obtain ⟨q3, hq3, hR⟩ := hR0
    refine va_calli (va_runS (As := [.int x2]) (rest := []) ⟨hx, hb, hml, hown, hts⟩ (cc_X9_isShop l dC dI fu H1.size x2 q3 hq3) (va_cwS 1 hts gX9_least_X9_isShop rfl rfl rfl (by decide +kernel) ⟨Nat.le_of_ble_eq_true rfl, Nat.le_of_ble_eq_true rfl⟩) (pf_s (nil_K hK) nil_P (nil_D (A := A))) rfl rfl hl.1 rfl (lv_room (Nat.le_of_ble_eq_true rfl)) dX9_least_11 ⟨Nat.le_refl _, Nat.le_refl _⟩) hS1 (fun q _ h => (fr_none hS1 hA) q h) (fr_none hS1 hA) (fun r3 v3 t3 H3 locs3 ht3 hvm3 hw3 hB3 hz3 hk3 hS3 => ?_)
    subst hw3
    have hP3 := jn_none hP1 hk3
    have hD3 := hD1
    have hP3 : va_P (dC, dI) vwCl (zc_9 a1 k1 s1) H3 := hP3
    have hD3 : va_D A (zc_9 a1 k1 s1) := hD3
    clear hP1 hD1 hS1 hB3 hk3 hvm3 hz3 ht3
    refine lv_if_ne (tgt := 19) hx hb dX9_least_14 (by decide) (fun c4 => ?_) (fun c4 => ?_)
    · replace hR := ifn_ hR c4
      refine lv_aload_n hx hb dX9_least_19 rfl (lv_at hl 0 rfl) ?_
      have hR0 := ob_ok hR
      clear hR
      obtain ⟨q5, hq5, hR⟩ := hR0
      refine va_callv (va_runV (As := []) (rest := []) ⟨hx, hb, hml, hown, hts⟩ (cc_X9_layOut l dC dI fu a1 k1 H3.size s1 q5 hq5) (cwV 0 hts gX9_least_X9_layOut rfl rfl rfl (by decide +kernel) ⟨Nat.le_of_ble_eq_true rfl, Nat.le_of_ble_eq_true rfl⟩) (pf_v hK hP3 hD3 9 0 rfl rfl rfl) rfl rfl hl.1 rfl (lv_room (Nat.le_of_ble_eq_true rfl)) dX9_least_20 ⟨Nat.le_refl _, Nat.le_refl _⟩) hS3 (fun q _ h => (fr_all hD3 hS3 hA) q h) (fr_all hD3 hS3 hA) (fun v5 t5 H5 locs5 ht5 hvm5 hw5 hB5 hz5 hk5 hS5 => ?_)
      subst hw5
      obtain ⟨hP5, hD5⟩ := jn_all hD3 hS3 hA ht5 hB5
      have hP5 : va_P (dC, dI) vwCl (zc_9 a1 k1 q5) H5 := hP5
      have hD5 : va_D A (zc_9 a1 k1 q5) := hD5
      clear hP3 hD3 hS3 hB5 hk5 hvm5 hz5 ht5
      refine lv_aload_n hx hb dX9_least_23 rfl (lv_at hl 0 rfl) ?_
      refine va_get (D := (dC, dI)) (ci := 9) (v := .ref (a1 45)) (C := RX9) (T := TX9) (N := 14) hx hb hts hin9 hown hK hP5 0 rfl rfl 7 (by decide) (hts (.fieldLink RX9 40 "OldestCoins" "trial" "LOldestCoins$Board;") (List.mem_of_getElem? (i := 1) rfl)) (fun _ h9 => h9) rfl dX9_least_24 ?_
      refine lv_aload_n hx hb dX9_least_27 rfl (lv_at hl 0 rfl) ?_
      refine va_get (D := (dC, dI)) (ci := 9) (v := .ref (a1 43)) (C := RX9) (T := TX9) (N := 14) hx hb hts hin9 hown hK hP5 0 rfl rfl 6 (by decide) (hts (.fieldLink RX9 36 "OldestCoins" "board" "LOldestCoins$Board;") (List.mem_of_getElem? (i := 2) rfl)) (fun _ h9 => h9) rfl dX9_least_28 ?_
      have hR0 := ob_ok hR
      clear hR
      obtain ⟨q6, hq6, hR⟩ := hR0
      refine va_callv (va_runV (As := [.ref (a1 43)]) (rest := []) ⟨hx, hb, hml, hown, hts⟩ (cc_X1_copyFrom l dC dI fu (sh_ a1 45) (sh_ a1 43) (sh_ k1 45) (sh_ k1 43) H5.size q5.2.2.2.2.2.2.2.1 q5.2.2.2.2.2.2.1 q6 hq6) (cwV 1 hts gX9_least_X1_copyFrom rfl rfl rfl (by decide +kernel) ⟨Nat.le_of_ble_eq_true rfl, Nat.le_of_ble_eq_true rfl⟩) (pf_v (hK.sub (tys' := zt_1 (sh_ k1 45) ++ zt_1 (sh_ k1 43)) [33, 32] rfl) (sub_P (sb_9__0c45_0c43 a1 k1 q5) hP5) (sub_D (sb_9__0c45_0c43 a1 k1 q5) hD5) 1 0 rfl rfl rfl) rfl rfl hl.1 rfl (lv_room (Nat.le_of_ble_eq_true rfl)) dX9_least_31 ⟨Nat.le_refl _, Nat.le_refl _⟩) hS5 (fun q _ h => (sub_F (sb_9__0c45_0c43 a1 k1 q5) hD5 hS5 hA) q h) (sub_F (sb_9__0c45_0c43 a1 k1 q5) hD5 hS5 hA) (fun v6 t6 H6 locs6 ht6 hvm6 hw6 hB6 hz6 hk6 hS6 => ?_)
      subst hw6
      obtain ⟨hP6, hD6⟩ := jn_sub (sb_9__0c45_0c43 a1 k1 q5) (jo_9__0c45_0c43__0 a1 k1 q5 q6) rfl hP5 hD5 hk6 ht6 hB6
      have hP6 : va_P (dC, dI) vwCl (zc_9 a1 k1 (q5.1, q5.2.1, q5.2.2.1, q5.2.2.2.1, q5.2.2.2.2.1, q5.2.2.2.2.2.1, q5.2.2.2.2.2.2.1, q6, q5.2.2.2.2.2.2.2.2)) H6 := hP6
      have hD6 : va_D A (zc_9 a1 k1 (q5.1, q5.2.1, q5.2.2.1, q5.2.2.2.1, q5.2.2.2.2.1, q5.2.2.2.2.2.1, q5.2.2.2.2.2.2.1, q6, q5.2.2.2.2.2.2.2.2)) := hD6
      clear hP5 hD5 hS5 hB6 hk6 hvm6 hz6 ht6
      refine lv_aload_n hx hb dX9_least_34 rfl (lv_at hl 0 rfl) ?_
      refine va_get (D := (dC, dI)) (ci := 9) (v := .ref (a1 45)) (C := RX9) (T := TX9) (N := 14) hx hb hts hin9 hown hK hP6 0 rfl rfl 7 (by decide) (hts (.fieldLink RX9 40 "OldestCoins" "trial" "LOldestCoins$Board;") (List.mem_of_getElem? (i := 1) rfl)) (fun _ h9 => h9) rfl dX9_least_35 ?_
      refine lv_aload_n hx hb dX9_least_38 rfl (lv_at hl 0 rfl) ?_
      refine va_get (D := (dC, dI)) (ci := 9) (v := .ref (a1 31)) (C := RX9) (T := TX9) (N := 14) hx hb hts hin9 hown hK hP6 0 rfl rfl 3 (by decide) (hts (.fieldLink RX9 22 "OldestCoins" "ranks" "LOldestCoins$Ranks;") (List.mem_of_getElem? (i := 3) rfl)) (fun _ h9 => h9) rfl dX9_least_39 ?_
      refine lv_iload_n hx hb dX9_least_42 rfl (lv_at hl 1 rfl) ?_
      refine lv_iload_n hx hb dX9_least_43 rfl (lv_at hl 3 rfl) ?_
      refine lv_iload hx hb dX9_least_44 (lv_at hl 4 rfl) ?_
      have hR0 := ob_ok hR
      clear hR
      obtain ⟨q7, hq7, hR⟩ := hR0
      refine va_calli (va_runV (As := [.ref (a1 31), .int x1, .int x3, .int x4]) (rest := []) ⟨hx, hb, hml, hown, hts⟩ (cc_X1_meetsEvenly l dC dI fu (sh_ a1 45) (sh_ a1 31) (sh_ k1 45) (sh_ k1 31) H6.size x1 x3 x4 q6 q5.2.2.2.1 q7 hq7) (cwV 4 hts gX9_least_X1_meetsEvenly rfl rfl rfl (by decide +kernel) ⟨Nat.le_of_ble_eq_true rfl, Nat.le_of_ble_eq_true rfl⟩) (pf_v (hK.sub (tys' := zt_1 (sh_ k1 45) ++ zt_4 (sh_ k1 31)) [33, 22, 23, 24, 25, 26] rfl) (sub_P (sb_9__0c45_0c31 a1 k1 (q5.1, q5.2.1, q5.2.2.1, q5.2.2.2.1, q5.2.2.2.2.1, q5.2.2.2.2.2.1, q5.2.2.2.2.2.2.1, q6, q5.2.2.2.2.2.2.2.2)) hP6) (sub_D (sb_9__0c45_0c31 a1 k1 (q5.1, q5.2.1, q5.2.2.1, q5.2.2.2.1, q5.2.2.2.2.1, q5.2.2.2.2.2.1, q5.2.2.2.2.2.2.1, q6, q5.2.2.2.2.2.2.2.2)) hD6) 1 0 rfl rfl rfl) rfl rfl hl.1 rfl (lv_room (Nat.le_of_ble_eq_true rfl)) dX9_least_46 ⟨Nat.le_refl _, Nat.le_refl _⟩) hS6 (fun q _ h => (sub_F (sb_9__0c45_0c31 a1 k1 (q5.1, q5.2.1, q5.2.2.1, q5.2.2.2.1, q5.2.2.2.2.1, q5.2.2.2.2.2.1, q5.2.2.2.2.2.2.1, q6, q5.2.2.2.2.2.2.2.2)) hD6 hS6 hA) q h) (sub_F (sb_9__0c45_0c31 a1 k1 (q5.1, q5.2.1, q5.2.2.1, q5.2.2.2.1, q5.2.2.2.2.1, q5.2.2.2.2.2.1, q5.2.2.2.2.2.2.1, q6, q5.2.2.2.2.2.2.2.2)) hD6 hS6 hA) (fun r7 v7 t7 H7 locs7 ht7 hvm7 hw7 hB7 hz7 hk7 hS7 => ?_)
      obtain rfl : r7 = q7.1 := (congrArg Prod.fst hw7).symm
      obtain rfl : v7 = q7.2 := (congrArg Prod.snd hw7).symm
      obtain ⟨hP7, hD7⟩ := jn_sub (sb_9__0c45_0c31 a1 k1 (q5.1, q5.2.1, q5.2.2.1, q5.2.2.2.1, q5.2.2.2.2.1, q5.2.2.2.2.2.1, q5.2.2.2.2.2.2.1, q6, q5.2.2.2.2.2.2.2.2)) (jo_9__0c45_0c31__0 a1 k1 (q5.1, q5.2.1, q5.2.2.1, q5.2.2.2.1, q5.2.2.2.2.1, q5.2.2.2.2.2.1, q5.2.2.2.2.2.2.1, q6, q5.2.2.2.2.2.2.2.2) q7.2) rfl hP6 hD6 hk7 ht7 hB7
      have hP7 : va_P (dC, dI) vwCl (zc_9 a1 k1 (q5.1, q5.2.1, q5.2.2.1, q5.2.2.2.1, q5.2.2.2.2.1, q5.2.2.2.2.2.1, q5.2.2.2.2.2.2.1, q7.2, q5.2.2.2.2.2.2.2.2)) H7 := hP7
      have hD7 : va_D A (zc_9 a1 k1 (q5.1, q5.2.1, q5.2.2.1, q5.2.2.2.1, q5.2.2.2.2.1, q5.2.2.2.2.2.1, q5.2.2.2.2.2.2.1, q7.2, q5.2.2.2.2.2.2.2.2)) := hD7
      clear hP6 hD6 hS6 hB7 hk7 hvm7 hz7 ht7
      refine lv_if_eq (tgt := 54) hx hb dX9_least_49 (by decide) (fun c8 => ?_) (fun c8 => ?_)
      · replace hR := ifp_ hR c8
        refine lv_iconst (v := (1 : Int32)) hx hb dX9_least_54 (by decide) ?_
        refine lv_istore (lv' := [(5, .int (1 : Int32)), (0, .ref (a1 0)), (1, .int x1), (2, .int x2), (3, .int x3), (4, .int x4)]) hx hb dX9_least_55 hl (by decide) rfl (fun ls9 hl9 => ?_)
        exact hB57 fu x1 x2 x3 x4 (1 : Int32) (q5.1, q5.2.1, q5.2.2.1, q5.2.2.2.1, q5.2.2.2.2.1, q5.2.2.2.2.2.1, q5.2.2.2.2.2.2.1, q7.2, q5.2.2.2.2.2.2.2.2) H7 locs7 ls9 hP7 hD7 hS7 (lv_sub hl9 [1, 2, 3, 4, 5, 0] rfl) hR
      · replace hR := ifn_ hR c8
        refine lv_iconst (v := (0 : Int32)) hx hb dX9_least_52 (by decide) ?_
        subst hQe
        exact W.iret (v := (0 : Int32)) hx hb hr (fun t ht hW => ⟨⟨(0 : Int32), (q5.1, q5.2.1, q5.2.2.1, q5.2.2.2.1, q5.2.2.2.2.1, q5.2.2.2.2.2.1, q5.2.2.2.2.2.2.1, q7.2, q5.2.2.2.2.2.2.2.2), rfl, (Option.some.inj hR).symm, by rw [ht]; exact hP7, va_K.moved hW.alike hK, hD7⟩, hS7.F ht⟩) hS7.2.2 dX9_least_53
    · replace hR := ifp_ hR c4
      refine lv_iconst (v := (-1 : Int32)) hx hb dX9_least_17 (by decide) ?_
      subst hQe
      exact W.iret (v := (-1 : Int32)) hx hb hr (fun t ht hW => ⟨⟨(-1 : Int32), s1, rfl, (Option.some.inj hR).symm, by rw [ht]; exact hP3, va_K.moved hW.alike hK, hD3⟩, hS3.F ht⟩) hS3.2.2 dX9_least_18
