def rr_X9_restore (fu : Nat) (s1 : ZT_9) : Option (Int32 × ZT_9) := (if s1.2.2.1 = (0 : Int32) then some ((-4 : Int32), s1) else (rr_X8_copyFrom fu s1.1 s1.2.1).bind (fun q2 => some ((1 : Int32), (q2, s1.2.1, s1.2.2.1, s1.2.2.2.1, (1 : Int32), s1.2.2.2.2.2))))
set_option maxRecDepth 100000 in
theorem sb_9__0c1_0c16 (a1 : Nat → Nat) (k1 : Nat → ClassId) (s1 : ZT_9) : List.Perm (zc_9 a1 k1 s1) ((zc_8 (sh_ a1 1) (sh_ k1 1) s1.1 ++ zc_8 (sh_ a1 16) (sh_ k1 16) s1.2.1) ++ ([(a1 0, .inr (9, [.ref (a1 1), .ref (a1 16), .int s1.2.2.1, .ref (a1 31), .int s1.2.2.2.2.1, .ref (a1 37), .ref (a1 43), .ref (a1 45), .ref (a1 47), .ref (a1 50), .ref (a1 54), .ref (a1 56), .ref (a1 62), .ref (a1 66)]))] ++ (([] : va_W) ++ (([] : va_W) ++ (zc_4 (sh_ a1 31) (sh_ k1 31) s1.2.2.2.1 ++ (zc_4 (sh_ a1 37) (sh_ k1 37) s1.2.2.2.2.2.1 ++ (zc_1 (sh_ a1 43) (sh_ k1 43) s1.2.2.2.2.2.2.1 ++ (zc_1 (sh_ a1 45) (sh_ k1 45) s1.2.2.2.2.2.2.2.1 ++ (zc_7 (sh_ a1 47) (sh_ k1 47) s1.2.2.2.2.2.2.2.2.1 ++ (zc_3 (sh_ a1 50) (sh_ k1 50) s1.2.2.2.2.2.2.2.2.2.1 ++ (zc_6 (sh_ a1 54) (sh_ k1 54) s1.2.2.2.2.2.2.2.2.2.2.1 ++ (zc_2 (sh_ a1 56) (sh_ k1 56) 10 s1.2.2.2.2.2.2.2.2.2.2.2.1 ++ (zc_0 (sh_ a1 62) (sh_ k1 62) 24 s1.2.2.2.2.2.2.2.2.2.2.2.2.1 ++ zc_5 (sh_ a1 66) (sh_ k1 66) s1.2.2.2.2.2.2.2.2.2.2.2.2.2))))))))))))) := (pu_2 (pu_r ([(a1 0, .inr (9, [.ref (a1 1), .ref (a1 16), .int s1.2.2.1, .ref (a1 31), .int s1.2.2.2.2.1, .ref (a1 37), .ref (a1 43), .ref (a1 45), .ref (a1 47), .ref (a1 50), .ref (a1 54), .ref (a1 56), .ref (a1 62), .ref (a1 66)]))]) (pu_l ((zc_8 (sh_ a1 16) (sh_ k1 16) s1.2.1 ++ (zc_4 (sh_ a1 31) (sh_ k1 31) s1.2.2.2.1 ++ (zc_4 (sh_ a1 37) (sh_ k1 37) s1.2.2.2.2.2.1 ++ (zc_1 (sh_ a1 43) (sh_ k1 43) s1.2.2.2.2.2.2.1 ++ (zc_1 (sh_ a1 45) (sh_ k1 45) s1.2.2.2.2.2.2.2.1 ++ (zc_7 (sh_ a1 47) (sh_ k1 47) s1.2.2.2.2.2.2.2.2.1 ++ (zc_3 (sh_ a1 50) (sh_ k1 50) s1.2.2.2.2.2.2.2.2.2.1 ++ (zc_6 (sh_ a1 54) (sh_ k1 54) s1.2.2.2.2.2.2.2.2.2.2.1 ++ (zc_2 (sh_ a1 56) (sh_ k1 56) 10 s1.2.2.2.2.2.2.2.2.2.2.2.1 ++ (zc_0 (sh_ a1 62) (sh_ k1 62) 24 s1.2.2.2.2.2.2.2.2.2.2.2.2.1 ++ zc_5 (sh_ a1 66) (sh_ k1 66) s1.2.2.2.2.2.2.2.2.2.2.2.2.2))))))))))) (pu_1 (zc_8 (sh_ a1 1) (sh_ k1 1) s1.1)))) (pu_r ([(a1 0, .inr (9, [.ref (a1 1), .ref (a1 16), .int s1.2.2.1, .ref (a1 31), .int s1.2.2.2.2.1, .ref (a1 37), .ref (a1 43), .ref (a1 45), .ref (a1 47), .ref (a1 50), .ref (a1 54), .ref (a1 56), .ref (a1 62), .ref (a1 66)]))]) (pu_r (([] : va_W)) (pu_l ((zc_4 (sh_ a1 31) (sh_ k1 31) s1.2.2.2.1 ++ (zc_4 (sh_ a1 37) (sh_ k1 37) s1.2.2.2.2.2.1 ++ (zc_1 (sh_ a1 43) (sh_ k1 43) s1.2.2.2.2.2.2.1 ++ (zc_1 (sh_ a1 45) (sh_ k1 45) s1.2.2.2.2.2.2.2.1 ++ (zc_7 (sh_ a1 47) (sh_ k1 47) s1.2.2.2.2.2.2.2.2.1 ++ (zc_3 (sh_ a1 50) (sh_ k1 50) s1.2.2.2.2.2.2.2.2.2.1 ++ (zc_6 (sh_ a1 54) (sh_ k1 54) s1.2.2.2.2.2.2.2.2.2.2.1 ++ (zc_2 (sh_ a1 56) (sh_ k1 56) 10 s1.2.2.2.2.2.2.2.2.2.2.2.1 ++ (zc_0 (sh_ a1 62) (sh_ k1 62) 24 s1.2.2.2.2.2.2.2.2.2.2.2.2.1 ++ zc_5 (sh_ a1 66) (sh_ k1 66) s1.2.2.2.2.2.2.2.2.2.2.2.2.2)))))))))) (pu_1 (zc_8 (sh_ a1 16) (sh_ k1 16) s1.2.1))))))
set_option maxRecDepth 100000 in
theorem jo_9__0c1_0c16__0 (a1 : Nat → Nat) (k1 : Nat → ClassId) (s1 : ZT_9) (u1 : ZT_8) : List.Perm (zc_9 a1 k1 (u1, s1.2)) ((zc_8 (sh_ a1 1) (sh_ k1 1) u1 ++ zc_8 (sh_ a1 16) (sh_ k1 16) s1.2.1) ++ ([(a1 0, .inr (9, [.ref (a1 1), .ref (a1 16), .int s1.2.2.1, .ref (a1 31), .int s1.2.2.2.2.1, .ref (a1 37), .ref (a1 43), .ref (a1 45), .ref (a1 47), .ref (a1 50), .ref (a1 54), .ref (a1 56), .ref (a1 62), .ref (a1 66)]))] ++ (([] : va_W) ++ (([] : va_W) ++ (zc_4 (sh_ a1 31) (sh_ k1 31) s1.2.2.2.1 ++ (zc_4 (sh_ a1 37) (sh_ k1 37) s1.2.2.2.2.2.1 ++ (zc_1 (sh_ a1 43) (sh_ k1 43) s1.2.2.2.2.2.2.1 ++ (zc_1 (sh_ a1 45) (sh_ k1 45) s1.2.2.2.2.2.2.2.1 ++ (zc_7 (sh_ a1 47) (sh_ k1 47) s1.2.2.2.2.2.2.2.2.1 ++ (zc_3 (sh_ a1 50) (sh_ k1 50) s1.2.2.2.2.2.2.2.2.2.1 ++ (zc_6 (sh_ a1 54) (sh_ k1 54) s1.2.2.2.2.2.2.2.2.2.2.1 ++ (zc_2 (sh_ a1 56) (sh_ k1 56) 10 s1.2.2.2.2.2.2.2.2.2.2.2.1 ++ (zc_0 (sh_ a1 62) (sh_ k1 62) 24 s1.2.2.2.2.2.2.2.2.2.2.2.2.1 ++ zc_5 (sh_ a1 66) (sh_ k1 66) s1.2.2.2.2.2.2.2.2.2.2.2.2.2))))))))))))) := (pu_2 (pu_r ([(a1 0, .inr (9, [.ref (a1 1), .ref (a1 16), .int s1.2.2.1, .ref (a1 31), .int s1.2.2.2.2.1, .ref (a1 37), .ref (a1 43), .ref (a1 45), .ref (a1 47), .ref (a1 50), .ref (a1 54), .ref (a1 56), .ref (a1 62), .ref (a1 66)]))]) (pu_l ((zc_8 (sh_ a1 16) (sh_ k1 16) s1.2.1 ++ (zc_4 (sh_ a1 31) (sh_ k1 31) s1.2.2.2.1 ++ (zc_4 (sh_ a1 37) (sh_ k1 37) s1.2.2.2.2.2.1 ++ (zc_1 (sh_ a1 43) (sh_ k1 43) s1.2.2.2.2.2.2.1 ++ (zc_1 (sh_ a1 45) (sh_ k1 45) s1.2.2.2.2.2.2.2.1 ++ (zc_7 (sh_ a1 47) (sh_ k1 47) s1.2.2.2.2.2.2.2.2.1 ++ (zc_3 (sh_ a1 50) (sh_ k1 50) s1.2.2.2.2.2.2.2.2.2.1 ++ (zc_6 (sh_ a1 54) (sh_ k1 54) s1.2.2.2.2.2.2.2.2.2.2.1 ++ (zc_2 (sh_ a1 56) (sh_ k1 56) 10 s1.2.2.2.2.2.2.2.2.2.2.2.1 ++ (zc_0 (sh_ a1 62) (sh_ k1 62) 24 s1.2.2.2.2.2.2.2.2.2.2.2.2.1 ++ zc_5 (sh_ a1 66) (sh_ k1 66) s1.2.2.2.2.2.2.2.2.2.2.2.2.2))))))))))) (pu_1 (zc_8 (sh_ a1 1) (sh_ k1 1) u1)))) (pu_r ([(a1 0, .inr (9, [.ref (a1 1), .ref (a1 16), .int s1.2.2.1, .ref (a1 31), .int s1.2.2.2.2.1, .ref (a1 37), .ref (a1 43), .ref (a1 45), .ref (a1 47), .ref (a1 50), .ref (a1 54), .ref (a1 56), .ref (a1 62), .ref (a1 66)]))]) (pu_r (([] : va_W)) (pu_l ((zc_4 (sh_ a1 31) (sh_ k1 31) s1.2.2.2.1 ++ (zc_4 (sh_ a1 37) (sh_ k1 37) s1.2.2.2.2.2.1 ++ (zc_1 (sh_ a1 43) (sh_ k1 43) s1.2.2.2.2.2.2.1 ++ (zc_1 (sh_ a1 45) (sh_ k1 45) s1.2.2.2.2.2.2.2.1 ++ (zc_7 (sh_ a1 47) (sh_ k1 47) s1.2.2.2.2.2.2.2.2.1 ++ (zc_3 (sh_ a1 50) (sh_ k1 50) s1.2.2.2.2.2.2.2.2.2.1 ++ (zc_6 (sh_ a1 54) (sh_ k1 54) s1.2.2.2.2.2.2.2.2.2.2.1 ++ (zc_2 (sh_ a1 56) (sh_ k1 56) 10 s1.2.2.2.2.2.2.2.2.2.2.2.1 ++ (zc_0 (sh_ a1 62) (sh_ k1 62) 24 s1.2.2.2.2.2.2.2.2.2.2.2.2.1 ++ zc_5 (sh_ a1 66) (sh_ k1 66) s1.2.2.2.2.2.2.2.2.2.2.2.2.2)))))))))) (pu_1 (zc_8 (sh_ a1 16) (sh_ k1 16) s1.2.1))))))
set_option maxHeartbeats 4000000 in
set_option maxRecDepth 100000 in
theorem cc_X9_restore (l : Launch) (dC : Nat → ClassId) (dI : Nat → Nat → Nat) (fu : Nat) (a1 : Nat → Nat) (k1 : Nat → ClassId) (sz : Nat) (s1 : ZT_9) (res : Int32 × ZT_9) (hR : rr_X9_restore fu s1 = some res) : Met l yX9_restore wsX9_restore ({ frames := 4, cells := 0, slots := 0, locals := 89 } : Room) (PcF [.ref (a1 0)] sz (dC, dI) (zc_9 a1 k1 s1) (zt_9 k1)) (va_Qi (fun (r : Int32) (u : ZT_9) => res = (r, u)) (fun u t => at3_ (dC, dI) (zc_9 a1 k1 u) (zt_9 k1) (va_A (zc_9 a1 k1 s1) sz) t) (va_A (zc_9 a1 k1 s1) sz)) 0 0 (va_A (zc_9 a1 k1 s1) sz) := by
  refine Met.ofW (cc := cX9_restore) (maxL := 1) (ret := (some .int)) (by decide) rfl ?_
  intro p e s m args below meth c s₁ B hml hv
  obtain ⟨hav, hsz, hP, hK, hD0⟩ := hv
  have hx := B.exec
  have hb := B.bytes
  have hr := B.returns
  have hts := atoms_spec (ws := wsX9_restore) B.pre
  have hown : s.vm.findClass RX9 = some m.cls := findClass_of_methodNamed B.named
  have hlocks := B.notSynchronized
  have hin9 : ∀ w ∈ wsX90, w ∈ wsX9_restore := fun w h => List.mem_cons_of_mem _ (List.mem_append_left _ (List.mem_append_left _ (List.mem_append_left _ (List.mem_append_right _ h))))
  subst hsz
  have hD := hD0.self (sz := s.heap.size)
  clear hD0
  generalize hAe : va_A (zc_9 a1 k1 s1) s.heap.size = A at hD ⊢
  have hA : ∀ q : Nat, s.heap.size ≤ q → A q := fun q h => by rw [← hAe]; exact Or.inr h
  have hS : va_S A s.heap s.heap [] := va_S.rf
  generalize hQe : MQ below _ args s 0 0 A = Q
  rw [show entryFrame m args 1 = F0 m 0 ((lg_sl ([.ref (a1 0)]) ++ List.replicate (1 - (lg_sl ([.ref (a1 0)])).length) Slot.unset).toArray) [] from by rw [hav]; exact lg_entry_eq m _ _]
  have hl := lv_entry ([.ref (a1 0)]) (n := 1) (Nat.le_of_ble_eq_true rfl)
  generalize (lg_sl ([.ref (a1 0)]) ++ List.replicate (1 - (lg_sl ([.ref (a1 0)])).length) Slot.unset).toArray = ls at hl ⊢
  have hl : lv_has ls 1 [(0, .ref (a1 0))] := hl
  unfold rr_X9_restore at hR
  refine lv_aload_n hx hb dX9_restore_0 rfl (lv_at hl 0 rfl) ?_
  refine va_get (D := (dC, dI)) (ci := 9) (v := .int s1.2.2.1) (C := RX9) (T := TX9) (N := 14) hx hb hts hin9 hown hK hP 0 rfl rfl 2 (by decide) (hts (.fieldLink RX9 283 "OldestCoins" "hasImage" "Z") (List.mem_of_getElem? (i := 1) rfl)) (fun _ h9 => h9) rfl dX9_restore_1 ?_
  refine lv_if_ne (tgt := 10) hx hb dX9_restore_4 (by decide) (fun c1 => ?_) (fun c1 => ?_)
  · replace hR := ifn_ hR c1
    refine lv_aload_n hx hb dX9_restore_10 rfl (lv_at hl 0 rfl) ?_
    refine va_get (D := (dC, dI)) (ci := 9) (v := .ref (a1 1)) (C := RX9) (T := TX9) (N := 14) hx hb hts hin9 hown hK hP 0 rfl rfl 0 (by decide) (hts (.fieldLink RX9 10 "OldestCoins" "town" "LOldestCoins$Town;") (List.mem_of_getElem? (i := 2) rfl)) (fun _ h9 => h9) rfl dX9_restore_11 ?_
    refine lv_aload_n hx hb dX9_restore_14 rfl (lv_at hl 0 rfl) ?_
    refine va_get (D := (dC, dI)) (ci := 9) (v := .ref (a1 16)) (C := RX9) (T := TX9) (N := 14) hx hb hts hin9 hown hK hP 0 rfl rfl 1 (by decide) (hts (.fieldLink RX9 16 "OldestCoins" "kept" "LOldestCoins$Town;") (List.mem_of_getElem? (i := 3) rfl)) (fun _ h9 => h9) rfl dX9_restore_15 ?_
    have hR0 := ob_ok hR
    clear hR
    obtain ⟨q2, hq2, hR⟩ := hR0
    refine va_callv (va_runV (As := [.ref (a1 16)]) (rest := []) ⟨hx, hb, hml, hown, hts⟩ (cc_X8_copyFrom l dC dI fu (sh_ a1 1) (sh_ a1 16) (sh_ k1 1) (sh_ k1 16) s.heap.size s1.1 s1.2.1 q2 hq2) (cwV 1 hts gX9_restore_X8_copyFrom rfl rfl rfl (by decide +kernel) ⟨Nat.le_of_ble_eq_true rfl, Nat.le_of_ble_eq_true rfl⟩) (pf_v (hK.sub (tys' := zt_8 (sh_ k1 1) ++ zt_8 (sh_ k1 16)) [0, 1, 2, 3, 4, 5, 6, 7, 8, 9, 10, 11, 12, 13, 14, 15, 16, 17, 18, 19, 20, 21] rfl) (sub_P (sb_9__0c1_0c16 a1 k1 s1) hP) (sub_D (sb_9__0c1_0c16 a1 k1 s1) hD) 8 0 rfl rfl rfl) rfl rfl hl.1 rfl (lv_room (Nat.le_of_ble_eq_true rfl)) dX9_restore_18 ⟨Nat.le_refl _, Nat.le_refl _⟩) hS (fun q _ h => (sub_F (sb_9__0c1_0c16 a1 k1 s1) hD hS hA) q h) (sub_F (sb_9__0c1_0c16 a1 k1 s1) hD hS hA) (fun v2 t2 H2 locs2 ht2 hvm2 hw2 hB2 hz2 hk2 hS2 => ?_)
    subst hw2
    obtain ⟨hP2, hD2⟩ := jn_sub (sb_9__0c1_0c16 a1 k1 s1) (jo_9__0c1_0c16__0 a1 k1 s1 q2) rfl hP hD hk2 ht2 hB2
    have hP2 : va_P (dC, dI) vwCl (zc_9 a1 k1 (q2, s1.2)) H2 := hP2
    have hD2 : va_D A (zc_9 a1 k1 (q2, s1.2)) := hD2
    clear hP hD hS hB2 hk2 hvm2 hz2 ht2
    refine lv_aload_n hx hb dX9_restore_21 rfl (lv_at hl 0 rfl) ?_
    refine lv_iconst (v := (1 : Int32)) hx hb dX9_restore_22 (by decide) ?_
    refine va_put (D := (dC, dI)) (ci := 9) (v := .int (1 : Int32)) (ty := .boolean) (C := RX9) (T := TX9) (N := 14) hx hb hts hin9 tyX9 tyX9_ok nmX9 hown hK hP2 hD2 hS2 0 rfl rfl 4 (by decide) (hts (.fieldLink RX9 26 "OldestCoins" "ranksAreOld" "Z") (List.mem_of_getElem? (i := 4) rfl)) (fun _ h9 => h9) rfl (by decide +kernel) rfl rfl (Nat.le_of_ble_eq_true rfl) dX9_restore_23 (fun H3 locs3 hP3 hD3 hS3 => ?_)
    have hP3 : va_P (dC, dI) vwCl (zc_9 a1 k1 (q2, s1.2.1, s1.2.2.1, s1.2.2.2.1, (1 : Int32), s1.2.2.2.2.2)) H3 := hP3
    have hD3 : va_D A (zc_9 a1 k1 (q2, s1.2.1, s1.2.2.1, s1.2.2.2.1, (1 : Int32), s1.2.2.2.2.2)) := hD3
    clear hP2 hD2 hS2
    refine lv_iconst (v := (1 : Int32)) hx hb dX9_restore_26 (by decide) ?_
    subst hQe
    exact W.iret (v := (1 : Int32)) hx hb hr (fun t ht hW => ⟨⟨(1 : Int32), (q2, s1.2.1, s1.2.2.1, s1.2.2.2.1, (1 : Int32), s1.2.2.2.2.2), rfl, (Option.some.inj hR).symm, by rw [ht]; exact hP3, va_K.moved hW.alike hK, hD3⟩, hS3.F ht⟩) hS3.2.2 dX9_restore_27
  · replace hR := ifp_ hR c1
    refine lv_bipush (v := (-4 : Int32)) hx hb dX9_restore_7 (by decide) ?_
    subst hQe
    exact W.iret (v := (-4 : Int32)) hx hb hr (fun t ht hW => ⟨⟨(-4 : Int32), s1, rfl, (Option.some.inj hR).symm, by rw [ht]; exact hP, va_K.moved hW.alike hK, hD⟩, hS.F ht⟩) hS.2.2 dX9_restore_9
def rr_X9_image (fu : Nat) (s1 : ZT_9) : Option (Int32 × ZT_9) := (rr_X8_copyFrom fu s1.2.1 s1.1).bind (fun q1 => some ((1 : Int32), (s1.1, q1, (1 : Int32), s1.2.2.2)))
set_option maxRecDepth 100000 in
theorem sb_9__0c16_0c1 (a1 : Nat → Nat) (k1 : Nat → ClassId) (s1 : ZT_9) : List.Perm (zc_9 a1 k1 s1) ((zc_8 (sh_ a1 16) (sh_ k1 16) s1.2.1 ++ zc_8 (sh_ a1 1) (sh_ k1 1) s1.1) ++ ([(a1 0, .inr (9, [.ref (a1 1), .ref (a1 16), .int s1.2.2.1, .ref (a1 31), .int s1.2.2.2.2.1, .ref (a1 37), .ref (a1 43), .ref (a1 45), .ref (a1 47), .ref (a1 50), .ref (a1 54), .ref (a1 56), .ref (a1 62), .ref (a1 66)]))] ++ (([] : va_W) ++ (([] : va_W) ++ (zc_4 (sh_ a1 31) (sh_ k1 31) s1.2.2.2.1 ++ (zc_4 (sh_ a1 37) (sh_ k1 37) s1.2.2.2.2.2.1 ++ (zc_1 (sh_ a1 43) (sh_ k1 43) s1.2.2.2.2.2.2.1 ++ (zc_1 (sh_ a1 45) (sh_ k1 45) s1.2.2.2.2.2.2.2.1 ++ (zc_7 (sh_ a1 47) (sh_ k1 47) s1.2.2.2.2.2.2.2.2.1 ++ (zc_3 (sh_ a1 50) (sh_ k1 50) s1.2.2.2.2.2.2.2.2.2.1 ++ (zc_6 (sh_ a1 54) (sh_ k1 54) s1.2.2.2.2.2.2.2.2.2.2.1 ++ (zc_2 (sh_ a1 56) (sh_ k1 56) 10 s1.2.2.2.2.2.2.2.2.2.2.2.1 ++ (zc_0 (sh_ a1 62) (sh_ k1 62) 24 s1.2.2.2.2.2.2.2.2.2.2.2.2.1 ++ zc_5 (sh_ a1 66) (sh_ k1 66) s1.2.2.2.2.2.2.2.2.2.2.2.2.2))))))))))))) := (pu_2 (pu_r ([(a1 0, .inr (9, [.ref (a1 1), .ref (a1 16), .int s1.2.2.1, .ref (a1 31), .int s1.2.2.2.2.1, .ref (a1 37), .ref (a1 43), .ref (a1 45), .ref (a1 47), .ref (a1 50), .ref (a1 54), .ref (a1 56), .ref (a1 62), .ref (a1 66)]))]) (pu_r (zc_8 (sh_ a1 1) (sh_ k1 1) s1.1) (pu_l ((zc_4 (sh_ a1 31) (sh_ k1 31) s1.2.2.2.1 ++ (zc_4 (sh_ a1 37) (sh_ k1 37) s1.2.2.2.2.2.1 ++ (zc_1 (sh_ a1 43) (sh_ k1 43) s1.2.2.2.2.2.2.1 ++ (zc_1 (sh_ a1 45) (sh_ k1 45) s1.2.2.2.2.2.2.2.1 ++ (zc_7 (sh_ a1 47) (sh_ k1 47) s1.2.2.2.2.2.2.2.2.1 ++ (zc_3 (sh_ a1 50) (sh_ k1 50) s1.2.2.2.2.2.2.2.2.2.1 ++ (zc_6 (sh_ a1 54) (sh_ k1 54) s1.2.2.2.2.2.2.2.2.2.2.1 ++ (zc_2 (sh_ a1 56) (sh_ k1 56) 10 s1.2.2.2.2.2.2.2.2.2.2.2.1 ++ (zc_0 (sh_ a1 62) (sh_ k1 62) 24 s1.2.2.2.2.2.2.2.2.2.2.2.2.1 ++ zc_5 (sh_ a1 66) (sh_ k1 66) s1.2.2.2.2.2.2.2.2.2.2.2.2.2)))))))))) (pu_1 (zc_8 (sh_ a1 16) (sh_ k1 16) s1.2.1))))) (pu_r ([(a1 0, .inr (9, [.ref (a1 1), .ref (a1 16), .int s1.2.2.1, .ref (a1 31), .int s1.2.2.2.2.1, .ref (a1 37), .ref (a1 43), .ref (a1 45), .ref (a1 47), .ref (a1 50), .ref (a1 54), .ref (a1 56), .ref (a1 62), .ref (a1 66)]))]) (pu_l ((([] : va_W) ++ (zc_4 (sh_ a1 31) (sh_ k1 31) s1.2.2.2.1 ++ (zc_4 (sh_ a1 37) (sh_ k1 37) s1.2.2.2.2.2.1 ++ (zc_1 (sh_ a1 43) (sh_ k1 43) s1.2.2.2.2.2.2.1 ++ (zc_1 (sh_ a1 45) (sh_ k1 45) s1.2.2.2.2.2.2.2.1 ++ (zc_7 (sh_ a1 47) (sh_ k1 47) s1.2.2.2.2.2.2.2.2.1 ++ (zc_3 (sh_ a1 50) (sh_ k1 50) s1.2.2.2.2.2.2.2.2.2.1 ++ (zc_6 (sh_ a1 54) (sh_ k1 54) s1.2.2.2.2.2.2.2.2.2.2.1 ++ (zc_2 (sh_ a1 56) (sh_ k1 56) 10 s1.2.2.2.2.2.2.2.2.2.2.2.1 ++ (zc_0 (sh_ a1 62) (sh_ k1 62) 24 s1.2.2.2.2.2.2.2.2.2.2.2.2.1 ++ zc_5 (sh_ a1 66) (sh_ k1 66) s1.2.2.2.2.2.2.2.2.2.2.2.2.2))))))))))) (pu_1 (zc_8 (sh_ a1 1) (sh_ k1 1) s1.1)))))
set_option maxRecDepth 100000 in
theorem jo_9__0c16_0c1__0 (a1 : Nat → Nat) (k1 : Nat → ClassId) (s1 : ZT_9) (u1 : ZT_8) : List.Perm (zc_9 a1 k1 (s1.1, u1, s1.2.2)) ((zc_8 (sh_ a1 16) (sh_ k1 16) u1 ++ zc_8 (sh_ a1 1) (sh_ k1 1) s1.1) ++ ([(a1 0, .inr (9, [.ref (a1 1), .ref (a1 16), .int s1.2.2.1, .ref (a1 31), .int s1.2.2.2.2.1, .ref (a1 37), .ref (a1 43), .ref (a1 45), .ref (a1 47), .ref (a1 50), .ref (a1 54), .ref (a1 56), .ref (a1 62), .ref (a1 66)]))] ++ (([] : va_W) ++ (([] : va_W) ++ (zc_4 (sh_ a1 31) (sh_ k1 31) s1.2.2.2.1 ++ (zc_4 (sh_ a1 37) (sh_ k1 37) s1.2.2.2.2.2.1 ++ (zc_1 (sh_ a1 43) (sh_ k1 43) s1.2.2.2.2.2.2.1 ++ (zc_1 (sh_ a1 45) (sh_ k1 45) s1.2.2.2.2.2.2.2.1 ++ (zc_7 (sh_ a1 47) (sh_ k1 47) s1.2.2.2.2.2.2.2.2.1 ++ (zc_3 (sh_ a1 50) (sh_ k1 50) s1.2.2.2.2.2.2.2.2.2.1 ++ (zc_6 (sh_ a1 54) (sh_ k1 54) s1.2.2.2.2.2.2.2.2.2.2.1 ++ (zc_2 (sh_ a1 56) (sh_ k1 56) 10 s1.2.2.2.2.2.2.2.2.2.2.2.1 ++ (zc_0 (sh_ a1 62) (sh_ k1 62) 24 s1.2.2.2.2.2.2.2.2.2.2.2.2.1 ++ zc_5 (sh_ a1 66) (sh_ k1 66) s1.2.2.2.2.2.2.2.2.2.2.2.2.2))))))))))))) := (pu_2 (pu_r ([(a1 0, .inr (9, [.ref (a1 1), .ref (a1 16), .int s1.2.2.1, .ref (a1 31), .int s1.2.2.2.2.1, .ref (a1 37), .ref (a1 43), .ref (a1 45), .ref (a1 47), .ref (a1 50), .ref (a1 54), .ref (a1 56), .ref (a1 62), .ref (a1 66)]))]) (pu_r (zc_8 (sh_ a1 1) (sh_ k1 1) s1.1) (pu_l ((zc_4 (sh_ a1 31) (sh_ k1 31) s1.2.2.2.1 ++ (zc_4 (sh_ a1 37) (sh_ k1 37) s1.2.2.2.2.2.1 ++ (zc_1 (sh_ a1 43) (sh_ k1 43) s1.2.2.2.2.2.2.1 ++ (zc_1 (sh_ a1 45) (sh_ k1 45) s1.2.2.2.2.2.2.2.1 ++ (zc_7 (sh_ a1 47) (sh_ k1 47) s1.2.2.2.2.2.2.2.2.1 ++ (zc_3 (sh_ a1 50) (sh_ k1 50) s1.2.2.2.2.2.2.2.2.2.1 ++ (zc_6 (sh_ a1 54) (sh_ k1 54) s1.2.2.2.2.2.2.2.2.2.2.1 ++ (zc_2 (sh_ a1 56) (sh_ k1 56) 10 s1.2.2.2.2.2.2.2.2.2.2.2.1 ++ (zc_0 (sh_ a1 62) (sh_ k1 62) 24 s1.2.2.2.2.2.2.2.2.2.2.2.2.1 ++ zc_5 (sh_ a1 66) (sh_ k1 66) s1.2.2.2.2.2.2.2.2.2.2.2.2.2)))))))))) (pu_1 (zc_8 (sh_ a1 16) (sh_ k1 16) u1))))) (pu_r ([(a1 0, .inr (9, [.ref (a1 1), .ref (a1 16), .int s1.2.2.1, .ref (a1 31), .int s1.2.2.2.2.1, .ref (a1 37), .ref (a1 43), .ref (a1 45), .ref (a1 47), .ref (a1 50), .ref (a1 54), .ref (a1 56), .ref (a1 62), .ref (a1 66)]))]) (pu_l ((([] : va_W) ++ (zc_4 (sh_ a1 31) (sh_ k1 31) s1.2.2.2.1 ++ (zc_4 (sh_ a1 37) (sh_ k1 37) s1.2.2.2.2.2.1 ++ (zc_1 (sh_ a1 43) (sh_ k1 43) s1.2.2.2.2.2.2.1 ++ (zc_1 (sh_ a1 45) (sh_ k1 45) s1.2.2.2.2.2.2.2.1 ++ (zc_7 (sh_ a1 47) (sh_ k1 47) s1.2.2.2.2.2.2.2.2.1 ++ (zc_3 (sh_ a1 50) (sh_ k1 50) s1.2.2.2.2.2.2.2.2.2.1 ++ (zc_6 (sh_ a1 54) (sh_ k1 54) s1.2.2.2.2.2.2.2.2.2.2.1 ++ (zc_2 (sh_ a1 56) (sh_ k1 56) 10 s1.2.2.2.2.2.2.2.2.2.2.2.1 ++ (zc_0 (sh_ a1 62) (sh_ k1 62) 24 s1.2.2.2.2.2.2.2.2.2.2.2.2.1 ++ zc_5 (sh_ a1 66) (sh_ k1 66) s1.2.2.2.2.2.2.2.2.2.2.2.2.2))))))))))) (pu_1 (zc_8 (sh_ a1 1) (sh_ k1 1) s1.1)))))
set_option maxHeartbeats 4000000 in
set_option maxRecDepth 100000 in
theorem cc_X9_image (l : Launch) (dC : Nat → ClassId) (dI : Nat → Nat → Nat) (fu : Nat) (a1 : Nat → Nat) (k1 : Nat → ClassId) (sz : Nat) (s1 : ZT_9) (res : Int32 × ZT_9) (hR : rr_X9_image fu s1 = some res) : Met l yX9_image wsX9_image ({ frames := 4, cells := 0, slots := 0, locals := 89 } : Room) (PcF [.ref (a1 0)] sz (dC, dI) (zc_9 a1 k1 s1) (zt_9 k1)) (va_Qi (fun (r : Int32) (u : ZT_9) => res = (r, u)) (fun u t => at3_ (dC, dI) (zc_9 a1 k1 u) (zt_9 k1) (va_A (zc_9 a1 k1 s1) sz) t) (va_A (zc_9 a1 k1 s1) sz)) 0 0 (va_A (zc_9 a1 k1 s1) sz) := by
  refine Met.ofW (cc := cX9_image) (maxL := 1) (ret := (some .int)) (by decide) rfl ?_
  intro p e s m args below meth c s₁ B hml hv
  obtain ⟨hav, hsz, hP, hK, hD0⟩ := hv
  have hx := B.exec
  have hb := B.bytes
  have hr := B.returns
  have hts := atoms_spec (ws := wsX9_image) B.pre
  have hown : s.vm.findClass RX9 = some m.cls := findClass_of_methodNamed B.named
  have hlocks := B.notSynchronized
  have hin9 : ∀ w ∈ wsX90, w ∈ wsX9_image := fun w h => List.mem_cons_of_mem _ (List.mem_append_left _ (List.mem_append_left _ (List.mem_append_left _ (List.mem_append_right _ h))))
  subst hsz
  have hD := hD0.self (sz := s.heap.size)
  clear hD0
  generalize hAe : va_A (zc_9 a1 k1 s1) s.heap.size = A at hD ⊢
  have hA : ∀ q : Nat, s.heap.size ≤ q → A q := fun q h => by rw [← hAe]; exact Or.inr h
  have hS : va_S A s.heap s.heap [] := va_S.rf
  generalize hQe : MQ below _ args s 0 0 A = Q
  rw [show entryFrame m args 1 = F0 m 0 ((lg_sl ([.ref (a1 0)]) ++ List.replicate (1 - (lg_sl ([.ref (a1 0)])).length) Slot.unset).toArray) [] from by rw [hav]; exact lg_entry_eq m _ _]
  have hl := lv_entry ([.ref (a1 0)]) (n := 1) (Nat.le_of_ble_eq_true rfl)
  generalize (lg_sl ([.ref (a1 0)]) ++ List.replicate (1 - (lg_sl ([.ref (a1 0)])).length) Slot.unset).toArray = ls at hl ⊢
  have hl : lv_has ls 1 [(0, .ref (a1 0))] := hl
  unfold rr_X9_image at hR
  refine lv_aload_n hx hb dX9_image_0 rfl (lv_at hl 0 rfl) ?_
  refine va_get (D := (dC, dI)) (ci := 9) (v := .ref (a1 16)) (C := RX9) (T := TX9) (N := 14) hx hb hts hin9 hown hK hP 0 rfl rfl 1 (by decide) (hts (.fieldLink RX9 16 "OldestCoins" "kept" "LOldestCoins$Town;") (List.mem_of_getElem? (i := 1) rfl)) (fun _ h9 => h9) rfl dX9_image_1 ?_
  refine lv_aload_n hx hb dX9_image_4 rfl (lv_at hl 0 rfl) ?_
  refine va_get (D := (dC, dI)) (ci := 9) (v := .ref (a1 1)) (C := RX9) (T := TX9) (N := 14) hx hb hts hin9 hown hK hP 0 rfl rfl 0 (by decide) (hts (.fieldLink RX9 10 "OldestCoins" "town" "LOldestCoins$Town;") (List.mem_of_getElem? (i := 2) rfl)) (fun _ h9 => h9) rfl dX9_image_5 ?_
  have hR0 := ob_ok hR
  clear hR
  obtain ⟨q1, hq1, hR⟩ := hR0
  refine va_callv (va_runV (As := [.ref (a1 1)]) (rest := []) ⟨hx, hb, hml, hown, hts⟩ (cc_X8_copyFrom l dC dI fu (sh_ a1 16) (sh_ a1 1) (sh_ k1 16) (sh_ k1 1) s.heap.size s1.2.1 s1.1 q1 hq1) (cwV 1 hts gX9_image_X8_copyFrom rfl rfl rfl (by decide +kernel) ⟨Nat.le_of_ble_eq_true rfl, Nat.le_of_ble_eq_true rfl⟩) (pf_v (hK.sub (tys' := zt_8 (sh_ k1 16) ++ zt_8 (sh_ k1 1)) [11, 12, 13, 14, 15, 16, 17, 18, 19, 20, 21, 0, 1, 2, 3, 4, 5, 6, 7, 8, 9, 10] rfl) (sub_P (sb_9__0c16_0c1 a1 k1 s1) hP) (sub_D (sb_9__0c16_0c1 a1 k1 s1) hD) 8 0 rfl rfl rfl) rfl rfl hl.1 rfl (lv_room (Nat.le_of_ble_eq_true rfl)) dX9_image_8 ⟨Nat.le_refl _, Nat.le_refl _⟩) hS (fun q _ h => (sub_F (sb_9__0c16_0c1 a1 k1 s1) hD hS hA) q h) (sub_F (sb_9__0c16_0c1 a1 k1 s1) hD hS hA) (fun v1 t1 H1 locs1 ht1 hvm1 hw1 hB1 hz1 hk1 hS1 => ?_)
  subst hw1
  obtain ⟨hP1, hD1⟩ := jn_sub (sb_9__0c16_0c1 a1 k1 s1) (jo_9__0c16_0c1__0 a1 k1 s1 q1) rfl hP hD hk1 ht1 hB1
  have hP1 : va_P (dC, dI) vwCl (zc_9 a1 k1 (s1.1, q1, s1.2.2)) H1 := hP1
  have hD1 : va_D A (zc_9 a1 k1 (s1.1, q1, s1.2.2)) := hD1
  clear hP hD hS hB1 hk1 hvm1 hz1 ht1
  refine lv_aload_n hx hb dX9_image_11 rfl (lv_at hl 0 rfl) ?_
  refine lv_iconst (v := (1 : Int32)) hx hb dX9_image_12 (by decide) ?_
  refine va_put (D := (dC, dI)) (ci := 9) (v := .int (1 : Int32)) (ty := .boolean) (C := RX9) (T := TX9) (N := 14) hx hb hts hin9 tyX9 tyX9_ok nmX9 hown hK hP1 hD1 hS1 0 rfl rfl 2 (by decide) (hts (.fieldLink RX9 283 "OldestCoins" "hasImage" "Z") (List.mem_of_getElem? (i := 3) rfl)) (fun _ h9 => h9) rfl (by decide +kernel) rfl rfl (Nat.le_of_ble_eq_true rfl) dX9_image_13 (fun H2 locs2 hP2 hD2 hS2 => ?_)
  have hP2 : va_P (dC, dI) vwCl (zc_9 a1 k1 (s1.1, q1, (1 : Int32), s1.2.2.2)) H2 := hP2
  have hD2 : va_D A (zc_9 a1 k1 (s1.1, q1, (1 : Int32), s1.2.2.2)) := hD2
  clear hP1 hD1 hS1
  refine lv_iconst (v := (1 : Int32)) hx hb dX9_image_16 (by decide) ?_
  subst hQe
  exact W.iret (v := (1 : Int32)) hx hb hr (fun t ht hW => ⟨⟨(1 : Int32), (s1.1, q1, (1 : Int32), s1.2.2.2), rfl, (Option.some.inj hR).symm, by rw [ht]; exact hP2, va_K.moved hW.alike hK, hD2⟩, hS2.F ht⟩) hS2.2.2 dX9_image_17
def rr_X9_runBill_b (fu : Nat) (x3 : Int32) (s1 : ZT_9) : Option (Int32 × ZT_9) := ck_ x3 24 (ck_ x3 24 (ck_ x3 24 ((rr_X1_meets fu (s1.1.2.2.1.2.1 x3.toNatClampNeg) (s1.1.2.2.1.2.2.1 x3.toNatClampNeg) (s1.1.2.2.1.2.2.2 x3.toNatClampNeg) s1.2.2.2.2.2.2.1 s1.2.2.2.1).bind (fun q4 => zk_ q4.1 (some (q4.1, (s1.1, s1.2.1, s1.2.2.1, s1.2.2.2.1, s1.2.2.2.2.1, s1.2.2.2.2.2.1, q4.2, s1.2.2.2.2.2.2.2)))))))
set_option maxRecDepth 100000 in
theorem sb_9__0c43_0c31 (a1 : Nat → Nat) (k1 : Nat → ClassId) (s1 : ZT_9) : List.Perm (zc_9 a1 k1 s1) ((zc_1 (sh_ a1 43) (sh_ k1 43) s1.2.2.2.2.2.2.1 ++ zc_4 (sh_ a1 31) (sh_ k1 31) s1.2.2.2.1) ++ ([(a1 0, .inr (9, [.ref (a1 1), .ref (a1 16), .int s1.2.2.1, .ref (a1 31), .int s1.2.2.2.2.1, .ref (a1 37), .ref (a1 43), .ref (a1 45), .ref (a1 47), .ref (a1 50), .ref (a1 54), .ref (a1 56), .ref (a1 62), .ref (a1 66)]))] ++ (zc_8 (sh_ a1 1) (sh_ k1 1) s1.1 ++ (zc_8 (sh_ a1 16) (sh_ k1 16) s1.2.1 ++ (([] : va_W) ++ (zc_4 (sh_ a1 37) (sh_ k1 37) s1.2.2.2.2.2.1 ++ (([] : va_W) ++ (zc_1 (sh_ a1 45) (sh_ k1 45) s1.2.2.2.2.2.2.2.1 ++ (zc_7 (sh_ a1 47) (sh_ k1 47) s1.2.2.2.2.2.2.2.2.1 ++ (zc_3 (sh_ a1 50) (sh_ k1 50) s1.2.2.2.2.2.2.2.2.2.1 ++ (zc_6 (sh_ a1 54) (sh_ k1 54) s1.2.2.2.2.2.2.2.2.2.2.1 ++ (zc_2 (sh_ a1 56) (sh_ k1 56) 10 s1.2.2.2.2.2.2.2.2.2.2.2.1 ++ (zc_0 (sh_ a1 62) (sh_ k1 62) 24 s1.2.2.2.2.2.2.2.2.2.2.2.2.1 ++ zc_5 (sh_ a1 66) (sh_ k1 66) s1.2.2.2.2.2.2.2.2.2.2.2.2.2))))))))))))) := (pu_2 (pu_r ([(a1 0, .inr (9, [.ref (a1 1), .ref (a1 16), .int s1.2.2.1, .ref (a1 31), .int s1.2.2.2.2.1, .ref (a1 37), .ref (a1 43), .ref (a1 45), .ref (a1 47), .ref (a1 50), .ref (a1 54), .ref (a1 56), .ref (a1 62), .ref (a1 66)]))]) (pu_r (zc_8 (sh_ a1 1) (sh_ k1 1) s1.1) (pu_r (zc_8 (sh_ a1 16) (sh_ k1 16) s1.2.1) (pu_r (zc_4 (sh_ a1 31) (sh_ k1 31) s1.2.2.2.1) (pu_r (zc_4 (sh_ a1 37) (sh_ k1 37) s1.2.2.2.2.2.1) (pu_l ((zc_1 (sh_ a1 45) (sh_ k1 45) s1.2.2.2.2.2.2.2.1 ++ (zc_7 (sh_ a1 47) (sh_ k1 47) s1.2.2.2.2.2.2.2.2.1 ++ (zc_3 (sh_ a1 50) (sh_ k1 50) s1.2.2.2.2.2.2.2.2.2.1 ++ (zc_6 (sh_ a1 54) (sh_ k1 54) s1.2.2.2.2.2.2.2.2.2.2.1 ++ (zc_2 (sh_ a1 56) (sh_ k1 56) 10 s1.2.2.2.2.2.2.2.2.2.2.2.1 ++ (zc_0 (sh_ a1 62) (sh_ k1 62) 24 s1.2.2.2.2.2.2.2.2.2.2.2.2.1 ++ zc_5 (sh_ a1 66) (sh_ k1 66) s1.2.2.2.2.2.2.2.2.2.2.2.2.2))))))) (pu_1 (zc_1 (sh_ a1 43) (sh_ k1 43) s1.2.2.2.2.2.2.1)))))))) (pu_r ([(a1 0, .inr (9, [.ref (a1 1), .ref (a1 16), .int s1.2.2.1, .ref (a1 31), .int s1.2.2.2.2.1, .ref (a1 37), .ref (a1 43), .ref (a1 45), .ref (a1 47), .ref (a1 50), .ref (a1 54), .ref (a1 56), .ref (a1 62), .ref (a1 66)]))]) (pu_r (zc_8 (sh_ a1 1) (sh_ k1 1) s1.1) (pu_r (zc_8 (sh_ a1 16) (sh_ k1 16) s1.2.1) (pu_l ((zc_4 (sh_ a1 37) (sh_ k1 37) s1.2.2.2.2.2.1 ++ (([] : va_W) ++ (zc_1 (sh_ a1 45) (sh_ k1 45) s1.2.2.2.2.2.2.2.1 ++ (zc_7 (sh_ a1 47) (sh_ k1 47) s1.2.2.2.2.2.2.2.2.1 ++ (zc_3 (sh_ a1 50) (sh_ k1 50) s1.2.2.2.2.2.2.2.2.2.1 ++ (zc_6 (sh_ a1 54) (sh_ k1 54) s1.2.2.2.2.2.2.2.2.2.2.1 ++ (zc_2 (sh_ a1 56) (sh_ k1 56) 10 s1.2.2.2.2.2.2.2.2.2.2.2.1 ++ (zc_0 (sh_ a1 62) (sh_ k1 62) 24 s1.2.2.2.2.2.2.2.2.2.2.2.2.1 ++ zc_5 (sh_ a1 66) (sh_ k1 66) s1.2.2.2.2.2.2.2.2.2.2.2.2.2))))))))) (pu_1 (zc_4 (sh_ a1 31) (sh_ k1 31) s1.2.2.2.1)))))))
set_option maxRecDepth 100000 in
theorem jo_9__0c43_0c31__0 (a1 : Nat → Nat) (k1 : Nat → ClassId) (s1 : ZT_9) (u1 : ZT_1) : List.Perm (zc_9 a1 k1 (s1.1, s1.2.1, s1.2.2.1, s1.2.2.2.1, s1.2.2.2.2.1, s1.2.2.2.2.2.1, u1, s1.2.2.2.2.2.2.2)) ((zc_1 (sh_ a1 43) (sh_ k1 43) u1 ++ zc_4 (sh_ a1 31) (sh_ k1 31) s1.2.2.2.1) ++ ([(a1 0, .inr (9, [.ref (a1 1), .ref (a1 16), .int s1.2.2.1, .ref (a1 31), .int s1.2.2.2.2.1, .ref (a1 37), .ref (a1 43), .ref (a1 45), .ref (a1 47), .ref (a1 50), .ref (a1 54), .ref (a1 56), .ref (a1 62), .ref (a1 66)]))] ++ (zc_8 (sh_ a1 1) (sh_ k1 1) s1.1 ++ (zc_8 (sh_ a1 16) (sh_ k1 16) s1.2.1 ++ (([] : va_W) ++ (zc_4 (sh_ a1 37) (sh_ k1 37) s1.2.2.2.2.2.1 ++ (([] : va_W) ++ (zc_1 (sh_ a1 45) (sh_ k1 45) s1.2.2.2.2.2.2.2.1 ++ (zc_7 (sh_ a1 47) (sh_ k1 47) s1.2.2.2.2.2.2.2.2.1 ++ (zc_3 (sh_ a1 50) (sh_ k1 50) s1.2.2.2.2.2.2.2.2.2.1 ++ (zc_6 (sh_ a1 54) (sh_ k1 54) s1.2.2.2.2.2.2.2.2.2.2.1 ++ (zc_2 (sh_ a1 56) (sh_ k1 56) 10 s1.2.2.2.2.2.2.2.2.2.2.2.1 ++ (zc_0 (sh_ a1 62) (sh_ k1 62) 24 s1.2.2.2.2.2.2.2.2.2.2.2.2.1 ++ zc_5 (sh_ a1 66) (sh_ k1 66) s1.2.2.2.2.2.2.2.2.2.2.2.2.2))))))))))))) := (pu_2 (pu_r ([(a1 0, .inr (9, [.ref (a1 1), .ref (a1 16), .int s1.2.2.1, .ref (a1 31), .int s1.2.2.2.2.1, .ref (a1 37), .ref (a1 43), .ref (a1 45), .ref (a1 47), .ref (a1 50), .ref (a1 54), .ref (a1 56), .ref (a1 62), .ref (a1 66)]))]) (pu_r (zc_8 (sh_ a1 1) (sh_ k1 1) s1.1) (pu_r (zc_8 (sh_ a1 16) (sh_ k1 16) s1.2.1) (pu_r (zc_4 (sh_ a1 31) (sh_ k1 31) s1.2.2.2.1) (pu_r (zc_4 (sh_ a1 37) (sh_ k1 37) s1.2.2.2.2.2.1) (pu_l ((zc_1 (sh_ a1 45) (sh_ k1 45) s1.2.2.2.2.2.2.2.1 ++ (zc_7 (sh_ a1 47) (sh_ k1 47) s1.2.2.2.2.2.2.2.2.1 ++ (zc_3 (sh_ a1 50) (sh_ k1 50) s1.2.2.2.2.2.2.2.2.2.1 ++ (zc_6 (sh_ a1 54) (sh_ k1 54) s1.2.2.2.2.2.2.2.2.2.2.1 ++ (zc_2 (sh_ a1 56) (sh_ k1 56) 10 s1.2.2.2.2.2.2.2.2.2.2.2.1 ++ (zc_0 (sh_ a1 62) (sh_ k1 62) 24 s1.2.2.2.2.2.2.2.2.2.2.2.2.1 ++ zc_5 (sh_ a1 66) (sh_ k1 66) s1.2.2.2.2.2.2.2.2.2.2.2.2.2))))))) (pu_1 (zc_1 (sh_ a1 43) (sh_ k1 43) u1)))))))) (pu_r ([(a1 0, .inr (9, [.ref (a1 1), .ref (a1 16), .int s1.2.2.1, .ref (a1 31), .int s1.2.2.2.2.1, .ref (a1 37), .ref (a1 43), .ref (a1 45), .ref (a1 47), .ref (a1 50), .ref (a1 54), .ref (a1 56), .ref (a1 62), .ref (a1 66)]))]) (pu_r (zc_8 (sh_ a1 1) (sh_ k1 1) s1.1) (pu_r (zc_8 (sh_ a1 16) (sh_ k1 16) s1.2.1) (pu_l ((zc_4 (sh_ a1 37) (sh_ k1 37) s1.2.2.2.2.2.1 ++ (([] : va_W) ++ (zc_1 (sh_ a1 45) (sh_ k1 45) s1.2.2.2.2.2.2.2.1 ++ (zc_7 (sh_ a1 47) (sh_ k1 47) s1.2.2.2.2.2.2.2.2.1 ++ (zc_3 (sh_ a1 50) (sh_ k1 50) s1.2.2.2.2.2.2.2.2.2.1 ++ (zc_6 (sh_ a1 54) (sh_ k1 54) s1.2.2.2.2.2.2.2.2.2.2.1 ++ (zc_2 (sh_ a1 56) (sh_ k1 56) 10 s1.2.2.2.2.2.2.2.2.2.2.2.1 ++ (zc_0 (sh_ a1 62) (sh_ k1 62) 24 s1.2.2.2.2.2.2.2.2.2.2.2.2.1 ++ zc_5 (sh_ a1 66) (sh_ k1 66) s1.2.2.2.2.2.2.2.2.2.2.2.2.2))))))))) (pu_1 (zc_4 (sh_ a1 31) (sh_ k1 31) s1.2.2.2.1)))))))
set_option maxHeartbeats 4000000 in
set_option maxRecDepth 100000 in
theorem cc_X9_runBill_b (l : Launch) (dC : Nat → ClassId) (dI : Nat → Nat → Nat) (fu : Nat) (a1 : Nat → Nat) (k1 : Nat → ClassId) (sz : Nat) (x3 : Int32) (s1 : ZT_9) (res : Int32 × ZT_9) (hR : rr_X9_runBill_b fu x3 s1 = some res) : Met l yX9_runBill wsX9_runBill ({ frames := 5, cells := 0, slots := 0, locals := 119 } : Room) (PcF [.ref (a1 0), .ref (a1 43), .ref (a1 31), .int x3] sz (dC, dI) (zc_9 a1 k1 s1) (zt_9 k1)) (va_Qi (fun (r : Int32) (u : ZT_9) => res = (r, u)) (fun u t => at3_ (dC, dI) (zc_9 a1 k1 u) (zt_9 k1) (va_A (zc_9 a1 k1 s1) sz) t) (va_A (zc_9 a1 k1 s1) sz)) 0 0 (va_A (zc_9 a1 k1 s1) sz) := by
  refine Met.ofW (cc := cX9_runBill) (maxL := 4) (ret := (some .boolean)) (by decide) rfl ?_
  intro p e s m args below meth c s₁ B hml hv
  obtain ⟨hav, hsz, hP, hK, hD0⟩ := hv
  have hx := B.exec
  have hb := B.bytes
  have hr := B.returns
  have hts := atoms_spec (ws := wsX9_runBill) B.pre
  have hown : s.vm.findClass RX9 = some m.cls := findClass_of_methodNamed B.named
  have hlocks := B.notSynchronized
  have hin0 : ∀ w ∈ wsX00, w ∈ wsX9_runBill := fun w h => List.mem_cons_of_mem _ (List.mem_append_left _ (List.mem_append_left _ (List.mem_append_right _ h)))
  have hin8 : ∀ w ∈ wsX80, w ∈ wsX9_runBill := fun w h => List.mem_cons_of_mem _ (List.mem_append_left _ (List.mem_append_left _ (List.mem_append_left _ (List.mem_append_right _ h))))
  have hin9 : ∀ w ∈ wsX90, w ∈ wsX9_runBill := fun w h => List.mem_cons_of_mem _ (List.mem_append_left _ (List.mem_append_left _ (List.mem_append_left _ (List.mem_append_left _ (List.mem_append_right _ h)))))
  subst hsz
  have hD := hD0.self (sz := s.heap.size)
  clear hD0
  generalize hAe : va_A (zc_9 a1 k1 s1) s.heap.size = A at hD ⊢
  have hA : ∀ q : Nat, s.heap.size ≤ q → A q := fun q h => by rw [← hAe]; exact Or.inr h
  have hS : va_S A s.heap s.heap [] := va_S.rf
  generalize hQe : MQ below _ args s 0 0 A = Q
  rw [show entryFrame m args 4 = F0 m 0 ((lg_sl ([.ref (a1 0), .ref (a1 43), .ref (a1 31), .int x3]) ++ List.replicate (4 - (lg_sl ([.ref (a1 0), .ref (a1 43), .ref (a1 31), .int x3])).length) Slot.unset).toArray) [] from by rw [hav]; exact lg_entry_eq m _ _]
  have hl := lv_entry ([.ref (a1 0), .ref (a1 43), .ref (a1 31), .int x3]) (n := 4) (Nat.le_of_ble_eq_true rfl)
  generalize (lg_sl ([.ref (a1 0), .ref (a1 43), .ref (a1 31), .int x3]) ++ List.replicate (4 - (lg_sl ([.ref (a1 0), .ref (a1 43), .ref (a1 31), .int x3])).length) Slot.unset).toArray = ls at hl ⊢
  have hl : lv_has ls 4 [(0, .ref (a1 0)), (1, .ref (a1 43)), (2, .ref (a1 31)), (3, .int x3)] := hl
  unfold rr_X9_runBill_b at hR
  refine lv_aload_n hx hb dX9_runBill_0 rfl (lv_at hl 1 rfl) ?_
  refine lv_aload_n hx hb dX9_runBill_1 rfl (lv_at hl 2 rfl) ?_
  refine lv_aload_n hx hb dX9_runBill_2 rfl (lv_at hl 0 rfl) ?_
  refine va_get (D := (dC, dI)) (ci := 9) (v := .ref (a1 1)) (C := RX9) (T := TX9) (N := 14) hx hb hts hin9 hown hK hP 0 rfl rfl 0 (by decide) (hts (.fieldLink RX9 10 "OldestCoins" "town" "LOldestCoins$Town;") (List.mem_of_getElem? (i := 1) rfl)) (fun _ h9 => h9) rfl dX9_runBill_3 ?_
  refine va_get (D := (dC, dI)) (ci := 8) (v := .ref (a1 8)) (C := RX8) (T := TX8) (N := 4) hx hb hts hin8 hown hK hP 1 rfl rfl 2 (by decide) (hts (.fieldLink RX9 187 "OldestCoins$Town" "day" "LOldestCoins$Bills;") (List.mem_of_getElem? (i := 2) rfl)) (fun _ h9 => h9) rfl dX9_runBill_6 ?_
  refine va_get (D := (dC, dI)) (ci := 0) (v := .ref (a1 9)) (C := RX0) (T := TX0) (N := 4) hx hb hts hin0 hown hK hP 8 rfl rfl 1 (by decide) (hts (.fieldLink RX9 333 "OldestCoins$Bills" "purse" "[I") (List.mem_of_getElem? (i := 3) rfl)) (fun _ h9 => h9) rfl dX9_runBill_9 ?_
  refine lv_iload_n hx hb dX9_runBill_12 rfl (lv_at hl 3 rfl) ?_
  have i1 := (ck_ok hR).1
  replace hR := (ck_ok hR).2
  refine va_iald (f := s1.1.2.2.1.2.1) hx hb hK hP 9 5 rfl rfl i1 dX9_runBill_13 ?_
  refine lv_aload_n hx hb dX9_runBill_14 rfl (lv_at hl 0 rfl) ?_
  refine va_get (D := (dC, dI)) (ci := 9) (v := .ref (a1 1)) (C := RX9) (T := TX9) (N := 14) hx hb hts hin9 hown hK hP 0 rfl rfl 0 (by decide) (hts (.fieldLink RX9 10 "OldestCoins" "town" "LOldestCoins$Town;") (List.mem_of_getElem? (i := 1) rfl)) (fun _ h9 => h9) rfl dX9_runBill_15 ?_
  refine va_get (D := (dC, dI)) (ci := 8) (v := .ref (a1 8)) (C := RX8) (T := TX8) (N := 4) hx hb hts hin8 hown hK hP 1 rfl rfl 2 (by decide) (hts (.fieldLink RX9 187 "OldestCoins$Town" "day" "LOldestCoins$Bills;") (List.mem_of_getElem? (i := 2) rfl)) (fun _ h9 => h9) rfl dX9_runBill_18 ?_
  refine va_get (D := (dC, dI)) (ci := 0) (v := .ref (a1 10)) (C := RX0) (T := TX0) (N := 4) hx hb hts hin0 hown hK hP 8 rfl rfl 2 (by decide) (hts (.fieldLink RX9 336 "OldestCoins$Bills" "shop" "[I") (List.mem_of_getElem? (i := 4) rfl)) (fun _ h9 => h9) rfl dX9_runBill_21 ?_
  refine lv_iload_n hx hb dX9_runBill_24 rfl (lv_at hl 3 rfl) ?_
  have i2 := (ck_ok hR).1
  replace hR := (ck_ok hR).2
  refine va_iald (f := s1.1.2.2.1.2.2.1) hx hb hK hP 10 6 rfl rfl i2 dX9_runBill_25 ?_
  refine lv_aload_n hx hb dX9_runBill_26 rfl (lv_at hl 0 rfl) ?_
  refine va_get (D := (dC, dI)) (ci := 9) (v := .ref (a1 1)) (C := RX9) (T := TX9) (N := 14) hx hb hts hin9 hown hK hP 0 rfl rfl 0 (by decide) (hts (.fieldLink RX9 10 "OldestCoins" "town" "LOldestCoins$Town;") (List.mem_of_getElem? (i := 1) rfl)) (fun _ h9 => h9) rfl dX9_runBill_27 ?_
  refine va_get (D := (dC, dI)) (ci := 8) (v := .ref (a1 8)) (C := RX8) (T := TX8) (N := 4) hx hb hts hin8 hown hK hP 1 rfl rfl 2 (by decide) (hts (.fieldLink RX9 187 "OldestCoins$Town" "day" "LOldestCoins$Bills;") (List.mem_of_getElem? (i := 2) rfl)) (fun _ h9 => h9) rfl dX9_runBill_30 ?_
  refine va_get (D := (dC, dI)) (ci := 0) (v := .ref (a1 11)) (C := RX0) (T := TX0) (N := 4) hx hb hts hin0 hown hK hP 8 rfl rfl 3 (by decide) (hts (.fieldLink RX9 339 "OldestCoins$Bills" "sum" "[I") (List.mem_of_getElem? (i := 5) rfl)) (fun _ h9 => h9) rfl dX9_runBill_33 ?_
  refine lv_iload_n hx hb dX9_runBill_36 rfl (lv_at hl 3 rfl) ?_
  have i3 := (ck_ok hR).1
  replace hR := (ck_ok hR).2
  refine va_iald (f := s1.1.2.2.1.2.2.2) hx hb hK hP 11 7 rfl rfl i3 dX9_runBill_37 ?_
  have hR0 := ob_ok hR
  clear hR
  obtain ⟨q4, hq4, hR⟩ := hR0
  refine va_calli (va_runV (As := [.ref (a1 31), .int (s1.1.2.2.1.2.1 x3.toNatClampNeg), .int (s1.1.2.2.1.2.2.1 x3.toNatClampNeg), .int (s1.1.2.2.1.2.2.2 x3.toNatClampNeg)]) (rest := []) ⟨hx, hb, hml, hown, hts⟩ (cc_X1_meets l dC dI fu (sh_ a1 43) (sh_ a1 31) (sh_ k1 43) (sh_ k1 31) s.heap.size (s1.1.2.2.1.2.1 x3.toNatClampNeg) (s1.1.2.2.1.2.2.1 x3.toNatClampNeg) (s1.1.2.2.1.2.2.2 x3.toNatClampNeg) s1.2.2.2.2.2.2.1 s1.2.2.2.1 q4 hq4) (cwV 4 hts gX9_runBill_X1_meets rfl rfl rfl (by decide +kernel) ⟨Nat.le_of_ble_eq_true rfl, Nat.le_of_ble_eq_true rfl⟩) (pf_v (hK.sub (tys' := zt_1 (sh_ k1 43) ++ zt_4 (sh_ k1 31)) [32, 22, 23, 24, 25, 26] rfl) (sub_P (sb_9__0c43_0c31 a1 k1 s1) hP) (sub_D (sb_9__0c43_0c31 a1 k1 s1) hD) 1 0 rfl rfl rfl) rfl rfl hl.1 rfl (lv_room (Nat.le_of_ble_eq_true rfl)) dX9_runBill_38 ⟨Nat.le_refl _, Nat.le_refl _⟩) hS (fun q _ h => (sub_F (sb_9__0c43_0c31 a1 k1 s1) hD hS hA) q h) (sub_F (sb_9__0c43_0c31 a1 k1 s1) hD hS hA) (fun r4 v4 t4 H4 locs4 ht4 hvm4 hw4 hB4 hz4 hk4 hS4 => ?_)
  obtain rfl : r4 = q4.1 := (congrArg Prod.fst hw4).symm
  obtain rfl : v4 = q4.2 := (congrArg Prod.snd hw4).symm
  obtain ⟨hP4, hD4⟩ := jn_sub (sb_9__0c43_0c31 a1 k1 s1) (jo_9__0c43_0c31__0 a1 k1 s1 q4.2) rfl hP hD hk4 ht4 hB4
  have hP4 : va_P (dC, dI) vwCl (zc_9 a1 k1 (s1.1, s1.2.1, s1.2.2.1, s1.2.2.2.1, s1.2.2.2.2.1, s1.2.2.2.2.2.1, q4.2, s1.2.2.2.2.2.2.2)) H4 := hP4
  have hD4 : va_D A (zc_9 a1 k1 (s1.1, s1.2.1, s1.2.2.1, s1.2.2.2.1, s1.2.2.2.2.1, s1.2.2.2.2.2.1, q4.2, s1.2.2.2.2.2.2.2)) := hD4
  clear hP hD hS hB4 hk4 hvm4 hz4 ht4
  have z5 := (zk_ok hR).1
  replace hR := (zk_ok hR).2
  subst hQe
  exact W.zret (ty := .boolean) (v := q4.1) hx hb hr (zk_nar z5) (fun t ht hW => ⟨⟨q4.1, (s1.1, s1.2.1, s1.2.2.1, s1.2.2.2.1, s1.2.2.2.2.1, s1.2.2.2.2.2.1, q4.2, s1.2.2.2.2.2.2.2), rfl, (Option.some.inj hR).symm, by rw [ht]; exact hP4, va_K.moved hW.alike hK, hD4⟩, hS4.F ht⟩) hS4.2.2 dX9_runBill_41
def rr_X9_coinsPaid_b (fu : Nat) (x3 : Int32) (s1 : ZT_9) : Option (Int64 × ZT_9) := (rr_X9_runBill_b fu x3 s1).bind (fun q1 => (if q1.1 = (0 : Int32) then some ((0 : Int64), q1.2) else (rr_X4_numbersOf fu q1.2.2.2.2.2.2.2.1.2.1 q1.2.2.2.2.1).bind (fun q3 => some (q3, q1.2))))
set_option maxHeartbeats 4000000 in
set_option maxRecDepth 100000 in
theorem cc_X9_coinsPaid_b (l : Launch) (dC : Nat → ClassId) (dI : Nat → Nat → Nat) (fu : Nat) (a1 : Nat → Nat) (k1 : Nat → ClassId) (sz : Nat) (x3 : Int32) (s1 : ZT_9) (res : Int64 × ZT_9) (hR : rr_X9_coinsPaid_b fu x3 s1 = some res) : Met l yX9_coinsPaid wsX9_coinsPaid ({ frames := 6, cells := 0, slots := 0, locals := 142 } : Room) (PcF [.ref (a1 0), .ref (a1 43), .ref (a1 31), .int x3] sz (dC, dI) (zc_9 a1 k1 s1) (zt_9 k1)) (va_Ql (fun (r : Int64) (u : ZT_9) => res = (r, u)) (fun u t => at3_ (dC, dI) (zc_9 a1 k1 u) (zt_9 k1) (va_A (zc_9 a1 k1 s1) sz) t) (va_A (zc_9 a1 k1 s1) sz)) 0 0 (va_A (zc_9 a1 k1 s1) sz) := by
  refine Met.ofW (cc := cX9_coinsPaid) (maxL := 4) (ret := (some .long)) (by decide) rfl ?_
  intro p e s m args below meth c s₁ B hml hv
  obtain ⟨hav, hsz, hP, hK, hD0⟩ := hv
  have hx := B.exec
  have hb := B.bytes
  have hr := B.returns
  have hts := atoms_spec (ws := wsX9_coinsPaid) B.pre
  have hown : s.vm.findClass RX9 = some m.cls := findClass_of_methodNamed B.named
  have hlocks := B.notSynchronized
  have hin1 : ∀ w ∈ wsX10, w ∈ wsX9_coinsPaid := fun w h => List.mem_cons_of_mem _ (List.mem_append_left _ (List.mem_append_left _ (List.mem_append_left _ (List.mem_append_left _ (List.mem_append_right _ h)))))
  subst hsz
  have hD := hD0.self (sz := s.heap.size)
  clear hD0
  generalize hAe : va_A (zc_9 a1 k1 s1) s.heap.size = A at hD ⊢
  have hA : ∀ q : Nat, s.heap.size ≤ q → A q := fun q h => by rw [← hAe]; exact Or.inr h
  have hS : va_S A s.heap s.heap [] := va_S.rf
  generalize hQe : MQ below _ args s 0 0 A = Q
  rw [show entryFrame m args 4 = F0 m 0 ((lg_sl ([.ref (a1 0), .ref (a1 43), .ref (a1 31), .int x3]) ++ List.replicate (4 - (lg_sl ([.ref (a1 0), .ref (a1 43), .ref (a1 31), .int x3])).length) Slot.unset).toArray) [] from by rw [hav]; exact lg_entry_eq m _ _]
  have hl := lv_entry ([.ref (a1 0), .ref (a1 43), .ref (a1 31), .int x3]) (n := 4) (Nat.le_of_ble_eq_true rfl)
  generalize (lg_sl ([.ref (a1 0), .ref (a1 43), .ref (a1 31), .int x3]) ++ List.replicate (4 - (lg_sl ([.ref (a1 0), .ref (a1 43), .ref (a1 31), .int x3])).length) Slot.unset).toArray = ls at hl ⊢
  have hl : lv_has ls 4 [(0, .ref (a1 0)), (1, .ref (a1 43)), (2, .ref (a1 31)), (3, .int x3)] := hl
  unfold rr_X9_coinsPaid_b at hR
  refine lv_aload_n hx hb dX9_coinsPaid_0 rfl (lv_at hl 0 rfl) ?_
  refine lv_aload_n hx hb dX9_coinsPaid_1 rfl (lv_at hl 1 rfl) ?_
  refine lv_aload_n hx hb dX9_coinsPaid_2 rfl (lv_at hl 2 rfl) ?_
  refine lv_iload_n hx hb dX9_coinsPaid_3 rfl (lv_at hl 3 rfl) ?_
  have hR0 := ob_ok hR
  clear hR
  obtain ⟨q1, hq1, hR⟩ := hR0
  refine va_calli (va_runV (As := [.ref (a1 43), .ref (a1 31), .int x3]) (rest := []) ⟨hx, hb, hml, hown, hts⟩ (cc_X9_runBill_b l dC dI fu a1 k1 s.heap.size x3 s1 q1 hq1) (cwV 3 hts gX9_coinsPaid_X9_runBill rfl rfl rfl (by decide +kernel) ⟨Nat.le_of_ble_eq_true rfl, Nat.le_of_ble_eq_true rfl⟩) (pf_v hK hP hD 9 0 rfl rfl rfl) rfl rfl hl.1 rfl (lv_room (Nat.le_of_ble_eq_true rfl)) dX9_coinsPaid_4 ⟨Nat.le_refl _, Nat.le_refl _⟩) hS (fun q _ h => (fr_all hD hS hA) q h) (fr_all hD hS hA) (fun r1 v1 t1 H1 locs1 ht1 hvm1 hw1 hB1 hz1 hk1 hS1 => ?_)
  obtain rfl : r1 = q1.1 := (congrArg Prod.fst hw1).symm
  obtain rfl : v1 = q1.2 := (congrArg Prod.snd hw1).symm
  obtain ⟨hP1, hD1⟩ := jn_all hD hS hA ht1 hB1
  have hP1 : va_P (dC, dI) vwCl (zc_9 a1 k1 q1.2) H1 := hP1
  have hD1 : va_D A (zc_9 a1 k1 q1.2) := hD1
  clear hP hD hS hB1 hk1 hvm1 hz1 ht1
  refine lv_if_eq (tgt := 21) hx hb dX9_coinsPaid_7 (by decide) (fun c2 => ?_) (fun c2 => ?_)
  · replace hR := ifp_ hR c2
    refine lv_lconst (v := (0 : Int64)) hx hb dX9_coinsPaid_21 (by decide) ?_
    subst hQe
    exact W.lret (v := (0 : Int64)) hx hb hr (fun t ht hW => ⟨⟨(0 : Int64), q1.2, rfl, (Option.some.inj hR).symm, by rw [ht]; exact hP1, va_K.moved hW.alike hK, hD1⟩, hS1.F ht⟩) hS1.2.2 dX9_coinsPaid_22
  · replace hR := ifn_ hR c2
    refine lv_aload_n hx hb dX9_coinsPaid_10 rfl (lv_at hl 2 rfl) ?_
    refine lv_aload_n hx hb dX9_coinsPaid_11 rfl (lv_at hl 1 rfl) ?_
    refine va_get (D := (dC, dI)) (ci := 1) (v := .long q1.2.2.2.2.2.2.2.1.2.1) (C := RX1) (T := TX1) (N := 5) hx hb hts hin1 hown hK hP1 43 rfl rfl 1 (by decide) (hts (.fieldLink RX9 217 "OldestCoins$Board" "paid" "J") (List.mem_of_getElem? (i := 1) rfl)) (fun _ h9 => h9) rfl dX9_coinsPaid_12 ?_
    have hR0 := ob_ok hR
    clear hR
    obtain ⟨q3, hq3, hR⟩ := hR0
    refine va_calll (va_runV (As := [.long q1.2.2.2.2.2.2.2.1.2.1]) (rest := []) ⟨hx, hb, hml, hown, hts⟩ (cc_X4_numbersOf l dC dI fu (sh_ a1 31) (sh_ k1 31) H1.size q1.2.2.2.2.2.2.2.1.2.1 q1.2.2.2.2.1 q3 hq3) (cwV 1 hts gX9_coinsPaid_X4_numbersOf rfl rfl rfl (by decide +kernel) ⟨Nat.le_of_ble_eq_true rfl, Nat.le_of_ble_eq_true rfl⟩) (pf_v (hK.sub (tys' := zt_4 (sh_ k1 31)) [22, 23, 24, 25, 26] rfl) (sub_P (sb_9__0c31 a1 k1 q1.2) hP1) (sub_D (sb_9__0c31 a1 k1 q1.2) hD1) 4 0 rfl rfl rfl) rfl rfl hl.1 rfl (lv_room (Nat.le_of_ble_eq_true rfl)) dX9_coinsPaid_15 ⟨Nat.le_refl _, Nat.le_refl _⟩) hS1 (fun q _ h => (sub_F (sb_9__0c31 a1 k1 q1.2) hD1 hS1 hA) q h) (sub_F (sb_9__0c31 a1 k1 q1.2) hD1 hS1 hA) (fun r3 v3 t3 H3 locs3 ht3 hvm3 hw3 hB3 hz3 hk3 hS3 => ?_)
    subst hw3
    obtain ⟨hP3, hD3⟩ := jn_sub (sb_9__0c31 a1 k1 q1.2) (jo_9__0c31__ a1 k1 q1.2 ) rfl hP1 hD1 hk3 ht3 hB3
    have hP3 : va_P (dC, dI) vwCl (zc_9 a1 k1 q1.2) H3 := hP3
    have hD3 : va_D A (zc_9 a1 k1 q1.2) := hD3
    clear hP1 hD1 hS1 hB3 hk3 hvm3 hz3 ht3
    refine lv_goto (tgt := 22) hx hb dX9_coinsPaid_18 (by decide) ?_
    subst hQe
    exact W.lret (v := q3) hx hb hr (fun t ht hW => ⟨⟨q3, q1.2, rfl, (Option.some.inj hR).symm, by rw [ht]; exact hP3, va_K.moved hW.alike hK, hD3⟩, hS3.F ht⟩) hS3.2.2 dX9_coinsPaid_22
def rr_X9_runBill_t (fu : Nat) (x3 : Int32) (s1 : ZT_9) : Option (Int32 × ZT_9) := ck_ x3 24 (ck_ x3 24 (ck_ x3 24 ((rr_X1_meets fu (s1.1.2.2.1.2.1 x3.toNatClampNeg) (s1.1.2.2.1.2.2.1 x3.toNatClampNeg) (s1.1.2.2.1.2.2.2 x3.toNatClampNeg) s1.2.2.2.2.2.2.2.1 s1.2.2.2.2.2.1).bind (fun q4 => zk_ q4.1 (some (q4.1, (s1.1, s1.2.1, s1.2.2.1, s1.2.2.2.1, s1.2.2.2.2.1, s1.2.2.2.2.2.1, s1.2.2.2.2.2.2.1, q4.2, s1.2.2.2.2.2.2.2.2)))))))
set_option maxRecDepth 100000 in
theorem sb_9__0c45_0c37 (a1 : Nat → Nat) (k1 : Nat → ClassId) (s1 : ZT_9) : List.Perm (zc_9 a1 k1 s1) ((zc_1 (sh_ a1 45) (sh_ k1 45) s1.2.2.2.2.2.2.2.1 ++ zc_4 (sh_ a1 37) (sh_ k1 37) s1.2.2.2.2.2.1) ++ ([(a1 0, .inr (9, [.ref (a1 1), .ref (a1 16), .int s1.2.2.1, .ref (a1 31), .int s1.2.2.2.2.1, .ref (a1 37), .ref (a1 43), .ref (a1 45), .ref (a1 47), .ref (a1 50), .ref (a1 54), .ref (a1 56), .ref (a1 62), .ref (a1 66)]))] ++ (zc_8 (sh_ a1 1) (sh_ k1 1) s1.1 ++ (zc_8 (sh_ a1 16) (sh_ k1 16) s1.2.1 ++ (zc_4 (sh_ a1 31) (sh_ k1 31) s1.2.2.2.1 ++ (([] : va_W) ++ (zc_1 (sh_ a1 43) (sh_ k1 43) s1.2.2.2.2.2.2.1 ++ (([] : va_W) ++ (zc_7 (sh_ a1 47) (sh_ k1 47) s1.2.2.2.2.2.2.2.2.1 ++ (zc_3 (sh_ a1 50) (sh_ k1 50) s1.2.2.2.2.2.2.2.2.2.1 ++ (zc_6 (sh_ a1 54) (sh_ k1 54) s1.2.2.2.2.2.2.2.2.2.2.1 ++ (zc_2 (sh_ a1 56) (sh_ k1 56) 10 s1.2.2.2.2.2.2.2.2.2.2.2.1 ++ (zc_0 (sh_ a1 62) (sh_ k1 62) 24 s1.2.2.2.2.2.2.2.2.2.2.2.2.1 ++ zc_5 (sh_ a1 66) (sh_ k1 66) s1.2.2.2.2.2.2.2.2.2.2.2.2.2))))))))))))) := (pu_2 (pu_r ([(a1 0, .inr (9, [.ref (a1 1), .ref (a1 16), .int s1.2.2.1, .ref (a1 31), .int s1.2.2.2.2.1, .ref (a1 37), .ref (a1 43), .ref (a1 45), .ref (a1 47), .ref (a1 50), .ref (a1 54), .ref (a1 56), .ref (a1 62), .ref (a1 66)]))]) (pu_r (zc_8 (sh_ a1 1) (sh_ k1 1) s1.1) (pu_r (zc_8 (sh_ a1 16) (sh_ k1 16) s1.2.1) (pu_r (zc_4 (sh_ a1 31) (sh_ k1 31) s1.2.2.2.1) (pu_r (zc_4 (sh_ a1 37) (sh_ k1 37) s1.2.2.2.2.2.1) (pu_r (zc_1 (sh_ a1 43) (sh_ k1 43) s1.2.2.2.2.2.2.1) (pu_l ((zc_7 (sh_ a1 47) (sh_ k1 47) s1.2.2.2.2.2.2.2.2.1 ++ (zc_3 (sh_ a1 50) (sh_ k1 50) s1.2.2.2.2.2.2.2.2.2.1 ++ (zc_6 (sh_ a1 54) (sh_ k1 54) s1.2.2.2.2.2.2.2.2.2.2.1 ++ (zc_2 (sh_ a1 56) (sh_ k1 56) 10 s1.2.2.2.2.2.2.2.2.2.2.2.1 ++ (zc_0 (sh_ a1 62) (sh_ k1 62) 24 s1.2.2.2.2.2.2.2.2.2.2.2.2.1 ++ zc_5 (sh_ a1 66) (sh_ k1 66) s1.2.2.2.2.2.2.2.2.2.2.2.2.2)))))) (pu_1 (zc_1 (sh_ a1 45) (sh_ k1 45) s1.2.2.2.2.2.2.2.1))))))))) (pu_r ([(a1 0, .inr (9, [.ref (a1 1), .ref (a1 16), .int s1.2.2.1, .ref (a1 31), .int s1.2.2.2.2.1, .ref (a1 37), .ref (a1 43), .ref (a1 45), .ref (a1 47), .ref (a1 50), .ref (a1 54), .ref (a1 56), .ref (a1 62), .ref (a1 66)]))]) (pu_r (zc_8 (sh_ a1 1) (sh_ k1 1) s1.1) (pu_r (zc_8 (sh_ a1 16) (sh_ k1 16) s1.2.1) (pu_r (zc_4 (sh_ a1 31) (sh_ k1 31) s1.2.2.2.1) (pu_l ((zc_1 (sh_ a1 43) (sh_ k1 43) s1.2.2.2.2.2.2.1 ++ (([] : va_W) ++ (zc_7 (sh_ a1 47) (sh_ k1 47) s1.2.2.2.2.2.2.2.2.1 ++ (zc_3 (sh_ a1 50) (sh_ k1 50) s1.2.2.2.2.2.2.2.2.2.1 ++ (zc_6 (sh_ a1 54) (sh_ k1 54) s1.2.2.2.2.2.2.2.2.2.2.1 ++ (zc_2 (sh_ a1 56) (sh_ k1 56) 10 s1.2.2.2.2.2.2.2.2.2.2.2.1 ++ (zc_0 (sh_ a1 62) (sh_ k1 62) 24 s1.2.2.2.2.2.2.2.2.2.2.2.2.1 ++ zc_5 (sh_ a1 66) (sh_ k1 66) s1.2.2.2.2.2.2.2.2.2.2.2.2.2)))))))) (pu_1 (zc_4 (sh_ a1 37) (sh_ k1 37) s1.2.2.2.2.2.1))))))))
set_option maxRecDepth 100000 in
theorem jo_9__0c45_0c37__0 (a1 : Nat → Nat) (k1 : Nat → ClassId) (s1 : ZT_9) (u1 : ZT_1) : List.Perm (zc_9 a1 k1 (s1.1, s1.2.1, s1.2.2.1, s1.2.2.2.1, s1.2.2.2.2.1, s1.2.2.2.2.2.1, s1.2.2.2.2.2.2.1, u1, s1.2.2.2.2.2.2.2.2)) ((zc_1 (sh_ a1 45) (sh_ k1 45) u1 ++ zc_4 (sh_ a1 37) (sh_ k1 37) s1.2.2.2.2.2.1) ++ ([(a1 0, .inr (9, [.ref (a1 1), .ref (a1 16), .int s1.2.2.1, .ref (a1 31), .int s1.2.2.2.2.1, .ref (a1 37), .ref (a1 43), .ref (a1 45), .ref (a1 47), .ref (a1 50), .ref (a1 54), .ref (a1 56), .ref (a1 62), .ref (a1 66)]))] ++ (zc_8 (sh_ a1 1) (sh_ k1 1) s1.1 ++ (zc_8 (sh_ a1 16) (sh_ k1 16) s1.2.1 ++ (zc_4 (sh_ a1 31) (sh_ k1 31) s1.2.2.2.1 ++ (([] : va_W) ++ (zc_1 (sh_ a1 43) (sh_ k1 43) s1.2.2.2.2.2.2.1 ++ (([] : va_W) ++ (zc_7 (sh_ a1 47) (sh_ k1 47) s1.2.2.2.2.2.2.2.2.1 ++ (zc_3 (sh_ a1 50) (sh_ k1 50) s1.2.2.2.2.2.2.2.2.2.1 ++ (zc_6 (sh_ a1 54) (sh_ k1 54) s1.2.2.2.2.2.2.2.2.2.2.1 ++ (zc_2 (sh_ a1 56) (sh_ k1 56) 10 s1.2.2.2.2.2.2.2.2.2.2.2.1 ++ (zc_0 (sh_ a1 62) (sh_ k1 62) 24 s1.2.2.2.2.2.2.2.2.2.2.2.2.1 ++ zc_5 (sh_ a1 66) (sh_ k1 66) s1.2.2.2.2.2.2.2.2.2.2.2.2.2))))))))))))) := (pu_2 (pu_r ([(a1 0, .inr (9, [.ref (a1 1), .ref (a1 16), .int s1.2.2.1, .ref (a1 31), .int s1.2.2.2.2.1, .ref (a1 37), .ref (a1 43), .ref (a1 45), .ref (a1 47), .ref (a1 50), .ref (a1 54), .ref (a1 56), .ref (a1 62), .ref (a1 66)]))]) (pu_r (zc_8 (sh_ a1 1) (sh_ k1 1) s1.1) (pu_r (zc_8 (sh_ a1 16) (sh_ k1 16) s1.2.1) (pu_r (zc_4 (sh_ a1 31) (sh_ k1 31) s1.2.2.2.1) (pu_r (zc_4 (sh_ a1 37) (sh_ k1 37) s1.2.2.2.2.2.1) (pu_r (zc_1 (sh_ a1 43) (sh_ k1 43) s1.2.2.2.2.2.2.1) (pu_l ((zc_7 (sh_ a1 47) (sh_ k1 47) s1.2.2.2.2.2.2.2.2.1 ++ (zc_3 (sh_ a1 50) (sh_ k1 50) s1.2.2.2.2.2.2.2.2.2.1 ++ (zc_6 (sh_ a1 54) (sh_ k1 54) s1.2.2.2.2.2.2.2.2.2.2.1 ++ (zc_2 (sh_ a1 56) (sh_ k1 56) 10 s1.2.2.2.2.2.2.2.2.2.2.2.1 ++ (zc_0 (sh_ a1 62) (sh_ k1 62) 24 s1.2.2.2.2.2.2.2.2.2.2.2.2.1 ++ zc_5 (sh_ a1 66) (sh_ k1 66) s1.2.2.2.2.2.2.2.2.2.2.2.2.2)))))) (pu_1 (zc_1 (sh_ a1 45) (sh_ k1 45) u1))))))))) (pu_r ([(a1 0, .inr (9, [.ref (a1 1), .ref (a1 16), .int s1.2.2.1, .ref (a1 31), .int s1.2.2.2.2.1, .ref (a1 37), .ref (a1 43), .ref (a1 45), .ref (a1 47), .ref (a1 50), .ref (a1 54), .ref (a1 56), .ref (a1 62), .ref (a1 66)]))]) (pu_r (zc_8 (sh_ a1 1) (sh_ k1 1) s1.1) (pu_r (zc_8 (sh_ a1 16) (sh_ k1 16) s1.2.1) (pu_r (zc_4 (sh_ a1 31) (sh_ k1 31) s1.2.2.2.1) (pu_l ((zc_1 (sh_ a1 43) (sh_ k1 43) s1.2.2.2.2.2.2.1 ++ (([] : va_W) ++ (zc_7 (sh_ a1 47) (sh_ k1 47) s1.2.2.2.2.2.2.2.2.1 ++ (zc_3 (sh_ a1 50) (sh_ k1 50) s1.2.2.2.2.2.2.2.2.2.1 ++ (zc_6 (sh_ a1 54) (sh_ k1 54) s1.2.2.2.2.2.2.2.2.2.2.1 ++ (zc_2 (sh_ a1 56) (sh_ k1 56) 10 s1.2.2.2.2.2.2.2.2.2.2.2.1 ++ (zc_0 (sh_ a1 62) (sh_ k1 62) 24 s1.2.2.2.2.2.2.2.2.2.2.2.2.1 ++ zc_5 (sh_ a1 66) (sh_ k1 66) s1.2.2.2.2.2.2.2.2.2.2.2.2.2)))))))) (pu_1 (zc_4 (sh_ a1 37) (sh_ k1 37) s1.2.2.2.2.2.1))))))))
set_option maxHeartbeats 4000000 in
set_option maxRecDepth 100000 in
theorem cc_X9_runBill_t (l : Launch) (dC : Nat → ClassId) (dI : Nat → Nat → Nat) (fu : Nat) (a1 : Nat → Nat) (k1 : Nat → ClassId) (sz : Nat) (x3 : Int32) (s1 : ZT_9) (res : Int32 × ZT_9) (hR : rr_X9_runBill_t fu x3 s1 = some res) : Met l yX9_runBill wsX9_runBill ({ frames := 5, cells := 0, slots := 0, locals := 119 } : Room) (PcF [.ref (a1 0), .ref (a1 45), .ref (a1 37), .int x3] sz (dC, dI) (zc_9 a1 k1 s1) (zt_9 k1)) (va_Qi (fun (r : Int32) (u : ZT_9) => res = (r, u)) (fun u t => at3_ (dC, dI) (zc_9 a1 k1 u) (zt_9 k1) (va_A (zc_9 a1 k1 s1) sz) t) (va_A (zc_9 a1 k1 s1) sz)) 0 0 (va_A (zc_9 a1 k1 s1) sz) := by
  refine Met.ofW (cc := cX9_runBill) (maxL := 4) (ret := (some .boolean)) (by decide) rfl ?_
  intro p e s m args below meth c s₁ B hml hv
  obtain ⟨hav, hsz, hP, hK, hD0⟩ := hv
  have hx := B.exec
  have hb := B.bytes
  have hr := B.returns
  have hts := atoms_spec (ws := wsX9_runBill) B.pre
  have hown : s.vm.findClass RX9 = some m.cls := findClass_of_methodNamed B.named
  have hlocks := B.notSynchronized
  have hin0 : ∀ w ∈ wsX00, w ∈ wsX9_runBill := fun w h => List.mem_cons_of_mem _ (List.mem_append_left _ (List.mem_append_left _ (List.mem_append_right _ h)))
  have hin8 : ∀ w ∈ wsX80, w ∈ wsX9_runBill := fun w h => List.mem_cons_of_mem _ (List.mem_append_left _ (List.mem_append_left _ (List.mem_append_left _ (List.mem_append_right _ h))))
  have hin9 : ∀ w ∈ wsX90, w ∈ wsX9_runBill := fun w h => List.mem_cons_of_mem _ (List.mem_append_left _ (List.mem_append_left _ (List.mem_append_left _ (List.mem_append_left _ (List.mem_append_right _ h)))))
  subst hsz
  have hD := hD0.self (sz := s.heap.size)
  clear hD0
  generalize hAe : va_A (zc_9 a1 k1 s1) s.heap.size = A at hD ⊢
  have hA : ∀ q : Nat, s.heap.size ≤ q → A q := fun q h => by rw [← hAe]; exact Or.inr h
  have hS : va_S A s.heap s.heap [] := va_S.rf
  generalize hQe : MQ below _ args s 0 0 A = Q
  rw [show entryFrame m args 4 = F0 m 0 ((lg_sl ([.ref (a1 0), .ref (a1 45), .ref (a1 37), .int x3]) ++ List.replicate (4 - (lg_sl ([.ref (a1 0), .ref (a1 45), .ref (a1 37), .int x3])).length) Slot.unset).toArray) [] from by rw [hav]; exact lg_entry_eq m _ _]
  have hl := lv_entry ([.ref (a1 0), .ref (a1 45), .ref (a1 37), .int x3]) (n := 4) (Nat.le_of_ble_eq_true rfl)
  generalize (lg_sl ([.ref (a1 0), .ref (a1 45), .ref (a1 37), .int x3]) ++ List.replicate (4 - (lg_sl ([.ref (a1 0), .ref (a1 45), .ref (a1 37), .int x3])).length) Slot.unset).toArray = ls at hl ⊢
  have hl : lv_has ls 4 [(0, .ref (a1 0)), (1, .ref (a1 45)), (2, .ref (a1 37)), (3, .int x3)] := hl
  unfold rr_X9_runBill_t at hR
  refine lv_aload_n hx hb dX9_runBill_0 rfl (lv_at hl 1 rfl) ?_
  refine lv_aload_n hx hb dX9_runBill_1 rfl (lv_at hl 2 rfl) ?_
  refine lv_aload_n hx hb dX9_runBill_2 rfl (lv_at hl 0 rfl) ?_
  refine va_get (D := (dC, dI)) (ci := 9) (v := .ref (a1 1)) (C := RX9) (T := TX9) (N := 14) hx hb hts hin9 hown hK hP 0 rfl rfl 0 (by decide) (hts (.fieldLink RX9 10 "OldestCoins" "town" "LOldestCoins$Town;") (List.mem_of_getElem? (i := 1) rfl)) (fun _ h9 => h9) rfl dX9_runBill_3 ?_
  refine va_get (D := (dC, dI)) (ci := 8) (v := .ref (a1 8)) (C := RX8) (T := TX8) (N := 4) hx hb hts hin8 hown hK hP 1 rfl rfl 2 (by decide) (hts (.fieldLink RX9 187 "OldestCoins$Town" "day" "LOldestCoins$Bills;") (List.mem_of_getElem? (i := 2) rfl)) (fun _ h9 => h9) rfl dX9_runBill_6 ?_
  refine va_get (D := (dC, dI)) (ci := 0) (v := .ref (a1 9)) (C := RX0) (T := TX0) (N := 4) hx hb hts hin0 hown hK hP 8 rfl rfl 1 (by decide) (hts (.fieldLink RX9 333 "OldestCoins$Bills" "purse" "[I") (List.mem_of_getElem? (i := 3) rfl)) (fun _ h9 => h9) rfl dX9_runBill_9 ?_
  refine lv_iload_n hx hb dX9_runBill_12 rfl (lv_at hl 3 rfl) ?_
  have i1 := (ck_ok hR).1
  replace hR := (ck_ok hR).2
  refine va_iald (f := s1.1.2.2.1.2.1) hx hb hK hP 9 5 rfl rfl i1 dX9_runBill_13 ?_
  refine lv_aload_n hx hb dX9_runBill_14 rfl (lv_at hl 0 rfl) ?_
  refine va_get (D := (dC, dI)) (ci := 9) (v := .ref (a1 1)) (C := RX9) (T := TX9) (N := 14) hx hb hts hin9 hown hK hP 0 rfl rfl 0 (by decide) (hts (.fieldLink RX9 10 "OldestCoins" "town" "LOldestCoins$Town;") (List.mem_of_getElem? (i := 1) rfl)) (fun _ h9 => h9) rfl dX9_runBill_15 ?_
  refine va_get (D := (dC, dI)) (ci := 8) (v := .ref (a1 8)) (C := RX8) (T := TX8) (N := 4) hx hb hts hin8 hown hK hP 1 rfl rfl 2 (by decide) (hts (.fieldLink RX9 187 "OldestCoins$Town" "day" "LOldestCoins$Bills;") (List.mem_of_getElem? (i := 2) rfl)) (fun _ h9 => h9) rfl dX9_runBill_18 ?_
  refine va_get (D := (dC, dI)) (ci := 0) (v := .ref (a1 10)) (C := RX0) (T := TX0) (N := 4) hx hb hts hin0 hown hK hP 8 rfl rfl 2 (by decide) (hts (.fieldLink RX9 336 "OldestCoins$Bills" "shop" "[I") (List.mem_of_getElem? (i := 4) rfl)) (fun _ h9 => h9) rfl dX9_runBill_21 ?_
  refine lv_iload_n hx hb dX9_runBill_24 rfl (lv_at hl 3 rfl) ?_
  have i2 := (ck_ok hR).1
  replace hR := (ck_ok hR).2
  refine va_iald (f := s1.1.2.2.1.2.2.1) hx hb hK hP 10 6 rfl rfl i2 dX9_runBill_25 ?_
  refine lv_aload_n hx hb dX9_runBill_26 rfl (lv_at hl 0 rfl) ?_
  refine va_get (D := (dC, dI)) (ci := 9) (v := .ref (a1 1)) (C := RX9) (T := TX9) (N := 14) hx hb hts hin9 hown hK hP 0 rfl rfl 0 (by decide) (hts (.fieldLink RX9 10 "OldestCoins" "town" "LOldestCoins$Town;") (List.mem_of_getElem? (i := 1) rfl)) (fun _ h9 => h9) rfl dX9_runBill_27 ?_
  refine va_get (D := (dC, dI)) (ci := 8) (v := .ref (a1 8)) (C := RX8) (T := TX8) (N := 4) hx hb hts hin8 hown hK hP 1 rfl rfl 2 (by decide) (hts (.fieldLink RX9 187 "OldestCoins$Town" "day" "LOldestCoins$Bills;") (List.mem_of_getElem? (i := 2) rfl)) (fun _ h9 => h9) rfl dX9_runBill_30 ?_
  refine va_get (D := (dC, dI)) (ci := 0) (v := .ref (a1 11)) (C := RX0) (T := TX0) (N := 4) hx hb hts hin0 hown hK hP 8 rfl rfl 3 (by decide) (hts (.fieldLink RX9 339 "OldestCoins$Bills" "sum" "[I") (List.mem_of_getElem? (i := 5) rfl)) (fun _ h9 => h9) rfl dX9_runBill_33 ?_
  refine lv_iload_n hx hb dX9_runBill_36 rfl (lv_at hl 3 rfl) ?_
  have i3 := (ck_ok hR).1
  replace hR := (ck_ok hR).2
  refine va_iald (f := s1.1.2.2.1.2.2.2) hx hb hK hP 11 7 rfl rfl i3 dX9_runBill_37 ?_
  have hR0 := ob_ok hR
  clear hR
  obtain ⟨q4, hq4, hR⟩ := hR0
  refine va_calli (va_runV (As := [.ref (a1 37), .int (s1.1.2.2.1.2.1 x3.toNatClampNeg), .int (s1.1.2.2.1.2.2.1 x3.toNatClampNeg), .int (s1.1.2.2.1.2.2.2 x3.toNatClampNeg)]) (rest := []) ⟨hx, hb, hml, hown, hts⟩ (cc_X1_meets l dC dI fu (sh_ a1 45) (sh_ a1 37) (sh_ k1 45) (sh_ k1 37) s.heap.size (s1.1.2.2.1.2.1 x3.toNatClampNeg) (s1.1.2.2.1.2.2.1 x3.toNatClampNeg) (s1.1.2.2.1.2.2.2 x3.toNatClampNeg) s1.2.2.2.2.2.2.2.1 s1.2.2.2.2.2.1 q4 hq4) (cwV 4 hts gX9_runBill_X1_meets rfl rfl rfl (by decide +kernel) ⟨Nat.le_of_ble_eq_true rfl, Nat.le_of_ble_eq_true rfl⟩) (pf_v (hK.sub (tys' := zt_1 (sh_ k1 45) ++ zt_4 (sh_ k1 37)) [33, 27, 28, 29, 30, 31] rfl) (sub_P (sb_9__0c45_0c37 a1 k1 s1) hP) (sub_D (sb_9__0c45_0c37 a1 k1 s1) hD) 1 0 rfl rfl rfl) rfl rfl hl.1 rfl (lv_room (Nat.le_of_ble_eq_true rfl)) dX9_runBill_38 ⟨Nat.le_refl _, Nat.le_refl _⟩) hS (fun q _ h => (sub_F (sb_9__0c45_0c37 a1 k1 s1) hD hS hA) q h) (sub_F (sb_9__0c45_0c37 a1 k1 s1) hD hS hA) (fun r4 v4 t4 H4 locs4 ht4 hvm4 hw4 hB4 hz4 hk4 hS4 => ?_)
  obtain rfl : r4 = q4.1 := (congrArg Prod.fst hw4).symm
  obtain rfl : v4 = q4.2 := (congrArg Prod.snd hw4).symm
  obtain ⟨hP4, hD4⟩ := jn_sub (sb_9__0c45_0c37 a1 k1 s1) (jo_9__0c45_0c37__0 a1 k1 s1 q4.2) rfl hP hD hk4 ht4 hB4
  have hP4 : va_P (dC, dI) vwCl (zc_9 a1 k1 (s1.1, s1.2.1, s1.2.2.1, s1.2.2.2.1, s1.2.2.2.2.1, s1.2.2.2.2.2.1, s1.2.2.2.2.2.2.1, q4.2, s1.2.2.2.2.2.2.2.2)) H4 := hP4
  have hD4 : va_D A (zc_9 a1 k1 (s1.1, s1.2.1, s1.2.2.1, s1.2.2.2.1, s1.2.2.2.2.1, s1.2.2.2.2.2.1, s1.2.2.2.2.2.2.1, q4.2, s1.2.2.2.2.2.2.2.2)) := hD4
  clear hP hD hS hB4 hk4 hvm4 hz4 ht4
  have z5 := (zk_ok hR).1
  replace hR := (zk_ok hR).2
  subst hQe
  exact W.zret (ty := .boolean) (v := q4.1) hx hb hr (zk_nar z5) (fun t ht hW => ⟨⟨q4.1, (s1.1, s1.2.1, s1.2.2.1, s1.2.2.2.1, s1.2.2.2.2.1, s1.2.2.2.2.2.1, s1.2.2.2.2.2.2.1, q4.2, s1.2.2.2.2.2.2.2.2), rfl, (Option.some.inj hR).symm, by rw [ht]; exact hP4, va_K.moved hW.alike hK, hD4⟩, hS4.F ht⟩) hS4.2.2 dX9_runBill_41
def rr_X9_coinsPaid_t (fu : Nat) (x3 : Int32) (s1 : ZT_9) : Option (Int64 × ZT_9) := (rr_X9_runBill_t fu x3 s1).bind (fun q1 => (if q1.1 = (0 : Int32) then some ((0 : Int64), q1.2) else (rr_X4_numbersOf fu q1.2.2.2.2.2.2.2.2.1.2.1 q1.2.2.2.2.2.2.1).bind (fun q3 => some (q3, q1.2))))
set_option maxRecDepth 100000 in
theorem sb_9__0c37 (a1 : Nat → Nat) (k1 : Nat → ClassId) (s1 : ZT_9) : List.Perm (zc_9 a1 k1 s1) ((zc_4 (sh_ a1 37) (sh_ k1 37) s1.2.2.2.2.2.1) ++ ([(a1 0, .inr (9, [.ref (a1 1), .ref (a1 16), .int s1.2.2.1, .ref (a1 31), .int s1.2.2.2.2.1, .ref (a1 37), .ref (a1 43), .ref (a1 45), .ref (a1 47), .ref (a1 50), .ref (a1 54), .ref (a1 56), .ref (a1 62), .ref (a1 66)]))] ++ (zc_8 (sh_ a1 1) (sh_ k1 1) s1.1 ++ (zc_8 (sh_ a1 16) (sh_ k1 16) s1.2.1 ++ (zc_4 (sh_ a1 31) (sh_ k1 31) s1.2.2.2.1 ++ (([] : va_W) ++ (zc_1 (sh_ a1 43) (sh_ k1 43) s1.2.2.2.2.2.2.1 ++ (zc_1 (sh_ a1 45) (sh_ k1 45) s1.2.2.2.2.2.2.2.1 ++ (zc_7 (sh_ a1 47) (sh_ k1 47) s1.2.2.2.2.2.2.2.2.1 ++ (zc_3 (sh_ a1 50) (sh_ k1 50) s1.2.2.2.2.2.2.2.2.2.1 ++ (zc_6 (sh_ a1 54) (sh_ k1 54) s1.2.2.2.2.2.2.2.2.2.2.1 ++ (zc_2 (sh_ a1 56) (sh_ k1 56) 10 s1.2.2.2.2.2.2.2.2.2.2.2.1 ++ (zc_0 (sh_ a1 62) (sh_ k1 62) 24 s1.2.2.2.2.2.2.2.2.2.2.2.2.1 ++ zc_5 (sh_ a1 66) (sh_ k1 66) s1.2.2.2.2.2.2.2.2.2.2.2.2.2))))))))))))) := (pu_r ([(a1 0, .inr (9, [.ref (a1 1), .ref (a1 16), .int s1.2.2.1, .ref (a1 31), .int s1.2.2.2.2.1, .ref (a1 37), .ref (a1 43), .ref (a1 45), .ref (a1 47), .ref (a1 50), .ref (a1 54), .ref (a1 56), .ref (a1 62), .ref (a1 66)]))]) (pu_r (zc_8 (sh_ a1 1) (sh_ k1 1) s1.1) (pu_r (zc_8 (sh_ a1 16) (sh_ k1 16) s1.2.1) (pu_r (zc_4 (sh_ a1 31) (sh_ k1 31) s1.2.2.2.1) (pu_l ((zc_1 (sh_ a1 43) (sh_ k1 43) s1.2.2.2.2.2.2.1 ++ (zc_1 (sh_ a1 45) (sh_ k1 45) s1.2.2.2.2.2.2.2.1 ++ (zc_7 (sh_ a1 47) (sh_ k1 47) s1.2.2.2.2.2.2.2.2.1 ++ (zc_3 (sh_ a1 50) (sh_ k1 50) s1.2.2.2.2.2.2.2.2.2.1 ++ (zc_6 (sh_ a1 54) (sh_ k1 54) s1.2.2.2.2.2.2.2.2.2.2.1 ++ (zc_2 (sh_ a1 56) (sh_ k1 56) 10 s1.2.2.2.2.2.2.2.2.2.2.2.1 ++ (zc_0 (sh_ a1 62) (sh_ k1 62) 24 s1.2.2.2.2.2.2.2.2.2.2.2.2.1 ++ zc_5 (sh_ a1 66) (sh_ k1 66) s1.2.2.2.2.2.2.2.2.2.2.2.2.2)))))))) (pu_1 (zc_4 (sh_ a1 37) (sh_ k1 37) s1.2.2.2.2.2.1)))))))
set_option maxRecDepth 100000 in
theorem jo_9__0c37__ (a1 : Nat → Nat) (k1 : Nat → ClassId) (s1 : ZT_9) : List.Perm (zc_9 a1 k1 s1) ((zc_4 (sh_ a1 37) (sh_ k1 37) s1.2.2.2.2.2.1) ++ ([(a1 0, .inr (9, [.ref (a1 1), .ref (a1 16), .int s1.2.2.1, .ref (a1 31), .int s1.2.2.2.2.1, .ref (a1 37), .ref (a1 43), .ref (a1 45), .ref (a1 47), .ref (a1 50), .ref (a1 54), .ref (a1 56), .ref (a1 62), .ref (a1 66)]))] ++ (zc_8 (sh_ a1 1) (sh_ k1 1) s1.1 ++ (zc_8 (sh_ a1 16) (sh_ k1 16) s1.2.1 ++ (zc_4 (sh_ a1 31) (sh_ k1 31) s1.2.2.2.1 ++ (([] : va_W) ++ (zc_1 (sh_ a1 43) (sh_ k1 43) s1.2.2.2.2.2.2.1 ++ (zc_1 (sh_ a1 45) (sh_ k1 45) s1.2.2.2.2.2.2.2.1 ++ (zc_7 (sh_ a1 47) (sh_ k1 47) s1.2.2.2.2.2.2.2.2.1 ++ (zc_3 (sh_ a1 50) (sh_ k1 50) s1.2.2.2.2.2.2.2.2.2.1 ++ (zc_6 (sh_ a1 54) (sh_ k1 54) s1.2.2.2.2.2.2.2.2.2.2.1 ++ (zc_2 (sh_ a1 56) (sh_ k1 56) 10 s1.2.2.2.2.2.2.2.2.2.2.2.1 ++ (zc_0 (sh_ a1 62) (sh_ k1 62) 24 s1.2.2.2.2.2.2.2.2.2.2.2.2.1 ++ zc_5 (sh_ a1 66) (sh_ k1 66) s1.2.2.2.2.2.2.2.2.2.2.2.2.2))))))))))))) := (pu_r ([(a1 0, .inr (9, [.ref (a1 1), .ref (a1 16), .int s1.2.2.1, .ref (a1 31), .int s1.2.2.2.2.1, .ref (a1 37), .ref (a1 43), .ref (a1 45), .ref (a1 47), .ref (a1 50), .ref (a1 54), .ref (a1 56), .ref (a1 62), .ref (a1 66)]))]) (pu_r (zc_8 (sh_ a1 1) (sh_ k1 1) s1.1) (pu_r (zc_8 (sh_ a1 16) (sh_ k1 16) s1.2.1) (pu_r (zc_4 (sh_ a1 31) (sh_ k1 31) s1.2.2.2.1) (pu_l ((zc_1 (sh_ a1 43) (sh_ k1 43) s1.2.2.2.2.2.2.1 ++ (zc_1 (sh_ a1 45) (sh_ k1 45) s1.2.2.2.2.2.2.2.1 ++ (zc_7 (sh_ a1 47) (sh_ k1 47) s1.2.2.2.2.2.2.2.2.1 ++ (zc_3 (sh_ a1 50) (sh_ k1 50) s1.2.2.2.2.2.2.2.2.2.1 ++ (zc_6 (sh_ a1 54) (sh_ k1 54) s1.2.2.2.2.2.2.2.2.2.2.1 ++ (zc_2 (sh_ a1 56) (sh_ k1 56) 10 s1.2.2.2.2.2.2.2.2.2.2.2.1 ++ (zc_0 (sh_ a1 62) (sh_ k1 62) 24 s1.2.2.2.2.2.2.2.2.2.2.2.2.1 ++ zc_5 (sh_ a1 66) (sh_ k1 66) s1.2.2.2.2.2.2.2.2.2.2.2.2.2)))))))) (pu_1 (zc_4 (sh_ a1 37) (sh_ k1 37) s1.2.2.2.2.2.1)))))))
set_option maxHeartbeats 4000000 in
set_option maxRecDepth 100000 in
theorem cc_X9_coinsPaid_t (l : Launch) (dC : Nat → ClassId) (dI : Nat → Nat → Nat) (fu : Nat) (a1 : Nat → Nat) (k1 : Nat → ClassId) (sz : Nat) (x3 : Int32) (s1 : ZT_9) (res : Int64 × ZT_9) (hR : rr_X9_coinsPaid_t fu x3 s1 = some res) : Met l yX9_coinsPaid wsX9_coinsPaid ({ frames := 6, cells := 0, slots := 0, locals := 142 } : Room) (PcF [.ref (a1 0), .ref (a1 45), .ref (a1 37), .int x3] sz (dC, dI) (zc_9 a1 k1 s1) (zt_9 k1)) (va_Ql (fun (r : Int64) (u : ZT_9) => res = (r, u)) (fun u t => at3_ (dC, dI) (zc_9 a1 k1 u) (zt_9 k1) (va_A (zc_9 a1 k1 s1) sz) t) (va_A (zc_9 a1 k1 s1) sz)) 0 0 (va_A (zc_9 a1 k1 s1) sz) := by
  refine Met.ofW (cc := cX9_coinsPaid) (maxL := 4) (ret := (some .long)) (by decide) rfl ?_
  intro p e s m args below meth c s₁ B hml hv
  obtain ⟨hav, hsz, hP, hK, hD0⟩ := hv
  have hx := B.exec
  have hb := B.bytes
  have hr := B.returns
  have hts := atoms_spec (ws := wsX9_coinsPaid) B.pre
  have hown : s.vm.findClass RX9 = some m.cls := findClass_of_methodNamed B.named
  have hlocks := B.notSynchronized
  have hin1 : ∀ w ∈ wsX10, w ∈ wsX9_coinsPaid := fun w h => List.mem_cons_of_mem _ (List.mem_append_left _ (List.mem_append_left _ (List.mem_append_left _ (List.mem_append_left _ (List.mem_append_right _ h)))))
  subst hsz
  have hD := hD0.self (sz := s.heap.size)
  clear hD0
  generalize hAe : va_A (zc_9 a1 k1 s1) s.heap.size = A at hD ⊢
  have hA : ∀ q : Nat, s.heap.size ≤ q → A q := fun q h => by rw [← hAe]; exact Or.inr h
  have hS : va_S A s.heap s.heap [] := va_S.rf
  generalize hQe : MQ below _ args s 0 0 A = Q
  rw [show entryFrame m args 4 = F0 m 0 ((lg_sl ([.ref (a1 0), .ref (a1 45), .ref (a1 37), .int x3]) ++ List.replicate (4 - (lg_sl ([.ref (a1 0), .ref (a1 45), .ref (a1 37), .int x3])).length) Slot.unset).toArray) [] from by rw [hav]; exact lg_entry_eq m _ _]
  have hl := lv_entry ([.ref (a1 0), .ref (a1 45), .ref (a1 37), .int x3]) (n := 4) (Nat.le_of_ble_eq_true rfl)
  generalize (lg_sl ([.ref (a1 0), .ref (a1 45), .ref (a1 37), .int x3]) ++ List.replicate (4 - (lg_sl ([.ref (a1 0), .ref (a1 45), .ref (a1 37), .int x3])).length) Slot.unset).toArray = ls at hl ⊢
  have hl : lv_has ls 4 [(0, .ref (a1 0)), (1, .ref (a1 45)), (2, .ref (a1 37)), (3, .int x3)] := hl
  unfold rr_X9_coinsPaid_t at hR
  refine lv_aload_n hx hb dX9_coinsPaid_0 rfl (lv_at hl 0 rfl) ?_
  refine lv_aload_n hx hb dX9_coinsPaid_1 rfl (lv_at hl 1 rfl) ?_
  refine lv_aload_n hx hb dX9_coinsPaid_2 rfl (lv_at hl 2 rfl) ?_
  refine lv_iload_n hx hb dX9_coinsPaid_3 rfl (lv_at hl 3 rfl) ?_
  have hR0 := ob_ok hR
  clear hR
  obtain ⟨q1, hq1, hR⟩ := hR0
  refine va_calli (va_runV (As := [.ref (a1 45), .ref (a1 37), .int x3]) (rest := []) ⟨hx, hb, hml, hown, hts⟩ (cc_X9_runBill_t l dC dI fu a1 k1 s.heap.size x3 s1 q1 hq1) (cwV 3 hts gX9_coinsPaid_X9_runBill rfl rfl rfl (by decide +kernel) ⟨Nat.le_of_ble_eq_true rfl, Nat.le_of_ble_eq_true rfl⟩) (pf_v hK hP hD 9 0 rfl rfl rfl) rfl rfl hl.1 rfl (lv_room (Nat.le_of_ble_eq_true rfl)) dX9_coinsPaid_4 ⟨Nat.le_refl _, Nat.le_refl _⟩) hS (fun q _ h => (fr_all hD hS hA) q h) (fr_all hD hS hA) (fun r1 v1 t1 H1 locs1 ht1 hvm1 hw1 hB1 hz1 hk1 hS1 => ?_)
  obtain rfl : r1 = q1.1 := (congrArg Prod.fst hw1).symm
  obtain rfl : v1 = q1.2 := (congrArg Prod.snd hw1).symm
  obtain ⟨hP1, hD1⟩ := jn_all hD hS hA ht1 hB1
  have hP1 : va_P (dC, dI) vwCl (zc_9 a1 k1 q1.2) H1 := hP1
  have hD1 : va_D A (zc_9 a1 k1 q1.2) := hD1
  clear hP hD hS hB1 hk1 hvm1 hz1 ht1
  refine lv_if_eq (tgt := 21) hx hb dX9_coinsPaid_7 (by decide) (fun c2 => ?_) (fun c2 => ?_)
  · replace hR := ifp_ hR c2
    refine lv_lconst (v := (0 : Int64)) hx hb dX9_coinsPaid_21 (by decide) ?_
    subst hQe
    exact W.lret (v := (0 : Int64)) hx hb hr (fun t ht hW => ⟨⟨(0 : Int64), q1.2, rfl, (Option.some.inj hR).symm, by rw [ht]; exact hP1, va_K.moved hW.alike hK, hD1⟩, hS1.F ht⟩) hS1.2.2 dX9_coinsPaid_22
  · replace hR := ifn_ hR c2
    refine lv_aload_n hx hb dX9_coinsPaid_10 rfl (lv_at hl 2 rfl) ?_
    refine lv_aload_n hx hb dX9_coinsPaid_11 rfl (lv_at hl 1 rfl) ?_
    refine va_get (D := (dC, dI)) (ci := 1) (v := .long q1.2.2.2.2.2.2.2.2.1.2.1) (C := RX1) (T := TX1) (N := 5) hx hb hts hin1 hown hK hP1 45 rfl rfl 1 (by decide) (hts (.fieldLink RX9 217 "OldestCoins$Board" "paid" "J") (List.mem_of_getElem? (i := 1) rfl)) (fun _ h9 => h9) rfl dX9_coinsPaid_12 ?_
    have hR0 := ob_ok hR
    clear hR
    obtain ⟨q3, hq3, hR⟩ := hR0
    refine va_calll (va_runV (As := [.long q1.2.2.2.2.2.2.2.2.1.2.1]) (rest := []) ⟨hx, hb, hml, hown, hts⟩ (cc_X4_numbersOf l dC dI fu (sh_ a1 37) (sh_ k1 37) H1.size q1.2.2.2.2.2.2.2.2.1.2.1 q1.2.2.2.2.2.2.1 q3 hq3) (cwV 1 hts gX9_coinsPaid_X4_numbersOf rfl rfl rfl (by decide +kernel) ⟨Nat.le_of_ble_eq_true rfl, Nat.le_of_ble_eq_true rfl⟩) (pf_v (hK.sub (tys' := zt_4 (sh_ k1 37)) [27, 28, 29, 30, 31] rfl) (sub_P (sb_9__0c37 a1 k1 q1.2) hP1) (sub_D (sb_9__0c37 a1 k1 q1.2) hD1) 4 0 rfl rfl rfl) rfl rfl hl.1 rfl (lv_room (Nat.le_of_ble_eq_true rfl)) dX9_coinsPaid_15 ⟨Nat.le_refl _, Nat.le_refl _⟩) hS1 (fun q _ h => (sub_F (sb_9__0c37 a1 k1 q1.2) hD1 hS1 hA) q h) (sub_F (sb_9__0c37 a1 k1 q1.2) hD1 hS1 hA) (fun r3 v3 t3 H3 locs3 ht3 hvm3 hw3 hB3 hz3 hk3 hS3 => ?_)
    subst hw3
    obtain ⟨hP3, hD3⟩ := jn_sub (sb_9__0c37 a1 k1 q1.2) (jo_9__0c37__ a1 k1 q1.2 ) rfl hP1 hD1 hk3 ht3 hB3
    have hP3 : va_P (dC, dI) vwCl (zc_9 a1 k1 q1.2) H3 := hP3
    have hD3 : va_D A (zc_9 a1 k1 q1.2) := hD3
    clear hP1 hD1 hS1 hB3 hk3 hvm3 hz3 ht3
    refine lv_goto (tgt := 22) hx hb dX9_coinsPaid_18 (by decide) ?_
    subst hQe
    exact W.lret (v := q3) hx hb hr (fun t ht hW => ⟨⟨q3, q1.2, rfl, (Option.some.inj hR).symm, by rw [ht]; exact hP3, va_K.moved hW.alike hK, hD3⟩, hS3.F ht⟩) hS3.2.2 dX9_coinsPaid_22
