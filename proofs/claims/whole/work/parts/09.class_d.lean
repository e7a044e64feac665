def rr_X9_isCoin (fu : Nat) (x1 : Int32) (s1 : ZT_9) : Option (Int32) := (rr_X9_isWithin fu x1 (0 : Int32) (s1.1.2.1.1 - (1 : Int32))).bind (fun q1 => zk_ q1 (some q1))
set_option maxHeartbeats 4000000 in
set_option maxRecDepth 100000 in
theorem cc_X9_isCoin (l : Launch) (dC : Nat → ClassId) (dI : Nat → Nat → Nat) (fu : Nat) (a1 : Nat → Nat) (k1 : Nat → ClassId) (sz : Nat) (x1 : Int32) (s1 : ZT_9) (res : Int32) (hR : rr_X9_isCoin fu x1 s1 = some res) : Met l yX9_isCoin wsX9_isCoin ({ frames := 1, cells := 0, slots := 0, locals := 22 } : Room) (PcF [.ref (a1 0), .int x1] sz (dC, dI) (zc_9 a1 k1 s1) (zt_9 k1)) (va_Qi (fun (r : Int32) (u : Unit) => res = r) (fun u t => at3_ (dC, dI) (zc_9 a1 k1 s1) (zt_9 k1) (va_A (zc_9 a1 k1 s1) sz) t) (va_A (zc_9 a1 k1 s1) sz)) 0 0 (va_A (zc_9 a1 k1 s1) sz) := by
  refine Met.ofW (cc := cX9_isCoin) (maxL := 2) (ret := (some .boolean)) (by decide) rfl ?_
  intro p e s m args below meth c s₁ B hml hv
  obtain ⟨hav, hsz, hP, hK, hD0⟩ := hv
  have hx := B.exec
  have hb := B.bytes
  have hr := B.returns
  have hts := atoms_spec (ws := wsX9_isCoin) B.pre
  have hown : s.vm.findClass RX9 = some m.cls := findClass_of_methodNamed B.named
  have hlocks := B.notSynchronized
  have hin2 : ∀ w ∈ wsX20, w ∈ wsX9_isCoin := fun w h => List.mem_cons_of_mem _ (List.mem_append_right _ h)
  have hin8 : ∀ w ∈ wsX80, w ∈ wsX9_isCoin := fun w h => List.mem_cons_of_mem _ (List.mem_append_left _ (List.mem_append_right _ h))
  have hin9 : ∀ w ∈ wsX90, w ∈ wsX9_isCoin := fun w h => List.mem_cons_of_mem _ (List.mem_append_left _ (List.mem_append_left _ (List.mem_append_right _ h)))
  subst hsz
  have hD := hD0.self (sz := s.heap.size)
  clear hD0
  generalize hAe : va_A (zc_9 a1 k1 s1) s.heap.size = A at hD ⊢
  have hA : ∀ q : Nat, s.heap.size ≤ q → A q := fun q h => by rw [← hAe]; exact Or.inr h
  have hS : va_S A s.heap s.heap [] := va_S.rf
  generalize hQe : MQ below _ args s 0 0 A = Q
  rw [show entryFrame m args 2 = F0 m 0 ((lg_sl ([.ref (a1 0), .int x1]) ++ List.replicate (2 - (lg_sl ([.ref (a1 0), .int x1])).length) Slot.unset).toArray) [] from by rw [hav]; exact lg_entry_eq m _ _]
  have hl := lv_entry ([.ref (a1 0), .int x1]) (n := 2) (Nat.le_of_ble_eq_true rfl)
  generalize (lg_sl ([.ref (a1 0), .int x1]) ++ List.replicate (2 - (lg_sl ([.ref (a1 0), .int x1])).length) Slot.unset).toArray = ls at hl ⊢
  have hl : lv_has ls 2 [(0, .ref (a1 0)), (1, .int x1)] := hl
  unfold rr_X9_isCoin at hR
  refine lv_iload_n hx hb dX9_isCoin_0 rfl (lv_at hl 1 rfl) ?_
  refine lv_iconst (v := (0 : Int32)) hx hb dX9_isCoin_1 (by decide) ?_
  refine lv_aload_n hx hb dX9_isCoin_2 rfl (lv_at hl 0 rfl) ?_
  refine va_get (D := (dC, dI)) (ci := 9) (v := .ref (a1 1)) (C := RX9) (T := TX9) (N := 14) hx hb hts hin9 hown hK hP 0 rfl rfl 0 (by decide) (hts (.fieldLink RX9 10 "OldestCoins" "town" "LOldestCoins$Town;") (List.mem_of_getElem? (i := 1) rfl)) (fun _ h9 => h9) rfl dX9_isCoin_3 ?_
  refine va_get (D := (dC, dI)) (ci := 8) (v := .ref (a1 2)) (C := RX8) (T := TX8) (N := 4) hx hb hts hin8 hown hK hP 1 rfl rfl 1 (by decide) (hts (.fieldLink RX9 98 "OldestCoins$Town" "coins" "LOldestCoins$Coins;") (List.mem_of_getElem? (i := 2) rfl)) (fun _ h9 => h9) rfl dX9_isCoin_6 ?_
  refine va_get (D := (dC, dI)) (ci := 2) (v := .int s1.1.2.1.1) (C := RX2) (T := TX2) (N := 6) hx hb hts hin2 hown hK hP 2 rfl rfl 0 (by decide) (hts (.fieldLink RX9 101 "OldestCoins$Coins" "size" "I") (List.mem_of_getElem? (i := 3) rfl)) (fun _ h9 => h9) rfl dX9_isCoin_9 ?_
  refine lv_iconst (v := (1 : Int32)) hx hb dX9_isCoin_12 (by decide) ?_
  refine lv_isub hx hb dX9_isCoin_13 ?_
  have hR0 := ob_ok hR
  clear hR
  obtain ⟨q1, hq1, hR⟩ := hR0
  refine va_calli (va_runS (As := [.int x1, .int (0 : Int32), .int (s1.1.2.1.1 - (1 : Int32))]) (rest := []) ⟨hx, hb, hml, hown, hts⟩ (cc_X9_isWithin l dC dI fu s.heap.size x1 (0 : Int32) (s1.1.2.1.1 - (1 : Int32)) q1 hq1) (va_cwS 3 hts gX9_isCoin_X9_isWithin rfl rfl rfl (by decide +kernel) ⟨Nat.le_of_ble_eq_true rfl, Nat.le_of_ble_eq_true rfl⟩) (pf_s (nil_K hK) nil_P (nil_D (A := A))) rfl rfl hl.1 rfl (lv_room (Nat.le_of_ble_eq_true rfl)) dX9_isCoin_14 ⟨Nat.le_refl _, Nat.le_refl _⟩) hS (fun q _ h => (fr_none hS hA) q h) (fr_none hS hA) (fun r1 v1 t1 H1 locs1 ht1 hvm1 hw1 hB1 hz1 hk1 hS1 => ?_)
  subst hw1
  have hP1 := jn_none hP hk1
  have hD1 := hD
  have hP1 : va_P (dC, dI) vwCl (zc_9 a1 k1 s1) H1 := hP1
  have hD1 : va_D A (zc_9 a1 k1 s1) := hD1
  clear hP hD hS hB1 hk1 hvm1 hz1 ht1
  have z2 := (zk_ok hR).1
  replace hR := (zk_ok hR).2
  subst hQe
  exact W.zret (ty := .boolean) (v := q1) hx hb hr (zk_nar z2) (fun t ht hW => ⟨⟨q1, (), rfl, (Option.some.inj hR).symm, by rw [ht]; exact hP1, va_K.moved hW.alike hK, hD1⟩, hS1.F ht⟩) hS1.2.2 dX9_isCoin_17
def rr_X9_isYear (fu : Nat) (x0 : Int32) : Option (Int32) := (rr_X9_isWithin fu x0 (0 : Int32) (99 : Int32)).bind (fun q1 => zk_ q1 (some q1))
set_option maxHeartbeats 4000000 in
set_option maxRecDepth 100000 in
theorem cc_X9_isYear (l : Launch) (dC : Nat → ClassId) (dI : Nat → Nat → Nat) (fu : Nat) (sz : Nat) (x0 : Int32) (res : Int32) (hR : rr_X9_isYear fu x0 = some res) : Met l yX9_isYear wsX9_isYear ({ frames := 1, cells := 0, slots := 0, locals := 22 } : Room) (PcF [.int x0] sz (dC, dI) (([] : va_W)) ([])) (va_Qi (fun (r : Int32) (u : Unit) => res = r) (fun u t => at3_ (dC, dI) (([] : va_W)) ([]) (va_A (([] : va_W)) sz) t) (va_A (([] : va_W)) sz)) 0 0 (va_A (([] : va_W)) sz) := by
  refine Met.ofW (cc := cX9_isYear) (maxL := 1) (ret := (some .boolean)) (by decide) rfl ?_
  intro p e s m args below meth c s₁ B hml hv
  obtain ⟨hav, hsz, hP, hK, hD0⟩ := hv
  have hx := B.exec
  have hb := B.bytes
  have hr := B.returns
  have hts := atoms_spec (ws := wsX9_isYear) B.pre
  have hown : s.vm.findClass RX9 = some m.cls := findClass_of_methodNamed B.named
  have hlocks := B.notSynchronized
  subst hsz
  have hD := hD0.self (sz := s.heap.size)
  clear hD0
  generalize hAe : va_A (([] : va_W)) s.heap.size = A at hD ⊢
  have hA : ∀ q : Nat, s.heap.size ≤ q → A q := fun q h => by rw [← hAe]; exact Or.inr h
  have hS : va_S A s.heap s.heap [] := va_S.rf
  generalize hQe : MQ below _ args s 0 0 A = Q
  rw [show entryFrame m args 1 = F0 m 0 ((lg_sl ([.int x0]) ++ List.replicate (1 - (lg_sl ([.int x0])).length) Slot.unset).toArray) [] from by rw [hav]; exact lg_entry_eq m _ _]
  have hl := lv_entry ([.int x0]) (n := 1) (Nat.le_of_ble_eq_true rfl)
  generalize (lg_sl ([.int x0]) ++ List.replicate (1 - (lg_sl ([.int x0])).length) Slot.unset).toArray = ls at hl ⊢
  have hl : lv_has ls 1 [(0, .int x0)] := hl
  unfold rr_X9_isYear at hR
  refine lv_iload_n hx hb dX9_isYear_0 rfl (lv_at hl 0 rfl) ?_
  refine lv_iconst (v := (0 : Int32)) hx hb dX9_isYear_1 (by decide) ?_
  refine lv_bipush (v := (99 : Int32)) hx hb dX9_isYear_2 (by decide) ?_
  have hR0 := ob_ok hR
  clear hR
  obtain ⟨q1, hq1, hR⟩ := hR0
  refine va_calli (va_runS (As := [.int x0, .int (0 : Int32), .int (99 : Int32)]) (rest := []) ⟨hx, hb, hml, hown, hts⟩ (cc_X9_isWithin l dC dI fu s.heap.size x0 (0 : Int32) (99 : Int32) q1 hq1) (va_cwS 3 hts gX9_isYear_X9_isWithin rfl rfl rfl (by decide +kernel) ⟨Nat.le_of_ble_eq_true rfl, Nat.le_of_ble_eq_true rfl⟩) (pf_s (nil_K hK) nil_P (nil_D (A := A))) rfl rfl hl.1 rfl (lv_room (Nat.le_of_ble_eq_true rfl)) dX9_isYear_4 ⟨Nat.le_refl _, Nat.le_refl _⟩) hS (fun q _ h => (fr_none hS hA) q h) (fr_none hS hA) (fun r1 v1 t1 H1 locs1 ht1 hvm1 hw1 hB1 hz1 hk1 hS1 => ?_)
  subst hw1
  have hP1 := jn_none hP hk1
  have hD1 := hD
  have hP1 : va_P (dC, dI) vwCl (([] : va_W)) H1 := hP1
  have hD1 : va_D A (([] : va_W)) := hD1
  clear hP hD hS hB1 hk1 hvm1 hz1 ht1
  have z2 := (zk_ok hR).1
  replace hR := (zk_ok hR).2
  subst hQe
  exact W.zret (ty := .boolean) (v := q1) hx hb hr (zk_nar z2) (fun t ht hW => ⟨⟨q1, (), rfl, (Option.some.inj hR).symm, by rw [ht]; exact hP1, va_K.moved hW.alike hK, hD1⟩, hS1.F ht⟩) hS1.2.2 dX9_isYear_7
def rr_X9_layOutForged (fu : Nat) (x1 : Int32) (x2 : Int32) (s1 : ZT_9) : Option (ZT_9) := (rr_X4_build fu x1 x2 s1.2.2.2.2.2.1 s1.1).bind (fun q1 => (rr_X1_layOut fu 40 s1.2.2.2.2.2.2.2.1 s1.1.2.1 q1).bind (fun q2 => some (s1.1, s1.2.1, s1.2.2.1, s1.2.2.2.1, s1.2.2.2.2.1, q1, s1.2.2.2.2.2.2.1, q2, s1.2.2.2.2.2.2.2.2)))
set_option maxRecDepth 100000 in
theorem sb_9__0c37_0c1 (a1 : Nat → Nat) (k1 : Nat → ClassId) (s1 : ZT_9) : List.Perm (zc_9 a1 k1 s1) ((zc_4 (sh_ a1 37) (sh_ k1 37) s1.2.2.2.2.2.1 ++ zc_8 (sh_ a1 1) (sh_ k1 1) s1.1) ++ ([(a1 0, .inr (9, [.ref (a1 1), .ref (a1 16), .int s1.2.2.1, .ref (a1 31), .int s1.2.2.2.2.1, .ref (a1 37), .ref (a1 43), .ref (a1 45), .ref (a1 47), .ref (a1 50), .ref (a1 54), .ref (a1 56), .ref (a1 62), .ref (a1 66)]))] ++ (([] : va_W) ++ (zc_8 (sh_ a1 16) (sh_ k1 16) s1.2.1 ++ (zc_4 (sh_ a1 31) (sh_ k1 31) s1.2.2.2.1 ++ (([] : va_W) ++ (zc_1 (sh_ a1 43) (sh_ k1 43) s1.2.2.2.2.2.2.1 ++ (zc_1 (sh_ a1 45) (sh_ k1 45) s1.2.2.2.2.2.2.2.1 ++ (zc_7 (sh_ a1 47) (sh_ k1 47) s1.2.2.2.2.2.2.2.2.1 ++ (zc_3 (sh_ a1 50) (sh_ k1 50) s1.2.2.2.2.2.2.2.2.2.1 ++ (zc_6 (sh_ a1 54) (sh_ k1 54) s1.2.2.2.2.2.2.2.2.2.2.1 ++ (zc_2 (sh_ a1 56) (sh_ k1 56) 10 s1.2.2.2.2.2.2.2.2.2.2.2.1 ++ (zc_0 (sh_ a1 62) (sh_ k1 62) 24 s1.2.2.2.2.2.2.2.2.2.2.2.2.1 ++ zc_5 (sh_ a1 66) (sh_ k1 66) s1.2.2.2.2.2.2.2.2.2.2.2.2.2))))))))))))) := (pu_2 (pu_r ([(a1 0, .inr (9, [.ref (a1 1), .ref (a1 16), .int s1.2.2.1, .ref (a1 31), .int s1.2.2.2.2.1, .ref (a1 37), .ref (a1 43), .ref (a1 45), .ref (a1 47), .ref (a1 50), .ref (a1 54), .ref (a1 56), .ref (a1 62), .ref (a1 66)]))]) (pu_r (zc_8 (sh_ a1 1) (sh_ k1 1) s1.1) (pu_r (zc_8 (sh_ a1 16) (sh_ k1 16) s1.2.1) (pu_r (zc_4 (sh_ a1 31) (sh_ k1 31) s1.2.2.2.1) (pu_l ((zc_1 (sh_ a1 43) (sh_ k1 43) s1.2.2.2.2.2.2.1 ++ (zc_1 (sh_ a1 45) (sh_ k1 45) s1.2.2.2.2.2.2.2.1 ++ (zc_7 (sh_ a1 47) (sh_ k1 47) s1.2.2.2.2.2.2.2.2.1 ++ (zc_3 (sh_ a1 50) (sh_ k1 50) s1.2.2.2.2.2.2.2.2.2.1 ++ (zc_6 (sh_ a1 54) (sh_ k1 54) s1.2.2.2.2.2.2.2.2.2.2.1 ++ (zc_2 (sh_ a1 56) (sh_ k1 56) 10 s1.2.2.2.2.2.2.2.2.2.2.2.1 ++ (zc_0 (sh_ a1 62) (sh_ k1 62) 24 s1.2.2.2.2.2.2.2.2.2.2.2.2.1 ++ zc_5 (sh_ a1 66) (sh_ k1 66) s1.2.2.2.2.2.2.2.2.2.2.2.2.2)))))))) (pu_1 (zc_4 (sh_ a1 37) (sh_ k1 37) s1.2.2.2.2.2.1))))))) (pu_r ([(a1 0, .inr (9, [.ref (a1 1), .ref (a1 16), .int s1.2.2.1, .ref (a1 31), .int s1.2.2.2.2.1, .ref (a1 37), .ref (a1 43), .ref (a1 45), .ref (a1 47), .ref (a1 50), .ref (a1 54), .ref (a1 56), .ref (a1 62), .ref (a1 66)]))]) (pu_l ((zc_8 (sh_ a1 16) (sh_ k1 16) s1.2.1 ++ (zc_4 (sh_ a1 31) (sh_ k1 31) s1.2.2.2.1 ++ (([] : va_W) ++ (zc_1 (sh_ a1 43) (sh_ k1 43) s1.2.2.2.2.2.2.1 ++ (zc_1 (sh_ a1 45) (sh_ k1 45) s1.2.2.2.2.2.2.2.1 ++ (zc_7 (sh_ a1 47) (sh_ k1 47) s1.2.2.2.2.2.2.2.2.1 ++ (zc_3 (sh_ a1 50) (sh_ k1 50) s1.2.2.2.2.2.2.2.2.2.1 ++ (zc_6 (sh_ a1 54) (sh_ k1 54) s1.2.2.2.2.2.2.2.2.2.2.1 ++ (zc_2 (sh_ a1 56) (sh_ k1 56) 10 s1.2.2.2.2.2.2.2.2.2.2.2.1 ++ (zc_0 (sh_ a1 62) (sh_ k1 62) 24 s1.2.2.2.2.2.2.2.2.2.2.2.2.1 ++ zc_5 (sh_ a1 66) (sh_ k1 66) s1.2.2.2.2.2.2.2.2.2.2.2.2.2))))))))))) (pu_1 (zc_8 (sh_ a1 1) (sh_ k1 1) s1.1)))))
set_option maxRecDepth 100000 in
theorem jo_9__0c37_0c1__0 (a1 : Nat → Nat) (k1 : Nat → ClassId) (s1 : ZT_9) (u1 : ZT_4) : List.Perm (zc_9 a1 k1 (s1.1, s1.2.1, s1.2.2.1, s1.2.2.2.1, s1.2.2.2.2.1, u1, s1.2.2.2.2.2.2)) ((zc_4 (sh_ a1 37) (sh_ k1 37) u1 ++ zc_8 (sh_ a1 1) (sh_ k1 1) s1.1) ++ ([(a1 0, .inr (9, [.ref (a1 1), .ref (a1 16), .int s1.2.2.1, .ref (a1 31), .int s1.2.2.2.2.1, .ref (a1 37), .ref (a1 43), .ref (a1 45), .ref (a1 47), .ref (a1 50), .ref (a1 54), .ref (a1 56), .ref (a1 62), .ref (a1 66)]))] ++ (([] : va_W) ++ (zc_8 (sh_ a1 16) (sh_ k1 16) s1.2.1 ++ (zc_4 (sh_ a1 31) (sh_ k1 31) s1.2.2.2.1 ++ (([] : va_W) ++ (zc_1 (sh_ a1 43) (sh_ k1 43) s1.2.2.2.2.2.2.1 ++ (zc_1 (sh_ a1 45) (sh_ k1 45) s1.2.2.2.2.2.2.2.1 ++ (zc_7 (sh_ a1 47) (sh_ k1 47) s1.2.2.2.2.2.2.2.2.1 ++ (zc_3 (sh_ a1 50) (sh_ k1 50) s1.2.2.2.2.2.2.2.2.2.1 ++ (zc_6 (sh_ a1 54) (sh_ k1 54) s1.2.2.2.2.2.2.2.2.2.2.1 ++ (zc_2 (sh_ a1 56) (sh_ k1 56) 10 s1.2.2.2.2.2.2.2.2.2.2.2.1 ++ (zc_0 (sh_ a1 62) (sh_ k1 62) 24 s1.2.2.2.2.2.2.2.2.2.2.2.2.1 ++ zc_5 (sh_ a1 66) (sh_ k1 66) s1.2.2.2.2.2.2.2.2.2.2.2.2.2))))))))))))) := (pu_2 (pu_r ([(a1 0, .inr (9, [.ref (a1 1), .ref (a1 16), .int s1.2.2.1, .ref (a1 31), .int s1.2.2.2.2.1, .ref (a1 37), .ref (a1 43), .ref (a1 45), .ref (a1 47), .ref (a1 50), .ref (a1 54), .ref (a1 56), .ref (a1 62), .ref (a1 66)]))]) (pu_r (zc_8 (sh_ a1 1) (sh_ k1 1) s1.1) (pu_r (zc_8 (sh_ a1 16) (sh_ k1 16) s1.2.1) (pu_r (zc_4 (sh_ a1 31) (sh_ k1 31) s1.2.2.2.1) (pu_l ((zc_1 (sh_ a1 43) (sh_ k1 43) s1.2.2.2.2.2.2.1 ++ (zc_1 (sh_ a1 45) (sh_ k1 45) s1.2.2.2.2.2.2.2.1 ++ (zc_7 (sh_ a1 47) (sh_ k1 47) s1.2.2.2.2.2.2.2.2.1 ++ (zc_3 (sh_ a1 50) (sh_ k1 50) s1.2.2.2.2.2.2.2.2.2.1 ++ (zc_6 (sh_ a1 54) (sh_ k1 54) s1.2.2.2.2.2.2.2.2.2.2.1 ++ (zc_2 (sh_ a1 56) (sh_ k1 56) 10 s1.2.2.2.2.2.2.2.2.2.2.2.1 ++ (zc_0 (sh_ a1 62) (sh_ k1 62) 24 s1.2.2.2.2.2.2.2.2.2.2.2.2.1 ++ zc_5 (sh_ a1 66) (sh_ k1 66) s1.2.2.2.2.2.2.2.2.2.2.2.2.2)))))))) (pu_1 (zc_4 (sh_ a1 37) (sh_ k1 37) u1))))))) (pu_r ([(a1 0, .inr (9, [.ref (a1 1), .ref (a1 16), .int s1.2.2.1, .ref (a1 31), .int s1.2.2.2.2.1, .ref (a1 37), .ref (a1 43), .ref (a1 45), .ref (a1 47), .ref (a1 50), .ref (a1 54), .ref (a1 56), .ref (a1 62), .ref (a1 66)]))]) (pu_l ((zc_8 (sh_ a1 16) (sh_ k1 16) s1.2.1 ++ (zc_4 (sh_ a1 31) (sh_ k1 31) s1.2.2.2.1 ++ (([] : va_W) ++ (zc_1 (sh_ a1 43) (sh_ k1 43) s1.2.2.2.2.2.2.1 ++ (zc_1 (sh_ a1 45) (sh_ k1 45) s1.2.2.2.2.2.2.2.1 ++ (zc_7 (sh_ a1 47) (sh_ k1 47) s1.2.2.2.2.2.2.2.2.1 ++ (zc_3 (sh_ a1 50) (sh_ k1 50) s1.2.2.2.2.2.2.2.2.2.1 ++ (zc_6 (sh_ a1 54) (sh_ k1 54) s1.2.2.2.2.2.2.2.2.2.2.1 ++ (zc_2 (sh_ a1 56) (sh_ k1 56) 10 s1.2.2.2.2.2.2.2.2.2.2.2.1 ++ (zc_0 (sh_ a1 62) (sh_ k1 62) 24 s1.2.2.2.2.2.2.2.2.2.2.2.2.1 ++ zc_5 (sh_ a1 66) (sh_ k1 66) s1.2.2.2.2.2.2.2.2.2.2.2.2.2))))))))))) (pu_1 (zc_8 (sh_ a1 1) (sh_ k1 1) s1.1)))))
set_option maxRecDepth 100000 in
theorem sb_9__0c45_0c2_0c37 (a1 : Nat → Nat) (k1 : Nat → ClassId) (s1 : ZT_9) : List.Perm (zc_9 a1 k1 s1) ((zc_1 (sh_ a1 45) (sh_ k1 45) s1.2.2.2.2.2.2.2.1 ++ zc_2 (sh_ (sh_ a1 1) 1) (sh_ (sh_ k1 1) 1) 40 s1.1.2.1 ++ zc_4 (sh_ a1 37) (sh_ k1 37) s1.2.2.2.2.2.1) ++ ([(a1 0, .inr (9, [.ref (a1 1), .ref (a1 16), .int s1.2.2.1, .ref (a1 31), .int s1.2.2.2.2.1, .ref (a1 37), .ref (a1 43), .ref (a1 45), .ref (a1 47), .ref (a1 50), .ref (a1 54), .ref (a1 56), .ref (a1 62), .ref (a1 66)]))] ++ (([((sh_ a1 1) 0, .inr (8, [.int s1.1.1, .ref ((sh_ a1 1) 1), .ref ((sh_ a1 1) 7), .ref ((sh_ a1 1) 11)]))] ++ (([] : va_W) ++ (zc_0 (sh_ (sh_ a1 1) 7) (sh_ (sh_ k1 1) 7) 24 s1.1.2.2.1 ++ zc_0 (sh_ (sh_ a1 1) 11) (sh_ (sh_ k1 1) 11) 6 s1.1.2.2.2))) ++ (zc_8 (sh_ a1 16) (sh_ k1 16) s1.2.1 ++ (zc_4 (sh_ a1 31) (sh_ k1 31) s1.2.2.2.1 ++ (([] : va_W) ++ (zc_1 (sh_ a1 43) (sh_ k1 43) s1.2.2.2.2.2.2.1 ++ (([] : va_W) ++ (zc_7 (sh_ a1 47) (sh_ k1 47) s1.2.2.2.2.2.2.2.2.1 ++ (zc_3 (sh_ a1 50) (sh_ k1 50) s1.2.2.2.2.2.2.2.2.2.1 ++ (zc_6 (sh_ a1 54) (sh_ k1 54) s1.2.2.2.2.2.2.2.2.2.2.1 ++ (zc_2 (sh_ a1 56) (sh_ k1 56) 10 s1.2.2.2.2.2.2.2.2.2.2.2.1 ++ (zc_0 (sh_ a1 62) (sh_ k1 62) 24 s1.2.2.2.2.2.2.2.2.2.2.2.2.1 ++ zc_5 (sh_ a1 66) (sh_ k1 66) s1.2.2.2.2.2.2.2.2.2.2.2.2.2))))))))))))) := (pu_2 (pu_2 (pu_r ([(a1 0, .inr (9, [.ref (a1 1), .ref (a1 16), .int s1.2.2.1, .ref (a1 31), .int s1.2.2.2.2.1, .ref (a1 37), .ref (a1 43), .ref (a1 45), .ref (a1 47), .ref (a1 50), .ref (a1 54), .ref (a1 56), .ref (a1 62), .ref (a1 66)]))]) (pu_r (zc_8 (sh_ a1 1) (sh_ k1 1) s1.1) (pu_r (zc_8 (sh_ a1 16) (sh_ k1 16) s1.2.1) (pu_r (zc_4 (sh_ a1 31) (sh_ k1 31) s1.2.2.2.1) (pu_r (zc_4 (sh_ a1 37) (sh_ k1 37) s1.2.2.2.2.2.1) (pu_r (zc_1 (sh_ a1 43) (sh_ k1 43) s1.2.2.2.2.2.2.1) (pu_l ((zc_7 (sh_ a1 47) (sh_ k1 47) s1.2.2.2.2.2.2.2.2.1 ++ (zc_3 (sh_ a1 50) (sh_ k1 50) s1.2.2.2.2.2.2.2.2.2.1 ++ (zc_6 (sh_ a1 54) (sh_ k1 54) s1.2.2.2.2.2.2.2.2.2.2.1 ++ (zc_2 (sh_ a1 56) (sh_ k1 56) 10 s1.2.2.2.2.2.2.2.2.2.2.2.1 ++ (zc_0 (sh_ a1 62) (sh_ k1 62) 24 s1.2.2.2.2.2.2.2.2.2.2.2.2.1 ++ zc_5 (sh_ a1 66) (sh_ k1 66) s1.2.2.2.2.2.2.2.2.2.2.2.2.2)))))) (pu_1 (zc_1 (sh_ a1 45) (sh_ k1 45) s1.2.2.2.2.2.2.2.1))))))))) (pu_r ([(a1 0, .inr (9, [.ref (a1 1), .ref (a1 16), .int s1.2.2.1, .ref (a1 31), .int s1.2.2.2.2.1, .ref (a1 37), .ref (a1 43), .ref (a1 45), .ref (a1 47), .ref (a1 50), .ref (a1 54), .ref (a1 56), .ref (a1 62), .ref (a1 66)]))]) (pu_l ((zc_8 (sh_ a1 16) (sh_ k1 16) s1.2.1 ++ (zc_4 (sh_ a1 31) (sh_ k1 31) s1.2.2.2.1 ++ (zc_4 (sh_ a1 37) (sh_ k1 37) s1.2.2.2.2.2.1 ++ (zc_1 (sh_ a1 43) (sh_ k1 43) s1.2.2.2.2.2.2.1 ++ (([] : va_W) ++ (zc_7 (sh_ a1 47) (sh_ k1 47) s1.2.2.2.2.2.2.2.2.1 ++ (zc_3 (sh_ a1 50) (sh_ k1 50) s1.2.2.2.2.2.2.2.2.2.1 ++ (zc_6 (sh_ a1 54) (sh_ k1 54) s1.2.2.2.2.2.2.2.2.2.2.1 ++ (zc_2 (sh_ a1 56) (sh_ k1 56) 10 s1.2.2.2.2.2.2.2.2.2.2.2.1 ++ (zc_0 (sh_ a1 62) (sh_ k1 62) 24 s1.2.2.2.2.2.2.2.2.2.2.2.2.1 ++ zc_5 (sh_ a1 66) (sh_ k1 66) s1.2.2.2.2.2.2.2.2.2.2.2.2.2))))))))))) (pu_r ([((sh_ a1 1) 0, .inr (8, [.int s1.1.1, .ref ((sh_ a1 1) 1), .ref ((sh_ a1 1) 7), .ref ((sh_ a1 1) 11)]))]) (pu_l ((zc_0 (sh_ (sh_ a1 1) 7) (sh_ (sh_ k1 1) 7) 24 s1.1.2.2.1 ++ zc_0 (sh_ (sh_ a1 1) 11) (sh_ (sh_ k1 1) 11) 6 s1.1.2.2.2)) (pu_1 (zc_2 (sh_ (sh_ a1 1) 1) (sh_ (sh_ k1 1) 1) 40 s1.1.2.1))))))) (pu_r ([(a1 0, .inr (9, [.ref (a1 1), .ref (a1 16), .int s1.2.2.1, .ref (a1 31), .int s1.2.2.2.2.1, .ref (a1 37), .ref (a1 43), .ref (a1 45), .ref (a1 47), .ref (a1 50), .ref (a1 54), .ref (a1 56), .ref (a1 62), .ref (a1 66)]))]) (pu_r (([((sh_ a1 1) 0, .inr (8, [.int s1.1.1, .ref ((sh_ a1 1) 1), .ref ((sh_ a1 1) 7), .ref ((sh_ a1 1) 11)]))] ++ (([] : va_W) ++ (zc_0 (sh_ (sh_ a1 1) 7) (sh_ (sh_ k1 1) 7) 24 s1.1.2.2.1 ++ zc_0 (sh_ (sh_ a1 1) 11) (sh_ (sh_ k1 1) 11) 6 s1.1.2.2.2)))) (pu_r (zc_8 (sh_ a1 16) (sh_ k1 16) s1.2.1) (pu_r (zc_4 (sh_ a1 31) (sh_ k1 31) s1.2.2.2.1) (pu_l ((zc_1 (sh_ a1 43) (sh_ k1 43) s1.2.2.2.2.2.2.1 ++ (([] : va_W) ++ (zc_7 (sh_ a1 47) (sh_ k1 47) s1.2.2.2.2.2.2.2.2.1 ++ (zc_3 (sh_ a1 50) (sh_ k1 50) s1.2.2.2.2.2.2.2.2.2.1 ++ (zc_6 (sh_ a1 54) (sh_ k1 54) s1.2.2.2.2.2.2.2.2.2.2.1 ++ (zc_2 (sh_ a1 56) (sh_ k1 56) 10 s1.2.2.2.2.2.2.2.2.2.2.2.1 ++ (zc_0 (sh_ a1 62) (sh_ k1 62) 24 s1.2.2.2.2.2.2.2.2.2.2.2.2.1 ++ zc_5 (sh_ a1 66) (sh_ k1 66) s1.2.2.2.2.2.2.2.2.2.2.2.2.2)))))))) (pu_1 (zc_4 (sh_ a1 37) (sh_ k1 37) s1.2.2.2.2.2.1))))))))
set_option maxRecDepth 100000 in
theorem jo_9__0c45_0c2_0c37__0 (a1 : Nat → Nat) (k1 : Nat → ClassId) (s1 : ZT_9) (u1 : ZT_1) : List.Perm (zc_9 a1 k1 (s1.1, s1.2.1, s1.2.2.1, s1.2.2.2.1, s1.2.2.2.2.1, s1.2.2.2.2.2.1, s1.2.2.2.2.2.2.1, u1, s1.2.2.2.2.2.2.2.2)) ((zc_1 (sh_ a1 45) (sh_ k1 45) u1 ++ zc_2 (sh_ (sh_ a1 1) 1) (sh_ (sh_ k1 1) 1) 40 s1.1.2.1 ++ zc_4 (sh_ a1 37) (sh_ k1 37) s1.2.2.2.2.2.1) ++ ([(a1 0, .inr (9, [.ref (a1 1), .ref (a1 16), .int s1.2.2.1, .ref (a1 31), .int s1.2.2.2.2.1, .ref (a1 37), .ref (a1 43), .ref (a1 45), .ref (a1 47), .ref (a1 50), .ref (a1 54), .ref (a1 56), .ref (a1 62), .ref (a1 66)]))] ++ (([((sh_ a1 1) 0, .inr (8, [.int s1.1.1, .ref ((sh_ a1 1) 1), .ref ((sh_ a1 1) 7), .ref ((sh_ a1 1) 11)]))] ++ (([] : va_W) ++ (zc_0 (sh_ (sh_ a1 1) 7) (sh_ (sh_ k1 1) 7) 24 s1.1.2.2.1 ++ zc_0 (sh_ (sh_ a1 1) 11) (sh_ (sh_ k1 1) 11) 6 s1.1.2.2.2))) ++ (zc_8 (sh_ a1 16) (sh_ k1 16) s1.2.1 ++ (zc_4 (sh_ a1 31) (sh_ k1 31) s1.2.2.2.1 ++ (([] : va_W) ++ (zc_1 (sh_ a1 43) (sh_ k1 43) s1.2.2.2.2.2.2.1 ++ (([] : va_W) ++ (zc_7 (sh_ a1 47) (sh_ k1 47) s1.2.2.2.2.2.2.2.2.1 ++ (zc_3 (sh_ a1 50) (sh_ k1 50) s1.2.2.2.2.2.2.2.2.2.1 ++ (zc_6 (sh_ a1 54) (sh_ k1 54) s1.2.2.2.2.2.2.2.2.2.2.1 ++ (zc_2 (sh_ a1 56) (sh_ k1 56) 10 s1.2.2.2.2.2.2.2.2.2.2.2.1 ++ (zc_0 (sh_ a1 62) (sh_ k1 62) 24 s1.2.2.2.2.2.2.2.2.2.2.2.2.1 ++ zc_5 (sh_ a1 66) (sh_ k1 66) s1.2.2.2.2.2.2.2.2.2.2.2.2.2))))))))))))) := (pu_2 (pu_2 (pu_r ([(a1 0, .inr (9, [.ref (a1 1), .ref (a1 16), .int s1.2.2.1, .ref (a1 31), .int s1.2.2.2.2.1, .ref (a1 37), .ref (a1 43), .ref (a1 45), .ref (a1 47), .ref (a1 50), .ref (a1 54), .ref (a1 56), .ref (a1 62), .ref (a1 66)]))]) (pu_r (zc_8 (sh_ a1 1) (sh_ k1 1) s1.1) (pu_r (zc_8 (sh_ a1 16) (sh_ k1 16) s1.2.1) (pu_r (zc_4 (sh_ a1 31) (sh_ k1 31) s1.2.2.2.1) (pu_r (zc_4 (sh_ a1 37) (sh_ k1 37) s1.2.2.2.2.2.1) (pu_r (zc_1 (sh_ a1 43) (sh_ k1 43) s1.2.2.2.2.2.2.1) (pu_l ((zc_7 (sh_ a1 47) (sh_ k1 47) s1.2.2.2.2.2.2.2.2.1 ++ (zc_3 (sh_ a1 50) (sh_ k1 50) s1.2.2.2.2.2.2.2.2.2.1 ++ (zc_6 (sh_ a1 54) (sh_ k1 54) s1.2.2.2.2.2.2.2.2.2.2.1 ++ (zc_2 (sh_ a1 56) (sh_ k1 56) 10 s1.2.2.2.2.2.2.2.2.2.2.2.1 ++ (zc_0 (sh_ a1 62) (sh_ k1 62) 24 s1.2.2.2.2.2.2.2.2.2.2.2.2.1 ++ zc_5 (sh_ a1 66) (sh_ k1 66) s1.2.2.2.2.2.2.2.2.2.2.2.2.2)))))) (pu_1 (zc_1 (sh_ a1 45) (sh_ k1 45) u1))))))))) (pu_r ([(a1 0, .inr (9, [.ref (a1 1), .ref (a1 16), .int s1.2.2.1, .ref (a1 31), .int s1.2.2.2.2.1, .ref (a1 37), .ref (a1 43), .ref (a1 45), .ref (a1 47), .ref (a1 50), .ref (a1 54), .ref (a1 56), .ref (a1 62), .ref (a1 66)]))]) (pu_l ((zc_8 (sh_ a1 16) (sh_ k1 16) s1.2.1 ++ (zc_4 (sh_ a1 31) (sh_ k1 31) s1.2.2.2.1 ++ (zc_4 (sh_ a1 37) (sh_ k1 37) s1.2.2.2.2.2.1 ++ (zc_1 (sh_ a1 43) (sh_ k1 43) s1.2.2.2.2.2.2.1 ++ (([] : va_W) ++ (zc_7 (sh_ a1 47) (sh_ k1 47) s1.2.2.2.2.2.2.2.2.1 ++ (zc_3 (sh_ a1 50) (sh_ k1 50) s1.2.2.2.2.2.2.2.2.2.1 ++ (zc_6 (sh_ a1 54) (sh_ k1 54) s1.2.2.2.2.2.2.2.2.2.2.1 ++ (zc_2 (sh_ a1 56) (sh_ k1 56) 10 s1.2.2.2.2.2.2.2.2.2.2.2.1 ++ (zc_0 (sh_ a1 62) (sh_ k1 62) 24 s1.2.2.2.2.2.2.2.2.2.2.2.2.1 ++ zc_5 (sh_ a1 66) (sh_ k1 66) s1.2.2.2.2.2.2.2.2.2.2.2.2.2))))))))))) (pu_r ([((sh_ a1 1) 0, .inr (8, [.int s1.1.1, .ref ((sh_ a1 1) 1), .ref ((sh_ a1 1) 7), .ref ((sh_ a1 1) 11)]))]) (pu_l ((zc_0 (sh_ (sh_ a1 1) 7) (sh_ (sh_ k1 1) 7) 24 s1.1.2.2.1 ++ zc_0 (sh_ (sh_ a1 1) 11) (sh_ (sh_ k1 1) 11) 6 s1.1.2.2.2)) (pu_1 (zc_2 (sh_ (sh_ a1 1) 1) (sh_ (sh_ k1 1) 1) 40 s1.1.2.1))))))) (pu_r ([(a1 0, .inr (9, [.ref (a1 1), .ref (a1 16), .int s1.2.2.1, .ref (a1 31), .int s1.2.2.2.2.1, .ref (a1 37), .ref (a1 43), .ref (a1 45), .ref (a1 47), .ref (a1 50), .ref (a1 54), .ref (a1 56), .ref (a1 62), .ref (a1 66)]))]) (pu_r (([((sh_ a1 1) 0, .inr (8, [.int s1.1.1, .ref ((sh_ a1 1) 1), .ref ((sh_ a1 1) 7), .ref ((sh_ a1 1) 11)]))] ++ (([] : va_W) ++ (zc_0 (sh_ (sh_ a1 1) 7) (sh_ (sh_ k1 1) 7) 24 s1.1.2.2.1 ++ zc_0 (sh_ (sh_ a1 1) 11) (sh_ (sh_ k1 1) 11) 6 s1.1.2.2.2)))) (pu_r (zc_8 (sh_ a1 16) (sh_ k1 16) s1.2.1) (pu_r (zc_4 (sh_ a1 31) (sh_ k1 31) s1.2.2.2.1) (pu_l ((zc_1 (sh_ a1 43) (sh_ k1 43) s1.2.2.2.2.2.2.1 ++ (([] : va_W) ++ (zc_7 (sh_ a1 47) (sh_ k1 47) s1.2.2.2.2.2.2.2.2.1 ++ (zc_3 (sh_ a1 50) (sh_ k1 50) s1.2.2.2.2.2.2.2.2.2.1 ++ (zc_6 (sh_ a1 54) (sh_ k1 54) s1.2.2.2.2.2.2.2.2.2.2.1 ++ (zc_2 (sh_ a1 56) (sh_ k1 56) 10 s1.2.2.2.2.2.2.2.2.2.2.2.1 ++ (zc_0 (sh_ a1 62) (sh_ k1 62) 24 s1.2.2.2.2.2.2.2.2.2.2.2.2.1 ++ zc_5 (sh_ a1 66) (sh_ k1 66) s1.2.2.2.2.2.2.2.2.2.2.2.2.2)))))))) (pu_1 (zc_4 (sh_ a1 37) (sh_ k1 37) s1.2.2.2.2.2.1))))))))
set_option maxHeartbeats 4000000 in
set_option maxRecDepth 100000 in
theorem cc_X9_layOutForged (l : Launch) (dC : Nat → ClassId) (dI : Nat → Nat → Nat) (fu : Nat) (a1 : Nat → Nat) (k1 : Nat → ClassId) (sz : Nat) (x1 : Int32) (x2 : Int32) (s1 : ZT_9) (res : ZT_9) (hR : rr_X9_layOutForged fu x1 x2 s1 = some res) : Met l yX9_layOutForged wsX9_layOutForged ({ frames := 4, cells := 0, slots := 0, locals := 92 } : Room) (PcF [.ref (a1 0), .int x1, .int x2] sz (dC, dI) (zc_9 a1 k1 s1) (zt_9 k1)) (va_Qv (fun u : ZT_9 => res = u) (fun u t => at3_ (dC, dI) (zc_9 a1 k1 u) (zt_9 k1) (va_A (zc_9 a1 k1 s1) sz) t) (va_A (zc_9 a1 k1 s1) sz)) 0 0 (va_A (zc_9 a1 k1 s1) sz) := by
  refine Met.ofW (cc := cX9_layOutForged) (maxL := 3) (ret := none) (by decide) rfl ?_
  intro p e s m args below meth c s₁ B hml hv
  obtain ⟨hav, hsz, hP, hK, hD0⟩ := hv
  have hx := B.exec
  have hb := B.bytes
  have hr := B.returns
  have hts := atoms_spec (ws := wsX9_layOutForged) B.pre
  have hown : s.vm.findClass RX9 = some m.cls := findClass_of_methodNamed B.named
  have hlocks := B.notSynchronized
  have hin8 : ∀ w ∈ wsX80, w ∈ wsX9_layOutForged := fun w h => List.mem_cons_of_mem _ (List.mem_append_left _ (List.mem_append_left _ (List.mem_append_left _ (List.mem_append_right _ h))))
  have hin9 : ∀ w ∈ wsX90, w ∈ wsX9_layOutForged := fun w h => List.mem_cons_of_mem _ (List.mem_append_left _ (List.mem_append_left _ (List.mem_append_left _ (List.mem_append_left _ (List.mem_append_right _ h)))))
  subst hsz
  have hD := hD0.self (sz := s.heap.size)
  clear hD0
  generalize hAe : va_A (zc_9 a1 k1 s1) s.heap.size = A at hD ⊢
  have hA : ∀ q : Nat, s.heap.size ≤ q → A q := fun q h => by rw [← hAe]; exact Or.inr h
  have hS : va_S A s.heap s.heap [] := va_S.rf
  generalize hQe : MQ below _ args s 0 0 A = Q
  rw [show entryFrame m args 3 = F0 m 0 ((lg_sl ([.ref (a1 0), .int x1, .int x2]) ++ List.replicate (3 - (lg_sl ([.ref (a1 0), .int x1, .int x2])).length) Slot.unset).toArray) [] from by rw [hav]; exact lg_entry_eq m _ _]
  have hl := lv_entry ([.ref (a1 0), .int x1, .int x2]) (n := 3) (Nat.le_of_ble_eq_true rfl)
  generalize (lg_sl ([.ref (a1 0), .int x1, .int x2]) ++ List.replicate (3 - (lg_sl ([.ref (a1 0), .int x1, .int x2])).length) Slot.unset).toArray = ls at hl ⊢
  have hl : lv_has ls 3 [(0, .ref (a1 0)), (1, .int x1), (2, .int x2)] := hl
  unfold rr_X9_layOutForged at hR
  refine lv_aload_n hx hb dX9_layOutForged_0 rfl (lv_at hl 0 rfl) ?_
  refine va_get (D := (dC, dI)) (ci := 9) (v := .ref (a1 37)) (C := RX9) (T := TX9) (N := 14) hx hb hts hin9 hown hK hP 0 rfl rfl 5 (by decide) (hts (.fieldLink RX9 30 "OldestCoins" "forgedRanks" "LOldestCoins$Ranks;") (List.mem_of_getElem? (i := 1) rfl)) (fun _ h9 => h9) rfl dX9_layOutForged_1 ?_
  refine lv_aload_n hx hb dX9_layOutForged_4 rfl (lv_at hl 0 rfl) ?_
  refine va_get (D := (dC, dI)) (ci := 9) (v := .ref (a1 1)) (C := RX9) (T := TX9) (N := 14) hx hb hts hin9 hown hK hP 0 rfl rfl 0 (by decide) (hts (.fieldLink RX9 10 "OldestCoins" "town" "LOldestCoins$Town;") (List.mem_of_getElem? (i := 2) rfl)) (fun _ h9 => h9) rfl dX9_layOutForged_5 ?_
  refine lv_iload_n hx hb dX9_layOutForged_8 rfl (lv_at hl 1 rfl) ?_
  refine lv_iload_n hx hb dX9_layOutForged_9 rfl (lv_at hl 2 rfl) ?_
  have hR0 := ob_ok hR
  clear hR
  obtain ⟨q1, hq1, hR⟩ := hR0
  refine va_callv (va_runV (As := [.ref (a1 1), .int x1, .int x2]) (rest := []) ⟨hx, hb, hml, hown, hts⟩ (cc_X4_build l dC dI fu (sh_ a1 37) (sh_ a1 1) (sh_ k1 37) (sh_ k1 1) s.heap.size x1 x2 s1.2.2.2.2.2.1 s1.1 q1 hq1) (cwV 3 hts gX9_layOutForged_X4_build rfl rfl rfl (by decide +kernel) ⟨Nat.le_of_ble_eq_true rfl, Nat.le_of_ble_eq_true rfl⟩) (pf_v (hK.sub (tys' := zt_4 (sh_ k1 37) ++ zt_8 (sh_ k1 1)) [27, 28, 29, 30, 31, 0, 1, 2, 3, 4, 5, 6, 7, 8, 9, 10] rfl) (sub_P (sb_9__0c37_0c1 a1 k1 s1) hP) (sub_D (sb_9__0c37_0c1 a1 k1 s1) hD) 4 0 rfl rfl rfl) rfl rfl hl.1 rfl (lv_room (Nat.le_of_ble_eq_true rfl)) dX9_layOutForged_10 ⟨Nat.le_refl _, Nat.le_refl _⟩) hS (fun q _ h => (sub_F (sb_9__0c37_0c1 a1 k1 s1) hD hS hA) q h) (sub_F (sb_9__0c37_0c1 a1 k1 s1) hD hS hA) (fun v1 t1 H1 locs1 ht1 hvm1 hw1 hB1 hz1 hk1 hS1 => ?_)
  subst hw1
  obtain ⟨hP1, hD1⟩ := jn_sub (sb_9__0c37_0c1 a1 k1 s1) (jo_9__0c37_0c1__0 a1 k1 s1 q1) rfl hP hD hk1 ht1 hB1
  have hP1 : va_P (dC, dI) vwCl (zc_9 a1 k1 (s1.1, s1.2.1, s1.2.2.1, s1.2.2.2.1, s1.2.2.2.2.1, q1, s1.2.2.2.2.2.2)) H1 := hP1
  have hD1 : va_D A (zc_9 a1 k1 (s1.1, s1.2.1, s1.2.2.1, s1.2.2.2.1, s1.2.2.2.2.1, q1, s1.2.2.2.2.2.2)) := hD1
  clear hP hD hS hB1 hk1 hvm1 hz1 ht1
  refine lv_aload_n hx hb dX9_layOutForged_13 rfl (lv_at hl 0 rfl) ?_
  refine va_get (D := (dC, dI)) (ci := 9) (v := .ref (a1 45)) (C := RX9) (T := TX9) (N := 14) hx hb hts hin9 hown hK hP1 0 rfl rfl 7 (by decide) (hts (.fieldLink RX9 40 "OldestCoins" "trial" "LOldestCoins$Board;") (List.mem_of_getElem? (i := 3) rfl)) (fun _ h9 => h9) rfl dX9_layOutForged_14 ?_
  refine lv_aload_n hx hb dX9_layOutForged_17 rfl (lv_at hl 0 rfl) ?_
  refine va_get (D := (dC, dI)) (ci := 9) (v := .ref (a1 1)) (C := RX9) (T := TX9) (N := 14) hx hb hts hin9 hown hK hP1 0 rfl rfl 0 (by decide) (hts (.fieldLink RX9 10 "OldestCoins" "town" "LOldestCoins$Town;") (List.mem_of_getElem? (i := 2) rfl)) (fun _ h9 => h9) rfl dX9_layOutForged_18 ?_
  refine va_get (D := (dC, dI)) (ci := 8) (v := .ref (a1 2)) (C := RX8) (T := TX8) (N := 4) hx hb hts hin8 hown hK hP1 1 rfl rfl 1 (by decide) (hts (.fieldLink RX9 98 "OldestCoins$Town" "coins" "LOldestCoins$Coins;") (List.mem_of_getElem? (i := 4) rfl)) (fun _ h9 => h9) rfl dX9_layOutForged_21 ?_
  refine lv_aload_n hx hb dX9_layOutForged_24 rfl (lv_at hl 0 rfl) ?_
  refine va_get (D := (dC, dI)) (ci := 9) (v := .ref (a1 37)) (C := RX9) (T := TX9) (N := 14) hx hb hts hin9 hown hK hP1 0 rfl rfl 5 (by decide) (hts (.fieldLink RX9 30 "OldestCoins" "forgedRanks" "LOldestCoins$Ranks;") (List.mem_of_getElem? (i := 1) rfl)) (fun _ h9 => h9) rfl dX9_layOutForged_25 ?_
  have hR0 := ob_ok hR
  clear hR
  obtain ⟨q2, hq2, hR⟩ := hR0
  refine va_callv (va_runV (As := [.ref (a1 2), .ref (a1 37)]) (rest := []) ⟨hx, hb, hml, hown, hts⟩ (cc_X1_layOut l dC dI fu (sh_ a1 45) (sh_ (sh_ a1 1) 1) (sh_ a1 37) (sh_ k1 45) (sh_ (sh_ k1 1) 1) (sh_ k1 37) 40 H1.size s1.2.2.2.2.2.2.2.1 s1.1.2.1 q1 q2 hq2) (cwV 2 hts gX9_layOutForged_X1_layOut rfl rfl rfl (by decide +kernel) ⟨Nat.le_of_ble_eq_true rfl, Nat.le_of_ble_eq_true rfl⟩) (pf_v (hK.sub (tys' := zt_1 (sh_ k1 45) ++ zt_2 (sh_ (sh_ k1 1) 1) ++ zt_4 (sh_ k1 37)) [33, 0, 1, 2, 3, 4, 27, 28, 29, 30, 31] rfl) (sub_P (sb_9__0c45_0c2_0c37 a1 k1 (s1.1, s1.2.1, s1.2.2.1, s1.2.2.2.1, s1.2.2.2.2.1, q1, s1.2.2.2.2.2.2)) hP1) (sub_D (sb_9__0c45_0c2_0c37 a1 k1 (s1.1, s1.2.1, s1.2.2.1, s1.2.2.2.1, s1.2.2.2.2.1, q1, s1.2.2.2.2.2.2)) hD1) 1 0 rfl rfl rfl) rfl rfl hl.1 rfl (lv_room (Nat.le_of_ble_eq_true rfl)) dX9_layOutForged_28 ⟨Nat.le_refl _, Nat.le_refl _⟩) hS1 (fun q _ h => (sub_F (sb_9__0c45_0c2_0c37 a1 k1 (s1.1, s1.2.1, s1.2.2.1, s1.2.2.2.1, s1.2.2.2.2.1, q1, s1.2.2.2.2.2.2)) hD1 hS1 hA) q h) (sub_F (sb_9__0c45_0c2_0c37 a1 k1 (s1.1, s1.2.1, s1.2.2.1, s1.2.2.2.1, s1.2.2.2.2.1, q1, s1.2.2.2.2.2.2)) hD1 hS1 hA) (fun v2 t2 H2 locs2 ht2 hvm2 hw2 hB2 hz2 hk2 hS2 => ?_)
  subst hw2
  obtain ⟨hP2, hD2⟩ := jn_sub (sb_9__0c45_0c2_0c37 a1 k1 (s1.1, s1.2.1, s1.2.2.1, s1.2.2.2.1, s1.2.2.2.2.1, q1, s1.2.2.2.2.2.2)) (jo_9__0c45_0c2_0c37__0 a1 k1 (s1.1, s1.2.1, s1.2.2.1, s1.2.2.2.1, s1.2.2.2.2.1, q1, s1.2.2.2.2.2.2) q2) rfl hP1 hD1 hk2 ht2 hB2
  have hP2 : va_P (dC, dI) vwCl (zc_9 a1 k1 (s1.1, s1.2.1, s1.2.2.1, s1.2.2.2.1, s1.2.2.2.2.1, q1, s1.2.2.2.2.2.2.1, q2, s1.2.2.2.2.2.2.2.2)) H2 := hP2
  have hD2 : va_D A (zc_9 a1 k1 (s1.1, s1.2.1, s1.2.2.1, s1.2.2.2.1, s1.2.2.2.2.1, q1, s1.2.2.2.2.2.2.1, q2, s1.2.2.2.2.2.2.2.2)) := hD2
  clear hP1 hD1 hS1 hB2 hk2 hvm2 hz2 ht2
  subst hQe
  exact W.vret hx hb hr (fun t ht hW => ⟨⟨(s1.1, s1.2.1, s1.2.2.1, s1.2.2.2.1, s1.2.2.2.2.1, q1, s1.2.2.2.2.2.2.1, q2, s1.2.2.2.2.2.2.2.2), rfl, (Option.some.inj hR).symm, by rw [ht]; exact hP2, va_K.moved hW.alike hK, hD2⟩, hS2.F ht⟩) hS2.2.2 dX9_layOutForged_31
def rr_X9_shows_29_b (fu : Nat) (rec29 : Int32 → ZT_9 → Option (Int32 × ZT_9)) (y3 : Int32) (u1 : ZT_9) : Option (Int32 × ZT_9) := (if u1.1.2.2.1.1 ≤ y3 then some ((-4 : Int32), u1) else (rr_X9_coinsPaid_b fu y3 u1).bind (fun q9 => (rr_X9_coinsPaid_t fu y3 q9.2).bind (fun q11 => (if (lg_cmp q9.1 q11.1) = (0 : Int32) then (if (lg_cmp q9.1 (0 : Int64)) = (0 : Int32) then some ((-4 : Int32), q11.2) else lt_ (α := Int32) (y3 + (1 : Int32)) (fun z15 => rec29 z15 q11.2)) else some (y3, q11.2)))))
def rr_X9_shows_29 (fu : Nat) (n : Nat) : Int32 → ZT_9 → Option (Int32 × ZT_9) := lp_ (fun _ _ => none) (rr_X9_shows_29_b fu) n
def rr_X9_shows (fu : Nat) (x1 : Int32) (x2 : Int32) (s1 : ZT_9) : Option (Int32 × ZT_9) := (rr_X9_isCoin fu x1 s1).bind (fun q1 => (if q1 = (0 : Int32) then some ((-1 : Int32), s1) else (rr_X9_isYear fu x2).bind (fun q3 => (if q3 = (0 : Int32) then some ((-1 : Int32), s1) else (rr_X9_layOut fu s1).bind (fun q5 => (rr_X9_layOutForged fu x1 x2 q5).bind (fun q6 => rr_X9_shows_29 fu fu (0 : Int32) q6))))))
set_option maxHeartbeats 4000000 in
set_option maxRecDepth 100000 in
theorem cc_X9_shows (l : Launch) (dC : Nat → ClassId) (dI : Nat → Nat → Nat) (fu : Nat) (a1 : Nat → Nat) (k1 : Nat → ClassId) (sz : Nat) (x1 : Int32) (x2 : Int32) (s1 : ZT_9) (res : Int32 × ZT_9) (hR : rr_X9_shows fu x1 x2 s1 = some res) : Met l yX9_shows wsX9_shows ({ frames := 7, cells := 0, slots := 0, locals := 165 } : Room) (PcF [.ref (a1 0), .int x1, .int x2] sz (dC, dI) (zc_9 a1 k1 s1) (zt_9 k1)) (va_Qi (fun (r : Int32) (u : ZT_9) => res = (r, u)) (fun u t => at3_ (dC, dI) (zc_9 a1 k1 u) (zt_9 k1) (va_A (zc_9 a1 k1 s1) sz) t) (va_A (zc_9 a1 k1 s1) sz)) 0 0 (va_A (zc_9 a1 k1 s1) sz) := by
  refine Met.ofW (cc := cX9_shows) (maxL := 8) (ret := (some .int)) (by decide) rfl ?_
  intro p e s m args below meth c s₁ B hml hv
  obtain ⟨hav, hsz, hP, hK, hD0⟩ := hv
  have hx := B.exec
  have hb := B.bytes
  have hr := B.returns
  have hts := atoms_spec (ws := wsX9_shows) B.pre
  have hown : s.vm.findClass RX9 = some m.cls := findClass_of_methodNamed B.named
  have hlocks := B.notSynchronized
  have hin0 : ∀ w ∈ wsX00, w ∈ wsX9_shows := fun w h => List.mem_cons_of_mem _ (List.mem_append_left _ (List.mem_append_left _ (List.mem_append_left _ (List.mem_append_right _ h))))
  have hin8 : ∀ w ∈ wsX80, w ∈ wsX9_shows := fun w h => List.mem_cons_of_mem _ (List.mem_append_left _ (List.mem_append_left _ (List.mem_append_left _ (List.mem_append_left _ (List.mem_append_right _ h)))))
  have hin9 : ∀ w ∈ wsX90, w ∈ wsX9_shows := fun w h => List.mem_cons_of_mem _ (List.mem_append_left _ (List.mem_append_left _ (List.mem_append_left _ (List.mem_append_left _ (List.mem_append_left _ (List.mem_append_right _ h))))))
  subst hsz
  have hD := hD0.self (sz := s.heap.size)
  clear hD0
  generalize hAe : va_A (zc_9 a1 k1 s1) s.heap.size = A at hD ⊢
  have hA : ∀ q : Nat, s.heap.size ≤ q → A q := fun q h => by rw [← hAe]; exact Or.inr h
  have hS : va_S A s.heap s.heap [] := va_S.rf
  generalize hQe : MQ below _ args s 0 0 A = Q
  rw [show entryFrame m args 8 = F0 m 0 ((lg_sl ([.ref (a1 0), .int x1, .int x2]) ++ List.replicate (8 - (lg_sl ([.ref (a1 0), .int x1, .int x2])).length) Slot.unset).toArray) [] from by rw [hav]; exact lg_entry_eq m _ _]
  have hl := lv_entry ([.ref (a1 0), .int x1, .int x2]) (n := 8) (Nat.le_of_ble_eq_true rfl)
  generalize (lg_sl ([.ref (a1 0), .int x1, .int x2]) ++ List.replicate (8 - (lg_sl ([.ref (a1 0), .int x1, .int x2])).length) Slot.unset).toArray = ls at hl ⊢
  have hl : lv_has ls 8 [(0, .ref (a1 0)), (1, .int x1), (2, .int x2)] := hl
  have hB29 : ∀ (n : Nat), ∀ (y3 : Int32) (u1 : ZT_9) (H : Heap) (locs : List Loc) (ls : Array Slot), va_P (dC, dI) vwCl (zc_9 a1 k1 u1) H → va_D A (zc_9 a1 k1 u1) → va_S A s.heap H locs → lv_has ls 8 [(0, .ref (a1 0)), (3, .int y3)] → rr_X9_shows_29 fu n y3 u1 = some res → W p l e ({ frames := 7, cells := 0, slots := 0, locals := 165 } : Room) s m args below meth c H locs 0 0 Q (F0 m 29 ls []) := by
    intro  n
    induction n with
    | zero => intro y3 u1 H locs ls hP hD hS hl hR; exact absurd hR (by intro h; cases h)
    | succ n ih =>
      intro y3 u1 H locs ls hP hD hS hl hR
      replace hR : rr_X9_shows_29_b fu (rr_X9_shows_29 fu n) y3 u1 = some res := hR
      unfold rr_X9_shows_29_b at hR
      refine lv_iload_n hx hb dX9_shows_29 rfl (lv_at hl 1 rfl) ?_
      refine lv_aload_n hx hb dX9_shows_30 rfl (lv_at hl 0 rfl) ?_
      refine va_get (D := (dC, dI)) (ci := 9) (v := .ref (a1 1)) (C := RX9) (T := TX9) (N := 14) hx hb hts hin9 hown hK hP 0 rfl rfl 0 (by decide) (hts (.fieldLink RX9 10 "OldestCoins" "town" "LOldestCoins$Town;") (List.mem_of_getElem? (i := 1) rfl)) (fun _ h9 => h9) rfl dX9_shows_31 ?_
      refine va_get (D := (dC, dI)) (ci := 8) (v := .ref (a1 8)) (C := RX8) (T := TX8) (N := 4) hx hb hts hin8 hown hK hP 1 rfl rfl 2 (by decide) (hts (.fieldLink RX9 187 "OldestCoins$Town" "day" "LOldestCoins$Bills;") (List.mem_of_getElem? (i := 2) rfl)) (fun _ h9 => h9) rfl dX9_shows_34 ?_
      refine va_get (D := (dC, dI)) (ci := 0) (v := .int u1.1.2.2.1.1) (C := RX0) (T := TX0) (N := 4) hx hb hts hin0 hown hK hP 8 rfl rfl 0 (by decide) (hts (.fieldLink RX9 193 "OldestCoins$Bills" "size" "I") (List.mem_of_getElem? (i := 3) rfl)) (fun _ h9 => h9) rfl dX9_shows_37 ?_
      refine lv_icmp_ge (tgt := 99) hx hb dX9_shows_40 (by decide) (fun c8 => ?_) (fun c8 => ?_)
      · replace hR := ifp_ hR c8
        refine lv_bipush (v := (-4 : Int32)) hx hb dX9_shows_99 (by decide) ?_
        subst hQe
        exact W.iret (v := (-4 : Int32)) hx hb hr (fun t ht hW => ⟨⟨(-4 : Int32), u1, rfl, (Option.some.inj hR).symm, by rw [ht]; exact hP, va_K.moved hW.alike hK, hD⟩, hS.F ht⟩) hS.2.2 dX9_shows_101
      · replace hR := ifn_ hR c8
        refine lv_aload_n hx hb dX9_shows_43 rfl (lv_at hl 0 rfl) ?_
        refine lv_aload_n hx hb dX9_shows_44 rfl (lv_at hl 0 rfl) ?_
        refine va_get (D := (dC, dI)) (ci := 9) (v := .ref (a1 43)) (C := RX9) (T := TX9) (N := 14) hx hb hts hin9 hown hK hP 0 rfl rfl 6 (by decide) (hts (.fieldLink RX9 36 "OldestCoins" "board" "LOldestCoins$Board;") (List.mem_of_getElem? (i := 4) rfl)) (fun _ h9 => h9) rfl dX9_shows_45 ?_
        refine lv_aload_n hx hb dX9_shows_48 rfl (lv_at hl 0 rfl) ?_
        refine va_get (D := (dC, dI)) (ci := 9) (v := .ref (a1 31)) (C := RX9) (T := TX9) (N := 14) hx hb hts hin9 hown hK hP 0 rfl rfl 3 (by decide) (hts (.fieldLink RX9 22 "OldestCoins" "ranks" "LOldestCoins$Ranks;") (List.mem_of_getElem? (i := 5) rfl)) (fun _ h9 => h9) rfl dX9_shows_49 ?_
        refine lv_iload_n hx hb dX9_shows_52 rfl (lv_at hl 1 rfl) ?_
        have hR0 := ob_ok hR
        clear hR
        obtain ⟨q9, hq9, hR⟩ := hR0
        refine va_calll (va_runV (As := [.ref (a1 43), .ref (a1 31), .int y3]) (rest := []) ⟨hx, hb, hml, hown, hts⟩ (cc_X9_coinsPaid_b l dC dI fu a1 k1 H.size y3 u1 q9 hq9) (cwV 3 hts gX9_shows_X9_coinsPaid rfl rfl rfl (by decide +kernel) ⟨Nat.le_of_ble_eq_true rfl, Nat.le_of_ble_eq_true rfl⟩) (pf_v hK hP hD 9 0 rfl rfl rfl) rfl rfl hl.1 rfl (lv_room (Nat.le_of_ble_eq_true rfl)) dX9_shows_53 ⟨Nat.le_refl _, Nat.le_refl _⟩) hS (fun q _ h => (fr_all hD hS hA) q h) (fr_all hD hS hA) (fun r9 v9 t9 H9 locs9 ht9 hvm9 hw9 hB9 hz9 hk9 hS9 => ?_)
        obtain rfl : r9 = q9.1 := (congrArg Prod.fst hw9).symm
        obtain rfl : v9 = q9.2 := (congrArg Prod.snd hw9).symm
        obtain ⟨hP9, hD9⟩ := jn_all hD hS hA ht9 hB9
        have hP9 : va_P (dC, dI) vwCl (zc_9 a1 k1 q9.2) H9 := hP9
        have hD9 : va_D A (zc_9 a1 k1 q9.2) := hD9
        clear hP hD hS hB9 hk9 hvm9 hz9 ht9
        refine lv_lstore (lv' := [(4, .long q9.1), (0, .ref (a1 0)), (3, .int y3)]) hx hb dX9_shows_56 hl (by decide) rfl (fun ls10 hl10 => ?_)
        refine lv_aload_n hx hb dX9_shows_58 rfl (lv_at hl10 1 rfl) ?_
        refine lv_aload_n hx hb dX9_shows_59 rfl (lv_at hl10 1 rfl) ?_
        refine va_get (D := (dC, dI)) (ci := 9) (v := .ref (a1 45)) (C := RX9) (T := TX9) (N := 14) hx hb hts hin9 hown hK hP9 0 rfl rfl 7 (by decide) (hts (.fieldLink RX9 40 "OldestCoins" "trial" "LOldestCoins$Board;") (List.mem_of_getElem? (i := 6) rfl)) (fun _ h9 => h9) rfl dX9_shows_60 ?_
        refine lv_aload_n hx hb dX9_shows_63 rfl (lv_at hl10 1 rfl) ?_
        refine va_get (D := (dC, dI)) (ci := 9) (v := .ref (a1 37)) (C := RX9) (T := TX9) (N := 14) hx hb hts hin9 hown hK hP9 0 rfl rfl 5 (by decide) (hts (.fieldLink RX9 30 "OldestCoins" "forgedRanks" "LOldestCoins$Ranks;") (List.mem_of_getElem? (i := 7) rfl)) (fun _ h9 => h9) rfl dX9_shows_64 ?_
        refine lv_iload_n hx hb dX9_shows_67 rfl (lv_at hl10 2 rfl) ?_
        have hR0 := ob_ok hR
        clear hR
        obtain ⟨q11, hq11, hR⟩ := hR0
        refine va_calll (va_runV (As := [.ref (a1 45), .ref (a1 37), .int y3]) (rest := []) ⟨hx, hb, hml, hown, hts⟩ (cc_X9_coinsPaid_t l dC dI fu a1 k1 H9.size y3 q9.2 q11 hq11) (cwV 3 hts gX9_shows_X9_coinsPaid rfl rfl rfl (by decide +kernel) ⟨Nat.le_of_ble_eq_true rfl, Nat.le_of_ble_eq_true rfl⟩) (pf_v hK hP9 hD9 9 0 rfl rfl rfl) rfl rfl hl10.1 rfl (lv_room (Nat.le_of_ble_eq_true rfl)) dX9_shows_68 ⟨Nat.le_refl _, Nat.le_refl _⟩) hS9 (fun q _ h => (fr_all hD9 hS9 hA) q h) (fr_all hD9 hS9 hA) (fun r11 v11 t11 H11 locs11 ht11 hvm11 hw11 hB11 hz11 hk11 hS11 => ?_)
        obtain rfl : r11 = q11.1 := (congrArg Prod.fst hw11).symm
        obtain rfl : v11 = q11.2 := (congrArg Prod.snd hw11).symm
        obtain ⟨hP11, hD11⟩ := jn_all hD9 hS9 hA ht11 hB11
        have hP11 : va_P (dC, dI) vwCl (zc_9 a1 k1 q11.2) H11 := hP11
        have hD11 : va_D A (zc_9 a1 k1 q11.2) := hD11
        clear hP9 hD9 hS9 hB11 hk11 hvm11 hz11 ht11
        refine lv_lstore (lv' := [(6, .long q11.1), (4, .long q9.1), (0, .ref (a1 0)), (3, .int y3)]) hx hb dX9_shows_71 hl10 (by decide) rfl (fun ls12 hl12 => ?_)
        refine lv_lload hx hb dX9_shows_73 (lv_at hl12 1 rfl) ?_
        refine lv_lload hx hb dX9_shows_75 (lv_at hl12 0 rfl) ?_
        refine W.lcmp hx hb dX9_shows_77 ?_
        refine lv_if_eq (tgt := 83) hx hb dX9_shows_78 (by decide) (fun c13 => ?_) (fun c13 => ?_)
        · replace hR := ifp_ hR c13
          refine lv_lload hx hb dX9_shows_83 (lv_at hl12 1 rfl) ?_
          refine lv_lconst (v := (0 : Int64)) hx hb dX9_shows_85 (by decide) ?_
          refine W.lcmp hx hb dX9_shows_86 ?_
          refine lv_if_ne (tgt := 93) hx hb dX9_shows_87 (by decide) (fun c14 => ?_) (fun c14 => ?_)
          · replace hR := ifn_ hR c14
            obtain ⟨z15, ez15⟩ : ∃ y : Int32, y = (y3 + (1 : Int32)) := ⟨_, rfl⟩
            replace hR := lt_ok hR ez15
            refine lv_iinc (v := z15) (lv' := [(3, .int z15), (6, .long q11.1), (4, .long q9.1), (0, .ref (a1 0))]) hx hb dX9_shows_93 hl12 (k := 3) rfl (by rw [ez15]; rfl) (by decide) rfl (fun ls15 hl15 => ?_)
            refine lv_goto (tgt := 29) hx hb dX9_shows_96 (by decide) ?_
            exact ih z15 q11.2 H11 locs11 ls15 hP11 hD11 hS11 (lv_sub hl15 [3, 0] rfl) hR
          · replace hR := ifp_ hR c14
            refine lv_bipush (v := (-4 : Int32)) hx hb dX9_shows_90 (by decide) ?_
            subst hQe
            exact W.iret (v := (-4 : Int32)) hx hb hr (fun t ht hW => ⟨⟨(-4 : Int32), q11.2, rfl, (Option.some.inj hR).symm, by rw [ht]; exact hP11, va_K.moved hW.alike hK, hD11⟩, hS11.F ht⟩) hS11.2.2 dX9_shows_92
        · replace hR := ifn_ hR c13
          refine lv_iload_n hx hb dX9_shows_81 rfl (lv_at hl12 3 rfl) ?_
          subst hQe
          exact W.iret (v := y3) hx hb hr (fun t ht hW => ⟨⟨y3, q11.2, rfl, (Option.some.inj hR).symm, by rw [ht]; exact hP11, va_K.moved hW.alike hK, hD11⟩, hS11.F ht⟩) hS11.2.2 dX9_shows_82
  unfold rr_X9_shows at hR
  refine lv_aload_n hx hb dX9_shows_0 rfl (lv_at hl 0 rfl) ?_
  refine lv_iload_n hx hb dX9_shows_1 rfl (lv_at hl 1 rfl) ?_
  have hR0 := ob_ok hR
  clear hR
  obtain ⟨q1, hq1, hR⟩ := hR0
  refine va_calli (va_runV (As := [.int x1]) (rest := []) ⟨hx, hb, hml, hown, hts⟩ (cc_X9_isCoin l dC dI fu a1 k1 s.heap.size x1 s1 q1 hq1) (cwV 1 hts gX9_shows_X9_isCoin rfl rfl rfl (by decide +kernel) ⟨Nat.le_of_ble_eq_true rfl, Nat.le_of_ble_eq_true rfl⟩) (pf_v hK hP hD 9 0 rfl rfl rfl) rfl rfl hl.1 rfl (lv_room (Nat.le_of_ble_eq_true rfl)) dX9_shows_2 ⟨Nat.le_refl _, Nat.le_refl _⟩) hS (fun q _ h => (fr_all hD hS hA) q h) (fr_all hD hS hA) (fun r1 v1 t1 H1 locs1 ht1 hvm1 hw1 hB1 hz1 hk1 hS1 => ?_)
  subst hw1
  obtain ⟨hP1, hD1⟩ := jn_all hD hS hA ht1 hB1
  have hP1 : va_P (dC, dI) vwCl (zc_9 a1 k1 s1) H1 := hP1
  have hD1 : va_D A (zc_9 a1 k1 s1) := hD1
  clear hP hD hS hB1 hk1 hvm1 hz1 ht1
  refine lv_if_eq (tgt := 15) hx hb dX9_shows_5 (by decide) (fun c2 => ?_) (fun c2 => ?_)
  · replace hR := ifp_ hR c2
    refine lv_iconst (v := (-1 : Int32)) hx hb dX9_shows_15 (by decide) ?_
    subst hQe
    exact W.iret (v := (-1 : Int32)) hx hb hr (fun t ht hW => ⟨⟨(-1 : Int32), s1, rfl, (Option.some.inj hR).symm, by rw [ht]; exact hP1, va_K.moved hW.alike hK, hD1⟩, hS1.F ht⟩) hS1.2.2 dX9_shows_16
  · replace hR := ifn_ hR c2
    refine lv_iload_n hx hb dX9_shows_8 rfl (lv_at hl 2 rfl) ?_
    have hR0 := ob_ok hR
    clear hR
    obtain ⟨q3, hq3, hR⟩ := hR0
    refine va_calli (va_runS (As := [.int x2]) (rest := []) ⟨hx, hb, hml, hown, hts⟩ (cc_X9_isYear l dC dI fu H1.size x2 q3 hq3) (va_cwS 1 hts gX9_shows_X9_isYear rfl rfl rfl (by decide +kernel) ⟨Nat.le_of_ble_eq_true rfl, Nat.le_of_ble_eq_true rfl⟩) (pf_s (nil_K hK) nil_P (nil_D (A := A))) rfl rfl hl.1 rfl (lv_room (Nat.le_of_ble_eq_true rfl)) dX9_shows_9 ⟨Nat.le_refl _, Nat.le_refl _⟩) hS1 (fun q _ h => (fr_none hS1 hA) q h) (fr_none hS1 hA) (fun r3 v3 t3 H3 locs3 ht3 hvm3 hw3 hB3 hz3 hk3 hS3 => ?_)
    subst hw3
    have hP3 := jn_none hP1 hk3
    have hD3 := hD1
    have hP3 : va_P (dC, dI) vwCl (zc_9 a1 k1 s1) H3 := hP3
    have hD3 : va_D A (zc_9 a1 k1 s1) := hD3
    clear hP1 hD1 hS1 hB3 hk3 hvm3 hz3 ht3
    refine lv_if_ne (tgt := 17) hx hb dX9_shows_12 (by decide) (fun c4 => ?_) (fun c4 => ?_)
    · replace hR := ifn_ hR c4
      refine lv_aload_n hx hb dX9_shows_17 rfl (lv_at hl 0 rfl) ?_
      have hR0 := ob_ok hR
      clear hR
      obtain ⟨q5, hq5, hR⟩ := hR0
      refine va_callv (va_runV (As := []) (rest := []) ⟨hx, hb, hml, hown, hts⟩ (cc_X9_layOut l dC dI fu a1 k1 H3.size s1 q5 hq5) (cwV 0 hts gX9_shows_X9_layOut rfl rfl rfl (by decide +kernel) ⟨Nat.le_of_ble_eq_true rfl, Nat.le_of_ble_eq_true rfl⟩) (pf_v hK hP3 hD3 9 0 rfl rfl rfl) rfl rfl hl.1 rfl (lv_room (Nat.le_of_ble_eq_true rfl)) dX9_shows_18 ⟨Nat.le_refl _, Nat.le_refl _⟩) hS3 (fun q _ h => (fr_all hD3 hS3 hA) q h) (fr_all hD3 hS3 hA) (fun v5 t5 H5 locs5 ht5 hvm5 hw5 hB5 hz5 hk5 hS5 => ?_)
      subst hw5
      obtain ⟨hP5, hD5⟩ := jn_all hD3 hS3 hA ht5 hB5
      have hP5 : va_P (dC, dI) vwCl (zc_9 a1 k1 q5) H5 := hP5
      have hD5 : va_D A (zc_9 a1 k1 q5) := hD5
      clear hP3 hD3 hS3 hB5 hk5 hvm5 hz5 ht5
      refine lv_aload_n hx hb dX9_shows_21 rfl (lv_at hl 0 rfl) ?_
      refine lv_iload_n hx hb dX9_shows_22 rfl (lv_at hl 1 rfl) ?_
      refine lv_iload_n hx hb dX9_shows_23 rfl (lv_at hl 2 rfl) ?_
      have hR0 := ob_ok hR
      clear hR
      obtain ⟨q6, hq6, hR⟩ := hR0
      refine va_callv (va_runV (As := [.int x1, .int x2]) (rest := []) ⟨hx, hb, hml, hown, hts⟩ (cc_X9_layOutForged l dC dI fu a1 k1 H5.size x1 x2 q5 q6 hq6) (cwV 2 hts gX9_shows_X9_layOutForged rfl rfl rfl (by decide +kernel) ⟨Nat.le_of_ble_eq_true rfl, Nat.le_of_ble_eq_true rfl⟩) (pf_v hK hP5 hD5 9 0 rfl rfl rfl) rfl rfl hl.1 rfl (lv_room (Nat.le_of_ble_eq_true rfl)) dX9_shows_24 ⟨Nat.le_refl _, Nat.le_refl _⟩) hS5 (fun q _ h => (fr_all hD5 hS5 hA) q h) (fr_all hD5 hS5 hA) (fun v6 t6 H6 locs6 ht6 hvm6 hw6 hB6 hz6 hk6 hS6 => ?_)
      subst hw6
      obtain ⟨hP6, hD6⟩ := jn_all hD5 hS5 hA ht6 hB6
      have hP6 : va_P (dC, dI) vwCl (zc_9 a1 k1 q6) H6 := hP6
      have hD6 : va_D A (zc_9 a1 k1 q6) := hD6
      clear hP5 hD5 hS5 hB6 hk6 hvm6 hz6 ht6
      refine lv_iconst (v := (0 : Int32)) hx hb dX9_shows_27 (by decide) ?_
      refine lv_istore_n (lv' := [(3, .int (0 : Int32)), (0, .ref (a1 0)), (1, .int x1), (2, .int x2)]) hx hb dX9_shows_28 rfl hl (by decide) rfl (fun ls7 hl7 => ?_)
      exact hB29 fu (0 : Int32) q6 H6 locs6 ls7 hP6 hD6 hS6 (lv_sub hl7 [1, 0] rfl) hR
    · replace hR := ifp_ hR c4
      refine lv_iconst (v := (-1 : Int32)) hx hb dX9_shows_15 (by decide) ?_
      subst hQe
      exact W.iret (v := (-1 : Int32)) hx hb hr (fun t ht hW => ⟨⟨(-1 : Int32), s1, rfl, (Option.some.inj hR).symm, by rw [ht]; exact hP3, va_K.moved hW.alike hK, hD3⟩, hS3.F ht⟩) hS3.2.2 dX9_shows_16
def rr_X9_isPurse (fu : Nat) (x0 : Int32) : Option (Int32) := (rr_X9_isWithin fu x0 (0 : Int32) (3 : Int32)).bind (fun q1 => zk_ q1 (some q1))
set_option maxHeartbeats 4000000 in
set_option maxRecDepth 100000 in
theorem cc_X9_isPurse (l : Launch) (dC : Nat → ClassId) (dI : Nat → Nat → Nat) (fu : Nat) (sz : Nat) (x0 : Int32) (res : Int32) (hR : rr_X9_isPurse fu x0 = some res) : Met l yX9_isPurse wsX9_isPurse ({ frames := 1, cells := 0, slots := 0, locals := 22 } : Room) (PcF [.int x0] sz (dC, dI) (([] : va_W)) ([])) (va_Qi (fun (r : Int32) (u : Unit) => res = r) (fun u t => at3_ (dC, dI) (([] : va_W)) ([]) (va_A (([] : va_W)) sz) t) (va_A (([] : va_W)) sz)) 0 0 (va_A (([] : va_W)) sz) := by
  refine Met.ofW (cc := cX9_isPurse) (maxL := 1) (ret := (some .boolean)) (by decide) rfl ?_
  intro p e s m args below meth c s₁ B hml hv
  obtain ⟨hav, hsz, hP, hK, hD0⟩ := hv
  have hx := B.exec
  have hb := B.bytes
  have hr := B.returns
  have hts := atoms_spec (ws := wsX9_isPurse) B.pre
  have hown : s.vm.findClass RX9 = some m.cls := findClass_of_methodNamed B.named
  have hlocks := B.notSynchronized
  subst hsz
  have hD := hD0.self (sz := s.heap.size)
  clear hD0
  generalize hAe : va_A (([] : va_W)) s.heap.size = A at hD ⊢
  have hA : ∀ q : Nat, s.heap.size ≤ q → A q := fun q h => by rw [← hAe]; exact Or.inr h
  have hS : va_S A s.heap s.heap [] := va_S.rf
  generalize hQe : MQ below _ args s 0 0 A = Q
  rw [show entryFrame m args 1 = F0 m 0 ((lg_sl ([.int x0]) ++ List.replicate (1 - (lg_sl ([.int x0])).length) Slot.unset).toArray) [] from by rw [hav]; exact lg_entry_eq m _ _]
  have hl := lv_entry ([.int x0]) (n := 1) (Nat.le_of_ble_eq_true rfl)
  generalize (lg_sl ([.int x0]) ++ List.replicate (1 - (lg_sl ([.int x0])).length) Slot.unset).toArray = ls at hl ⊢
  have hl : lv_has ls 1 [(0, .int x0)] := hl
  unfold rr_X9_isPurse at hR
  refine lv_iload_n hx hb dX9_isPurse_0 rfl (lv_at hl 0 rfl) ?_
  refine lv_iconst (v := (0 : Int32)) hx hb dX9_isPurse_1 (by decide) ?_
  refine lv_iconst (v := (3 : Int32)) hx hb dX9_isPurse_2 (by decide) ?_
  have hR0 := ob_ok hR
  clear hR
  obtain ⟨q1, hq1, hR⟩ := hR0
  refine va_calli (va_runS (As := [.int x0, .int (0 : Int32), .int (3 : Int32)]) (rest := []) ⟨hx, hb, hml, hown, hts⟩ (cc_X9_isWithin l dC dI fu s.heap.size x0 (0 : Int32) (3 : Int32) q1 hq1) (va_cwS 3 hts gX9_isPurse_X9_isWithin rfl rfl rfl (by decide +kernel) ⟨Nat.le_of_ble_eq_true rfl, Nat.le_of_ble_eq_true rfl⟩) (pf_s (nil_K hK) nil_P (nil_D (A := A))) rfl rfl hl.1 rfl (lv_room (Nat.le_of_ble_eq_true rfl)) dX9_isPurse_3 ⟨Nat.le_refl _, Nat.le_refl _⟩) hS (fun q _ h => (fr_none hS hA) q h) (fr_none hS hA) (fun r1 v1 t1 H1 locs1 ht1 hvm1 hw1 hB1 hz1 hk1 hS1 => ?_)
  subst hw1
  have hP1 := jn_none hP hk1
  have hD1 := hD
  have hP1 : va_P (dC, dI) vwCl (([] : va_W)) H1 := hP1
  have hD1 : va_D A (([] : va_W)) := hD1
  clear hP hD hS hB1 hk1 hvm1 hz1 ht1
  have z2 := (zk_ok hR).1
  replace hR := (zk_ok hR).2
  subst hQe
  exact W.zret (ty := .boolean) (v := q1) hx hb hr (zk_nar z2) (fun t ht hW => ⟨⟨q1, (), rfl, (Option.some.inj hR).symm, by rw [ht]; exact hP1, va_K.moved hW.alike hK, hD1⟩, hS1.F ht⟩) hS1.2.2 dX9_isPurse_6
def rr_X9_runDay_b_15_b (fu : Nat) (rec6 : Int32 → Int32 → Int32 → ZT_9 → Option (Int32 × ZT_9)) (rec15 : Int32 → Int32 → Int32 → Int32 → ZT_9 → Option (Int32 × ZT_9)) (y3 : Int32) (y4 : Int32) (y5 : Int32) (y6 : Int32) (u1 : ZT_9) : Option (Int32 × ZT_9) := (if u1.1.2.2.1.1 ≤ y6 then lt_ (α := Int32) (y5 + (1 : Int32)) (fun z6 => rec6 y3 y4 z6 u1) else (rr_X9_runBill_b fu y6 u1).bind (fun q7 => (if q7.1 = (0 : Int32) then some (y4, q7.2) else lt_ (α := Int32) (y4 + (1 : Int32)) (fun z9 => lt_ (α := Int32) (y6 + (1 : Int32)) (fun z10 => rec15 y3 z9 y5 z10 q7.2)))))
def rr_X9_runDay_b_15 (fu : Nat) (rec6 : Int32 → Int32 → Int32 → ZT_9 → Option (Int32 × ZT_9)) (n : Nat) : Int32 → Int32 → Int32 → Int32 → ZT_9 → Option (Int32 × ZT_9) := lp_ (fun _ _ _ _ _ => none) (rr_X9_runDay_b_15_b fu rec6) n
def rr_X9_runDay_b_6_b (fu : Nat) (rec6 : Int32 → Int32 → Int32 → ZT_9 → Option (Int32 × ZT_9)) (y3 : Int32) (y4 : Int32) (y5 : Int32) (u1 : ZT_9) : Option (Int32 × ZT_9) := (if y3 ≤ y5 then some (y4, u1) else rr_X9_runDay_b_15 fu rec6 fu y3 y4 y5 (0 : Int32) u1)
def rr_X9_runDay_b_6 (fu : Nat) (n : Nat) : Int32 → Int32 → Int32 → ZT_9 → Option (Int32 × ZT_9) := lp_ (fun _ _ _ _ => none) (rr_X9_runDay_b_6_b fu) n
def rr_X9_runDay_b (fu : Nat) (x3 : Int32) (s1 : ZT_9) : Option (Int32 × ZT_9) := rr_X9_runDay_b_6 fu fu x3 (0 : Int32) (0 : Int32) s1
set_option maxHeartbeats 4000000 in
set_option maxRecDepth 100000 in
theorem cc_X9_runDay_b (l : Launch) (dC : Nat → ClassId) (dI : Nat → Nat → Nat) (fu : Nat) (a1 : Nat → Nat) (k1 : Nat → ClassId) (sz : Nat) (x3 : Int32) (s1 : ZT_9) (res : Int32 × ZT_9) (hR : rr_X9_runDay_b fu x3 s1 = some res) : Met l yX9_runDay wsX9_runDay ({ frames := 6, cells := 0, slots := 0, locals := 142 } : Room) (PcF [.ref (a1 0), .ref (a1 43), .ref (a1 31), .int x3] sz (dC, dI) (zc_9 a1 k1 s1) (zt_9 k1)) (va_Qi (fun (r : Int32) (u : ZT_9) => res = (r, u)) (fun u t => at3_ (dC, dI) (zc_9 a1 k1 u) (zt_9 k1) (va_A (zc_9 a1 k1 s1) sz) t) (va_A (zc_9 a1 k1 s1) sz)) 0 0 (va_A (zc_9 a1 k1 s1) sz) := by
  refine Met.ofW (cc := cX9_runDay) (maxL := 7) (ret := (some .int)) (by decide) rfl ?_
  intro p e s m args below meth c s₁ B hml hv
  obtain ⟨hav, hsz, hP, hK, hD0⟩ := hv
  have hx := B.exec
  have hb := B.bytes
  have hr := B.returns
  have hts := atoms_spec (ws := wsX9_runDay) B.pre
  have hown : s.vm.findClass RX9 = some m.cls := findClass_of_methodNamed B.named
  have hlocks := B.notSynchronized
  have hin0 : ∀ w ∈ wsX00, w ∈ wsX9_runDay := fun w h => List.mem_cons_of_mem _ (List.mem_append_left _ (List.mem_append_left _ (List.mem_append_right _ h)))
  have hin8 : ∀ w ∈ wsX80, w ∈ wsX9_runDay := fun w h => List.mem_cons_of_mem _ (List.mem_append_left _ (List.mem_append_left _ (List.mem_append_left _ (List.mem_append_right _ h))))
  have hin9 : ∀ w ∈ wsX90, w ∈ wsX9_runDay := fun w h => List.mem_cons_of_mem _ (List.mem_append_left _ (List.mem_append_left _ (List.mem_append_left _ (List.mem_append_left _ (List.mem_append_right _ h)))))
  subst hsz
  have hD := hD0.self (sz := s.heap.size)
  clear hD0
  generalize hAe : va_A (zc_9 a1 k1 s1) s.heap.size = A at hD ⊢
  have hA : ∀ q : Nat, s.heap.size ≤ q → A q := fun q h => by rw [← hAe]; exact Or.inr h
  have hS : va_S A s.heap s.heap [] := va_S.rf
  generalize hQe : MQ below _ args s 0 0 A = Q
  rw [show entryFrame m args 7 = F0 m 0 ((lg_sl ([.ref (a1 0), .ref (a1 43), .ref (a1 31), .int x3]) ++ List.replicate (7 - (lg_sl ([.ref (a1 0), .ref (a1 43), .ref (a1 31), .int x3])).length) Slot.unset).toArray) [] from by rw [hav]; exact lg_entry_eq m _ _]
  have hl := lv_entry ([.ref (a1 0), .ref (a1 43), .ref (a1 31), .int x3]) (n := 7) (Nat.le_of_ble_eq_true rfl)
  generalize (lg_sl ([.ref (a1 0), .ref (a1 43), .ref (a1 31), .int x3]) ++ List.replicate (7 - (lg_sl ([.ref (a1 0), .ref (a1 43), .ref (a1 31), .int x3])).length) Slot.unset).toArray = ls at hl ⊢
  have hl : lv_has ls 7 [(0, .ref (a1 0)), (1, .ref (a1 43)), (2, .ref (a1 31)), (3, .int x3)] := hl
  have hB15 : ∀ (rec6 : Int32 → Int32 → Int32 → ZT_9 → Option (Int32 × ZT_9)) (hrec6 : ∀ (y3 : Int32) (y4 : Int32) (y5 : Int32) (u1 : ZT_9) (H : Heap) (locs : List Loc) (ls : Array Slot), va_P (dC, dI) vwCl (zc_9 a1 k1 u1) H → va_D A (zc_9 a1 k1 u1) → va_S A s.heap H locs → lv_has ls 7 [(0, .ref (a1 0)), (1, .ref (a1 43)), (2, .ref (a1 31)), (3, .int y3), (4, .int y4), (5, .int y5)] → rec6 y3 y4 y5 u1 = some res → W p l e ({ frames := 6, cells := 0, slots := 0, locals := 142 } : Room) s m args below meth c H locs 0 0 Q (F0 m 6 ls [])), ∀ (n : Nat), ∀ (y3 : Int32) (y4 : Int32) (y5 : Int32) (y6 : Int32) (u1 : ZT_9) (H : Heap) (locs : List Loc) (ls : Array Slot), va_P (dC, dI) vwCl (zc_9 a1 k1 u1) H → va_D A (zc_9 a1 k1 u1) → va_S A s.heap H locs → lv_has ls 7 [(0, .ref (a1 0)), (1, .ref (a1 43)), (2, .ref (a1 31)), (3, .int y3), (4, .int y4), (5, .int y5), (6, .int y6)] → rr_X9_runDay_b_15 fu rec6 n y3 y4 y5 y6 u1 = some res → W p l e ({ frames := 6, cells := 0, slots := 0, locals := 142 } : Room) s m args below meth c H locs 0 0 Q (F0 m 15 ls []) := by
    intro rec6 hrec6 n
    induction n with
    | zero => intro y3 y4 y5 y6 u1 H locs ls hP hD hS hl hR; exact absurd hR (by intro h; cases h)
    | succ n ih =>
      intro y3 y4 y5 y6 u1 H locs ls hP hD hS hl hR
      replace hR : rr_X9_runDay_b_15_b fu rec6 (rr_X9_runDay_b_15 fu rec6 n) y3 y4 y5 y6 u1 = some res := hR
      unfold rr_X9_runDay_b_15_b at hR
      refine lv_iload hx hb dX9_runDay_15 (lv_at hl 6 rfl) ?_
      refine lv_aload_n hx hb dX9_runDay_17 rfl (lv_at hl 0 rfl) ?_
      refine va_get (D := (dC, dI)) (ci := 9) (v := .ref (a1 1)) (C := RX9) (T := TX9) (N := 14) hx hb hts hin9 hown hK hP 0 rfl rfl 0 (by decide) (hts (.fieldLink RX9 10 "OldestCoins" "town" "LOldestCoins$Town;") (List.mem_of_getElem? (i := 1) rfl)) (fun _ h9 => h9) rfl dX9_runDay_18 ?_
      refine va_get (D := (dC, dI)) (ci := 8) (v := .ref (a1 8)) (C := RX8) (T := TX8) (N := 4) hx hb hts hin8 hown hK hP 1 rfl rfl 2 (by decide) (hts (.fieldLink RX9 187 "OldestCoins$Town" "day" "LOldestCoins$Bills;") (List.mem_of_getElem? (i := 2) rfl)) (fun _ h9 => h9) rfl dX9_runDay_21 ?_
      refine va_get (D := (dC, dI)) (ci := 0) (v := .int u1.1.2.2.1.1) (C := RX0) (T := TX0) (N := 4) hx hb hts hin0 hown hK hP 8 rfl rfl 0 (by decide) (hts (.fieldLink RX9 193 "OldestCoins$Bills" "size" "I") (List.mem_of_getElem? (i := 3) rfl)) (fun _ h9 => h9) rfl dX9_runDay_24 ?_
      refine lv_icmp_ge (tgt := 53) hx hb dX9_runDay_27 (by decide) (fun c5 => ?_) (fun c5 => ?_)
      · replace hR := ifp_ hR c5
        obtain ⟨z6, ez6⟩ : ∃ y : Int32, y = (y5 + (1 : Int32)) := ⟨_, rfl⟩
        replace hR := lt_ok hR ez6
        refine lv_iinc (v := z6) (lv' := [(5, .int z6), (0, .ref (a1 0)), (1, .ref (a1 43)), (2, .ref (a1 31)), (3, .int y3), (4, .int y4), (6, .int y6)]) hx hb dX9_runDay_53 hl (k := 5) rfl (by rw [ez6]; rfl) (by decide) rfl (fun ls6 hl6 => ?_)
        refine lv_goto (tgt := 6) hx hb dX9_runDay_56 (by decide) ?_
        exact hrec6 y3 y4 z6 u1 H locs ls6 hP hD hS (lv_sub hl6 [1, 2, 3, 4, 5, 0] rfl) hR
      · replace hR := ifn_ hR c5
        refine lv_aload_n hx hb dX9_runDay_30 rfl (lv_at hl 0 rfl) ?_
        refine lv_aload_n hx hb dX9_runDay_31 rfl (lv_at hl 1 rfl) ?_
        refine lv_aload_n hx hb dX9_runDay_32 rfl (lv_at hl 2 rfl) ?_
        refine lv_iload hx hb dX9_runDay_33 (lv_at hl 6 rfl) ?_
        have hR0 := ob_ok hR
        clear hR
        obtain ⟨q7, hq7, hR⟩ := hR0
        refine va_calli (va_runV (As := [.ref (a1 43), .ref (a1 31), .int y6]) (rest := []) ⟨hx, hb, hml, hown, hts⟩ (cc_X9_runBill_b l dC dI fu a1 k1 H.size y6 u1 q7 hq7) (cwV 3 hts gX9_runDay_X9_runBill rfl rfl rfl (by decide +kernel) ⟨Nat.le_of_ble_eq_true rfl, Nat.le_of_ble_eq_true rfl⟩) (pf_v hK hP hD 9 0 rfl rfl rfl) rfl rfl hl.1 rfl (lv_room (Nat.le_of_ble_eq_true rfl)) dX9_runDay_35 ⟨Nat.le_refl _, Nat.le_refl _⟩) hS (fun q _ h => (fr_all hD hS hA) q h) (fr_all hD hS hA) (fun r7 v7 t7 H7 locs7 ht7 hvm7 hw7 hB7 hz7 hk7 hS7 => ?_)
        obtain rfl : r7 = q7.1 := (congrArg Prod.fst hw7).symm
        obtain rfl : v7 = q7.2 := (congrArg Prod.snd hw7).symm
        obtain ⟨hP7, hD7⟩ := jn_all hD hS hA ht7 hB7
        have hP7 : va_P (dC, dI) vwCl (zc_9 a1 k1 q7.2) H7 := hP7
        have hD7 : va_D A (zc_9 a1 k1 q7.2) := hD7
        clear hP hD hS hB7 hk7 hvm7 hz7 ht7
        refine lv_if_ne (tgt := 44) hx hb dX9_runDay_38 (by decide) (fun c8 => ?_) (fun c8 => ?_)
        · replace hR := ifn_ hR c8
          obtain ⟨z9, ez9⟩ : ∃ y : Int32, y = (y4 + (1 : Int32)) := ⟨_, rfl⟩
          replace hR := lt_ok hR ez9
          refine lv_iinc (v := z9) (lv' := [(4, .int z9), (0, .ref (a1 0)), (1, .ref (a1 43)), (2, .ref (a1 31)), (3, .int y3), (5, .int y5), (6, .int y6)]) hx hb dX9_runDay_44 hl (k := 4) rfl (by rw [ez9]; rfl) (by decide) rfl (fun ls9 hl9 => ?_)
          obtain ⟨z10, ez10⟩ : ∃ y : Int32, y = (y6 + (1 : Int32)) := ⟨_, rfl⟩
          replace hR := lt_ok hR ez10
          refine lv_iinc (v := z10) (lv' := [(6, .int z10), (4, .int z9), (0, .ref (a1 0)), (1, .ref (a1 43)), (2, .ref (a1 31)), (3, .int y3), (5, .int y5)]) hx hb dX9_runDay_47 hl9 (k := 6) rfl (by rw [ez10]; rfl) (by decide) rfl (fun ls10 hl10 => ?_)
          refine lv_goto (tgt := 15) hx hb dX9_runDay_50 (by decide) ?_
          exact ih y3 z9 y5 z10 q7.2 H7 locs7 ls10 hP7 hD7 hS7 (lv_sub hl10 [2, 3, 4, 5, 1, 6, 0] rfl) hR
        · replace hR := ifp_ hR c8
          refine lv_iload hx hb dX9_runDay_41 (lv_at hl 4 rfl) ?_
          subst hQe
          exact W.iret (v := y4) hx hb hr (fun t ht hW => ⟨⟨y4, q7.2, rfl, (Option.some.inj hR).symm, by rw [ht]; exact hP7, va_K.moved hW.alike hK, hD7⟩, hS7.F ht⟩) hS7.2.2 dX9_runDay_43
  have hB6 : ∀ (n : Nat), ∀ (y3 : Int32) (y4 : Int32) (y5 : Int32) (u1 : ZT_9) (H : Heap) (locs : List Loc) (ls : Array Slot), va_P (dC, dI) vwCl (zc_9 a1 k1 u1) H → va_D A (zc_9 a1 k1 u1) → va_S A s.heap H locs → lv_has ls 7 [(0, .ref (a1 0)), (1, .ref (a1 43)), (2, .ref (a1 31)), (3, .int y3), (4, .int y4), (5, .int y5)] → rr_X9_runDay_b_6 fu n y3 y4 y5 u1 = some res → W p l e ({ frames := 6, cells := 0, slots := 0, locals := 142 } : Room) s m args below meth c H locs 0 0 Q (F0 m 6 ls []) := by
    intro  n
    induction n with
    | zero => intro y3 y4 y5 u1 H locs ls hP hD hS hl hR; exact absurd hR (by intro h; cases h)
    | succ n ih =>
      intro y3 y4 y5 u1 H locs ls hP hD hS hl hR
      replace hR : rr_X9_runDay_b_6_b fu (rr_X9_runDay_b_6 fu n) y3 y4 y5 u1 = some res := hR
      unfold rr_X9_runDay_b_6_b at hR
      refine lv_iload hx hb dX9_runDay_6 (lv_at hl 5 rfl) ?_
      refine lv_iload_n hx hb dX9_runDay_8 rfl (lv_at hl 3 rfl) ?_
      refine lv_icmp_ge (tgt := 59) hx hb dX9_runDay_9 (by decide) (fun c3 => ?_) (fun c3 => ?_)
      · replace hR := ifp_ hR c3
        refine lv_iload hx hb dX9_runDay_59 (lv_at hl 4 rfl) ?_
        subst hQe
        exact W.iret (v := y4) hx hb hr (fun t ht hW => ⟨⟨y4, u1, rfl, (Option.some.inj hR).symm, by rw [ht]; exact hP, va_K.moved hW.alike hK, hD⟩, hS.F ht⟩) hS.2.2 dX9_runDay_61
      · replace hR := ifn_ hR c3
        refine lv_iconst (v := (0 : Int32)) hx hb dX9_runDay_12 (by decide) ?_
        refine lv_istore (lv' := [(6, .int (0 : Int32)), (0, .ref (a1 0)), (1, .ref (a1 43)), (2, .ref (a1 31)), (3, .int y3), (4, .int y4), (5, .int y5)]) hx hb dX9_runDay_13 hl (by decide) rfl (fun ls4 hl4 => ?_)
        exact hB15 (rr_X9_runDay_b_6 fu n) ih fu y3 y4 y5 (0 : Int32) u1 H locs ls4 hP hD hS (lv_sub hl4 [1, 2, 3, 4, 5, 6, 0] rfl) hR
  unfold rr_X9_runDay_b at hR
  refine lv_iconst (v := (0 : Int32)) hx hb dX9_runDay_0 (by decide) ?_
  refine lv_istore (lv' := [(4, .int (0 : Int32)), (0, .ref (a1 0)), (1, .ref (a1 43)), (2, .ref (a1 31)), (3, .int x3)]) hx hb dX9_runDay_1 hl (by decide) rfl (fun ls1 hl1 => ?_)
  refine lv_iconst (v := (0 : Int32)) hx hb dX9_runDay_3 (by decide) ?_
  refine lv_istore (lv' := [(5, .int (0 : Int32)), (4, .int (0 : Int32)), (0, .ref (a1 0)), (1, .ref (a1 43)), (2, .ref (a1 31)), (3, .int x3)]) hx hb dX9_runDay_4 hl1 (by decide) rfl (fun ls2 hl2 => ?_)
  exact hB6 fu x3 (0 : Int32) (0 : Int32) s1 s.heap [] ls2 hP hD hS (lv_sub hl2 [2, 3, 4, 5, 1, 0] rfl) hR
