def rr_X9_isHolder (fu : Nat) (x0 : Int32) : Option (Int32) := (rr_X9_isWithin fu x0 (0 : Int32) (7 : Int32)).bind (fun q1 => zk_ q1 (some q1))
set_option maxHeartbeats 4000000 in
set_option maxRecDepth 100000 in
theorem cc_X9_isHolder (l : Launch) (dC : Nat → ClassId) (dI : Nat → Nat → Nat) (fu : Nat) (sz : Nat) (x0 : Int32) (res : Int32) (hR : rr_X9_isHolder fu x0 = some res) : Met l yX9_isHolder wsX9_isHolder ({ frames := 1, cells := 0, slots := 0, locals := 22 } : Room) (PcF [.int x0] sz (dC, dI) (([] : va_W)) ([])) (va_Qi (fun (r : Int32) (u : Unit) => res = r) (fun u t => at3_ (dC, dI) (([] : va_W)) ([]) (va_A (([] : va_W)) sz) t) (va_A (([] : va_W)) sz)) 0 0 (va_A (([] : va_W)) sz) := by
  refine Met.ofW (cc := cX9_isHolder) (maxL := 1) (ret := (some .boolean)) (by decide) rfl ?_
  intro p e s m args below meth c s₁ B hml hv
  obtain ⟨hav, hsz, hP, hK, hD0⟩ := hv
  have hx := B.exec
  have hb := B.bytes
  have hr := B.returns
  have hts := atoms_spec (ws := wsX9_isHolder) B.pre
  have hown : s.vm.findClass RX9 = some m.cls := findClass_of_methodNamed B.named
  have hlocks := B.notSynchronized
  subst hsz
  have hD := hD0.self (sz := s.heap.size)
  clear hD0
  generalize hAe : va_A (([] : va_W)) s.heap.size = A at hD ⊢
  have hA : ∀ q : Nat, s.heap.size ≤ q → A q := fun q h => by rw [← hAe]; exact Or.inr h
  have hS : va_S A s.heap s.heap [] := va_S.rf
  generalize hQe : MQ below _ args s 0 0 A = Q
  rw [show entryFrame m args 1 = F0 m 0 ((lg_sl ([.int x0]) ++ List.replicate (1 - (lg_sl ([.int x0])).length) Slot.unset).toArray) [] from by rw [hav]; exact lg_entry_eq m _ _]
  have hl := lv_entry ([.int x0]) (n := 1) (Nat.le_of_ble_eq_true rfl)
  generalize (lg_sl ([.int x0]) ++ List.replicate (1 - (lg_sl ([.int x0])).length) Slot.unset).toArray = ls at hl ⊢
  have hl : lv_has ls 1 [(0, .int x0)] := hl
  unfold rr_X9_isHolder at hR
  refine lv_iload_n hx hb dX9_isHolder_0 rfl (lv_at hl 0 rfl) ?_
  refine lv_iconst (v := (0 : Int32)) hx hb dX9_isHolder_1 (by decide) ?_
  refine lv_bipush (v := (7 : Int32)) hx hb dX9_isHolder_2 (by decide) ?_
  have hR0 := ob_ok hR
  clear hR
  obtain ⟨q1, hq1, hR⟩ := hR0
  refine va_calli (va_runS (As := [.int x0, .int (0 : Int32), .int (7 : Int32)]) (rest := []) ⟨hx, hb, hml, hown, hts⟩ (cc_X9_isWithin l dC dI fu s.heap.size x0 (0 : Int32) (7 : Int32) q1 hq1) (va_cwS 3 hts gX9_isHolder_X9_isWithin rfl rfl rfl (by decide +kernel) ⟨Nat.le_of_ble_eq_true rfl, Nat.le_of_ble_eq_true rfl⟩) (pf_s (nil_K hK) nil_P (nil_D (A := A))) rfl rfl hl.1 rfl (lv_room (Nat.le_of_ble_eq_true rfl)) dX9_isHolder_4 ⟨Nat.le_refl _, Nat.le_refl _⟩) hS (fun q _ h => (fr_none hS hA) q h) (fr_none hS hA) (fun r1 v1 t1 H1 locs1 ht1 hvm1 hw1 hB1 hz1 hk1 hS1 => ?_)
  subst hw1
  have hP1 := jn_none hP hk1
  have hD1 := hD
  have hP1 : va_P (dC, dI) vwCl (([] : va_W)) H1 := hP1
  have hD1 : va_D A (([] : va_W)) := hD1
  clear hP hD hS hB1 hk1 hvm1 hz1 ht1
  have z2 := (zk_ok hR).1
  replace hR := (zk_ok hR).2
  subst hQe
  exact W.zret (ty := .boolean) (v := q1) hx hb hr (zk_nar z2) (fun t ht hW => ⟨⟨q1, (), rfl, (Option.some.inj hR).symm, by rw [ht]; exact hP1, va_K.moved hW.alike hK, hD1⟩, hS1.F ht⟩) hS1.2.2 dX9_isHolder_7
def rr_X9_isLane (fu : Nat) (x0 : Int32) : Option (Int32) := (rr_X9_isWithin fu x0 (0 : Int32) (2 : Int32)).bind (fun q1 => zk_ q1 (some q1))
set_option maxHeartbeats 4000000 in
set_option maxRecDepth 100000 in
theorem cc_X9_isLane (l : Launch) (dC : Nat → ClassId) (dI : Nat → Nat → Nat) (fu : Nat) (sz : Nat) (x0 : Int32) (res : Int32) (hR : rr_X9_isLane fu x0 = some res) : Met l yX9_isLane wsX9_isLane ({ frames := 1, cells := 0, slots := 0, locals := 22 } : Room) (PcF [.int x0] sz (dC, dI) (([] : va_W)) ([])) (va_Qi (fun (r : Int32) (u : Unit) => res = r) (fun u t => at3_ (dC, dI) (([] : va_W)) ([]) (va_A (([] : va_W)) sz) t) (va_A (([] : va_W)) sz)) 0 0 (va_A (([] : va_W)) sz) := by
  refine Met.ofW (cc := cX9_isLane) (maxL := 1) (ret := (some .boolean)) (by decide) rfl ?_
  intro p e s m args below meth c s₁ B hml hv
  obtain ⟨hav, hsz, hP, hK, hD0⟩ := hv
  have hx := B.exec
  have hb := B.bytes
  have hr := B.returns
  have hts := atoms_spec (ws := wsX9_isLane) B.pre
  have hown : s.vm.findClass RX9 = some m.cls := findClass_of_methodNamed B.named
  have hlocks := B.notSynchronized
  subst hsz
  have hD := hD0.self (sz := s.heap.size)
  clear hD0
  generalize hAe : va_A (([] : va_W)) s.heap.size = A at hD ⊢
  have hA : ∀ q : Nat, s.heap.size ≤ q → A q := fun q h => by rw [← hAe]; exact Or.inr h
  have hS : va_S A s.heap s.heap [] := va_S.rf
  generalize hQe : MQ below _ args s 0 0 A = Q
  rw [show entryFrame m args 1 = F0 m 0 ((lg_sl ([.int x0]) ++ List.replicate (1 - (lg_sl ([.int x0])).length) Slot.unset).toArray) [] from by rw [hav]; exact lg_entry_eq m _ _]
  have hl := lv_entry ([.int x0]) (n := 1) (Nat.le_of_ble_eq_true rfl)
  generalize (lg_sl ([.int x0]) ++ List.replicate (1 - (lg_sl ([.int x0])).length) Slot.unset).toArray = ls at hl ⊢
  have hl : lv_has ls 1 [(0, .int x0)] := hl
  unfold rr_X9_isLane at hR
  refine lv_iload_n hx hb dX9_isLane_0 rfl (lv_at hl 0 rfl) ?_
  refine lv_iconst (v := (0 : Int32)) hx hb dX9_isLane_1 (by decide) ?_
  refine lv_iconst (v := (2 : Int32)) hx hb dX9_isLane_2 (by decide) ?_
  have hR0 := ob_ok hR
  clear hR
  obtain ⟨q1, hq1, hR⟩ := hR0
  refine va_calli (va_runS (As := [.int x0, .int (0 : Int32), .int (2 : Int32)]) (rest := []) ⟨hx, hb, hml, hown, hts⟩ (cc_X9_isWithin l dC dI fu s.heap.size x0 (0 : Int32) (2 : Int32) q1 hq1) (va_cwS 3 hts gX9_isLane_X9_isWithin rfl rfl rfl (by decide +kernel) ⟨Nat.le_of_ble_eq_true rfl, Nat.le_of_ble_eq_true rfl⟩) (pf_s (nil_K hK) nil_P (nil_D (A := A))) rfl rfl hl.1 rfl (lv_room (Nat.le_of_ble_eq_true rfl)) dX9_isLane_3 ⟨Nat.le_refl _, Nat.le_refl _⟩) hS (fun q _ h => (fr_none hS hA) q h) (fr_none hS hA) (fun r1 v1 t1 H1 locs1 ht1 hvm1 hw1 hB1 hz1 hk1 hS1 => ?_)
  subst hw1
  have hP1 := jn_none hP hk1
  have hD1 := hD
  have hP1 : va_P (dC, dI) vwCl (([] : va_W)) H1 := hP1
  have hD1 : va_D A (([] : va_W)) := hD1
  clear hP hD hS hB1 hk1 hvm1 hz1 ht1
  have z2 := (zk_ok hR).1
  replace hR := (zk_ok hR).2
  subst hQe
  exact W.zret (ty := .boolean) (v := q1) hx hb hr (zk_nar z2) (fun t ht hW => ⟨⟨q1, (), rfl, (Option.some.inj hR).symm, by rw [ht]; exact hP1, va_K.moved hW.alike hK, hD1⟩, hS1.F ht⟩) hS1.2.2 dX9_isLane_6
def rr_X9_isSheet (fu : Nat) (x0 : Int32) : Option (Int32) := (rr_X9_isWithin fu x0 (0 : Int32) (3 : Int32)).bind (fun q1 => zk_ q1 (some q1))
set_option maxHeartbeats 4000000 in
set_option maxRecDepth 100000 in
theorem cc_X9_isSheet (l : Launch) (dC : Nat → ClassId) (dI : Nat → Nat → Nat) (fu : Nat) (sz : Nat) (x0 : Int32) (res : Int32) (hR : rr_X9_isSheet fu x0 = some res) : Met l yX9_isSheet wsX9_isSheet ({ frames := 1, cells := 0, slots := 0, locals := 22 } : Room) (PcF [.int x0] sz (dC, dI) (([] : va_W)) ([])) (va_Qi (fun (r : Int32) (u : Unit) => res = r) (fun u t => at3_ (dC, dI) (([] : va_W)) ([]) (va_A (([] : va_W)) sz) t) (va_A (([] : va_W)) sz)) 0 0 (va_A (([] : va_W)) sz) := by
  refine Met.ofW (cc := cX9_isSheet) (maxL := 1) (ret := (some .boolean)) (by decide) rfl ?_
  intro p e s m args below meth c s₁ B hml hv
  obtain ⟨hav, hsz, hP, hK, hD0⟩ := hv
  have hx := B.exec
  have hb := B.bytes
  have hr := B.returns
  have hts := atoms_spec (ws := wsX9_isSheet) B.pre
  have hown : s.vm.findClass RX9 = some m.cls := findClass_of_methodNamed B.named
  have hlocks := B.notSynchronized
  subst hsz
  have hD := hD0.self (sz := s.heap.size)
  clear hD0
  generalize hAe : va_A (([] : va_W)) s.heap.size = A at hD ⊢
  have hA : ∀ q : Nat, s.heap.size ≤ q → A q := fun q h => by rw [← hAe]; exact Or.inr h
  have hS : va_S A s.heap s.heap [] := va_S.rf
  generalize hQe : MQ below _ args s 0 0 A = Q
  rw [show entryFrame m args 1 = F0 m 0 ((lg_sl ([.int x0]) ++ List.replicate (1 - (lg_sl ([.int x0])).length) Slot.unset).toArray) [] from by rw [hav]; exact lg_entry_eq m _ _]
  have hl := lv_entry ([.int x0]) (n := 1) (Nat.le_of_ble_eq_true rfl)
  generalize (lg_sl ([.int x0]) ++ List.replicate (1 - (lg_sl ([.int x0])).length) Slot.unset).toArray = ls at hl ⊢
  have hl : lv_has ls 1 [(0, .int x0)] := hl
  unfold rr_X9_isSheet at hR
  refine lv_iload_n hx hb dX9_isSheet_0 rfl (lv_at hl 0 rfl) ?_
  refine lv_iconst (v := (0 : Int32)) hx hb dX9_isSheet_1 (by decide) ?_
  refine lv_iconst (v := (3 : Int32)) hx hb dX9_isSheet_2 (by decide) ?_
  have hR0 := ob_ok hR
  clear hR
  obtain ⟨q1, hq1, hR⟩ := hR0
  refine va_calli (va_runS (As := [.int x0, .int (0 : Int32), .int (3 : Int32)]) (rest := []) ⟨hx, hb, hml, hown, hts⟩ (cc_X9_isWithin l dC dI fu s.heap.size x0 (0 : Int32) (3 : Int32) q1 hq1) (va_cwS 3 hts gX9_isSheet_X9_isWithin rfl rfl rfl (by decide +kernel) ⟨Nat.le_of_ble_eq_true rfl, Nat.le_of_ble_eq_true rfl⟩) (pf_s (nil_K hK) nil_P (nil_D (A := A))) rfl rfl hl.1 rfl (lv_room (Nat.le_of_ble_eq_true rfl)) dX9_isSheet_3 ⟨Nat.le_refl _, Nat.le_refl _⟩) hS (fun q _ h => (fr_none hS hA) q h) (fr_none hS hA) (fun r1 v1 t1 H1 locs1 ht1 hvm1 hw1 hB1 hz1 hk1 hS1 => ?_)
  subst hw1
  have hP1 := jn_none hP hk1
  have hD1 := hD
  have hP1 : va_P (dC, dI) vwCl (([] : va_W)) H1 := hP1
  have hD1 : va_D A (([] : va_W)) := hD1
  clear hP hD hS hB1 hk1 hvm1 hz1 ht1
  have z2 := (zk_ok hR).1
  replace hR := (zk_ok hR).2
  subst hQe
  exact W.zret (ty := .boolean) (v := q1) hx hb hr (zk_nar z2) (fun t ht hW => ⟨⟨q1, (), rfl, (Option.some.inj hR).symm, by rw [ht]; exact hP1, va_K.moved hW.alike hK, hD1⟩, hS1.F ht⟩) hS1.2.2 dX9_isSheet_6
def rr_X9_layOut_25 (fu : Nat) (u1 : ZT_9) : Option (ZT_9) := (rr_X1_layOut fu 40 u1.2.2.2.2.2.2.1 u1.1.2.1 u1.2.2.2.1).bind (fun q4 => some (u1.1, u1.2.1, u1.2.2.1, u1.2.2.2.1, u1.2.2.2.2.1, u1.2.2.2.2.2.1, q4, u1.2.2.2.2.2.2.2))
def rr_X9_layOut (fu : Nat) (s1 : ZT_9) : Option (ZT_9) := (if s1.2.2.2.2.1 = (0 : Int32) then rr_X9_layOut_25 fu s1 else (rr_X4_build fu (-1 : Int32) (0 : Int32) s1.2.2.2.1 s1.1).bind (fun q2 => rr_X9_layOut_25 fu (s1.1, s1.2.1, s1.2.2.1, q2, (0 : Int32), s1.2.2.2.2.2)))
set_option maxHeartbeats 4000000 in
set_option maxRecDepth 100000 in
theorem cc_X9_layOut (l : Launch) (dC : Nat → ClassId) (dI : Nat → Nat → Nat) (fu : Nat) (a1 : Nat → Nat) (k1 : Nat → ClassId) (sz : Nat) (s1 : ZT_9) (res : ZT_9) (hR : rr_X9_layOut fu s1 = some res) : Met l yX9_layOut wsX9_layOut ({ frames := 4, cells := 0, slots := 0, locals := 92 } : Room) (PcF [.ref (a1 0)] sz (dC, dI) (zc_9 a1 k1 s1) (zt_9 k1)) (va_Qv (fun u : ZT_9 => res = u) (fun u t => at3_ (dC, dI) (zc_9 a1 k1 u) (zt_9 k1) (va_A (zc_9 a1 k1 s1) sz) t) (va_A (zc_9 a1 k1 s1) sz)) 0 0 (va_A (zc_9 a1 k1 s1) sz) := by
  refine Met.ofW (cc := cX9_layOut) (maxL := 1) (ret := none) (by decide) rfl ?_
  intro p e s m args below meth c s₁ B hml hv
  obtain ⟨hav, hsz, hP, hK, hD0⟩ := hv
  have hx := B.exec
  have hb := B.bytes
  have hr := B.returns
  have hts := atoms_spec (ws := wsX9_layOut) B.pre
  have hown : s.vm.findClass RX9 = some m.cls := findClass_of_methodNamed B.named
  have hlocks := B.notSynchronized
  have hin8 : ∀ w ∈ wsX80, w ∈ wsX9_layOut := fun w h => List.mem_cons_of_mem _ (List.mem_append_left _ (List.mem_append_left _ (List.mem_append_left _ (List.mem_append_right _ h))))
  have hin9 : ∀ w ∈ wsX90, w ∈ wsX9_layOut := fun w h => List.mem_cons_of_mem _ (List.mem_append_left _ (List.mem_append_left _ (List.mem_append_left _ (List.mem_append_left _ (List.mem_append_right _ h)))))
  subst hsz
  have hD := hD0.self (sz := s.heap.size)
  clear hD0
  generalize hAe : va_A (zc_9 a1 k1 s1) s.heap.size = A at hD ⊢
  have hA : ∀ q : Nat, s.heap.size ≤ q → A q := fun q h => by rw [← hAe]; exact Or.inr h
  have hS : va_S A s.heap s.heap [] := va_S.rf
  generalize hQe : MQ below _ args s 0 0 A = Q
  rw [show entryFrame m args 1 = F0 m 0 ((lg_sl ([.ref (a1 0)]) ++ List.replicate (1 - (lg_sl ([.ref (a1 0)])).length) Slot.unset).toArray) [] from by rw [hav]; exact lg_entry_eq m _ _]
  have hl := lv_entry ([.ref (a1 0)]) (n := 1) (Nat.le_of_ble_eq_true rfl)
  generalize (lg_sl ([.ref (a1 0)]) ++ List.replicate (1 - (lg_sl ([.ref (a1 0)])).length) Slot.unset).toArray = ls at hl ⊢
  have hl : lv_has ls 1 [(0, .ref (a1 0))] := hl
  have hB25 : ∀ (u1 : ZT_9) (H : Heap) (locs : List Loc) (ls : Array Slot), va_P (dC, dI) vwCl (zc_9 a1 k1 u1) H → va_D A (zc_9 a1 k1 u1) → va_S A s.heap H locs → lv_has ls 1 [(0, .ref (a1 0))] → rr_X9_layOut_25 fu u1 = some res → W p l e ({ frames := 4, cells := 0, slots := 0, locals := 92 } : Room) s m args below meth c H locs 0 0 Q (F0 m 25 ls []) := by
    intro  u1 H locs ls hP hD hS hl hR
    unfold rr_X9_layOut_25 at hR
    refine lv_aload_n hx hb dX9_layOut_25 rfl (lv_at hl 0 rfl) ?_
    refine va_get (D := (dC, dI)) (ci := 9) (v := .ref (a1 43)) (C := RX9) (T := TX9) (N := 14) hx hb hts hin9 hown hK hP 0 rfl rfl 6 (by decide) (hts (.fieldLink RX9 36 "OldestCoins" "board" "LOldestCoins$Board;") (List.mem_of_getElem? (i := 4) rfl)) (fun _ h9 => h9) rfl dX9_layOut_26 ?_
    refine lv_aload_n hx hb dX9_layOut_29 rfl (lv_at hl 0 rfl) ?_
    refine va_get (D := (dC, dI)) (ci := 9) (v := .ref (a1 1)) (C := RX9) (T := TX9) (N := 14) hx hb hts hin9 hown hK hP 0 rfl rfl 0 (by decide) (hts (.fieldLink RX9 10 "OldestCoins" "town" "LOldestCoins$Town;") (List.mem_of_getElem? (i := 3) rfl)) (fun _ h9 => h9) rfl dX9_layOut_30 ?_
    refine va_get (D := (dC, dI)) (ci := 8) (v := .ref (a1 2)) (C := RX8) (T := TX8) (N := 4) hx hb hts hin8 hown hK hP 1 rfl rfl 1 (by decide) (hts (.fieldLink RX9 98 "OldestCoins$Town" "coins" "LOldestCoins$Coins;") (List.mem_of_getElem? (i := 5) rfl)) (fun _ h9 => h9) rfl dX9_layOut_33 ?_
    refine lv_aload_n hx hb dX9_layOut_36 rfl (lv_at hl 0 rfl) ?_
    refine va_get (D := (dC, dI)) (ci := 9) (v := .ref (a1 31)) (C := RX9) (T := TX9) (N := 14) hx hb hts hin9 hown hK hP 0 rfl rfl 3 (by decide) (hts (.fieldLink RX9 22 "OldestCoins" "ranks" "LOldestCoins$Ranks;") (List.mem_of_getElem? (i := 2) rfl)) (fun _ h9 => h9) rfl dX9_layOut_37 ?_
    have hR0 := ob_ok hR
    clear hR
    obtain ⟨q4, hq4, hR⟩ := hR0
    refine va_callv (va_runV (As := [.ref (a1 2), .ref (a1 31)]) (rest := []) ⟨hx, hb, hml, hown, hts⟩ (cc_X1_layOut l dC dI fu (sh_ a1 43) (sh_ a1 2) (sh_ a1 31) (sh_ k1 43) (sh_ k1 2) (sh_ k1 31) 40 H.size u1.2.2.2.2.2.2.1 u1.1.2.1 u1.2.2.2.1 q4 hq4) (cwV 2 hts gX9_layOut_X1_layOut rfl rfl rfl (by decide +kernel) ⟨Nat.le_of_ble_eq_true rfl, Nat.le_of_ble_eq_true rfl⟩) (pf_v (hK.sub (tys' := zt_1 (sh_ k1 43) ++ zt_2 (sh_ k1 2) ++ zt_4 (sh_ k1 31)) [32, 0, 1, 2, 3, 4, 22, 23, 24, 25, 26] rfl) (sub_P (sb_9__0c43_0c2_0c31 a1 k1 u1) hP) (sub_D (sb_9__0c43_0c2_0c31 a1 k1 u1) rfl hD) 1 0 rfl rfl rfl) rfl rfl hl.1 rfl (lv_room (Nat.le_of_ble_eq_true rfl)) dX9_layOut_40 ⟨Nat.le_refl _, Nat.le_refl _⟩) hS (fun q _ h => (sub_F (sb_9__0c43_0c2_0c31 a1 k1 u1) hD hS hA) q h) (sub_F (sb_9__0c43_0c2_0c31 a1 k1 u1) hD hS hA) (fun v4 t4 H4 locs4 ht4 hvm4 hw4 hB4 hz4 hk4 hS4 => ?_)
    subst hw4
    obtain ⟨hP4, hD4⟩ := jn_sub (sb_9__0c43_0c2_0c31 a1 k1 u1) (jo_9__0c43_0c2_0c31__0 a1 k1 u1 q4) rfl hP hD hS hA hk4 ht4 hB4
    have hP4 : va_P (dC, dI) vwCl (zc_9 a1 k1 (u1.1, u1.2.1, u1.2.2.1, u1.2.2.2.1, u1.2.2.2.2.1, u1.2.2.2.2.2.1, q4, u1.2.2.2.2.2.2.2)) H4 := hP4
    have hD4 : va_D A (zc_9 a1 k1 (u1.1, u1.2.1, u1.2.2.1, u1.2.2.2.1, u1.2.2.2.2.1, u1.2.2.2.2.2.1, q4, u1.2.2.2.2.2.2.2)) := hD4
    clear hP hD hS hB4 hk4 hvm4 hz4 ht4
    subst hQe
    exact W.vret hx hb hr (fun t ht hW => ⟨⟨(u1.1, u1.2.1, u1.2.2.1, u1.2.2.2.1, u1.2.2.2.2.1, u1.2.2.2.2.2.1, q4, u1.2.2.2.2.2.2.2), rfl, (Option.some.inj hR).symm, by rw [ht]; exact hP4, va_K.moved hW.alike hK, hD4⟩, hS4.F ht⟩) hS4.2.2 dX9_layOut_43
  unfold rr_X9_layOut at hR
  refine lv_aload_n hx hb dX9_layOut_0 rfl (lv_at hl 0 rfl) ?_
  refine va_get (D := (dC, dI)) (ci := 9) (v := .int s1.2.2.2.2.1) (C := RX9) (T := TX9) (N := 14) hx hb hts hin9 hown hK hP 0 rfl rfl 4 (by decide) (hts (.fieldLink RX9 26 "OldestCoins" "ranksAreOld" "Z") (List.mem_of_getElem? (i := 1) rfl)) (fun _ h9 => h9) rfl dX9_layOut_1 ?_
  refine lv_if_eq (tgt := 25) hx hb dX9_layOut_4 (by decide) (fun c1 => ?_) (fun c1 => ?_)
  · replace hR := ifp_ hR c1
    exact hB25 s1 s.heap [] ls hP hD hS (lv_sub hl [0] rfl) hR
  · replace hR := ifn_ hR c1
    refine lv_aload_n hx hb dX9_layOut_7 rfl (lv_at hl 0 rfl) ?_
    refine va_get (D := (dC, dI)) (ci := 9) (v := .ref (a1 31)) (C := RX9) (T := TX9) (N := 14) hx hb hts hin9 hown hK hP 0 rfl rfl 3 (by decide) (hts (.fieldLink RX9 22 "OldestCoins" "ranks" "LOldestCoins$Ranks;") (List.mem_of_getElem? (i := 2) rfl)) (fun _ h9 => h9) rfl dX9_layOut_8 ?_
    refine lv_aload_n hx hb dX9_layOut_11 rfl (lv_at hl 0 rfl) ?_
    refine va_get (D := (dC, dI)) (ci := 9) (v := .ref (a1 1)) (C := RX9) (T := TX9) (N := 14) hx hb hts hin9 hown hK hP 0 rfl rfl 0 (by decide) (hts (.fieldLink RX9 10 "OldestCoins" "town" "LOldestCoins$Town;") (List.mem_of_getElem? (i := 3) rfl)) (fun _ h9 => h9) rfl dX9_layOut_12 ?_
    refine lv_iconst (v := (-1 : Int32)) hx hb dX9_layOut_15 (by decide) ?_
    refine lv_iconst (v := (0 : Int32)) hx hb dX9_layOut_16 (by decide) ?_
    have hR0 := ob_ok hR
    clear hR
    obtain ⟨q2, hq2, hR⟩ := hR0
    refine va_callv (va_runV (As := [.ref (a1 1), .int (-1 : Int32), .int (0 : Int32)]) (rest := []) ⟨hx, hb, hml, hown, hts⟩ (cc_X4_build l dC dI fu (sh_ a1 31) (sh_ a1 1) (sh_ k1 31) (sh_ k1 1) s.heap.size (-1 : Int32) (0 : Int32) s1.2.2.2.1 s1.1 q2 hq2) (cwV 3 hts gX9_layOut_X4_build rfl rfl rfl (by decide +kernel) ⟨Nat.le_of_ble_eq_true rfl, Nat.le_of_ble_eq_true rfl⟩) (pf_v (hK.sub (tys' := zt_4 (sh_ k1 31) ++ zt_8 (sh_ k1 1)) [22, 23, 24, 25, 26, 0, 1, 2, 3, 4, 5, 6, 7, 8, 9, 10] rfl) (sub_P (sb_9__0c31_0c1 a1 k1 s1) hP) (sub_D (sb_9__0c31_0c1 a1 k1 s1) rfl hD) 4 0 rfl rfl rfl) rfl rfl hl.1 rfl (lv_room (Nat.le_of_ble_eq_true rfl)) dX9_layOut_17 ⟨Nat.le_refl _, Nat.le_refl _⟩) hS (fun q _ h => (sub_F (sb_9__0c31_0c1 a1 k1 s1) hD hS hA) q h) (sub_F (sb_9__0c31_0c1 a1 k1 s1) hD hS hA) (fun v2 t2 H2 locs2 ht2 hvm2 hw2 hB2 hz2 hk2 hS2 => ?_)
    subst hw2
    obtain ⟨hP2, hD2⟩ := jn_sub (sb_9__0c31_0c1 a1 k1 s1) (jo_9__0c31_0c1__0 a1 k1 s1 q2) rfl hP hD hS hA hk2 ht2 hB2
    have hP2 : va_P (dC, dI) vwCl (zc_9 a1 k1 (s1.1, s1.2.1, s1.2.2.1, q2, s1.2.2.2.2)) H2 := hP2
    have hD2 : va_D A (zc_9 a1 k1 (s1.1, s1.2.1, s1.2.2.1, q2, s1.2.2.2.2)) := hD2
    clear hP hD hS hB2 hk2 hvm2 hz2 ht2
    refine lv_aload_n hx hb dX9_layOut_20 rfl (lv_at hl 0 rfl) ?_
    refine lv_iconst (v := (0 : Int32)) hx hb dX9_layOut_21 (by decide) ?_
    refine va_put (D := (dC, dI)) (ci := 9) (v := .int (0 : Int32)) (ty := .boolean) (C := RX9) (T := TX9) (N := 14) hx hb hts hin9 tyX9 tyX9_ok nmX9 hown hK hP2 hD2 hS2 0 rfl rfl 4 (by decide) (hts (.fieldLink RX9 26 "OldestCoins" "ranksAreOld" "Z") (List.mem_of_getElem? (i := 1) rfl)) (fun _ h9 => h9) rfl (by decide +kernel) rfl rfl (Nat.le_of_ble_eq_true rfl) dX9_layOut_22 (fun H3 locs3 hP3 hD3 hS3 => ?_)
    have hP3 : va_P (dC, dI) vwCl (zc_9 a1 k1 (s1.1, s1.2.1, s1.2.2.1, q2, (0 : Int32), s1.2.2.2.2.2)) H3 := hP3
    have hD3 : va_D A (zc_9 a1 k1 (s1.1, s1.2.1, s1.2.2.1, q2, (0 : Int32), s1.2.2.2.2.2)) := hD3
    clear hP2 hD2 hS2
    exact hB25 (s1.1, s1.2.1, s1.2.2.1, q2, (0 : Int32), s1.2.2.2.2.2) H3 locs3 ls hP3 hD3 hS3 (lv_sub hl [0] rfl) hR
def rr_X9_film_71_b (fu : Nat) (rec71 : Int32 → Int32 → Int64 → Int32 → Int32 → ZT_9 → Option (Int32 × ZT_9)) (y2 : Int32) (y4 : Int32) (y5 : Int64) (y7 : Int32) (y9 : Int32) (u1 : ZT_9) : Option (Int32 × ZT_9) := (if y7 ≤ y9 then some (y7, u1) else (rr_X4_nextPaid fu y5 u1.2.2.2.1).bind (fun q18 => lt_ (α := Int64) (y5 ^^^ ((1 : Int64) <<< (q18.toInt64 &&& 63))) (fun z20 => ck_ q18 64 ((rr_X5_write fu y2 (y4 + y9) (u1.2.2.2.1.2.1 q18.toNatClampNeg).toInt64 u1.2.2.2.2.2.2.2.2.2.2.2.2.2).bind (fun q23 => lt_ (α := Int32) (y9 + (1 : Int32)) (fun z24 => rec71 y2 y4 z20 y7 z24 (u1.1, u1.2.1, u1.2.2.1, u1.2.2.2.1, u1.2.2.2.2.1, u1.2.2.2.2.2.1, u1.2.2.2.2.2.2.1, u1.2.2.2.2.2.2.2.1, u1.2.2.2.2.2.2.2.2.1, u1.2.2.2.2.2.2.2.2.2.1, u1.2.2.2.2.2.2.2.2.2.2.1, u1.2.2.2.2.2.2.2.2.2.2.2.1, u1.2.2.2.2.2.2.2.2.2.2.2.2.1, q23)))))))
def rr_X9_film_71 (fu : Nat) (n : Nat) : Int32 → Int32 → Int64 → Int32 → Int32 → ZT_9 → Option (Int32 × ZT_9) := lp_ (fun _ _ _ _ _ _ => none) (rr_X9_film_71_b fu) n
def rr_X9_film (fu : Nat) (x1 : Int32) (x2 : Int32) (x3 : Int32) (x4 : Int32) (s1 : ZT_9) : Option (Int32 × ZT_9) := (rr_X9_isHolder fu x1).bind (fun q1 => (if q1 = (0 : Int32) then some ((-1 : Int32), s1) else (rr_X9_isSheet fu x2).bind (fun q3 => (if q3 = (0 : Int32) then some ((-1 : Int32), s1) else (rr_X9_isLane fu x3).bind (fun q5 => (if q5 = (0 : Int32) then some ((-1 : Int32), s1) else (rr_X9_layOut fu s1).bind (fun q7 => ck_ x1 8 (lt_ (α := Int64) (q7.2.2.2.2.2.2.1.1 x1.toNatClampNeg) (fun z9 => (rr_J13_bitCount_95d88 fu z9).bind (fun q11 => (rr_X5_refusal fu x2 x3 x4 q11 q7.2.2.2.2.2.2.2.2.2.2.2.2.2).bind (fun q13 => (if q13 = (0 : Int32) then rr_X9_film_71 fu fu x2 x4 z9 q11 (0 : Int32) q7 else some (q13, q7)))))))))))))
set_option maxHeartbeats 4000000 in
set_option maxRecDepth 100000 in
theorem cc_X9_film (l : Launch) (dC : Nat → ClassId) (dI : Nat → Nat → Nat) (fu : Nat) (a1 : Nat → Nat) (k1 : Nat → ClassId) (sz : Nat) (x1 : Int32) (x2 : Int32) (x3 : Int32) (x4 : Int32) (s1 : ZT_9) (res : Int32 × ZT_9) (hR : rr_X9_film fu x1 x2 x3 x4 s1 = some res) : Met l yX9_film wsX9_film ({ frames := 5, cells := 0, slots := 0, locals := 112 } : Room) (PcF [.ref (a1 0), .int x1, .int x2, .int x3, .int x4] sz (dC, dI) (zc_9 a1 k1 s1) (zt_9 k1)) (va_Qi (fun (r : Int32) (u : ZT_9) => res = (r, u)) (fun u t => at3_ (dC, dI) (zc_9 a1 k1 u) (zt_9 k1) (va_A (zc_9 a1 k1 s1) sz) t) (va_A (zc_9 a1 k1 s1) sz)) 0 0 (va_A (zc_9 a1 k1 s1) sz) := by
  refine Met.ofW (cc := cX9_film) (maxL := 11) (ret := (some .int)) (by decide) rfl ?_
  intro p e s m args below meth c s₁ B hml hv
  obtain ⟨hav, hsz, hP, hK, hD0⟩ := hv
  have hx := B.exec
  have hb := B.bytes
  have hr := B.returns
  have hts := atoms_spec (ws := wsX9_film) B.pre
  have hown : s.vm.findClass RX9 = some m.cls := findClass_of_methodNamed B.named
  have hlocks := B.notSynchronized
  have hin1 : ∀ w ∈ wsX10, w ∈ wsX9_film := fun w h => List.mem_cons_of_mem _ (List.mem_append_left _ (List.mem_append_left _ (List.mem_append_left _ (List.mem_append_left _ (List.mem_append_right _ h)))))
  have hin4 : ∀ w ∈ wsX40, w ∈ wsX9_film := fun w h => List.mem_cons_of_mem _ (List.mem_append_left _ (List.mem_append_left _ (List.mem_append_left _ (List.mem_append_right _ h))))
  have hin9 : ∀ w ∈ wsX90, w ∈ wsX9_film := fun w h => List.mem_cons_of_mem _ (List.mem_append_left _ (List.mem_append_left _ (List.mem_append_left _ (List.mem_append_left _ (List.mem_append_left _ (List.mem_append_right _ h))))))
  subst hsz
  have hD := hD0.self (sz := s.heap.size)
  clear hD0
  generalize hAe : va_A (zc_9 a1 k1 s1) s.heap.size = A at hD ⊢
  have hA : ∀ q : Nat, s.heap.size ≤ q → A q := fun q h => by rw [← hAe]; exact Or.inr h
  have hS : va_S A s.heap s.heap [] := va_S.rf
  generalize hQe : MQ below _ args s 0 0 A = Q
  rw [show entryFrame m args 11 = F0 m 0 ((lg_sl ([.ref (a1 0), .int x1, .int x2, .int x3, .int x4]) ++ List.replicate (11 - (lg_sl ([.ref (a1 0), .int x1, .int x2, .int x3, .int x4])).length) Slot.unset).toArray) [] from by rw [hav]; exact lg_entry_eq m _ _]
  have hl := lv_entry ([.ref (a1 0), .int x1, .int x2, .int x3, .int x4]) (n := 11) (Nat.le_of_ble_eq_true rfl)
  generalize (lg_sl ([.ref (a1 0), .int x1, .int x2, .int x3, .int x4]) ++ List.replicate (11 - (lg_sl ([.ref (a1 0), .int x1, .int x2, .int x3, .int x4])).length) Slot.unset).toArray = ls at hl ⊢
  have hl : lv_has ls 11 [(0, .ref (a1 0)), (1, .int x1), (2, .int x2), (3, .int x3), (4, .int x4)] := hl
  have hB71 : ∀ (n : Nat), ∀ (y2 : Int32) (y4 : Int32) (y5 : Int64) (y7 : Int32) (y9 : Int32) (u1 : ZT_9) (H : Heap) (locs : List Loc) (ls : Array Slot), va_P (dC, dI) vwCl (zc_9 a1 k1 u1) H → va_D A (zc_9 a1 k1 u1) → va_S A s.heap H locs → lv_has ls 11 [(0, .ref (a1 0)), (2, .int y2), (4, .int y4), (5, .long y5), (7, .int y7), (9, .int y9)] → rr_X9_film_71 fu n y2 y4 y5 y7 y9 u1 = some res → W p l e ({ frames := 5, cells := 0, slots := 0, locals := 112 } : Room) s m args below meth c H locs 0 0 Q (F0 m 71 ls []) := by
    intro  n
    induction n with
    | zero => intro y2 y4 y5 y7 y9 u1 H locs ls hP hD hS hl hR; exact absurd hR (by intro h; cases h)
    | succ n ih =>
      intro y2 y4 y5 y7 y9 u1 H locs ls hP hD hS hl hR
      replace hR : rr_X9_film_71_b fu (rr_X9_film_71 fu n) y2 y4 y5 y7 y9 u1 = some res := hR
      unfold rr_X9_film_71_b at hR
      refine lv_iload hx hb dX9_film_71 (lv_at hl 5 rfl) ?_
      refine lv_iload hx hb dX9_film_73 (lv_at hl 4 rfl) ?_
      refine lv_icmp_ge (tgt := 128) hx hb dX9_film_75 (by decide) (fun c17 => ?_) (fun c17 => ?_)
      · replace hR := ifp_ hR c17
        refine lv_iload hx hb dX9_film_128 (lv_at hl 4 rfl) ?_
        subst hQe
        exact W.iret (v := y7) hx hb hr (fun t ht hW => ⟨⟨y7, u1, rfl, (Option.some.inj hR).symm, by rw [ht]; exact hP, va_K.moved hW.alike hK, hD⟩, hS.F ht⟩) hS.2.2 dX9_film_130
      · replace hR := ifn_ hR c17
        refine lv_aload_n hx hb dX9_film_78 rfl (lv_at hl 0 rfl) ?_
        refine va_get (D := (dC, dI)) (ci := 9) (v := .ref (a1 31)) (C := RX9) (T := TX9) (N := 14) hx hb hts hin9 hown hK hP 0 rfl rfl 3 (by decide) (hts (.fieldLink RX9 22 "OldestCoins" "ranks" "LOldestCoins$Ranks;") (List.mem_of_getElem? (i := 4) rfl)) (fun _ h9 => h9) rfl dX9_film_79 ?_
        refine lv_lload hx hb dX9_film_82 (lv_at hl 3 rfl) ?_
        have hR0 := ob_ok hR
        clear hR
        obtain ⟨q18, hq18, hR⟩ := hR0
        refine va_calli (va_runV (As := [.long y5]) (rest := []) ⟨hx, hb, hml, hown, hts⟩ (cc_X4_nextPaid l dC dI fu (sh_ a1 31) (sh_ k1 31) H.size y5 u1.2.2.2.1 q18 hq18) (cwV 1 hts gX9_film_X4_nextPaid rfl rfl rfl (by decide +kernel) ⟨Nat.le_of_ble_eq_true rfl, Nat.le_of_ble_eq_true rfl⟩) (pf_v (hK.sub (tys' := zt_4 (sh_ k1 31)) [22, 23, 24, 25, 26] rfl) (sub_P (sb_9__0c31 a1 k1 u1) hP) (sub_D (sb_9__0c31 a1 k1 u1) rfl hD) 4 0 rfl rfl rfl) rfl rfl hl.1 rfl (lv_room (Nat.le_of_ble_eq_true rfl)) dX9_film_84 ⟨Nat.le_refl _, Nat.le_refl _⟩) hS (fun q _ h => (sub_F (sb_9__0c31 a1 k1 u1) hD hS hA) q h) (sub_F (sb_9__0c31 a1 k1 u1) hD hS hA) (fun r18 v18 t18 H18 locs18 ht18 hvm18 hw18 hB18 hz18 hk18 hS18 => ?_)
        subst hw18
        obtain ⟨hP18, hD18⟩ := jn_sub (sb_9__0c31 a1 k1 u1) (jo_9__0c31__ a1 k1 u1 ) rfl hP hD hS hA hk18 ht18 hB18
        have hP18 : va_P (dC, dI) vwCl (zc_9 a1 k1 u1) H18 := hP18
        have hD18 : va_D A (zc_9 a1 k1 u1) := hD18
        clear hP hD hS hB18 hk18 hvm18 hz18 ht18
        refine lv_istore (lv' := [(10, .int q18), (0, .ref (a1 0)), (2, .int y2), (4, .int y4), (5, .long y5), (7, .int y7), (9, .int y9)]) hx hb dX9_film_87 hl (by decide) rfl (fun ls19 hl19 => ?_)
        refine lv_lload hx hb dX9_film_89 (lv_at hl19 4 rfl) ?_
        refine lv_lconst (v := (1 : Int64)) hx hb dX9_film_91 (by decide) ?_
        refine lv_iload hx hb dX9_film_92 (lv_at hl19 0 rfl) ?_
        refine lv_lshl (v := ((1 : Int64) <<< (q18.toInt64 &&& 63))) hx hb dX9_film_94 rfl ?_
        refine lv_lxor hx hb dX9_film_95 ?_
        refine lv_topl (fun z20 ez20 => ?_)
        replace hR := lt_ok hR ez20
        refine lv_lstore (lv' := [(5, .long z20), (10, .int q18), (0, .ref (a1 0)), (2, .int y2), (4, .int y4), (7, .int y7), (9, .int y9)]) hx hb dX9_film_96 hl19 (by decide) rfl (fun ls21 hl21 => ?_)
        refine lv_aload_n hx hb dX9_film_98 rfl (lv_at hl21 2 rfl) ?_
        refine va_get (D := (dC, dI)) (ci := 9) (v := .ref (a1 66)) (C := RX9) (T := TX9) (N := 14) hx hb hts hin9 hown hK hP18 0 rfl rfl 13 (by decide) (hts (.fieldLink RX9 83 "OldestCoins" "sheets" "LOldestCoins$Sheets;") (List.mem_of_getElem? (i := 3) rfl)) (fun _ h9 => h9) rfl dX9_film_99 ?_
        refine lv_iload_n hx hb dX9_film_102 rfl (lv_at hl21 3 rfl) ?_
        refine lv_iload hx hb dX9_film_103 (lv_at hl21 4 rfl) ?_
        refine lv_iload hx hb dX9_film_105 (lv_at hl21 6 rfl) ?_
        refine lv_iadd hx hb dX9_film_107 ?_
        refine lv_aload_n hx hb dX9_film_108 rfl (lv_at hl21 2 rfl) ?_
        refine va_get (D := (dC, dI)) (ci := 9) (v := .ref (a1 31)) (C := RX9) (T := TX9) (N := 14) hx hb hts hin9 hown hK hP18 0 rfl rfl 3 (by decide) (hts (.fieldLink RX9 22 "OldestCoins" "ranks" "LOldestCoins$Ranks;") (List.mem_of_getElem? (i := 4) rfl)) (fun _ h9 => h9) rfl dX9_film_109 ?_
        refine va_get (D := (dC, dI)) (ci := 4) (v := .ref (a1 32)) (C := RX4) (T := TX4) (N := 6) hx hb hts hin4 hown hK hP18 31 rfl rfl 1 (by decide) (hts (.fieldLink RX9 151 "OldestCoins$Ranks" "coinAt" "[I") (List.mem_of_getElem? (i := 5) rfl)) (fun _ h9 => h9) rfl dX9_film_112 ?_
        refine lv_iload hx hb dX9_film_115 (lv_at hl21 1 rfl) ?_
        have i22 := (ck_ok hR).1
        replace hR := (ck_ok hR).2
        refine va_iald (f := u1.2.2.2.1.2.1) hx hb hK hP18 32 22 rfl rfl i22 dX9_film_117 ?_
        refine lv_i2l (v := (u1.2.2.2.1.2.1 q18.toNatClampNeg).toInt64) hx hb dX9_film_118 rfl ?_
        have hR0 := ob_ok hR
        clear hR
        obtain ⟨q23, hq23, hR⟩ := hR0
        refine va_callv (va_runV (As := [.int y2, .int (y4 + y9), .long (u1.2.2.2.1.2.1 q18.toNatClampNeg).toInt64]) (rest := []) ⟨hx, hb, hml, hown, hts⟩ (cc_X5_write l dC dI fu (sh_ a1 66) (sh_ k1 66) H18.size y2 (y4 + y9) (u1.2.2.2.1.2.1 q18.toNatClampNeg).toInt64 u1.2.2.2.2.2.2.2.2.2.2.2.2.2 q23 hq23) (cwV 3 hts gX9_film_X5_write rfl rfl rfl (by decide +kernel) ⟨Nat.le_of_ble_eq_true rfl, Nat.le_of_ble_eq_true rfl⟩) (pf_v (hK.sub (tys' := zt_5 (sh_ k1 66)) [48, 49, 50] rfl) (sub_P (sb_9__0c66 a1 k1 u1) hP18) (sub_D (sb_9__0c66 a1 k1 u1) rfl hD18) 5 0 rfl rfl rfl) rfl rfl hl21.1 rfl (lv_room (Nat.le_of_ble_eq_true rfl)) dX9_film_119 ⟨Nat.le_refl _, Nat.le_refl _⟩) hS18 (fun q _ h => (sub_F (sb_9__0c66 a1 k1 u1) hD18 hS18 hA) q h) (sub_F (sb_9__0c66 a1 k1 u1) hD18 hS18 hA) (fun v23 t23 H23 locs23 ht23 hvm23 hw23 hB23 hz23 hk23 hS23 => ?_)
        subst hw23
        obtain ⟨hP23, hD23⟩ := jn_sub (sb_9__0c66 a1 k1 u1) (jo_9__0c66__0 a1 k1 u1 q23) rfl hP18 hD18 hS18 hA hk23 ht23 hB23
        have hP23 : va_P (dC, dI) vwCl (zc_9 a1 k1 (u1.1, u1.2.1, u1.2.2.1, u1.2.2.2.1, u1.2.2.2.2.1, u1.2.2.2.2.2.1, u1.2.2.2.2.2.2.1, u1.2.2.2.2.2.2.2.1, u1.2.2.2.2.2.2.2.2.1, u1.2.2.2.2.2.2.2.2.2.1, u1.2.2.2.2.2.2.2.2.2.2.1, u1.2.2.2.2.2.2.2.2.2.2.2.1, u1.2.2.2.2.2.2.2.2.2.2.2.2.1, q23)) H23 := hP23
        have hD23 : va_D A (zc_9 a1 k1 (u1.1, u1.2.1, u1.2.2.1, u1.2.2.2.1, u1.2.2.2.2.1, u1.2.2.2.2.2.1, u1.2.2.2.2.2.2.1, u1.2.2.2.2.2.2.2.1, u1.2.2.2.2.2.2.2.2.1, u1.2.2.2.2.2.2.2.2.2.1, u1.2.2.2.2.2.2.2.2.2.2.1, u1.2.2.2.2.2.2.2.2.2.2.2.1, u1.2.2.2.2.2.2.2.2.2.2.2.2.1, q23)) := hD23
        clear hP18 hD18 hS18 hB23 hk23 hvm23 hz23 ht23
        obtain ⟨z24, ez24⟩ : ∃ y : Int32, y = (y9 + (1 : Int32)) := ⟨_, rfl⟩
        replace hR := lt_ok hR ez24
        refine lv_iinc (v := z24) (lv' := [(9, .int z24), (5, .long z20), (10, .int q18), (0, .ref (a1 0)), (2, .int y2), (4, .int y4), (7, .int y7)]) hx hb dX9_film_122 hl21 (k := 6) rfl (by rw [ez24]; rfl) (by decide) rfl (fun ls24 hl24 => ?_)
        refine lv_goto (tgt := 71) hx hb dX9_film_125 (by decide) ?_
        exact ih y2 y4 z20 y7 z24 (u1.1, u1.2.1, u1.2.2.1, u1.2.2.2.1, u1.2.2.2.2.1, u1.2.2.2.2.2.1, u1.2.2.2.2.2.2.1, u1.2.2.2.2.2.2.2.1, u1.2.2.2.2.2.2.2.2.1, u1.2.2.2.2.2.2.2.2.2.1, u1.2.2.2.2.2.2.2.2.2.2.1, u1.2.2.2.2.2.2.2.2.2.2.2.1, u1.2.2.2.2.2.2.2.2.2.2.2.2.1, q23) H23 locs23 ls24 hP23 hD23 hS23 (lv_sub hl24 [3, 4, 5, 1, 6, 0] rfl) hR
  unfold rr_X9_film at hR
  refine lv_iload_n hx hb dX9_film_0 rfl (lv_at hl 1 rfl) ?_
  have hR0 := ob_ok hR
  clear hR
  obtain ⟨q1, hq1, hR⟩ := hR0
  refine va_calli (va_runS (As := [.int x1]) (rest := []) ⟨hx, hb, hml, hown, hts⟩ (cc_X9_isHolder l dC dI fu s.heap.size x1 q1 hq1) (va_cwS 1 hts gX9_film_X9_isHolder rfl rfl rfl (by decide +kernel) ⟨Nat.le_of_ble_eq_true rfl, Nat.le_of_ble_eq_true rfl⟩) (pf_s (nil_K hK) nil_P (nil_D (A := A))) rfl rfl hl.1 rfl (lv_room (Nat.le_of_ble_eq_true rfl)) dX9_film_1 ⟨Nat.le_refl _, Nat.le_refl _⟩) hS (fun q _ h => (fr_none hS hA) q h) (fr_none hS hA) (fun r1 v1 t1 H1 locs1 ht1 hvm1 hw1 hB1 hz1 hk1 hS1 => ?_)
  subst hw1
  have hP1 := jn_none hP hk1
  have hD1 := hD
  have hP1 : va_P (dC, dI) vwCl (zc_9 a1 k1 s1) H1 := hP1
  have hD1 : va_D A (zc_9 a1 k1 s1) := hD1
  clear hP hD hS hB1 hk1 hvm1 hz1 ht1
  refine lv_if_eq (tgt := 21) hx hb dX9_film_4 (by decide) (fun c2 => ?_) (fun c2 => ?_)
  · replace hR := ifp_ hR c2
    refine lv_iconst (v := (-1 : Int32)) hx hb dX9_film_21 (by decide) ?_
    subst hQe
    exact W.iret (v := (-1 : Int32)) hx hb hr (fun t ht hW => ⟨⟨(-1 : Int32), s1, rfl, (Option.some.inj hR).symm, by rw [ht]; exact hP1, va_K.moved hW.alike hK, hD1⟩, hS1.F ht⟩) hS1.2.2 dX9_film_22
  · replace hR := ifn_ hR c2
    refine lv_iload_n hx hb dX9_film_7 rfl (lv_at hl 2 rfl) ?_
    have hR0 := ob_ok hR
    clear hR
    obtain ⟨q3, hq3, hR⟩ := hR0
    refine va_calli (va_runS (As := [.int x2]) (rest := []) ⟨hx, hb, hml, hown, hts⟩ (cc_X9_isSheet l dC dI fu H1.size x2 q3 hq3) (va_cwS 1 hts gX9_film_X9_isSheet rfl rfl rfl (by decide +kernel) ⟨Nat.le_of_ble_eq_true rfl, Nat.le_of_ble_eq_true rfl⟩) (pf_s (nil_K hK) nil_P (nil_D (A := A))) rfl rfl hl.1 rfl (lv_room (Nat.le_of_ble_eq_true rfl)) dX9_film_8 ⟨Nat.le_refl _, Nat.le_refl _⟩) hS1 (fun q _ h => (fr_none hS1 hA) q h) (fr_none hS1 hA) (fun r3 v3 t3 H3 locs3 ht3 hvm3 hw3 hB3 hz3 hk3 hS3 => ?_)
    subst hw3
    have hP3 := jn_none hP1 hk3
    have hD3 := hD1
    have hP3 : va_P (dC, dI) vwCl (zc_9 a1 k1 s1) H3 := hP3
    have hD3 : va_D A (zc_9 a1 k1 s1) := hD3
    clear hP1 hD1 hS1 hB3 hk3 hvm3 hz3 ht3
    refine lv_if_eq (tgt := 21) hx hb dX9_film_11 (by decide) (fun c4 => ?_) (fun c4 => ?_)
    · replace hR := ifp_ hR c4
      refine lv_iconst (v := (-1 : Int32)) hx hb dX9_film_21 (by decide) ?_
      subst hQe
      exact W.iret (v := (-1 : Int32)) hx hb hr (fun t ht hW => ⟨⟨(-1 : Int32), s1, rfl, (Option.some.inj hR).symm, by rw [ht]; exact hP3, va_K.moved hW.alike hK, hD3⟩, hS3.F ht⟩) hS3.2.2 dX9_film_22
    · replace hR := ifn_ hR c4
      refine lv_iload_n hx hb dX9_film_14 rfl (lv_at hl 3 rfl) ?_
      have hR0 := ob_ok hR
      clear hR
      obtain ⟨q5, hq5, hR⟩ := hR0
      refine va_calli (va_runS (As := [.int x3]) (rest := []) ⟨hx, hb, hml, hown, hts⟩ (cc_X9_isLane l dC dI fu H3.size x3 q5 hq5) (va_cwS 1 hts gX9_film_X9_isLane rfl rfl rfl (by decide +kernel) ⟨Nat.le_of_ble_eq_true rfl, Nat.le_of_ble_eq_true rfl⟩) (pf_s (nil_K hK) nil_P (nil_D (A := A))) rfl rfl hl.1 rfl (lv_room (Nat.le_of_ble_eq_true rfl)) dX9_film_15 ⟨Nat.le_refl _, Nat.le_refl _⟩) hS3 (fun q _ h => (fr_none hS3 hA) q h) (fr_none hS3 hA) (fun r5 v5 t5 H5 locs5 ht5 hvm5 hw5 hB5 hz5 hk5 hS5 => ?_)
      subst hw5
      have hP5 := jn_none hP3 hk5
      have hD5 := hD3
      have hP5 : va_P (dC, dI) vwCl (zc_9 a1 k1 s1) H5 := hP5
      have hD5 : va_D A (zc_9 a1 k1 s1) := hD5
      clear hP3 hD3 hS3 hB5 hk5 hvm5 hz5 ht5
      refine lv_if_ne (tgt := 23) hx hb dX9_film_18 (by decide) (fun c6 => ?_) (fun c6 => ?_)
      · replace hR := ifn_ hR c6
        refine lv_aload_n hx hb dX9_film_23 rfl (lv_at hl 0 rfl) ?_
        have hR0 := ob_ok hR
        clear hR
        obtain ⟨q7, hq7, hR⟩ := hR0
        refine va_callv (va_runV (As := []) (rest := []) ⟨hx, hb, hml, hown, hts⟩ (cc_X9_layOut l dC dI fu a1 k1 H5.size s1 q7 hq7) (cwV 0 hts gX9_film_X9_layOut rfl rfl rfl (by decide +kernel) ⟨Nat.le_of_ble_eq_true rfl, Nat.le_of_ble_eq_true rfl⟩) (pf_v hK hP5 hD5 9 0 rfl rfl rfl) rfl rfl hl.1 rfl (lv_room (Nat.le_of_ble_eq_true rfl)) dX9_film_24 ⟨Nat.le_refl _, Nat.le_refl _⟩) hS5 (fun q _ h => (fr_all hD5 hS5 hA) q h) (fr_all hD5 hS5 hA) (fun v7 t7 H7 locs7 ht7 hvm7 hw7 hB7 hz7 hk7 hS7 => ?_)
        subst hw7
        obtain ⟨hP7, hD7⟩ := jn_all hD5 hS5 hA ht7 hB7
        have hP7 : va_P (dC, dI) vwCl (zc_9 a1 k1 q7) H7 := hP7
        have hD7 : va_D A (zc_9 a1 k1 q7) := hD7
        clear hP5 hD5 hS5 hB7 hk7 hvm7 hz7 ht7
        refine lv_aload_n hx hb dX9_film_27 rfl (lv_at hl 0 rfl) ?_
        refine va_get (D := (dC, dI)) (ci := 9) (v := .ref (a1 43)) (C := RX9) (T := TX9) (N := 14) hx hb hts hin9 hown hK hP7 0 rfl rfl 6 (by decide) (hts (.fieldLink RX9 36 "OldestCoins" "board" "LOldestCoins$Board;") (List.mem_of_getElem? (i := 1) rfl)) (fun _ h9 => h9) rfl dX9_film_28 ?_
        refine va_get (D := (dC, dI)) (ci := 1) (v := .ref (a1 44)) (C := RX1) (T := TX1) (N := 5) hx hb hts hin1 hown hK hP7 43 rfl rfl 0 (by decide) (hts (.fieldLink RX9 138 "OldestCoins$Board" "had" "[J") (List.mem_of_getElem? (i := 2) rfl)) (fun _ h9 => h9) rfl dX9_film_31 ?_
        refine lv_iload_n hx hb dX9_film_34 rfl (lv_at hl 1 rfl) ?_
        have i8 := (ck_ok hR).1
        replace hR := (ck_ok hR).2
        refine va_lald (f := q7.2.2.2.2.2.2.1.1) hx hb hK hP7 44 32 rfl rfl i8 dX9_film_35 ?_
        refine lv_topl (fun z9 ez9 => ?_)
        replace hR := lt_ok hR ez9
        refine lv_lstore (lv' := [(5, .long z9), (0, .ref (a1 0)), (1, .int x1), (2, .int x2), (3, .int x3), (4, .int x4)]) hx hb dX9_film_36 hl (by decide) rfl (fun ls10 hl10 => ?_)
        refine lv_lload hx hb dX9_film_38 (lv_at hl10 0 rfl) ?_
        have hR0 := ob_ok hR
        clear hR
        obtain ⟨q11, hq11, hR⟩ := hR0
        refine va_calli (va_runS (As := [.long z9]) (rest := []) ⟨hx, hb, hml, hown, hts⟩ (cc_J13_bitCount_95d88 l dC dI fu H7.size z9 q11 hq11) (va_cwS 1 hts gX9_film_J13_bitCount_95d88 rfl rfl rfl (by decide +kernel) ⟨Nat.le_of_ble_eq_true rfl, Nat.le_of_ble_eq_true rfl⟩) (pf_s (nil_K hK) nil_P (nil_D (A := A))) rfl rfl hl10.1 rfl (lv_room (Nat.le_of_ble_eq_true rfl)) dX9_film_40 ⟨Nat.le_refl _, Nat.le_refl _⟩) hS7 (fun q _ h => (fr_none hS7 hA) q h) (fr_none hS7 hA) (fun r11 v11 t11 H11 locs11 ht11 hvm11 hw11 hB11 hz11 hk11 hS11 => ?_)
        subst hw11
        have hP11 := jn_none hP7 hk11
        have hD11 := hD7
        have hP11 : va_P (dC, dI) vwCl (zc_9 a1 k1 q7) H11 := hP11
        have hD11 : va_D A (zc_9 a1 k1 q7) := hD11
        clear hP7 hD7 hS7 hB11 hk11 hvm11 hz11 ht11
        refine lv_istore (lv' := [(7, .int q11), (5, .long z9), (0, .ref (a1 0)), (1, .int x1), (2, .int x2), (3, .int x3), (4, .int x4)]) hx hb dX9_film_43 hl10 (by decide) rfl (fun ls12 hl12 => ?_)
        refine lv_aload_n hx hb dX9_film_45 rfl (lv_at hl12 2 rfl) ?_
        refine va_get (D := (dC, dI)) (ci := 9) (v := .ref (a1 66)) (C := RX9) (T := TX9) (N := 14) hx hb hts hin9 hown hK hP11 0 rfl rfl 13 (by decide) (hts (.fieldLink RX9 83 "OldestCoins" "sheets" "LOldestCoins$Sheets;") (List.mem_of_getElem? (i := 3) rfl)) (fun _ h9 => h9) rfl dX9_film_46 ?_
        refine lv_iload_n hx hb dX9_film_49 rfl (lv_at hl12 4 rfl) ?_
        refine lv_iload_n hx hb dX9_film_50 rfl (lv_at hl12 5 rfl) ?_
        refine lv_iload hx hb dX9_film_51 (lv_at hl12 6 rfl) ?_
        refine lv_iload hx hb dX9_film_53 (lv_at hl12 0 rfl) ?_
        have hR0 := ob_ok hR
        clear hR
        obtain ⟨q13, hq13, hR⟩ := hR0
        refine va_calli (va_runV (As := [.int x2, .int x3, .int x4, .int q11]) (rest := []) ⟨hx, hb, hml, hown, hts⟩ (cc_X5_refusal l dC dI fu (sh_ a1 66) (sh_ k1 66) H11.size x2 x3 x4 q11 q7.2.2.2.2.2.2.2.2.2.2.2.2.2 q13 hq13) (cwV 4 hts gX9_film_X5_refusal rfl rfl rfl (by decide +kernel) ⟨Nat.le_of_ble_eq_true rfl, Nat.le_of_ble_eq_true rfl⟩) (pf_v (hK.sub (tys' := zt_5 (sh_ k1 66)) [48, 49, 50] rfl) (sub_P (sb_9__0c66 a1 k1 q7) hP11) (sub_D (sb_9__0c66 a1 k1 q7) rfl hD11) 5 0 rfl rfl rfl) rfl rfl hl12.1 rfl (lv_room (Nat.le_of_ble_eq_true rfl)) dX9_film_55 ⟨Nat.le_refl _, Nat.le_refl _⟩) hS11 (fun q _ h => (sub_F (sb_9__0c66 a1 k1 q7) hD11 hS11 hA) q h) (sub_F (sb_9__0c66 a1 k1 q7) hD11 hS11 hA) (fun r13 v13 t13 H13 locs13 ht13 hvm13 hw13 hB13 hz13 hk13 hS13 => ?_)
        subst hw13
        obtain ⟨hP13, hD13⟩ := jn_sub (sb_9__0c66 a1 k1 q7) (jo_9__0c66__ a1 k1 q7 ) rfl hP11 hD11 hS11 hA hk13 ht13 hB13
        have hP13 : va_P (dC, dI) vwCl (zc_9 a1 k1 q7) H13 := hP13
        have hD13 : va_D A (zc_9 a1 k1 q7) := hD13
        clear hP11 hD11 hS11 hB13 hk13 hvm13 hz13 ht13
        refine lv_istore (lv' := [(8, .int q13), (7, .int q11), (5, .long z9), (0, .ref (a1 0)), (1, .int x1), (2, .int x2), (3, .int x3), (4, .int x4)]) hx hb dX9_film_58 hl12 (by decide) rfl (fun ls14 hl14 => ?_)
        refine lv_iload hx hb dX9_film_60 (lv_at hl14 0 rfl) ?_
        refine lv_if_eq (tgt := 68) hx hb dX9_film_62 (by decide) (fun c15 => ?_) (fun c15 => ?_)
        · replace hR := ifp_ hR c15
          refine lv_iconst (v := (0 : Int32)) hx hb dX9_film_68 (by decide) ?_
          refine lv_istore (lv' := [(9, .int (0 : Int32)), (8, .int q13), (7, .int q11), (5, .long z9), (0, .ref (a1 0)), (1, .int x1), (2, .int x2), (3, .int x3), (4, .int x4)]) hx hb dX9_film_69 hl14 (by decide) rfl (fun ls16 hl16 => ?_)
          exact hB71 fu x2 x4 z9 q11 (0 : Int32) q7 H13 locs13 ls16 hP13 hD13 hS13 (lv_sub hl16 [4, 6, 8, 3, 2, 0] rfl) hR
        · replace hR := ifn_ hR c15
          refine lv_iload hx hb dX9_film_65 (lv_at hl14 0 rfl) ?_
          subst hQe
          exact W.iret (v := q13) hx hb hr (fun t ht hW => ⟨⟨q13, q7, rfl, (Option.some.inj hR).symm, by rw [ht]; exact hP13, va_K.moved hW.alike hK, hD13⟩, hS13.F ht⟩) hS13.2.2 dX9_film_67
      · replace hR := ifp_ hR c6
        refine lv_iconst (v := (-1 : Int32)) hx hb dX9_film_21 (by decide) ?_
        subst hQe
        exact W.iret (v := (-1 : Int32)) hx hb hr (fun t ht hW => ⟨⟨(-1 : Int32), s1, rfl, (Option.some.inj hR).symm, by rw [ht]; exact hP5, va_K.moved hW.alike hK, hD5⟩, hS5.F ht⟩) hS5.2.2 dX9_film_22
def rr_X9_item (fu : Nat) (x1 : Int32) (x2 : Int32) (x3 : Int32) (x4 : Int64) (s1 : ZT_9) : Option (Int32 × ZT_9) := (rr_X9_isSheet fu x1).bind (fun q1 => (if q1 = (0 : Int32) then some ((-1 : Int32), s1) else (rr_X9_isLane fu x2).bind (fun q3 => (if q3 = (0 : Int32) then some ((-1 : Int32), s1) else (rr_X5_refusal fu x1 x2 x3 (1 : Int32) s1.2.2.2.2.2.2.2.2.2.2.2.2.2).bind (fun q5 => (if q5 = (0 : Int32) then (rr_X5_write fu x1 x3 x4 s1.2.2.2.2.2.2.2.2.2.2.2.2.2).bind (fun q8 => some ((1 : Int32), (s1.1, s1.2.1, s1.2.2.1, s1.2.2.2.1, s1.2.2.2.2.1, s1.2.2.2.2.2.1, s1.2.2.2.2.2.2.1, s1.2.2.2.2.2.2.2.1, s1.2.2.2.2.2.2.2.2.1, s1.2.2.2.2.2.2.2.2.2.1, s1.2.2.2.2.2.2.2.2.2.2.1, s1.2.2.2.2.2.2.2.2.2.2.2.1, s1.2.2.2.2.2.2.2.2.2.2.2.2.1, q8))) else some (q5, s1)))))))
set_option maxHeartbeats 4000000 in
set_option maxRecDepth 100000 in
theorem cc_X9_item (l : Launch) (dC : Nat → ClassId) (dI : Nat → Nat → Nat) (fu : Nat) (a1 : Nat → Nat) (k1 : Nat → ClassId) (sz : Nat) (x1 : Int32) (x2 : Int32) (x3 : Int32) (x4 : Int64) (s1 : ZT_9) (res : Int32 × ZT_9) (hR : rr_X9_item fu x1 x2 x3 x4 s1 = some res) : Met l yX9_item wsX9_item ({ frames := 2, cells := 0, slots := 0, locals := 42 } : Room) (PcF [.ref (a1 0), .int x1, .int x2, .int x3, .long x4] sz (dC, dI) (zc_9 a1 k1 s1) (zt_9 k1)) (va_Qi (fun (r : Int32) (u : ZT_9) => res = (r, u)) (fun u t => at3_ (dC, dI) (zc_9 a1 k1 u) (zt_9 k1) (va_A (zc_9 a1 k1 s1) sz) t) (va_A (zc_9 a1 k1 s1) sz)) 0 0 (va_A (zc_9 a1 k1 s1) sz) := by
  refine Met.ofW (cc := cX9_item) (maxL := 7) (ret := (some .int)) (by decide) rfl ?_
  intro p e s m args below meth c s₁ B hml hv
  obtain ⟨hav, hsz, hP, hK, hD0⟩ := hv
  have hx := B.exec
  have hb := B.bytes
  have hr := B.returns
  have hts := atoms_spec (ws := wsX9_item) B.pre
  have hown : s.vm.findClass RX9 = some m.cls := findClass_of_methodNamed B.named
  have hlocks := B.notSynchronized
  have hin9 : ∀ w ∈ wsX90, w ∈ wsX9_item := fun w h => List.mem_cons_of_mem _ (List.mem_append_left _ (List.mem_append_right _ h))
  subst hsz
  have hD := hD0.self (sz := s.heap.size)
  clear hD0
  generalize hAe : va_A (zc_9 a1 k1 s1) s.heap.size = A at hD ⊢
  have hA : ∀ q : Nat, s.heap.size ≤ q → A q := fun q h => by rw [← hAe]; exact Or.inr h
  have hS : va_S A s.heap s.heap [] := va_S.rf
  generalize hQe : MQ below _ args s 0 0 A = Q
  rw [show entryFrame m args 7 = F0 m 0 ((lg_sl ([.ref (a1 0), .int x1, .int x2, .int x3, .long x4]) ++ List.replicate (7 - (lg_sl ([.ref (a1 0), .int x1, .int x2, .int x3, .long x4])).length) Slot.unset).toArray) [] from by rw [hav]; exact lg_entry_eq m _ _]
  have hl := lv_entry ([.ref (a1 0), .int x1, .int x2, .int x3, .long x4]) (n := 7) (Nat.le_of_ble_eq_true rfl)
  generalize (lg_sl ([.ref (a1 0), .int x1, .int x2, .int x3, .long x4]) ++ List.replicate (7 - (lg_sl ([.ref (a1 0), .int x1, .int x2, .int x3, .long x4])).length) Slot.unset).toArray = ls at hl ⊢
  have hl : lv_has ls 7 [(0, .ref (a1 0)), (1, .int x1), (2, .int x2), (3, .int x3), (4, .long x4)] := hl
  unfold rr_X9_item at hR
  refine lv_iload_n hx hb dX9_item_0 rfl (lv_at hl 1 rfl) ?_
  have hR0 := ob_ok hR
  clear hR
  obtain ⟨q1, hq1, hR⟩ := hR0
  refine va_calli (va_runS (As := [.int x1]) (rest := []) ⟨hx, hb, hml, hown, hts⟩ (cc_X9_isSheet l dC dI fu s.heap.size x1 q1 hq1) (va_cwS 1 hts gX9_item_X9_isSheet rfl rfl rfl (by decide +kernel) ⟨Nat.le_of_ble_eq_true rfl, Nat.le_of_ble_eq_true rfl⟩) (pf_s (nil_K hK) nil_P (nil_D (A := A))) rfl rfl hl.1 rfl (lv_room (Nat.le_of_ble_eq_true rfl)) dX9_item_1 ⟨Nat.le_refl _, Nat.le_refl _⟩) hS (fun q _ h => (fr_none hS hA) q h) (fr_none hS hA) (fun r1 v1 t1 H1 locs1 ht1 hvm1 hw1 hB1 hz1 hk1 hS1 => ?_)
  subst hw1
  have hP1 := jn_none hP hk1
  have hD1 := hD
  have hP1 : va_P (dC, dI) vwCl (zc_9 a1 k1 s1) H1 := hP1
  have hD1 : va_D A (zc_9 a1 k1 s1) := hD1
  clear hP hD hS hB1 hk1 hvm1 hz1 ht1
  refine lv_if_eq (tgt := 14) hx hb dX9_item_4 (by decide) (fun c2 => ?_) (fun c2 => ?_)
  · replace hR := ifp_ hR c2
    refine lv_iconst (v := (-1 : Int32)) hx hb dX9_item_14 (by decide) ?_
    subst hQe
    exact W.iret (v := (-1 : Int32)) hx hb hr (fun t ht hW => ⟨⟨(-1 : Int32), s1, rfl, (Option.some.inj hR).symm, by rw [ht]; exact hP1, va_K.moved hW.alike hK, hD1⟩, hS1.F ht⟩) hS1.2.2 dX9_item_15
  · replace hR := ifn_ hR c2
    refine lv_iload_n hx hb dX9_item_7 rfl (lv_at hl 2 rfl) ?_
    have hR0 := ob_ok hR
    clear hR
    obtain ⟨q3, hq3, hR⟩ := hR0
    refine va_calli (va_runS (As := [.int x2]) (rest := []) ⟨hx, hb, hml, hown, hts⟩ (cc_X9_isLane l dC dI fu H1.size x2 q3 hq3) (va_cwS 1 hts gX9_item_X9_isLane rfl rfl rfl (by decide +kernel) ⟨Nat.le_of_ble_eq_true rfl, Nat.le_of_ble_eq_true rfl⟩) (pf_s (nil_K hK) nil_P (nil_D (A := A))) rfl rfl hl.1 rfl (lv_room (Nat.le_of_ble_eq_true rfl)) dX9_item_8 ⟨Nat.le_refl _, Nat.le_refl _⟩) hS1 (fun q _ h => (fr_none hS1 hA) q h) (fr_none hS1 hA) (fun r3 v3 t3 H3 locs3 ht3 hvm3 hw3 hB3 hz3 hk3 hS3 => ?_)
    subst hw3
    have hP3 := jn_none hP1 hk3
    have hD3 := hD1
    have hP3 : va_P (dC, dI) vwCl (zc_9 a1 k1 s1) H3 := hP3
    have hD3 : va_D A (zc_9 a1 k1 s1) := hD3
    clear hP1 hD1 hS1 hB3 hk3 hvm3 hz3 ht3
    refine lv_if_ne (tgt := 16) hx hb dX9_item_11 (by decide) (fun c4 => ?_) (fun c4 => ?_)
    · replace hR := ifn_ hR c4
      refine lv_aload_n hx hb dX9_item_16 rfl (lv_at hl 0 rfl) ?_
      refine va_get (D := (dC, dI)) (ci := 9) (v := .ref (a1 66)) (C := RX9) (T := TX9) (N := 14) hx hb hts hin9 hown hK hP3 0 rfl rfl 13 (by decide) (hts (.fieldLink RX9 83 "OldestCoins" "sheets" "LOldestCoins$Sheets;") (List.mem_of_getElem? (i := 1) rfl)) (fun _ h9 => h9) rfl dX9_item_17 ?_
      refine lv_iload_n hx hb dX9_item_20 rfl (lv_at hl 1 rfl) ?_
      refine lv_iload_n hx hb dX9_item_21 rfl (lv_at hl 2 rfl) ?_
      refine lv_iload_n hx hb dX9_item_22 rfl (lv_at hl 3 rfl) ?_
      refine lv_iconst (v := (1 : Int32)) hx hb dX9_item_23 (by decide) ?_
      have hR0 := ob_ok hR
      clear hR
      obtain ⟨q5, hq5, hR⟩ := hR0
      refine va_calli (va_runV (As := [.int x1, .int x2, .int x3, .int (1 : Int32)]) (rest := []) ⟨hx, hb, hml, hown, hts⟩ (cc_X5_refusal l dC dI fu (sh_ a1 66) (sh_ k1 66) H3.size x1 x2 x3 (1 : Int32) s1.2.2.2.2.2.2.2.2.2.2.2.2.2 q5 hq5) (cwV 4 hts gX9_item_X5_refusal rfl rfl rfl (by decide +kernel) ⟨Nat.le_of_ble_eq_true rfl, Nat.le_of_ble_eq_true rfl⟩) (pf_v (hK.sub (tys' := zt_5 (sh_ k1 66)) [48, 49, 50] rfl) (sub_P (sb_9__0c66 a1 k1 s1) hP3) (sub_D (sb_9__0c66 a1 k1 s1) rfl hD3) 5 0 rfl rfl rfl) rfl rfl hl.1 rfl (lv_room (Nat.le_of_ble_eq_true rfl)) dX9_item_24 ⟨Nat.le_refl _, Nat.le_refl _⟩) hS3 (fun q _ h => (sub_F (sb_9__0c66 a1 k1 s1) hD3 hS3 hA) q h) (sub_F (sb_9__0c66 a1 k1 s1) hD3 hS3 hA) (fun r5 v5 t5 H5 locs5 ht5 hvm5 hw5 hB5 hz5 hk5 hS5 => ?_)
      subst hw5
      obtain ⟨hP5, hD5⟩ := jn_sub (sb_9__0c66 a1 k1 s1) (jo_9__0c66__ a1 k1 s1 ) rfl hP3 hD3 hS3 hA hk5 ht5 hB5
      have hP5 : va_P (dC, dI) vwCl (zc_9 a1 k1 s1) H5 := hP5
      have hD5 : va_D A (zc_9 a1 k1 s1) := hD5
      clear hP3 hD3 hS3 hB5 hk5 hvm5 hz5 ht5
      refine lv_istore (lv' := [(6, .int q5), (0, .ref (a1 0)), (1, .int x1), (2, .int x2), (3, .int x3), (4, .long x4)]) hx hb dX9_item_27 hl (by decide) rfl (fun ls6 hl6 => ?_)
      refine lv_iload hx hb dX9_item_29 (lv_at hl6 0 rfl) ?_
      refine lv_if_eq (tgt := 37) hx hb dX9_item_31 (by decide) (fun c7 => ?_) (fun c7 => ?_)
      · replace hR := ifp_ hR c7
        refine lv_aload_n hx hb dX9_item_37 rfl (lv_at hl6 1 rfl) ?_
        refine va_get (D := (dC, dI)) (ci := 9) (v := .ref (a1 66)) (C := RX9) (T := TX9) (N := 14) hx hb hts hin9 hown hK hP5 0 rfl rfl 13 (by decide) (hts (.fieldLink RX9 83 "OldestCoins" "sheets" "LOldestCoins$Sheets;") (List.mem_of_getElem? (i := 1) rfl)) (fun _ h9 => h9) rfl dX9_item_38 ?_
        refine lv_iload_n hx hb dX9_item_41 rfl (lv_at hl6 2 rfl) ?_
        refine lv_iload_n hx hb dX9_item_42 rfl (lv_at hl6 4 rfl) ?_
        refine lv_lload hx hb dX9_item_43 (lv_at hl6 5 rfl) ?_
        have hR0 := ob_ok hR
        clear hR
        obtain ⟨q8, hq8, hR⟩ := hR0
        refine va_callv (va_runV (As := [.int x1, .int x3, .long x4]) (rest := []) ⟨hx, hb, hml, hown, hts⟩ (cc_X5_write l dC dI fu (sh_ a1 66) (sh_ k1 66) H5.size x1 x3 x4 s1.2.2.2.2.2.2.2.2.2.2.2.2.2 q8 hq8) (cwV 3 hts gX9_item_X5_write rfl rfl rfl (by decide +kernel) ⟨Nat.le_of_ble_eq_true rfl, Nat.le_of_ble_eq_true rfl⟩) (pf_v (hK.sub (tys' := zt_5 (sh_ k1 66)) [48, 49, 50] rfl) (sub_P (sb_9__0c66 a1 k1 s1) hP5) (sub_D (sb_9__0c66 a1 k1 s1) rfl hD5) 5 0 rfl rfl rfl) rfl rfl hl6.1 rfl (lv_room (Nat.le_of_ble_eq_true rfl)) dX9_item_45 ⟨Nat.le_refl _, Nat.le_refl _⟩) hS5 (fun q _ h => (sub_F (sb_9__0c66 a1 k1 s1) hD5 hS5 hA) q h) (sub_F (sb_9__0c66 a1 k1 s1) hD5 hS5 hA) (fun v8 t8 H8 locs8 ht8 hvm8 hw8 hB8 hz8 hk8 hS8 => ?_)
        subst hw8
        obtain ⟨hP8, hD8⟩ := jn_sub (sb_9__0c66 a1 k1 s1) (jo_9__0c66__0 a1 k1 s1 q8) rfl hP5 hD5 hS5 hA hk8 ht8 hB8
        have hP8 : va_P (dC, dI) vwCl (zc_9 a1 k1 (s1.1, s1.2.1, s1.2.2.1, s1.2.2.2.1, s1.2.2.2.2.1, s1.2.2.2.2.2.1, s1.2.2.2.2.2.2.1, s1.2.2.2.2.2.2.2.1, s1.2.2.2.2.2.2.2.2.1, s1.2.2.2.2.2.2.2.2.2.1, s1.2.2.2.2.2.2.2.2.2.2.1, s1.2.2.2.2.2.2.2.2.2.2.2.1, s1.2.2.2.2.2.2.2.2.2.2.2.2.1, q8)) H8 := hP8
        have hD8 : va_D A (zc_9 a1 k1 (s1.1, s1.2.1, s1.2.2.1, s1.2.2.2.1, s1.2.2.2.2.1, s1.2.2.2.2.2.1, s1.2.2.2.2.2.2.1, s1.2.2.2.2.2.2.2.1, s1.2.2.2.2.2.2.2.2.1, s1.2.2.2.2.2.2.2.2.2.1, s1.2.2.2.2.2.2.2.2.2.2.1, s1.2.2.2.2.2.2.2.2.2.2.2.1, s1.2.2.2.2.2.2.2.2.2.2.2.2.1, q8)) := hD8
        clear hP5 hD5 hS5 hB8 hk8 hvm8 hz8 ht8
        refine lv_iconst (v := (1 : Int32)) hx hb dX9_item_48 (by decide) ?_
        subst hQe
        exact W.iret (v := (1 : Int32)) hx hb hr (fun t ht hW => ⟨⟨(1 : Int32), (s1.1, s1.2.1, s1.2.2.1, s1.2.2.2.1, s1.2.2.2.2.1, s1.2.2.2.2.2.1, s1.2.2.2.2.2.2.1, s1.2.2.2.2.2.2.2.1, s1.2.2.2.2.2.2.2.2.1, s1.2.2.2.2.2.2.2.2.2.1, s1.2.2.2.2.2.2.2.2.2.2.1, s1.2.2.2.2.2.2.2.2.2.2.2.1, s1.2.2.2.2.2.2.2.2.2.2.2.2.1, q8), rfl, (Option.some.inj hR).symm, by rw [ht]; exact hP8, va_K.moved hW.alike hK, hD8⟩, hS8.F ht⟩) hS8.2.2 dX9_item_49
      · replace hR := ifn_ hR c7
        refine lv_iload hx hb dX9_item_34 (lv_at hl6 0 rfl) ?_
        subst hQe
        exact W.iret (v := q5) hx hb hr (fun t ht hW => ⟨⟨q5, s1, rfl, (Option.some.inj hR).symm, by rw [ht]; exact hP5, va_K.moved hW.alike hK, hD5⟩, hS5.F ht⟩) hS5.2.2 dX9_item_36
    · replace hR := ifp_ hR c4
      refine lv_iconst (v := (-1 : Int32)) hx hb dX9_item_14 (by decide) ?_
      subst hQe
      exact W.iret (v := (-1 : Int32)) hx hb hr (fun t ht hW => ⟨⟨(-1 : Int32), s1, rfl, (Option.some.inj hR).symm, by rw [ht]; exact hP3, va_K.moved hW.alike hK, hD3⟩, hS3.F ht⟩) hS3.2.2 dX9_item_15
def rr_X9_drop (fu : Nat) (x1 : Int32) (s1 : ZT_9) : Option (Int32 × ZT_9) := (rr_X9_isSheet fu x1).bind (fun q1 => (if q1 = (0 : Int32) then some ((-1 : Int32), s1) else ck_ x1 4 ((if (s1.2.2.2.2.2.2.2.2.2.2.2.2.2.1 x1.toNatClampNeg) = (-1 : Int32) then some ((-11 : Int32), s1) else ck_ x1 4 (ck_ x1 4 (some ((s1.2.2.2.2.2.2.2.2.2.2.2.2.2.2.1 x1.toNatClampNeg), (s1.1, s1.2.1, s1.2.2.1, s1.2.2.2.1, s1.2.2.2.2.1, s1.2.2.2.2.2.1, s1.2.2.2.2.2.2.1, s1.2.2.2.2.2.2.2.1, s1.2.2.2.2.2.2.2.2.1, s1.2.2.2.2.2.2.2.2.2.1, s1.2.2.2.2.2.2.2.2.2.2.1, s1.2.2.2.2.2.2.2.2.2.2.2.1, s1.2.2.2.2.2.2.2.2.2.2.2.2.1, ((upd s1.2.2.2.2.2.2.2.2.2.2.2.2.2.1 x1.toNatClampNeg (-1 : Int32)), s1.2.2.2.2.2.2.2.2.2.2.2.2.2.2)))))))))
set_option maxHeartbeats 4000000 in
set_option maxRecDepth 100000 in
theorem cc_X9_drop (l : Launch) (dC : Nat → ClassId) (dI : Nat → Nat → Nat) (fu : Nat) (a1 : Nat → Nat) (k1 : Nat → ClassId) (sz : Nat) (x1 : Int32) (s1 : ZT_9) (res : Int32 × ZT_9) (hR : rr_X9_drop fu x1 s1 = some res) : Met l yX9_drop wsX9_drop ({ frames := 2, cells := 0, slots := 0, locals := 42 } : Room) (PcF [.ref (a1 0), .int x1] sz (dC, dI) (zc_9 a1 k1 s1) (zt_9 k1)) (va_Qi (fun (r : Int32) (u : ZT_9) => res = (r, u)) (fun u t => at3_ (dC, dI) (zc_9 a1 k1 u) (zt_9 k1) (va_A (zc_9 a1 k1 s1) sz) t) (va_A (zc_9 a1 k1 s1) sz)) 0 0 (va_A (zc_9 a1 k1 s1) sz) := by
  refine Met.ofW (cc := cX9_drop) (maxL := 2) (ret := (some .int)) (by decide) rfl ?_
  intro p e s m args below meth c s₁ B hml hv
  obtain ⟨hav, hsz, hP, hK, hD0⟩ := hv
  have hx := B.exec
  have hb := B.bytes
  have hr := B.returns
  have hts := atoms_spec (ws := wsX9_drop) B.pre
  have hown : s.vm.findClass RX9 = some m.cls := findClass_of_methodNamed B.named
  have hlocks := B.notSynchronized
  have hin5 : ∀ w ∈ wsX50, w ∈ wsX9_drop := fun w h => List.mem_cons_of_mem _ (List.mem_append_right _ h)
  have hin9 : ∀ w ∈ wsX90, w ∈ wsX9_drop := fun w h => List.mem_cons_of_mem _ (List.mem_append_left _ (List.mem_append_right _ h))
  subst hsz
  have hD := hD0.self (sz := s.heap.size)
  clear hD0
  generalize hAe : va_A (zc_9 a1 k1 s1) s.heap.size = A at hD ⊢
  have hA : ∀ q : Nat, s.heap.size ≤ q → A q := fun q h => by rw [← hAe]; exact Or.inr h
  have hS : va_S A s.heap s.heap [] := va_S.rf
  generalize hQe : MQ below _ args s 0 0 A = Q
  rw [show entryFrame m args 2 = F0 m 0 ((lg_sl ([.ref (a1 0), .int x1]) ++ List.replicate (2 - (lg_sl ([.ref (a1 0), .int x1])).length) Slot.unset).toArray) [] from by rw [hav]; exact lg_entry_eq m _ _]
  have hl := lv_entry ([.ref (a1 0), .int x1]) (n := 2) (Nat.le_of_ble_eq_true rfl)
  generalize (lg_sl ([.ref (a1 0), .int x1]) ++ List.replicate (2 - (lg_sl ([.ref (a1 0), .int x1])).length) Slot.unset).toArray = ls at hl ⊢
  have hl : lv_has ls 2 [(0, .ref (a1 0)), (1, .int x1)] := hl
  unfold rr_X9_drop at hR
  refine lv_iload_n hx hb dX9_drop_0 rfl (lv_at hl 1 rfl) ?_
  have hR0 := ob_ok hR
  clear hR
  obtain ⟨q1, hq1, hR⟩ := hR0
  refine va_calli (va_runS (As := [.int x1]) (rest := []) ⟨hx, hb, hml, hown, hts⟩ (cc_X9_isSheet l dC dI fu s.heap.size x1 q1 hq1) (va_cwS 1 hts gX9_drop_X9_isSheet rfl rfl rfl (by decide +kernel) ⟨Nat.le_of_ble_eq_true rfl, Nat.le_of_ble_eq_true rfl⟩) (pf_s (nil_K hK) nil_P (nil_D (A := A))) rfl rfl hl.1 rfl (lv_room (Nat.le_of_ble_eq_true rfl)) dX9_drop_1 ⟨Nat.le_refl _, Nat.le_refl _⟩) hS (fun q _ h => (fr_none hS hA) q h) (fr_none hS hA) (fun r1 v1 t1 H1 locs1 ht1 hvm1 hw1 hB1 hz1 hk1 hS1 => ?_)
  subst hw1
  have hP1 := jn_none hP hk1
  have hD1 := hD
  have hP1 : va_P (dC, dI) vwCl (zc_9 a1 k1 s1) H1 := hP1
  have hD1 : va_D A (zc_9 a1 k1 s1) := hD1
  clear hP hD hS hB1 hk1 hvm1 hz1 ht1
  refine lv_if_ne (tgt := 9) hx hb dX9_drop_4 (by decide) (fun c2 => ?_) (fun c2 => ?_)
  · replace hR := ifn_ hR c2
    refine lv_aload_n hx hb dX9_drop_9 rfl (lv_at hl 0 rfl) ?_
    refine va_get (D := (dC, dI)) (ci := 9) (v := .ref (a1 66)) (C := RX9) (T := TX9) (N := 14) hx hb hts hin9 hown hK hP1 0 rfl rfl 13 (by decide) (hts (.fieldLink RX9 83 "OldestCoins" "sheets" "LOldestCoins$Sheets;") (List.mem_of_getElem? (i := 1) rfl)) (fun _ h9 => h9) rfl dX9_drop_10 ?_
    refine va_get (D := (dC, dI)) (ci := 5) (v := .ref (a1 67)) (C := RX5) (T := TX5) (N := 3) hx hb hts hin5 hown hK hP1 66 rfl rfl 0 (by decide) (hts (.fieldLink RX9 312 "OldestCoins$Sheets" "lane" "[I") (List.mem_of_getElem? (i := 2) rfl)) (fun _ h9 => h9) rfl dX9_drop_13 ?_
    refine lv_iload_n hx hb dX9_drop_16 rfl (lv_at hl 1 rfl) ?_
    have i3 := (ck_ok hR).1
    replace hR := (ck_ok hR).2
    refine va_iald (f := s1.2.2.2.2.2.2.2.2.2.2.2.2.2.1) hx hb hK hP1 67 48 rfl rfl i3 dX9_drop_17 ?_
    refine lv_iconst (v := (-1 : Int32)) hx hb dX9_drop_18 (by decide) ?_
    refine lv_icmp_ne (tgt := 25) hx hb dX9_drop_19 (by decide) (fun c4 => ?_) (fun c4 => ?_)
    · replace hR := ifn_ hR c4
      refine lv_aload_n hx hb dX9_drop_25 rfl (lv_at hl 0 rfl) ?_
      refine va_get (D := (dC, dI)) (ci := 9) (v := .ref (a1 66)) (C := RX9) (T := TX9) (N := 14) hx hb hts hin9 hown hK hP1 0 rfl rfl 13 (by decide) (hts (.fieldLink RX9 83 "OldestCoins" "sheets" "LOldestCoins$Sheets;") (List.mem_of_getElem? (i := 1) rfl)) (fun _ h9 => h9) rfl dX9_drop_26 ?_
      refine va_get (D := (dC, dI)) (ci := 5) (v := .ref (a1 67)) (C := RX5) (T := TX5) (N := 3) hx hb hts hin5 hown hK hP1 66 rfl rfl 0 (by decide) (hts (.fieldLink RX9 312 "OldestCoins$Sheets" "lane" "[I") (List.mem_of_getElem? (i := 2) rfl)) (fun _ h9 => h9) rfl dX9_drop_29 ?_
      refine lv_iload_n hx hb dX9_drop_32 rfl (lv_at hl 1 rfl) ?_
      refine lv_iconst (v := (-1 : Int32)) hx hb dX9_drop_33 (by decide) ?_
      have i5 := (ck_ok hR).1
      replace hR := (ck_ok hR).2
      refine va_iast (f := s1.2.2.2.2.2.2.2.2.2.2.2.2.2.1) hx hb hK hP1 hD1 hS1 67 48 rfl rfl i5 dX9_drop_34 (fun H5 locs5 hP5 hD5 hS5 => ?_)
      have hP5 : va_P (dC, dI) vwCl (zc_9 a1 k1 (s1.1, s1.2.1, s1.2.2.1, s1.2.2.2.1, s1.2.2.2.2.1, s1.2.2.2.2.2.1, s1.2.2.2.2.2.2.1, s1.2.2.2.2.2.2.2.1, s1.2.2.2.2.2.2.2.2.1, s1.2.2.2.2.2.2.2.2.2.1, s1.2.2.2.2.2.2.2.2.2.2.1, s1.2.2.2.2.2.2.2.2.2.2.2.1, s1.2.2.2.2.2.2.2.2.2.2.2.2.1, ((upd s1.2.2.2.2.2.2.2.2.2.2.2.2.2.1 x1.toNatClampNeg (-1 : Int32)), s1.2.2.2.2.2.2.2.2.2.2.2.2.2.2))) H5 := hP5
      have hD5 : va_D A (zc_9 a1 k1 (s1.1, s1.2.1, s1.2.2.1, s1.2.2.2.1, s1.2.2.2.2.1, s1.2.2.2.2.2.1, s1.2.2.2.2.2.2.1, s1.2.2.2.2.2.2.2.1, s1.2.2.2.2.2.2.2.2.1, s1.2.2.2.2.2.2.2.2.2.1, s1.2.2.2.2.2.2.2.2.2.2.1, s1.2.2.2.2.2.2.2.2.2.2.2.1, s1.2.2.2.2.2.2.2.2.2.2.2.2.1, ((upd s1.2.2.2.2.2.2.2.2.2.2.2.2.2.1 x1.toNatClampNeg (-1 : Int32)), s1.2.2.2.2.2.2.2.2.2.2.2.2.2.2))) := hD5
      clear hP1 hD1 hS1
      refine lv_aload_n hx hb dX9_drop_35 rfl (lv_at hl 0 rfl) ?_
      refine va_get (D := (dC, dI)) (ci := 9) (v := .ref (a1 66)) (C := RX9) (T := TX9) (N := 14) hx hb hts hin9 hown hK hP5 0 rfl rfl 13 (by decide) (hts (.fieldLink RX9 83 "OldestCoins" "sheets" "LOldestCoins$Sheets;") (List.mem_of_getElem? (i := 1) rfl)) (fun _ h9 => h9) rfl dX9_drop_36 ?_
      refine va_get (D := (dC, dI)) (ci := 5) (v := .ref (a1 68)) (C := RX5) (T := TX5) (N := 3) hx hb hts hin5 hown hK hP5 66 rfl rfl 1 (by decide) (hts (.fieldLink RX9 315 "OldestCoins$Sheets" "size" "[I") (List.mem_of_getElem? (i := 3) rfl)) (fun _ h9 => h9) rfl dX9_drop_39 ?_
      refine lv_iload_n hx hb dX9_drop_42 rfl (lv_at hl 1 rfl) ?_
      have i6 := (ck_ok hR).1
      replace hR := (ck_ok hR).2
      refine va_iald (f := s1.2.2.2.2.2.2.2.2.2.2.2.2.2.2.1) hx hb hK hP5 68 49 rfl rfl i6 dX9_drop_43 ?_
      subst hQe
      exact W.iret (v := (s1.2.2.2.2.2.2.2.2.2.2.2.2.2.2.1 x1.toNatClampNeg)) hx hb hr (fun t ht hW => ⟨⟨(s1.2.2.2.2.2.2.2.2.2.2.2.2.2.2.1 x1.toNatClampNeg), (s1.1, s1.2.1, s1.2.2.1, s1.2.2.2.1, s1.2.2.2.2.1, s1.2.2.2.2.2.1, s1.2.2.2.2.2.2.1, s1.2.2.2.2.2.2.2.1, s1.2.2.2.2.2.2.2.2.1, s1.2.2.2.2.2.2.2.2.2.1, s1.2.2.2.2.2.2.2.2.2.2.1, s1.2.2.2.2.2.2.2.2.2.2.2.1, s1.2.2.2.2.2.2.2.2.2.2.2.2.1, ((upd s1.2.2.2.2.2.2.2.2.2.2.2.2.2.1 x1.toNatClampNeg (-1 : Int32)), s1.2.2.2.2.2.2.2.2.2.2.2.2.2.2)), rfl, (Option.some.inj hR).symm, by rw [ht]; exact hP5, va_K.moved hW.alike hK, hD5⟩, hS5.F ht⟩) hS5.2.2 dX9_drop_44
    · replace hR := ifp_ hR c4
      refine lv_bipush (v := (-11 : Int32)) hx hb dX9_drop_22 (by decide) ?_
      subst hQe
      exact W.iret (v := (-11 : Int32)) hx hb hr (fun t ht hW => ⟨⟨(-11 : Int32), s1, rfl, (Option.some.inj hR).symm, by rw [ht]; exact hP1, va_K.moved hW.alike hK, hD1⟩, hS1.F ht⟩) hS1.2.2 dX9_drop_24
  · replace hR := ifp_ hR c2
    refine lv_iconst (v := (-1 : Int32)) hx hb dX9_drop_7 (by decide) ?_
    subst hQe
    exact W.iret (v := (-1 : Int32)) hx hb hr (fun t ht hW => ⟨⟨(-1 : Int32), s1, rfl, (Option.some.inj hR).symm, by rw [ht]; exact hP1, va_K.moved hW.alike hK, hD1⟩, hS1.F ht⟩) hS1.2.2 dX9_drop_8
def rr_X9_sheet (fu : Nat) (x1 : Int32) (x2 : Int32) (x3 : Int32) (s1 : ZT_9) : Option (Int32 × ZT_9) := (rr_X9_isSheet fu x1).bind (fun q1 => (if q1 = (0 : Int32) then some ((-1 : Int32), s1) else (rr_X9_isLane fu x2).bind (fun q3 => (if q3 = (0 : Int32) then some ((-1 : Int32), s1) else (if x3 ≤ (24 : Int32) then (if (0 : Int32) ≤ x3 then (rr_X5_lay fu x1 x2 x3 s1.2.2.2.2.2.2.2.2.2.2.2.2.2).bind (fun q7 => some (x3, (s1.1, s1.2.1, s1.2.2.1, s1.2.2.2.1, s1.2.2.2.2.1, s1.2.2.2.2.2.1, s1.2.2.2.2.2.2.1, s1.2.2.2.2.2.2.2.1, s1.2.2.2.2.2.2.2.2.1, s1.2.2.2.2.2.2.2.2.2.1, s1.2.2.2.2.2.2.2.2.2.2.1, s1.2.2.2.2.2.2.2.2.2.2.2.1, s1.2.2.2.2.2.2.2.2.2.2.2.2.1, q7))) else some ((-14 : Int32), s1)) else some ((-1 : Int32), s1))))))
set_option maxHeartbeats 4000000 in
set_option maxRecDepth 100000 in
theorem cc_X9_sheet (l : Launch) (dC : Nat → ClassId) (dI : Nat → Nat → Nat) (fu : Nat) (a1 : Nat → Nat) (k1 : Nat → ClassId) (sz : Nat) (x1 : Int32) (x2 : Int32) (x3 : Int32) (s1 : ZT_9) (res : Int32 × ZT_9) (hR : rr_X9_sheet fu x1 x2 x3 s1 = some res) : Met l yX9_sheet wsX9_sheet ({ frames := 2, cells := 0, slots := 0, locals := 42 } : Room) (PcF [.ref (a1 0), .int x1, .int x2, .int x3] sz (dC, dI) (zc_9 a1 k1 s1) (zt_9 k1)) (va_Qi (fun (r : Int32) (u : ZT_9) => res = (r, u)) (fun u t => at3_ (dC, dI) (zc_9 a1 k1 u) (zt_9 k1) (va_A (zc_9 a1 k1 s1) sz) t) (va_A (zc_9 a1 k1 s1) sz)) 0 0 (va_A (zc_9 a1 k1 s1) sz) := by
  refine Met.ofW (cc := cX9_sheet) (maxL := 4) (ret := (some .int)) (by decide) rfl ?_
  intro p e s m args below meth c s₁ B hml hv
  obtain ⟨hav, hsz, hP, hK, hD0⟩ := hv
  have hx := B.exec
  have hb := B.bytes
  have hr := B.returns
  have hts := atoms_spec (ws := wsX9_sheet) B.pre
  have hown : s.vm.findClass RX9 = some m.cls := findClass_of_methodNamed B.named
  have hlocks := B.notSynchronized
  have hin9 : ∀ w ∈ wsX90, w ∈ wsX9_sheet := fun w h => List.mem_cons_of_mem _ (List.mem_append_left _ (List.mem_append_right _ h))
  subst hsz
  have hD := hD0.self (sz := s.heap.size)
  clear hD0
  generalize hAe : va_A (zc_9 a1 k1 s1) s.heap.size = A at hD ⊢
  have hA : ∀ q : Nat, s.heap.size ≤ q → A q := fun q h => by rw [← hAe]; exact Or.inr h
  have hS : va_S A s.heap s.heap [] := va_S.rf
  generalize hQe : MQ below _ args s 0 0 A = Q
  rw [show entryFrame m args 4 = F0 m 0 ((lg_sl ([.ref (a1 0), .int x1, .int x2, .int x3]) ++ List.replicate (4 - (lg_sl ([.ref (a1 0), .int x1, .int x2, .int x3])).length) Slot.unset).toArray) [] from by rw [hav]; exact lg_entry_eq m _ _]
  have hl := lv_entry ([.ref (a1 0), .int x1, .int x2, .int x3]) (n := 4) (Nat.le_of_ble_eq_true rfl)
  generalize (lg_sl ([.ref (a1 0), .int x1, .int x2, .int x3]) ++ List.replicate (4 - (lg_sl ([.ref (a1 0), .int x1, .int x2, .int x3])).length) Slot.unset).toArray = ls at hl ⊢
  have hl : lv_has ls 4 [(0, .ref (a1 0)), (1, .int x1), (2, .int x2), (3, .int x3)] := hl
  unfold rr_X9_sheet at hR
  refine lv_iload_n hx hb dX9_sheet_0 rfl (lv_at hl 1 rfl) ?_
  have hR0 := ob_ok hR
  clear hR
  obtain ⟨q1, hq1, hR⟩ := hR0
  refine va_calli (va_runS (As := [.int x1]) (rest := []) ⟨hx, hb, hml, hown, hts⟩ (cc_X9_isSheet l dC dI fu s.heap.size x1 q1 hq1) (va_cwS 1 hts gX9_sheet_X9_isSheet rfl rfl rfl (by decide +kernel) ⟨Nat.le_of_ble_eq_true rfl, Nat.le_of_ble_eq_true rfl⟩) (pf_s (nil_K hK) nil_P (nil_D (A := A))) rfl rfl hl.1 rfl (lv_room (Nat.le_of_ble_eq_true rfl)) dX9_sheet_1 ⟨Nat.le_refl _, Nat.le_refl _⟩) hS (fun q _ h => (fr_none hS hA) q h) (fr_none hS hA) (fun r1 v1 t1 H1 locs1 ht1 hvm1 hw1 hB1 hz1 hk1 hS1 => ?_)
  subst hw1
  have hP1 := jn_none hP hk1
  have hD1 := hD
  have hP1 : va_P (dC, dI) vwCl (zc_9 a1 k1 s1) H1 := hP1
  have hD1 : va_D A (zc_9 a1 k1 s1) := hD1
  clear hP hD hS hB1 hk1 hvm1 hz1 ht1
  refine lv_if_eq (tgt := 20) hx hb dX9_sheet_4 (by decide) (fun c2 => ?_) (fun c2 => ?_)
  · replace hR := ifp_ hR c2
    refine lv_iconst (v := (-1 : Int32)) hx hb dX9_sheet_20 (by decide) ?_
    subst hQe
    exact W.iret (v := (-1 : Int32)) hx hb hr (fun t ht hW => ⟨⟨(-1 : Int32), s1, rfl, (Option.some.inj hR).symm, by rw [ht]; exact hP1, va_K.moved hW.alike hK, hD1⟩, hS1.F ht⟩) hS1.2.2 dX9_sheet_21
  · replace hR := ifn_ hR c2
    refine lv_iload_n hx hb dX9_sheet_7 rfl (lv_at hl 2 rfl) ?_
    have hR0 := ob_ok hR
    clear hR
    obtain ⟨q3, hq3, hR⟩ := hR0
    refine va_calli (va_runS (As := [.int x2]) (rest := []) ⟨hx, hb, hml, hown, hts⟩ (cc_X9_isLane l dC dI fu H1.size x2 q3 hq3) (va_cwS 1 hts gX9_sheet_X9_isLane rfl rfl rfl (by decide +kernel) ⟨Nat.le_of_ble_eq_true rfl, Nat.le_of_ble_eq_true rfl⟩) (pf_s (nil_K hK) nil_P (nil_D (A := A))) rfl rfl hl.1 rfl (lv_room (Nat.le_of_ble_eq_true rfl)) dX9_sheet_8 ⟨Nat.le_refl _, Nat.le_refl _⟩) hS1 (fun q _ h => (fr_none hS1 hA) q h) (fr_none hS1 hA) (fun r3 v3 t3 H3 locs3 ht3 hvm3 hw3 hB3 hz3 hk3 hS3 => ?_)
    subst hw3
    have hP3 := jn_none hP1 hk3
    have hD3 := hD1
    have hP3 : va_P (dC, dI) vwCl (zc_9 a1 k1 s1) H3 := hP3
    have hD3 : va_D A (zc_9 a1 k1 s1) := hD3
    clear hP1 hD1 hS1 hB3 hk3 hvm3 hz3 ht3
    refine lv_if_eq (tgt := 20) hx hb dX9_sheet_11 (by decide) (fun c4 => ?_) (fun c4 => ?_)
    · replace hR := ifp_ hR c4
      refine lv_iconst (v := (-1 : Int32)) hx hb dX9_sheet_20 (by decide) ?_
      subst hQe
      exact W.iret (v := (-1 : Int32)) hx hb hr (fun t ht hW => ⟨⟨(-1 : Int32), s1, rfl, (Option.some.inj hR).symm, by rw [ht]; exact hP3, va_K.moved hW.alike hK, hD3⟩, hS3.F ht⟩) hS3.2.2 dX9_sheet_21
    · replace hR := ifn_ hR c4
      refine lv_iload_n hx hb dX9_sheet_14 rfl (lv_at hl 3 rfl) ?_
      refine lv_bipush (v := (24 : Int32)) hx hb dX9_sheet_15 (by decide) ?_
      refine lv_icmp_le (tgt := 22) hx hb dX9_sheet_17 (by decide) (fun c5 => ?_) (fun c5 => ?_)
      · replace hR := ifp_ hR c5
        refine lv_iload_n hx hb dX9_sheet_22 rfl (lv_at hl 3 rfl) ?_
        refine lv_if_ge (tgt := 29) hx hb dX9_sheet_23 (by decide) (fun c6 => ?_) (fun c6 => ?_)
        · replace hR := ifp_ hR c6
          refine lv_aload_n hx hb dX9_sheet_29 rfl (lv_at hl 0 rfl) ?_
          refine va_get (D := (dC, dI)) (ci := 9) (v := .ref (a1 66)) (C := RX9) (T := TX9) (N := 14) hx hb hts hin9 hown hK hP3 0 rfl rfl 13 (by decide) (hts (.fieldLink RX9 83 "OldestCoins" "sheets" "LOldestCoins$Sheets;") (List.mem_of_getElem? (i := 1) rfl)) (fun _ h9 => h9) rfl dX9_sheet_30 ?_
          refine lv_iload_n hx hb dX9_sheet_33 rfl (lv_at hl 1 rfl) ?_
          refine lv_iload_n hx hb dX9_sheet_34 rfl (lv_at hl 2 rfl) ?_
          refine lv_iload_n hx hb dX9_sheet_35 rfl (lv_at hl 3 rfl) ?_
          have hR0 := ob_ok hR
          clear hR
          obtain ⟨q7, hq7, hR⟩ := hR0
          refine va_callv (va_runV (As := [.int x1, .int x2, .int x3]) (rest := []) ⟨hx, hb, hml, hown, hts⟩ (cc_X5_lay l dC dI fu (sh_ a1 66) (sh_ k1 66) H3.size x1 x2 x3 s1.2.2.2.2.2.2.2.2.2.2.2.2.2 q7 hq7) (cwV 3 hts gX9_sheet_X5_lay rfl rfl rfl (by decide +kernel) ⟨Nat.le_of_ble_eq_true rfl, Nat.le_of_ble_eq_true rfl⟩) (pf_v (hK.sub (tys' := zt_5 (sh_ k1 66)) [48, 49, 50] rfl) (sub_P (sb_9__0c66 a1 k1 s1) hP3) (sub_D (sb_9__0c66 a1 k1 s1) rfl hD3) 5 0 rfl rfl rfl) rfl rfl hl.1 rfl (lv_room (Nat.le_of_ble_eq_true rfl)) dX9_sheet_36 ⟨Nat.le_refl _, Nat.le_refl _⟩) hS3 (fun q _ h => (sub_F (sb_9__0c66 a1 k1 s1) hD3 hS3 hA) q h) (sub_F (sb_9__0c66 a1 k1 s1) hD3 hS3 hA) (fun v7 t7 H7 locs7 ht7 hvm7 hw7 hB7 hz7 hk7 hS7 => ?_)
          subst hw7
          obtain ⟨hP7, hD7⟩ := jn_sub (sb_9__0c66 a1 k1 s1) (jo_9__0c66__0 a1 k1 s1 q7) rfl hP3 hD3 hS3 hA hk7 ht7 hB7
          have hP7 : va_P (dC, dI) vwCl (zc_9 a1 k1 (s1.1, s1.2.1, s1.2.2.1, s1.2.2.2.1, s1.2.2.2.2.1, s1.2.2.2.2.2.1, s1.2.2.2.2.2.2.1, s1.2.2.2.2.2.2.2.1, s1.2.2.2.2.2.2.2.2.1, s1.2.2.2.2.2.2.2.2.2.1, s1.2.2.2.2.2.2.2.2.2.2.1, s1.2.2.2.2.2.2.2.2.2.2.2.1, s1.2.2.2.2.2.2.2.2.2.2.2.2.1, q7)) H7 := hP7
          have hD7 : va_D A (zc_9 a1 k1 (s1.1, s1.2.1, s1.2.2.1, s1.2.2.2.1, s1.2.2.2.2.1, s1.2.2.2.2.2.1, s1.2.2.2.2.2.2.1, s1.2.2.2.2.2.2.2.1, s1.2.2.2.2.2.2.2.2.1, s1.2.2.2.2.2.2.2.2.2.1, s1.2.2.2.2.2.2.2.2.2.2.1, s1.2.2.2.2.2.2.2.2.2.2.2.1, s1.2.2.2.2.2.2.2.2.2.2.2.2.1, q7)) := hD7
          clear hP3 hD3 hS3 hB7 hk7 hvm7 hz7 ht7
          refine lv_iload_n hx hb dX9_sheet_39 rfl (lv_at hl 3 rfl) ?_
          subst hQe
          exact W.iret (v := x3) hx hb hr (fun t ht hW => ⟨⟨x3, (s1.1, s1.2.1, s1.2.2.1, s1.2.2.2.1, s1.2.2.2.2.1, s1.2.2.2.2.2.1, s1.2.2.2.2.2.2.1, s1.2.2.2.2.2.2.2.1, s1.2.2.2.2.2.2.2.2.1, s1.2.2.2.2.2.2.2.2.2.1, s1.2.2.2.2.2.2.2.2.2.2.1, s1.2.2.2.2.2.2.2.2.2.2.2.1, s1.2.2.2.2.2.2.2.2.2.2.2.2.1, q7), rfl, (Option.some.inj hR).symm, by rw [ht]; exact hP7, va_K.moved hW.alike hK, hD7⟩, hS7.F ht⟩) hS7.2.2 dX9_sheet_40
        · replace hR := ifn_ hR c6
          refine lv_bipush (v := (-14 : Int32)) hx hb dX9_sheet_26 (by decide) ?_
          subst hQe
          exact W.iret (v := (-14 : Int32)) hx hb hr (fun t ht hW => ⟨⟨(-14 : Int32), s1, rfl, (Option.some.inj hR).symm, by rw [ht]; exact hP3, va_K.moved hW.alike hK, hD3⟩, hS3.F ht⟩) hS3.2.2 dX9_sheet_28
      · replace hR := ifn_ hR c5
        refine lv_iconst (v := (-1 : Int32)) hx hb dX9_sheet_20 (by decide) ?_
        subst hQe
        exact W.iret (v := (-1 : Int32)) hx hb hr (fun t ht hW => ⟨⟨(-1 : Int32), s1, rfl, (Option.some.inj hR).symm, by rw [ht]; exact hP3, va_K.moved hW.alike hK, hD3⟩, hS3.F ht⟩) hS3.2.2 dX9_sheet_21
def rr_X9_isSum (fu : Nat) (x0 : Int32) : Option (Int32) := (rr_X9_isWithin fu x0 (1 : Int32) (999 : Int32)).bind (fun q1 => zk_ q1 (some q1))
set_option maxHeartbeats 4000000 in
set_option maxRecDepth 100000 in
theorem cc_X9_isSum (l : Launch) (dC : Nat → ClassId) (dI : Nat → Nat → Nat) (fu : Nat) (sz : Nat) (x0 : Int32) (res : Int32) (hR : rr_X9_isSum fu x0 = some res) : Met l yX9_isSum wsX9_isSum ({ frames := 1, cells := 0, slots := 0, locals := 22 } : Room) (PcF [.int x0] sz (dC, dI) (([] : va_W)) ([])) (va_Qi (fun (r : Int32) (u : Unit) => res = r) (fun u t => at3_ (dC, dI) (([] : va_W)) ([]) (va_A (([] : va_W)) sz) t) (va_A (([] : va_W)) sz)) 0 0 (va_A (([] : va_W)) sz) := by
  refine Met.ofW (cc := cX9_isSum) (maxL := 1) (ret := (some .boolean)) (by decide) rfl ?_
  intro p e s m args below meth c s₁ B hml hv
  obtain ⟨hav, hsz, hP, hK, hD0⟩ := hv
  have hx := B.exec
  have hb := B.bytes
  have hr := B.returns
  have hts := atoms_spec (ws := wsX9_isSum) B.pre
  have hown : s.vm.findClass RX9 = some m.cls := findClass_of_methodNamed B.named
  have hlocks := B.notSynchronized
  subst hsz
  have hD := hD0.self (sz := s.heap.size)
  clear hD0
  generalize hAe : va_A (([] : va_W)) s.heap.size = A at hD ⊢
  have hA : ∀ q : Nat, s.heap.size ≤ q → A q := fun q h => by rw [← hAe]; exact Or.inr h
  have hS : va_S A s.heap s.heap [] := va_S.rf
  generalize hQe : MQ below _ args s 0 0 A = Q
  rw [show entryFrame m args 1 = F0 m 0 ((lg_sl ([.int x0]) ++ List.replicate (1 - (lg_sl ([.int x0])).length) Slot.unset).toArray) [] from by rw [hav]; exact lg_entry_eq m _ _]
  have hl := lv_entry ([.int x0]) (n := 1) (Nat.le_of_ble_eq_true rfl)
  generalize (lg_sl ([.int x0]) ++ List.replicate (1 - (lg_sl ([.int x0])).length) Slot.unset).toArray = ls at hl ⊢
  have hl : lv_has ls 1 [(0, .int x0)] := hl
  unfold rr_X9_isSum at hR
  refine lv_iload_n hx hb dX9_isSum_0 rfl (lv_at hl 0 rfl) ?_
  refine lv_iconst (v := (1 : Int32)) hx hb dX9_isSum_1 (by decide) ?_
  refine lv_sipush (v := (999 : Int32)) hx hb dX9_isSum_2 (by decide) ?_
  have hR0 := ob_ok hR
  clear hR
  obtain ⟨q1, hq1, hR⟩ := hR0
  refine va_calli (va_runS (As := [.int x0, .int (1 : Int32), .int (999 : Int32)]) (rest := []) ⟨hx, hb, hml, hown, hts⟩ (cc_X9_isWithin l dC dI fu s.heap.size x0 (1 : Int32) (999 : Int32) q1 hq1) (va_cwS 3 hts gX9_isSum_X9_isWithin rfl rfl rfl (by decide +kernel) ⟨Nat.le_of_ble_eq_true rfl, Nat.le_of_ble_eq_true rfl⟩) (pf_s (nil_K hK) nil_P (nil_D (A := A))) rfl rfl hl.1 rfl (lv_room (Nat.le_of_ble_eq_true rfl)) dX9_isSum_5 ⟨Nat.le_refl _, Nat.le_refl _⟩) hS (fun q _ h => (fr_none hS hA) q h) (fr_none hS hA) (fun r1 v1 t1 H1 locs1 ht1 hvm1 hw1 hB1 hz1 hk1 hS1 => ?_)
  subst hw1
  have hP1 := jn_none hP hk1
  have hD1 := hD
  have hP1 : va_P (dC, dI) vwCl (([] : va_W)) H1 := hP1
  have hD1 : va_D A (([] : va_W)) := hD1
  clear hP hD hS hB1 hk1 hvm1 hz1 ht1
  have z2 := (zk_ok hR).1
  replace hR := (zk_ok hR).2
  subst hQe
  exact W.zret (ty := .boolean) (v := q1) hx hb hr (zk_nar z2) (fun t ht hW => ⟨⟨q1, (), rfl, (Option.some.inj hR).symm, by rw [ht]; exact hP1, va_K.moved hW.alike hK, hD1⟩, hS1.F ht⟩) hS1.2.2 dX9_isSum_8
def rr_X9_seen_93_b (fu : Nat) (rec93 : Int32 → Int32 → Int32 → Int32 → Int32 → Int32 → Int32 → Int32 → ZT_9 → Option (Int32 × ZT_9)) (y1 : Int32) (y3 : Int32) (y4 : Int32) (y5 : Int32) (y6 : Int32) (y7 : Int32) (y8 : Int32) (y10 : Int32) (u1 : ZT_9) : Option (Int32 × ZT_9) := (if y4 ≤ y10 then (rr_X3_countOrders fu y4 y5 y6 y7 u1.2.2.2.2.2.2.2.2.2.1).bind (fun q20 => (if q20.1 = (0 : Int32) then some ((-4 : Int32), (u1.1, u1.2.1, u1.2.2.1, u1.2.2.2.1, u1.2.2.2.2.1, u1.2.2.2.2.2.1, u1.2.2.2.2.2.2.1, u1.2.2.2.2.2.2.2.1, u1.2.2.2.2.2.2.2.2.1, q20.2, u1.2.2.2.2.2.2.2.2.2.2)) else (if y8 = (-1 : Int32) then some (q20.1, (u1.1, u1.2.1, u1.2.2.1, u1.2.2.2.1, u1.2.2.2.2.1, u1.2.2.2.2.2.1, u1.2.2.2.2.2.2.1, u1.2.2.2.2.2.2.2.1, u1.2.2.2.2.2.2.2.2.1, q20.2, u1.2.2.2.2.2.2.2.2.2.2)) else ck_ y8 4 (some ((q20.2.2.1 y8.toNatClampNeg), (u1.1, u1.2.1, u1.2.2.1, u1.2.2.2.1, u1.2.2.2.2.1, u1.2.2.2.2.2.1, u1.2.2.2.2.2.2.1, u1.2.2.2.2.2.2.2.1, u1.2.2.2.2.2.2.2.2.1, q20.2, u1.2.2.2.2.2.2.2.2.2.2)))))) else (rr_X5_read fu y1 (y3 + y10) u1.2.2.2.2.2.2.2.2.2.2.2.2.2).bind (fun q25 => (if (lg_cmp q25 (1 : Int64)) < (0 : Int32) then some ((-2 : Int32), u1) else (if (lg_cmp q25 (99 : Int64)) ≤ (0 : Int32) then lt_ (α := Int32) q25.toInt32 (fun z29 => ck_ y10 4 (lt_ (α := Int32) (y10 + (1 : Int32)) (fun z31 => rec93 y1 y3 y4 y5 y6 y7 y8 z31 (u1.1, u1.2.1, u1.2.2.1, u1.2.2.2.1, u1.2.2.2.2.1, u1.2.2.2.2.2.1, u1.2.2.2.2.2.2.1, u1.2.2.2.2.2.2.2.1, u1.2.2.2.2.2.2.2.2.1, ((upd u1.2.2.2.2.2.2.2.2.2.1.1 y10.toNatClampNeg z29), u1.2.2.2.2.2.2.2.2.2.1.2), u1.2.2.2.2.2.2.2.2.2.2)))) else some ((-2 : Int32), u1)))))
def rr_X9_seen_93 (fu : Nat) (n : Nat) : Int32 → Int32 → Int32 → Int32 → Int32 → Int32 → Int32 → Int32 → ZT_9 → Option (Int32 × ZT_9) := lp_ (fun _ _ _ _ _ _ _ _ _ => none) (rr_X9_seen_93_b fu) n
def rr_X9_seen (fu : Nat) (x1 : Int32) (x2 : Int32) (x3 : Int32) (x4 : Int32) (x5 : Int32) (x6 : Int32) (x7 : Int32) (x8 : Int32) (s1 : ZT_9) : Option (Int32 × ZT_9) := (rr_X9_isSheet fu x1).bind (fun q1 => (if q1 = (0 : Int32) then some ((-1 : Int32), s1) else (rr_X9_isLane fu x2).bind (fun q3 => (if q3 = (0 : Int32) then some ((-1 : Int32), s1) else (rr_X9_isWithin fu x4 (1 : Int32) (4 : Int32)).bind (fun q5 => (if q5 = (0 : Int32) then some ((-1 : Int32), s1) else (rr_X9_isSum fu x5).bind (fun q7 => (if q7 = (0 : Int32) then some ((-1 : Int32), s1) else (rr_X9_isWithin fu x6 (1 : Int32) (4 : Int32)).bind (fun q9 => (if q9 = (0 : Int32) then some ((-1 : Int32), s1) else (rr_X9_isWithin fu x7 (0 : Int32) (99 : Int32)).bind (fun q11 => (if q11 = (0 : Int32) then some ((-1 : Int32), s1) else (rr_X9_isWithin fu x8 (-1 : Int32) (x4 - (1 : Int32))).bind (fun q13 => (if q13 = (0 : Int32) then some ((-1 : Int32), s1) else (rr_X5_refusal fu x1 x2 x3 x4 s1.2.2.2.2.2.2.2.2.2.2.2.2.2).bind (fun q15 => (if q15 = (0 : Int32) then rr_X9_seen_93 fu fu x1 x3 x4 x5 x6 x7 x8 (0 : Int32) s1 else some (q15, s1)))))))))))))))))
set_option maxHeartbeats 4000000 in
set_option maxRecDepth 100000 in
theorem cc_X9_seen (l : Launch) (dC : Nat → ClassId) (dI : Nat → Nat → Nat) (fu : Nat) (a1 : Nat → Nat) (k1 : Nat → ClassId) (sz : Nat) (x1 : Int32) (x2 : Int32) (x3 : Int32) (x4 : Int32) (x5 : Int32) (x6 : Int32) (x7 : Int32) (x8 : Int32) (s1 : ZT_9) (res : Int32 × ZT_9) (hR : rr_X9_seen fu x1 x2 x3 x4 x5 x6 x7 x8 s1 = some res) : Met l yX9_seen wsX9_seen ({ frames := 9, cells := 0, slots := 0, locals := 208 } : Room) (PcF [.ref (a1 0), .int x1, .int x2, .int x3, .int x4, .int x5, .int x6, .int x7, .int x8] sz (dC, dI) (zc_9 a1 k1 s1) (zt_9 k1)) (va_Qi (fun (r : Int32) (u : ZT_9) => res = (r, u)) (fun u t => at3_ (dC, dI) (zc_9 a1 k1 u) (zt_9 k1) (va_A (zc_9 a1 k1 s1) sz) t) (va_A (zc_9 a1 k1 s1) sz)) 0 0 (va_A (zc_9 a1 k1 s1) sz) := by
  refine Met.ofW (cc := cX9_seen) (maxL := 13) (ret := (some .int)) (by decide) rfl ?_
  intro p e s m args below meth c s₁ B hml hv
  obtain ⟨hav, hsz, hP, hK, hD0⟩ := hv
  have hx := B.exec
  have hb := B.bytes
  have hr := B.returns
  have hts := atoms_spec (ws := wsX9_seen) B.pre
  have hown : s.vm.findClass RX9 = some m.cls := findClass_of_methodNamed B.named
  have hlocks := B.notSynchronized
  have hin3 : ∀ w ∈ wsX30, w ∈ wsX9_seen := fun w h => List.mem_cons_of_mem _ (List.mem_append_left _ (List.mem_append_right _ h))
  have hin9 : ∀ w ∈ wsX90, w ∈ wsX9_seen := fun w h => List.mem_cons_of_mem _ (List.mem_append_left _ (List.mem_append_left _ (List.mem_append_right _ h)))
  subst hsz
  have hD := hD0.self (sz := s.heap.size)
  clear hD0
  generalize hAe : va_A (zc_9 a1 k1 s1) s.heap.size = A at hD ⊢
  have hA : ∀ q : Nat, s.heap.size ≤ q → A q := fun q h => by rw [← hAe]; exact Or.inr h
  have hS : va_S A s.heap s.heap [] := va_S.rf
  generalize hQe : MQ below _ args s 0 0 A = Q
  rw [show entryFrame m args 13 = F0 m 0 ((lg_sl ([.ref (a1 0), .int x1, .int x2, .int x3, .int x4, .int x5, .int x6, .int x7, .int x8]) ++ List.replicate (13 - (lg_sl ([.ref (a1 0), .int x1, .int x2, .int x3, .int x4, .int x5, .int x6, .int x7, .int x8])).length) Slot.unset).toArray) [] from by rw [hav]; exact lg_entry_eq m _ _]
  have hl := lv_entry ([.ref (a1 0), .int x1, .int x2, .int x3, .int x4, .int x5, .int x6, .int x7, .int x8]) (n := 13) (Nat.le_of_ble_eq_true rfl)
  generalize (lg_sl ([.ref (a1 0), .int x1, .int x2, .int x3, .int x4, .int x5, .int x6, .int x7, .int x8]) ++ List.replicate (13 - (lg_sl ([.ref (a1 0), .int x1, .int x2, .int x3, .int x4, .int x5, .int x6, .int x7, .int x8])).length) Slot.unset).toArray = ls at hl ⊢
  have hl : lv_has ls 13 [(0, .ref (a1 0)), (1, .int x1), (2, .int x2), (3, .int x3), (4, .int x4), (5, .int x5), (6, .int x6), (7, .int x7), (8, .int x8)] := hl
  have hB93 : ∀ (n : Nat), ∀ (y1 : Int32) (y3 : Int32) (y4 : Int32) (y5 : Int32) (y6 : Int32) (y7 : Int32) (y8 : Int32) (y10 : Int32) (u1 : ZT_9) (H : Heap) (locs : List Loc) (ls : Array Slot), va_P (dC, dI) vwCl (zc_9 a1 k1 u1) H → va_D A (zc_9 a1 k1 u1) → va_S A s.heap H locs → lv_has ls 13 [(0, .ref (a1 0)), (1, .int y1), (3, .int y3), (4, .int y4), (5, .int y5), (6, .int y6), (7, .int y7), (8, .int y8), (10, .int y10)] → rr_X9_seen_93 fu n y1 y3 y4 y5 y6 y7 y8 y10 u1 = some res → W p l e ({ frames := 9, cells := 0, slots := 0, locals := 208 } : Room) s m args below meth c H locs 0 0 Q (F0 m 93 ls []) := by
    intro  n
    induction n with
    | zero => intro y1 y3 y4 y5 y6 y7 y8 y10 u1 H locs ls hP hD hS hl hR; exact absurd hR (by intro h; cases h)
    | succ n ih =>
      intro y1 y3 y4 y5 y6 y7 y8 y10 u1 H locs ls hP hD hS hl hR
      replace hR : rr_X9_seen_93_b fu (rr_X9_seen_93 fu n) y1 y3 y4 y5 y6 y7 y8 y10 u1 = some res := hR
      unfold rr_X9_seen_93_b at hR
      refine lv_iload hx hb dX9_seen_93 (lv_at hl 8 rfl) ?_
      refine lv_iload hx hb dX9_seen_95 (lv_at hl 3 rfl) ?_
      refine lv_icmp_ge (tgt := 152) hx hb dX9_seen_97 (by decide) (fun c19 => ?_) (fun c19 => ?_)
      · replace hR := ifp_ hR c19
        refine lv_aload_n hx hb dX9_seen_152 rfl (lv_at hl 0 rfl) ?_
        refine va_get (D := (dC, dI)) (ci := 9) (v := .ref (a1 50)) (C := RX9) (T := TX9) (N := 14) hx hb hts hin9 hown hK hP 0 rfl rfl 9 (by decide) (hts (.fieldLink RX9 53 "OldestCoins" "guess" "LOldestCoins$Guess;") (List.mem_of_getElem? (i := 3) rfl)) (fun _ h9 => h9) rfl dX9_seen_153 ?_
        refine lv_iload hx hb dX9_seen_156 (lv_at hl 3 rfl) ?_
        refine lv_iload hx hb dX9_seen_158 (lv_at hl 4 rfl) ?_
        refine lv_iload hx hb dX9_seen_160 (lv_at hl 5 rfl) ?_
        refine lv_iload hx hb dX9_seen_162 (lv_at hl 6 rfl) ?_
        have hR0 := ob_ok hR
        clear hR
        obtain ⟨q20, hq20, hR⟩ := hR0
        refine va_calli (va_runV (As := [.int y4, .int y5, .int y6, .int y7]) (rest := []) ⟨hx, hb, hml, hown, hts⟩ (cc_X3_countOrders l dC dI fu (sh_ a1 50) (sh_ k1 50) H.size y4 y5 y6 y7 u1.2.2.2.2.2.2.2.2.2.1 q20 hq20) (cwV 4 hts gX9_seen_X3_countOrders rfl rfl rfl (by decide +kernel) ⟨Nat.le_of_ble_eq_true rfl, Nat.le_of_ble_eq_true rfl⟩) (pf_v (hK.sub (tys' := zt_3 (sh_ k1 50)) [36, 37, 38] rfl) (sub_P (sb_9__0c50 a1 k1 u1) hP) (sub_D (sb_9__0c50 a1 k1 u1) rfl hD) 3 0 rfl rfl rfl) rfl rfl hl.1 rfl (lv_room (Nat.le_of_ble_eq_true rfl)) dX9_seen_164 ⟨Nat.le_refl _, Nat.le_refl _⟩) hS (fun q _ h => (sub_F (sb_9__0c50 a1 k1 u1) hD hS hA) q h) (sub_F (sb_9__0c50 a1 k1 u1) hD hS hA) (fun r20 v20 t20 H20 locs20 ht20 hvm20 hw20 hB20 hz20 hk20 hS20 => ?_)
        obtain rfl : r20 = q20.1 := (congrArg Prod.fst hw20).symm
        obtain rfl : v20 = q20.2 := (congrArg Prod.snd hw20).symm
        obtain ⟨hP20, hD20⟩ := jn_sub (sb_9__0c50 a1 k1 u1) (jo_9__0c50__0 a1 k1 u1 q20.2) rfl hP hD hS hA hk20 ht20 hB20
        have hP20 : va_P (dC, dI) vwCl (zc_9 a1 k1 (u1.1, u1.2.1, u1.2.2.1, u1.2.2.2.1, u1.2.2.2.2.1, u1.2.2.2.2.2.1, u1.2.2.2.2.2.2.1, u1.2.2.2.2.2.2.2.1, u1.2.2.2.2.2.2.2.2.1, q20.2, u1.2.2.2.2.2.2.2.2.2.2)) H20 := hP20
        have hD20 : va_D A (zc_9 a1 k1 (u1.1, u1.2.1, u1.2.2.1, u1.2.2.2.1, u1.2.2.2.2.1, u1.2.2.2.2.2.1, u1.2.2.2.2.2.2.1, u1.2.2.2.2.2.2.2.1, u1.2.2.2.2.2.2.2.2.1, q20.2, u1.2.2.2.2.2.2.2.2.2.2)) := hD20
        clear hP hD hS hB20 hk20 hvm20 hz20 ht20
        refine lv_istore (lv' := [(10, .int q20.1), (0, .ref (a1 0)), (1, .int y1), (3, .int y3), (4, .int y4), (5, .int y5), (6, .int y6), (7, .int y7), (8, .int y8)]) hx hb dX9_seen_167 hl (by decide) rfl (fun ls21 hl21 => ?_)
        refine lv_iload hx hb dX9_seen_169 (lv_at hl21 0 rfl) ?_
        refine lv_if_ne (tgt := 177) hx hb dX9_seen_171 (by decide) (fun c22 => ?_) (fun c22 => ?_)
        · replace hR := ifn_ hR c22
          refine lv_iload hx hb dX9_seen_177 (lv_at hl21 8 rfl) ?_
          refine lv_iconst (v := (-1 : Int32)) hx hb dX9_seen_179 (by decide) ?_
          refine lv_icmp_ne (tgt := 188) hx hb dX9_seen_180 (by decide) (fun c23 => ?_) (fun c23 => ?_)
          · replace hR := ifn_ hR c23
            refine lv_aload_n hx hb dX9_seen_188 rfl (lv_at hl21 1 rfl) ?_
            refine va_get (D := (dC, dI)) (ci := 9) (v := .ref (a1 50)) (C := RX9) (T := TX9) (N := 14) hx hb hts hin9 hown hK hP20 0 rfl rfl 9 (by decide) (hts (.fieldLink RX9 53 "OldestCoins" "guess" "LOldestCoins$Guess;") (List.mem_of_getElem? (i := 3) rfl)) (fun _ h9 => h9) rfl dX9_seen_189 ?_
            refine va_get (D := (dC, dI)) (ci := 3) (v := .ref (a1 52)) (C := RX3) (T := TX3) (N := 8) hx hb hts hin3 hown hK hP20 50 rfl rfl 1 (by decide) (hts (.fieldLink RX9 306 "OldestCoins$Guess" "first" "[I") (List.mem_of_getElem? (i := 5) rfl)) (fun _ h9 => h9) rfl dX9_seen_192 ?_
            refine lv_iload hx hb dX9_seen_195 (lv_at hl21 8 rfl) ?_
            have i24 := (ck_ok hR).1
            replace hR := (ck_ok hR).2
            refine va_iald (f := q20.2.2.1) hx hb hK hP20 52 37 rfl rfl i24 dX9_seen_197 ?_
            subst hQe
            exact W.iret (v := (q20.2.2.1 y8.toNatClampNeg)) hx hb hr (fun t ht hW => ⟨⟨(q20.2.2.1 y8.toNatClampNeg), (u1.1, u1.2.1, u1.2.2.1, u1.2.2.2.1, u1.2.2.2.2.1, u1.2.2.2.2.2.1, u1.2.2.2.2.2.2.1, u1.2.2.2.2.2.2.2.1, u1.2.2.2.2.2.2.2.2.1, q20.2, u1.2.2.2.2.2.2.2.2.2.2), rfl, (Option.some.inj hR).symm, by rw [ht]; exact hP20, va_K.moved hW.alike hK, hD20⟩, hS20.F ht⟩) hS20.2.2 dX9_seen_198
          · replace hR := ifp_ hR c23
            refine lv_iload hx hb dX9_seen_183 (lv_at hl21 0 rfl) ?_
            refine lv_goto (tgt := 198) hx hb dX9_seen_185 (by decide) ?_
            subst hQe
            exact W.iret (v := q20.1) hx hb hr (fun t ht hW => ⟨⟨q20.1, (u1.1, u1.2.1, u1.2.2.1, u1.2.2.2.1, u1.2.2.2.2.1, u1.2.2.2.2.2.1, u1.2.2.2.2.2.2.1, u1.2.2.2.2.2.2.2.1, u1.2.2.2.2.2.2.2.2.1, q20.2, u1.2.2.2.2.2.2.2.2.2.2), rfl, (Option.some.inj hR).symm, by rw [ht]; exact hP20, va_K.moved hW.alike hK, hD20⟩, hS20.F ht⟩) hS20.2.2 dX9_seen_198
        · replace hR := ifp_ hR c22
          refine lv_bipush (v := (-4 : Int32)) hx hb dX9_seen_174 (by decide) ?_
          subst hQe
          exact W.iret (v := (-4 : Int32)) hx hb hr (fun t ht hW => ⟨⟨(-4 : Int32), (u1.1, u1.2.1, u1.2.2.1, u1.2.2.2.1, u1.2.2.2.2.1, u1.2.2.2.2.2.1, u1.2.2.2.2.2.2.1, u1.2.2.2.2.2.2.2.1, u1.2.2.2.2.2.2.2.2.1, q20.2, u1.2.2.2.2.2.2.2.2.2.2), rfl, (Option.some.inj hR).symm, by rw [ht]; exact hP20, va_K.moved hW.alike hK, hD20⟩, hS20.F ht⟩) hS20.2.2 dX9_seen_176
      · replace hR := ifn_ hR c19
        refine lv_aload_n hx hb dX9_seen_100 rfl (lv_at hl 0 rfl) ?_
        refine va_get (D := (dC, dI)) (ci := 9) (v := .ref (a1 66)) (C := RX9) (T := TX9) (N := 14) hx hb hts hin9 hown hK hP 0 rfl rfl 13 (by decide) (hts (.fieldLink RX9 83 "OldestCoins" "sheets" "LOldestCoins$Sheets;") (List.mem_of_getElem? (i := 1) rfl)) (fun _ h9 => h9) rfl dX9_seen_101 ?_
        refine lv_iload_n hx hb dX9_seen_104 rfl (lv_at hl 1 rfl) ?_
        refine lv_iload_n hx hb dX9_seen_105 rfl (lv_at hl 2 rfl) ?_
        refine lv_iload hx hb dX9_seen_106 (lv_at hl 8 rfl) ?_
        refine lv_iadd hx hb dX9_seen_108 ?_
        have hR0 := ob_ok hR
        clear hR
        obtain ⟨q25, hq25, hR⟩ := hR0
        refine va_calll (va_runV (As := [.int y1, .int (y3 + y10)]) (rest := []) ⟨hx, hb, hml, hown, hts⟩ (cc_X5_read l dC dI fu (sh_ a1 66) (sh_ k1 66) H.size y1 (y3 + y10) u1.2.2.2.2.2.2.2.2.2.2.2.2.2 q25 hq25) (cwV 2 hts gX9_seen_X5_read rfl rfl rfl (by decide +kernel) ⟨Nat.le_of_ble_eq_true rfl, Nat.le_of_ble_eq_true rfl⟩) (pf_v (hK.sub (tys' := zt_5 (sh_ k1 66)) [48, 49, 50] rfl) (sub_P (sb_9__0c66 a1 k1 u1) hP) (sub_D (sb_9__0c66 a1 k1 u1) rfl hD) 5 0 rfl rfl rfl) rfl rfl hl.1 rfl (lv_room (Nat.le_of_ble_eq_true rfl)) dX9_seen_109 ⟨Nat.le_refl _, Nat.le_refl _⟩) hS (fun q _ h => (sub_F (sb_9__0c66 a1 k1 u1) hD hS hA) q h) (sub_F (sb_9__0c66 a1 k1 u1) hD hS hA) (fun r25 v25 t25 H25 locs25 ht25 hvm25 hw25 hB25 hz25 hk25 hS25 => ?_)
        subst hw25
        obtain ⟨hP25, hD25⟩ := jn_sub (sb_9__0c66 a1 k1 u1) (jo_9__0c66__ a1 k1 u1 ) rfl hP hD hS hA hk25 ht25 hB25
        have hP25 : va_P (dC, dI) vwCl (zc_9 a1 k1 u1) H25 := hP25
        have hD25 : va_D A (zc_9 a1 k1 u1) := hD25
        clear hP hD hS hB25 hk25 hvm25 hz25 ht25
        refine lv_lstore (lv' := [(11, .long q25), (0, .ref (a1 0)), (1, .int y1), (3, .int y3), (4, .int y4), (5, .int y5), (6, .int y6), (7, .int y7), (8, .int y8), (10, .int y10)]) hx hb dX9_seen_112 hl (by decide) rfl (fun ls26 hl26 => ?_)
        refine lv_lload hx hb dX9_seen_114 (lv_at hl26 0 rfl) ?_
        refine lv_lconst (v := (1 : Int64)) hx hb dX9_seen_116 (by decide) ?_
        refine W.lcmp hx hb dX9_seen_117 ?_
        refine lv_if_lt (tgt := 130) hx hb dX9_seen_118 (by decide) (fun c27 => ?_) (fun c27 => ?_)
        · replace hR := ifp_ hR c27
          refine lv_bipush (v := (-2 : Int32)) hx hb dX9_seen_130 (by decide) ?_
          subst hQe
          exact W.iret (v := (-2 : Int32)) hx hb hr (fun t ht hW => ⟨⟨(-2 : Int32), u1, rfl, (Option.some.inj hR).symm, by rw [ht]; exact hP25, va_K.moved hW.alike hK, hD25⟩, hS25.F ht⟩) hS25.2.2 dX9_seen_132
        · replace hR := ifn_ hR c27
          refine lv_lload hx hb dX9_seen_121 (lv_at hl26 0 rfl) ?_
          refine lv_ldc2 (v := (99 : Int64)) hx hb hown (hts (.constantLong RX9 300 (99)) (List.mem_of_getElem? (i := 2) rfl)) dX9_seen_123 ?_
          refine W.lcmp hx hb dX9_seen_126 ?_
          refine lv_if_le (tgt := 133) hx hb dX9_seen_127 (by decide) (fun c28 => ?_) (fun c28 => ?_)
          · replace hR := ifp_ hR c28
            refine lv_aload_n hx hb dX9_seen_133 rfl (lv_at hl26 1 rfl) ?_
            refine va_get (D := (dC, dI)) (ci := 9) (v := .ref (a1 50)) (C := RX9) (T := TX9) (N := 14) hx hb hts hin9 hown hK hP25 0 rfl rfl 9 (by decide) (hts (.fieldLink RX9 53 "OldestCoins" "guess" "LOldestCoins$Guess;") (List.mem_of_getElem? (i := 3) rfl)) (fun _ h9 => h9) rfl dX9_seen_134 ?_
            refine va_get (D := (dC, dI)) (ci := 3) (v := .ref (a1 51)) (C := RX3) (T := TX3) (N := 8) hx hb hts hin3 hown hK hP25 50 rfl rfl 0 (by decide) (hts (.fieldLink RX9 302 "OldestCoins$Guess" "worth" "[I") (List.mem_of_getElem? (i := 4) rfl)) (fun _ h9 => h9) rfl dX9_seen_137 ?_
            refine lv_iload hx hb dX9_seen_140 (lv_at hl26 9 rfl) ?_
            refine lv_lload hx hb dX9_seen_142 (lv_at hl26 0 rfl) ?_
            refine lv_l2i (v := q25.toInt32) hx hb dX9_seen_144 rfl ?_
            refine lv_topi (fun z29 ez29 => ?_)
            replace hR := lt_ok hR ez29
            have i30 := (ck_ok hR).1
            replace hR := (ck_ok hR).2
            refine va_iast (f := u1.2.2.2.2.2.2.2.2.2.1.1) hx hb hK hP25 hD25 hS25 51 36 rfl rfl i30 dX9_seen_145 (fun H30 locs30 hP30 hD30 hS30 => ?_)
            have hP30 : va_P (dC, dI) vwCl (zc_9 a1 k1 (u1.1, u1.2.1, u1.2.2.1, u1.2.2.2.1, u1.2.2.2.2.1, u1.2.2.2.2.2.1, u1.2.2.2.2.2.2.1, u1.2.2.2.2.2.2.2.1, u1.2.2.2.2.2.2.2.2.1, ((upd u1.2.2.2.2.2.2.2.2.2.1.1 y10.toNatClampNeg z29), u1.2.2.2.2.2.2.2.2.2.1.2), u1.2.2.2.2.2.2.2.2.2.2)) H30 := hP30
            have hD30 : va_D A (zc_9 a1 k1 (u1.1, u1.2.1, u1.2.2.1, u1.2.2.2.1, u1.2.2.2.2.1, u1.2.2.2.2.2.1, u1.2.2.2.2.2.2.1, u1.2.2.2.2.2.2.2.1, u1.2.2.2.2.2.2.2.2.1, ((upd u1.2.2.2.2.2.2.2.2.2.1.1 y10.toNatClampNeg z29), u1.2.2.2.2.2.2.2.2.2.1.2), u1.2.2.2.2.2.2.2.2.2.2)) := hD30
            clear hP25 hD25 hS25
            obtain ⟨z31, ez31⟩ : ∃ y : Int32, y = (y10 + (1 : Int32)) := ⟨_, rfl⟩
            replace hR := lt_ok hR ez31
            refine lv_iinc (v := z31) (lv' := [(10, .int z31), (11, .long q25), (0, .ref (a1 0)), (1, .int y1), (3, .int y3), (4, .int y4), (5, .int y5), (6, .int y6), (7, .int y7), (8, .int y8)]) hx hb dX9_seen_146 hl26 (k := 9) rfl (by rw [ez31]; rfl) (by decide) rfl (fun ls31 hl31 => ?_)
            refine lv_goto (tgt := 93) hx hb dX9_seen_149 (by decide) ?_
            exact ih y1 y3 y4 y5 y6 y7 y8 z31 (u1.1, u1.2.1, u1.2.2.1, u1.2.2.2.1, u1.2.2.2.2.1, u1.2.2.2.2.2.1, u1.2.2.2.2.2.2.1, u1.2.2.2.2.2.2.2.1, u1.2.2.2.2.2.2.2.2.1, ((upd u1.2.2.2.2.2.2.2.2.2.1.1 y10.toNatClampNeg z29), u1.2.2.2.2.2.2.2.2.2.1.2), u1.2.2.2.2.2.2.2.2.2.2) H30 locs30 ls31 hP30 hD30 hS30 (lv_sub hl31 [2, 3, 4, 5, 6, 7, 8, 9, 0] rfl) hR
          · replace hR := ifn_ hR c28
            refine lv_bipush (v := (-2 : Int32)) hx hb dX9_seen_130 (by decide) ?_
            subst hQe
            exact W.iret (v := (-2 : Int32)) hx hb hr (fun t ht hW => ⟨⟨(-2 : Int32), u1, rfl, (Option.some.inj hR).symm, by rw [ht]; exact hP25, va_K.moved hW.alike hK, hD25⟩, hS25.F ht⟩) hS25.2.2 dX9_seen_132
  unfold rr_X9_seen at hR
  refine lv_iload_n hx hb dX9_seen_0 rfl (lv_at hl 1 rfl) ?_
  have hR0 := ob_ok hR
  clear hR
  obtain ⟨q1, hq1, hR⟩ := hR0
  refine va_calli (va_runS (As := [.int x1]) (rest := []) ⟨hx, hb, hml, hown, hts⟩ (cc_X9_isSheet l dC dI fu s.heap.size x1 q1 hq1) (va_cwS 1 hts gX9_seen_X9_isSheet rfl rfl rfl (by decide +kernel) ⟨Nat.le_of_ble_eq_true rfl, Nat.le_of_ble_eq_true rfl⟩) (pf_s (nil_K hK) nil_P (nil_D (A := A))) rfl rfl hl.1 rfl (lv_room (Nat.le_of_ble_eq_true rfl)) dX9_seen_1 ⟨Nat.le_refl _, Nat.le_refl _⟩) hS (fun q _ h => (fr_none hS hA) q h) (fr_none hS hA) (fun r1 v1 t1 H1 locs1 ht1 hvm1 hw1 hB1 hz1 hk1 hS1 => ?_)
  subst hw1
  have hP1 := jn_none hP hk1
  have hD1 := hD
  have hP1 : va_P (dC, dI) vwCl (zc_9 a1 k1 s1) H1 := hP1
  have hD1 : va_D A (zc_9 a1 k1 s1) := hD1
  clear hP hD hS hB1 hk1 hvm1 hz1 ht1
  refine lv_if_eq (tgt := 66) hx hb dX9_seen_4 (by decide) (fun c2 => ?_) (fun c2 => ?_)
  · replace hR := ifp_ hR c2
    refine lv_iconst (v := (-1 : Int32)) hx hb dX9_seen_66 (by decide) ?_
    subst hQe
    exact W.iret (v := (-1 : Int32)) hx hb hr (fun t ht hW => ⟨⟨(-1 : Int32), s1, rfl, (Option.some.inj hR).symm, by rw [ht]; exact hP1, va_K.moved hW.alike hK, hD1⟩, hS1.F ht⟩) hS1.2.2 dX9_seen_67
  · replace hR := ifn_ hR c2
    refine lv_iload_n hx hb dX9_seen_7 rfl (lv_at hl 2 rfl) ?_
    have hR0 := ob_ok hR
    clear hR
    obtain ⟨q3, hq3, hR⟩ := hR0
    refine va_calli (va_runS (As := [.int x2]) (rest := []) ⟨hx, hb, hml, hown, hts⟩ (cc_X9_isLane l dC dI fu H1.size x2 q3 hq3) (va_cwS 1 hts gX9_seen_X9_isLane rfl rfl rfl (by decide +kernel) ⟨Nat.le_of_ble_eq_true rfl, Nat.le_of_ble_eq_true rfl⟩) (pf_s (nil_K hK) nil_P (nil_D (A := A))) rfl rfl hl.1 rfl (lv_room (Nat.le_of_ble_eq_true rfl)) dX9_seen_8 ⟨Nat.le_refl _, Nat.le_refl _⟩) hS1 (fun q _ h => (fr_none hS1 hA) q h) (fr_none hS1 hA) (fun r3 v3 t3 H3 locs3 ht3 hvm3 hw3 hB3 hz3 hk3 hS3 => ?_)
    subst hw3
    have hP3 := jn_none hP1 hk3
    have hD3 := hD1
    have hP3 : va_P (dC, dI) vwCl (zc_9 a1 k1 s1) H3 := hP3
    have hD3 : va_D A (zc_9 a1 k1 s1) := hD3
    clear hP1 hD1 hS1 hB3 hk3 hvm3 hz3 ht3
    refine lv_if_eq (tgt := 66) hx hb dX9_seen_11 (by decide) (fun c4 => ?_) (fun c4 => ?_)
    · replace hR := ifp_ hR c4
      refine lv_iconst (v := (-1 : Int32)) hx hb dX9_seen_66 (by decide) ?_
      subst hQe
      exact W.iret (v := (-1 : Int32)) hx hb hr (fun t ht hW => ⟨⟨(-1 : Int32), s1, rfl, (Option.some.inj hR).symm, by rw [ht]; exact hP3, va_K.moved hW.alike hK, hD3⟩, hS3.F ht⟩) hS3.2.2 dX9_seen_67
    · replace hR := ifn_ hR c4
      refine lv_iload hx hb dX9_seen_14 (lv_at hl 4 rfl) ?_
      refine lv_iconst (v := (1 : Int32)) hx hb dX9_seen_16 (by decide) ?_
      refine lv_iconst (v := (4 : Int32)) hx hb dX9_seen_17 (by decide) ?_
      have hR0 := ob_ok hR
      clear hR
      obtain ⟨q5, hq5, hR⟩ := hR0
      refine va_calli (va_runS (As := [.int x4, .int (1 : Int32), .int (4 : Int32)]) (rest := []) ⟨hx, hb, hml, hown, hts⟩ (cc_X9_isWithin l dC dI fu H3.size x4 (1 : Int32) (4 : Int32) q5 hq5) (va_cwS 3 hts gX9_seen_X9_isWithin rfl rfl rfl (by decide +kernel) ⟨Nat.le_of_ble_eq_true rfl, Nat.le_of_ble_eq_true rfl⟩) (pf_s (nil_K hK) nil_P (nil_D (A := A))) rfl rfl hl.1 rfl (lv_room (Nat.le_of_ble_eq_true rfl)) dX9_seen_18 ⟨Nat.le_refl _, Nat.le_refl _⟩) hS3 (fun q _ h => (fr_none hS3 hA) q h) (fr_none hS3 hA) (fun r5 v5 t5 H5 locs5 ht5 hvm5 hw5 hB5 hz5 hk5 hS5 => ?_)
      subst hw5
      have hP5 := jn_none hP3 hk5
      have hD5 := hD3
      have hP5 : va_P (dC, dI) vwCl (zc_9 a1 k1 s1) H5 := hP5
      have hD5 : va_D A (zc_9 a1 k1 s1) := hD5
      clear hP3 hD3 hS3 hB5 hk5 hvm5 hz5 ht5
      refine lv_if_eq (tgt := 66) hx hb dX9_seen_21 (by decide) (fun c6 => ?_) (fun c6 => ?_)
      · replace hR := ifp_ hR c6
        refine lv_iconst (v := (-1 : Int32)) hx hb dX9_seen_66 (by decide) ?_
        subst hQe
        exact W.iret (v := (-1 : Int32)) hx hb hr (fun t ht hW => ⟨⟨(-1 : Int32), s1, rfl, (Option.some.inj hR).symm, by rw [ht]; exact hP5, va_K.moved hW.alike hK, hD5⟩, hS5.F ht⟩) hS5.2.2 dX9_seen_67
      · replace hR := ifn_ hR c6
        refine lv_iload hx hb dX9_seen_24 (lv_at hl 5 rfl) ?_
        have hR0 := ob_ok hR
        clear hR
        obtain ⟨q7, hq7, hR⟩ := hR0
        refine va_calli (va_runS (As := [.int x5]) (rest := []) ⟨hx, hb, hml, hown, hts⟩ (cc_X9_isSum l dC dI fu H5.size x5 q7 hq7) (va_cwS 1 hts gX9_seen_X9_isSum rfl rfl rfl (by decide +kernel) ⟨Nat.le_of_ble_eq_true rfl, Nat.le_of_ble_eq_true rfl⟩) (pf_s (nil_K hK) nil_P (nil_D (A := A))) rfl rfl hl.1 rfl (lv_room (Nat.le_of_ble_eq_true rfl)) dX9_seen_26 ⟨Nat.le_refl _, Nat.le_refl _⟩) hS5 (fun q _ h => (fr_none hS5 hA) q h) (fr_none hS5 hA) (fun r7 v7 t7 H7 locs7 ht7 hvm7 hw7 hB7 hz7 hk7 hS7 => ?_)
        subst hw7
        have hP7 := jn_none hP5 hk7
        have hD7 := hD5
        have hP7 : va_P (dC, dI) vwCl (zc_9 a1 k1 s1) H7 := hP7
        have hD7 : va_D A (zc_9 a1 k1 s1) := hD7
        clear hP5 hD5 hS5 hB7 hk7 hvm7 hz7 ht7
        refine lv_if_eq (tgt := 66) hx hb dX9_seen_29 (by decide) (fun c8 => ?_) (fun c8 => ?_)
        · replace hR := ifp_ hR c8
          refine lv_iconst (v := (-1 : Int32)) hx hb dX9_seen_66 (by decide) ?_
          subst hQe
          exact W.iret (v := (-1 : Int32)) hx hb hr (fun t ht hW => ⟨⟨(-1 : Int32), s1, rfl, (Option.some.inj hR).symm, by rw [ht]; exact hP7, va_K.moved hW.alike hK, hD7⟩, hS7.F ht⟩) hS7.2.2 dX9_seen_67
        · replace hR := ifn_ hR c8
          refine lv_iload hx hb dX9_seen_32 (lv_at hl 6 rfl) ?_
          refine lv_iconst (v := (1 : Int32)) hx hb dX9_seen_34 (by decide) ?_
          refine lv_iconst (v := (4 : Int32)) hx hb dX9_seen_35 (by decide) ?_
          have hR0 := ob_ok hR
          clear hR
          obtain ⟨q9, hq9, hR⟩ := hR0
          refine va_calli (va_runS (As := [.int x6, .int (1 : Int32), .int (4 : Int32)]) (rest := []) ⟨hx, hb, hml, hown, hts⟩ (cc_X9_isWithin l dC dI fu H7.size x6 (1 : Int32) (4 : Int32) q9 hq9) (va_cwS 3 hts gX9_seen_X9_isWithin rfl rfl rfl (by decide +kernel) ⟨Nat.le_of_ble_eq_true rfl, Nat.le_of_ble_eq_true rfl⟩) (pf_s (nil_K hK) nil_P (nil_D (A := A))) rfl rfl hl.1 rfl (lv_room (Nat.le_of_ble_eq_true rfl)) dX9_seen_36 ⟨Nat.le_refl _, Nat.le_refl _⟩) hS7 (fun q _ h => (fr_none hS7 hA) q h) (fr_none hS7 hA) (fun r9 v9 t9 H9 locs9 ht9 hvm9 hw9 hB9 hz9 hk9 hS9 => ?_)
          subst hw9
          have hP9 := jn_none hP7 hk9
          have hD9 := hD7
          have hP9 : va_P (dC, dI) vwCl (zc_9 a1 k1 s1) H9 := hP9
          have hD9 : va_D A (zc_9 a1 k1 s1) := hD9
          clear hP7 hD7 hS7 hB9 hk9 hvm9 hz9 ht9
          refine lv_if_eq (tgt := 66) hx hb dX9_seen_39 (by decide) (fun c10 => ?_) (fun c10 => ?_)
          · replace hR := ifp_ hR c10
            refine lv_iconst (v := (-1 : Int32)) hx hb dX9_seen_66 (by decide) ?_
            subst hQe
            exact W.iret (v := (-1 : Int32)) hx hb hr (fun t ht hW => ⟨⟨(-1 : Int32), s1, rfl, (Option.some.inj hR).symm, by rw [ht]; exact hP9, va_K.moved hW.alike hK, hD9⟩, hS9.F ht⟩) hS9.2.2 dX9_seen_67
          · replace hR := ifn_ hR c10
            refine lv_iload hx hb dX9_seen_42 (lv_at hl 7 rfl) ?_
            refine lv_iconst (v := (0 : Int32)) hx hb dX9_seen_44 (by decide) ?_
            refine lv_bipush (v := (99 : Int32)) hx hb dX9_seen_45 (by decide) ?_
            have hR0 := ob_ok hR
            clear hR
            obtain ⟨q11, hq11, hR⟩ := hR0
            refine va_calli (va_runS (As := [.int x7, .int (0 : Int32), .int (99 : Int32)]) (rest := []) ⟨hx, hb, hml, hown, hts⟩ (cc_X9_isWithin l dC dI fu H9.size x7 (0 : Int32) (99 : Int32) q11 hq11) (va_cwS 3 hts gX9_seen_X9_isWithin rfl rfl rfl (by decide +kernel) ⟨Nat.le_of_ble_eq_true rfl, Nat.le_of_ble_eq_true rfl⟩) (pf_s (nil_K hK) nil_P (nil_D (A := A))) rfl rfl hl.1 rfl (lv_room (Nat.le_of_ble_eq_true rfl)) dX9_seen_47 ⟨Nat.le_refl _, Nat.le_refl _⟩) hS9 (fun q _ h => (fr_none hS9 hA) q h) (fr_none hS9 hA) (fun r11 v11 t11 H11 locs11 ht11 hvm11 hw11 hB11 hz11 hk11 hS11 => ?_)
            subst hw11
            have hP11 := jn_none hP9 hk11
            have hD11 := hD9
            have hP11 : va_P (dC, dI) vwCl (zc_9 a1 k1 s1) H11 := hP11
            have hD11 : va_D A (zc_9 a1 k1 s1) := hD11
            clear hP9 hD9 hS9 hB11 hk11 hvm11 hz11 ht11
            refine lv_if_eq (tgt := 66) hx hb dX9_seen_50 (by decide) (fun c12 => ?_) (fun c12 => ?_)
            · replace hR := ifp_ hR c12
              refine lv_iconst (v := (-1 : Int32)) hx hb dX9_seen_66 (by decide) ?_
              subst hQe
              exact W.iret (v := (-1 : Int32)) hx hb hr (fun t ht hW => ⟨⟨(-1 : Int32), s1, rfl, (Option.some.inj hR).symm, by rw [ht]; exact hP11, va_K.moved hW.alike hK, hD11⟩, hS11.F ht⟩) hS11.2.2 dX9_seen_67
            · replace hR := ifn_ hR c12
              refine lv_iload hx hb dX9_seen_53 (lv_at hl 8 rfl) ?_
              refine lv_iconst (v := (-1 : Int32)) hx hb dX9_seen_55 (by decide) ?_
              refine lv_iload hx hb dX9_seen_56 (lv_at hl 4 rfl) ?_
              refine lv_iconst (v := (1 : Int32)) hx hb dX9_seen_58 (by decide) ?_
              refine lv_isub hx hb dX9_seen_59 ?_
              have hR0 := ob_ok hR
              clear hR
              obtain ⟨q13, hq13, hR⟩ := hR0
              refine va_calli (va_runS (As := [.int x8, .int (-1 : Int32), .int (x4 - (1 : Int32))]) (rest := []) ⟨hx, hb, hml, hown, hts⟩ (cc_X9_isWithin l dC dI fu H11.size x8 (-1 : Int32) (x4 - (1 : Int32)) q13 hq13) (va_cwS 3 hts gX9_seen_X9_isWithin rfl rfl rfl (by decide +kernel) ⟨Nat.le_of_ble_eq_true rfl, Nat.le_of_ble_eq_true rfl⟩) (pf_s (nil_K hK) nil_P (nil_D (A := A))) rfl rfl hl.1 rfl (lv_room (Nat.le_of_ble_eq_true rfl)) dX9_seen_60 ⟨Nat.le_refl _, Nat.le_refl _⟩) hS11 (fun q _ h => (fr_none hS11 hA) q h) (fr_none hS11 hA) (fun r13 v13 t13 H13 locs13 ht13 hvm13 hw13 hB13 hz13 hk13 hS13 => ?_)
              subst hw13
              have hP13 := jn_none hP11 hk13
              have hD13 := hD11
              have hP13 : va_P (dC, dI) vwCl (zc_9 a1 k1 s1) H13 := hP13
              have hD13 : va_D A (zc_9 a1 k1 s1) := hD13
              clear hP11 hD11 hS11 hB13 hk13 hvm13 hz13 ht13
              refine lv_if_ne (tgt := 68) hx hb dX9_seen_63 (by decide) (fun c14 => ?_) (fun c14 => ?_)
              · replace hR := ifn_ hR c14
                refine lv_aload_n hx hb dX9_seen_68 rfl (lv_at hl 0 rfl) ?_
                refine va_get (D := (dC, dI)) (ci := 9) (v := .ref (a1 66)) (C := RX9) (T := TX9) (N := 14) hx hb hts hin9 hown hK hP13 0 rfl rfl 13 (by decide) (hts (.fieldLink RX9 83 "OldestCoins" "sheets" "LOldestCoins$Sheets;") (List.mem_of_getElem? (i := 1) rfl)) (fun _ h9 => h9) rfl dX9_seen_69 ?_
                refine lv_iload_n hx hb dX9_seen_72 rfl (lv_at hl 1 rfl) ?_
                refine lv_iload_n hx hb dX9_seen_73 rfl (lv_at hl 2 rfl) ?_
                refine lv_iload_n hx hb dX9_seen_74 rfl (lv_at hl 3 rfl) ?_
                refine lv_iload hx hb dX9_seen_75 (lv_at hl 4 rfl) ?_
                have hR0 := ob_ok hR
                clear hR
                obtain ⟨q15, hq15, hR⟩ := hR0
                refine va_calli (va_runV (As := [.int x1, .int x2, .int x3, .int x4]) (rest := []) ⟨hx, hb, hml, hown, hts⟩ (cc_X5_refusal l dC dI fu (sh_ a1 66) (sh_ k1 66) H13.size x1 x2 x3 x4 s1.2.2.2.2.2.2.2.2.2.2.2.2.2 q15 hq15) (cwV 4 hts gX9_seen_X5_refusal rfl rfl rfl (by decide +kernel) ⟨Nat.le_of_ble_eq_true rfl, Nat.le_of_ble_eq_true rfl⟩) (pf_v (hK.sub (tys' := zt_5 (sh_ k1 66)) [48, 49, 50] rfl) (sub_P (sb_9__0c66 a1 k1 s1) hP13) (sub_D (sb_9__0c66 a1 k1 s1) rfl hD13) 5 0 rfl rfl rfl) rfl rfl hl.1 rfl (lv_room (Nat.le_of_ble_eq_true rfl)) dX9_seen_77 ⟨Nat.le_refl _, Nat.le_refl _⟩) hS13 (fun q _ h => (sub_F (sb_9__0c66 a1 k1 s1) hD13 hS13 hA) q h) (sub_F (sb_9__0c66 a1 k1 s1) hD13 hS13 hA) (fun r15 v15 t15 H15 locs15 ht15 hvm15 hw15 hB15 hz15 hk15 hS15 => ?_)
                subst hw15
                obtain ⟨hP15, hD15⟩ := jn_sub (sb_9__0c66 a1 k1 s1) (jo_9__0c66__ a1 k1 s1 ) rfl hP13 hD13 hS13 hA hk15 ht15 hB15
                have hP15 : va_P (dC, dI) vwCl (zc_9 a1 k1 s1) H15 := hP15
                have hD15 : va_D A (zc_9 a1 k1 s1) := hD15
                clear hP13 hD13 hS13 hB15 hk15 hvm15 hz15 ht15
                refine lv_istore (lv' := [(9, .int q15), (0, .ref (a1 0)), (1, .int x1), (2, .int x2), (3, .int x3), (4, .int x4), (5, .int x5), (6, .int x6), (7, .int x7), (8, .int x8)]) hx hb dX9_seen_80 hl (by decide) rfl (fun ls16 hl16 => ?_)
                refine lv_iload hx hb dX9_seen_82 (lv_at hl16 0 rfl) ?_
                refine lv_if_eq (tgt := 90) hx hb dX9_seen_84 (by decide) (fun c17 => ?_) (fun c17 => ?_)
                · replace hR := ifp_ hR c17
                  refine lv_iconst (v := (0 : Int32)) hx hb dX9_seen_90 (by decide) ?_
                  refine lv_istore (lv' := [(10, .int (0 : Int32)), (9, .int q15), (0, .ref (a1 0)), (1, .int x1), (2, .int x2), (3, .int x3), (4, .int x4), (5, .int x5), (6, .int x6), (7, .int x7), (8, .int x8)]) hx hb dX9_seen_91 hl16 (by decide) rfl (fun ls18 hl18 => ?_)
                  exact hB93 fu x1 x3 x4 x5 x6 x7 x8 (0 : Int32) s1 H15 locs15 ls18 hP15 hD15 hS15 (lv_sub hl18 [2, 3, 5, 6, 7, 8, 9, 10, 0] rfl) hR
                · replace hR := ifn_ hR c17
                  refine lv_iload hx hb dX9_seen_87 (lv_at hl16 0 rfl) ?_
                  subst hQe
                  exact W.iret (v := q15) hx hb hr (fun t ht hW => ⟨⟨q15, s1, rfl, (Option.some.inj hR).symm, by rw [ht]; exact hP15, va_K.moved hW.alike hK, hD15⟩, hS15.F ht⟩) hS15.2.2 dX9_seen_89
              · replace hR := ifp_ hR c14
                refine lv_iconst (v := (-1 : Int32)) hx hb dX9_seen_66 (by decide) ?_
                subst hQe
                exact W.iret (v := (-1 : Int32)) hx hb hr (fun t ht hW => ⟨⟨(-1 : Int32), s1, rfl, (Option.some.inj hR).symm, by rw [ht]; exact hP13, va_K.moved hW.alike hK, hD13⟩, hS13.F ht⟩) hS13.2.2 dX9_seen_67
def rr_X9_restore (fu : Nat) (s1 : ZT_9) : Option (Int32 × ZT_9) := (if s1.2.2.1 = (0 : Int32) then some ((-4 : Int32), s1) else (rr_X8_copyFrom fu s1.1 s1.2.1).bind (fun q2 => some ((1 : Int32), (q2, s1.2.1, s1.2.2.1, s1.2.2.2.1, (1 : Int32), s1.2.2.2.2.2))))
set_option maxHeartbeats 4000000 in
set_option maxRecDepth 100000 in
theorem cc_X9_restore (l : Launch) (dC : Nat → ClassId) (dI : Nat → Nat → Nat) (fu : Nat) (a1 : Nat → Nat) (k1 : Nat → ClassId) (sz : Nat) (s1 : ZT_9) (res : Int32 × ZT_9) (hR : rr_X9_restore fu s1 = some res) : Met l yX9_restore wsX9_restore ({ frames := 4, cells := 0, slots := 0, locals := 89 } : Room) (PcF [.ref (a1 0)] sz (dC, dI) (zc_9 a1 k1 s1) (zt_9 k1)) (va_Qi (fun (r : Int32) (u : ZT_9) => res = (r, u)) (fun u t => at3_ (dC, dI) (zc_9 a1 k1 u) (zt_9 k1) (va_A (zc_9 a1 k1 s1) sz) t) (va_A (zc_9 a1 k1 s1) sz)) 0 0 (va_A (zc_9 a1 k1 s1) sz) := by
  refine Met.ofW (cc := cX9_restore) (maxL := 1) (ret := (some .int)) (by decide) rfl ?_
  intro p e s m args below meth c s₁ B hml hv
  obtain ⟨hav, hsz, hP, hK, hD0⟩ := hv
  have hx := B.exec
  have hb := B.bytes
  have hr := B.returns
  have hts := atoms_spec (ws := wsX9_restore) B.pre
  have hown : s.vm.findClass RX9 = some m.cls := findClass_of_methodNamed B.named
  have hlocks := B.notSynchronized
  have hin9 : ∀ w ∈ wsX90, w ∈ wsX9_restore := fun w h => List.mem_cons_of_mem _ (List.mem_append_left _ (List.mem_append_left _ (List.mem_append_left _ (List.mem_append_right _ h))))
  subst hsz
  have hD := hD0.self (sz := s.heap.size)
  clear hD0
  generalize hAe : va_A (zc_9 a1 k1 s1) s.heap.size = A at hD ⊢
  have hA : ∀ q : Nat, s.heap.size ≤ q → A q := fun q h => by rw [← hAe]; exact Or.inr h
  have hS : va_S A s.heap s.heap [] := va_S.rf
  generalize hQe : MQ below _ args s 0 0 A = Q
  rw [show entryFrame m args 1 = F0 m 0 ((lg_sl ([.ref (a1 0)]) ++ List.replicate (1 - (lg_sl ([.ref (a1 0)])).length) Slot.unset).toArray) [] from by rw [hav]; exact lg_entry_eq m _ _]
  have hl := lv_entry ([.ref (a1 0)]) (n := 1) (Nat.le_of_ble_eq_true rfl)
  generalize (lg_sl ([.ref (a1 0)]) ++ List.replicate (1 - (lg_sl ([.ref (a1 0)])).length) Slot.unset).toArray = ls at hl ⊢
  have hl : lv_has ls 1 [(0, .ref (a1 0))] := hl
  unfold rr_X9_restore at hR
  refine lv_aload_n hx hb dX9_restore_0 rfl (lv_at hl 0 rfl) ?_
  refine va_get (D := (dC, dI)) (ci := 9) (v := .int s1.2.2.1) (C := RX9) (T := TX9) (N := 14) hx hb hts hin9 hown hK hP 0 rfl rfl 2 (by decide) (hts (.fieldLink RX9 283 "OldestCoins" "hasImage" "Z") (List.mem_of_getElem? (i := 1) rfl)) (fun _ h9 => h9) rfl dX9_restore_1 ?_
  refine lv_if_ne (tgt := 10) hx hb dX9_restore_4 (by decide) (fun c1 => ?_) (fun c1 => ?_)
  · replace hR := ifn_ hR c1
    refine lv_aload_n hx hb dX9_restore_10 rfl (lv_at hl 0 rfl) ?_
    refine va_get (D := (dC, dI)) (ci := 9) (v := .ref (a1 1)) (C := RX9) (T := TX9) (N := 14) hx hb hts hin9 hown hK hP 0 rfl rfl 0 (by decide) (hts (.fieldLink RX9 10 "OldestCoins" "town" "LOldestCoins$Town;") (List.mem_of_getElem? (i := 2) rfl)) (fun _ h9 => h9) rfl dX9_restore_11 ?_
    refine lv_aload_n hx hb dX9_restore_14 rfl (lv_at hl 0 rfl) ?_
    refine va_get (D := (dC, dI)) (ci := 9) (v := .ref (a1 16)) (C := RX9) (T := TX9) (N := 14) hx hb hts hin9 hown hK hP 0 rfl rfl 1 (by decide) (hts (.fieldLink RX9 16 "OldestCoins" "kept" "LOldestCoins$Town;") (List.mem_of_getElem? (i := 3) rfl)) (fun _ h9 => h9) rfl dX9_restore_15 ?_
    have hR0 := ob_ok hR
    clear hR
    obtain ⟨q2, hq2, hR⟩ := hR0
    refine va_callv (va_runV (As := [.ref (a1 16)]) (rest := []) ⟨hx, hb, hml, hown, hts⟩ (cc_X8_copyFrom l dC dI fu (sh_ a1 1) (sh_ a1 16) (sh_ k1 1) (sh_ k1 16) s.heap.size s1.1 s1.2.1 q2 hq2) (cwV 1 hts gX9_restore_X8_copyFrom rfl rfl rfl (by decide +kernel) ⟨Nat.le_of_ble_eq_true rfl, Nat.le_of_ble_eq_true rfl⟩) (pf_v (hK.sub (tys' := zt_8 (sh_ k1 1) ++ zt_8 (sh_ k1 16)) [0, 1, 2, 3, 4, 5, 6, 7, 8, 9, 10, 11, 12, 13, 14, 15, 16, 17, 18, 19, 20, 21] rfl) (sub_P (sb_9__0c1_0c16 a1 k1 s1) hP) (sub_D (sb_9__0c1_0c16 a1 k1 s1) rfl hD) 8 0 rfl rfl rfl) rfl rfl hl.1 rfl (lv_room (Nat.le_of_ble_eq_true rfl)) dX9_restore_18 ⟨Nat.le_refl _, Nat.le_refl _⟩) hS (fun q _ h => (sub_F (sb_9__0c1_0c16 a1 k1 s1) hD hS hA) q h) (sub_F (sb_9__0c1_0c16 a1 k1 s1) hD hS hA) (fun v2 t2 H2 locs2 ht2 hvm2 hw2 hB2 hz2 hk2 hS2 => ?_)
    subst hw2
    obtain ⟨hP2, hD2⟩ := jn_sub (sb_9__0c1_0c16 a1 k1 s1) (jo_9__0c1_0c16__0 a1 k1 s1 q2) rfl hP hD hS hA hk2 ht2 hB2
    have hP2 : va_P (dC, dI) vwCl (zc_9 a1 k1 (q2, s1.2)) H2 := hP2
    have hD2 : va_D A (zc_9 a1 k1 (q2, s1.2)) := hD2
    clear hP hD hS hB2 hk2 hvm2 hz2 ht2
    refine lv_aload_n hx hb dX9_restore_21 rfl (lv_at hl 0 rfl) ?_
    refine lv_iconst (v := (1 : Int32)) hx hb dX9_restore_22 (by decide) ?_
    refine va_put (D := (dC, dI)) (ci := 9) (v := .int (1 : Int32)) (ty := .boolean) (C := RX9) (T := TX9) (N := 14) hx hb hts hin9 tyX9 tyX9_ok nmX9 hown hK hP2 hD2 hS2 0 rfl rfl 4 (by decide) (hts (.fieldLink RX9 26 "OldestCoins" "ranksAreOld" "Z") (List.mem_of_getElem? (i := 4) rfl)) (fun _ h9 => h9) rfl (by decide +kernel) rfl rfl (Nat.le_of_ble_eq_true rfl) dX9_restore_23 (fun H3 locs3 hP3 hD3 hS3 => ?_)
    have hP3 : va_P (dC, dI) vwCl (zc_9 a1 k1 (q2, s1.2.1, s1.2.2.1, s1.2.2.2.1, (1 : Int32), s1.2.2.2.2.2)) H3 := hP3
    have hD3 : va_D A (zc_9 a1 k1 (q2, s1.2.1, s1.2.2.1, s1.2.2.2.1, (1 : Int32), s1.2.2.2.2.2)) := hD3
    clear hP2 hD2 hS2
    refine lv_iconst (v := (1 : Int32)) hx hb dX9_restore_26 (by decide) ?_
    subst hQe
    exact W.iret (v := (1 : Int32)) hx hb hr (fun t ht hW => ⟨⟨(1 : Int32), (q2, s1.2.1, s1.2.2.1, s1.2.2.2.1, (1 : Int32), s1.2.2.2.2.2), rfl, (Option.some.inj hR).symm, by rw [ht]; exact hP3, va_K.moved hW.alike hK, hD3⟩, hS3.F ht⟩) hS3.2.2 dX9_restore_27
  · replace hR := ifp_ hR c1
    refine lv_bipush (v := (-4 : Int32)) hx hb dX9_restore_7 (by decide) ?_
    subst hQe
    exact W.iret (v := (-4 : Int32)) hx hb hr (fun t ht hW => ⟨⟨(-4 : Int32), s1, rfl, (Option.some.inj hR).symm, by rw [ht]; exact hP, va_K.moved hW.alike hK, hD⟩, hS.F ht⟩) hS.2.2 dX9_restore_9
def rr_X9_image (fu : Nat) (s1 : ZT_9) : Option (Int32 × ZT_9) := (rr_X8_copyFrom fu s1.2.1 s1.1).bind (fun q1 => some ((1 : Int32), (s1.1, q1, (1 : Int32), s1.2.2.2)))
set_option maxHeartbeats 4000000 in
set_option maxRecDepth 100000 in
theorem cc_X9_image (l : Launch) (dC : Nat → ClassId) (dI : Nat → Nat → Nat) (fu : Nat) (a1 : Nat → Nat) (k1 : Nat → ClassId) (sz : Nat) (s1 : ZT_9) (res : Int32 × ZT_9) (hR : rr_X9_image fu s1 = some res) : Met l yX9_image wsX9_image ({ frames := 4, cells := 0, slots := 0, locals := 89 } : Room) (PcF [.ref (a1 0)] sz (dC, dI) (zc_9 a1 k1 s1) (zt_9 k1)) (va_Qi (fun (r : Int32) (u : ZT_9) => res = (r, u)) (fun u t => at3_ (dC, dI) (zc_9 a1 k1 u) (zt_9 k1) (va_A (zc_9 a1 k1 s1) sz) t) (va_A (zc_9 a1 k1 s1) sz)) 0 0 (va_A (zc_9 a1 k1 s1) sz) := by
  refine Met.ofW (cc := cX9_image) (maxL := 1) (ret := (some .int)) (by decide) rfl ?_
  intro p e s m args below meth c s₁ B hml hv
  obtain ⟨hav, hsz, hP, hK, hD0⟩ := hv
  have hx := B.exec
  have hb := B.bytes
  have hr := B.returns
  have hts := atoms_spec (ws := wsX9_image) B.pre
  have hown : s.vm.findClass RX9 = some m.cls := findClass_of_methodNamed B.named
  have hlocks := B.notSynchronized
  have hin9 : ∀ w ∈ wsX90, w ∈ wsX9_image := fun w h => List.mem_cons_of_mem _ (List.mem_append_left _ (List.mem_append_left _ (List.mem_append_left _ (List.mem_append_right _ h))))
  subst hsz
  have hD := hD0.self (sz := s.heap.size)
  clear hD0
  generalize hAe : va_A (zc_9 a1 k1 s1) s.heap.size = A at hD ⊢
  have hA : ∀ q : Nat, s.heap.size ≤ q → A q := fun q h => by rw [← hAe]; exact Or.inr h
  have hS : va_S A s.heap s.heap [] := va_S.rf
  generalize hQe : MQ below _ args s 0 0 A = Q
  rw [show entryFrame m args 1 = F0 m 0 ((lg_sl ([.ref (a1 0)]) ++ List.replicate (1 - (lg_sl ([.ref (a1 0)])).length) Slot.unset).toArray) [] from by rw [hav]; exact lg_entry_eq m _ _]
  have hl := lv_entry ([.ref (a1 0)]) (n := 1) (Nat.le_of_ble_eq_true rfl)
  generalize (lg_sl ([.ref (a1 0)]) ++ List.replicate (1 - (lg_sl ([.ref (a1 0)])).length) Slot.unset).toArray = ls at hl ⊢
  have hl : lv_has ls 1 [(0, .ref (a1 0))] := hl
  unfold rr_X9_image at hR
  refine lv_aload_n hx hb dX9_image_0 rfl (lv_at hl 0 rfl) ?_
  refine va_get (D := (dC, dI)) (ci := 9) (v := .ref (a1 16)) (C := RX9) (T := TX9) (N := 14) hx hb hts hin9 hown hK hP 0 rfl rfl 1 (by decide) (hts (.fieldLink RX9 16 "OldestCoins" "kept" "LOldestCoins$Town;") (List.mem_of_getElem? (i := 1) rfl)) (fun _ h9 => h9) rfl dX9_image_1 ?_
  refine lv_aload_n hx hb dX9_image_4 rfl (lv_at hl 0 rfl) ?_
  refine va_get (D := (dC, dI)) (ci := 9) (v := .ref (a1 1)) (C := RX9) (T := TX9) (N := 14) hx hb hts hin9 hown hK hP 0 rfl rfl 0 (by decide) (hts (.fieldLink RX9 10 "OldestCoins" "town" "LOldestCoins$Town;") (List.mem_of_getElem? (i := 2) rfl)) (fun _ h9 => h9) rfl dX9_image_5 ?_
  have hR0 := ob_ok hR
  clear hR
  obtain ⟨q1, hq1, hR⟩ := hR0
  refine va_callv (va_runV (As := [.ref (a1 1)]) (rest := []) ⟨hx, hb, hml, hown, hts⟩ (cc_X8_copyFrom l dC dI fu (sh_ a1 16) (sh_ a1 1) (sh_ k1 16) (sh_ k1 1) s.heap.size s1.2.1 s1.1 q1 hq1) (cwV 1 hts gX9_image_X8_copyFrom rfl rfl rfl (by decide +kernel) ⟨Nat.le_of_ble_eq_true rfl, Nat.le_of_ble_eq_true rfl⟩) (pf_v (hK.sub (tys' := zt_8 (sh_ k1 16) ++ zt_8 (sh_ k1 1)) [11, 12, 13, 14, 15, 16, 17, 18, 19, 20, 21, 0, 1, 2, 3, 4, 5, 6, 7, 8, 9, 10] rfl) (sub_P (sb_9__0c16_0c1 a1 k1 s1) hP) (sub_D (sb_9__0c16_0c1 a1 k1 s1) rfl hD) 8 0 rfl rfl rfl) rfl rfl hl.1 rfl (lv_room (Nat.le_of_ble_eq_true rfl)) dX9_image_8 ⟨Nat.le_refl _, Nat.le_refl _⟩) hS (fun q _ h => (sub_F (sb_9__0c16_0c1 a1 k1 s1) hD hS hA) q h) (sub_F (sb_9__0c16_0c1 a1 k1 s1) hD hS hA) (fun v1 t1 H1 locs1 ht1 hvm1 hw1 hB1 hz1 hk1 hS1 => ?_)
  subst hw1
  obtain ⟨hP1, hD1⟩ := jn_sub (sb_9__0c16_0c1 a1 k1 s1) (jo_9__0c16_0c1__0 a1 k1 s1 q1) rfl hP hD hS hA hk1 ht1 hB1
  have hP1 : va_P (dC, dI) vwCl (zc_9 a1 k1 (s1.1, q1, s1.2.2)) H1 := hP1
  have hD1 : va_D A (zc_9 a1 k1 (s1.1, q1, s1.2.2)) := hD1
  clear hP hD hS hB1 hk1 hvm1 hz1 ht1
  refine lv_aload_n hx hb dX9_image_11 rfl (lv_at hl 0 rfl) ?_
  refine lv_iconst (v := (1 : Int32)) hx hb dX9_image_12 (by decide) ?_
  refine va_put (D := (dC, dI)) (ci := 9) (v := .int (1 : Int32)) (ty := .boolean) (C := RX9) (T := TX9) (N := 14) hx hb hts hin9 tyX9 tyX9_ok nmX9 hown hK hP1 hD1 hS1 0 rfl rfl 2 (by decide) (hts (.fieldLink RX9 283 "OldestCoins" "hasImage" "Z") (List.mem_of_getElem? (i := 3) rfl)) (fun _ h9 => h9) rfl (by decide +kernel) rfl rfl (Nat.le_of_ble_eq_true rfl) dX9_image_13 (fun H2 locs2 hP2 hD2 hS2 => ?_)
  have hP2 : va_P (dC, dI) vwCl (zc_9 a1 k1 (s1.1, q1, (1 : Int32), s1.2.2.2)) H2 := hP2
  have hD2 : va_D A (zc_9 a1 k1 (s1.1, q1, (1 : Int32), s1.2.2.2)) := hD2
  clear hP1 hD1 hS1
  refine lv_iconst (v := (1 : Int32)) hx hb dX9_image_16 (by decide) ?_
  subst hQe
  exact W.iret (v := (1 : Int32)) hx hb hr (fun t ht hW => ⟨⟨(1 : Int32), (s1.1, q1, (1 : Int32), s1.2.2.2), rfl, (Option.some.inj hR).symm, by rw [ht]; exact hP2, va_K.moved hW.alike hK, hD2⟩, hS2.F ht⟩) hS2.2.2 dX9_image_17
def rr_X9_runBill_b (fu : Nat) (x3 : Int32) (s1 : ZT_9) : Option (Int32 × ZT_9) := ck_ x3 24 (ck_ x3 24 (ck_ x3 24 ((rr_X1_meets fu (s1.1.2.2.1.2.1 x3.toNatClampNeg) (s1.1.2.2.1.2.2.1 x3.toNatClampNeg) (s1.1.2.2.1.2.2.2 x3.toNatClampNeg) s1.2.2.2.2.2.2.1 s1.2.2.2.1).bind (fun q4 => zk_ q4.1 (some (q4.1, (s1.1, s1.2.1, s1.2.2.1, s1.2.2.2.1, s1.2.2.2.2.1, s1.2.2.2.2.2.1, q4.2, s1.2.2.2.2.2.2.2)))))))
set_option maxHeartbeats 4000000 in
set_option maxRecDepth 100000 in
theorem cc_X9_runBill_b (l : Launch) (dC : Nat → ClassId) (dI : Nat → Nat → Nat) (fu : Nat) (a1 : Nat → Nat) (k1 : Nat → ClassId) (sz : Nat) (x3 : Int32) (s1 : ZT_9) (res : Int32 × ZT_9) (hR : rr_X9_runBill_b fu x3 s1 = some res) : Met l yX9_runBill wsX9_runBill ({ frames := 5, cells := 0, slots := 0, locals := 119 } : Room) (PcF [.ref (a1 0), .ref (a1 43), .ref (a1 31), .int x3] sz (dC, dI) (zc_9 a1 k1 s1) (zt_9 k1)) (va_Qi (fun (r : Int32) (u : ZT_9) => res = (r, u)) (fun u t => at3_ (dC, dI) (zc_9 a1 k1 u) (zt_9 k1) (va_A (zc_9 a1 k1 s1) sz) t) (va_A (zc_9 a1 k1 s1) sz)) 0 0 (va_A (zc_9 a1 k1 s1) sz) := by
  refine Met.ofW (cc := cX9_runBill) (maxL := 4) (ret := (some .boolean)) (by decide) rfl ?_
  intro p e s m args below meth c s₁ B hml hv
  obtain ⟨hav, hsz, hP, hK, hD0⟩ := hv
  have hx := B.exec
  have hb := B.bytes
  have hr := B.returns
  have hts := atoms_spec (ws := wsX9_runBill) B.pre
  have hown : s.vm.findClass RX9 = some m.cls := findClass_of_methodNamed B.named
  have hlocks := B.notSynchronized
  have hin0 : ∀ w ∈ wsX00, w ∈ wsX9_runBill := fun w h => List.mem_cons_of_mem _ (List.mem_append_left _ (List.mem_append_left _ (List.mem_append_right _ h)))
  have hin8 : ∀ w ∈ wsX80, w ∈ wsX9_runBill := fun w h => List.mem_cons_of_mem _ (List.mem_append_left _ (List.mem_append_left _ (List.mem_append_left _ (List.mem_append_right _ h))))
  have hin9 : ∀ w ∈ wsX90, w ∈ wsX9_runBill := fun w h => List.mem_cons_of_mem _ (List.mem_append_left _ (List.mem_append_left _ (List.mem_append_left _ (List.mem_append_left _ (List.mem_append_right _ h)))))
  subst hsz
  have hD := hD0.self (sz := s.heap.size)
  clear hD0
  generalize hAe : va_A (zc_9 a1 k1 s1) s.heap.size = A at hD ⊢
  have hA : ∀ q : Nat, s.heap.size ≤ q → A q := fun q h => by rw [← hAe]; exact Or.inr h
  have hS : va_S A s.heap s.heap [] := va_S.rf
  generalize hQe : MQ below _ args s 0 0 A = Q
  rw [show entryFrame m args 4 = F0 m 0 ((lg_sl ([.ref (a1 0), .ref (a1 43), .ref (a1 31), .int x3]) ++ List.replicate (4 - (lg_sl ([.ref (a1 0), .ref (a1 43), .ref (a1 31), .int x3])).length) Slot.unset).toArray) [] from by rw [hav]; exact lg_entry_eq m _ _]
  have hl := lv_entry ([.ref (a1 0), .ref (a1 43), .ref (a1 31), .int x3]) (n := 4) (Nat.le_of_ble_eq_true rfl)
  generalize (lg_sl ([.ref (a1 0), .ref (a1 43), .ref (a1 31), .int x3]) ++ List.replicate (4 - (lg_sl ([.ref (a1 0), .ref (a1 43), .ref (a1 31), .int x3])).length) Slot.unset).toArray = ls at hl ⊢
  have hl : lv_has ls 4 [(0, .ref (a1 0)), (1, .ref (a1 43)), (2, .ref (a1 31)), (3, .int x3)] := hl
  unfold rr_X9_runBill_b at hR
  refine lv_aload_n hx hb dX9_runBill_0 rfl (lv_at hl 1 rfl) ?_
  refine lv_aload_n hx hb dX9_runBill_1 rfl (lv_at hl 2 rfl) ?_
  refine lv_aload_n hx hb dX9_runBill_2 rfl (lv_at hl 0 rfl) ?_
  refine va_get (D := (dC, dI)) (ci := 9) (v := .ref (a1 1)) (C := RX9) (T := TX9) (N := 14) hx hb hts hin9 hown hK hP 0 rfl rfl 0 (by decide) (hts (.fieldLink RX9 10 "OldestCoins" "town" "LOldestCoins$Town;") (List.mem_of_getElem? (i := 1) rfl)) (fun _ h9 => h9) rfl dX9_runBill_3 ?_
  refine va_get (D := (dC, dI)) (ci := 8) (v := .ref (a1 8)) (C := RX8) (T := TX8) (N := 4) hx hb hts hin8 hown hK hP 1 rfl rfl 2 (by decide) (hts (.fieldLink RX9 187 "OldestCoins$Town" "day" "LOldestCoins$Bills;") (List.mem_of_getElem? (i := 2) rfl)) (fun _ h9 => h9) rfl dX9_runBill_6 ?_
  refine va_get (D := (dC, dI)) (ci := 0) (v := .ref (a1 9)) (C := RX0) (T := TX0) (N := 4) hx hb hts hin0 hown hK hP 8 rfl rfl 1 (by decide) (hts (.fieldLink RX9 333 "OldestCoins$Bills" "purse" "[I") (List.mem_of_getElem? (i := 3) rfl)) (fun _ h9 => h9) rfl dX9_runBill_9 ?_
  refine lv_iload_n hx hb dX9_runBill_12 rfl (lv_at hl 3 rfl) ?_
  have i1 := (ck_ok hR).1
  replace hR := (ck_ok hR).2
  refine va_iald (f := s1.1.2.2.1.2.1) hx hb hK hP 9 5 rfl rfl i1 dX9_runBill_13 ?_
  refine lv_aload_n hx hb dX9_runBill_14 rfl (lv_at hl 0 rfl) ?_
  refine va_get (D := (dC, dI)) (ci := 9) (v := .ref (a1 1)) (C := RX9) (T := TX9) (N := 14) hx hb hts hin9 hown hK hP 0 rfl rfl 0 (by decide) (hts (.fieldLink RX9 10 "OldestCoins" "town" "LOldestCoins$Town;") (List.mem_of_getElem? (i := 1) rfl)) (fun _ h9 => h9) rfl dX9_runBill_15 ?_
  refine va_get (D := (dC, dI)) (ci := 8) (v := .ref (a1 8)) (C := RX8) (T := TX8) (N := 4) hx hb hts hin8 hown hK hP 1 rfl rfl 2 (by decide) (hts (.fieldLink RX9 187 "OldestCoins$Town" "day" "LOldestCoins$Bills;") (List.mem_of_getElem? (i := 2) rfl)) (fun _ h9 => h9) rfl dX9_runBill_18 ?_
  refine va_get (D := (dC, dI)) (ci := 0) (v := .ref (a1 10)) (C := RX0) (T := TX0) (N := 4) hx hb hts hin0 hown hK hP 8 rfl rfl 2 (by decide) (hts (.fieldLink RX9 336 "OldestCoins$Bills" "shop" "[I") (List.mem_of_getElem? (i := 4) rfl)) (fun _ h9 => h9) rfl dX9_runBill_21 ?_
  refine lv_iload_n hx hb dX9_runBill_24 rfl (lv_at hl 3 rfl) ?_
  have i2 := (ck_ok hR).1
  replace hR := (ck_ok hR).2
  refine va_iald (f := s1.1.2.2.1.2.2.1) hx hb hK hP 10 6 rfl rfl i2 dX9_runBill_25 ?_
  refine lv_aload_n hx hb dX9_runBill_26 rfl (lv_at hl 0 rfl) ?_
  refine va_get (D := (dC, dI)) (ci := 9) (v := .ref (a1 1)) (C := RX9) (T := TX9) (N := 14) hx hb hts hin9 hown hK hP 0 rfl rfl 0 (by decide) (hts (.fieldLink RX9 10 "OldestCoins" "town" "LOldestCoins$Town;") (List.mem_of_getElem? (i := 1) rfl)) (fun _ h9 => h9) rfl dX9_runBill_27 ?_
  refine va_get (D := (dC, dI)) (ci := 8) (v := .ref (a1 8)) (C := RX8) (T := TX8) (N := 4) hx hb hts hin8 hown hK hP 1 rfl rfl 2 (by decide) (hts (.fieldLink RX9 187 "OldestCoins$Town" "day" "LOldestCoins$Bills;") (List.mem_of_getElem? (i := 2) rfl)) (fun _ h9 => h9) rfl dX9_runBill_30 ?_
  refine va_get (D := (dC, dI)) (ci := 0) (v := .ref (a1 11)) (C := RX0) (T := TX0) (N := 4) hx hb hts hin0 hown hK hP 8 rfl rfl 3 (by decide) (hts (.fieldLink RX9 339 "OldestCoins$Bills" "sum" "[I") (List.mem_of_getElem? (i := 5) rfl)) (fun _ h9 => h9) rfl dX9_runBill_33 ?_
  refine lv_iload_n hx hb dX9_runBill_36 rfl (lv_at hl 3 rfl) ?_
  have i3 := (ck_ok hR).1
  replace hR := (ck_ok hR).2
  refine va_iald (f := s1.1.2.2.1.2.2.2) hx hb hK hP 11 7 rfl rfl i3 dX9_runBill_37 ?_
  have hR0 := ob_ok hR
  clear hR
  obtain ⟨q4, hq4, hR⟩ := hR0
  refine va_calli (va_runV (As := [.ref (a1 31), .int (s1.1.2.2.1.2.1 x3.toNatClampNeg), .int (s1.1.2.2.1.2.2.1 x3.toNatClampNeg), .int (s1.1.2.2.1.2.2.2 x3.toNatClampNeg)]) (rest := []) ⟨hx, hb, hml, hown, hts⟩ (cc_X1_meets l dC dI fu (sh_ a1 43) (sh_ a1 31) (sh_ k1 43) (sh_ k1 31) s.heap.size (s1.1.2.2.1.2.1 x3.toNatClampNeg) (s1.1.2.2.1.2.2.1 x3.toNatClampNeg) (s1.1.2.2.1.2.2.2 x3.toNatClampNeg) s1.2.2.2.2.2.2.1 s1.2.2.2.1 q4 hq4) (cwV 4 hts gX9_runBill_X1_meets rfl rfl rfl (by decide +kernel) ⟨Nat.le_of_ble_eq_true rfl, Nat.le_of_ble_eq_true rfl⟩) (pf_v (hK.sub (tys' := zt_1 (sh_ k1 43) ++ zt_4 (sh_ k1 31)) [32, 22, 23, 24, 25, 26] rfl) (sub_P (sb_9__0c43_0c31 a1 k1 s1) hP) (sub_D (sb_9__0c43_0c31 a1 k1 s1) rfl hD) 1 0 rfl rfl rfl) rfl rfl hl.1 rfl (lv_room (Nat.le_of_ble_eq_true rfl)) dX9_runBill_38 ⟨Nat.le_refl _, Nat.le_refl _⟩) hS (fun q _ h => (sub_F (sb_9__0c43_0c31 a1 k1 s1) hD hS hA) q h) (sub_F (sb_9__0c43_0c31 a1 k1 s1) hD hS hA) (fun r4 v4 t4 H4 locs4 ht4 hvm4 hw4 hB4 hz4 hk4 hS4 => ?_)
  obtain rfl : r4 = q4.1 := (congrArg Prod.fst hw4).symm
  obtain rfl : v4 = q4.2 := (congrArg Prod.snd hw4).symm
  obtain ⟨hP4, hD4⟩ := jn_sub (sb_9__0c43_0c31 a1 k1 s1) (jo_9__0c43_0c31__0 a1 k1 s1 q4.2) rfl hP hD hS hA hk4 ht4 hB4
  have hP4 : va_P (dC, dI) vwCl (zc_9 a1 k1 (s1.1, s1.2.1, s1.2.2.1, s1.2.2.2.1, s1.2.2.2.2.1, s1.2.2.2.2.2.1, q4.2, s1.2.2.2.2.2.2.2)) H4 := hP4
  have hD4 : va_D A (zc_9 a1 k1 (s1.1, s1.2.1, s1.2.2.1, s1.2.2.2.1, s1.2.2.2.2.1, s1.2.2.2.2.2.1, q4.2, s1.2.2.2.2.2.2.2)) := hD4
  clear hP hD hS hB4 hk4 hvm4 hz4 ht4
  have z5 := (zk_ok hR).1
  replace hR := (zk_ok hR).2
  subst hQe
  exact W.zret (ty := .boolean) (v := q4.1) hx hb hr (zk_nar z5) (fun t ht hW => ⟨⟨q4.1, (s1.1, s1.2.1, s1.2.2.1, s1.2.2.2.1, s1.2.2.2.2.1, s1.2.2.2.2.2.1, q4.2, s1.2.2.2.2.2.2.2), rfl, (Option.some.inj hR).symm, by rw [ht]; exact hP4, va_K.moved hW.alike hK, hD4⟩, hS4.F ht⟩) hS4.2.2 dX9_runBill_41
def rr_X9_coinsPaid_b (fu : Nat) (x3 : Int32) (s1 : ZT_9) : Option (Int64 × ZT_9) := (rr_X9_runBill_b fu x3 s1).bind (fun q1 => (if q1.1 = (0 : Int32) then some ((0 : Int64), q1.2) else (rr_X4_numbersOf fu q1.2.2.2.2.2.2.2.1.2.1 q1.2.2.2.2.1).bind (fun q3 => some (q3, q1.2))))
set_option maxHeartbeats 4000000 in
set_option maxRecDepth 100000 in
theorem cc_X9_coinsPaid_b (l : Launch) (dC : Nat → ClassId) (dI : Nat → Nat → Nat) (fu : Nat) (a1 : Nat → Nat) (k1 : Nat → ClassId) (sz : Nat) (x3 : Int32) (s1 : ZT_9) (res : Int64 × ZT_9) (hR : rr_X9_coinsPaid_b fu x3 s1 = some res) : Met l yX9_coinsPaid wsX9_coinsPaid ({ frames := 6, cells := 0, slots := 0, locals := 142 } : Room) (PcF [.ref (a1 0), .ref (a1 43), .ref (a1 31), .int x3] sz (dC, dI) (zc_9 a1 k1 s1) (zt_9 k1)) (va_Ql (fun (r : Int64) (u : ZT_9) => res = (r, u)) (fun u t => at3_ (dC, dI) (zc_9 a1 k1 u) (zt_9 k1) (va_A (zc_9 a1 k1 s1) sz) t) (va_A (zc_9 a1 k1 s1) sz)) 0 0 (va_A (zc_9 a1 k1 s1) sz) := by
  refine Met.ofW (cc := cX9_coinsPaid) (maxL := 4) (ret := (some .long)) (by decide) rfl ?_
  intro p e s m args below meth c s₁ B hml hv
  obtain ⟨hav, hsz, hP, hK, hD0⟩ := hv
  have hx := B.exec
  have hb := B.bytes
  have hr := B.returns
  have hts := atoms_spec (ws := wsX9_coinsPaid) B.pre
  have hown : s.vm.findClass RX9 = some m.cls := findClass_of_methodNamed B.named
  have hlocks := B.notSynchronized
  have hin1 : ∀ w ∈ wsX10, w ∈ wsX9_coinsPaid := fun w h => List.mem_cons_of_mem _ (List.mem_append_left _ (List.mem_append_left _ (List.mem_append_left _ (List.mem_append_left _ (List.mem_append_right _ h)))))
  subst hsz
  have hD := hD0.self (sz := s.heap.size)
  clear hD0
  generalize hAe : va_A (zc_9 a1 k1 s1) s.heap.size = A at hD ⊢
  have hA : ∀ q : Nat, s.heap.size ≤ q → A q := fun q h => by rw [← hAe]; exact Or.inr h
  have hS : va_S A s.heap s.heap [] := va_S.rf
  generalize hQe : MQ below _ args s 0 0 A = Q
  rw [show entryFrame m args 4 = F0 m 0 ((lg_sl ([.ref (a1 0), .ref (a1 43), .ref (a1 31), .int x3]) ++ List.replicate (4 - (lg_sl ([.ref (a1 0), .ref (a1 43), .ref (a1 31), .int x3])).length) Slot.unset).toArray) [] from by rw [hav]; exact lg_entry_eq m _ _]
  have hl := lv_entry ([.ref (a1 0), .ref (a1 43), .ref (a1 31), .int x3]) (n := 4) (Nat.le_of_ble_eq_true rfl)
  generalize (lg_sl ([.ref (a1 0), .ref (a1 43), .ref (a1 31), .int x3]) ++ List.replicate (4 - (lg_sl ([.ref (a1 0), .ref (a1 43), .ref (a1 31), .int x3])).length) Slot.unset).toArray = ls at hl ⊢
  have hl : lv_has ls 4 [(0, .ref (a1 0)), (1, .ref (a1 43)), (2, .ref (a1 31)), (3, .int x3)] := hl
  unfold rr_X9_coinsPaid_b at hR
  refine lv_aload_n hx hb dX9_coinsPaid_0 rfl (lv_at hl 0 rfl) ?_
  refine lv_aload_n hx hb dX9_coinsPaid_1 rfl (lv_at hl 1 rfl) ?_
  refine lv_aload_n hx hb dX9_coinsPaid_2 rfl (lv_at hl 2 rfl) ?_
  refine lv_iload_n hx hb dX9_coinsPaid_3 rfl (lv_at hl 3 rfl) ?_
  have hR0 := ob_ok hR
  clear hR
  obtain ⟨q1, hq1, hR⟩ := hR0
  refine va_calli (va_runV (As := [.ref (a1 43), .ref (a1 31), .int x3]) (rest := []) ⟨hx, hb, hml, hown, hts⟩ (cc_X9_runBill_b l dC dI fu a1 k1 s.heap.size x3 s1 q1 hq1) (cwV 3 hts gX9_coinsPaid_X9_runBill rfl rfl rfl (by decide +kernel) ⟨Nat.le_of_ble_eq_true rfl, Nat.le_of_ble_eq_true rfl⟩) (pf_v hK hP hD 9 0 rfl rfl rfl) rfl rfl hl.1 rfl (lv_room (Nat.le_of_ble_eq_true rfl)) dX9_coinsPaid_4 ⟨Nat.le_refl _, Nat.le_refl _⟩) hS (fun q _ h => (fr_all hD hS hA) q h) (fr_all hD hS hA) (fun r1 v1 t1 H1 locs1 ht1 hvm1 hw1 hB1 hz1 hk1 hS1 => ?_)
  obtain rfl : r1 = q1.1 := (congrArg Prod.fst hw1).symm
  obtain rfl : v1 = q1.2 := (congrArg Prod.snd hw1).symm
  obtain ⟨hP1, hD1⟩ := jn_all hD hS hA ht1 hB1
  have hP1 : va_P (dC, dI) vwCl (zc_9 a1 k1 q1.2) H1 := hP1
  have hD1 : va_D A (zc_9 a1 k1 q1.2) := hD1
  clear hP hD hS hB1 hk1 hvm1 hz1 ht1
  refine lv_if_eq (tgt := 21) hx hb dX9_coinsPaid_7 (by decide) (fun c2 => ?_) (fun c2 => ?_)
  · replace hR := ifp_ hR c2
    refine lv_lconst (v := (0 : Int64)) hx hb dX9_coinsPaid_21 (by decide) ?_
    subst hQe
    exact W.lret (v := (0 : Int64)) hx hb hr (fun t ht hW => ⟨⟨(0 : Int64), q1.2, rfl, (Option.some.inj hR).symm, by rw [ht]; exact hP1, va_K.moved hW.alike hK, hD1⟩, hS1.F ht⟩) hS1.2.2 dX9_coinsPaid_22
  · replace hR := ifn_ hR c2
    refine lv_aload_n hx hb dX9_coinsPaid_10 rfl (lv_at hl 2 rfl) ?_
    refine lv_aload_n hx hb dX9_coinsPaid_11 rfl (lv_at hl 1 rfl) ?_
    refine va_get (D := (dC, dI)) (ci := 1) (v := .long q1.2.2.2.2.2.2.2.1.2.1) (C := RX1) (T := TX1) (N := 5) hx hb hts hin1 hown hK hP1 43 rfl rfl 1 (by decide) (hts (.fieldLink RX9 217 "OldestCoins$Board" "paid" "J") (List.mem_of_getElem? (i := 1) rfl)) (fun _ h9 => h9) rfl dX9_coinsPaid_12 ?_
    have hR0 := ob_ok hR
    clear hR
    obtain ⟨q3, hq3, hR⟩ := hR0
    refine va_calll (va_runV (As := [.long q1.2.2.2.2.2.2.2.1.2.1]) (rest := []) ⟨hx, hb, hml, hown, hts⟩ (cc_X4_numbersOf l dC dI fu (sh_ a1 31) (sh_ k1 31) H1.size q1.2.2.2.2.2.2.2.1.2.1 q1.2.2.2.2.1 q3 hq3) (cwV 1 hts gX9_coinsPaid_X4_numbersOf rfl rfl rfl (by decide +kernel) ⟨Nat.le_of_ble_eq_true rfl, Nat.le_of_ble_eq_true rfl⟩) (pf_v (hK.sub (tys' := zt_4 (sh_ k1 31)) [22, 23, 24, 25, 26] rfl) (sub_P (sb_9__0c31 a1 k1 q1.2) hP1) (sub_D (sb_9__0c31 a1 k1 q1.2) rfl hD1) 4 0 rfl rfl rfl) rfl rfl hl.1 rfl (lv_room (Nat.le_of_ble_eq_true rfl)) dX9_coinsPaid_15 ⟨Nat.le_refl _, Nat.le_refl _⟩) hS1 (fun q _ h => (sub_F (sb_9__0c31 a1 k1 q1.2) hD1 hS1 hA) q h) (sub_F (sb_9__0c31 a1 k1 q1.2) hD1 hS1 hA) (fun r3 v3 t3 H3 locs3 ht3 hvm3 hw3 hB3 hz3 hk3 hS3 => ?_)
    subst hw3
    obtain ⟨hP3, hD3⟩ := jn_sub (sb_9__0c31 a1 k1 q1.2) (jo_9__0c31__ a1 k1 q1.2 ) rfl hP1 hD1 hS1 hA hk3 ht3 hB3
    have hP3 : va_P (dC, dI) vwCl (zc_9 a1 k1 q1.2) H3 := hP3
    have hD3 : va_D A (zc_9 a1 k1 q1.2) := hD3
    clear hP1 hD1 hS1 hB3 hk3 hvm3 hz3 ht3
    refine lv_goto (tgt := 22) hx hb dX9_coinsPaid_18 (by decide) ?_
    subst hQe
    exact W.lret (v := q3) hx hb hr (fun t ht hW => ⟨⟨q3, q1.2, rfl, (Option.some.inj hR).symm, by rw [ht]; exact hP3, va_K.moved hW.alike hK, hD3⟩, hS3.F ht⟩) hS3.2.2 dX9_coinsPaid_22
def rr_X9_runBill_t (fu : Nat) (x3 : Int32) (s1 : ZT_9) : Option (Int32 × ZT_9) := ck_ x3 24 (ck_ x3 24 (ck_ x3 24 ((rr_X1_meets fu (s1.1.2.2.1.2.1 x3.toNatClampNeg) (s1.1.2.2.1.2.2.1 x3.toNatClampNeg) (s1.1.2.2.1.2.2.2 x3.toNatClampNeg) s1.2.2.2.2.2.2.2.1 s1.2.2.2.2.2.1).bind (fun q4 => zk_ q4.1 (some (q4.1, (s1.1, s1.2.1, s1.2.2.1, s1.2.2.2.1, s1.2.2.2.2.1, s1.2.2.2.2.2.1, s1.2.2.2.2.2.2.1, q4.2, s1.2.2.2.2.2.2.2.2)))))))
set_option maxHeartbeats 4000000 in
set_option maxRecDepth 100000 in
theorem cc_X9_runBill_t (l : Launch) (dC : Nat → ClassId) (dI : Nat → Nat → Nat) (fu : Nat) (a1 : Nat → Nat) (k1 : Nat → ClassId) (sz : Nat) (x3 : Int32) (s1 : ZT_9) (res : Int32 × ZT_9) (hR : rr_X9_runBill_t fu x3 s1 = some res) : Met l yX9_runBill wsX9_runBill ({ frames := 5, cells := 0, slots := 0, locals := 119 } : Room) (PcF [.ref (a1 0), .ref (a1 45), .ref (a1 37), .int x3] sz (dC, dI) (zc_9 a1 k1 s1) (zt_9 k1)) (va_Qi (fun (r : Int32) (u : ZT_9) => res = (r, u)) (fun u t => at3_ (dC, dI) (zc_9 a1 k1 u) (zt_9 k1) (va_A (zc_9 a1 k1 s1) sz) t) (va_A (zc_9 a1 k1 s1) sz)) 0 0 (va_A (zc_9 a1 k1 s1) sz) := by
  refine Met.ofW (cc := cX9_runBill) (maxL := 4) (ret := (some .boolean)) (by decide) rfl ?_
  intro p e s m args below meth c s₁ B hml hv
  obtain ⟨hav, hsz, hP, hK, hD0⟩ := hv
  have hx := B.exec
  have hb := B.bytes
  have hr := B.returns
  have hts := atoms_spec (ws := wsX9_runBill) B.pre
  have hown : s.vm.findClass RX9 = some m.cls := findClass_of_methodNamed B.named
  have hlocks := B.notSynchronized
  have hin0 : ∀ w ∈ wsX00, w ∈ wsX9_runBill := fun w h => List.mem_cons_of_mem _ (List.mem_append_left _ (List.mem_append_left _ (List.mem_append_right _ h)))
  have hin8 : ∀ w ∈ wsX80, w ∈ wsX9_runBill := fun w h => List.mem_cons_of_mem _ (List.mem_append_left _ (List.mem_append_left _ (List.mem_append_left _ (List.mem_append_right _ h))))
  have hin9 : ∀ w ∈ wsX90, w ∈ wsX9_runBill := fun w h => List.mem_cons_of_mem _ (List.mem_append_left _ (List.mem_append_left _ (List.mem_append_left _ (List.mem_append_left _ (List.mem_append_right _ h)))))
  subst hsz
  have hD := hD0.self (sz := s.heap.size)
  clear hD0
  generalize hAe : va_A (zc_9 a1 k1 s1) s.heap.size = A at hD ⊢
  have hA : ∀ q : Nat, s.heap.size ≤ q → A q := fun q h => by rw [← hAe]; exact Or.inr h
  have hS : va_S A s.heap s.heap [] := va_S.rf
  generalize hQe : MQ below _ args s 0 0 A = Q
  rw [show entryFrame m args 4 = F0 m 0 ((lg_sl ([.ref (a1 0), .ref (a1 45), .ref (a1 37), .int x3]) ++ List.replicate (4 - (lg_sl ([.ref (a1 0), .ref (a1 45), .ref (a1 37), .int x3])).length) Slot.unset).toArray) [] from by rw [hav]; exact lg_entry_eq m _ _]
  have hl := lv_entry ([.ref (a1 0), .ref (a1 45), .ref (a1 37), .int x3]) (n := 4) (Nat.le_of_ble_eq_true rfl)
  generalize (lg_sl ([.ref (a1 0), .ref (a1 45), .ref (a1 37), .int x3]) ++ List.replicate (4 - (lg_sl ([.ref (a1 0), .ref (a1 45), .ref (a1 37), .int x3])).length) Slot.unset).toArray = ls at hl ⊢
  have hl : lv_has ls 4 [(0, .ref (a1 0)), (1, .ref (a1 45)), (2, .ref (a1 37)), (3, .int x3)] := hl
  unfold rr_X9_runBill_t at hR
  refine lv_aload_n hx hb dX9_runBill_0 rfl (lv_at hl 1 rfl) ?_
  refine lv_aload_n hx hb dX9_runBill_1 rfl (lv_at hl 2 rfl) ?_
  refine lv_aload_n hx hb dX9_runBill_2 rfl (lv_at hl 0 rfl) ?_
  refine va_get (D := (dC, dI)) (ci := 9) (v := .ref (a1 1)) (C := RX9) (T := TX9) (N := 14) hx hb hts hin9 hown hK hP 0 rfl rfl 0 (by decide) (hts (.fieldLink RX9 10 "OldestCoins" "town" "LOldestCoins$Town;") (List.mem_of_getElem? (i := 1) rfl)) (fun _ h9 => h9) rfl dX9_runBill_3 ?_
  refine va_get (D := (dC, dI)) (ci := 8) (v := .ref (a1 8)) (C := RX8) (T := TX8) (N := 4) hx hb hts hin8 hown hK hP 1 rfl rfl 2 (by decide) (hts (.fieldLink RX9 187 "OldestCoins$Town" "day" "LOldestCoins$Bills;") (List.mem_of_getElem? (i := 2) rfl)) (fun _ h9 => h9) rfl dX9_runBill_6 ?_
  refine va_get (D := (dC, dI)) (ci := 0) (v := .ref (a1 9)) (C := RX0) (T := TX0) (N := 4) hx hb hts hin0 hown hK hP 8 rfl rfl 1 (by decide) (hts (.fieldLink RX9 333 "OldestCoins$Bills" "purse" "[I") (List.mem_of_getElem? (i := 3) rfl)) (fun _ h9 => h9) rfl dX9_runBill_9 ?_
  refine lv_iload_n hx hb dX9_runBill_12 rfl (lv_at hl 3 rfl) ?_
  have i1 := (ck_ok hR).1
  replace hR := (ck_ok hR).2
  refine va_iald (f := s1.1.2.2.1.2.1) hx hb hK hP 9 5 rfl rfl i1 dX9_runBill_13 ?_
  refine lv_aload_n hx hb dX9_runBill_14 rfl (lv_at hl 0 rfl) ?_
  refine va_get (D := (dC, dI)) (ci := 9) (v := .ref (a1 1)) (C := RX9) (T := TX9) (N := 14) hx hb hts hin9 hown hK hP 0 rfl rfl 0 (by decide) (hts (.fieldLink RX9 10 "OldestCoins" "town" "LOldestCoins$Town;") (List.mem_of_getElem? (i := 1) rfl)) (fun _ h9 => h9) rfl dX9_runBill_15 ?_
  refine va_get (D := (dC, dI)) (ci := 8) (v := .ref (a1 8)) (C := RX8) (T := TX8) (N := 4) hx hb hts hin8 hown hK hP 1 rfl rfl 2 (by decide) (hts (.fieldLink RX9 187 "OldestCoins$Town" "day" "LOldestCoins$Bills;") (List.mem_of_getElem? (i := 2) rfl)) (fun _ h9 => h9) rfl dX9_runBill_18 ?_
  refine va_get (D := (dC, dI)) (ci := 0) (v := .ref (a1 10)) (C := RX0) (T := TX0) (N := 4) hx hb hts hin0 hown hK hP 8 rfl rfl 2 (by decide) (hts (.fieldLink RX9 336 "OldestCoins$Bills" "shop" "[I") (List.mem_of_getElem? (i := 4) rfl)) (fun _ h9 => h9) rfl dX9_runBill_21 ?_
  refine lv_iload_n hx hb dX9_runBill_24 rfl (lv_at hl 3 rfl) ?_
  have i2 := (ck_ok hR).1
  replace hR := (ck_ok hR).2
  refine va_iald (f := s1.1.2.2.1.2.2.1) hx hb hK hP 10 6 rfl rfl i2 dX9_runBill_25 ?_
  refine lv_aload_n hx hb dX9_runBill_26 rfl (lv_at hl 0 rfl) ?_
  refine va_get (D := (dC, dI)) (ci := 9) (v := .ref (a1 1)) (C := RX9) (T := TX9) (N := 14) hx hb hts hin9 hown hK hP 0 rfl rfl 0 (by decide) (hts (.fieldLink RX9 10 "OldestCoins" "town" "LOldestCoins$Town;") (List.mem_of_getElem? (i := 1) rfl)) (fun _ h9 => h9) rfl dX9_runBill_27 ?_
  refine va_get (D := (dC, dI)) (ci := 8) (v := .ref (a1 8)) (C := RX8) (T := TX8) (N := 4) hx hb hts hin8 hown hK hP 1 rfl rfl 2 (by decide) (hts (.fieldLink RX9 187 "OldestCoins$Town" "day" "LOldestCoins$Bills;") (List.mem_of_getElem? (i := 2) rfl)) (fun _ h9 => h9) rfl dX9_runBill_30 ?_
  refine va_get (D := (dC, dI)) (ci := 0) (v := .ref (a1 11)) (C := RX0) (T := TX0) (N := 4) hx hb hts hin0 hown hK hP 8 rfl rfl 3 (by decide) (hts (.fieldLink RX9 339 "OldestCoins$Bills" "sum" "[I") (List.mem_of_getElem? (i := 5) rfl)) (fun _ h9 => h9) rfl dX9_runBill_33 ?_
  refine lv_iload_n hx hb dX9_runBill_36 rfl (lv_at hl 3 rfl) ?_
  have i3 := (ck_ok hR).1
  replace hR := (ck_ok hR).2
  refine va_iald (f := s1.1.2.2.1.2.2.2) hx hb hK hP 11 7 rfl rfl i3 dX9_runBill_37 ?_
  have hR0 := ob_ok hR
  clear hR
  obtain ⟨q4, hq4, hR⟩ := hR0
  refine va_calli (va_runV (As := [.ref (a1 37), .int (s1.1.2.2.1.2.1 x3.toNatClampNeg), .int (s1.1.2.2.1.2.2.1 x3.toNatClampNeg), .int (s1.1.2.2.1.2.2.2 x3.toNatClampNeg)]) (rest := []) ⟨hx, hb, hml, hown, hts⟩ (cc_X1_meets l dC dI fu (sh_ a1 45) (sh_ a1 37) (sh_ k1 45) (sh_ k1 37) s.heap.size (s1.1.2.2.1.2.1 x3.toNatClampNeg) (s1.1.2.2.1.2.2.1 x3.toNatClampNeg) (s1.1.2.2.1.2.2.2 x3.toNatClampNeg) s1.2.2.2.2.2.2.2.1 s1.2.2.2.2.2.1 q4 hq4) (cwV 4 hts gX9_runBill_X1_meets rfl rfl rfl (by decide +kernel) ⟨Nat.le_of_ble_eq_true rfl, Nat.le_of_ble_eq_true rfl⟩) (pf_v (hK.sub (tys' := zt_1 (sh_ k1 45) ++ zt_4 (sh_ k1 37)) [33, 27, 28, 29, 30, 31] rfl) (sub_P (sb_9__0c45_0c37 a1 k1 s1) hP) (sub_D (sb_9__0c45_0c37 a1 k1 s1) rfl hD) 1 0 rfl rfl rfl) rfl rfl hl.1 rfl (lv_room (Nat.le_of_ble_eq_true rfl)) dX9_runBill_38 ⟨Nat.le_refl _, Nat.le_refl _⟩) hS (fun q _ h => (sub_F (sb_9__0c45_0c37 a1 k1 s1) hD hS hA) q h) (sub_F (sb_9__0c45_0c37 a1 k1 s1) hD hS hA) (fun r4 v4 t4 H4 locs4 ht4 hvm4 hw4 hB4 hz4 hk4 hS4 => ?_)
  obtain rfl : r4 = q4.1 := (congrArg Prod.fst hw4).symm
  obtain rfl : v4 = q4.2 := (congrArg Prod.snd hw4).symm
  obtain ⟨hP4, hD4⟩ := jn_sub (sb_9__0c45_0c37 a1 k1 s1) (jo_9__0c45_0c37__0 a1 k1 s1 q4.2) rfl hP hD hS hA hk4 ht4 hB4
  have hP4 : va_P (dC, dI) vwCl (zc_9 a1 k1 (s1.1, s1.2.1, s1.2.2.1, s1.2.2.2.1, s1.2.2.2.2.1, s1.2.2.2.2.2.1, s1.2.2.2.2.2.2.1, q4.2, s1.2.2.2.2.2.2.2.2)) H4 := hP4
  have hD4 : va_D A (zc_9 a1 k1 (s1.1, s1.2.1, s1.2.2.1, s1.2.2.2.1, s1.2.2.2.2.1, s1.2.2.2.2.2.1, s1.2.2.2.2.2.2.1, q4.2, s1.2.2.2.2.2.2.2.2)) := hD4
  clear hP hD hS hB4 hk4 hvm4 hz4 ht4
  have z5 := (zk_ok hR).1
  replace hR := (zk_ok hR).2
  subst hQe
  exact W.zret (ty := .boolean) (v := q4.1) hx hb hr (zk_nar z5) (fun t ht hW => ⟨⟨q4.1, (s1.1, s1.2.1, s1.2.2.1, s1.2.2.2.1, s1.2.2.2.2.1, s1.2.2.2.2.2.1, s1.2.2.2.2.2.2.1, q4.2, s1.2.2.2.2.2.2.2.2), rfl, (Option.some.inj hR).symm, by rw [ht]; exact hP4, va_K.moved hW.alike hK, hD4⟩, hS4.F ht⟩) hS4.2.2 dX9_runBill_41
def rr_X9_coinsPaid_t (fu : Nat) (x3 : Int32) (s1 : ZT_9) : Option (Int64 × ZT_9) := (rr_X9_runBill_t fu x3 s1).bind (fun q1 => (if q1.1 = (0 : Int32) then some ((0 : Int64), q1.2) else (rr_X4_numbersOf fu q1.2.2.2.2.2.2.2.2.1.2.1 q1.2.2.2.2.2.2.1).bind (fun q3 => some (q3, q1.2))))
set_option maxHeartbeats 4000000 in
set_option maxRecDepth 100000 in
theorem cc_X9_coinsPaid_t (l : Launch) (dC : Nat → ClassId) (dI : Nat → Nat → Nat) (fu : Nat) (a1 : Nat → Nat) (k1 : Nat → ClassId) (sz : Nat) (x3 : Int32) (s1 : ZT_9) (res : Int64 × ZT_9) (hR : rr_X9_coinsPaid_t fu x3 s1 = some res) : Met l yX9_coinsPaid wsX9_coinsPaid ({ frames := 6, cells := 0, slots := 0, locals := 142 } : Room) (PcF [.ref (a1 0), .ref (a1 45), .ref (a1 37), .int x3] sz (dC, dI) (zc_9 a1 k1 s1) (zt_9 k1)) (va_Ql (fun (r : Int64) (u : ZT_9) => res = (r, u)) (fun u t => at3_ (dC, dI) (zc_9 a1 k1 u) (zt_9 k1) (va_A (zc_9 a1 k1 s1) sz) t) (va_A (zc_9 a1 k1 s1) sz)) 0 0 (va_A (zc_9 a1 k1 s1) sz) := by
  refine Met.ofW (cc := cX9_coinsPaid) (maxL := 4) (ret := (some .long)) (by decide) rfl ?_
  intro p e s m args below meth c s₁ B hml hv
  obtain ⟨hav, hsz, hP, hK, hD0⟩ := hv
  have hx := B.exec
  have hb := B.bytes
  have hr := B.returns
  have hts := atoms_spec (ws := wsX9_coinsPaid) B.pre
  have hown : s.vm.findClass RX9 = some m.cls := findClass_of_methodNamed B.named
  have hlocks := B.notSynchronized
  have hin1 : ∀ w ∈ wsX10, w ∈ wsX9_coinsPaid := fun w h => List.mem_cons_of_mem _ (List.mem_append_left _ (List.mem_append_left _ (List.mem_append_left _ (List.mem_append_left _ (List.mem_append_right _ h)))))
  subst hsz
  have hD := hD0.self (sz := s.heap.size)
  clear hD0
  generalize hAe : va_A (zc_9 a1 k1 s1) s.heap.size = A at hD ⊢
  have hA : ∀ q : Nat, s.heap.size ≤ q → A q := fun q h => by rw [← hAe]; exact Or.inr h
  have hS : va_S A s.heap s.heap [] := va_S.rf
  generalize hQe : MQ below _ args s 0 0 A = Q
  rw [show entryFrame m args 4 = F0 m 0 ((lg_sl ([.ref (a1 0), .ref (a1 45), .ref (a1 37), .int x3]) ++ List.replicate (4 - (lg_sl ([.ref (a1 0), .ref (a1 45), .ref (a1 37), .int x3])).length) Slot.unset).toArray) [] from by rw [hav]; exact lg_entry_eq m _ _]
  have hl := lv_entry ([.ref (a1 0), .ref (a1 45), .ref (a1 37), .int x3]) (n := 4) (Nat.le_of_ble_eq_true rfl)
  generalize (lg_sl ([.ref (a1 0), .ref (a1 45), .ref (a1 37), .int x3]) ++ List.replicate (4 - (lg_sl ([.ref (a1 0), .ref (a1 45), .ref (a1 37), .int x3])).length) Slot.unset).toArray = ls at hl ⊢
  have hl : lv_has ls 4 [(0, .ref (a1 0)), (1, .ref (a1 45)), (2, .ref (a1 37)), (3, .int x3)] := hl
  unfold rr_X9_coinsPaid_t at hR
  refine lv_aload_n hx hb dX9_coinsPaid_0 rfl (lv_at hl 0 rfl) ?_
  refine lv_aload_n hx hb dX9_coinsPaid_1 rfl (lv_at hl 1 rfl) ?_
  refine lv_aload_n hx hb dX9_coinsPaid_2 rfl (lv_at hl 2 rfl) ?_
  refine lv_iload_n hx hb dX9_coinsPaid_3 rfl (lv_at hl 3 rfl) ?_
  have hR0 := ob_ok hR
  clear hR
  obtain ⟨q1, hq1, hR⟩ := hR0
  refine va_calli (va_runV (As := [.ref (a1 45), .ref (a1 37), .int x3]) (rest := []) ⟨hx, hb, hml, hown, hts⟩ (cc_X9_runBill_t l dC dI fu a1 k1 s.heap.size x3 s1 q1 hq1) (cwV 3 hts gX9_coinsPaid_X9_runBill rfl rfl rfl (by decide +kernel) ⟨Nat.le_of_ble_eq_true rfl, Nat.le_of_ble_eq_true rfl⟩) (pf_v hK hP hD 9 0 rfl rfl rfl) rfl rfl hl.1 rfl (lv_room (Nat.le_of_ble_eq_true rfl)) dX9_coinsPaid_4 ⟨Nat.le_refl _, Nat.le_refl _⟩) hS (fun q _ h => (fr_all hD hS hA) q h) (fr_all hD hS hA) (fun r1 v1 t1 H1 locs1 ht1 hvm1 hw1 hB1 hz1 hk1 hS1 => ?_)
  obtain rfl : r1 = q1.1 := (congrArg Prod.fst hw1).symm
  obtain rfl : v1 = q1.2 := (congrArg Prod.snd hw1).symm
  obtain ⟨hP1, hD1⟩ := jn_all hD hS hA ht1 hB1
  have hP1 : va_P (dC, dI) vwCl (zc_9 a1 k1 q1.2) H1 := hP1
  have hD1 : va_D A (zc_9 a1 k1 q1.2) := hD1
  clear hP hD hS hB1 hk1 hvm1 hz1 ht1
  refine lv_if_eq (tgt := 21) hx hb dX9_coinsPaid_7 (by decide) (fun c2 => ?_) (fun c2 => ?_)
  · replace hR := ifp_ hR c2
    refine lv_lconst (v := (0 : Int64)) hx hb dX9_coinsPaid_21 (by decide) ?_
    subst hQe
    exact W.lret (v := (0 : Int64)) hx hb hr (fun t ht hW => ⟨⟨(0 : Int64), q1.2, rfl, (Option.some.inj hR).symm, by rw [ht]; exact hP1, va_K.moved hW.alike hK, hD1⟩, hS1.F ht⟩) hS1.2.2 dX9_coinsPaid_22
  · replace hR := ifn_ hR c2
    refine lv_aload_n hx hb dX9_coinsPaid_10 rfl (lv_at hl 2 rfl) ?_
    refine lv_aload_n hx hb dX9_coinsPaid_11 rfl (lv_at hl 1 rfl) ?_
    refine va_get (D := (dC, dI)) (ci := 1) (v := .long q1.2.2.2.2.2.2.2.2.1.2.1) (C := RX1) (T := TX1) (N := 5) hx hb hts hin1 hown hK hP1 45 rfl rfl 1 (by decide) (hts (.fieldLink RX9 217 "OldestCoins$Board" "paid" "J") (List.mem_of_getElem? (i := 1) rfl)) (fun _ h9 => h9) rfl dX9_coinsPaid_12 ?_
    have hR0 := ob_ok hR
    clear hR
    obtain ⟨q3, hq3, hR⟩ := hR0
    refine va_calll (va_runV (As := [.long q1.2.2.2.2.2.2.2.2.1.2.1]) (rest := []) ⟨hx, hb, hml, hown, hts⟩ (cc_X4_numbersOf l dC dI fu (sh_ a1 37) (sh_ k1 37) H1.size q1.2.2.2.2.2.2.2.2.1.2.1 q1.2.2.2.2.2.2.1 q3 hq3) (cwV 1 hts gX9_coinsPaid_X4_numbersOf rfl rfl rfl (by decide +kernel) ⟨Nat.le_of_ble_eq_true rfl, Nat.le_of_ble_eq_true rfl⟩) (pf_v (hK.sub (tys' := zt_4 (sh_ k1 37)) [27, 28, 29, 30, 31] rfl) (sub_P (sb_9__0c37 a1 k1 q1.2) hP1) (sub_D (sb_9__0c37 a1 k1 q1.2) rfl hD1) 4 0 rfl rfl rfl) rfl rfl hl.1 rfl (lv_room (Nat.le_of_ble_eq_true rfl)) dX9_coinsPaid_15 ⟨Nat.le_refl _, Nat.le_refl _⟩) hS1 (fun q _ h => (sub_F (sb_9__0c37 a1 k1 q1.2) hD1 hS1 hA) q h) (sub_F (sb_9__0c37 a1 k1 q1.2) hD1 hS1 hA) (fun r3 v3 t3 H3 locs3 ht3 hvm3 hw3 hB3 hz3 hk3 hS3 => ?_)
    subst hw3
    obtain ⟨hP3, hD3⟩ := jn_sub (sb_9__0c37 a1 k1 q1.2) (jo_9__0c37__ a1 k1 q1.2 ) rfl hP1 hD1 hS1 hA hk3 ht3 hB3
    have hP3 : va_P (dC, dI) vwCl (zc_9 a1 k1 q1.2) H3 := hP3
    have hD3 : va_D A (zc_9 a1 k1 q1.2) := hD3
    clear hP1 hD1 hS1 hB3 hk3 hvm3 hz3 ht3
    refine lv_goto (tgt := 22) hx hb dX9_coinsPaid_18 (by decide) ?_
    subst hQe
    exact W.lret (v := q3) hx hb hr (fun t ht hW => ⟨⟨q3, q1.2, rfl, (Option.some.inj hR).symm, by rw [ht]; exact hP3, va_K.moved hW.alike hK, hD3⟩, hS3.F ht⟩) hS3.2.2 dX9_coinsPaid_22
def rr_X9_isCoin (fu : Nat) (x1 : Int32) (s1 : ZT_9) : Option (Int32) := (rr_X9_isWithin fu x1 (0 : Int32) (s1.1.2.1.1 - (1 : Int32))).bind (fun q1 => zk_ q1 (some q1))
set_option maxHeartbeats 4000000 in
set_option maxRecDepth 100000 in
theorem cc_X9_isCoin (l : Launch) (dC : Nat → ClassId) (dI : Nat → Nat → Nat) (fu : Nat) (a1 : Nat → Nat) (k1 : Nat → ClassId) (sz : Nat) (x1 : Int32) (s1 : ZT_9) (res : Int32) (hR : rr_X9_isCoin fu x1 s1 = some res) : Met l yX9_isCoin wsX9_isCoin ({ frames := 1, cells := 0, slots := 0, locals := 22 } : Room) (PcF [.ref (a1 0), .int x1] sz (dC, dI) (zc_9 a1 k1 s1) (zt_9 k1)) (va_Qi (fun (r : Int32) (u : Unit) => res = r) (fun u t => at3_ (dC, dI) (zc_9 a1 k1 s1) (zt_9 k1) (va_A (zc_9 a1 k1 s1) sz) t) (va_A (zc_9 a1 k1 s1) sz)) 0 0 (va_A (zc_9 a1 k1 s1) sz) := by
  refine Met.ofW (cc := cX9_isCoin) (maxL := 2) (ret := (some .boolean)) (by decide) rfl ?_
  intro p e s m args below meth c s₁ B hml hv
  obtain ⟨hav, hsz, hP, hK, hD0⟩ := hv
  have hx := B.exec
  have hb := B.bytes
  have hr := B.returns
  have hts := atoms_spec (ws := wsX9_isCoin) B.pre
  have hown : s.vm.findClass RX9 = some m.cls := findClass_of_methodNamed B.named
  have hlocks := B.notSynchronized
  have hin2 : ∀ w ∈ wsX20, w ∈ wsX9_isCoin := fun w h => List.mem_cons_of_mem _ (List.mem_append_right _ h)
  have hin8 : ∀ w ∈ wsX80, w ∈ wsX9_isCoin := fun w h => List.mem_cons_of_mem _ (List.mem_append_left _ (List.mem_append_right _ h))
  have hin9 : ∀ w ∈ wsX90, w ∈ wsX9_isCoin := fun w h => List.mem_cons_of_mem _ (List.mem_append_left _ (List.mem_append_left _ (List.mem_append_right _ h)))
  subst hsz
  have hD := hD0.self (sz := s.heap.size)
  clear hD0
  generalize hAe : va_A (zc_9 a1 k1 s1) s.heap.size = A at hD ⊢
  have hA : ∀ q : Nat, s.heap.size ≤ q → A q := fun q h => by rw [← hAe]; exact Or.inr h
  have hS : va_S A s.heap s.heap [] := va_S.rf
  generalize hQe : MQ below _ args s 0 0 A = Q
  rw [show entryFrame m args 2 = F0 m 0 ((lg_sl ([.ref (a1 0), .int x1]) ++ List.replicate (2 - (lg_sl ([.ref (a1 0), .int x1])).length) Slot.unset).toArray) [] from by rw [hav]; exact lg_entry_eq m _ _]
  have hl := lv_entry ([.ref (a1 0), .int x1]) (n := 2) (Nat.le_of_ble_eq_true rfl)
  generalize (lg_sl ([.ref (a1 0), .int x1]) ++ List.replicate (2 - (lg_sl ([.ref (a1 0), .int x1])).length) Slot.unset).toArray = ls at hl ⊢
  have hl : lv_has ls 2 [(0, .ref (a1 0)), (1, .int x1)] := hl
  unfold rr_X9_isCoin at hR
  refine lv_iload_n hx hb dX9_isCoin_0 rfl (lv_at hl 1 rfl) ?_
  refine lv_iconst (v := (0 : Int32)) hx hb dX9_isCoin_1 (by decide) ?_
  refine lv_aload_n hx hb dX9_isCoin_2 rfl (lv_at hl 0 rfl) ?_
  refine va_get (D := (dC, dI)) (ci := 9) (v := .ref (a1 1)) (C := RX9) (T := TX9) (N := 14) hx hb hts hin9 hown hK hP 0 rfl rfl 0 (by decide) (hts (.fieldLink RX9 10 "OldestCoins" "town" "LOldestCoins$Town;") (List.mem_of_getElem? (i := 1) rfl)) (fun _ h9 => h9) rfl dX9_isCoin_3 ?_
  refine va_get (D := (dC, dI)) (ci := 8) (v := .ref (a1 2)) (C := RX8) (T := TX8) (N := 4) hx hb hts hin8 hown hK hP 1 rfl rfl 1 (by decide) (hts (.fieldLink RX9 98 "OldestCoins$Town" "coins" "LOldestCoins$Coins;") (List.mem_of_getElem? (i := 2) rfl)) (fun _ h9 => h9) rfl dX9_isCoin_6 ?_
  refine va_get (D := (dC, dI)) (ci := 2) (v := .int s1.1.2.1.1) (C := RX2) (T := TX2) (N := 6) hx hb hts hin2 hown hK hP 2 rfl rfl 0 (by decide) (hts (.fieldLink RX9 101 "OldestCoins$Coins" "size" "I") (List.mem_of_getElem? (i := 3) rfl)) (fun _ h9 => h9) rfl dX9_isCoin_9 ?_
  refine lv_iconst (v := (1 : Int32)) hx hb dX9_isCoin_12 (by decide) ?_
  refine lv_isub hx hb dX9_isCoin_13 ?_
  have hR0 := ob_ok hR
  clear hR
  obtain ⟨q1, hq1, hR⟩ := hR0
  refine va_calli (va_runS (As := [.int x1, .int (0 : Int32), .int (s1.1.2.1.1 - (1 : Int32))]) (rest := []) ⟨hx, hb, hml, hown, hts⟩ (cc_X9_isWithin l dC dI fu s.heap.size x1 (0 : Int32) (s1.1.2.1.1 - (1 : Int32)) q1 hq1) (va_cwS 3 hts gX9_isCoin_X9_isWithin rfl rfl rfl (by decide +kernel) ⟨Nat.le_of_ble_eq_true rfl, Nat.le_of_ble_eq_true rfl⟩) (pf_s (nil_K hK) nil_P (nil_D (A := A))) rfl rfl hl.1 rfl (lv_room (Nat.le_of_ble_eq_true rfl)) dX9_isCoin_14 ⟨Nat.le_refl _, Nat.le_refl _⟩) hS (fun q _ h => (fr_none hS hA) q h) (fr_none hS hA) (fun r1 v1 t1 H1 locs1 ht1 hvm1 hw1 hB1 hz1 hk1 hS1 => ?_)
  subst hw1
  have hP1 := jn_none hP hk1
  have hD1 := hD
  have hP1 : va_P (dC, dI) vwCl (zc_9 a1 k1 s1) H1 := hP1
  have hD1 : va_D A (zc_9 a1 k1 s1) := hD1
  clear hP hD hS hB1 hk1 hvm1 hz1 ht1
  have z2 := (zk_ok hR).1
  replace hR := (zk_ok hR).2
  subst hQe
  exact W.zret (ty := .boolean) (v := q1) hx hb hr (zk_nar z2) (fun t ht hW => ⟨⟨q1, (), rfl, (Option.some.inj hR).symm, by rw [ht]; exact hP1, va_K.moved hW.alike hK, hD1⟩, hS1.F ht⟩) hS1.2.2 dX9_isCoin_17
