def zi_0 : ZT_0 := (0, (fun _ => 0), (fun _ => 0), (fun _ => 0))
def zi_1 : ZT_1 := ((fun _ => 0), 0, 0, 0, 0)
def zi_2 : ZT_2 := (0, (fun _ => 0), (fun _ => 0), (fun _ => 0), (fun _ => 0), (fun _ => 0))
def zi_3 : ZT_3 := ((fun _ => 0), (fun _ => 0), 0, (fun _ => 0), 0, 0, 0, 0)
def zi_4 : ZT_4 := (0, (fun _ => 0), (fun _ => 0), (fun _ => 0), (fun _ => 0), (fun _ => 0))
def zi_5 : ZT_5 := ((upd (upd (upd (upd (fun _ => 0) (0 : Int32).toNatClampNeg (-1 : Int32)) (1 : Int32).toNatClampNeg (-1 : Int32)) (2 : Int32).toNatClampNeg (-1 : Int32)) (3 : Int32).toNatClampNeg (-1 : Int32)), (fun _ => 0), (fun _ => 0))
def zi_6 : ZT_6 := (0, -1, 0, (fun _ => 0))
def zi_7 : ZT_7 := (0, 0, 0, (fun _ => 0), (fun _ => 0), 0, 0)
def zi_8 : ZT_8 := (0, zi_2, zi_0, zi_0)
def zi_9 : ZT_9 := (zi_8, zi_8, 0, zi_4, 1, zi_4, zi_1, zi_1, zi_7, zi_3, zi_6, zi_2, zi_0, zi_5)
def zi_10 : ZT_10 := (((fun _ => 0), (fun _ => 0), (fun _ => 0), (fun _ => 0), (fun _ => 0), 0, 0), ((fun _ => 0), (fun _ => 0), 0), ((fun _ => 0), 0), ((fun _ => 0), 0), ((fun _ => 0), 0, 0, 0, (fun _ => 0)), (0, 0, 0, 0, 0), ((fun _ => 0), (fun _ => 0), (fun _ => 0)), ((fun _ => 0), (fun _ => 0)), (0, (fun _ => 0), (fun _ => 0)), ((upd (upd (upd (upd (fun _ => 0) (0 : Int32).toNatClampNeg (-1 : Int32)) (1 : Int32).toNatClampNeg (-1 : Int32)) (2 : Int32).toNatClampNeg (-1 : Int32)) (3 : Int32).toNatClampNeg (-1 : Int32)), (fun _ => 0), (fun _ => 0)))
/-- the words of the nest that the constructor needs -/
def nestC (U : State) : Prop := va_Nw (.methodLinkNest RX9 9 yX8_init RX9) U ∧ va_Nw (.methodLinkNest RX9 21 yX4_init RX9) U ∧ va_Nw (.methodLinkNest RX9 35 yX1_init RX9) U ∧ va_Nw (.methodLinkNest RX9 45 yX7_init RX9) U ∧ va_Nw (.methodLinkNest RX9 52 yX3_init RX9) U ∧ va_Nw (.methodLinkNest RX9 59 yX6_init RX9) U
def PcM (av : List Value) (sz : Nat) (D : va_G) (w : va_W) (T : List (ClassId × FieldType)) : Array Value → State → Prop := va_Pc av (fun U => U.heap.size = sz ∧ va_P D vwCl w U.heap ∧ va_K D vwCl T U ∧ va_D (fun _ => True) w ∧ nestC U)
set_option maxHeartbeats 4000000 in
set_option maxRecDepth 100000 in
theorem ci_X0_24 (l : Launch) (dC : Nat → ClassId) (dI : Nat → Nat → Nat) (h0 sz : Nat) : Met l yX0_init wsX0_init ({ frames := 1, cells := 3, slots := 72, locals := 12 } : Room) (PcF [.ref h0, .int (24 : Int32)] sz (dC, dI) [(h0, .inr (0, [.int 0, .null, .null, .null]))] []) (va_Qv (fun u : (Nat → Nat) × (Nat → ClassId) => u.1 0 = h0) (fun u t => at3_ (dC, dI) (zc_0 u.1 u.2 24 zi_0) (zt_0 u.2) (va_A [(h0, .inr (0, [.int 0, .null, .null, .null]))] sz) t) (va_A [(h0, .inr (0, [.int 0, .null, .null, .null]))] sz)) 3 72 (va_A [(h0, .inr (0, [.int 0, .null, .null, .null]))] sz) := by
  refine Met.ofW (cc := cX0_init) (maxL := 2) (ret := none) (by decide) rfl ?_
  intro p e s m args below meth c s₁ B hml hv
  obtain ⟨hav, hsz, hP, hK, hD0⟩ := hv
  have hx := B.exec
  have hb := B.bytes
  have hr := B.returns
  have hts := atoms_spec (ws := wsX0_init) B.pre
  have hown : s.vm.findClass RX0 = some m.cls := findClass_of_methodNamed B.named
  have hlocks := B.notSynchronized
  have hin : meth.name = "<init>" := (name_of_methodNamed B.named B.method).1
  have hin0 : ∀ w ∈ wsX00, w ∈ wsX0_init := fun w h => List.mem_cons_of_mem _ (List.mem_append_right _ h)
  subst hsz
  have hD := hD0.self (sz := s.heap.size)
  clear hD0
  generalize hAe : va_A [(h0, .inr (0, [.int 0, .null, .null, .null]))] s.heap.size = A at hD ⊢
  have hA : ∀ q : Nat, s.heap.size ≤ q → A q := fun q h => by rw [← hAe]; exact Or.inr h
  have hS : va_S A s.heap s.heap [] := va_S.rf
  rw [show entryFrame m args 2 = F0 m 0 ((lg_sl ([.ref h0, .int (24 : Int32)]) ++ List.replicate (2 - (lg_sl ([.ref h0, .int (24 : Int32)])).length) Slot.unset).toArray) [] from by rw [hav]; exact lg_entry_eq m _ _]
  have hl := lv_entry ([.ref h0, .int (24 : Int32)]) (n := 2) (Nat.le_of_ble_eq_true rfl)
  generalize (lg_sl ([.ref h0, .int (24 : Int32)]) ++ List.replicate (2 - (lg_sl ([.ref h0, .int (24 : Int32)])).length) Slot.unset).toArray = ls at hl ⊢
  have hl : lv_has ls 2 [(0, .ref h0), (1, .int (24 : Int32))] := hl
  refine lv_aload_n hx hb dX0_init_0 rfl (lv_at hl 0 rfl) ?_
  refine W.objInit hx hb hown (hts (.methodLink RX0 1 objectInit) (List.mem_of_getElem? (i := 1) rfl)) (hts (.instanceMethod objectInit) (List.mem_of_getElem? (i := 2) rfl)) (hts (.code objectInit ⟨#[0xb1]⟩ 1 none) (List.mem_of_getElem? (i := 3) rfl)) rfl (by rw [hml]; exact hl.1) rfl dX0_init_1 (Nat.le_of_ble_eq_true rfl) (Nat.le_of_ble_eq_true rfl) ?_
  refine W.eq (g2 := F0 m 4 ls []) rfl ?_
  refine lv_aload_n hx hb dX0_init_4 rfl (lv_at hl 0 rfl) ?_
  refine lv_iload_n hx hb dX0_init_5 rfl (lv_at hl 1 rfl) ?_
  refine va_newa (atype := .int) (a0 := (24, .inl (fun _ => 0))) (N' := 24) (ty := .int) hx hb (hts (.arrayClass .int) (List.mem_of_getElem? (i := 4) rfl)) rfl hK hP hD hS hA (fun _ => rfl) (by decide) (by decide) (by decide +kernel) (Nat.le_of_ble_eq_true rfl) (Nat.le_of_ble_eq_true rfl) dX0_init_6 (fun q1 cA1 H1 hK1 hP1 hD1 hS1 => ?_)
  have hK1 : va_K (dC, dI) vwCl ([(cA1, .int)]) s := hK1
  have hP1 : va_P (dC, dI) vwCl ([(h0, .inr (0, [.int 0, .null, .null, .null])), (q1, .inl (cA1, 24, .inl (fun _ => 0)))]) H1 := hP1
  have hD1 : va_D A ([(h0, .inr (0, [.int 0, .null, .null, .null])), (q1, .inl (cA1, 24, .inl (fun _ => 0)))]) := hD1
  clear hK hP hD hS
  refine W.widen (k := 1) (n := 24) (Nat.le_of_ble_eq_true rfl) (Nat.le_of_ble_eq_true rfl) ?_
  refine va_putF (D := (dC, dI)) (ci := 0) (v := .ref q1) (ty := (.array .int)) (C := RX0) (T := TX0) (N := 4) hx hb hts hin0 tyX0 tyX0_ok nmX0 hown hK1 hP1 hD1 hS1 0 rfl rfl 1 (by decide) (hts (.fieldLink RX0 7 "OldestCoins$Bills" "purse" "[I") (List.mem_of_getElem? (i := 5) rfl)) (fun _ h9 => h9) rfl hin rfl (by decide +kernel) rfl rfl (Nat.le_of_ble_eq_true rfl) dX0_init_8 (fun H2 locs2 hP2 hD2 hS2 => ?_)
  have hP2 : va_P (dC, dI) vwCl ([(h0, .inr (0, [.int 0, .ref q1, .null, .null])), (q1, .inl (cA1, 24, .inl (fun _ => 0)))]) H2 := hP2
  have hD2 : va_D A ([(h0, .inr (0, [.int 0, .ref q1, .null, .null])), (q1, .inl (cA1, 24, .inl (fun _ => 0)))]) := hD2
  clear hP1 hD1 hS1
  refine lv_aload_n hx hb dX0_init_11 rfl (lv_at hl 0 rfl) ?_
  refine lv_iload_n hx hb dX0_init_12 rfl (lv_at hl 1 rfl) ?_
  refine va_newa (atype := .int) (a0 := (24, .inl (fun _ => 0))) (N' := 24) (ty := .int) hx hb (hts (.arrayClass .int) (List.mem_of_getElem? (i := 4) rfl)) rfl hK1 hP2 hD2 hS2 hA (fun _ => rfl) (by decide) (by decide) (by decide +kernel) (Nat.le_of_ble_eq_true rfl) (Nat.le_of_ble_eq_true rfl) dX0_init_13 (fun q3 cA3 H3 hK3 hP3 hD3 hS3 => ?_)
  have hK3 : va_K (dC, dI) vwCl ([(cA1, .int), (cA3, .int)]) s := hK3
  have hP3 : va_P (dC, dI) vwCl ([(h0, .inr (0, [.int 0, .ref q1, .null, .null])), (q1, .inl (cA1, 24, .inl (fun _ => 0))), (q3, .inl (cA3, 24, .inl (fun _ => 0)))]) H3 := hP3
  have hD3 : va_D A ([(h0, .inr (0, [.int 0, .ref q1, .null, .null])), (q1, .inl (cA1, 24, .inl (fun _ => 0))), (q3, .inl (cA3, 24, .inl (fun _ => 0)))]) := hD3
  clear hK1 hP2 hD2 hS2
  refine W.widen (k := 2) (n := 48) (Nat.le_of_ble_eq_true rfl) (Nat.le_of_ble_eq_true rfl) ?_
  refine va_putF (D := (dC, dI)) (ci := 0) (v := .ref q3) (ty := (.array .int)) (C := RX0) (T := TX0) (N := 4) hx hb hts hin0 tyX0 tyX0_ok nmX0 hown hK3 hP3 hD3 hS3 0 rfl rfl 2 (by decide) (hts (.fieldLink RX0 13 "OldestCoins$Bills" "shop" "[I") (List.mem_of_getElem? (i := 6) rfl)) (fun _ h9 => h9) rfl hin rfl (by decide +kernel) rfl rfl (Nat.le_of_ble_eq_true rfl) dX0_init_15 (fun H4 locs4 hP4 hD4 hS4 => ?_)
  have hP4 : va_P (dC, dI) vwCl ([(h0, .inr (0, [.int 0, .ref q1, .ref q3, .null])), (q1, .inl (cA1, 24, .inl (fun _ => 0))), (q3, .inl (cA3, 24, .inl (fun _ => 0)))]) H4 := hP4
  have hD4 : va_D A ([(h0, .inr (0, [.int 0, .ref q1, .ref q3, .null])), (q1, .inl (cA1, 24, .inl (fun _ => 0))), (q3, .inl (cA3, 24, .inl (fun _ => 0)))]) := hD4
  clear hP3 hD3 hS3
  refine lv_aload_n hx hb dX0_init_18 rfl (lv_at hl 0 rfl) ?_
  refine lv_iload_n hx hb dX0_init_19 rfl (lv_at hl 1 rfl) ?_
  refine va_newa (atype := .int) (a0 := (24, .inl (fun _ => 0))) (N' := 24) (ty := .int) hx hb (hts (.arrayClass .int) (List.mem_of_getElem? (i := 4) rfl)) rfl hK3 hP4 hD4 hS4 hA (fun _ => rfl) (by decide) (by decide) (by decide +kernel) (Nat.le_of_ble_eq_true rfl) (Nat.le_of_ble_eq_true rfl) dX0_init_20 (fun q5 cA5 H5 hK5 hP5 hD5 hS5 => ?_)
  have hK5 : va_K (dC, dI) vwCl ([(cA1, .int), (cA3, .int), (cA5, .int)]) s := hK5
  have hP5 : va_P (dC, dI) vwCl ([(h0, .inr (0, [.int 0, .ref q1, .ref q3, .null])), (q1, .inl (cA1, 24, .inl (fun _ => 0))), (q3, .inl (cA3, 24, .inl (fun _ => 0))), (q5, .inl (cA5, 24, .inl (fun _ => 0)))]) H5 := hP5
  have hD5 : va_D A ([(h0, .inr (0, [.int 0, .ref q1, .ref q3, .null])), (q1, .inl (cA1, 24, .inl (fun _ => 0))), (q3, .inl (cA3, 24, .inl (fun _ => 0))), (q5, .inl (cA5, 24, .inl (fun _ => 0)))]) := hD5
  clear hK3 hP4 hD4 hS4
  refine W.widen (k := 3) (n := 72) (Nat.le_of_ble_eq_true rfl) (Nat.le_of_ble_eq_true rfl) ?_
  refine va_putF (D := (dC, dI)) (ci := 0) (v := .ref q5) (ty := (.array .int)) (C := RX0) (T := TX0) (N := 4) hx hb hts hin0 tyX0 tyX0_ok nmX0 hown hK5 hP5 hD5 hS5 0 rfl rfl 3 (by decide) (hts (.fieldLink RX0 16 "OldestCoins$Bills" "sum" "[I") (List.mem_of_getElem? (i := 7) rfl)) (fun _ h9 => h9) rfl hin rfl (by decide +kernel) rfl rfl (Nat.le_of_ble_eq_true rfl) dX0_init_22 (fun H6 locs6 hP6 hD6 hS6 => ?_)
  have hP6 : va_P (dC, dI) vwCl ([(h0, .inr (0, [.int 0, .ref q1, .ref q3, .ref q5])), (q1, .inl (cA1, 24, .inl (fun _ => 0))), (q3, .inl (cA3, 24, .inl (fun _ => 0))), (q5, .inl (cA5, 24, .inl (fun _ => 0)))]) H6 := hP6
  have hD6 : va_D A ([(h0, .inr (0, [.int 0, .ref q1, .ref q3, .ref q5])), (q1, .inl (cA1, 24, .inl (fun _ => 0))), (q3, .inl (cA3, 24, .inl (fun _ => 0))), (q5, .inl (cA5, 24, .inl (fun _ => 0)))]) := hD6
  clear hP5 hD5 hS5
  have hP9 := hP6.sub (ws' := zc_0 (fun i => [h0, q1, q3, q5].getD i 0) (fun i => [cA1, cA1, cA3, cA5].getD i (cA1)) 24 zi_0) [0, 1, 2, 3] rfl
  have hD9 := hD6.sub (ws' := zc_0 (fun i => [h0, q1, q3, q5].getD i 0) (fun i => [cA1, cA1, cA3, cA5].getD i (cA1)) 24 zi_0) [0, 1, 2, 3] (by decide) rfl
  have hK9 := hK5.sub (tys' := zt_0 (fun i => [cA1, cA1, cA3, cA5].getD i (cA1))) [0, 1, 2] rfl
  exact W.vret hx hb hr (fun t ht hW => ⟨⟨((fun i => [h0, q1, q3, q5].getD i 0), (fun i => [cA1, cA1, cA3, cA5].getD i (cA1))), rfl, rfl, by rw [ht]; exact hP9, va_K.moved hW.alike hK9, hD9⟩, hS6.F ht⟩) hS6.2.2 dX0_init_25
set_option maxHeartbeats 4000000 in
set_option maxRecDepth 100000 in
theorem ci_X0_6 (l : Launch) (dC : Nat → ClassId) (dI : Nat → Nat → Nat) (h0 sz : Nat) : Met l yX0_init wsX0_init ({ frames := 1, cells := 3, slots := 18, locals := 12 } : Room) (PcF [.ref h0, .int (6 : Int32)] sz (dC, dI) [(h0, .inr (0, [.int 0, .null, .null, .null]))] []) (va_Qv (fun u : (Nat → Nat) × (Nat → ClassId) => u.1 0 = h0) (fun u t => at3_ (dC, dI) (zc_0 u.1 u.2 6 zi_0) (zt_0 u.2) (va_A [(h0, .inr (0, [.int 0, .null, .null, .null]))] sz) t) (va_A [(h0, .inr (0, [.int 0, .null, .null, .null]))] sz)) 3 18 (va_A [(h0, .inr (0, [.int 0, .null, .null, .null]))] sz) := by
  refine Met.ofW (cc := cX0_init) (maxL := 2) (ret := none) (by decide) rfl ?_
  intro p e s m args below meth c s₁ B hml hv
  obtain ⟨hav, hsz, hP, hK, hD0⟩ := hv
  have hx := B.exec
  have hb := B.bytes
  have hr := B.returns
  have hts := atoms_spec (ws := wsX0_init) B.pre
  have hown : s.vm.findClass RX0 = some m.cls := findClass_of_methodNamed B.named
  have hlocks := B.notSynchronized
  have hin : meth.name = "<init>" := (name_of_methodNamed B.named B.method).1
  have hin0 : ∀ w ∈ wsX00, w ∈ wsX0_init := fun w h => List.mem_cons_of_mem _ (List.mem_append_right _ h)
  subst hsz
  have hD := hD0.self (sz := s.heap.size)
  clear hD0
  generalize hAe : va_A [(h0, .inr (0, [.int 0, .null, .null, .null]))] s.heap.size = A at hD ⊢
  have hA : ∀ q : Nat, s.heap.size ≤ q → A q := fun q h => by rw [← hAe]; exact Or.inr h
  have hS : va_S A s.heap s.heap [] := va_S.rf
  rw [show entryFrame m args 2 = F0 m 0 ((lg_sl ([.ref h0, .int (6 : Int32)]) ++ List.replicate (2 - (lg_sl ([.ref h0, .int (6 : Int32)])).length) Slot.unset).toArray) [] from by rw [hav]; exact lg_entry_eq m _ _]
  have hl := lv_entry ([.ref h0, .int (6 : Int32)]) (n := 2) (Nat.le_of_ble_eq_true rfl)
  generalize (lg_sl ([.ref h0, .int (6 : Int32)]) ++ List.replicate (2 - (lg_sl ([.ref h0, .int (6 : Int32)])).length) Slot.unset).toArray = ls at hl ⊢
  have hl : lv_has ls 2 [(0, .ref h0), (1, .int (6 : Int32))] := hl
  refine lv_aload_n hx hb dX0_init_0 rfl (lv_at hl 0 rfl) ?_
  refine W.objInit hx hb hown (hts (.methodLink RX0 1 objectInit) (List.mem_of_getElem? (i := 1) rfl)) (hts (.instanceMethod objectInit) (List.mem_of_getElem? (i := 2) rfl)) (hts (.code objectInit ⟨#[0xb1]⟩ 1 none) (List.mem_of_getElem? (i := 3) rfl)) rfl (by rw [hml]; exact hl.1) rfl dX0_init_1 (Nat.le_of_ble_eq_true rfl) (Nat.le_of_ble_eq_true rfl) ?_
  refine W.eq (g2 := F0 m 4 ls []) rfl ?_
  refine lv_aload_n hx hb dX0_init_4 rfl (lv_at hl 0 rfl) ?_
  refine lv_iload_n hx hb dX0_init_5 rfl (lv_at hl 1 rfl) ?_
  refine va_newa (atype := .int) (a0 := (6, .inl (fun _ => 0))) (N' := 6) (ty := .int) hx hb (hts (.arrayClass .int) (List.mem_of_getElem? (i := 4) rfl)) rfl hK hP hD hS hA (fun _ => rfl) (by decide) (by decide) (by decide +kernel) (Nat.le_of_ble_eq_true rfl) (Nat.le_of_ble_eq_true rfl) dX0_init_6 (fun q1 cA1 H1 hK1 hP1 hD1 hS1 => ?_)
  have hK1 : va_K (dC, dI) vwCl ([(cA1, .int)]) s := hK1
  have hP1 : va_P (dC, dI) vwCl ([(h0, .inr (0, [.int 0, .null, .null, .null])), (q1, .inl (cA1, 6, .inl (fun _ => 0)))]) H1 := hP1
  have hD1 : va_D A ([(h0, .inr (0, [.int 0, .null, .null, .null])), (q1, .inl (cA1, 6, .inl (fun _ => 0)))]) := hD1
  clear hK hP hD hS
  refine W.widen (k := 1) (n := 6) (Nat.le_of_ble_eq_true rfl) (Nat.le_of_ble_eq_true rfl) ?_
  refine va_putF (D := (dC, dI)) (ci := 0) (v := .ref q1) (ty := (.array .int)) (C := RX0) (T := TX0) (N := 4) hx hb hts hin0 tyX0 tyX0_ok nmX0 hown hK1 hP1 hD1 hS1 0 rfl rfl 1 (by decide) (hts (.fieldLink RX0 7 "OldestCoins$Bills" "purse" "[I") (List.mem_of_getElem? (i := 5) rfl)) (fun _ h9 => h9) rfl hin rfl (by decide +kernel) rfl rfl (Nat.le_of_ble_eq_true rfl) dX0_init_8 (fun H2 locs2 hP2 hD2 hS2 => ?_)
  have hP2 : va_P (dC, dI) vwCl ([(h0, .inr (0, [.int 0, .ref q1, .null, .null])), (q1, .inl (cA1, 6, .inl (fun _ => 0)))]) H2 := hP2
  have hD2 : va_D A ([(h0, .inr (0, [.int 0, .ref q1, .null, .null])), (q1, .inl (cA1, 6, .inl (fun _ => 0)))]) := hD2
  clear hP1 hD1 hS1
  refine lv_aload_n hx hb dX0_init_11 rfl (lv_at hl 0 rfl) ?_
  refine lv_iload_n hx hb dX0_init_12 rfl (lv_at hl 1 rfl) ?_
  refine va_newa (atype := .int) (a0 := (6, .inl (fun _ => 0))) (N' := 6) (ty := .int) hx hb (hts (.arrayClass .int) (List.mem_of_getElem? (i := 4) rfl)) rfl hK1 hP2 hD2 hS2 hA (fun _ => rfl) (by decide) (by decide) (by decide +kernel) (Nat.le_of_ble_eq_true rfl) (Nat.le_of_ble_eq_true rfl) dX0_init_13 (fun q3 cA3 H3 hK3 hP3 hD3 hS3 => ?_)
  have hK3 : va_K (dC, dI) vwCl ([(cA1, .int), (cA3, .int)]) s := hK3
  have hP3 : va_P (dC, dI) vwCl ([(h0, .inr (0, [.int 0, .ref q1, .null, .null])), (q1, .inl (cA1, 6, .inl (fun _ => 0))), (q3, .inl (cA3, 6, .inl (fun _ => 0)))]) H3 := hP3
  have hD3 : va_D A ([(h0, .inr (0, [.int 0, .ref q1, .null, .null])), (q1, .inl (cA1, 6, .inl (fun _ => 0))), (q3, .inl (cA3, 6, .inl (fun _ => 0)))]) := hD3
  clear hK1 hP2 hD2 hS2
  refine W.widen (k := 2) (n := 12) (Nat.le_of_ble_eq_true rfl) (Nat.le_of_ble_eq_true rfl) ?_
  refine va_putF (D := (dC, dI)) (ci := 0) (v := .ref q3) (ty := (.array .int)) (C := RX0) (T := TX0) (N := 4) hx hb hts hin0 tyX0 tyX0_ok nmX0 hown hK3 hP3 hD3 hS3 0 rfl rfl 2 (by decide) (hts (.fieldLink RX0 13 "OldestCoins$Bills" "shop" "[I") (List.mem_of_getElem? (i := 6) rfl)) (fun _ h9 => h9) rfl hin rfl (by decide +kernel) rfl rfl (Nat.le_of_ble_eq_true rfl) dX0_init_15 (fun H4 locs4 hP4 hD4 hS4 => ?_)
  have hP4 : va_P (dC, dI) vwCl ([(h0, .inr (0, [.int 0, .ref q1, .ref q3, .null])), (q1, .inl (cA1, 6, .inl (fun _ => 0))), (q3, .inl (cA3, 6, .inl (fun _ => 0)))]) H4 := hP4
  have hD4 : va_D A ([(h0, .inr (0, [.int 0, .ref q1, .ref q3, .null])), (q1, .inl (cA1, 6, .inl (fun _ => 0))), (q3, .inl (cA3, 6, .inl (fun _ => 0)))]) := hD4
  clear hP3 hD3 hS3
  refine lv_aload_n hx hb dX0_init_18 rfl (lv_at hl 0 rfl) ?_
  refine lv_iload_n hx hb dX0_init_19 rfl (lv_at hl 1 rfl) ?_
  refine va_newa (atype := .int) (a0 := (6, .inl (fun _ => 0))) (N' := 6) (ty := .int) hx hb (hts (.arrayClass .int) (List.mem_of_getElem? (i := 4) rfl)) rfl hK3 hP4 hD4 hS4 hA (fun _ => rfl) (by decide) (by decide) (by decide +kernel) (Nat.le_of_ble_eq_true rfl) (Nat.le_of_ble_eq_true rfl) dX0_init_20 (fun q5 cA5 H5 hK5 hP5 hD5 hS5 => ?_)
  have hK5 : va_K (dC, dI) vwCl ([(cA1, .int), (cA3, .int), (cA5, .int)]) s := hK5
  have hP5 : va_P (dC, dI) vwCl ([(h0, .inr (0, [.int 0, .ref q1, .ref q3, .null])), (q1, .inl (cA1, 6, .inl (fun _ => 0))), (q3, .inl (cA3, 6, .inl (fun _ => 0))), (q5, .inl (cA5, 6, .inl (fun _ => 0)))]) H5 := hP5
  have hD5 : va_D A ([(h0, .inr (0, [.int 0, .ref q1, .ref q3, .null])), (q1, .inl (cA1, 6, .inl (fun _ => 0))), (q3, .inl (cA3, 6, .inl (fun _ => 0))), (q5, .inl (cA5, 6, .inl (fun _ => 0)))]) := hD5
  clear hK3 hP4 hD4 hS4
  refine W.widen (k := 3) (n := 18) (Nat.le_of_ble_eq_true rfl) (Nat.le_of_ble_eq_true rfl) ?_
  refine va_putF (D := (dC, dI)) (ci := 0) (v := .ref q5) (ty := (.array .int)) (C := RX0) (T := TX0) (N := 4) hx hb hts hin0 tyX0 tyX0_ok nmX0 hown hK5 hP5 hD5 hS5 0 rfl rfl 3 (by decide) (hts (.fieldLink RX0 16 "OldestCoins$Bills" "sum" "[I") (List.mem_of_getElem? (i := 7) rfl)) (fun _ h9 => h9) rfl hin rfl (by decide +kernel) rfl rfl (Nat.le_of_ble_eq_true rfl) dX0_init_22 (fun H6 locs6 hP6 hD6 hS6 => ?_)
  have hP6 : va_P (dC, dI) vwCl ([(h0, .inr (0, [.int 0, .ref q1, .ref q3, .ref q5])), (q1, .inl (cA1, 6, .inl (fun _ => 0))), (q3, .inl (cA3, 6, .inl (fun _ => 0))), (q5, .inl (cA5, 6, .inl (fun _ => 0)))]) H6 := hP6
  have hD6 : va_D A ([(h0, .inr (0, [.int 0, .ref q1, .ref q3, .ref q5])), (q1, .inl (cA1, 6, .inl (fun _ => 0))), (q3, .inl (cA3, 6, .inl (fun _ => 0))), (q5, .inl (cA5, 6, .inl (fun _ => 0)))]) := hD6
  clear hP5 hD5 hS5
  have hP9 := hP6.sub (ws' := zc_0 (fun i => [h0, q1, q3, q5].getD i 0) (fun i => [cA1, cA1, cA3, cA5].getD i (cA1)) 6 zi_0) [0, 1, 2, 3] rfl
  have hD9 := hD6.sub (ws' := zc_0 (fun i => [h0, q1, q3, q5].getD i 0) (fun i => [cA1, cA1, cA3, cA5].getD i (cA1)) 6 zi_0) [0, 1, 2, 3] (by decide) rfl
  have hK9 := hK5.sub (tys' := zt_0 (fun i => [cA1, cA1, cA3, cA5].getD i (cA1))) [0, 1, 2] rfl
  exact W.vret hx hb hr (fun t ht hW => ⟨⟨((fun i => [h0, q1, q3, q5].getD i 0), (fun i => [cA1, cA1, cA3, cA5].getD i (cA1))), rfl, rfl, by rw [ht]; exact hP9, va_K.moved hW.alike hK9, hD9⟩, hS6.F ht⟩) hS6.2.2 dX0_init_25
set_option maxHeartbeats 4000000 in
set_option maxRecDepth 100000 in
theorem ci_X1 (l : Launch) (dC : Nat → ClassId) (dI : Nat → Nat → Nat) (h0 sz : Nat) : Met l yX1_init wsX1_init ({ frames := 1, cells := 1, slots := 8, locals := 12 } : Room) (PcF [.ref h0] sz (dC, dI) [(h0, .inr (1, [.null, .long 0, .long 0, .int 0, .int 0]))] []) (va_Qv (fun u : (Nat → Nat) × (Nat → ClassId) => u.1 0 = h0) (fun u t => at3_ (dC, dI) (zc_1 u.1 u.2 zi_1) (zt_1 u.2) (va_A [(h0, .inr (1, [.null, .long 0, .long 0, .int 0, .int 0]))] sz) t) (va_A [(h0, .inr (1, [.null, .long 0, .long 0, .int 0, .int 0]))] sz)) 1 8 (va_A [(h0, .inr (1, [.null, .long 0, .long 0, .int 0, .int 0]))] sz) := by
  refine Met.ofW (cc := cX1_init) (maxL := 1) (ret := none) (by decide) rfl ?_
  intro p e s m args below meth c s₁ B hml hv
  obtain ⟨hav, hsz, hP, hK, hD0⟩ := hv
  have hx := B.exec
  have hb := B.bytes
  have hr := B.returns
  have hts := atoms_spec (ws := wsX1_init) B.pre
  have hown : s.vm.findClass RX1 = some m.cls := findClass_of_methodNamed B.named
  have hlocks := B.notSynchronized
  have hin : meth.name = "<init>" := (name_of_methodNamed B.named B.method).1
  have hin1 : ∀ w ∈ wsX10, w ∈ wsX1_init := fun w h => List.mem_cons_of_mem _ (List.mem_append_right _ h)
  subst hsz
  have hD := hD0.self (sz := s.heap.size)
  clear hD0
  generalize hAe : va_A [(h0, .inr (1, [.null, .long 0, .long 0, .int 0, .int 0]))] s.heap.size = A at hD ⊢
  have hA : ∀ q : Nat, s.heap.size ≤ q → A q := fun q h => by rw [← hAe]; exact Or.inr h
  have hS : va_S A s.heap s.heap [] := va_S.rf
  rw [show entryFrame m args 1 = F0 m 0 ((lg_sl ([.ref h0]) ++ List.replicate (1 - (lg_sl ([.ref h0])).length) Slot.unset).toArray) [] from by rw [hav]; exact lg_entry_eq m _ _]
  have hl := lv_entry ([.ref h0]) (n := 1) (Nat.le_of_ble_eq_true rfl)
  generalize (lg_sl ([.ref h0]) ++ List.replicate (1 - (lg_sl ([.ref h0])).length) Slot.unset).toArray = ls at hl ⊢
  have hl : lv_has ls 1 [(0, .ref h0)] := hl
  refine lv_aload_n hx hb dX1_init_0 rfl (lv_at hl 0 rfl) ?_
  refine W.objInit hx hb hown (hts (.methodLink RX1 3 objectInit) (List.mem_of_getElem? (i := 1) rfl)) (hts (.instanceMethod objectInit) (List.mem_of_getElem? (i := 2) rfl)) (hts (.code objectInit ⟨#[0xb1]⟩ 1 none) (List.mem_of_getElem? (i := 3) rfl)) rfl (by rw [hml]; exact hl.1) rfl dX1_init_1 (Nat.le_of_ble_eq_true rfl) (Nat.le_of_ble_eq_true rfl) ?_
  refine W.eq (g2 := F0 m 4 ls []) rfl ?_
  refine lv_aload_n hx hb dX1_init_4 rfl (lv_at hl 0 rfl) ?_
  refine lv_bipush (v := (8 : Int32)) hx hb dX1_init_5 (by decide) ?_
  refine va_newa (atype := .long) (a0 := (8, .inr (.inl (fun _ => 0)))) (N' := 8) (ty := .long) hx hb (hts (.arrayClass .long) (List.mem_of_getElem? (i := 4) rfl)) rfl hK hP hD hS hA (fun _ => rfl) (by decide) (by decide) (by decide +kernel) (Nat.le_of_ble_eq_true rfl) (Nat.le_of_ble_eq_true rfl) dX1_init_7 (fun q1 cA1 H1 hK1 hP1 hD1 hS1 => ?_)
  have hK1 : va_K (dC, dI) vwCl ([(cA1, .long)]) s := hK1
  have hP1 : va_P (dC, dI) vwCl ([(h0, .inr (1, [.null, .long 0, .long 0, .int 0, .int 0])), (q1, .inl (cA1, 8, .inr (.inl (fun _ => 0))))]) H1 := hP1
  have hD1 : va_D A ([(h0, .inr (1, [.null, .long 0, .long 0, .int 0, .int 0])), (q1, .inl (cA1, 8, .inr (.inl (fun _ => 0))))]) := hD1
  clear hK hP hD hS
  refine W.widen (k := 1) (n := 8) (Nat.le_of_ble_eq_true rfl) (Nat.le_of_ble_eq_true rfl) ?_
  refine va_putF (D := (dC, dI)) (ci := 1) (v := .ref q1) (ty := (.array .long)) (C := RX1) (T := TX1) (N := 5) hx hb hts hin1 tyX1 tyX1_ok nmX1 hown hK1 hP1 hD1 hS1 0 rfl rfl 0 (by decide) (hts (.fieldLink RX1 9 "OldestCoins$Board" "had" "[J") (List.mem_of_getElem? (i := 5) rfl)) (fun _ h9 => h9) rfl hin rfl (by decide +kernel) rfl rfl (Nat.le_of_ble_eq_true rfl) dX1_init_9 (fun H2 locs2 hP2 hD2 hS2 => ?_)
  have hP2 : va_P (dC, dI) vwCl ([(h0, .inr (1, [.ref q1, .long 0, .long 0, .int 0, .int 0])), (q1, .inl (cA1, 8, .inr (.inl (fun _ => 0))))]) H2 := hP2
  have hD2 : va_D A ([(h0, .inr (1, [.ref q1, .long 0, .long 0, .int 0, .int 0])), (q1, .inl (cA1, 8, .inr (.inl (fun _ => 0))))]) := hD2
  clear hP1 hD1 hS1
  have hP9 := hP2.sub (ws' := zc_1 (fun i => [h0, q1].getD i 0) (fun i => [cA1, cA1].getD i (cA1)) zi_1) [0, 1] rfl
  have hD9 := hD2.sub (ws' := zc_1 (fun i => [h0, q1].getD i 0) (fun i => [cA1, cA1].getD i (cA1)) zi_1) [0, 1] (by decide) rfl
  have hK9 := hK1.sub (tys' := zt_1 (fun i => [cA1, cA1].getD i (cA1))) [0] rfl
  exact W.vret hx hb hr (fun t ht hW => ⟨⟨((fun i => [h0, q1].getD i 0), (fun i => [cA1, cA1].getD i (cA1))), rfl, rfl, by rw [ht]; exact hP9, va_K.moved hW.alike hK9, hD9⟩, hS2.F ht⟩) hS2.2.2 dX1_init_12
set_option maxHeartbeats 4000000 in
set_option maxRecDepth 100000 in
theorem ci_X2_40 (l : Launch) (dC : Nat → ClassId) (dI : Nat → Nat → Nat) (h0 sz : Nat) : Met l yX2_init wsX2_init ({ frames := 1, cells := 5, slots := 200, locals := 12 } : Room) (PcF [.ref h0, .int (40 : Int32)] sz (dC, dI) [(h0, .inr (2, [.int 0, .null, .null, .null, .null, .null]))] []) (va_Qv (fun u : (Nat → Nat) × (Nat → ClassId) => u.1 0 = h0) (fun u t => at3_ (dC, dI) (zc_2 u.1 u.2 40 zi_2) (zt_2 u.2) (va_A [(h0, .inr (2, [.int 0, .null, .null, .null, .null, .null]))] sz) t) (va_A [(h0, .inr (2, [.int 0, .null, .null, .null, .null, .null]))] sz)) 5 200 (va_A [(h0, .inr (2, [.int 0, .null, .null, .null, .null, .null]))] sz) := by
  refine Met.ofW (cc := cX2_init) (maxL := 2) (ret := none) (by decide) rfl ?_
  intro p e s m args below meth c s₁ B hml hv
  obtain ⟨hav, hsz, hP, hK, hD0⟩ := hv
  have hx := B.exec
  have hb := B.bytes
  have hr := B.returns
  have hts := atoms_spec (ws := wsX2_init) B.pre
  have hown : s.vm.findClass RX2 = some m.cls := findClass_of_methodNamed B.named
  have hlocks := B.notSynchronized
  have hin : meth.name = "<init>" := (name_of_methodNamed B.named B.method).1
  have hin2 : ∀ w ∈ wsX20, w ∈ wsX2_init := fun w h => List.mem_cons_of_mem _ (List.mem_append_right _ h)
  subst hsz
  have hD := hD0.self (sz := s.heap.size)
  clear hD0
  generalize hAe : va_A [(h0, .inr (2, [.int 0, .null, .null, .null, .null, .null]))] s.heap.size = A at hD ⊢
  have hA : ∀ q : Nat, s.heap.size ≤ q → A q := fun q h => by rw [← hAe]; exact Or.inr h
  have hS : va_S A s.heap s.heap [] := va_S.rf
  rw [show entryFrame m args 2 = F0 m 0 ((lg_sl ([.ref h0, .int (40 : Int32)]) ++ List.replicate (2 - (lg_sl ([.ref h0, .int (40 : Int32)])).length) Slot.unset).toArray) [] from by rw [hav]; exact lg_entry_eq m _ _]
  have hl := lv_entry ([.ref h0, .int (40 : Int32)]) (n := 2) (Nat.le_of_ble_eq_true rfl)
  generalize (lg_sl ([.ref h0, .int (40 : Int32)]) ++ List.replicate (2 - (lg_sl ([.ref h0, .int (40 : Int32)])).length) Slot.unset).toArray = ls at hl ⊢
  have hl : lv_has ls 2 [(0, .ref h0), (1, .int (40 : Int32))] := hl
  refine lv_aload_n hx hb dX2_init_0 rfl (lv_at hl 0 rfl) ?_
  refine W.objInit hx hb hown (hts (.methodLink RX2 3 objectInit) (List.mem_of_getElem? (i := 1) rfl)) (hts (.instanceMethod objectInit) (List.mem_of_getElem? (i := 2) rfl)) (hts (.code objectInit ⟨#[0xb1]⟩ 1 none) (List.mem_of_getElem? (i := 3) rfl)) rfl (by rw [hml]; exact hl.1) rfl dX2_init_1 (Nat.le_of_ble_eq_true rfl) (Nat.le_of_ble_eq_true rfl) ?_
  refine W.eq (g2 := F0 m 4 ls []) rfl ?_
  refine lv_aload_n hx hb dX2_init_4 rfl (lv_at hl 0 rfl) ?_
  refine lv_iload_n hx hb dX2_init_5 rfl (lv_at hl 1 rfl) ?_
  refine va_newa (atype := .int) (a0 := (40, .inl (fun _ => 0))) (N' := 40) (ty := .int) hx hb (hts (.arrayClass .int) (List.mem_of_getElem? (i := 4) rfl)) rfl hK hP hD hS hA (fun _ => rfl) (by decide) (by decide) (by decide +kernel) (Nat.le_of_ble_eq_true rfl) (Nat.le_of_ble_eq_true rfl) dX2_init_6 (fun q1 cA1 H1 hK1 hP1 hD1 hS1 => ?_)
  have hK1 : va_K (dC, dI) vwCl ([(cA1, .int)]) s := hK1
  have hP1 : va_P (dC, dI) vwCl ([(h0, .inr (2, [.int 0, .null, .null, .null, .null, .null])), (q1, .inl (cA1, 40, .inl (fun _ => 0)))]) H1 := hP1
  have hD1 : va_D A ([(h0, .inr (2, [.int 0, .null, .null, .null, .null, .null])), (q1, .inl (cA1, 40, .inl (fun _ => 0)))]) := hD1
  clear hK hP hD hS
  refine W.widen (k := 1) (n := 40) (Nat.le_of_ble_eq_true rfl) (Nat.le_of_ble_eq_true rfl) ?_
  refine va_putF (D := (dC, dI)) (ci := 2) (v := .ref q1) (ty := (.array .int)) (C := RX2) (T := TX2) (N := 6) hx hb hts hin2 tyX2 tyX2_ok nmX2 hown hK1 hP1 hD1 hS1 0 rfl rfl 1 (by decide) (hts (.fieldLink RX2 9 "OldestCoins$Coins" "holder" "[I") (List.mem_of_getElem? (i := 5) rfl)) (fun _ h9 => h9) rfl hin rfl (by decide +kernel) rfl rfl (Nat.le_of_ble_eq_true rfl) dX2_init_8 (fun H2 locs2 hP2 hD2 hS2 => ?_)
  have hP2 : va_P (dC, dI) vwCl ([(h0, .inr (2, [.int 0, .ref q1, .null, .null, .null, .null])), (q1, .inl (cA1, 40, .inl (fun _ => 0)))]) H2 := hP2
  have hD2 : va_D A ([(h0, .inr (2, [.int 0, .ref q1, .null, .null, .null, .null])), (q1, .inl (cA1, 40, .inl (fun _ => 0)))]) := hD2
  clear hP1 hD1 hS1
  refine lv_aload_n hx hb dX2_init_11 rfl (lv_at hl 0 rfl) ?_
  refine lv_iload_n hx hb dX2_init_12 rfl (lv_at hl 1 rfl) ?_
  refine va_newa (atype := .int) (a0 := (40, .inl (fun _ => 0))) (N' := 40) (ty := .int) hx hb (hts (.arrayClass .int) (List.mem_of_getElem? (i := 4) rfl)) rfl hK1 hP2 hD2 hS2 hA (fun _ => rfl) (by decide) (by decide) (by decide +kernel) (Nat.le_of_ble_eq_true rfl) (Nat.le_of_ble_eq_true rfl) dX2_init_13 (fun q3 cA3 H3 hK3 hP3 hD3 hS3 => ?_)
  have hK3 : va_K (dC, dI) vwCl ([(cA1, .int), (cA3, .int)]) s := hK3
  have hP3 : va_P (dC, dI) vwCl ([(h0, .inr (2, [.int 0, .ref q1, .null, .null, .null, .null])), (q1, .inl (cA1, 40, .inl (fun _ => 0))), (q3, .inl (cA3, 40, .inl (fun _ => 0)))]) H3 := hP3
  have hD3 : va_D A ([(h0, .inr (2, [.int 0, .ref q1, .null, .null, .null, .null])), (q1, .inl (cA1, 40, .inl (fun _ => 0))), (q3, .inl (cA3, 40, .inl (fun _ => 0)))]) := hD3
  clear hK1 hP2 hD2 hS2
  refine W.widen (k := 2) (n := 80) (Nat.le_of_ble_eq_true rfl) (Nat.le_of_ble_eq_true rfl) ?_
  refine va_putF (D := (dC, dI)) (ci := 2) (v := .ref q3) (ty := (.array .int)) (C := RX2) (T := TX2) (N := 6) hx hb hts hin2 tyX2 tyX2_ok nmX2 hown hK3 hP3 hD3 hS3 0 rfl rfl 2 (by decide) (hts (.fieldLink RX2 15 "OldestCoins$Coins" "worth" "[I") (List.mem_of_getElem? (i := 6) rfl)) (fun _ h9 => h9) rfl hin rfl (by decide +kernel) rfl rfl (Nat.le_of_ble_eq_true rfl) dX2_init_15 (fun H4 locs4 hP4 hD4 hS4 => ?_)
  have hP4 : va_P (dC, dI) vwCl ([(h0, .inr (2, [.int 0, .ref q1, .ref q3, .null, .null, .null])), (q1, .inl (cA1, 40, .inl (fun _ => 0))), (q3, .inl (cA3, 40, .inl (fun _ => 0)))]) H4 := hP4
  have hD4 : va_D A ([(h0, .inr (2, [.int 0, .ref q1, .ref q3, .null, .null, .null])), (q1, .inl (cA1, 40, .inl (fun _ => 0))), (q3, .inl (cA3, 40, .inl (fun _ => 0)))]) := hD4
  clear hP3 hD3 hS3
  refine lv_aload_n hx hb dX2_init_18 rfl (lv_at hl 0 rfl) ?_
  refine lv_iload_n hx hb dX2_init_19 rfl (lv_at hl 1 rfl) ?_
  refine va_newa (atype := .int) (a0 := (40, .inl (fun _ => 0))) (N' := 40) (ty := .int) hx hb (hts (.arrayClass .int) (List.mem_of_getElem? (i := 4) rfl)) rfl hK3 hP4 hD4 hS4 hA (fun _ => rfl) (by decide) (by decide) (by decide +kernel) (Nat.le_of_ble_eq_true rfl) (Nat.le_of_ble_eq_true rfl) dX2_init_20 (fun q5 cA5 H5 hK5 hP5 hD5 hS5 => ?_)
  have hK5 : va_K (dC, dI) vwCl ([(cA1, .int), (cA3, .int), (cA5, .int)]) s := hK5
  have hP5 : va_P (dC, dI) vwCl ([(h0, .inr (2, [.int 0, .ref q1, .ref q3, .null, .null, .null])), (q1, .inl (cA1, 40, .inl (fun _ => 0))), (q3, .inl (cA3, 40, .inl (fun _ => 0))), (q5, .inl (cA5, 40, .inl (fun _ => 0)))]) H5 := hP5
  have hD5 : va_D A ([(h0, .inr (2, [.int 0, .ref q1, .ref q3, .null, .null, .null])), (q1, .inl (cA1, 40, .inl (fun _ => 0))), (q3, .inl (cA3, 40, .inl (fun _ => 0))), (q5, .inl (cA5, 40, .inl (fun _ => 0)))]) := hD5
  clear hK3 hP4 hD4 hS4
  refine W.widen (k := 3) (n := 120) (Nat.le_of_ble_eq_true rfl) (Nat.le_of_ble_eq_true rfl) ?_
  refine va_putF (D := (dC, dI)) (ci := 2) (v := .ref q5) (ty := (.array .int)) (C := RX2) (T := TX2) (N := 6) hx hb hts hin2 tyX2 tyX2_ok nmX2 hown hK5 hP5 hD5 hS5 0 rfl rfl 3 (by decide) (hts (.fieldLink RX2 18 "OldestCoins$Coins" "year" "[I") (List.mem_of_getElem? (i := 7) rfl)) (fun _ h9 => h9) rfl hin rfl (by decide +kernel) rfl rfl (Nat.le_of_ble_eq_true rfl) dX2_init_22 (fun H6 locs6 hP6 hD6 hS6 => ?_)
  have hP6 : va_P (dC, dI) vwCl ([(h0, .inr (2, [.int 0, .ref q1, .ref q3, .ref q5, .null, .null])), (q1, .inl (cA1, 40, .inl (fun _ => 0))), (q3, .inl (cA3, 40, .inl (fun _ => 0))), (q5, .inl (cA5, 40, .inl (fun _ => 0)))]) H6 := hP6
  have hD6 : va_D A ([(h0, .inr (2, [.int 0, .ref q1, .ref q3, .ref q5, .null, .null])), (q1, .inl (cA1, 40, .inl (fun _ => 0))), (q3, .inl (cA3, 40, .inl (fun _ => 0))), (q5, .inl (cA5, 40, .inl (fun _ => 0)))]) := hD6
  clear hP5 hD5 hS5
  refine lv_aload_n hx hb dX2_init_25 rfl (lv_at hl 0 rfl) ?_
  refine lv_iload_n hx hb dX2_init_26 rfl (lv_at hl 1 rfl) ?_
  refine va_newa (atype := .int) (a0 := (40, .inl (fun _ => 0))) (N' := 40) (ty := .int) hx hb (hts (.arrayClass .int) (List.mem_of_getElem? (i := 4) rfl)) rfl hK5 hP6 hD6 hS6 hA (fun _ => rfl) (by decide) (by decide) (by decide +kernel) (Nat.le_of_ble_eq_true rfl) (Nat.le_of_ble_eq_true rfl) dX2_init_27 (fun q7 cA7 H7 hK7 hP7 hD7 hS7 => ?_)
  have hK7 : va_K (dC, dI) vwCl ([(cA1, .int), (cA3, .int), (cA5, .int), (cA7, .int)]) s := hK7
  have hP7 : va_P (dC, dI) vwCl ([(h0, .inr (2, [.int 0, .ref q1, .ref q3, .ref q5, .null, .null])), (q1, .inl (cA1, 40, .inl (fun _ => 0))), (q3, .inl (cA3, 40, .inl (fun _ => 0))), (q5, .inl (cA5, 40, .inl (fun _ => 0))), (q7, .inl (cA7, 40, .inl (fun _ => 0)))]) H7 := hP7
  have hD7 : va_D A ([(h0, .inr (2, [.int 0, .ref q1, .ref q3, .ref q5, .null, .null])), (q1, .inl (cA1, 40, .inl (fun _ => 0))), (q3, .inl (cA3, 40, .inl (fun _ => 0))), (q5, .inl (cA5, 40, .inl (fun _ => 0))), (q7, .inl (cA7, 40, .inl (fun _ => 0)))]) := hD7
  clear hK5 hP6 hD6 hS6
  refine W.widen (k := 4) (n := 160) (Nat.le_of_ble_eq_true rfl) (Nat.le_of_ble_eq_true rfl) ?_
  refine va_putF (D := (dC, dI)) (ci := 2) (v := .ref q7) (ty := (.array .int)) (C := RX2) (T := TX2) (N := 6) hx hb hts hin2 tyX2 tyX2_ok nmX2 hown hK7 hP7 hD7 hS7 0 rfl rfl 4 (by decide) (hts (.fieldLink RX2 21 "OldestCoins$Coins" "stamp" "[I") (List.mem_of_getElem? (i := 8) rfl)) (fun _ h9 => h9) rfl hin rfl (by decide +kernel) rfl rfl (Nat.le_of_ble_eq_true rfl) dX2_init_29 (fun H8 locs8 hP8 hD8 hS8 => ?_)
  have hP8 : va_P (dC, dI) vwCl ([(h0, .inr (2, [.int 0, .ref q1, .ref q3, .ref q5, .ref q7, .null])), (q1, .inl (cA1, 40, .inl (fun _ => 0))), (q3, .inl (cA3, 40, .inl (fun _ => 0))), (q5, .inl (cA5, 40, .inl (fun _ => 0))), (q7, .inl (cA7, 40, .inl (fun _ => 0)))]) H8 := hP8
  have hD8 : va_D A ([(h0, .inr (2, [.int 0, .ref q1, .ref q3, .ref q5, .ref q7, .null])), (q1, .inl (cA1, 40, .inl (fun _ => 0))), (q3, .inl (cA3, 40, .inl (fun _ => 0))), (q5, .inl (cA5, 40, .inl (fun _ => 0))), (q7, .inl (cA7, 40, .inl (fun _ => 0)))]) := hD8
  clear hP7 hD7 hS7
  refine lv_aload_n hx hb dX2_init_32 rfl (lv_at hl 0 rfl) ?_
  refine lv_iload_n hx hb dX2_init_33 rfl (lv_at hl 1 rfl) ?_
  refine va_newa (atype := .int) (a0 := (40, .inl (fun _ => 0))) (N' := 40) (ty := .int) hx hb (hts (.arrayClass .int) (List.mem_of_getElem? (i := 4) rfl)) rfl hK7 hP8 hD8 hS8 hA (fun _ => rfl) (by decide) (by decide) (by decide +kernel) (Nat.le_of_ble_eq_true rfl) (Nat.le_of_ble_eq_true rfl) dX2_init_34 (fun q9 cA9 H9 hK9 hP9 hD9 hS9 => ?_)
  have hK9 : va_K (dC, dI) vwCl ([(cA1, .int), (cA3, .int), (cA5, .int), (cA7, .int), (cA9, .int)]) s := hK9
  have hP9 : va_P (dC, dI) vwCl ([(h0, .inr (2, [.int 0, .ref q1, .ref q3, .ref q5, .ref q7, .null])), (q1, .inl (cA1, 40, .inl (fun _ => 0))), (q3, .inl (cA3, 40, .inl (fun _ => 0))), (q5, .inl (cA5, 40, .inl (fun _ => 0))), (q7, .inl (cA7, 40, .inl (fun _ => 0))), (q9, .inl (cA9, 40, .inl (fun _ => 0)))]) H9 := hP9
  have hD9 : va_D A ([(h0, .inr (2, [.int 0, .ref q1, .ref q3, .ref q5, .ref q7, .null])), (q1, .inl (cA1, 40, .inl (fun _ => 0))), (q3, .inl (cA3, 40, .inl (fun _ => 0))), (q5, .inl (cA5, 40, .inl (fun _ => 0))), (q7, .inl (cA7, 40, .inl (fun _ => 0))), (q9, .inl (cA9, 40, .inl (fun _ => 0)))]) := hD9
  clear hK7 hP8 hD8 hS8
  refine W.widen (k := 5) (n := 200) (Nat.le_of_ble_eq_true rfl) (Nat.le_of_ble_eq_true rfl) ?_
  refine va_putF (D := (dC, dI)) (ci := 2) (v := .ref q9) (ty := (.array .int)) (C := RX2) (T := TX2) (N := 6) hx hb hts hin2 tyX2 tyX2_ok nmX2 hown hK9 hP9 hD9 hS9 0 rfl rfl 5 (by decide) (hts (.fieldLink RX2 24 "OldestCoins$Coins" "kind" "[I") (List.mem_of_getElem? (i := 9) rfl)) (fun _ h9 => h9) rfl hin rfl (by decide +kernel) rfl rfl (Nat.le_of_ble_eq_true rfl) dX2_init_36 (fun H10 locs10 hP10 hD10 hS10 => ?_)
  have hP10 : va_P (dC, dI) vwCl ([(h0, .inr (2, [.int 0, .ref q1, .ref q3, .ref q5, .ref q7, .ref q9])), (q1, .inl (cA1, 40, .inl (fun _ => 0))), (q3, .inl (cA3, 40, .inl (fun _ => 0))), (q5, .inl (cA5, 40, .inl (fun _ => 0))), (q7, .inl (cA7, 40, .inl (fun _ => 0))), (q9, .inl (cA9, 40, .inl (fun _ => 0)))]) H10 := hP10
  have hD10 : va_D A ([(h0, .inr (2, [.int 0, .ref q1, .ref q3, .ref q5, .ref q7, .ref q9])), (q1, .inl (cA1, 40, .inl (fun _ => 0))), (q3, .inl (cA3, 40, .inl (fun _ => 0))), (q5, .inl (cA5, 40, .inl (fun _ => 0))), (q7, .inl (cA7, 40, .inl (fun _ => 0))), (q9, .inl (cA9, 40, .inl (fun _ => 0)))]) := hD10
  clear hP9 hD9 hS9
  have hP9 := hP10.sub (ws' := zc_2 (fun i => [h0, q1, q3, q5, q7, q9].getD i 0) (fun i => [cA1, cA1, cA3, cA5, cA7, cA9].getD i (cA1)) 40 zi_2) [0, 1, 2, 3, 4, 5] rfl
  have hD9 := hD10.sub (ws' := zc_2 (fun i => [h0, q1, q3, q5, q7, q9].getD i 0) (fun i => [cA1, cA1, cA3, cA5, cA7, cA9].getD i (cA1)) 40 zi_2) [0, 1, 2, 3, 4, 5] (by decide) rfl
  have hK9 := hK9.sub (tys' := zt_2 (fun i => [cA1, cA1, cA3, cA5, cA7, cA9].getD i (cA1))) [0, 1, 2, 3, 4] rfl
  exact W.vret hx hb hr (fun t ht hW => ⟨⟨((fun i => [h0, q1, q3, q5, q7, q9].getD i 0), (fun i => [cA1, cA1, cA3, cA5, cA7, cA9].getD i (cA1))), rfl, rfl, by rw [ht]; exact hP9, va_K.moved hW.alike hK9, hD9⟩, hS10.F ht⟩) hS10.2.2 dX2_init_39
set_option maxHeartbeats 4000000 in
set_option maxRecDepth 100000 in
theorem ci_X2_10 (l : Launch) (dC : Nat → ClassId) (dI : Nat → Nat → Nat) (h0 sz : Nat) : Met l yX2_init wsX2_init ({ frames := 1, cells := 5, slots := 50, locals := 12 } : Room) (PcF [.ref h0, .int (10 : Int32)] sz (dC, dI) [(h0, .inr (2, [.int 0, .null, .null, .null, .null, .null]))] []) (va_Qv (fun u : (Nat → Nat) × (Nat → ClassId) => u.1 0 = h0) (fun u t => at3_ (dC, dI) (zc_2 u.1 u.2 10 zi_2) (zt_2 u.2) (va_A [(h0, .inr (2, [.int 0, .null, .null, .null, .null, .null]))] sz) t) (va_A [(h0, .inr (2, [.int 0, .null, .null, .null, .null, .null]))] sz)) 5 50 (va_A [(h0, .inr (2, [.int 0, .null, .null, .null, .null, .null]))] sz) := by
  refine Met.ofW (cc := cX2_init) (maxL := 2) (ret := none) (by decide) rfl ?_
  intro p e s m args below meth c s₁ B hml hv
  obtain ⟨hav, hsz, hP, hK, hD0⟩ := hv
  have hx := B.exec
  have hb := B.bytes
  have hr := B.returns
  have hts := atoms_spec (ws := wsX2_init) B.pre
  have hown : s.vm.findClass RX2 = some m.cls := findClass_of_methodNamed B.named
  have hlocks := B.notSynchronized
  have hin : meth.name = "<init>" := (name_of_methodNamed B.named B.method).1
  have hin2 : ∀ w ∈ wsX20, w ∈ wsX2_init := fun w h => List.mem_cons_of_mem _ (List.mem_append_right _ h)
  subst hsz
  have hD := hD0.self (sz := s.heap.size)
  clear hD0
  generalize hAe : va_A [(h0, .inr (2, [.int 0, .null, .null, .null, .null, .null]))] s.heap.size = A at hD ⊢
  have hA : ∀ q : Nat, s.heap.size ≤ q → A q := fun q h => by rw [← hAe]; exact Or.inr h
  have hS : va_S A s.heap s.heap [] := va_S.rf
  rw [show entryFrame m args 2 = F0 m 0 ((lg_sl ([.ref h0, .int (10 : Int32)]) ++ List.replicate (2 - (lg_sl ([.ref h0, .int (10 : Int32)])).length) Slot.unset).toArray) [] from by rw [hav]; exact lg_entry_eq m _ _]
  have hl := lv_entry ([.ref h0, .int (10 : Int32)]) (n := 2) (Nat.le_of_ble_eq_true rfl)
  generalize (lg_sl ([.ref h0, .int (10 : Int32)]) ++ List.replicate (2 - (lg_sl ([.ref h0, .int (10 : Int32)])).length) Slot.unset).toArray = ls at hl ⊢
  have hl : lv_has ls 2 [(0, .ref h0), (1, .int (10 : Int32))] := hl
  refine lv_aload_n hx hb dX2_init_0 rfl (lv_at hl 0 rfl) ?_
  refine W.objInit hx hb hown (hts (.methodLink RX2 3 objectInit) (List.mem_of_getElem? (i := 1) rfl)) (hts (.instanceMethod objectInit) (List.mem_of_getElem? (i := 2) rfl)) (hts (.code objectInit ⟨#[0xb1]⟩ 1 none) (List.mem_of_getElem? (i := 3) rfl)) rfl (by rw [hml]; exact hl.1) rfl dX2_init_1 (Nat.le_of_ble_eq_true rfl) (Nat.le_of_ble_eq_true rfl) ?_
  refine W.eq (g2 := F0 m 4 ls []) rfl ?_
  refine lv_aload_n hx hb dX2_init_4 rfl (lv_at hl 0 rfl) ?_
  refine lv_iload_n hx hb dX2_init_5 rfl (lv_at hl 1 rfl) ?_
  refine va_newa (atype := .int) (a0 := (10, .inl (fun _ => 0))) (N' := 10) (ty := .int) hx hb (hts (.arrayClass .int) (List.mem_of_getElem? (i := 4) rfl)) rfl hK hP hD hS hA (fun _ => rfl) (by decide) (by decide) (by decide +kernel) (Nat.le_of_ble_eq_true rfl) (Nat.le_of_ble_eq_true rfl) dX2_init_6 (fun q1 cA1 H1 hK1 hP1 hD1 hS1 => ?_)
  have hK1 : va_K (dC, dI) vwCl ([(cA1, .int)]) s := hK1
  have hP1 : va_P (dC, dI) vwCl ([(h0, .inr (2, [.int 0, .null, .null, .null, .null, .null])), (q1, .inl (cA1, 10, .inl (fun _ => 0)))]) H1 := hP1
  have hD1 : va_D A ([(h0, .inr (2, [.int 0, .null, .null, .null, .null, .null])), (q1, .inl (cA1, 10, .inl (fun _ => 0)))]) := hD1
  clear hK hP hD hS
  refine W.widen (k := 1) (n := 10) (Nat.le_of_ble_eq_true rfl) (Nat.le_of_ble_eq_true rfl) ?_
  refine va_putF (D := (dC, dI)) (ci := 2) (v := .ref q1) (ty := (.array .int)) (C := RX2) (T := TX2) (N := 6) hx hb hts hin2 tyX2 tyX2_ok nmX2 hown hK1 hP1 hD1 hS1 0 rfl rfl 1 (by decide) (hts (.fieldLink RX2 9 "OldestCoins$Coins" "holder" "[I") (List.mem_of_getElem? (i := 5) rfl)) (fun _ h9 => h9) rfl hin rfl (by decide +kernel) rfl rfl (Nat.le_of_ble_eq_true rfl) dX2_init_8 (fun H2 locs2 hP2 hD2 hS2 => ?_)
  have hP2 : va_P (dC, dI) vwCl ([(h0, .inr (2, [.int 0, .ref q1, .null, .null, .null, .null])), (q1, .inl (cA1, 10, .inl (fun _ => 0)))]) H2 := hP2
  have hD2 : va_D A ([(h0, .inr (2, [.int 0, .ref q1, .null, .null, .null, .null])), (q1, .inl (cA1, 10, .inl (fun _ => 0)))]) := hD2
  clear hP1 hD1 hS1
  refine lv_aload_n hx hb dX2_init_11 rfl (lv_at hl 0 rfl) ?_
  refine lv_iload_n hx hb dX2_init_12 rfl (lv_at hl 1 rfl) ?_
  refine va_newa (atype := .int) (a0 := (10, .inl (fun _ => 0))) (N' := 10) (ty := .int) hx hb (hts (.arrayClass .int) (List.mem_of_getElem? (i := 4) rfl)) rfl hK1 hP2 hD2 hS2 hA (fun _ => rfl) (by decide) (by decide) (by decide +kernel) (Nat.le_of_ble_eq_true rfl) (Nat.le_of_ble_eq_true rfl) dX2_init_13 (fun q3 cA3 H3 hK3 hP3 hD3 hS3 => ?_)
  have hK3 : va_K (dC, dI) vwCl ([(cA1, .int), (cA3, .int)]) s := hK3
  have hP3 : va_P (dC, dI) vwCl ([(h0, .inr (2, [.int 0, .ref q1, .null, .null, .null, .null])), (q1, .inl (cA1, 10, .inl (fun _ => 0))), (q3, .inl (cA3, 10, .inl (fun _ => 0)))]) H3 := hP3
  have hD3 : va_D A ([(h0, .inr (2, [.int 0, .ref q1, .null, .null, .null, .null])), (q1, .inl (cA1, 10, .inl (fun _ => 0))), (q3, .inl (cA3, 10, .inl (fun _ => 0)))]) := hD3
  clear hK1 hP2 hD2 hS2
  refine W.widen (k := 2) (n := 20) (Nat.le_of_ble_eq_true rfl) (Nat.le_of_ble_eq_true rfl) ?_
  refine va_putF (D := (dC, dI)) (ci := 2) (v := .ref q3) (ty := (.array .int)) (C := RX2) (T := TX2) (N := 6) hx hb hts hin2 tyX2 tyX2_ok nmX2 hown hK3 hP3 hD3 hS3 0 rfl rfl 2 (by decide) (hts (.fieldLink RX2 15 "OldestCoins$Coins" "worth" "[I") (List.mem_of_getElem? (i := 6) rfl)) (fun _ h9 => h9) rfl hin rfl (by decide +kernel) rfl rfl (Nat.le_of_ble_eq_true rfl) dX2_init_15 (fun H4 locs4 hP4 hD4 hS4 => ?_)
  have hP4 : va_P (dC, dI) vwCl ([(h0, .inr (2, [.int 0, .ref q1, .ref q3, .null, .null, .null])), (q1, .inl (cA1, 10, .inl (fun _ => 0))), (q3, .inl (cA3, 10, .inl (fun _ => 0)))]) H4 := hP4
  have hD4 : va_D A ([(h0, .inr (2, [.int 0, .ref q1, .ref q3, .null, .null, .null])), (q1, .inl (cA1, 10, .inl (fun _ => 0))), (q3, .inl (cA3, 10, .inl (fun _ => 0)))]) := hD4
  clear hP3 hD3 hS3
  refine lv_aload_n hx hb dX2_init_18 rfl (lv_at hl 0 rfl) ?_
  refine lv_iload_n hx hb dX2_init_19 rfl (lv_at hl 1 rfl) ?_
  refine va_newa (atype := .int) (a0 := (10, .inl (fun _ => 0))) (N' := 10) (ty := .int) hx hb (hts (.arrayClass .int) (List.mem_of_getElem? (i := 4) rfl)) rfl hK3 hP4 hD4 hS4 hA (fun _ => rfl) (by decide) (by decide) (by decide +kernel) (Nat.le_of_ble_eq_true rfl) (Nat.le_of_ble_eq_true rfl) dX2_init_20 (fun q5 cA5 H5 hK5 hP5 hD5 hS5 => ?_)
  have hK5 : va_K (dC, dI) vwCl ([(cA1, .int), (cA3, .int), (cA5, .int)]) s := hK5
  have hP5 : va_P (dC, dI) vwCl ([(h0, .inr (2, [.int 0, .ref q1, .ref q3, .null, .null, .null])), (q1, .inl (cA1, 10, .inl (fun _ => 0))), (q3, .inl (cA3, 10, .inl (fun _ => 0))), (q5, .inl (cA5, 10, .inl (fun _ => 0)))]) H5 := hP5
  have hD5 : va_D A ([(h0, .inr (2, [.int 0, .ref q1, .ref q3, .null, .null, .null])), (q1, .inl (cA1, 10, .inl (fun _ => 0))), (q3, .inl (cA3, 10, .inl (fun _ => 0))), (q5, .inl (cA5, 10, .inl (fun _ => 0)))]) := hD5
  clear hK3 hP4 hD4 hS4
  refine W.widen (k := 3) (n := 30) (Nat.le_of_ble_eq_true rfl) (Nat.le_of_ble_eq_true rfl) ?_
  refine va_putF (D := (dC, dI)) (ci := 2) (v := .ref q5) (ty := (.array .int)) (C := RX2) (T := TX2) (N := 6) hx hb hts hin2 tyX2 tyX2_ok nmX2 hown hK5 hP5 hD5 hS5 0 rfl rfl 3 (by decide) (hts (.fieldLink RX2 18 "OldestCoins$Coins" "year" "[I") (List.mem_of_getElem? (i := 7) rfl)) (fun _ h9 => h9) rfl hin rfl (by decide +kernel) rfl rfl (Nat.le_of_ble_eq_true rfl) dX2_init_22 (fun H6 locs6 hP6 hD6 hS6 => ?_)
  have hP6 : va_P (dC, dI) vwCl ([(h0, .inr (2, [.int 0, .ref q1, .ref q3, .ref q5, .null, .null])), (q1, .inl (cA1, 10, .inl (fun _ => 0))), (q3, .inl (cA3, 10, .inl (fun _ => 0))), (q5, .inl (cA5, 10, .inl (fun _ => 0)))]) H6 := hP6
  have hD6 : va_D A ([(h0, .inr (2, [.int 0, .ref q1, .ref q3, .ref q5, .null, .null])), (q1, .inl (cA1, 10, .inl (fun _ => 0))), (q3, .inl (cA3, 10, .inl (fun _ => 0))), (q5, .inl (cA5, 10, .inl (fun _ => 0)))]) := hD6
  clear hP5 hD5 hS5
  refine lv_aload_n hx hb dX2_init_25 rfl (lv_at hl 0 rfl) ?_
  refine lv_iload_n hx hb dX2_init_26 rfl (lv_at hl 1 rfl) ?_
  refine va_newa (atype := .int) (a0 := (10, .inl (fun _ => 0))) (N' := 10) (ty := .int) hx hb (hts (.arrayClass .int) (List.mem_of_getElem? (i := 4) rfl)) rfl hK5 hP6 hD6 hS6 hA (fun _ => rfl) (by decide) (by decide) (by decide +kernel) (Nat.le_of_ble_eq_true rfl) (Nat.le_of_ble_eq_true rfl) dX2_init_27 (fun q7 cA7 H7 hK7 hP7 hD7 hS7 => ?_)
  have hK7 : va_K (dC, dI) vwCl ([(cA1, .int), (cA3, .int), (cA5, .int), (cA7, .int)]) s := hK7
  have hP7 : va_P (dC, dI) vwCl ([(h0, .inr (2, [.int 0, .ref q1, .ref q3, .ref q5, .null, .null])), (q1, .inl (cA1, 10, .inl (fun _ => 0))), (q3, .inl (cA3, 10, .inl (fun _ => 0))), (q5, .inl (cA5, 10, .inl (fun _ => 0))), (q7, .inl (cA7, 10, .inl (fun _ => 0)))]) H7 := hP7
  have hD7 : va_D A ([(h0, .inr (2, [.int 0, .ref q1, .ref q3, .ref q5, .null, .null])), (q1, .inl (cA1, 10, .inl (fun _ => 0))), (q3, .inl (cA3, 10, .inl (fun _ => 0))), (q5, .inl (cA5, 10, .inl (fun _ => 0))), (q7, .inl (cA7, 10, .inl (fun _ => 0)))]) := hD7
  clear hK5 hP6 hD6 hS6
  refine W.widen (k := 4) (n := 40) (Nat.le_of_ble_eq_true rfl) (Nat.le_of_ble_eq_true rfl) ?_
  refine va_putF (D := (dC, dI)) (ci := 2) (v := .ref q7) (ty := (.array .int)) (C := RX2) (T := TX2) (N := 6) hx hb hts hin2 tyX2 tyX2_ok nmX2 hown hK7 hP7 hD7 hS7 0 rfl rfl 4 (by decide) (hts (.fieldLink RX2 21 "OldestCoins$Coins" "stamp" "[I") (List.mem_of_getElem? (i := 8) rfl)) (fun _ h9 => h9) rfl hin rfl (by decide +kernel) rfl rfl (Nat.le_of_ble_eq_true rfl) dX2_init_29 (fun H8 locs8 hP8 hD8 hS8 => ?_)
  have hP8 : va_P (dC, dI) vwCl ([(h0, .inr (2, [.int 0, .ref q1, .ref q3, .ref q5, .ref q7, .null])), (q1, .inl (cA1, 10, .inl (fun _ => 0))), (q3, .inl (cA3, 10, .inl (fun _ => 0))), (q5, .inl (cA5, 10, .inl (fun _ => 0))), (q7, .inl (cA7, 10, .inl (fun _ => 0)))]) H8 := hP8
  have hD8 : va_D A ([(h0, .inr (2, [.int 0, .ref q1, .ref q3, .ref q5, .ref q7, .null])), (q1, .inl (cA1, 10, .inl (fun _ => 0))), (q3, .inl (cA3, 10, .inl (fun _ => 0))), (q5, .inl (cA5, 10, .inl (fun _ => 0))), (q7, .inl (cA7, 10, .inl (fun _ => 0)))]) := hD8
  clear hP7 hD7 hS7
  refine lv_aload_n hx hb dX2_init_32 rfl (lv_at hl 0 rfl) ?_
  refine lv_iload_n hx hb dX2_init_33 rfl (lv_at hl 1 rfl) ?_
  refine va_newa (atype := .int) (a0 := (10, .inl (fun _ => 0))) (N' := 10) (ty := .int) hx hb (hts (.arrayClass .int) (List.mem_of_getElem? (i := 4) rfl)) rfl hK7 hP8 hD8 hS8 hA (fun _ => rfl) (by decide) (by decide) (by decide +kernel) (Nat.le_of_ble_eq_true rfl) (Nat.le_of_ble_eq_true rfl) dX2_init_34 (fun q9 cA9 H9 hK9 hP9 hD9 hS9 => ?_)
  have hK9 : va_K (dC, dI) vwCl ([(cA1, .int), (cA3, .int), (cA5, .int), (cA7, .int), (cA9, .int)]) s := hK9
  have hP9 : va_P (dC, dI) vwCl ([(h0, .inr (2, [.int 0, .ref q1, .ref q3, .ref q5, .ref q7, .null])), (q1, .inl (cA1, 10, .inl (fun _ => 0))), (q3, .inl (cA3, 10, .inl (fun _ => 0))), (q5, .inl (cA5, 10, .inl (fun _ => 0))), (q7, .inl (cA7, 10, .inl (fun _ => 0))), (q9, .inl (cA9, 10, .inl (fun _ => 0)))]) H9 := hP9
  have hD9 : va_D A ([(h0, .inr (2, [.int 0, .ref q1, .ref q3, .ref q5, .ref q7, .null])), (q1, .inl (cA1, 10, .inl (fun _ => 0))), (q3, .inl (cA3, 10, .inl (fun _ => 0))), (q5, .inl (cA5, 10, .inl (fun _ => 0))), (q7, .inl (cA7, 10, .inl (fun _ => 0))), (q9, .inl (cA9, 10, .inl (fun _ => 0)))]) := hD9
  clear hK7 hP8 hD8 hS8
  refine W.widen (k := 5) (n := 50) (Nat.le_of_ble_eq_true rfl) (Nat.le_of_ble_eq_true rfl) ?_
  refine va_putF (D := (dC, dI)) (ci := 2) (v := .ref q9) (ty := (.array .int)) (C := RX2) (T := TX2) (N := 6) hx hb hts hin2 tyX2 tyX2_ok nmX2 hown hK9 hP9 hD9 hS9 0 rfl rfl 5 (by decide) (hts (.fieldLink RX2 24 "OldestCoins$Coins" "kind" "[I") (List.mem_of_getElem? (i := 9) rfl)) (fun _ h9 => h9) rfl hin rfl (by decide +kernel) rfl rfl (Nat.le_of_ble_eq_true rfl) dX2_init_36 (fun H10 locs10 hP10 hD10 hS10 => ?_)
  have hP10 : va_P (dC, dI) vwCl ([(h0, .inr (2, [.int 0, .ref q1, .ref q3, .ref q5, .ref q7, .ref q9])), (q1, .inl (cA1, 10, .inl (fun _ => 0))), (q3, .inl (cA3, 10, .inl (fun _ => 0))), (q5, .inl (cA5, 10, .inl (fun _ => 0))), (q7, .inl (cA7, 10, .inl (fun _ => 0))), (q9, .inl (cA9, 10, .inl (fun _ => 0)))]) H10 := hP10
  have hD10 : va_D A ([(h0, .inr (2, [.int 0, .ref q1, .ref q3, .ref q5, .ref q7, .ref q9])), (q1, .inl (cA1, 10, .inl (fun _ => 0))), (q3, .inl (cA3, 10, .inl (fun _ => 0))), (q5, .inl (cA5, 10, .inl (fun _ => 0))), (q7, .inl (cA7, 10, .inl (fun _ => 0))), (q9, .inl (cA9, 10, .inl (fun _ => 0)))]) := hD10
  clear hP9 hD9 hS9
  have hP9 := hP10.sub (ws' := zc_2 (fun i => [h0, q1, q3, q5, q7, q9].getD i 0) (fun i => [cA1, cA1, cA3, cA5, cA7, cA9].getD i (cA1)) 10 zi_2) [0, 1, 2, 3, 4, 5] rfl
  have hD9 := hD10.sub (ws' := zc_2 (fun i => [h0, q1, q3, q5, q7, q9].getD i 0) (fun i => [cA1, cA1, cA3, cA5, cA7, cA9].getD i (cA1)) 10 zi_2) [0, 1, 2, 3, 4, 5] (by decide) rfl
  have hK9 := hK9.sub (tys' := zt_2 (fun i => [cA1, cA1, cA3, cA5, cA7, cA9].getD i (cA1))) [0, 1, 2, 3, 4] rfl
  exact W.vret hx hb hr (fun t ht hW => ⟨⟨((fun i => [h0, q1, q3, q5, q7, q9].getD i 0), (fun i => [cA1, cA1, cA3, cA5, cA7, cA9].getD i (cA1))), rfl, rfl, by rw [ht]; exact hP9, va_K.moved hW.alike hK9, hD9⟩, hS10.F ht⟩) hS10.2.2 dX2_init_39
set_option maxHeartbeats 4000000 in
set_option maxRecDepth 100000 in
theorem ci_X3 (l : Launch) (dC : Nat → ClassId) (dI : Nat → Nat → Nat) (h0 sz : Nat) : Met l yX3_init wsX3_init ({ frames := 1, cells := 3, slots := 12, locals := 12 } : Room) (PcF [.ref h0] sz (dC, dI) [(h0, .inr (3, [.null, .null, .int 0, .null, .int 0, .int 0, .int 0, .int 0]))] []) (va_Qv (fun u : (Nat → Nat) × (Nat → ClassId) => u.1 0 = h0) (fun u t => at3_ (dC, dI) (zc_3 u.1 u.2 zi_3) (zt_3 u.2) (va_A [(h0, .inr (3, [.null, .null, .int 0, .null, .int 0, .int 0, .int 0, .int 0]))] sz) t) (va_A [(h0, .inr (3, [.null, .null, .int 0, .null, .int 0, .int 0, .int 0, .int 0]))] sz)) 3 12 (va_A [(h0, .inr (3, [.null, .null, .int 0, .null, .int 0, .int 0, .int 0, .int 0]))] sz) := by
  refine Met.ofW (cc := cX3_init) (maxL := 1) (ret := none) (by decide) rfl ?_
  intro p e s m args below meth c s₁ B hml hv
  obtain ⟨hav, hsz, hP, hK, hD0⟩ := hv
  have hx := B.exec
  have hb := B.bytes
  have hr := B.returns
  have hts := atoms_spec (ws := wsX3_init) B.pre
  have hown : s.vm.findClass RX3 = some m.cls := findClass_of_methodNamed B.named
  have hlocks := B.notSynchronized
  have hin : meth.name = "<init>" := (name_of_methodNamed B.named B.method).1
  have hin3 : ∀ w ∈ wsX30, w ∈ wsX3_init := fun w h => List.mem_cons_of_mem _ (List.mem_append_right _ h)
  subst hsz
  have hD := hD0.self (sz := s.heap.size)
  clear hD0
  generalize hAe : va_A [(h0, .inr (3, [.null, .null, .int 0, .null, .int 0, .int 0, .int 0, .int 0]))] s.heap.size = A at hD ⊢
  have hA : ∀ q : Nat, s.heap.size ≤ q → A q := fun q h => by rw [← hAe]; exact Or.inr h
  have hS : va_S A s.heap s.heap [] := va_S.rf
  rw [show entryFrame m args 1 = F0 m 0 ((lg_sl ([.ref h0]) ++ List.replicate (1 - (lg_sl ([.ref h0])).length) Slot.unset).toArray) [] from by rw [hav]; exact lg_entry_eq m _ _]
  have hl := lv_entry ([.ref h0]) (n := 1) (Nat.le_of_ble_eq_true rfl)
  generalize (lg_sl ([.ref h0]) ++ List.replicate (1 - (lg_sl ([.ref h0])).length) Slot.unset).toArray = ls at hl ⊢
  have hl : lv_has ls 1 [(0, .ref h0)] := hl
  refine lv_aload_n hx hb dX3_init_0 rfl (lv_at hl 0 rfl) ?_
  refine W.objInit hx hb hown (hts (.methodLink RX3 3 objectInit) (List.mem_of_getElem? (i := 1) rfl)) (hts (.instanceMethod objectInit) (List.mem_of_getElem? (i := 2) rfl)) (hts (.code objectInit ⟨#[0xb1]⟩ 1 none) (List.mem_of_getElem? (i := 3) rfl)) rfl (by rw [hml]; exact hl.1) rfl dX3_init_1 (Nat.le_of_ble_eq_true rfl) (Nat.le_of_ble_eq_true rfl) ?_
  refine W.eq (g2 := F0 m 4 ls []) rfl ?_
  refine lv_aload_n hx hb dX3_init_4 rfl (lv_at hl 0 rfl) ?_
  refine lv_iconst (v := (4 : Int32)) hx hb dX3_init_5 (by decide) ?_
  refine va_newa (atype := .int) (a0 := (4, .inl (fun _ => 0))) (N' := 4) (ty := .int) hx hb (hts (.arrayClass .int) (List.mem_of_getElem? (i := 4) rfl)) rfl hK hP hD hS hA (fun _ => rfl) (by decide) (by decide) (by decide +kernel) (Nat.le_of_ble_eq_true rfl) (Nat.le_of_ble_eq_true rfl) dX3_init_6 (fun q1 cA1 H1 hK1 hP1 hD1 hS1 => ?_)
  have hK1 : va_K (dC, dI) vwCl ([(cA1, .int)]) s := hK1
  have hP1 : va_P (dC, dI) vwCl ([(h0, .inr (3, [.null, .null, .int 0, .null, .int 0, .int 0, .int 0, .int 0])), (q1, .inl (cA1, 4, .inl (fun _ => 0)))]) H1 := hP1
  have hD1 : va_D A ([(h0, .inr (3, [.null, .null, .int 0, .null, .int 0, .int 0, .int 0, .int 0])), (q1, .inl (cA1, 4, .inl (fun _ => 0)))]) := hD1
  clear hK hP hD hS
  refine W.widen (k := 1) (n := 4) (Nat.le_of_ble_eq_true rfl) (Nat.le_of_ble_eq_true rfl) ?_
  refine va_putF (D := (dC, dI)) (ci := 3) (v := .ref q1) (ty := (.array .int)) (C := RX3) (T := TX3) (N := 8) hx hb hts hin3 tyX3 tyX3_ok nmX3 hown hK1 hP1 hD1 hS1 0 rfl rfl 0 (by decide) (hts (.fieldLink RX3 9 "OldestCoins$Guess" "worth" "[I") (List.mem_of_getElem? (i := 5) rfl)) (fun _ h9 => h9) rfl hin rfl (by decide +kernel) rfl rfl (Nat.le_of_ble_eq_true rfl) dX3_init_8 (fun H2 locs2 hP2 hD2 hS2 => ?_)
  have hP2 : va_P (dC, dI) vwCl ([(h0, .inr (3, [.ref q1, .null, .int 0, .null, .int 0, .int 0, .int 0, .int 0])), (q1, .inl (cA1, 4, .inl (fun _ => 0)))]) H2 := hP2
  have hD2 : va_D A ([(h0, .inr (3, [.ref q1, .null, .int 0, .null, .int 0, .int 0, .int 0, .int 0])), (q1, .inl (cA1, 4, .inl (fun _ => 0)))]) := hD2
  clear hP1 hD1 hS1
  refine lv_aload_n hx hb dX3_init_11 rfl (lv_at hl 0 rfl) ?_
  refine lv_iconst (v := (4 : Int32)) hx hb dX3_init_12 (by decide) ?_
  refine va_newa (atype := .int) (a0 := (4, .inl (fun _ => 0))) (N' := 4) (ty := .int) hx hb (hts (.arrayClass .int) (List.mem_of_getElem? (i := 4) rfl)) rfl hK1 hP2 hD2 hS2 hA (fun _ => rfl) (by decide) (by decide) (by decide +kernel) (Nat.le_of_ble_eq_true rfl) (Nat.le_of_ble_eq_true rfl) dX3_init_13 (fun q3 cA3 H3 hK3 hP3 hD3 hS3 => ?_)
  have hK3 : va_K (dC, dI) vwCl ([(cA1, .int), (cA3, .int)]) s := hK3
  have hP3 : va_P (dC, dI) vwCl ([(h0, .inr (3, [.ref q1, .null, .int 0, .null, .int 0, .int 0, .int 0, .int 0])), (q1, .inl (cA1, 4, .inl (fun _ => 0))), (q3, .inl (cA3, 4, .inl (fun _ => 0)))]) H3 := hP3
  have hD3 : va_D A ([(h0, .inr (3, [.ref q1, .null, .int 0, .null, .int 0, .int 0, .int 0, .int 0])), (q1, .inl (cA1, 4, .inl (fun _ => 0))), (q3, .inl (cA3, 4, .inl (fun _ => 0)))]) := hD3
  clear hK1 hP2 hD2 hS2
  refine W.widen (k := 2) (n := 8) (Nat.le_of_ble_eq_true rfl) (Nat.le_of_ble_eq_true rfl) ?_
  refine va_putF (D := (dC, dI)) (ci := 3) (v := .ref q3) (ty := (.array .int)) (C := RX3) (T := TX3) (N := 8) hx hb hts hin3 tyX3 tyX3_ok nmX3 hown hK3 hP3 hD3 hS3 0 rfl rfl 1 (by decide) (hts (.fieldLink RX3 15 "OldestCoins$Guess" "first" "[I") (List.mem_of_getElem? (i := 6) rfl)) (fun _ h9 => h9) rfl hin rfl (by decide +kernel) rfl rfl (Nat.le_of_ble_eq_true rfl) dX3_init_15 (fun H4 locs4 hP4 hD4 hS4 => ?_)
  have hP4 : va_P (dC, dI) vwCl ([(h0, .inr (3, [.ref q1, .ref q3, .int 0, .null, .int 0, .int 0, .int 0, .int 0])), (q1, .inl (cA1, 4, .inl (fun _ => 0))), (q3, .inl (cA3, 4, .inl (fun _ => 0)))]) H4 := hP4
  have hD4 : va_D A ([(h0, .inr (3, [.ref q1, .ref q3, .int 0, .null, .int 0, .int 0, .int 0, .int 0])), (q1, .inl (cA1, 4, .inl (fun _ => 0))), (q3, .inl (cA3, 4, .inl (fun _ => 0)))]) := hD4
  clear hP3 hD3 hS3
  refine lv_aload_n hx hb dX3_init_18 rfl (lv_at hl 0 rfl) ?_
  refine lv_iconst (v := (4 : Int32)) hx hb dX3_init_19 (by decide) ?_
  refine va_newa (atype := .int) (a0 := (4, .inl (fun _ => 0))) (N' := 4) (ty := .int) hx hb (hts (.arrayClass .int) (List.mem_of_getElem? (i := 4) rfl)) rfl hK3 hP4 hD4 hS4 hA (fun _ => rfl) (by decide) (by decide) (by decide +kernel) (Nat.le_of_ble_eq_true rfl) (Nat.le_of_ble_eq_true rfl) dX3_init_20 (fun q5 cA5 H5 hK5 hP5 hD5 hS5 => ?_)
  have hK5 : va_K (dC, dI) vwCl ([(cA1, .int), (cA3, .int), (cA5, .int)]) s := hK5
  have hP5 : va_P (dC, dI) vwCl ([(h0, .inr (3, [.ref q1, .ref q3, .int 0, .null, .int 0, .int 0, .int 0, .int 0])), (q1, .inl (cA1, 4, .inl (fun _ => 0))), (q3, .inl (cA3, 4, .inl (fun _ => 0))), (q5, .inl (cA5, 4, .inl (fun _ => 0)))]) H5 := hP5
  have hD5 : va_D A ([(h0, .inr (3, [.ref q1, .ref q3, .int 0, .null, .int 0, .int 0, .int 0, .int 0])), (q1, .inl (cA1, 4, .inl (fun _ => 0))), (q3, .inl (cA3, 4, .inl (fun _ => 0))), (q5, .inl (cA5, 4, .inl (fun _ => 0)))]) := hD5
  clear hK3 hP4 hD4 hS4
  refine W.widen (k := 3) (n := 12) (Nat.le_of_ble_eq_true rfl) (Nat.le_of_ble_eq_true rfl) ?_
  refine va_putF (D := (dC, dI)) (ci := 3) (v := .ref q5) (ty := (.array .int)) (C := RX3) (T := TX3) (N := 8) hx hb hts hin3 tyX3 tyX3_ok nmX3 hown hK5 hP5 hD5 hS5 0 rfl rfl 3 (by decide) (hts (.fieldLink RX3 18 "OldestCoins$Guess" "path" "[I") (List.mem_of_getElem? (i := 7) rfl)) (fun _ h9 => h9) rfl hin rfl (by decide +kernel) rfl rfl (Nat.le_of_ble_eq_true rfl) dX3_init_22 (fun H6 locs6 hP6 hD6 hS6 => ?_)
  have hP6 : va_P (dC, dI) vwCl ([(h0, .inr (3, [.ref q1, .ref q3, .int 0, .ref q5, .int 0, .int 0, .int 0, .int 0])), (q1, .inl (cA1, 4, .inl (fun _ => 0))), (q3, .inl (cA3, 4, .inl (fun _ => 0))), (q5, .inl (cA5, 4, .inl (fun _ => 0)))]) H6 := hP6
  have hD6 : va_D A ([(h0, .inr (3, [.ref q1, .ref q3, .int 0, .ref q5, .int 0, .int 0, .int 0, .int 0])), (q1, .inl (cA1, 4, .inl (fun _ => 0))), (q3, .inl (cA3, 4, .inl (fun _ => 0))), (q5, .inl (cA5, 4, .inl (fun _ => 0)))]) := hD6
  clear hP5 hD5 hS5
  have hP9 := hP6.sub (ws' := zc_3 (fun i => [h0, q1, q3, q5].getD i 0) (fun i => [cA1, cA1, cA3, cA5].getD i (cA1)) zi_3) [0, 1, 2, 3] rfl
  have hD9 := hD6.sub (ws' := zc_3 (fun i => [h0, q1, q3, q5].getD i 0) (fun i => [cA1, cA1, cA3, cA5].getD i (cA1)) zi_3) [0, 1, 2, 3] (by decide) rfl
  have hK9 := hK5.sub (tys' := zt_3 (fun i => [cA1, cA1, cA3, cA5].getD i (cA1))) [0, 1, 2] rfl
  exact W.vret hx hb hr (fun t ht hW => ⟨⟨((fun i => [h0, q1, q3, q5].getD i 0), (fun i => [cA1, cA1, cA3, cA5].getD i (cA1))), rfl, rfl, by rw [ht]; exact hP9, va_K.moved hW.alike hK9, hD9⟩, hS6.F ht⟩) hS6.2.2 dX3_init_25
set_option maxHeartbeats 4000000 in
set_option maxRecDepth 100000 in
theorem ci_X4 (l : Launch) (dC : Nat → ClassId) (dI : Nat → Nat → Nat) (h0 sz : Nat) : Met l yX4_init wsX4_init ({ frames := 1, cells := 5, slots := 296, locals := 12 } : Room) (PcF [.ref h0] sz (dC, dI) [(h0, .inr (4, [.int 0, .null, .null, .null, .null, .null]))] []) (va_Qv (fun u : (Nat → Nat) × (Nat → ClassId) => u.1 0 = h0) (fun u t => at3_ (dC, dI) (zc_4 u.1 u.2 zi_4) (zt_4 u.2) (va_A [(h0, .inr (4, [.int 0, .null, .null, .null, .null, .null]))] sz) t) (va_A [(h0, .inr (4, [.int 0, .null, .null, .null, .null, .null]))] sz)) 5 296 (va_A [(h0, .inr (4, [.int 0, .null, .null, .null, .null, .null]))] sz) := by
  refine Met.ofW (cc := cX4_init) (maxL := 1) (ret := none) (by decide) rfl ?_
  intro p e s m args below meth c s₁ B hml hv
  obtain ⟨hav, hsz, hP, hK, hD0⟩ := hv
  have hx := B.exec
  have hb := B.bytes
  have hr := B.returns
  have hts := atoms_spec (ws := wsX4_init) B.pre
  have hown : s.vm.findClass RX4 = some m.cls := findClass_of_methodNamed B.named
  have hlocks := B.notSynchronized
  have hin : meth.name = "<init>" := (name_of_methodNamed B.named B.method).1
  have hin4 : ∀ w ∈ wsX40, w ∈ wsX4_init := fun w h => List.mem_cons_of_mem _ (List.mem_append_right _ h)
  subst hsz
  have hD := hD0.self (sz := s.heap.size)
  clear hD0
  generalize hAe : va_A [(h0, .inr (4, [.int 0, .null, .null, .null, .null, .null]))] s.heap.size = A at hD ⊢
  have hA : ∀ q : Nat, s.heap.size ≤ q → A q := fun q h => by rw [← hAe]; exact Or.inr h
  have hS : va_S A s.heap s.heap [] := va_S.rf
  rw [show entryFrame m args 1 = F0 m 0 ((lg_sl ([.ref h0]) ++ List.replicate (1 - (lg_sl ([.ref h0])).length) Slot.unset).toArray) [] from by rw [hav]; exact lg_entry_eq m _ _]
  have hl := lv_entry ([.ref h0]) (n := 1) (Nat.le_of_ble_eq_true rfl)
  generalize (lg_sl ([.ref h0]) ++ List.replicate (1 - (lg_sl ([.ref h0])).length) Slot.unset).toArray = ls at hl ⊢
  have hl : lv_has ls 1 [(0, .ref h0)] := hl
  refine lv_aload_n hx hb dX4_init_0 rfl (lv_at hl 0 rfl) ?_
  refine W.objInit hx hb hown (hts (.methodLink RX4 3 objectInit) (List.mem_of_getElem? (i := 1) rfl)) (hts (.instanceMethod objectInit) (List.mem_of_getElem? (i := 2) rfl)) (hts (.code objectInit ⟨#[0xb1]⟩ 1 none) (List.mem_of_getElem? (i := 3) rfl)) rfl (by rw [hml]; exact hl.1) rfl dX4_init_1 (Nat.le_of_ble_eq_true rfl) (Nat.le_of_ble_eq_true rfl) ?_
  refine W.eq (g2 := F0 m 4 ls []) rfl ?_
  refine lv_aload_n hx hb dX4_init_4 rfl (lv_at hl 0 rfl) ?_
  refine lv_bipush (v := (64 : Int32)) hx hb dX4_init_5 (by decide) ?_
  refine va_newa (atype := .int) (a0 := (64, .inl (fun _ => 0))) (N' := 64) (ty := .int) hx hb (hts (.arrayClass .int) (List.mem_of_getElem? (i := 4) rfl)) rfl hK hP hD hS hA (fun _ => rfl) (by decide) (by decide) (by decide +kernel) (Nat.le_of_ble_eq_true rfl) (Nat.le_of_ble_eq_true rfl) dX4_init_7 (fun q1 cA1 H1 hK1 hP1 hD1 hS1 => ?_)
  have hK1 : va_K (dC, dI) vwCl ([(cA1, .int)]) s := hK1
  have hP1 : va_P (dC, dI) vwCl ([(h0, .inr (4, [.int 0, .null, .null, .null, .null, .null])), (q1, .inl (cA1, 64, .inl (fun _ => 0)))]) H1 := hP1
  have hD1 : va_D A ([(h0, .inr (4, [.int 0, .null, .null, .null, .null, .null])), (q1, .inl (cA1, 64, .inl (fun _ => 0)))]) := hD1
  clear hK hP hD hS
  refine W.widen (k := 1) (n := 64) (Nat.le_of_ble_eq_true rfl) (Nat.le_of_ble_eq_true rfl) ?_
  refine va_putF (D := (dC, dI)) (ci := 4) (v := .ref q1) (ty := (.array .int)) (C := RX4) (T := TX4) (N := 6) hx hb hts hin4 tyX4 tyX4_ok nmX4 hown hK1 hP1 hD1 hS1 0 rfl rfl 1 (by decide) (hts (.fieldLink RX4 9 "OldestCoins$Ranks" "coinAt" "[I") (List.mem_of_getElem? (i := 5) rfl)) (fun _ h9 => h9) rfl hin rfl (by decide +kernel) rfl rfl (Nat.le_of_ble_eq_true rfl) dX4_init_9 (fun H2 locs2 hP2 hD2 hS2 => ?_)
  have hP2 : va_P (dC, dI) vwCl ([(h0, .inr (4, [.int 0, .ref q1, .null, .null, .null, .null])), (q1, .inl (cA1, 64, .inl (fun _ => 0)))]) H2 := hP2
  have hD2 : va_D A ([(h0, .inr (4, [.int 0, .ref q1, .null, .null, .null, .null])), (q1, .inl (cA1, 64, .inl (fun _ => 0)))]) := hD2
  clear hP1 hD1 hS1
  refine lv_aload_n hx hb dX4_init_12 rfl (lv_at hl 0 rfl) ?_
  refine lv_bipush (v := (64 : Int32)) hx hb dX4_init_13 (by decide) ?_
  refine va_newa (atype := .int) (a0 := (64, .inl (fun _ => 0))) (N' := 64) (ty := .int) hx hb (hts (.arrayClass .int) (List.mem_of_getElem? (i := 4) rfl)) rfl hK1 hP2 hD2 hS2 hA (fun _ => rfl) (by decide) (by decide) (by decide +kernel) (Nat.le_of_ble_eq_true rfl) (Nat.le_of_ble_eq_true rfl) dX4_init_15 (fun q3 cA3 H3 hK3 hP3 hD3 hS3 => ?_)
  have hK3 : va_K (dC, dI) vwCl ([(cA1, .int), (cA3, .int)]) s := hK3
  have hP3 : va_P (dC, dI) vwCl ([(h0, .inr (4, [.int 0, .ref q1, .null, .null, .null, .null])), (q1, .inl (cA1, 64, .inl (fun _ => 0))), (q3, .inl (cA3, 64, .inl (fun _ => 0)))]) H3 := hP3
  have hD3 : va_D A ([(h0, .inr (4, [.int 0, .ref q1, .null, .null, .null, .null])), (q1, .inl (cA1, 64, .inl (fun _ => 0))), (q3, .inl (cA3, 64, .inl (fun _ => 0)))]) := hD3
  clear hK1 hP2 hD2 hS2
  refine W.widen (k := 2) (n := 128) (Nat.le_of_ble_eq_true rfl) (Nat.le_of_ble_eq_true rfl) ?_
  refine va_putF (D := (dC, dI)) (ci := 4) (v := .ref q3) (ty := (.array .int)) (C := RX4) (T := TX4) (N := 6) hx hb hts hin4 tyX4 tyX4_ok nmX4 hown hK3 hP3 hD3 hS3 0 rfl rfl 2 (by decide) (hts (.fieldLink RX4 15 "OldestCoins$Ranks" "worthAt" "[I") (List.mem_of_getElem? (i := 6) rfl)) (fun _ h9 => h9) rfl hin rfl (by decide +kernel) rfl rfl (Nat.le_of_ble_eq_true rfl) dX4_init_17 (fun H4 locs4 hP4 hD4 hS4 => ?_)
  have hP4 : va_P (dC, dI) vwCl ([(h0, .inr (4, [.int 0, .ref q1, .ref q3, .null, .null, .null])), (q1, .inl (cA1, 64, .inl (fun _ => 0))), (q3, .inl (cA3, 64, .inl (fun _ => 0)))]) H4 := hP4
  have hD4 : va_D A ([(h0, .inr (4, [.int 0, .ref q1, .ref q3, .null, .null, .null])), (q1, .inl (cA1, 64, .inl (fun _ => 0))), (q3, .inl (cA3, 64, .inl (fun _ => 0)))]) := hD4
  clear hP3 hD3 hS3
  refine lv_aload_n hx hb dX4_init_20 rfl (lv_at hl 0 rfl) ?_
  refine lv_bipush (v := (40 : Int32)) hx hb dX4_init_21 (by decide) ?_
  refine va_newa (atype := .int) (a0 := (40, .inl (fun _ => 0))) (N' := 40) (ty := .int) hx hb (hts (.arrayClass .int) (List.mem_of_getElem? (i := 4) rfl)) rfl hK3 hP4 hD4 hS4 hA (fun _ => rfl) (by decide) (by decide) (by decide +kernel) (Nat.le_of_ble_eq_true rfl) (Nat.le_of_ble_eq_true rfl) dX4_init_23 (fun q5 cA5 H5 hK5 hP5 hD5 hS5 => ?_)
  have hK5 : va_K (dC, dI) vwCl ([(cA1, .int), (cA3, .int), (cA5, .int)]) s := hK5
  have hP5 : va_P (dC, dI) vwCl ([(h0, .inr (4, [.int 0, .ref q1, .ref q3, .null, .null, .null])), (q1, .inl (cA1, 64, .inl (fun _ => 0))), (q3, .inl (cA3, 64, .inl (fun _ => 0))), (q5, .inl (cA5, 40, .inl (fun _ => 0)))]) H5 := hP5
  have hD5 : va_D A ([(h0, .inr (4, [.int 0, .ref q1, .ref q3, .null, .null, .null])), (q1, .inl (cA1, 64, .inl (fun _ => 0))), (q3, .inl (cA3, 64, .inl (fun _ => 0))), (q5, .inl (cA5, 40, .inl (fun _ => 0)))]) := hD5
  clear hK3 hP4 hD4 hS4
  refine W.widen (k := 3) (n := 168) (Nat.le_of_ble_eq_true rfl) (Nat.le_of_ble_eq_true rfl) ?_
  refine va_putF (D := (dC, dI)) (ci := 4) (v := .ref q5) (ty := (.array .int)) (C := RX4) (T := TX4) (N := 6) hx hb hts hin4 tyX4 tyX4_ok nmX4 hown hK5 hP5 hD5 hS5 0 rfl rfl 3 (by decide) (hts (.fieldLink RX4 18 "OldestCoins$Ranks" "rankOf" "[I") (List.mem_of_getElem? (i := 7) rfl)) (fun _ h9 => h9) rfl hin rfl (by decide +kernel) rfl rfl (Nat.le_of_ble_eq_true rfl) dX4_init_25 (fun H6 locs6 hP6 hD6 hS6 => ?_)
  have hP6 : va_P (dC, dI) vwCl ([(h0, .inr (4, [.int 0, .ref q1, .ref q3, .ref q5, .null, .null])), (q1, .inl (cA1, 64, .inl (fun _ => 0))), (q3, .inl (cA3, 64, .inl (fun _ => 0))), (q5, .inl (cA5, 40, .inl (fun _ => 0)))]) H6 := hP6
  have hD6 : va_D A ([(h0, .inr (4, [.int 0, .ref q1, .ref q3, .ref q5, .null, .null])), (q1, .inl (cA1, 64, .inl (fun _ => 0))), (q3, .inl (cA3, 64, .inl (fun _ => 0))), (q5, .inl (cA5, 40, .inl (fun _ => 0)))]) := hD6
  clear hP5 hD5 hS5
  refine lv_aload_n hx hb dX4_init_28 rfl (lv_at hl 0 rfl) ?_
  refine lv_bipush (v := (64 : Int32)) hx hb dX4_init_29 (by decide) ?_
  refine va_newa (atype := .int) (a0 := (64, .inl (fun _ => 0))) (N' := 64) (ty := .int) hx hb (hts (.arrayClass .int) (List.mem_of_getElem? (i := 4) rfl)) rfl hK5 hP6 hD6 hS6 hA (fun _ => rfl) (by decide) (by decide) (by decide +kernel) (Nat.le_of_ble_eq_true rfl) (Nat.le_of_ble_eq_true rfl) dX4_init_31 (fun q7 cA7 H7 hK7 hP7 hD7 hS7 => ?_)
  have hK7 : va_K (dC, dI) vwCl ([(cA1, .int), (cA3, .int), (cA5, .int), (cA7, .int)]) s := hK7
  have hP7 : va_P (dC, dI) vwCl ([(h0, .inr (4, [.int 0, .ref q1, .ref q3, .ref q5, .null, .null])), (q1, .inl (cA1, 64, .inl (fun _ => 0))), (q3, .inl (cA3, 64, .inl (fun _ => 0))), (q5, .inl (cA5, 40, .inl (fun _ => 0))), (q7, .inl (cA7, 64, .inl (fun _ => 0)))]) H7 := hP7
  have hD7 : va_D A ([(h0, .inr (4, [.int 0, .ref q1, .ref q3, .ref q5, .null, .null])), (q1, .inl (cA1, 64, .inl (fun _ => 0))), (q3, .inl (cA3, 64, .inl (fun _ => 0))), (q5, .inl (cA5, 40, .inl (fun _ => 0))), (q7, .inl (cA7, 64, .inl (fun _ => 0)))]) := hD7
  clear hK5 hP6 hD6 hS6
  refine W.widen (k := 4) (n := 232) (Nat.le_of_ble_eq_true rfl) (Nat.le_of_ble_eq_true rfl) ?_
  refine va_putF (D := (dC, dI)) (ci := 4) (v := .ref q7) (ty := (.array .int)) (C := RX4) (T := TX4) (N := 6) hx hb hts hin4 tyX4 tyX4_ok nmX4 hown hK7 hP7 hD7 hS7 0 rfl rfl 4 (by decide) (hts (.fieldLink RX4 21 "OldestCoins$Ranks" "keyAt" "[I") (List.mem_of_getElem? (i := 8) rfl)) (fun _ h9 => h9) rfl hin rfl (by decide +kernel) rfl rfl (Nat.le_of_ble_eq_true rfl) dX4_init_33 (fun H8 locs8 hP8 hD8 hS8 => ?_)
  have hP8 : va_P (dC, dI) vwCl ([(h0, .inr (4, [.int 0, .ref q1, .ref q3, .ref q5, .ref q7, .null])), (q1, .inl (cA1, 64, .inl (fun _ => 0))), (q3, .inl (cA3, 64, .inl (fun _ => 0))), (q5, .inl (cA5, 40, .inl (fun _ => 0))), (q7, .inl (cA7, 64, .inl (fun _ => 0)))]) H8 := hP8
  have hD8 : va_D A ([(h0, .inr (4, [.int 0, .ref q1, .ref q3, .ref q5, .ref q7, .null])), (q1, .inl (cA1, 64, .inl (fun _ => 0))), (q3, .inl (cA3, 64, .inl (fun _ => 0))), (q5, .inl (cA5, 40, .inl (fun _ => 0))), (q7, .inl (cA7, 64, .inl (fun _ => 0)))]) := hD8
  clear hP7 hD7 hS7
  refine lv_aload_n hx hb dX4_init_36 rfl (lv_at hl 0 rfl) ?_
  refine lv_bipush (v := (64 : Int32)) hx hb dX4_init_37 (by decide) ?_
  refine va_newa (atype := .long) (a0 := (64, .inr (.inl (fun _ => 0)))) (N' := 64) (ty := .long) hx hb (hts (.arrayClass .long) (List.mem_of_getElem? (i := 9) rfl)) rfl hK7 hP8 hD8 hS8 hA (fun _ => rfl) (by decide) (by decide) (by decide +kernel) (Nat.le_of_ble_eq_true rfl) (Nat.le_of_ble_eq_true rfl) dX4_init_39 (fun q9 cA9 H9 hK9 hP9 hD9 hS9 => ?_)
  have hK9 : va_K (dC, dI) vwCl ([(cA1, .int), (cA3, .int), (cA5, .int), (cA7, .int), (cA9, .long)]) s := hK9
  have hP9 : va_P (dC, dI) vwCl ([(h0, .inr (4, [.int 0, .ref q1, .ref q3, .ref q5, .ref q7, .null])), (q1, .inl (cA1, 64, .inl (fun _ => 0))), (q3, .inl (cA3, 64, .inl (fun _ => 0))), (q5, .inl (cA5, 40, .inl (fun _ => 0))), (q7, .inl (cA7, 64, .inl (fun _ => 0))), (q9, .inl (cA9, 64, .inr (.inl (fun _ => 0))))]) H9 := hP9
  have hD9 : va_D A ([(h0, .inr (4, [.int 0, .ref q1, .ref q3, .ref q5, .ref q7, .null])), (q1, .inl (cA1, 64, .inl (fun _ => 0))), (q3, .inl (cA3, 64, .inl (fun _ => 0))), (q5, .inl (cA5, 40, .inl (fun _ => 0))), (q7, .inl (cA7, 64, .inl (fun _ => 0))), (q9, .inl (cA9, 64, .inr (.inl (fun _ => 0))))]) := hD9
  clear hK7 hP8 hD8 hS8
  refine W.widen (k := 5) (n := 296) (Nat.le_of_ble_eq_true rfl) (Nat.le_of_ble_eq_true rfl) ?_
  refine va_putF (D := (dC, dI)) (ci := 4) (v := .ref q9) (ty := (.array .long)) (C := RX4) (T := TX4) (N := 6) hx hb hts hin4 tyX4 tyX4_ok nmX4 hown hK9 hP9 hD9 hS9 0 rfl rfl 5 (by decide) (hts (.fieldLink RX4 24 "OldestCoins$Ranks" "alike" "[J") (List.mem_of_getElem? (i := 10) rfl)) (fun _ h9 => h9) rfl hin rfl (by decide +kernel) rfl rfl (Nat.le_of_ble_eq_true rfl) dX4_init_41 (fun H10 locs10 hP10 hD10 hS10 => ?_)
  have hP10 : va_P (dC, dI) vwCl ([(h0, .inr (4, [.int 0, .ref q1, .ref q3, .ref q5, .ref q7, .ref q9])), (q1, .inl (cA1, 64, .inl (fun _ => 0))), (q3, .inl (cA3, 64, .inl (fun _ => 0))), (q5, .inl (cA5, 40, .inl (fun _ => 0))), (q7, .inl (cA7, 64, .inl (fun _ => 0))), (q9, .inl (cA9, 64, .inr (.inl (fun _ => 0))))]) H10 := hP10
  have hD10 : va_D A ([(h0, .inr (4, [.int 0, .ref q1, .ref q3, .ref q5, .ref q7, .ref q9])), (q1, .inl (cA1, 64, .inl (fun _ => 0))), (q3, .inl (cA3, 64, .inl (fun _ => 0))), (q5, .inl (cA5, 40, .inl (fun _ => 0))), (q7, .inl (cA7, 64, .inl (fun _ => 0))), (q9, .inl (cA9, 64, .inr (.inl (fun _ => 0))))]) := hD10
  clear hP9 hD9 hS9
  have hP9 := hP10.sub (ws' := zc_4 (fun i => [h0, q1, q3, q5, q7, q9].getD i 0) (fun i => [cA1, cA1, cA3, cA5, cA7, cA9].getD i (cA1)) zi_4) [0, 1, 2, 3, 4, 5] rfl
  have hD9 := hD10.sub (ws' := zc_4 (fun i => [h0, q1, q3, q5, q7, q9].getD i 0) (fun i => [cA1, cA1, cA3, cA5, cA7, cA9].getD i (cA1)) zi_4) [0, 1, 2, 3, 4, 5] (by decide) rfl
  have hK9 := hK9.sub (tys' := zt_4 (fun i => [cA1, cA1, cA3, cA5, cA7, cA9].getD i (cA1))) [0, 1, 2, 3, 4] rfl
  exact W.vret hx hb hr (fun t ht hW => ⟨⟨((fun i => [h0, q1, q3, q5, q7, q9].getD i 0), (fun i => [cA1, cA1, cA3, cA5, cA7, cA9].getD i (cA1))), rfl, rfl, by rw [ht]; exact hP9, va_K.moved hW.alike hK9, hD9⟩, hS10.F ht⟩) hS10.2.2 dX4_init_44
set_option maxHeartbeats 4000000 in
set_option maxRecDepth 100000 in
theorem ci_X5 (l : Launch) (dC : Nat → ClassId) (dI : Nat → Nat → Nat) (h0 sz : Nat) : Met l yX5_init wsX5_init ({ frames := 1, cells := 3, slots := 104, locals := 12 } : Room) (PcF [.ref h0] sz (dC, dI) [(h0, .inr (5, [.null, .null, .null]))] []) (va_Qv (fun u : (Nat → Nat) × (Nat → ClassId) => u.1 0 = h0) (fun u t => at3_ (dC, dI) (zc_5 u.1 u.2 zi_5) (zt_5 u.2) (va_A [(h0, .inr (5, [.null, .null, .null]))] sz) t) (va_A [(h0, .inr (5, [.null, .null, .null]))] sz)) 3 104 (va_A [(h0, .inr (5, [.null, .null, .null]))] sz) := by
  refine Met.ofW (cc := cX5_init) (maxL := 2) (ret := none) (by decide) rfl ?_
  intro p e s m args below meth c s₁ B hml hv
  obtain ⟨hav, hsz, hP, hK, hD0⟩ := hv
  have hx := B.exec
  have hb := B.bytes
  have hr := B.returns
  have hts := atoms_spec (ws := wsX5_init) B.pre
  have hown : s.vm.findClass RX5 = some m.cls := findClass_of_methodNamed B.named
  have hlocks := B.notSynchronized
  have hin : meth.name = "<init>" := (name_of_methodNamed B.named B.method).1
  have hin5 : ∀ w ∈ wsX50, w ∈ wsX5_init := fun w h => List.mem_cons_of_mem _ (List.mem_append_right _ h)
  subst hsz
  have hD := hD0.self (sz := s.heap.size)
  clear hD0
  generalize hAe : va_A [(h0, .inr (5, [.null, .null, .null]))] s.heap.size = A at hD ⊢
  have hA : ∀ q : Nat, s.heap.size ≤ q → A q := fun q h => by rw [← hAe]; exact Or.inr h
  have hS : va_S A s.heap s.heap [] := va_S.rf
  rw [show entryFrame m args 2 = F0 m 0 ((lg_sl ([.ref h0]) ++ List.replicate (2 - (lg_sl ([.ref h0])).length) Slot.unset).toArray) [] from by rw [hav]; exact lg_entry_eq m _ _]
  have hl := lv_entry ([.ref h0]) (n := 2) (Nat.le_of_ble_eq_true rfl)
  generalize (lg_sl ([.ref h0]) ++ List.replicate (2 - (lg_sl ([.ref h0])).length) Slot.unset).toArray = ls at hl ⊢
  have hl : lv_has ls 2 [(0, .ref h0)] := hl
  refine lv_aload_n hx hb dX5_init_0 rfl (lv_at hl 0 rfl) ?_
  refine W.objInit hx hb hown (hts (.methodLink RX5 3 objectInit) (List.mem_of_getElem? (i := 1) rfl)) (hts (.instanceMethod objectInit) (List.mem_of_getElem? (i := 2) rfl)) (hts (.code objectInit ⟨#[0xb1]⟩ 1 none) (List.mem_of_getElem? (i := 3) rfl)) rfl (by rw [hml]; exact hl.1) rfl dX5_init_1 (Nat.le_of_ble_eq_true rfl) (Nat.le_of_ble_eq_true rfl) ?_
  refine W.eq (g2 := F0 m 4 ls []) rfl ?_
  refine lv_aload_n hx hb dX5_init_4 rfl (lv_at hl 0 rfl) ?_
  refine lv_iconst (v := (4 : Int32)) hx hb dX5_init_5 (by decide) ?_
  refine va_newa (atype := .int) (a0 := (4, .inl (fun _ => 0))) (N' := 4) (ty := .int) hx hb (hts (.arrayClass .int) (List.mem_of_getElem? (i := 4) rfl)) rfl hK hP hD hS hA (fun _ => rfl) (by decide) (by decide) (by decide +kernel) (Nat.le_of_ble_eq_true rfl) (Nat.le_of_ble_eq_true rfl) dX5_init_6 (fun q1 cA1 H1 hK1 hP1 hD1 hS1 => ?_)
  have hK1 : va_K (dC, dI) vwCl ([(cA1, .int)]) s := hK1
  have hP1 : va_P (dC, dI) vwCl ([(h0, .inr (5, [.null, .null, .null])), (q1, .inl (cA1, 4, .inl (fun _ => 0)))]) H1 := hP1
  have hD1 : va_D A ([(h0, .inr (5, [.null, .null, .null])), (q1, .inl (cA1, 4, .inl (fun _ => 0)))]) := hD1
  clear hK hP hD hS
  refine W.widen (k := 1) (n := 4) (Nat.le_of_ble_eq_true rfl) (Nat.le_of_ble_eq_true rfl) ?_
  refine va_putF (D := (dC, dI)) (ci := 5) (v := .ref q1) (ty := (.array .int)) (C := RX5) (T := TX5) (N := 3) hx hb hts hin5 tyX5 tyX5_ok nmX5 hown hK1 hP1 hD1 hS1 0 rfl rfl 0 (by decide) (hts (.fieldLink RX5 9 "OldestCoins$Sheets" "lane" "[I") (List.mem_of_getElem? (i := 5) rfl)) (fun _ h9 => h9) rfl hin rfl (by decide +kernel) rfl rfl (Nat.le_of_ble_eq_true rfl) dX5_init_8 (fun H2 locs2 hP2 hD2 hS2 => ?_)
  have hP2 : va_P (dC, dI) vwCl ([(h0, .inr (5, [.ref q1, .null, .null])), (q1, .inl (cA1, 4, .inl (fun _ => 0)))]) H2 := hP2
  have hD2 : va_D A ([(h0, .inr (5, [.ref q1, .null, .null])), (q1, .inl (cA1, 4, .inl (fun _ => 0)))]) := hD2
  clear hP1 hD1 hS1
  refine lv_aload_n hx hb dX5_init_11 rfl (lv_at hl 0 rfl) ?_
  refine lv_iconst (v := (4 : Int32)) hx hb dX5_init_12 (by decide) ?_
  refine va_newa (atype := .int) (a0 := (4, .inl (fun _ => 0))) (N' := 4) (ty := .int) hx hb (hts (.arrayClass .int) (List.mem_of_getElem? (i := 4) rfl)) rfl hK1 hP2 hD2 hS2 hA (fun _ => rfl) (by decide) (by decide) (by decide +kernel) (Nat.le_of_ble_eq_true rfl) (Nat.le_of_ble_eq_true rfl) dX5_init_13 (fun q3 cA3 H3 hK3 hP3 hD3 hS3 => ?_)
  have hK3 : va_K (dC, dI) vwCl ([(cA1, .int), (cA3, .int)]) s := hK3
  have hP3 : va_P (dC, dI) vwCl ([(h0, .inr (5, [.ref q1, .null, .null])), (q1, .inl (cA1, 4, .inl (fun _ => 0))), (q3, .inl (cA3, 4, .inl (fun _ => 0)))]) H3 := hP3
  have hD3 : va_D A ([(h0, .inr (5, [.ref q1, .null, .null])), (q1, .inl (cA1, 4, .inl (fun _ => 0))), (q3, .inl (cA3, 4, .inl (fun _ => 0)))]) := hD3
  clear hK1 hP2 hD2 hS2
  refine W.widen (k := 2) (n := 8) (Nat.le_of_ble_eq_true rfl) (Nat.le_of_ble_eq_true rfl) ?_
  refine va_putF (D := (dC, dI)) (ci := 5) (v := .ref q3) (ty := (.array .int)) (C := RX5) (T := TX5) (N := 3) hx hb hts hin5 tyX5 tyX5_ok nmX5 hown hK3 hP3 hD3 hS3 0 rfl rfl 1 (by decide) (hts (.fieldLink RX5 15 "OldestCoins$Sheets" "size" "[I") (List.mem_of_getElem? (i := 6) rfl)) (fun _ h9 => h9) rfl hin rfl (by decide +kernel) rfl rfl (Nat.le_of_ble_eq_true rfl) dX5_init_15 (fun H4 locs4 hP4 hD4 hS4 => ?_)
  have hP4 : va_P (dC, dI) vwCl ([(h0, .inr (5, [.ref q1, .ref q3, .null])), (q1, .inl (cA1, 4, .inl (fun _ => 0))), (q3, .inl (cA3, 4, .inl (fun _ => 0)))]) H4 := hP4
  have hD4 : va_D A ([(h0, .inr (5, [.ref q1, .ref q3, .null])), (q1, .inl (cA1, 4, .inl (fun _ => 0))), (q3, .inl (cA3, 4, .inl (fun _ => 0)))]) := hD4
  clear hP3 hD3 hS3
  refine lv_aload_n hx hb dX5_init_18 rfl (lv_at hl 0 rfl) ?_
  refine lv_bipush (v := (96 : Int32)) hx hb dX5_init_19 (by decide) ?_
  refine va_newa (atype := .long) (a0 := (96, .inr (.inl (fun _ => 0)))) (N' := 96) (ty := .long) hx hb (hts (.arrayClass .long) (List.mem_of_getElem? (i := 7) rfl)) rfl hK3 hP4 hD4 hS4 hA (fun _ => rfl) (by decide) (by decide) (by decide +kernel) (Nat.le_of_ble_eq_true rfl) (Nat.le_of_ble_eq_true rfl) dX5_init_21 (fun q5 cA5 H5 hK5 hP5 hD5 hS5 => ?_)
  have hK5 : va_K (dC, dI) vwCl ([(cA1, .int), (cA3, .int), (cA5, .long)]) s := hK5
  have hP5 : va_P (dC, dI) vwCl ([(h0, .inr (5, [.ref q1, .ref q3, .null])), (q1, .inl (cA1, 4, .inl (fun _ => 0))), (q3, .inl (cA3, 4, .inl (fun _ => 0))), (q5, .inl (cA5, 96, .inr (.inl (fun _ => 0))))]) H5 := hP5
  have hD5 : va_D A ([(h0, .inr (5, [.ref q1, .ref q3, .null])), (q1, .inl (cA1, 4, .inl (fun _ => 0))), (q3, .inl (cA3, 4, .inl (fun _ => 0))), (q5, .inl (cA5, 96, .inr (.inl (fun _ => 0))))]) := hD5
  clear hK3 hP4 hD4 hS4
  refine W.widen (k := 3) (n := 104) (Nat.le_of_ble_eq_true rfl) (Nat.le_of_ble_eq_true rfl) ?_
  refine va_putF (D := (dC, dI)) (ci := 5) (v := .ref q5) (ty := (.array .long)) (C := RX5) (T := TX5) (N := 3) hx hb hts hin5 tyX5 tyX5_ok nmX5 hown hK5 hP5 hD5 hS5 0 rfl rfl 2 (by decide) (hts (.fieldLink RX5 18 "OldestCoins$Sheets" "items" "[J") (List.mem_of_getElem? (i := 8) rfl)) (fun _ h9 => h9) rfl hin rfl (by decide +kernel) rfl rfl (Nat.le_of_ble_eq_true rfl) dX5_init_23 (fun H6 locs6 hP6 hD6 hS6 => ?_)
  have hP6 : va_P (dC, dI) vwCl ([(h0, .inr (5, [.ref q1, .ref q3, .ref q5])), (q1, .inl (cA1, 4, .inl (fun _ => 0))), (q3, .inl (cA3, 4, .inl (fun _ => 0))), (q5, .inl (cA5, 96, .inr (.inl (fun _ => 0))))]) H6 := hP6
  have hD6 : va_D A ([(h0, .inr (5, [.ref q1, .ref q3, .ref q5])), (q1, .inl (cA1, 4, .inl (fun _ => 0))), (q3, .inl (cA3, 4, .inl (fun _ => 0))), (q5, .inl (cA5, 96, .inr (.inl (fun _ => 0))))]) := hD6
  clear hP5 hD5 hS5
  refine lv_iconst (v := (0 : Int32)) hx hb dX5_init_26 (by decide) ?_
  refine lv_istore_n (lv' := [(1, .int (0 : Int32)), (0, .ref h0)]) hx hb dX5_init_27 rfl hl (by decide) rfl (fun ls7 hl7 => ?_)
  refine lv_iload_n hx hb dX5_init_28 rfl (lv_at hl7 0 rfl) ?_
  refine lv_iconst (v := (4 : Int32)) hx hb dX5_init_29 (by decide) ?_
  refine lv_icmp_ge (tgt := 46) hx hb dX5_init_30 (by decide) (fun c => absurd c (by decide)) (fun _ => ?_)
  refine lv_aload_n hx hb dX5_init_33 rfl (lv_at hl7 1 rfl) ?_
  refine va_get (D := (dC, dI)) (ci := 5) (v := .ref q1) (C := RX5) (T := TX5) (N := 3) hx hb hts hin5 hown hK5 hP6 0 rfl rfl 0 (by decide) (hts (.fieldLink RX5 9 "OldestCoins$Sheets" "lane" "[I") (List.mem_of_getElem? (i := 5) rfl)) (fun _ h9 => h9) rfl dX5_init_34 ?_
  refine lv_iload_n hx hb dX5_init_37 rfl (lv_at hl7 0 rfl) ?_
  refine lv_iconst (v := (-1 : Int32)) hx hb dX5_init_38 (by decide) ?_
  refine va_iast (f := (fun _ => 0)) hx hb hK5 hP6 hD6 hS6 1 0 rfl rfl (by unfold vp_in; decide) dX5_init_39 (fun H8 locs8 hP8 hD8 hS8 => ?_)
  have hP8 : va_P (dC, dI) vwCl ([(h0, .inr (5, [.ref q1, .ref q3, .ref q5])), (q1, .inl (cA1, 4, .inl (upd (fun _ => 0) (0 : Int32).toNatClampNeg (-1 : Int32)))), (q3, .inl (cA3, 4, .inl (fun _ => 0))), (q5, .inl (cA5, 96, .inr (.inl (fun _ => 0))))]) H8 := hP8
  have hD8 : va_D A ([(h0, .inr (5, [.ref q1, .ref q3, .ref q5])), (q1, .inl (cA1, 4, .inl (upd (fun _ => 0) (0 : Int32).toNatClampNeg (-1 : Int32)))), (q3, .inl (cA3, 4, .inl (fun _ => 0))), (q5, .inl (cA5, 96, .inr (.inl (fun _ => 0))))]) := hD8
  clear hP6 hD6 hS6
  refine lv_iinc (v := (1 : Int32)) (lv' := [(1, .int (1 : Int32)), (0, .ref h0)]) hx hb dX5_init_40 hl7 (k := 0) rfl (by decide) (by decide) rfl (fun ls9 hl9 => ?_)
  refine lv_goto (tgt := 28) hx hb dX5_init_43 (by decide) ?_
  refine lv_iload_n hx hb dX5_init_28 rfl (lv_at hl9 0 rfl) ?_
  refine lv_iconst (v := (4 : Int32)) hx hb dX5_init_29 (by decide) ?_
  refine lv_icmp_ge (tgt := 46) hx hb dX5_init_30 (by decide) (fun c => absurd c (by decide)) (fun _ => ?_)
  refine lv_aload_n hx hb dX5_init_33 rfl (lv_at hl9 1 rfl) ?_
  refine va_get (D := (dC, dI)) (ci := 5) (v := .ref q1) (C := RX5) (T := TX5) (N := 3) hx hb hts hin5 hown hK5 hP8 0 rfl rfl 0 (by decide) (hts (.fieldLink RX5 9 "OldestCoins$Sheets" "lane" "[I") (List.mem_of_getElem? (i := 5) rfl)) (fun _ h9 => h9) rfl dX5_init_34 ?_
  refine lv_iload_n hx hb dX5_init_37 rfl (lv_at hl9 0 rfl) ?_
  refine lv_iconst (v := (-1 : Int32)) hx hb dX5_init_38 (by decide) ?_
  refine va_iast (f := (upd (fun _ => 0) (0 : Int32).toNatClampNeg (-1 : Int32))) hx hb hK5 hP8 hD8 hS8 1 0 rfl rfl (by unfold vp_in; decide) dX5_init_39 (fun H10 locs10 hP10 hD10 hS10 => ?_)
  have hP10 : va_P (dC, dI) vwCl ([(h0, .inr (5, [.ref q1, .ref q3, .ref q5])), (q1, .inl (cA1, 4, .inl (upd (upd (fun _ => 0) (0 : Int32).toNatClampNeg (-1 : Int32)) (1 : Int32).toNatClampNeg (-1 : Int32)))), (q3, .inl (cA3, 4, .inl (fun _ => 0))), (q5, .inl (cA5, 96, .inr (.inl (fun _ => 0))))]) H10 := hP10
  have hD10 : va_D A ([(h0, .inr (5, [.ref q1, .ref q3, .ref q5])), (q1, .inl (cA1, 4, .inl (upd (upd (fun _ => 0) (0 : Int32).toNatClampNeg (-1 : Int32)) (1 : Int32).toNatClampNeg (-1 : Int32)))), (q3, .inl (cA3, 4, .inl (fun _ => 0))), (q5, .inl (cA5, 96, .inr (.inl (fun _ => 0))))]) := hD10
  clear hP8 hD8 hS8
  refine lv_iinc (v := (2 : Int32)) (lv' := [(1, .int (2 : Int32)), (0, .ref h0)]) hx hb dX5_init_40 hl9 (k := 0) rfl (by decide) (by decide) rfl (fun ls11 hl11 => ?_)
  refine lv_goto (tgt := 28) hx hb dX5_init_43 (by decide) ?_
  refine lv_iload_n hx hb dX5_init_28 rfl (lv_at hl11 0 rfl) ?_
  refine lv_iconst (v := (4 : Int32)) hx hb dX5_init_29 (by decide) ?_
  refine lv_icmp_ge (tgt := 46) hx hb dX5_init_30 (by decide) (fun c => absurd c (by decide)) (fun _ => ?_)
  refine lv_aload_n hx hb dX5_init_33 rfl (lv_at hl11 1 rfl) ?_
  refine va_get (D := (dC, dI)) (ci := 5) (v := .ref q1) (C := RX5) (T := TX5) (N := 3) hx hb hts hin5 hown hK5 hP10 0 rfl rfl 0 (by decide) (hts (.fieldLink RX5 9 "OldestCoins$Sheets" "lane" "[I") (List.mem_of_getElem? (i := 5) rfl)) (fun _ h9 => h9) rfl dX5_init_34 ?_
  refine lv_iload_n hx hb dX5_init_37 rfl (lv_at hl11 0 rfl) ?_
  refine lv_iconst (v := (-1 : Int32)) hx hb dX5_init_38 (by decide) ?_
  refine va_iast (f := (upd (upd (fun _ => 0) (0 : Int32).toNatClampNeg (-1 : Int32)) (1 : Int32).toNatClampNeg (-1 : Int32))) hx hb hK5 hP10 hD10 hS10 1 0 rfl rfl (by unfold vp_in; decide) dX5_init_39 (fun H12 locs12 hP12 hD12 hS12 => ?_)
  have hP12 : va_P (dC, dI) vwCl ([(h0, .inr (5, [.ref q1, .ref q3, .ref q5])), (q1, .inl (cA1, 4, .inl (upd (upd (upd (fun _ => 0) (0 : Int32).toNatClampNeg (-1 : Int32)) (1 : Int32).toNatClampNeg (-1 : Int32)) (2 : Int32).toNatClampNeg (-1 : Int32)))), (q3, .inl (cA3, 4, .inl (fun _ => 0))), (q5, .inl (cA5, 96, .inr (.inl (fun _ => 0))))]) H12 := hP12
  have hD12 : va_D A ([(h0, .inr (5, [.ref q1, .ref q3, .ref q5])), (q1, .inl (cA1, 4, .inl (upd (upd (upd (fun _ => 0) (0 : Int32).toNatClampNeg (-1 : Int32)) (1 : Int32).toNatClampNeg (-1 : Int32)) (2 : Int32).toNatClampNeg (-1 : Int32)))), (q3, .inl (cA3, 4, .inl (fun _ => 0))), (q5, .inl (cA5, 96, .inr (.inl (fun _ => 0))))]) := hD12
  clear hP10 hD10 hS10
  refine lv_iinc (v := (3 : Int32)) (lv' := [(1, .int (3 : Int32)), (0, .ref h0)]) hx hb dX5_init_40 hl11 (k := 0) rfl (by decide) (by decide) rfl (fun ls13 hl13 => ?_)
  refine lv_goto (tgt := 28) hx hb dX5_init_43 (by decide) ?_
  refine lv_iload_n hx hb dX5_init_28 rfl (lv_at hl13 0 rfl) ?_
  refine lv_iconst (v := (4 : Int32)) hx hb dX5_init_29 (by decide) ?_
  refine lv_icmp_ge (tgt := 46) hx hb dX5_init_30 (by decide) (fun c => absurd c (by decide)) (fun _ => ?_)
  refine lv_aload_n hx hb dX5_init_33 rfl (lv_at hl13 1 rfl) ?_
  refine va_get (D := (dC, dI)) (ci := 5) (v := .ref q1) (C := RX5) (T := TX5) (N := 3) hx hb hts hin5 hown hK5 hP12 0 rfl rfl 0 (by decide) (hts (.fieldLink RX5 9 "OldestCoins$Sheets" "lane" "[I") (List.mem_of_getElem? (i := 5) rfl)) (fun _ h9 => h9) rfl dX5_init_34 ?_
  refine lv_iload_n hx hb dX5_init_37 rfl (lv_at hl13 0 rfl) ?_
  refine lv_iconst (v := (-1 : Int32)) hx hb dX5_init_38 (by decide) ?_
  refine va_iast (f := (upd (upd (upd (fun _ => 0) (0 : Int32).toNatClampNeg (-1 : Int32)) (1 : Int32).toNatClampNeg (-1 : Int32)) (2 : Int32).toNatClampNeg (-1 : Int32))) hx hb hK5 hP12 hD12 hS12 1 0 rfl rfl (by unfold vp_in; decide) dX5_init_39 (fun H14 locs14 hP14 hD14 hS14 => ?_)
  have hP14 : va_P (dC, dI) vwCl ([(h0, .inr (5, [.ref q1, .ref q3, .ref q5])), (q1, .inl (cA1, 4, .inl (upd (upd (upd (upd (fun _ => 0) (0 : Int32).toNatClampNeg (-1 : Int32)) (1 : Int32).toNatClampNeg (-1 : Int32)) (2 : Int32).toNatClampNeg (-1 : Int32)) (3 : Int32).toNatClampNeg (-1 : Int32)))), (q3, .inl (cA3, 4, .inl (fun _ => 0))), (q5, .inl (cA5, 96, .inr (.inl (fun _ => 0))))]) H14 := hP14
  have hD14 : va_D A ([(h0, .inr (5, [.ref q1, .ref q3, .ref q5])), (q1, .inl (cA1, 4, .inl (upd (upd (upd (upd (fun _ => 0) (0 : Int32).toNatClampNeg (-1 : Int32)) (1 : Int32).toNatClampNeg (-1 : Int32)) (2 : Int32).toNatClampNeg (-1 : Int32)) (3 : Int32).toNatClampNeg (-1 : Int32)))), (q3, .inl (cA3, 4, .inl (fun _ => 0))), (q5, .inl (cA5, 96, .inr (.inl (fun _ => 0))))]) := hD14
  clear hP12 hD12 hS12
  refine lv_iinc (v := (4 : Int32)) (lv' := [(1, .int (4 : Int32)), (0, .ref h0)]) hx hb dX5_init_40 hl13 (k := 0) rfl (by decide) (by decide) rfl (fun ls15 hl15 => ?_)
  refine lv_goto (tgt := 28) hx hb dX5_init_43 (by decide) ?_
  refine lv_iload_n hx hb dX5_init_28 rfl (lv_at hl15 0 rfl) ?_
  refine lv_iconst (v := (4 : Int32)) hx hb dX5_init_29 (by decide) ?_
  refine lv_icmp_ge (tgt := 46) hx hb dX5_init_30 (by decide) (fun _ => ?_) (fun c => absurd (by decide) c)
  have hP9 := hP14.sub (ws' := zc_5 (fun i => [h0, q1, q3, q5].getD i 0) (fun i => [cA1, cA1, cA3, cA5].getD i (cA1)) zi_5) [0, 1, 2, 3] rfl
  have hD9 := hD14.sub (ws' := zc_5 (fun i => [h0, q1, q3, q5].getD i 0) (fun i => [cA1, cA1, cA3, cA5].getD i (cA1)) zi_5) [0, 1, 2, 3] (by decide) rfl
  have hK9 := hK5.sub (tys' := zt_5 (fun i => [cA1, cA1, cA3, cA5].getD i (cA1))) [0, 1, 2] rfl
  exact W.vret hx hb hr (fun t ht hW => ⟨⟨((fun i => [h0, q1, q3, q5].getD i 0), (fun i => [cA1, cA1, cA3, cA5].getD i (cA1))), rfl, rfl, by rw [ht]; exact hP9, va_K.moved hW.alike hK9, hD9⟩, hS14.F ht⟩) hS14.2.2 dX5_init_46
set_option maxHeartbeats 4000000 in
set_option maxRecDepth 100000 in
theorem ci_X6 (l : Launch) (dC : Nat → ClassId) (dI : Nat → Nat → Nat) (h0 sz : Nat) : Met l yX6_init wsX6_init ({ frames := 1, cells := 1, slots := 160, locals := 12 } : Room) (PcF [.ref h0] sz (dC, dI) [(h0, .inr (6, [.int 0, .int 0, .int 0, .null]))] []) (va_Qv (fun u : (Nat → Nat) × (Nat → ClassId) => u.1 0 = h0) (fun u t => at3_ (dC, dI) (zc_6 u.1 u.2 zi_6) (zt_6 u.2) (va_A [(h0, .inr (6, [.int 0, .int 0, .int 0, .null]))] sz) t) (va_A [(h0, .inr (6, [.int 0, .int 0, .int 0, .null]))] sz)) 1 160 (va_A [(h0, .inr (6, [.int 0, .int 0, .int 0, .null]))] sz) := by
  refine Met.ofW (cc := cX6_init) (maxL := 1) (ret := none) (by decide) rfl ?_
  intro p e s m args below meth c s₁ B hml hv
  obtain ⟨hav, hsz, hP, hK, hD0⟩ := hv
  have hx := B.exec
  have hb := B.bytes
  have hr := B.returns
  have hts := atoms_spec (ws := wsX6_init) B.pre
  have hown : s.vm.findClass RX6 = some m.cls := findClass_of_methodNamed B.named
  have hlocks := B.notSynchronized
  have hin : meth.name = "<init>" := (name_of_methodNamed B.named B.method).1
  have hin6 : ∀ w ∈ wsX60, w ∈ wsX6_init := fun w h => List.mem_cons_of_mem _ (List.mem_append_right _ h)
  subst hsz
  have hD := hD0.self (sz := s.heap.size)
  clear hD0
  generalize hAe : va_A [(h0, .inr (6, [.int 0, .int 0, .int 0, .null]))] s.heap.size = A at hD ⊢
  have hA : ∀ q : Nat, s.heap.size ≤ q → A q := fun q h => by rw [← hAe]; exact Or.inr h
  have hS : va_S A s.heap s.heap [] := va_S.rf
  rw [show entryFrame m args 1 = F0 m 0 ((lg_sl ([.ref h0]) ++ List.replicate (1 - (lg_sl ([.ref h0])).length) Slot.unset).toArray) [] from by rw [hav]; exact lg_entry_eq m _ _]
  have hl := lv_entry ([.ref h0]) (n := 1) (Nat.le_of_ble_eq_true rfl)
  generalize (lg_sl ([.ref h0]) ++ List.replicate (1 - (lg_sl ([.ref h0])).length) Slot.unset).toArray = ls at hl ⊢
  have hl : lv_has ls 1 [(0, .ref h0)] := hl
  refine lv_aload_n hx hb dX6_init_0 rfl (lv_at hl 0 rfl) ?_
  refine W.objInit hx hb hown (hts (.methodLink RX6 3 objectInit) (List.mem_of_getElem? (i := 1) rfl)) (hts (.instanceMethod objectInit) (List.mem_of_getElem? (i := 2) rfl)) (hts (.code objectInit ⟨#[0xb1]⟩ 1 none) (List.mem_of_getElem? (i := 3) rfl)) rfl (by rw [hml]; exact hl.1) rfl dX6_init_1 (Nat.le_of_ble_eq_true rfl) (Nat.le_of_ble_eq_true rfl) ?_
  refine W.eq (g2 := F0 m 4 ls []) rfl ?_
  refine lv_aload_n hx hb dX6_init_4 rfl (lv_at hl 0 rfl) ?_
  refine lv_iconst (v := (-1 : Int32)) hx hb dX6_init_5 (by decide) ?_
  refine va_put (D := (dC, dI)) (ci := 6) (v := .int (-1 : Int32)) (ty := .int) (C := RX6) (T := TX6) (N := 4) hx hb hts hin6 tyX6 tyX6_ok nmX6 hown hK hP hD hS 0 rfl rfl 1 (by decide) (hts (.fieldLink RX6 11 "OldestCoins$Tape" "fault" "I") (List.mem_of_getElem? (i := 4) rfl)) (fun _ h9 => h9) rfl (by decide +kernel) rfl rfl (Nat.le_of_ble_eq_true rfl) dX6_init_6 (fun H1 locs1 hP1 hD1 hS1 => ?_)
  have hP1 : va_P (dC, dI) vwCl ([(h0, .inr (6, [.int 0, .int (-1 : Int32), .int 0, .null]))]) H1 := hP1
  have hD1 : va_D A ([(h0, .inr (6, [.int 0, .int (-1 : Int32), .int 0, .null]))]) := hD1
  clear hP hD hS
  refine lv_aload_n hx hb dX6_init_9 rfl (lv_at hl 0 rfl) ?_
  refine lv_sipush (v := (160 : Int32)) hx hb dX6_init_10 (by decide) ?_
  refine va_newa (atype := .byte) (a0 := (160, .inl (fun _ => 0))) (N' := 160) (ty := .byte) hx hb (hts (.arrayClass .byte) (List.mem_of_getElem? (i := 5) rfl)) rfl hK hP1 hD1 hS1 hA (fun _ => rfl) (by decide) (by decide) (by decide +kernel) (Nat.le_of_ble_eq_true rfl) (Nat.le_of_ble_eq_true rfl) dX6_init_13 (fun q2 cA2 H2 hK2 hP2 hD2 hS2 => ?_)
  have hK2 : va_K (dC, dI) vwCl ([(cA2, .byte)]) s := hK2
  have hP2 : va_P (dC, dI) vwCl ([(h0, .inr (6, [.int 0, .int (-1 : Int32), .int 0, .null])), (q2, .inl (cA2, 160, .inl (fun _ => 0)))]) H2 := hP2
  have hD2 : va_D A ([(h0, .inr (6, [.int 0, .int (-1 : Int32), .int 0, .null])), (q2, .inl (cA2, 160, .inl (fun _ => 0)))]) := hD2
  clear hK hP1 hD1 hS1
  refine W.widen (k := 1) (n := 160) (Nat.le_of_ble_eq_true rfl) (Nat.le_of_ble_eq_true rfl) ?_
  refine va_putF (D := (dC, dI)) (ci := 6) (v := .ref q2) (ty := (.array .byte)) (C := RX6) (T := TX6) (N := 4) hx hb hts hin6 tyX6 tyX6_ok nmX6 hown hK2 hP2 hD2 hS2 0 rfl rfl 3 (by decide) (hts (.fieldLink RX6 15 "OldestCoins$Tape" "bytes" "[B") (List.mem_of_getElem? (i := 6) rfl)) (fun _ h9 => h9) rfl hin rfl (by decide +kernel) rfl rfl (Nat.le_of_ble_eq_true rfl) dX6_init_15 (fun H3 locs3 hP3 hD3 hS3 => ?_)
  have hP3 : va_P (dC, dI) vwCl ([(h0, .inr (6, [.int 0, .int (-1 : Int32), .int 0, .ref q2])), (q2, .inl (cA2, 160, .inl (fun _ => 0)))]) H3 := hP3
  have hD3 : va_D A ([(h0, .inr (6, [.int 0, .int (-1 : Int32), .int 0, .ref q2])), (q2, .inl (cA2, 160, .inl (fun _ => 0)))]) := hD3
  clear hP2 hD2 hS2
  have hP9 := hP3.sub (ws' := zc_6 (fun i => [h0, q2].getD i 0) (fun i => [cA2, cA2].getD i (cA2)) zi_6) [0, 1] rfl
  have hD9 := hD3.sub (ws' := zc_6 (fun i => [h0, q2].getD i 0) (fun i => [cA2, cA2].getD i (cA2)) zi_6) [0, 1] (by decide) rfl
  have hK9 := hK2.sub (tys' := zt_6 (fun i => [cA2, cA2].getD i (cA2))) [0] rfl
  exact W.vret hx hb hr (fun t ht hW => ⟨⟨((fun i => [h0, q2].getD i 0), (fun i => [cA2, cA2].getD i (cA2))), rfl, rfl, by rw [ht]; exact hP9, va_K.moved hW.alike hK9, hD9⟩, hS3.F ht⟩) hS3.2.2 dX6_init_18
set_option maxHeartbeats 4000000 in
set_option maxRecDepth 100000 in
theorem ci_X7 (l : Launch) (dC : Nat → ClassId) (dI : Nat → Nat → Nat) (h0 sz : Nat) : Met l yX7_init wsX7_init ({ frames := 1, cells := 2, slots := 12, locals := 12 } : Room) (PcF [.ref h0] sz (dC, dI) [(h0, .inr (7, [.int 0, .int 0, .int 0, .null, .null, .long 0, .int 0]))] []) (va_Qv (fun u : (Nat → Nat) × (Nat → ClassId) => u.1 0 = h0) (fun u t => at3_ (dC, dI) (zc_7 u.1 u.2 zi_7) (zt_7 u.2) (va_A [(h0, .inr (7, [.int 0, .int 0, .int 0, .null, .null, .long 0, .int 0]))] sz) t) (va_A [(h0, .inr (7, [.int 0, .int 0, .int 0, .null, .null, .long 0, .int 0]))] sz)) 2 12 (va_A [(h0, .inr (7, [.int 0, .int 0, .int 0, .null, .null, .long 0, .int 0]))] sz) := by
  refine Met.ofW (cc := cX7_init) (maxL := 1) (ret := none) (by decide) rfl ?_
  intro p e s m args below meth c s₁ B hml hv
  obtain ⟨hav, hsz, hP, hK, hD0⟩ := hv
  have hx := B.exec
  have hb := B.bytes
  have hr := B.returns
  have hts := atoms_spec (ws := wsX7_init) B.pre
  have hown : s.vm.findClass RX7 = some m.cls := findClass_of_methodNamed B.named
  have hlocks := B.notSynchronized
  have hin : meth.name = "<init>" := (name_of_methodNamed B.named B.method).1
  have hin7 : ∀ w ∈ wsX70, w ∈ wsX7_init := fun w h => List.mem_cons_of_mem _ (List.mem_append_right _ h)
  subst hsz
  have hD := hD0.self (sz := s.heap.size)
  clear hD0
  generalize hAe : va_A [(h0, .inr (7, [.int 0, .int 0, .int 0, .null, .null, .long 0, .int 0]))] s.heap.size = A at hD ⊢
  have hA : ∀ q : Nat, s.heap.size ≤ q → A q := fun q h => by rw [← hAe]; exact Or.inr h
  have hS : va_S A s.heap s.heap [] := va_S.rf
  rw [show entryFrame m args 1 = F0 m 0 ((lg_sl ([.ref h0]) ++ List.replicate (1 - (lg_sl ([.ref h0])).length) Slot.unset).toArray) [] from by rw [hav]; exact lg_entry_eq m _ _]
  have hl := lv_entry ([.ref h0]) (n := 1) (Nat.le_of_ble_eq_true rfl)
  generalize (lg_sl ([.ref h0]) ++ List.replicate (1 - (lg_sl ([.ref h0])).length) Slot.unset).toArray = ls at hl ⊢
  have hl : lv_has ls 1 [(0, .ref h0)] := hl
  refine lv_aload_n hx hb dX7_init_0 rfl (lv_at hl 0 rfl) ?_
  refine W.objInit hx hb hown (hts (.methodLink RX7 3 objectInit) (List.mem_of_getElem? (i := 1) rfl)) (hts (.instanceMethod objectInit) (List.mem_of_getElem? (i := 2) rfl)) (hts (.code objectInit ⟨#[0xb1]⟩ 1 none) (List.mem_of_getElem? (i := 3) rfl)) rfl (by rw [hml]; exact hl.1) rfl dX7_init_1 (Nat.le_of_ble_eq_true rfl) (Nat.le_of_ble_eq_true rfl) ?_
  refine W.eq (g2 := F0 m 4 ls []) rfl ?_
  refine lv_aload_n hx hb dX7_init_4 rfl (lv_at hl 0 rfl) ?_
  refine lv_bipush (v := (6 : Int32)) hx hb dX7_init_5 (by decide) ?_
  refine va_newa (atype := .int) (a0 := (6, .inl (fun _ => 0))) (N' := 6) (ty := .int) hx hb (hts (.arrayClass .int) (List.mem_of_getElem? (i := 4) rfl)) rfl hK hP hD hS hA (fun _ => rfl) (by decide) (by decide) (by decide +kernel) (Nat.le_of_ble_eq_true rfl) (Nat.le_of_ble_eq_true rfl) dX7_init_7 (fun q1 cA1 H1 hK1 hP1 hD1 hS1 => ?_)
  have hK1 : va_K (dC, dI) vwCl ([(cA1, .int)]) s := hK1
  have hP1 : va_P (dC, dI) vwCl ([(h0, .inr (7, [.int 0, .int 0, .int 0, .null, .null, .long 0, .int 0])), (q1, .inl (cA1, 6, .inl (fun _ => 0)))]) H1 := hP1
  have hD1 : va_D A ([(h0, .inr (7, [.int 0, .int 0, .int 0, .null, .null, .long 0, .int 0])), (q1, .inl (cA1, 6, .inl (fun _ => 0)))]) := hD1
  clear hK hP hD hS
  refine W.widen (k := 1) (n := 6) (Nat.le_of_ble_eq_true rfl) (Nat.le_of_ble_eq_true rfl) ?_
  refine va_putF (D := (dC, dI)) (ci := 7) (v := .ref q1) (ty := (.array .int)) (C := RX7) (T := TX7) (N := 7) hx hb hts hin7 tyX7 tyX7_ok nmX7 hown hK1 hP1 hD1 hS1 0 rfl rfl 3 (by decide) (hts (.fieldLink RX7 9 "OldestCoins$Tour" "path" "[I") (List.mem_of_getElem? (i := 5) rfl)) (fun _ h9 => h9) rfl hin rfl (by decide +kernel) rfl rfl (Nat.le_of_ble_eq_true rfl) dX7_init_9 (fun H2 locs2 hP2 hD2 hS2 => ?_)
  have hP2 : va_P (dC, dI) vwCl ([(h0, .inr (7, [.int 0, .int 0, .int 0, .ref q1, .null, .long 0, .int 0])), (q1, .inl (cA1, 6, .inl (fun _ => 0)))]) H2 := hP2
  have hD2 : va_D A ([(h0, .inr (7, [.int 0, .int 0, .int 0, .ref q1, .null, .long 0, .int 0])), (q1, .inl (cA1, 6, .inl (fun _ => 0)))]) := hD2
  clear hP1 hD1 hS1
  refine lv_aload_n hx hb dX7_init_12 rfl (lv_at hl 0 rfl) ?_
  refine lv_bipush (v := (6 : Int32)) hx hb dX7_init_13 (by decide) ?_
  refine va_newa (atype := .int) (a0 := (6, .inl (fun _ => 0))) (N' := 6) (ty := .int) hx hb (hts (.arrayClass .int) (List.mem_of_getElem? (i := 4) rfl)) rfl hK1 hP2 hD2 hS2 hA (fun _ => rfl) (by decide) (by decide) (by decide +kernel) (Nat.le_of_ble_eq_true rfl) (Nat.le_of_ble_eq_true rfl) dX7_init_15 (fun q3 cA3 H3 hK3 hP3 hD3 hS3 => ?_)
  have hK3 : va_K (dC, dI) vwCl ([(cA1, .int), (cA3, .int)]) s := hK3
  have hP3 : va_P (dC, dI) vwCl ([(h0, .inr (7, [.int 0, .int 0, .int 0, .ref q1, .null, .long 0, .int 0])), (q1, .inl (cA1, 6, .inl (fun _ => 0))), (q3, .inl (cA3, 6, .inl (fun _ => 0)))]) H3 := hP3
  have hD3 : va_D A ([(h0, .inr (7, [.int 0, .int 0, .int 0, .ref q1, .null, .long 0, .int 0])), (q1, .inl (cA1, 6, .inl (fun _ => 0))), (q3, .inl (cA3, 6, .inl (fun _ => 0)))]) := hD3
  clear hK1 hP2 hD2 hS2
  refine W.widen (k := 2) (n := 12) (Nat.le_of_ble_eq_true rfl) (Nat.le_of_ble_eq_true rfl) ?_
  refine va_putF (D := (dC, dI)) (ci := 7) (v := .ref q3) (ty := (.array .int)) (C := RX7) (T := TX7) (N := 7) hx hb hts hin7 tyX7 tyX7_ok nmX7 hown hK3 hP3 hD3 hS3 0 rfl rfl 4 (by decide) (hts (.fieldLink RX7 15 "OldestCoins$Tour" "found" "[I") (List.mem_of_getElem? (i := 6) rfl)) (fun _ h9 => h9) rfl hin rfl (by decide +kernel) rfl rfl (Nat.le_of_ble_eq_true rfl) dX7_init_17 (fun H4 locs4 hP4 hD4 hS4 => ?_)
  have hP4 : va_P (dC, dI) vwCl ([(h0, .inr (7, [.int 0, .int 0, .int 0, .ref q1, .ref q3, .long 0, .int 0])), (q1, .inl (cA1, 6, .inl (fun _ => 0))), (q3, .inl (cA3, 6, .inl (fun _ => 0)))]) H4 := hP4
  have hD4 : va_D A ([(h0, .inr (7, [.int 0, .int 0, .int 0, .ref q1, .ref q3, .long 0, .int 0])), (q1, .inl (cA1, 6, .inl (fun _ => 0))), (q3, .inl (cA3, 6, .inl (fun _ => 0)))]) := hD4
  clear hP3 hD3 hS3
  have hP9 := hP4.sub (ws' := zc_7 (fun i => [h0, q1, q3].getD i 0) (fun i => [cA1, cA1, cA3].getD i (cA1)) zi_7) [0, 1, 2] rfl
  have hD9 := hD4.sub (ws' := zc_7 (fun i => [h0, q1, q3].getD i 0) (fun i => [cA1, cA1, cA3].getD i (cA1)) zi_7) [0, 1, 2] (by decide) rfl
  have hK9 := hK3.sub (tys' := zt_7 (fun i => [cA1, cA1, cA3].getD i (cA1))) [0, 1] rfl
  exact W.vret hx hb hr (fun t ht hW => ⟨⟨((fun i => [h0, q1, q3].getD i 0), (fun i => [cA1, cA1, cA3].getD i (cA1))), rfl, rfl, by rw [ht]; exact hP9, va_K.moved hW.alike hK9, hD9⟩, hS4.F ht⟩) hS4.2.2 dX7_init_20
set_option maxHeartbeats 4000000 in
set_option maxRecDepth 100000 in
theorem ci_X8 (l : Launch) (dC : Nat → ClassId) (dI : Nat → Nat → Nat) (h0 sz : Nat) : Met l yX8_init wsX8_init ({ frames := 2, cells := 14, slots := 304, locals := 33 } : Room) (PcF [.ref h0] sz (dC, dI) [(h0, .inr (8, [.int 0, .null, .null, .null]))] []) (va_Qv (fun u : (Nat → Nat) × (Nat → ClassId) => u.1 0 = h0) (fun u t => at3_ (dC, dI) (zc_8 u.1 u.2 zi_8) (zt_8 u.2) (va_A [(h0, .inr (8, [.int 0, .null, .null, .null]))] sz) t) (va_A [(h0, .inr (8, [.int 0, .null, .null, .null]))] sz)) 14 304 (va_A [(h0, .inr (8, [.int 0, .null, .null, .null]))] sz) := by
  refine Met.ofW (cc := cX8_init) (maxL := 1) (ret := none) (by decide) rfl ?_
  intro p e s m args below meth c s₁ B hml hv
  obtain ⟨hav, hsz, hP, hK, hD0⟩ := hv
  have hx := B.exec
  have hb := B.bytes
  have hr := B.returns
  have hts := atoms_spec (ws := wsX8_init) B.pre
  have hown : s.vm.findClass RX8 = some m.cls := findClass_of_methodNamed B.named
  have hlocks := B.notSynchronized
  have hin : meth.name = "<init>" := (name_of_methodNamed B.named B.method).1
  have hin0 : ∀ w ∈ wsX00, w ∈ wsX8_init := fun w h => List.mem_cons_of_mem _ (List.mem_append_right _ h)
  have hin2 : ∀ w ∈ wsX20, w ∈ wsX8_init := fun w h => List.mem_cons_of_mem _ (List.mem_append_left _ (List.mem_append_left _ (List.mem_append_right _ h)))
  have hin8 : ∀ w ∈ wsX80, w ∈ wsX8_init := fun w h => List.mem_cons_of_mem _ (List.mem_append_left _ (List.mem_append_right _ h))
  subst hsz
  have hD := hD0.self (sz := s.heap.size)
  clear hD0
  generalize hAe : va_A [(h0, .inr (8, [.int 0, .null, .null, .null]))] s.heap.size = A at hD ⊢
  have hA : ∀ q : Nat, s.heap.size ≤ q → A q := fun q h => by rw [← hAe]; exact Or.inr h
  have hS : va_S A s.heap s.heap [] := va_S.rf
  rw [show entryFrame m args 1 = F0 m 0 ((lg_sl ([.ref h0]) ++ List.replicate (1 - (lg_sl ([.ref h0])).length) Slot.unset).toArray) [] from by rw [hav]; exact lg_entry_eq m _ _]
  have hl := lv_entry ([.ref h0]) (n := 1) (Nat.le_of_ble_eq_true rfl)
  generalize (lg_sl ([.ref h0]) ++ List.replicate (1 - (lg_sl ([.ref h0])).length) Slot.unset).toArray = ls at hl ⊢
  have hl : lv_has ls 1 [(0, .ref h0)] := hl
  refine lv_aload_n hx hb dX8_init_0 rfl (lv_at hl 0 rfl) ?_
  refine W.objInit hx hb hown (hts (.methodLink RX8 3 objectInit) (List.mem_of_getElem? (i := 1) rfl)) (hts (.instanceMethod objectInit) (List.mem_of_getElem? (i := 2) rfl)) (hts (.code objectInit ⟨#[0xb1]⟩ 1 none) (List.mem_of_getElem? (i := 3) rfl)) rfl (by rw [hml]; exact hl.1) rfl dX8_init_1 (Nat.le_of_ble_eq_true rfl) (Nat.le_of_ble_eq_true rfl) ?_
  refine W.eq (g2 := F0 m 4 ls []) rfl ?_
  refine lv_aload_n hx hb dX8_init_4 rfl (lv_at hl 0 rfl) ?_
  refine va_new (ci := 2) (fs := [.int 0, .null, .null, .null, .null, .null]) (C := RX2) (T := TX2) (N := 6) hx hb hts hin2 tyX2 tyX2_ok hown (hts (.classLink RX8 9 RX2) (List.mem_of_getElem? (i := 4) rfl)) (hts (.instantiable RX2 6) (List.mem_of_getElem? (i := 5) rfl)) (hts (.initialized RX2) (List.mem_of_getElem? (i := 6) rfl)) hK hP hD hS hA rfl (fun j hj => by rcases (show j = 0 ∨ j = 1 ∨ j = 2 ∨ j = 3 ∨ j = 4 ∨ j = 5 by omega) with rfl | rfl | rfl | rfl | rfl | rfl <;> rfl) (Nat.le_of_ble_eq_true rfl) (Nat.le_of_ble_eq_true rfl) dX8_init_5 (fun q1 H1 hP1 hD1 hS1 => ?_)
  have hP1 : va_P (dC, dI) vwCl ([(h0, .inr (8, [.int 0, .null, .null, .null])), (q1, .inr (2, [.int 0, .null, .null, .null, .null, .null]))]) H1 := hP1
  have hD1 : va_D A ([(h0, .inr (8, [.int 0, .null, .null, .null])), (q1, .inr (2, [.int 0, .null, .null, .null, .null, .null]))]) := hD1
  clear hP hD hS
  refine W.widen (k := 1) (n := 6) (Nat.le_of_ble_eq_true rfl) (Nat.le_of_ble_eq_true rfl) ?_
  refine lv_dup hx hb dX8_init_8 rfl ?_
  refine lv_bipush (v := (40 : Int32)) hx hb dX8_init_9 (by decide) ?_
  refine va_callv (va_runI (As := [.int (40 : Int32)]) (rest := [.ref q1, .ref h0]) ⟨hx, hb, hml, hown, hts⟩ (ci_X2_40 l dC dI q1 H1.size) (cwI 1 hts gX8_init_X2_init rfl rfl rfl (hts (.initialized RX2) (List.mem_of_getElem? (i := 6) rfl)) (hts (.methodLink RX8 11 yX2_init) (List.mem_of_getElem? (i := 13) rfl)) (hts (.instanceMethod yX2_init) (List.mem_of_getElem? (i := 14) rfl)) rfl (by decide +kernel) ⟨Nat.le_of_ble_eq_true rfl, Nat.le_of_ble_eq_true rfl⟩) (pf_s (nil_K hK) (hP1.sub (ws' := [(q1, .inr (2, [.int 0, .null, .null, .null, .null, .null]))]) [1] rfl) (hD1.sub (ws' := [(q1, .inr (2, [.int 0, .null, .null, .null, .null, .null]))]) [1] (by decide) rfl)) rfl rfl hl.1 rfl (lv_room (Nat.le_of_ble_eq_true rfl)) dX8_init_11 ⟨Nat.le_of_ble_eq_true rfl, Nat.le_of_ble_eq_true rfl⟩) hS1 (fun q _ h => (va_free (wc := [(q1, .inr (2, [.int 0, .null, .null, .null, .null, .null]))]) hD1 hS1 hA [1] rfl) q h) (va_free (wc := [(q1, .inr (2, [.int 0, .null, .null, .null, .null, .null]))]) hD1 hS1 hA [1] rfl) (fun u2 t2 H2 locs2 ht2 hvm2 hw2 hB2 hz2 hk2 hS2 => ?_)
  obtain ⟨ua2, uk2⟩ := u2
  obtain ⟨hP2a, hK2a, hD2a⟩ := hB2
  rw [ht2] at hP2a
  have hK2a := va_K.moved hvm2.symm hK2a
  replace hw2 : ua2 0 = q1 := hw2
  obtain ⟨hP2, hD2⟩ := va_join (wc := [(q1, .inr (2, [.int 0, .null, .null, .null, .null, .null]))]) (wr := [(h0, .inr (8, [.int 0, .null, .null, .null]))]) (w1 := zc_2 ua2 uk2 40 zi_2) hP1 hD1 [1] [0] rfl rfl (by decide) (by decide) hk2 (va_free (wc := [(q1, .inr (2, [.int 0, .null, .null, .null, .null, .null]))]) hD1 hS1 hA [1] rfl) hP2a hD2a
  have hK2 := (hK.sub (tys' := []) [] rfl).app hK2a
  clear hP1 hD1 hS1 hK hP2a hD2a hK2a hk2 ht2 hvm2 hz2
  subst hw2
  have hK2 : va_K (dC, dI) vwCl ([((uk2 1), .int), ((uk2 2), .int), ((uk2 3), .int), ((uk2 4), .int), ((uk2 5), .int)]) s := hK2
  have hP2 : va_P (dC, dI) vwCl ([(h0, .inr (8, [.int 0, .null, .null, .null]))] ++ (zc_2 ua2 uk2 40 zi_2)) H2 := hP2
  have hD2 : va_D A ([(h0, .inr (8, [.int 0, .null, .null, .null]))] ++ (zc_2 ua2 uk2 40 zi_2)) := hD2
  refine W.widen (k := 6) (n := 206) (Nat.le_of_ble_eq_true rfl) (Nat.le_of_ble_eq_true rfl) ?_
  refine va_putF (D := (dC, dI)) (ci := 8) (v := .ref (ua2 0)) (ty := (.object "OldestCoins$Coins")) (C := RX8) (T := TX8) (N := 4) hx hb hts hin8 tyX8 tyX8_ok nmX8 hown hK2 hP2 hD2 hS2 0 rfl rfl 1 (by decide) (hts (.fieldLink RX8 14 "OldestCoins$Town" "coins" "LOldestCoins$Coins;") (List.mem_of_getElem? (i := 7) rfl)) (fun _ h9 => h9) rfl hin rfl (by decide +kernel) rfl rfl (Nat.le_of_ble_eq_true rfl) dX8_init_14 (fun H3 locs3 hP3 hD3 hS3 => ?_)
  have hP3 : va_P (dC, dI) vwCl ([(h0, .inr (8, [.int 0, .ref (ua2 0), .null, .null]))] ++ (zc_2 ua2 uk2 40 zi_2)) H3 := hP3
  have hD3 : va_D A ([(h0, .inr (8, [.int 0, .ref (ua2 0), .null, .null]))] ++ (zc_2 ua2 uk2 40 zi_2)) := hD3
  clear hP2 hD2 hS2
  refine lv_aload_n hx hb dX8_init_17 rfl (lv_at hl 0 rfl) ?_
  refine va_new (ci := 0) (fs := [.int 0, .null, .null, .null]) (C := RX0) (T := TX0) (N := 4) hx hb hts hin0 tyX0 tyX0_ok hown (hts (.classLink RX8 20 RX0) (List.mem_of_getElem? (i := 8) rfl)) (hts (.instantiable RX0 4) (List.mem_of_getElem? (i := 9) rfl)) (hts (.initialized RX0) (List.mem_of_getElem? (i := 10) rfl)) hK2 hP3 hD3 hS3 hA rfl (fun j hj => by rcases (show j = 0 ∨ j = 1 ∨ j = 2 ∨ j = 3 by omega) with rfl | rfl | rfl | rfl <;> rfl) (Nat.le_of_ble_eq_true rfl) (Nat.le_of_ble_eq_true rfl) dX8_init_18 (fun q4 H4 hP4 hD4 hS4 => ?_)
  have hP4 : va_P (dC, dI) vwCl ([(h0, .inr (8, [.int 0, .ref (ua2 0), .null, .null]))] ++ (zc_2 ua2 uk2 40 zi_2) ++ [(q4, .inr (0, [.int 0, .null, .null, .null]))]) H4 := hP4
  have hD4 : va_D A ([(h0, .inr (8, [.int 0, .ref (ua2 0), .null, .null]))] ++ (zc_2 ua2 uk2 40 zi_2) ++ [(q4, .inr (0, [.int 0, .null, .null, .null]))]) := hD4
  clear hP3 hD3 hS3
  refine W.widen (k := 7) (n := 210) (Nat.le_of_ble_eq_true rfl) (Nat.le_of_ble_eq_true rfl) ?_
  refine lv_dup hx hb dX8_init_21 rfl ?_
  refine lv_bipush (v := (24 : Int32)) hx hb dX8_init_22 (by decide) ?_
  refine va_callv (va_runI (As := [.int (24 : Int32)]) (rest := [.ref q4, .ref h0]) ⟨hx, hb, hml, hown, hts⟩ (ci_X0_24 l dC dI q4 H4.size) (cwI 1 hts gX8_init_X0_init rfl rfl rfl (hts (.initialized RX0) (List.mem_of_getElem? (i := 10) rfl)) (hts (.methodLink RX8 22 yX0_init) (List.mem_of_getElem? (i := 23) rfl)) (hts (.instanceMethod yX0_init) (List.mem_of_getElem? (i := 24) rfl)) rfl (by decide +kernel) ⟨Nat.le_of_ble_eq_true rfl, Nat.le_of_ble_eq_true rfl⟩) (pf_s (nil_K hK2) (hP4.sub (ws' := [(q4, .inr (0, [.int 0, .null, .null, .null]))]) [7] rfl) (hD4.sub (ws' := [(q4, .inr (0, [.int 0, .null, .null, .null]))]) [7] (by decide) rfl)) rfl rfl hl.1 rfl (lv_room (Nat.le_of_ble_eq_true rfl)) dX8_init_24 ⟨Nat.le_of_ble_eq_true rfl, Nat.le_of_ble_eq_true rfl⟩) hS4 (fun q _ h => (va_free (wc := [(q4, .inr (0, [.int 0, .null, .null, .null]))]) hD4 hS4 hA [7] rfl) q h) (va_free (wc := [(q4, .inr (0, [.int 0, .null, .null, .null]))]) hD4 hS4 hA [7] rfl) (fun u5 t5 H5 locs5 ht5 hvm5 hw5 hB5 hz5 hk5 hS5 => ?_)
  obtain ⟨ua5, uk5⟩ := u5
  obtain ⟨hP5a, hK5a, hD5a⟩ := hB5
  rw [ht5] at hP5a
  have hK5a := va_K.moved hvm5.symm hK5a
  replace hw5 : ua5 0 = q4 := hw5
  obtain ⟨hP5, hD5⟩ := va_join (wc := [(q4, .inr (0, [.int 0, .null, .null, .null]))]) (wr := [(h0, .inr (8, [.int 0, .ref (ua2 0), .null, .null]))] ++ (zc_2 ua2 uk2 40 zi_2)) (w1 := zc_0 ua5 uk5 24 zi_0) hP4 hD4 [7] [0, 1, 2, 3, 4, 5, 6] rfl rfl (by decide) (by decide) hk5 (va_free (wc := [(q4, .inr (0, [.int 0, .null, .null, .null]))]) hD4 hS4 hA [7] rfl) hP5a hD5a
  have hK5 := (hK2.sub (tys' := [((uk2 1), .int), ((uk2 2), .int), ((uk2 3), .int), ((uk2 4), .int), ((uk2 5), .int)]) [0, 1, 2, 3, 4] rfl).app hK5a
  clear hP4 hD4 hS4 hK2 hP5a hD5a hK5a hk5 ht5 hvm5 hz5
  subst hw5
  have hK5 : va_K (dC, dI) vwCl ([((uk2 1), .int), ((uk2 2), .int), ((uk2 3), .int), ((uk2 4), .int), ((uk2 5), .int), ((uk5 1), .int), ((uk5 2), .int), ((uk5 3), .int)]) s := hK5
  have hP5 : va_P (dC, dI) vwCl ([(h0, .inr (8, [.int 0, .ref (ua2 0), .null, .null]))] ++ (zc_2 ua2 uk2 40 zi_2) ++ (zc_0 ua5 uk5 24 zi_0)) H5 := hP5
  have hD5 : va_D A ([(h0, .inr (8, [.int 0, .ref (ua2 0), .null, .null]))] ++ (zc_2 ua2 uk2 40 zi_2) ++ (zc_0 ua5 uk5 24 zi_0)) := hD5
  refine W.widen (k := 10) (n := 282) (Nat.le_of_ble_eq_true rfl) (Nat.le_of_ble_eq_true rfl) ?_
  refine va_putF (D := (dC, dI)) (ci := 8) (v := .ref (ua5 0)) (ty := (.object "OldestCoins$Bills")) (C := RX8) (T := TX8) (N := 4) hx hb hts hin8 tyX8 tyX8_ok nmX8 hown hK5 hP5 hD5 hS5 0 rfl rfl 2 (by decide) (hts (.fieldLink RX8 23 "OldestCoins$Town" "day" "LOldestCoins$Bills;") (List.mem_of_getElem? (i := 11) rfl)) (fun _ h9 => h9) rfl hin rfl (by decide +kernel) rfl rfl (Nat.le_of_ble_eq_true rfl) dX8_init_27 (fun H6 locs6 hP6 hD6 hS6 => ?_)
  have hP6 : va_P (dC, dI) vwCl ([(h0, .inr (8, [.int 0, .ref (ua2 0), .ref (ua5 0), .null]))] ++ (zc_2 ua2 uk2 40 zi_2) ++ (zc_0 ua5 uk5 24 zi_0)) H6 := hP6
  have hD6 : va_D A ([(h0, .inr (8, [.int 0, .ref (ua2 0), .ref (ua5 0), .null]))] ++ (zc_2 ua2 uk2 40 zi_2) ++ (zc_0 ua5 uk5 24 zi_0)) := hD6
  clear hP5 hD5 hS5
  refine lv_aload_n hx hb dX8_init_30 rfl (lv_at hl 0 rfl) ?_
  refine va_new (ci := 0) (fs := [.int 0, .null, .null, .null]) (C := RX0) (T := TX0) (N := 4) hx hb hts hin0 tyX0 tyX0_ok hown (hts (.classLink RX8 20 RX0) (List.mem_of_getElem? (i := 8) rfl)) (hts (.instantiable RX0 4) (List.mem_of_getElem? (i := 9) rfl)) (hts (.initialized RX0) (List.mem_of_getElem? (i := 10) rfl)) hK5 hP6 hD6 hS6 hA rfl (fun j hj => by rcases (show j = 0 ∨ j = 1 ∨ j = 2 ∨ j = 3 by omega) with rfl | rfl | rfl | rfl <;> rfl) (Nat.le_of_ble_eq_true rfl) (Nat.le_of_ble_eq_true rfl) dX8_init_31 (fun q7 H7 hP7 hD7 hS7 => ?_)
  have hP7 : va_P (dC, dI) vwCl ([(h0, .inr (8, [.int 0, .ref (ua2 0), .ref (ua5 0), .null]))] ++ (zc_2 ua2 uk2 40 zi_2) ++ (zc_0 ua5 uk5 24 zi_0) ++ [(q7, .inr (0, [.int 0, .null, .null, .null]))]) H7 := hP7
  have hD7 : va_D A ([(h0, .inr (8, [.int 0, .ref (ua2 0), .ref (ua5 0), .null]))] ++ (zc_2 ua2 uk2 40 zi_2) ++ (zc_0 ua5 uk5 24 zi_0) ++ [(q7, .inr (0, [.int 0, .null, .null, .null]))]) := hD7
  clear hP6 hD6 hS6
  refine W.widen (k := 11) (n := 286) (Nat.le_of_ble_eq_true rfl) (Nat.le_of_ble_eq_true rfl) ?_
  refine lv_dup hx hb dX8_init_34 rfl ?_
  refine lv_bipush (v := (6 : Int32)) hx hb dX8_init_35 (by decide) ?_
  refine va_callv (va_runI (As := [.int (6 : Int32)]) (rest := [.ref q7, .ref h0]) ⟨hx, hb, hml, hown, hts⟩ (ci_X0_6 l dC dI q7 H7.size) (cwI 1 hts gX8_init_X0_init rfl rfl rfl (hts (.initialized RX0) (List.mem_of_getElem? (i := 10) rfl)) (hts (.methodLink RX8 22 yX0_init) (List.mem_of_getElem? (i := 23) rfl)) (hts (.instanceMethod yX0_init) (List.mem_of_getElem? (i := 24) rfl)) rfl (by decide +kernel) ⟨Nat.le_of_ble_eq_true rfl, Nat.le_of_ble_eq_true rfl⟩) (pf_s (nil_K hK5) (hP7.sub (ws' := [(q7, .inr (0, [.int 0, .null, .null, .null]))]) [11] rfl) (hD7.sub (ws' := [(q7, .inr (0, [.int 0, .null, .null, .null]))]) [11] (by decide) rfl)) rfl rfl hl.1 rfl (lv_room (Nat.le_of_ble_eq_true rfl)) dX8_init_37 ⟨Nat.le_of_ble_eq_true rfl, Nat.le_of_ble_eq_true rfl⟩) hS7 (fun q _ h => (va_free (wc := [(q7, .inr (0, [.int 0, .null, .null, .null]))]) hD7 hS7 hA [11] rfl) q h) (va_free (wc := [(q7, .inr (0, [.int 0, .null, .null, .null]))]) hD7 hS7 hA [11] rfl) (fun u8 t8 H8 locs8 ht8 hvm8 hw8 hB8 hz8 hk8 hS8 => ?_)
  obtain ⟨ua8, uk8⟩ := u8
  obtain ⟨hP8a, hK8a, hD8a⟩ := hB8
  rw [ht8] at hP8a
  have hK8a := va_K.moved hvm8.symm hK8a
  replace hw8 : ua8 0 = q7 := hw8
  obtain ⟨hP8, hD8⟩ := va_join (wc := [(q7, .inr (0, [.int 0, .null, .null, .null]))]) (wr := [(h0, .inr (8, [.int 0, .ref (ua2 0), .ref (ua5 0), .null]))] ++ (zc_2 ua2 uk2 40 zi_2) ++ (zc_0 ua5 uk5 24 zi_0)) (w1 := zc_0 ua8 uk8 6 zi_0) hP7 hD7 [11] [0, 1, 2, 3, 4, 5, 6, 7, 8, 9, 10] rfl rfl (by decide) (by decide) hk8 (va_free (wc := [(q7, .inr (0, [.int 0, .null, .null, .null]))]) hD7 hS7 hA [11] rfl) hP8a hD8a
  have hK8 := (hK5.sub (tys' := [((uk2 1), .int), ((uk2 2), .int), ((uk2 3), .int), ((uk2 4), .int), ((uk2 5), .int), ((uk5 1), .int), ((uk5 2), .int), ((uk5 3), .int)]) [0, 1, 2, 3, 4, 5, 6, 7] rfl).app hK8a
  clear hP7 hD7 hS7 hK5 hP8a hD8a hK8a hk8 ht8 hvm8 hz8
  subst hw8
  have hK8 : va_K (dC, dI) vwCl ([((uk2 1), .int), ((uk2 2), .int), ((uk2 3), .int), ((uk2 4), .int), ((uk2 5), .int), ((uk5 1), .int), ((uk5 2), .int), ((uk5 3), .int), ((uk8 1), .int), ((uk8 2), .int), ((uk8 3), .int)]) s := hK8
  have hP8 : va_P (dC, dI) vwCl ([(h0, .inr (8, [.int 0, .ref (ua2 0), .ref (ua5 0), .null]))] ++ (zc_2 ua2 uk2 40 zi_2) ++ (zc_0 ua5 uk5 24 zi_0) ++ (zc_0 ua8 uk8 6 zi_0)) H8 := hP8
  have hD8 : va_D A ([(h0, .inr (8, [.int 0, .ref (ua2 0), .ref (ua5 0), .null]))] ++ (zc_2 ua2 uk2 40 zi_2) ++ (zc_0 ua5 uk5 24 zi_0) ++ (zc_0 ua8 uk8 6 zi_0)) := hD8
  refine W.widen (k := 14) (n := 304) (Nat.le_of_ble_eq_true rfl) (Nat.le_of_ble_eq_true rfl) ?_
  refine va_putF (D := (dC, dI)) (ci := 8) (v := .ref (ua8 0)) (ty := (.object "OldestCoins$Bills")) (C := RX8) (T := TX8) (N := 4) hx hb hts hin8 tyX8 tyX8_ok nmX8 hown hK8 hP8 hD8 hS8 0 rfl rfl 3 (by decide) (hts (.fieldLink RX8 27 "OldestCoins$Town" "errands" "LOldestCoins$Bills;") (List.mem_of_getElem? (i := 12) rfl)) (fun _ h9 => h9) rfl hin rfl (by decide +kernel) rfl rfl (Nat.le_of_ble_eq_true rfl) dX8_init_40 (fun H9 locs9 hP9 hD9 hS9 => ?_)
  have hP9 : va_P (dC, dI) vwCl ([(h0, .inr (8, [.int 0, .ref (ua2 0), .ref (ua5 0), .ref (ua8 0)]))] ++ (zc_2 ua2 uk2 40 zi_2) ++ (zc_0 ua5 uk5 24 zi_0) ++ (zc_0 ua8 uk8 6 zi_0)) H9 := hP9
  have hD9 : va_D A ([(h0, .inr (8, [.int 0, .ref (ua2 0), .ref (ua5 0), .ref (ua8 0)]))] ++ (zc_2 ua2 uk2 40 zi_2) ++ (zc_0 ua5 uk5 24 zi_0) ++ (zc_0 ua8 uk8 6 zi_0)) := hD9
  clear hP8 hD8 hS8
  have hP9 := hP9.sub (ws' := zc_8 (fun i => [h0, ua2 0, ua2 1, ua2 2, ua2 3, ua2 4, ua2 5, ua5 0, ua5 1, ua5 2, ua5 3, ua8 0, ua8 1, ua8 2, ua8 3].getD i 0) (fun i => [uk2 1, uk2 1, uk2 1, uk2 2, uk2 3, uk2 4, uk2 5, uk2 1, uk5 1, uk5 2, uk5 3, uk2 1, uk8 1, uk8 2, uk8 3].getD i (uk2 1)) zi_8) [0, 1, 2, 3, 4, 5, 6, 7, 8, 9, 10, 11, 12, 13, 14] rfl
  have hD9 := hD9.sub (ws' := zc_8 (fun i => [h0, ua2 0, ua2 1, ua2 2, ua2 3, ua2 4, ua2 5, ua5 0, ua5 1, ua5 2, ua5 3, ua8 0, ua8 1, ua8 2, ua8 3].getD i 0) (fun i => [uk2 1, uk2 1, uk2 1, uk2 2, uk2 3, uk2 4, uk2 5, uk2 1, uk5 1, uk5 2, uk5 3, uk2 1, uk8 1, uk8 2, uk8 3].getD i (uk2 1)) zi_8) [0, 1, 2, 3, 4, 5, 6, 7, 8, 9, 10, 11, 12, 13, 14] (by decide) rfl
  have hK9 := hK8.sub (tys' := zt_8 (fun i => [uk2 1, uk2 1, uk2 1, uk2 2, uk2 3, uk2 4, uk2 5, uk2 1, uk5 1, uk5 2, uk5 3, uk2 1, uk8 1, uk8 2, uk8 3].getD i (uk2 1))) [0, 1, 2, 3, 4, 5, 6, 7, 8, 9, 10] rfl
  exact W.vret hx hb hr (fun t ht hW => ⟨⟨((fun i => [h0, ua2 0, ua2 1, ua2 2, ua2 3, ua2 4, ua2 5, ua5 0, ua5 1, ua5 2, ua5 3, ua8 0, ua8 1, ua8 2, ua8 3].getD i 0), (fun i => [uk2 1, uk2 1, uk2 1, uk2 2, uk2 3, uk2 4, uk2 5, uk2 1, uk5 1, uk5 2, uk5 3, uk2 1, uk8 1, uk8 2, uk8 3].getD i (uk2 1))), rfl, rfl, by rw [ht]; exact hP9, va_K.moved hW.alike hK9, hD9⟩, hS9.F ht⟩) hS9.2.2 dX8_init_43
