def rr_X9_isShop (fu : Nat) (x0 : Int32) : Option (Int32) := (rr_X9_isWithin fu x0 (4 : Int32) (7 : Int32)).bind (fun q1 => zk_ q1 (some q1))
set_option maxHeartbeats 4000000 in
set_option maxRecDepth 100000 in
theorem cc_X9_isShop (l : Launch) (dC : Nat → ClassId) (dI : Nat → Nat → Nat) (fu : Nat) (sz : Nat) (x0 : Int32) (res : Int32) (hR : rr_X9_isShop fu x0 = some res) : Met l yX9_isShop wsX9_isShop ({ frames := 1, cells := 0, slots := 0, locals := 22 } : Room) (PcF [.int x0] sz (dC, dI) (([] : va_W)) ([])) (va_Qi (fun (r : Int32) (u : Unit) => res = r) (fun u t => at3_ (dC, dI) (([] : va_W)) ([]) (va_A (([] : va_W)) sz) t) (va_A (([] : va_W)) sz)) 0 0 (va_A (([] : va_W)) sz) := by
  refine Met.ofW (cc := cX9_isShop) (maxL := 1) (ret := (some .boolean)) (by decide) rfl ?_
  intro p e s m args below meth c s₁ B hml hv
  obtain ⟨hav, hsz, hP, hK, hD0⟩ := hv
  have hx := B.exec
  have hb := B.bytes
  have hr := B.returns
  have hts := atoms_spec (ws := wsX9_isShop) B.pre
  have hown : s.vm.findClass RX9 = some m.cls := findClass_of_methodNamed B.named
  have hlocks := B.notSynchronized
  subst hsz
  have hD := hD0.self (sz := s.heap.size)
  clear hD0
  generalize hAe : va_A (([] : va_W)) s.heap.size = A at hD ⊢
  have hA : ∀ q : Nat, s.heap.size ≤ q → A q := fun q h => by rw [← hAe]; exact Or.inr h
  have hS : va_S A s.heap s.heap [] := va_S.rf
  generalize hQe : MQ below _ args s 0 0 A = Q
  rw [show entryFrame m args 1 = F0 m 0 ((lg_sl ([.int x0]) ++ List.replicate (1 - (lg_sl ([.int x0])).length) Slot.unset).toArray) [] from by rw [hav]; exact lg_entry_eq m _ _]
  have hl := lv_entry ([.int x0]) (n := 1) (Nat.le_of_ble_eq_true rfl)
  generalize (lg_sl ([.int x0]) ++ List.replicate (1 - (lg_sl ([.int x0])).length) Slot.unset).toArray = ls at hl ⊢
  have hl : lv_has ls 1 [(0, .int x0)] := hl
  unfold rr_X9_isShop at hR
  refine lv_iload_n hx hb dX9_isShop_0 rfl (lv_at hl 0 rfl) ?_
  refine lv_iconst (v := (4 : Int32)) hx hb dX9_isShop_1 (by decide) ?_
  refine lv_bipush (v := (7 : Int32)) hx hb dX9_isShop_2 (by decide) ?_
  have hR0 := ob_ok hR
  clear hR
  obtain ⟨q1, hq1, hR⟩ := hR0
  refine va_calli (va_runS (As := [.int x0, .int (4 : Int32), .int (7 : Int32)]) (rest := []) ⟨hx, hb, hml, hown, hts⟩ (cc_X9_isWithin l dC dI fu s.heap.size x0 (4 : Int32) (7 : Int32) q1 hq1) (va_cwS 3 hts gX9_isShop_X9_isWithin rfl rfl rfl (by decide +kernel) ⟨Nat.le_of_ble_eq_true rfl, Nat.le_of_ble_eq_true rfl⟩) (pf_s (nil_K hK) nil_P (nil_D (A := A))) rfl rfl hl.1 rfl (lv_room (Nat.le_of_ble_eq_true rfl)) dX9_isShop_4 ⟨Nat.le_refl _, Nat.le_refl _⟩) hS (fun q _ h => (fr_none hS hA) q h) (fr_none hS hA) (fun r1 v1 t1 H1 locs1 ht1 hvm1 hw1 hB1 hz1 hk1 hS1 => ?_)
  subst hw1
  have hP1 := jn_none hP hk1
  have hD1 := hD
  have hP1 : va_P (dC, dI) vwCl (([] : va_W)) H1 := hP1
  have hD1 : va_D A (([] : va_W)) := hD1
  clear hP hD hS hB1 hk1 hvm1 hz1 ht1
  have z2 := (zk_ok hR).1
  replace hR := (zk_ok hR).2
  subst hQe
  exact W.zret (ty := .boolean) (v := q1) hx hb hr (zk_nar z2) (fun t ht hW => ⟨⟨q1, (), rfl, (Option.some.inj hR).symm, by rw [ht]; exact hP1, va_K.moved hW.alike hK, hD1⟩, hS1.F ht⟩) hS1.2.2 dX9_isShop_7
def rr_X9_isBill (fu : Nat) (x0 : Int32) (x1 : Int32) (x2 : Int32) : Option (Int32) := (rr_X9_isPurse fu x0).bind (fun q1 => (if q1 = (0 : Int32) then some (0 : Int32) else (rr_X9_isShop fu x1).bind (fun q3 => (if q3 = (0 : Int32) then some (0 : Int32) else (rr_X9_isSum fu x2).bind (fun q5 => (if q5 = (0 : Int32) then some (0 : Int32) else some (1 : Int32)))))))
set_option maxHeartbeats 4000000 in
set_option maxRecDepth 100000 in
theorem cc_X9_isBill (l : Launch) (dC : Nat → ClassId) (dI : Nat → Nat → Nat) (fu : Nat) (sz : Nat) (x0 : Int32) (x1 : Int32) (x2 : Int32) (res : Int32) (hR : rr_X9_isBill fu x0 x1 x2 = some res) : Met l yX9_isBill wsX9_isBill ({ frames := 2, cells := 0, slots := 0, locals := 42 } : Room) (PcF [.int x0, .int x1, .int x2] sz (dC, dI) (([] : va_W)) ([])) (va_Qi (fun (r : Int32) (u : Unit) => res = r) (fun u t => at3_ (dC, dI) (([] : va_W)) ([]) (va_A (([] : va_W)) sz) t) (va_A (([] : va_W)) sz)) 0 0 (va_A (([] : va_W)) sz) := by
  refine Met.ofW (cc := cX9_isBill) (maxL := 3) (ret := (some .boolean)) (by decide) rfl ?_
  intro p e s m args below meth c s₁ B hml hv
  obtain ⟨hav, hsz, hP, hK, hD0⟩ := hv
  have hx := B.exec
  have hb := B.bytes
  have hr := B.returns
  have hts := atoms_spec (ws := wsX9_isBill) B.pre
  have hown : s.vm.findClass RX9 = some m.cls := findClass_of_methodNamed B.named
  have hlocks := B.notSynchronized
  subst hsz
  have hD := hD0.self (sz := s.heap.size)
  clear hD0
  generalize hAe : va_A (([] : va_W)) s.heap.size = A at hD ⊢
  have hA : ∀ q : Nat, s.heap.size ≤ q → A q := fun q h => by rw [← hAe]; exact Or.inr h
  have hS : va_S A s.heap s.heap [] := va_S.rf
  generalize hQe : MQ below _ args s 0 0 A = Q
  rw [show entryFrame m args 3 = F0 m 0 ((lg_sl ([.int x0, .int x1, .int x2]) ++ List.replicate (3 - (lg_sl ([.int x0, .int x1, .int x2])).length) Slot.unset).toArray) [] from by rw [hav]; exact lg_entry_eq m _ _]
  have hl := lv_entry ([.int x0, .int x1, .int x2]) (n := 3) (Nat.le_of_ble_eq_true rfl)
  generalize (lg_sl ([.int x0, .int x1, .int x2]) ++ List.replicate (3 - (lg_sl ([.int x0, .int x1, .int x2])).length) Slot.unset).toArray = ls at hl ⊢
  have hl : lv_has ls 3 [(0, .int x0), (1, .int x1), (2, .int x2)] := hl
  unfold rr_X9_isBill at hR
  refine lv_iload_n hx hb dX9_isBill_0 rfl (lv_at hl 0 rfl) ?_
  have hR0 := ob_ok hR
  clear hR
  obtain ⟨q1, hq1, hR⟩ := hR0
  refine va_calli (va_runS (As := [.int x0]) (rest := []) ⟨hx, hb, hml, hown, hts⟩ (cc_X9_isPurse l dC dI fu s.heap.size x0 q1 hq1) (va_cwS 1 hts gX9_isBill_X9_isPurse rfl rfl rfl (by decide +kernel) ⟨Nat.le_of_ble_eq_true rfl, Nat.le_of_ble_eq_true rfl⟩) (pf_s (nil_K hK) nil_P (nil_D (A := A))) rfl rfl hl.1 rfl (lv_room (Nat.le_of_ble_eq_true rfl)) dX9_isBill_1 ⟨Nat.le_refl _, Nat.le_refl _⟩) hS (fun q _ h => (fr_none hS hA) q h) (fr_none hS hA) (fun r1 v1 t1 H1 locs1 ht1 hvm1 hw1 hB1 hz1 hk1 hS1 => ?_)
  subst hw1
  have hP1 := jn_none hP hk1
  have hD1 := hD
  have hP1 : va_P (dC, dI) vwCl (([] : va_W)) H1 := hP1
  have hD1 : va_D A (([] : va_W)) := hD1
  clear hP hD hS hB1 hk1 hvm1 hz1 ht1
  refine lv_if_eq (tgt := 25) hx hb dX9_isBill_4 (by decide) (fun c2 => ?_) (fun c2 => ?_)
  · replace hR := ifp_ hR c2
    refine lv_iconst (v := (0 : Int32)) hx hb dX9_isBill_25 (by decide) ?_
    subst hQe
    exact W.zret (ty := .boolean) (v := (0 : Int32)) hx hb hr rfl (fun t ht hW => ⟨⟨(0 : Int32), (), rfl, (Option.some.inj hR).symm, by rw [ht]; exact hP1, va_K.moved hW.alike hK, hD1⟩, hS1.F ht⟩) hS1.2.2 dX9_isBill_26
  · replace hR := ifn_ hR c2
    refine lv_iload_n hx hb dX9_isBill_7 rfl (lv_at hl 1 rfl) ?_
    have hR0 := ob_ok hR
    clear hR
    obtain ⟨q3, hq3, hR⟩ := hR0
    refine va_calli (va_runS (As := [.int x1]) (rest := []) ⟨hx, hb, hml, hown, hts⟩ (cc_X9_isShop l dC dI fu H1.size x1 q3 hq3) (va_cwS 1 hts gX9_isBill_X9_isShop rfl rfl rfl (by decide +kernel) ⟨Nat.le_of_ble_eq_true rfl, Nat.le_of_ble_eq_true rfl⟩) (pf_s (nil_K hK) nil_P (nil_D (A := A))) rfl rfl hl.1 rfl (lv_room (Nat.le_of_ble_eq_true rfl)) dX9_isBill_8 ⟨Nat.le_refl _, Nat.le_refl _⟩) hS1 (fun q _ h => (fr_none hS1 hA) q h) (fr_none hS1 hA) (fun r3 v3 t3 H3 locs3 ht3 hvm3 hw3 hB3 hz3 hk3 hS3 => ?_)
    subst hw3
    have hP3 := jn_none hP1 hk3
    have hD3 := hD1
    have hP3 : va_P (dC, dI) vwCl (([] : va_W)) H3 := hP3
    have hD3 : va_D A (([] : va_W)) := hD3
    clear hP1 hD1 hS1 hB3 hk3 hvm3 hz3 ht3
    refine lv_if_eq (tgt := 25) hx hb dX9_isBill_11 (by decide) (fun c4 => ?_) (fun c4 => ?_)
    · replace hR := ifp_ hR c4
      refine lv_iconst (v := (0 : Int32)) hx hb dX9_isBill_25 (by decide) ?_
      subst hQe
      exact W.zret (ty := .boolean) (v := (0 : Int32)) hx hb hr rfl (fun t ht hW => ⟨⟨(0 : Int32), (), rfl, (Option.some.inj hR).symm, by rw [ht]; exact hP3, va_K.moved hW.alike hK, hD3⟩, hS3.F ht⟩) hS3.2.2 dX9_isBill_26
    · replace hR := ifn_ hR c4
      refine lv_iload_n hx hb dX9_isBill_14 rfl (lv_at hl 2 rfl) ?_
      have hR0 := ob_ok hR
      clear hR
      obtain ⟨q5, hq5, hR⟩ := hR0
      refine va_calli (va_runS (As := [.int x2]) (rest := []) ⟨hx, hb, hml, hown, hts⟩ (cc_X9_isSum l dC dI fu H3.size x2 q5 hq5) (va_cwS 1 hts gX9_isBill_X9_isSum rfl rfl rfl (by decide +kernel) ⟨Nat.le_of_ble_eq_true rfl, Nat.le_of_ble_eq_true rfl⟩) (pf_s (nil_K hK) nil_P (nil_D (A := A))) rfl rfl hl.1 rfl (lv_room (Nat.le_of_ble_eq_true rfl)) dX9_isBill_15 ⟨Nat.le_refl _, Nat.le_refl _⟩) hS3 (fun q _ h => (fr_none hS3 hA) q h) (fr_none hS3 hA) (fun r5 v5 t5 H5 locs5 ht5 hvm5 hw5 hB5 hz5 hk5 hS5 => ?_)
      subst hw5
      have hP5 := jn_none hP3 hk5
      have hD5 := hD3
      have hP5 : va_P (dC, dI) vwCl (([] : va_W)) H5 := hP5
      have hD5 : va_D A (([] : va_W)) := hD5
      clear hP3 hD3 hS3 hB5 hk5 hvm5 hz5 ht5
      refine lv_if_eq (tgt := 25) hx hb dX9_isBill_18 (by decide) (fun c6 => ?_) (fun c6 => ?_)
      · replace hR := ifp_ hR c6
        refine lv_iconst (v := (0 : Int32)) hx hb dX9_isBill_25 (by decide) ?_
        subst hQe
        exact W.zret (ty := .boolean) (v := (0 : Int32)) hx hb hr rfl (fun t ht hW => ⟨⟨(0 : Int32), (), rfl, (Option.some.inj hR).symm, by rw [ht]; exact hP5, va_K.moved hW.alike hK, hD5⟩, hS5.F ht⟩) hS5.2.2 dX9_isBill_26
      · replace hR := ifn_ hR c6
        refine lv_iconst (v := (1 : Int32)) hx hb dX9_isBill_21 (by decide) ?_
        refine lv_goto (tgt := 26) hx hb dX9_isBill_22 (by decide) ?_
        subst hQe
        exact W.zret (ty := .boolean) (v := (1 : Int32)) hx hb hr rfl (fun t ht hW => ⟨⟨(1 : Int32), (), rfl, (Option.some.inj hR).symm, by rw [ht]; exact hP5, va_K.moved hW.alike hK, hD5⟩, hS5.F ht⟩) hS5.2.2 dX9_isBill_26
def rr_X9_lent_201 (fu : Nat) (rec43 : Int32 → Int32 → Int32 → Int32 → Int32 → Int32 → Int32 → Int32 → Int32 → ZT_9 → Option (Int32 × ZT_9)) (y1 : Int32) (y2 : Int32) (y3 : Int32) (y4 : Int32) (y5 : Int32) (y6 : Int32) (y7 : Int32) (y8 : Int32) (y9 : Int32) (u1 : ZT_9) : Option (Int32 × ZT_9) := lt_ (α := Int32) (y9 + (1 : Int32)) (fun z18 => rec43 y1 y2 y3 y4 y5 y6 y7 y8 z18 u1)
def rr_X9_lent_199 (fu : Nat) (rec43 : Int32 → Int32 → Int32 → Int32 → Int32 → Int32 → Int32 → Int32 → Int32 → ZT_9 → Option (Int32 × ZT_9)) (y1 : Int32) (y2 : Int32) (y3 : Int32) (y4 : Int32) (y5 : Int32) (y6 : Int32) (y8 : Int32) (y9 : Int32) (w0 : Int32) (u1 : ZT_9) : Option (Int32 × ZT_9) := rr_X9_lent_201 fu rec43 y1 y2 y3 y4 y5 y6 w0 y8 y9 u1
def rr_X9_lent_172 (fu : Nat) (rec43 : Int32 → Int32 → Int32 → Int32 → Int32 → Int32 → Int32 → Int32 → Int32 → ZT_9 → Option (Int32 × ZT_9)) (y1 : Int32) (y2 : Int32) (y3 : Int32) (y4 : Int32) (y5 : Int32) (y6 : Int32) (y7 : Int32) (y8 : Int32) (y9 : Int32) (w0 : Int32) (w1 : Int32) (u1 : ZT_9) : Option (Int32 × ZT_9) := lt_ (α := Int32) (w1 + w0) (fun z24 => (if z24 ≤ y8 then rr_X9_lent_201 fu rec43 y1 y2 y3 y4 y5 y6 y7 y8 y9 u1 else (if y9 = (-1 : Int32) then rr_X9_lent_199 fu rec43 y1 y2 y3 y4 y5 y6 z24 y9 (-4 : Int32) u1 else rr_X9_lent_199 fu rec43 y1 y2 y3 y4 y5 y6 z24 y9 y9 u1)))
def rr_X9_lent_143 (fu : Nat) (rec43 : Int32 → Int32 → Int32 → Int32 → Int32 → Int32 → Int32 → Int32 → Int32 → ZT_9 → Option (Int32 × ZT_9)) (y1 : Int32) (y2 : Int32) (y3 : Int32) (y4 : Int32) (y5 : Int32) (y6 : Int32) (y7 : Int32) (y8 : Int32) (y9 : Int32) (w0 : Int32) (u1 : ZT_9) : Option (Int32 × ZT_9) := (rr_X1_meetsEvenly fu y4 y5 y6 u1.2.2.2.2.2.2.2.1 u1.2.2.2.1).bind (fun q22 => (if q22.1 = (0 : Int32) then rr_X9_lent_172 fu rec43 y1 y2 y3 y4 y5 y6 y7 y8 y9 (0 : Int32) w0 (u1.1, u1.2.1, u1.2.2.1, u1.2.2.2.1, u1.2.2.2.2.1, u1.2.2.2.2.2.1, u1.2.2.2.2.2.2.1, q22.2, u1.2.2.2.2.2.2.2.2) else rr_X9_lent_172 fu rec43 y1 y2 y3 y4 y5 y6 y7 y8 y9 (1 : Int32) w0 (u1.1, u1.2.1, u1.2.2.1, u1.2.2.2.1, u1.2.2.2.2.1, u1.2.2.2.2.2.1, u1.2.2.2.2.2.2.1, q22.2, u1.2.2.2.2.2.2.2.2)))
def rr_X9_lent_121 (fu : Nat) (rec43 : Int32 → Int32 → Int32 → Int32 → Int32 → Int32 → Int32 → Int32 → Int32 → ZT_9 → Option (Int32 × ZT_9)) (y1 : Int32) (y2 : Int32) (y3 : Int32) (y4 : Int32) (y5 : Int32) (y6 : Int32) (y7 : Int32) (y8 : Int32) (y9 : Int32) (u1 : ZT_9) : Option (Int32 × ZT_9) := (rr_X1_meetsEvenly fu y1 y2 y3 u1.2.2.2.2.2.2.2.1 u1.2.2.2.1).bind (fun q19 => (if q19.1 = (0 : Int32) then rr_X9_lent_143 fu rec43 y1 y2 y3 y4 y5 y6 y7 y8 y9 (0 : Int32) (u1.1, u1.2.1, u1.2.2.1, u1.2.2.2.1, u1.2.2.2.2.1, u1.2.2.2.2.2.1, u1.2.2.2.2.2.2.1, q19.2, u1.2.2.2.2.2.2.2.2) else rr_X9_lent_143 fu rec43 y1 y2 y3 y4 y5 y6 y7 y8 y9 (1 : Int32) (u1.1, u1.2.1, u1.2.2.1, u1.2.2.2.1, u1.2.2.2.2.1, u1.2.2.2.2.2.1, u1.2.2.2.2.2.2.1, q19.2, u1.2.2.2.2.2.2.2.2)))
def rr_X9_lent_84 (fu : Nat) (rec43 : Int32 → Int32 → Int32 → Int32 → Int32 → Int32 → Int32 → Int32 → Int32 → ZT_9 → Option (Int32 × ZT_9)) (y1 : Int32) (y2 : Int32) (y3 : Int32) (y4 : Int32) (y5 : Int32) (y6 : Int32) (y7 : Int32) (y8 : Int32) (y9 : Int32) (u1 : ZT_9) : Option (Int32 × ZT_9) := (rr_X1_copyFrom fu u1.2.2.2.2.2.2.2.1 u1.2.2.2.2.2.2.1).bind (fun q14 => (if y9 = (-1 : Int32) then rr_X9_lent_121 fu rec43 y1 y2 y3 y4 y5 y6 y7 y8 y9 (u1.1, u1.2.1, u1.2.2.1, u1.2.2.2.1, u1.2.2.2.2.1, u1.2.2.2.2.2.1, u1.2.2.2.2.2.2.1, q14, u1.2.2.2.2.2.2.2.2) else ck_ y9 40 ((rr_X1_move fu (u1.2.2.2.1.2.2.2.1 y9.toNatClampNeg) y1 y4 q14).bind (fun q17 => rr_X9_lent_121 fu rec43 y1 y2 y3 y4 y5 y6 y7 y8 y9 (u1.1, u1.2.1, u1.2.2.1, u1.2.2.2.1, u1.2.2.2.2.1, u1.2.2.2.2.2.1, u1.2.2.2.2.2.2.1, q17, u1.2.2.2.2.2.2.2.2)))))
def rr_X9_lent_43_b (fu : Nat) (rec43 : Int32 → Int32 → Int32 → Int32 → Int32 → Int32 → Int32 → Int32 → Int32 → ZT_9 → Option (Int32 × ZT_9)) (y1 : Int32) (y2 : Int32) (y3 : Int32) (y4 : Int32) (y5 : Int32) (y6 : Int32) (y7 : Int32) (y8 : Int32) (y9 : Int32) (u1 : ZT_9) : Option (Int32 × ZT_9) := (if u1.1.2.1.1 ≤ y9 then some (y7, u1) else (if y9 = (-1 : Int32) then rr_X9_lent_84 fu rec43 y1 y2 y3 y4 y5 y6 y7 y8 y9 u1 else ck_ y9 40 ((if (u1.1.2.1.2.1 y9.toNatClampNeg) = y1 then rr_X9_lent_84 fu rec43 y1 y2 y3 y4 y5 y6 y7 y8 y9 u1 else rr_X9_lent_201 fu rec43 y1 y2 y3 y4 y5 y6 y7 y8 y9 u1))))
def rr_X9_lent_43 (fu : Nat) (n : Nat) : Int32 → Int32 → Int32 → Int32 → Int32 → Int32 → Int32 → Int32 → Int32 → ZT_9 → Option (Int32 × ZT_9) := lp_ (fun _ _ _ _ _ _ _ _ _ _ => none) (rr_X9_lent_43_b fu) n
def rr_X9_lent (fu : Nat) (x1 : Int32) (x2 : Int32) (x3 : Int32) (x4 : Int32) (x5 : Int32) (x6 : Int32) (s1 : ZT_9) : Option (Int32 × ZT_9) := (rr_X9_isBill fu x1 x2 x3).bind (fun q1 => (if q1 = (0 : Int32) then some ((-1 : Int32), s1) else (rr_X9_isBill fu x4 x5 x6).bind (fun q3 => (if q3 = (0 : Int32) then some ((-1 : Int32), s1) else (if x1 = x4 then some ((-1 : Int32), s1) else (rr_X9_layOut fu s1).bind (fun q6 => rr_X9_lent_43 fu fu x1 x2 x3 x4 x5 x6 (-4 : Int32) (0 : Int32) (-1 : Int32) q6))))))
set_option maxRecDepth 100000 in
theorem sb_9__0c45_0c43 (a1 : Nat → Nat) (k1 : Nat → ClassId) (s1 : ZT_9) : List.Perm (zc_9 a1 k1 s1) ((zc_1 (sh_ a1 45) (sh_ k1 45) s1.2.2.2.2.2.2.2.1 ++ zc_1 (sh_ a1 43) (sh_ k1 43) s1.2.2.2.2.2.2.1) ++ ([(a1 0, .inr (9, [.ref (a1 1), .ref (a1 16), .int s1.2.2.1, .ref (a1 31), .int s1.2.2.2.2.1, .ref (a1 37), .ref (a1 43), .ref (a1 45), .ref (a1 47), .ref (a1 50), .ref (a1 54), .ref (a1 56), .ref (a1 62), .ref (a1 66)]))] ++ (zc_8 (sh_ a1 1) (sh_ k1 1) s1.1 ++ (zc_8 (sh_ a1 16) (sh_ k1 16) s1.2.1 ++ (zc_4 (sh_ a1 31) (sh_ k1 31) s1.2.2.2.1 ++ (zc_4 (sh_ a1 37) (sh_ k1 37) s1.2.2.2.2.2.1 ++ (([] : va_W) ++ (([] : va_W) ++ (zc_7 (sh_ a1 47) (sh_ k1 47) s1.2.2.2.2.2.2.2.2.1 ++ (zc_3 (sh_ a1 50) (sh_ k1 50) s1.2.2.2.2.2.2.2.2.2.1 ++ (zc_6 (sh_ a1 54) (sh_ k1 54) s1.2.2.2.2.2.2.2.2.2.2.1 ++ (zc_2 (sh_ a1 56) (sh_ k1 56) 10 s1.2.2.2.2.2.2.2.2.2.2.2.1 ++ (zc_0 (sh_ a1 62) (sh_ k1 62) 24 s1.2.2.2.2.2.2.2.2.2.2.2.2.1 ++ zc_5 (sh_ a1 66) (sh_ k1 66) s1.2.2.2.2.2.2.2.2.2.2.2.2.2))))))))))))) := (pu_2 (pu_r ([(a1 0, .inr (9, [.ref (a1 1), .ref (a1 16), .int s1.2.2.1, .ref (a1 31), .int s1.2.2.2.2.1, .ref (a1 37), .ref (a1 43), .ref (a1 45), .ref (a1 47), .ref (a1 50), .ref (a1 54), .ref (a1 56), .ref (a1 62), .ref (a1 66)]))]) (pu_r (zc_8 (sh_ a1 1) (sh_ k1 1) s1.1) (pu_r (zc_8 (sh_ a1 16) (sh_ k1 16) s1.2.1) (pu_r (zc_4 (sh_ a1 31) (sh_ k1 31) s1.2.2.2.1) (pu_r (zc_4 (sh_ a1 37) (sh_ k1 37) s1.2.2.2.2.2.1) (pu_r (zc_1 (sh_ a1 43) (sh_ k1 43) s1.2.2.2.2.2.2.1) (pu_l ((zc_7 (sh_ a1 47) (sh_ k1 47) s1.2.2.2.2.2.2.2.2.1 ++ (zc_3 (sh_ a1 50) (sh_ k1 50) s1.2.2.2.2.2.2.2.2.2.1 ++ (zc_6 (sh_ a1 54) (sh_ k1 54) s1.2.2.2.2.2.2.2.2.2.2.1 ++ (zc_2 (sh_ a1 56) (sh_ k1 56) 10 s1.2.2.2.2.2.2.2.2.2.2.2.1 ++ (zc_0 (sh_ a1 62) (sh_ k1 62) 24 s1.2.2.2.2.2.2.2.2.2.2.2.2.1 ++ zc_5 (sh_ a1 66) (sh_ k1 66) s1.2.2.2.2.2.2.2.2.2.2.2.2.2)))))) (pu_1 (zc_1 (sh_ a1 45) (sh_ k1 45) s1.2.2.2.2.2.2.2.1))))))))) (pu_r ([(a1 0, .inr (9, [.ref (a1 1), .ref (a1 16), .int s1.2.2.1, .ref (a1 31), .int s1.2.2.2.2.1, .ref (a1 37), .ref (a1 43), .ref (a1 45), .ref (a1 47), .ref (a1 50), .ref (a1 54), .ref (a1 56), .ref (a1 62), .ref (a1 66)]))]) (pu_r (zc_8 (sh_ a1 1) (sh_ k1 1) s1.1) (pu_r (zc_8 (sh_ a1 16) (sh_ k1 16) s1.2.1) (pu_r (zc_4 (sh_ a1 31) (sh_ k1 31) s1.2.2.2.1) (pu_r (zc_4 (sh_ a1 37) (sh_ k1 37) s1.2.2.2.2.2.1) (pu_l ((([] : va_W) ++ (zc_7 (sh_ a1 47) (sh_ k1 47) s1.2.2.2.2.2.2.2.2.1 ++ (zc_3 (sh_ a1 50) (sh_ k1 50) s1.2.2.2.2.2.2.2.2.2.1 ++ (zc_6 (sh_ a1 54) (sh_ k1 54) s1.2.2.2.2.2.2.2.2.2.2.1 ++ (zc_2 (sh_ a1 56) (sh_ k1 56) 10 s1.2.2.2.2.2.2.2.2.2.2.2.1 ++ (zc_0 (sh_ a1 62) (sh_ k1 62) 24 s1.2.2.2.2.2.2.2.2.2.2.2.2.1 ++ zc_5 (sh_ a1 66) (sh_ k1 66) s1.2.2.2.2.2.2.2.2.2.2.2.2.2))))))) (pu_1 (zc_1 (sh_ a1 43) (sh_ k1 43) s1.2.2.2.2.2.2.1)))))))))
set_option maxRecDepth 100000 in
theorem jo_9__0c45_0c43__0 (a1 : Nat → Nat) (k1 : Nat → ClassId) (s1 : ZT_9) (u1 : ZT_1) : List.Perm (zc_9 a1 k1 (s1.1, s1.2.1, s1.2.2.1, s1.2.2.2.1, s1.2.2.2.2.1, s1.2.2.2.2.2.1, s1.2.2.2.2.2.2.1, u1, s1.2.2.2.2.2.2.2.2)) ((zc_1 (sh_ a1 45) (sh_ k1 45) u1 ++ zc_1 (sh_ a1 43) (sh_ k1 43) s1.2.2.2.2.2.2.1) ++ ([(a1 0, .inr (9, [.ref (a1 1), .ref (a1 16), .int s1.2.2.1, .ref (a1 31), .int s1.2.2.2.2.1, .ref (a1 37), .ref (a1 43), .ref (a1 45), .ref (a1 47), .ref (a1 50), .ref (a1 54), .ref (a1 56), .ref (a1 62), .ref (a1 66)]))] ++ (zc_8 (sh_ a1 1) (sh_ k1 1) s1.1 ++ (zc_8 (sh_ a1 16) (sh_ k1 16) s1.2.1 ++ (zc_4 (sh_ a1 31) (sh_ k1 31) s1.2.2.2.1 ++ (zc_4 (sh_ a1 37) (sh_ k1 37) s1.2.2.2.2.2.1 ++ (([] : va_W) ++ (([] : va_W) ++ (zc_7 (sh_ a1 47) (sh_ k1 47) s1.2.2.2.2.2.2.2.2.1 ++ (zc_3 (sh_ a1 50) (sh_ k1 50) s1.2.2.2.2.2.2.2.2.2.1 ++ (zc_6 (sh_ a1 54) (sh_ k1 54) s1.2.2.2.2.2.2.2.2.2.2.1 ++ (zc_2 (sh_ a1 56) (sh_ k1 56) 10 s1.2.2.2.2.2.2.2.2.2.2.2.1 ++ (zc_0 (sh_ a1 62) (sh_ k1 62) 24 s1.2.2.2.2.2.2.2.2.2.2.2.2.1 ++ zc_5 (sh_ a1 66) (sh_ k1 66) s1.2.2.2.2.2.2.2.2.2.2.2.2.2))))))))))))) := (pu_2 (pu_r ([(a1 0, .inr (9, [.ref (a1 1), .ref (a1 16), .int s1.2.2.1, .ref (a1 31), .int s1.2.2.2.2.1, .ref (a1 37), .ref (a1 43), .ref (a1 45), .ref (a1 47), .ref (a1 50), .ref (a1 54), .ref (a1 56), .ref (a1 62), .ref (a1 66)]))]) (pu_r (zc_8 (sh_ a1 1) (sh_ k1 1) s1.1) (pu_r (zc_8 (sh_ a1 16) (sh_ k1 16) s1.2.1) (pu_r (zc_4 (sh_ a1 31) (sh_ k1 31) s1.2.2.2.1) (pu_r (zc_4 (sh_ a1 37) (sh_ k1 37) s1.2.2.2.2.2.1) (pu_r (zc_1 (sh_ a1 43) (sh_ k1 43) s1.2.2.2.2.2.2.1) (pu_l ((zc_7 (sh_ a1 47) (sh_ k1 47) s1.2.2.2.2.2.2.2.2.1 ++ (zc_3 (sh_ a1 50) (sh_ k1 50) s1.2.2.2.2.2.2.2.2.2.1 ++ (zc_6 (sh_ a1 54) (sh_ k1 54) s1.2.2.2.2.2.2.2.2.2.2.1 ++ (zc_2 (sh_ a1 56) (sh_ k1 56) 10 s1.2.2.2.2.2.2.2.2.2.2.2.1 ++ (zc_0 (sh_ a1 62) (sh_ k1 62) 24 s1.2.2.2.2.2.2.2.2.2.2.2.2.1 ++ zc_5 (sh_ a1 66) (sh_ k1 66) s1.2.2.2.2.2.2.2.2.2.2.2.2.2)))))) (pu_1 (zc_1 (sh_ a1 45) (sh_ k1 45) u1))))))))) (pu_r ([(a1 0, .inr (9, [.ref (a1 1), .ref (a1 16), .int s1.2.2.1, .ref (a1 31), .int s1.2.2.2.2.1, .ref (a1 37), .ref (a1 43), .ref (a1 45), .ref (a1 47), .ref (a1 50), .ref (a1 54), .ref (a1 56), .ref (a1 62), .ref (a1 66)]))]) (pu_r (zc_8 (sh_ a1 1) (sh_ k1 1) s1.1) (pu_r (zc_8 (sh_ a1 16) (sh_ k1 16) s1.2.1) (pu_r (zc_4 (sh_ a1 31) (sh_ k1 31) s1.2.2.2.1) (pu_r (zc_4 (sh_ a1 37) (sh_ k1 37) s1.2.2.2.2.2.1) (pu_l ((([] : va_W) ++ (zc_7 (sh_ a1 47) (sh_ k1 47) s1.2.2.2.2.2.2.2.2.1 ++ (zc_3 (sh_ a1 50) (sh_ k1 50) s1.2.2.2.2.2.2.2.2.2.1 ++ (zc_6 (sh_ a1 54) (sh_ k1 54) s1.2.2.2.2.2.2.2.2.2.2.1 ++ (zc_2 (sh_ a1 56) (sh_ k1 56) 10 s1.2.2.2.2.2.2.2.2.2.2.2.1 ++ (zc_0 (sh_ a1 62) (sh_ k1 62) 24 s1.2.2.2.2.2.2.2.2.2.2.2.2.1 ++ zc_5 (sh_ a1 66) (sh_ k1 66) s1.2.2.2.2.2.2.2.2.2.2.2.2.2))))))) (pu_1 (zc_1 (sh_ a1 43) (sh_ k1 43) s1.2.2.2.2.2.2.1)))))))))
set_option maxRecDepth 100000 in
theorem sb_9__0c45 (a1 : Nat → Nat) (k1 : Nat → ClassId) (s1 : ZT_9) : List.Perm (zc_9 a1 k1 s1) ((zc_1 (sh_ a1 45) (sh_ k1 45) s1.2.2.2.2.2.2.2.1) ++ ([(a1 0, .inr (9, [.ref (a1 1), .ref (a1 16), .int s1.2.2.1, .ref (a1 31), .int s1.2.2.2.2.1, .ref (a1 37), .ref (a1 43), .ref (a1 45), .ref (a1 47), .ref (a1 50), .ref (a1 54), .ref (a1 56), .ref (a1 62), .ref (a1 66)]))] ++ (zc_8 (sh_ a1 1) (sh_ k1 1) s1.1 ++ (zc_8 (sh_ a1 16) (sh_ k1 16) s1.2.1 ++ (zc_4 (sh_ a1 31) (sh_ k1 31) s1.2.2.2.1 ++ (zc_4 (sh_ a1 37) (sh_ k1 37) s1.2.2.2.2.2.1 ++ (zc_1 (sh_ a1 43) (sh_ k1 43) s1.2.2.2.2.2.2.1 ++ (([] : va_W) ++ (zc_7 (sh_ a1 47) (sh_ k1 47) s1.2.2.2.2.2.2.2.2.1 ++ (zc_3 (sh_ a1 50) (sh_ k1 50) s1.2.2.2.2.2.2.2.2.2.1 ++ (zc_6 (sh_ a1 54) (sh_ k1 54) s1.2.2.2.2.2.2.2.2.2.2.1 ++ (zc_2 (sh_ a1 56) (sh_ k1 56) 10 s1.2.2.2.2.2.2.2.2.2.2.2.1 ++ (zc_0 (sh_ a1 62) (sh_ k1 62) 24 s1.2.2.2.2.2.2.2.2.2.2.2.2.1 ++ zc_5 (sh_ a1 66) (sh_ k1 66) s1.2.2.2.2.2.2.2.2.2.2.2.2.2))))))))))))) := (pu_r ([(a1 0, .inr (9, [.ref (a1 1), .ref (a1 16), .int s1.2.2.1, .ref (a1 31), .int s1.2.2.2.2.1, .ref (a1 37), .ref (a1 43), .ref (a1 45), .ref (a1 47), .ref (a1 50), .ref (a1 54), .ref (a1 56), .ref (a1 62), .ref (a1 66)]))]) (pu_r (zc_8 (sh_ a1 1) (sh_ k1 1) s1.1) (pu_r (zc_8 (sh_ a1 16) (sh_ k1 16) s1.2.1) (pu_r (zc_4 (sh_ a1 31) (sh_ k1 31) s1.2.2.2.1) (pu_r (zc_4 (sh_ a1 37) (sh_ k1 37) s1.2.2.2.2.2.1) (pu_r (zc_1 (sh_ a1 43) (sh_ k1 43) s1.2.2.2.2.2.2.1) (pu_l ((zc_7 (sh_ a1 47) (sh_ k1 47) s1.2.2.2.2.2.2.2.2.1 ++ (zc_3 (sh_ a1 50) (sh_ k1 50) s1.2.2.2.2.2.2.2.2.2.1 ++ (zc_6 (sh_ a1 54) (sh_ k1 54) s1.2.2.2.2.2.2.2.2.2.2.1 ++ (zc_2 (sh_ a1 56) (sh_ k1 56) 10 s1.2.2.2.2.2.2.2.2.2.2.2.1 ++ (zc_0 (sh_ a1 62) (sh_ k1 62) 24 s1.2.2.2.2.2.2.2.2.2.2.2.2.1 ++ zc_5 (sh_ a1 66) (sh_ k1 66) s1.2.2.2.2.2.2.2.2.2.2.2.2.2)))))) (pu_1 (zc_1 (sh_ a1 45) (sh_ k1 45) s1.2.2.2.2.2.2.2.1)))))))))
set_option maxRecDepth 100000 in
theorem jo_9__0c45__0 (a1 : Nat → Nat) (k1 : Nat → ClassId) (s1 : ZT_9) (u1 : ZT_1) : List.Perm (zc_9 a1 k1 (s1.1, s1.2.1, s1.2.2.1, s1.2.2.2.1, s1.2.2.2.2.1, s1.2.2.2.2.2.1, s1.2.2.2.2.2.2.1, u1, s1.2.2.2.2.2.2.2.2)) ((zc_1 (sh_ a1 45) (sh_ k1 45) u1) ++ ([(a1 0, .inr (9, [.ref (a1 1), .ref (a1 16), .int s1.2.2.1, .ref (a1 31), .int s1.2.2.2.2.1, .ref (a1 37), .ref (a1 43), .ref (a1 45), .ref (a1 47), .ref (a1 50), .ref (a1 54), .ref (a1 56), .ref (a1 62), .ref (a1 66)]))] ++ (zc_8 (sh_ a1 1) (sh_ k1 1) s1.1 ++ (zc_8 (sh_ a1 16) (sh_ k1 16) s1.2.1 ++ (zc_4 (sh_ a1 31) (sh_ k1 31) s1.2.2.2.1 ++ (zc_4 (sh_ a1 37) (sh_ k1 37) s1.2.2.2.2.2.1 ++ (zc_1 (sh_ a1 43) (sh_ k1 43) s1.2.2.2.2.2.2.1 ++ (([] : va_W) ++ (zc_7 (sh_ a1 47) (sh_ k1 47) s1.2.2.2.2.2.2.2.2.1 ++ (zc_3 (sh_ a1 50) (sh_ k1 50) s1.2.2.2.2.2.2.2.2.2.1 ++ (zc_6 (sh_ a1 54) (sh_ k1 54) s1.2.2.2.2.2.2.2.2.2.2.1 ++ (zc_2 (sh_ a1 56) (sh_ k1 56) 10 s1.2.2.2.2.2.2.2.2.2.2.2.1 ++ (zc_0 (sh_ a1 62) (sh_ k1 62) 24 s1.2.2.2.2.2.2.2.2.2.2.2.2.1 ++ zc_5 (sh_ a1 66) (sh_ k1 66) s1.2.2.2.2.2.2.2.2.2.2.2.2.2))))))))))))) := (pu_r ([(a1 0, .inr (9, [.ref (a1 1), .ref (a1 16), .int s1.2.2.1, .ref (a1 31), .int s1.2.2.2.2.1, .ref (a1 37), .ref (a1 43), .ref (a1 45), .ref (a1 47), .ref (a1 50), .ref (a1 54), .ref (a1 56), .ref (a1 62), .ref (a1 66)]))]) (pu_r (zc_8 (sh_ a1 1) (sh_ k1 1) s1.1) (pu_r (zc_8 (sh_ a1 16) (sh_ k1 16) s1.2.1) (pu_r (zc_4 (sh_ a1 31) (sh_ k1 31) s1.2.2.2.1) (pu_r (zc_4 (sh_ a1 37) (sh_ k1 37) s1.2.2.2.2.2.1) (pu_r (zc_1 (sh_ a1 43) (sh_ k1 43) s1.2.2.2.2.2.2.1) (pu_l ((zc_7 (sh_ a1 47) (sh_ k1 47) s1.2.2.2.2.2.2.2.2.1 ++ (zc_3 (sh_ a1 50) (sh_ k1 50) s1.2.2.2.2.2.2.2.2.2.1 ++ (zc_6 (sh_ a1 54) (sh_ k1 54) s1.2.2.2.2.2.2.2.2.2.2.1 ++ (zc_2 (sh_ a1 56) (sh_ k1 56) 10 s1.2.2.2.2.2.2.2.2.2.2.2.1 ++ (zc_0 (sh_ a1 62) (sh_ k1 62) 24 s1.2.2.2.2.2.2.2.2.2.2.2.2.1 ++ zc_5 (sh_ a1 66) (sh_ k1 66) s1.2.2.2.2.2.2.2.2.2.2.2.2.2)))))) (pu_1 (zc_1 (sh_ a1 45) (sh_ k1 45) u1)))))))))
set_option maxRecDepth 100000 in
theorem sb_9__0c45_0c31 (a1 : Nat → Nat) (k1 : Nat → ClassId) (s1 : ZT_9) : List.Perm (zc_9 a1 k1 s1) ((zc_1 (sh_ a1 45) (sh_ k1 45) s1.2.2.2.2.2.2.2.1 ++ zc_4 (sh_ a1 31) (sh_ k1 31) s1.2.2.2.1) ++ ([(a1 0, .inr (9, [.ref (a1 1), .ref (a1 16), .int s1.2.2.1, .ref (a1 31), .int s1.2.2.2.2.1, .ref (a1 37), .ref (a1 43), .ref (a1 45), .ref (a1 47), .ref (a1 50), .ref (a1 54), .ref (a1 56), .ref (a1 62), .ref (a1 66)]))] ++ (zc_8 (sh_ a1 1) (sh_ k1 1) s1.1 ++ (zc_8 (sh_ a1 16) (sh_ k1 16) s1.2.1 ++ (([] : va_W) ++ (zc_4 (sh_ a1 37) (sh_ k1 37) s1.2.2.2.2.2.1 ++ (zc_1 (sh_ a1 43) (sh_ k1 43) s1.2.2.2.2.2.2.1 ++ (([] : va_W) ++ (zc_7 (sh_ a1 47) (sh_ k1 47) s1.2.2.2.2.2.2.2.2.1 ++ (zc_3 (sh_ a1 50) (sh_ k1 50) s1.2.2.2.2.2.2.2.2.2.1 ++ (zc_6 (sh_ a1 54) (sh_ k1 54) s1.2.2.2.2.2.2.2.2.2.2.1 ++ (zc_2 (sh_ a1 56) (sh_ k1 56) 10 s1.2.2.2.2.2.2.2.2.2.2.2.1 ++ (zc_0 (sh_ a1 62) (sh_ k1 62) 24 s1.2.2.2.2.2.2.2.2.2.2.2.2.1 ++ zc_5 (sh_ a1 66) (sh_ k1 66) s1.2.2.2.2.2.2.2.2.2.2.2.2.2))))))))))))) := (pu_2 (pu_r ([(a1 0, .inr (9, [.ref (a1 1), .ref (a1 16), .int s1.2.2.1, .ref (a1 31), .int s1.2.2.2.2.1, .ref (a1 37), .ref (a1 43), .ref (a1 45), .ref (a1 47), .ref (a1 50), .ref (a1 54), .ref (a1 56), .ref (a1 62), .ref (a1 66)]))]) (pu_r (zc_8 (sh_ a1 1) (sh_ k1 1) s1.1) (pu_r (zc_8 (sh_ a1 16) (sh_ k1 16) s1.2.1) (pu_r (zc_4 (sh_ a1 31) (sh_ k1 31) s1.2.2.2.1) (pu_r (zc_4 (sh_ a1 37) (sh_ k1 37) s1.2.2.2.2.2.1) (pu_r (zc_1 (sh_ a1 43) (sh_ k1 43) s1.2.2.2.2.2.2.1) (pu_l ((zc_7 (sh_ a1 47) (sh_ k1 47) s1.2.2.2.2.2.2.2.2.1 ++ (zc_3 (sh_ a1 50) (sh_ k1 50) s1.2.2.2.2.2.2.2.2.2.1 ++ (zc_6 (sh_ a1 54) (sh_ k1 54) s1.2.2.2.2.2.2.2.2.2.2.1 ++ (zc_2 (sh_ a1 56) (sh_ k1 56) 10 s1.2.2.2.2.2.2.2.2.2.2.2.1 ++ (zc_0 (sh_ a1 62) (sh_ k1 62) 24 s1.2.2.2.2.2.2.2.2.2.2.2.2.1 ++ zc_5 (sh_ a1 66) (sh_ k1 66) s1.2.2.2.2.2.2.2.2.2.2.2.2.2)))))) (pu_1 (zc_1 (sh_ a1 45) (sh_ k1 45) s1.2.2.2.2.2.2.2.1))))))))) (pu_r ([(a1 0, .inr (9, [.ref (a1 1), .ref (a1 16), .int s1.2.2.1, .ref (a1 31), .int s1.2.2.2.2.1, .ref (a1 37), .ref (a1 43), .ref (a1 45), .ref (a1 47), .ref (a1 50), .ref (a1 54), .ref (a1 56), .ref (a1 62), .ref (a1 66)]))]) (pu_r (zc_8 (sh_ a1 1) (sh_ k1 1) s1.1) (pu_r (zc_8 (sh_ a1 16) (sh_ k1 16) s1.2.1) (pu_l ((zc_4 (sh_ a1 37) (sh_ k1 37) s1.2.2.2.2.2.1 ++ (zc_1 (sh_ a1 43) (sh_ k1 43) s1.2.2.2.2.2.2.1 ++ (([] : va_W) ++ (zc_7 (sh_ a1 47) (sh_ k1 47) s1.2.2.2.2.2.2.2.2.1 ++ (zc_3 (sh_ a1 50) (sh_ k1 50) s1.2.2.2.2.2.2.2.2.2.1 ++ (zc_6 (sh_ a1 54) (sh_ k1 54) s1.2.2.2.2.2.2.2.2.2.2.1 ++ (zc_2 (sh_ a1 56) (sh_ k1 56) 10 s1.2.2.2.2.2.2.2.2.2.2.2.1 ++ (zc_0 (sh_ a1 62) (sh_ k1 62) 24 s1.2.2.2.2.2.2.2.2.2.2.2.2.1 ++ zc_5 (sh_ a1 66) (sh_ k1 66) s1.2.2.2.2.2.2.2.2.2.2.2.2.2))))))))) (pu_1 (zc_4 (sh_ a1 31) (sh_ k1 31) s1.2.2.2.1)))))))
set_option maxRecDepth 100000 in
theorem jo_9__0c45_0c31__0 (a1 : Nat → Nat) (k1 : Nat → ClassId) (s1 : ZT_9) (u1 : ZT_1) : List.Perm (zc_9 a1 k1 (s1.1, s1.2.1, s1.2.2.1, s1.2.2.2.1, s1.2.2.2.2.1, s1.2.2.2.2.2.1, s1.2.2.2.2.2.2.1, u1, s1.2.2.2.2.2.2.2.2)) ((zc_1 (sh_ a1 45) (sh_ k1 45) u1 ++ zc_4 (sh_ a1 31) (sh_ k1 31) s1.2.2.2.1) ++ ([(a1 0, .inr (9, [.ref (a1 1), .ref (a1 16), .int s1.2.2.1, .ref (a1 31), .int s1.2.2.2.2.1, .ref (a1 37), .ref (a1 43), .ref (a1 45), .ref (a1 47), .ref (a1 50), .ref (a1 54), .ref (a1 56), .ref (a1 62), .ref (a1 66)]))] ++ (zc_8 (sh_ a1 1) (sh_ k1 1) s1.1 ++ (zc_8 (sh_ a1 16) (sh_ k1 16) s1.2.1 ++ (([] : va_W) ++ (zc_4 (sh_ a1 37) (sh_ k1 37) s1.2.2.2.2.2.1 ++ (zc_1 (sh_ a1 43) (sh_ k1 43) s1.2.2.2.2.2.2.1 ++ (([] : va_W) ++ (zc_7 (sh_ a1 47) (sh_ k1 47) s1.2.2.2.2.2.2.2.2.1 ++ (zc_3 (sh_ a1 50) (sh_ k1 50) s1.2.2.2.2.2.2.2.2.2.1 ++ (zc_6 (sh_ a1 54) (sh_ k1 54) s1.2.2.2.2.2.2.2.2.2.2.1 ++ (zc_2 (sh_ a1 56) (sh_ k1 56) 10 s1.2.2.2.2.2.2.2.2.2.2.2.1 ++ (zc_0 (sh_ a1 62) (sh_ k1 62) 24 s1.2.2.2.2.2.2.2.2.2.2.2.2.1 ++ zc_5 (sh_ a1 66) (sh_ k1 66) s1.2.2.2.2.2.2.2.2.2.2.2.2.2))))))))))))) := (pu_2 (pu_r ([(a1 0, .inr (9, [.ref (a1 1), .ref (a1 16), .int s1.2.2.1, .ref (a1 31), .int s1.2.2.2.2.1, .ref (a1 37), .ref (a1 43), .ref (a1 45), .ref (a1 47), .ref (a1 50), .ref (a1 54), .ref (a1 56), .ref (a1 62), .ref (a1 66)]))]) (pu_r (zc_8 (sh_ a1 1) (sh_ k1 1) s1.1) (pu_r (zc_8 (sh_ a1 16) (sh_ k1 16) s1.2.1) (pu_r (zc_4 (sh_ a1 31) (sh_ k1 31) s1.2.2.2.1) (pu_r (zc_4 (sh_ a1 37) (sh_ k1 37) s1.2.2.2.2.2.1) (pu_r (zc_1 (sh_ a1 43) (sh_ k1 43) s1.2.2.2.2.2.2.1) (pu_l ((zc_7 (sh_ a1 47) (sh_ k1 47) s1.2.2.2.2.2.2.2.2.1 ++ (zc_3 (sh_ a1 50) (sh_ k1 50) s1.2.2.2.2.2.2.2.2.2.1 ++ (zc_6 (sh_ a1 54) (sh_ k1 54) s1.2.2.2.2.2.2.2.2.2.2.1 ++ (zc_2 (sh_ a1 56) (sh_ k1 56) 10 s1.2.2.2.2.2.2.2.2.2.2.2.1 ++ (zc_0 (sh_ a1 62) (sh_ k1 62) 24 s1.2.2.2.2.2.2.2.2.2.2.2.2.1 ++ zc_5 (sh_ a1 66) (sh_ k1 66) s1.2.2.2.2.2.2.2.2.2.2.2.2.2)))))) (pu_1 (zc_1 (sh_ a1 45) (sh_ k1 45) u1))))))))) (pu_r ([(a1 0, .inr (9, [.ref (a1 1), .ref (a1 16), .int s1.2.2.1, .ref (a1 31), .int s1.2.2.2.2.1, .ref (a1 37), .ref (a1 43), .ref (a1 45), .ref (a1 47), .ref (a1 50), .ref (a1 54), .ref (a1 56), .ref (a1 62), .ref (a1 66)]))]) (pu_r (zc_8 (sh_ a1 1) (sh_ k1 1) s1.1) (pu_r (zc_8 (sh_ a1 16) (sh_ k1 16) s1.2.1) (pu_l ((zc_4 (sh_ a1 37) (sh_ k1 37) s1.2.2.2.2.2.1 ++ (zc_1 (sh_ a1 43) (sh_ k1 43) s1.2.2.2.2.2.2.1 ++ (([] : va_W) ++ (zc_7 (sh_ a1 47) (sh_ k1 47) s1.2.2.2.2.2.2.2.2.1 ++ (zc_3 (sh_ a1 50) (sh_ k1 50) s1.2.2.2.2.2.2.2.2.2.1 ++ (zc_6 (sh_ a1 54) (sh_ k1 54) s1.2.2.2.2.2.2.2.2.2.2.1 ++ (zc_2 (sh_ a1 56) (sh_ k1 56) 10 s1.2.2.2.2.2.2.2.2.2.2.2.1 ++ (zc_0 (sh_ a1 62) (sh_ k1 62) 24 s1.2.2.2.2.2.2.2.2.2.2.2.2.1 ++ zc_5 (sh_ a1 66) (sh_ k1 66) s1.2.2.2.2.2.2.2.2.2.2.2.2.2))))))))) (pu_1 (zc_4 (sh_ a1 31) (sh_ k1 31) s1.2.2.2.1)))))))
set_option maxHeartbeats 4000000 in
set_option maxRecDepth 100000 in
theorem cc_X9_lent (l : Launch) (dC : Nat → ClassId) (dI : Nat → Nat → Nat) (fu : Nat) (a1 : Nat → Nat) (k1 : Nat → ClassId) (sz : Nat) (x1 : Int32) (x2 : Int32) (x3 : Int32) (x4 : Int32) (x5 : Int32) (x6 : Int32) (s1 : ZT_9) (res : Int32 × ZT_9) (hR : rr_X9_lent fu x1 x2 x3 x4 x5 x6 s1 = some res) : Met l yX9_lent wsX9_lent ({ frames := 6, cells := 0, slots := 0, locals := 143 } : Room) (PcF [.ref (a1 0), .int x1, .int x2, .int x3, .int x4, .int x5, .int x6] sz (dC, dI) (zc_9 a1 k1 s1) (zt_9 k1)) (va_Qi (fun (r : Int32) (u : ZT_9) => res = (r, u)) (fun u t => at3_ (dC, dI) (zc_9 a1 k1 u) (zt_9 k1) (va_A (zc_9 a1 k1 s1) sz) t) (va_A (zc_9 a1 k1 s1) sz)) 0 0 (va_A (zc_9 a1 k1 s1) sz) := by
  refine Met.ofW (cc := cX9_lent) (maxL := 11) (ret := (some .int)) (by decide) rfl ?_
  intro p e s m args below meth c s₁ B hml hv
  obtain ⟨hav, hsz, hP, hK, hD0⟩ := hv
  have hx := B.exec
  have hb := B.bytes
  have hr := B.returns
  have hts := atoms_spec (ws := wsX9_lent) B.pre
  have hown : s.vm.findClass RX9 = some m.cls := findClass_of_methodNamed B.named
  have hlocks := B.notSynchronized
  have hin2 : ∀ w ∈ wsX20, w ∈ wsX9_lent := fun w h => List.mem_cons_of_mem _ (List.mem_append_left _ (List.mem_append_left _ (List.mem_append_right _ h)))
  have hin4 : ∀ w ∈ wsX40, w ∈ wsX9_lent := fun w h => List.mem_cons_of_mem _ (List.mem_append_left _ (List.mem_append_right _ h))
  have hin8 : ∀ w ∈ wsX80, w ∈ wsX9_lent := fun w h => List.mem_cons_of_mem _ (List.mem_append_left _ (List.mem_append_left _ (List.mem_append_left _ (List.mem_append_right _ h))))
  have hin9 : ∀ w ∈ wsX90, w ∈ wsX9_lent := fun w h => List.mem_cons_of_mem _ (List.mem_append_left _ (List.mem_append_left _ (List.mem_append_left _ (List.mem_append_left _ (List.mem_append_right _ h)))))
  subst hsz
  have hD := hD0.self (sz := s.heap.size)
  clear hD0
  generalize hAe : va_A (zc_9 a1 k1 s1) s.heap.size = A at hD ⊢
  have hA : ∀ q : Nat, s.heap.size ≤ q → A q := fun q h => by rw [← hAe]; exact Or.inr h
  have hS : va_S A s.heap s.heap [] := va_S.rf
  generalize hQe : MQ below _ args s 0 0 A = Q
  rw [show entryFrame m args 11 = F0 m 0 ((lg_sl ([.ref (a1 0), .int x1, .int x2, .int x3, .int x4, .int x5, .int x6]) ++ List.replicate (11 - (lg_sl ([.ref (a1 0), .int x1, .int x2, .int x3, .int x4, .int x5, .int x6])).length) Slot.unset).toArray) [] from by rw [hav]; exact lg_entry_eq m _ _]
  have hl := lv_entry ([.ref (a1 0), .int x1, .int x2, .int x3, .int x4, .int x5, .int x6]) (n := 11) (Nat.le_of_ble_eq_true rfl)
  generalize (lg_sl ([.ref (a1 0), .int x1, .int x2, .int x3, .int x4, .int x5, .int x6]) ++ List.replicate (11 - (lg_sl ([.ref (a1 0), .int x1, .int x2, .int x3, .int x4, .int x5, .int x6])).length) Slot.unset).toArray = ls at hl ⊢
  have hl : lv_has ls 11 [(0, .ref (a1 0)), (1, .int x1), (2, .int x2), (3, .int x3), (4, .int x4), (5, .int x5), (6, .int x6)] := hl
  have hB201 : ∀ (rec43 : Int32 → Int32 → Int32 → Int32 → Int32 → Int32 → Int32 → Int32 → Int32 → ZT_9 → Option (Int32 × ZT_9)) (hrec43 : ∀ (y1 : Int32) (y2 : Int32) (y3 : Int32) (y4 : Int32) (y5 : Int32) (y6 : Int32) (y7 : Int32) (y8 : Int32) (y9 : Int32) (u1 : ZT_9) (H : Heap) (locs : List Loc) (ls : Array Slot), va_P (dC, dI) vwCl (zc_9 a1 k1 u1) H → va_D A (zc_9 a1 k1 u1) → va_S A s.heap H locs → lv_has ls 11 [(0, .ref (a1 0)), (1, .int y1), (2, .int y2), (3, .int y3), (4, .int y4), (5, .int y5), (6, .int y6), (7, .int y7), (8, .int y8), (9, .int y9)] → rec43 y1 y2 y3 y4 y5 y6 y7 y8 y9 u1 = some res → W p l e ({ frames := 6, cells := 0, slots := 0, locals := 143 } : Room) s m args below meth c H locs 0 0 Q (F0 m 43 ls [])), ∀ (y1 : Int32) (y2 : Int32) (y3 : Int32) (y4 : Int32) (y5 : Int32) (y6 : Int32) (y7 : Int32) (y8 : Int32) (y9 : Int32) (u1 : ZT_9) (H : Heap) (locs : List Loc) (ls : Array Slot), va_P (dC, dI) vwCl (zc_9 a1 k1 u1) H → va_D A (zc_9 a1 k1 u1) → va_S A s.heap H locs → lv_has ls 11 [(0, .ref (a1 0)), (1, .int y1), (2, .int y2), (3, .int y3), (4, .int y4), (5, .int y5), (6, .int y6), (7, .int y7), (8, .int y8), (9, .int y9)] → rr_X9_lent_201 fu rec43 y1 y2 y3 y4 y5 y6 y7 y8 y9 u1 = some res → W p l e ({ frames := 6, cells := 0, slots := 0, locals := 143 } : Room) s m args below meth c H locs 0 0 Q (F0 m 201 ls []) := by
    intro rec43 hrec43 y1 y2 y3 y4 y5 y6 y7 y8 y9 u1 H locs ls hP hD hS hl hR
    unfold rr_X9_lent_201 at hR
    obtain ⟨z18, ez18⟩ : ∃ y : Int32, y = (y9 + (1 : Int32)) := ⟨_, rfl⟩
    replace hR := lt_ok hR ez18
    refine lv_iinc (v := z18) (lv' := [(9, .int z18), (0, .ref (a1 0)), (1, .int y1), (2, .int y2), (3, .int y3), (4, .int y4), (5, .int y5), (6, .int y6), (7, .int y7), (8, .int y8)]) hx hb dX9_lent_201 hl (k := 9) rfl (by rw [ez18]; rfl) (by decide) rfl (fun ls18 hl18 => ?_)
    refine lv_goto (tgt := 43) hx hb dX9_lent_204 (by decide) ?_
    exact hrec43 y1 y2 y3 y4 y5 y6 y7 y8 z18 u1 H locs ls18 hP hD hS (lv_sub hl18 [1, 2, 3, 4, 5, 6, 7, 8, 9, 0] rfl) hR
  have hB199 : ∀ (rec43 : Int32 → Int32 → Int32 → Int32 → Int32 → Int32 → Int32 → Int32 → Int32 → ZT_9 → Option (Int32 × ZT_9)) (hrec43 : ∀ (y1 : Int32) (y2 : Int32) (y3 : Int32) (y4 : Int32) (y5 : Int32) (y6 : Int32) (y7 : Int32) (y8 : Int32) (y9 : Int32) (u1 : ZT_9) (H : Heap) (locs : List Loc) (ls : Array Slot), va_P (dC, dI) vwCl (zc_9 a1 k1 u1) H → va_D A (zc_9 a1 k1 u1) → va_S A s.heap H locs → lv_has ls 11 [(0, .ref (a1 0)), (1, .int y1), (2, .int y2), (3, .int y3), (4, .int y4), (5, .int y5), (6, .int y6), (7, .int y7), (8, .int y8), (9, .int y9)] → rec43 y1 y2 y3 y4 y5 y6 y7 y8 y9 u1 = some res → W p l e ({ frames := 6, cells := 0, slots := 0, locals := 143 } : Room) s m args below meth c H locs 0 0 Q (F0 m 43 ls [])), ∀ (y1 : Int32) (y2 : Int32) (y3 : Int32) (y4 : Int32) (y5 : Int32) (y6 : Int32) (y8 : Int32) (y9 : Int32) (w0 : Int32) (u1 : ZT_9) (H : Heap) (locs : List Loc) (ls : Array Slot), va_P (dC, dI) vwCl (zc_9 a1 k1 u1) H → va_D A (zc_9 a1 k1 u1) → va_S A s.heap H locs → lv_has ls 11 [(0, .ref (a1 0)), (1, .int y1), (2, .int y2), (3, .int y3), (4, .int y4), (5, .int y5), (6, .int y6), (8, .int y8), (9, .int y9)] → rr_X9_lent_199 fu rec43 y1 y2 y3 y4 y5 y6 y8 y9 w0 u1 = some res → W p l e ({ frames := 6, cells := 0, slots := 0, locals := 143 } : Room) s m args below meth c H locs 0 0 Q (F0 m 199 ls [.int w0]) := by
    intro rec43 hrec43 y1 y2 y3 y4 y5 y6 y8 y9 w0 u1 H locs ls hP hD hS hl hR
    unfold rr_X9_lent_199 at hR
    refine lv_istore (lv' := [(7, .int w0), (0, .ref (a1 0)), (1, .int y1), (2, .int y2), (3, .int y3), (4, .int y4), (5, .int y5), (6, .int y6), (8, .int y8), (9, .int y9)]) hx hb dX9_lent_199 hl (by decide) rfl (fun ls29 hl29 => ?_)
    exact hB201 rec43 hrec43 y1 y2 y3 y4 y5 y6 w0 y8 y9 u1 H locs ls29 hP hD hS (lv_sub hl29 [1, 2, 3, 4, 5, 6, 7, 0, 8, 9] rfl) hR
  have hB172 : ∀ (rec43 : Int32 → Int32 → Int32 → Int32 → Int32 → Int32 → Int32 → Int32 → Int32 → ZT_9 → Option (Int32 × ZT_9)) (hrec43 : ∀ (y1 : Int32) (y2 : Int32) (y3 : Int32) (y4 : Int32) (y5 : Int32) (y6 : Int32) (y7 : Int32) (y8 : Int32) (y9 : Int32) (u1 : ZT_9) (H : Heap) (locs : List Loc) (ls : Array Slot), va_P (dC, dI) vwCl (zc_9 a1 k1 u1) H → va_D A (zc_9 a1 k1 u1) → va_S A s.heap H locs → lv_has ls 11 [(0, .ref (a1 0)), (1, .int y1), (2, .int y2), (3, .int y3), (4, .int y4), (5, .int y5), (6, .int y6), (7, .int y7), (8, .int y8), (9, .int y9)] → rec43 y1 y2 y3 y4 y5 y6 y7 y8 y9 u1 = some res → W p l e ({ frames := 6, cells := 0, slots := 0, locals := 143 } : Room) s m args below meth c H locs 0 0 Q (F0 m 43 ls [])), ∀ (y1 : Int32) (y2 : Int32) (y3 : Int32) (y4 : Int32) (y5 : Int32) (y6 : Int32) (y7 : Int32) (y8 : Int32) (y9 : Int32) (w0 : Int32) (w1 : Int32) (u1 : ZT_9) (H : Heap) (locs : List Loc) (ls : Array Slot), va_P (dC, dI) vwCl (zc_9 a1 k1 u1) H → va_D A (zc_9 a1 k1 u1) → va_S A s.heap H locs → lv_has ls 11 [(0, .ref (a1 0)), (1, .int y1), (2, .int y2), (3, .int y3), (4, .int y4), (5, .int y5), (6, .int y6), (7, .int y7), (8, .int y8), (9, .int y9)] → rr_X9_lent_172 fu rec43 y1 y2 y3 y4 y5 y6 y7 y8 y9 w0 w1 u1 = some res → W p l e ({ frames := 6, cells := 0, slots := 0, locals := 143 } : Room) s m args below meth c H locs 0 0 Q (F0 m 172 ls [.int w0, .int w1]) := by
    intro rec43 hrec43 y1 y2 y3 y4 y5 y6 y7 y8 y9 w0 w1 u1 H locs ls hP hD hS hl hR
    unfold rr_X9_lent_172 at hR
    refine lv_iadd hx hb dX9_lent_172 ?_
    refine lv_topi (fun z24 ez24 => ?_)
    replace hR := lt_ok hR ez24
    refine lv_istore (lv' := [(10, .int z24), (0, .ref (a1 0)), (1, .int y1), (2, .int y2), (3, .int y3), (4, .int y4), (5, .int y5), (6, .int y6), (7, .int y7), (8, .int y8), (9, .int y9)]) hx hb dX9_lent_173 hl (by decide) rfl (fun ls25 hl25 => ?_)
    refine lv_iload hx hb dX9_lent_175 (lv_at hl25 0 rfl) ?_
    refine lv_iload hx hb dX9_lent_177 (lv_at hl25 9 rfl) ?_
    refine lv_icmp_le (tgt := 201) hx hb dX9_lent_179 (by decide) (fun c26 => ?_) (fun c26 => ?_)
    · replace hR := ifp_ hR c26
      exact hB201 rec43 hrec43 y1 y2 y3 y4 y5 y6 y7 y8 y9 u1 H locs ls25 hP hD hS (lv_sub hl25 [1, 2, 3, 4, 5, 6, 7, 8, 9, 10] rfl) hR
    · replace hR := ifn_ hR c26
      refine lv_iload hx hb dX9_lent_182 (lv_at hl25 0 rfl) ?_
      refine lv_istore (lv' := [(8, .int z24), (10, .int z24), (0, .ref (a1 0)), (1, .int y1), (2, .int y2), (3, .int y3), (4, .int y4), (5, .int y5), (6, .int y6), (7, .int y7), (9, .int y9)]) hx hb dX9_lent_184 hl25 (by decide) rfl (fun ls27 hl27 => ?_)
      refine lv_iload hx hb dX9_lent_186 (lv_at hl27 10 rfl) ?_
      refine lv_iconst (v := (-1 : Int32)) hx hb dX9_lent_188 (by decide) ?_
      refine lv_icmp_ne (tgt := 197) hx hb dX9_lent_189 (by decide) (fun c28 => ?_) (fun c28 => ?_)
      · replace hR := ifn_ hR c28
        refine lv_iload hx hb dX9_lent_197 (lv_at hl27 10 rfl) ?_
        exact hB199 rec43 hrec43 y1 y2 y3 y4 y5 y6 z24 y9 y9 u1 H locs ls27 hP hD hS (lv_sub hl27 [2, 3, 4, 5, 6, 7, 8, 0, 10] rfl) hR
      · replace hR := ifp_ hR c28
        refine lv_bipush (v := (-4 : Int32)) hx hb dX9_lent_192 (by decide) ?_
        refine lv_goto (tgt := 199) hx hb dX9_lent_194 (by decide) ?_
        exact hB199 rec43 hrec43 y1 y2 y3 y4 y5 y6 z24 y9 (-4 : Int32) u1 H locs ls27 hP hD hS (lv_sub hl27 [2, 3, 4, 5, 6, 7, 8, 0, 10] rfl) hR
  have hB143 : ∀ (rec43 : Int32 → Int32 → Int32 → Int32 → Int32 → Int32 → Int32 → Int32 → Int32 → ZT_9 → Option (Int32 × ZT_9)) (hrec43 : ∀ (y1 : Int32) (y2 : Int32) (y3 : Int32) (y4 : Int32) (y5 : Int32) (y6 : Int32) (y7 : Int32) (y8 : Int32) (y9 : Int32) (u1 : ZT_9) (H : Heap) (locs : List Loc) (ls : Array Slot), va_P (dC, dI) vwCl (zc_9 a1 k1 u1) H → va_D A (zc_9 a1 k1 u1) → va_S A s.heap H locs → lv_has ls 11 [(0, .ref (a1 0)), (1, .int y1), (2, .int y2), (3, .int y3), (4, .int y4), (5, .int y5), (6, .int y6), (7, .int y7), (8, .int y8), (9, .int y9)] → rec43 y1 y2 y3 y4 y5 y6 y7 y8 y9 u1 = some res → W p l e ({ frames := 6, cells := 0, slots := 0, locals := 143 } : Room) s m args below meth c H locs 0 0 Q (F0 m 43 ls [])), ∀ (y1 : Int32) (y2 : Int32) (y3 : Int32) (y4 : Int32) (y5 : Int32) (y6 : Int32) (y7 : Int32) (y8 : Int32) (y9 : Int32) (w0 : Int32) (u1 : ZT_9) (H : Heap) (locs : List Loc) (ls : Array Slot), va_P (dC, dI) vwCl (zc_9 a1 k1 u1) H → va_D A (zc_9 a1 k1 u1) → va_S A s.heap H locs → lv_has ls 11 [(0, .ref (a1 0)), (1, .int y1), (2, .int y2), (3, .int y3), (4, .int y4), (5, .int y5), (6, .int y6), (7, .int y7), (8, .int y8), (9, .int y9)] → rr_X9_lent_143 fu rec43 y1 y2 y3 y4 y5 y6 y7 y8 y9 w0 u1 = some res → W p l e ({ frames := 6, cells := 0, slots := 0, locals := 143 } : Room) s m args below meth c H locs 0 0 Q (F0 m 143 ls [.int w0]) := by
    intro rec43 hrec43 y1 y2 y3 y4 y5 y6 y7 y8 y9 w0 u1 H locs ls hP hD hS hl hR
    unfold rr_X9_lent_143 at hR
    refine lv_istore (lv' := [(10, .int w0), (0, .ref (a1 0)), (1, .int y1), (2, .int y2), (3, .int y3), (4, .int y4), (5, .int y5), (6, .int y6), (7, .int y7), (8, .int y8), (9, .int y9)]) hx hb dX9_lent_143 hl (by decide) rfl (fun ls21 hl21 => ?_)
    refine lv_iload hx hb dX9_lent_145 (lv_at hl21 0 rfl) ?_
    refine lv_aload_n hx hb dX9_lent_147 rfl (lv_at hl21 1 rfl) ?_
    refine va_get (D := (dC, dI)) (ci := 9) (v := .ref (a1 45)) (C := RX9) (T := TX9) (N := 14) hx hb hts hin9 hown hK hP 0 rfl rfl 7 (by decide) (hts (.fieldLink RX9 40 "OldestCoins" "trial" "LOldestCoins$Board;") (List.mem_of_getElem? (i := 5) rfl)) (fun _ h9 => h9) rfl dX9_lent_148 ?_
    refine lv_aload_n hx hb dX9_lent_151 rfl (lv_at hl21 1 rfl) ?_
    refine va_get (D := (dC, dI)) (ci := 9) (v := .ref (a1 31)) (C := RX9) (T := TX9) (N := 14) hx hb hts hin9 hown hK hP 0 rfl rfl 3 (by decide) (hts (.fieldLink RX9 22 "OldestCoins" "ranks" "LOldestCoins$Ranks;") (List.mem_of_getElem? (i := 7) rfl)) (fun _ h9 => h9) rfl dX9_lent_152 ?_
    refine lv_iload hx hb dX9_lent_155 (lv_at hl21 5 rfl) ?_
    refine lv_iload hx hb dX9_lent_157 (lv_at hl21 6 rfl) ?_
    refine lv_iload hx hb dX9_lent_159 (lv_at hl21 7 rfl) ?_
    have hR0 := ob_ok hR
    clear hR
    obtain ⟨q22, hq22, hR⟩ := hR0
    refine va_calli (va_runV (As := [.ref (a1 31), .int y4, .int y5, .int y6]) (rest := [.int w0]) ⟨hx, hb, hml, hown, hts⟩ (cc_X1_meetsEvenly l dC dI fu (sh_ a1 45) (sh_ a1 31) (sh_ k1 45) (sh_ k1 31) H.size y4 y5 y6 u1.2.2.2.2.2.2.2.1 u1.2.2.2.1 q22 hq22) (cwV 4 hts gX9_lent_X1_meetsEvenly rfl rfl rfl (by decide +kernel) ⟨Nat.le_of_ble_eq_true rfl, Nat.le_of_ble_eq_true rfl⟩) (pf_v (hK.sub (tys' := zt_1 (sh_ k1 45) ++ zt_4 (sh_ k1 31)) [33, 22, 23, 24, 25, 26] rfl) (sub_P (sb_9__0c45_0c31 a1 k1 u1) hP) (sub_D (sb_9__0c45_0c31 a1 k1 u1) hD) 1 0 rfl rfl rfl) rfl rfl hl21.1 rfl (lv_room (Nat.le_of_ble_eq_true rfl)) dX9_lent_161 ⟨Nat.le_refl _, Nat.le_refl _⟩) hS (fun q _ h => (sub_F (sb_9__0c45_0c31 a1 k1 u1) hD hS hA) q h) (sub_F (sb_9__0c45_0c31 a1 k1 u1) hD hS hA) (fun r22 v22 t22 H22 locs22 ht22 hvm22 hw22 hB22 hz22 hk22 hS22 => ?_)
    obtain rfl : r22 = q22.1 := (congrArg Prod.fst hw22).symm
    obtain rfl : v22 = q22.2 := (congrArg Prod.snd hw22).symm
    obtain ⟨hP22, hD22⟩ := jn_sub (sb_9__0c45_0c31 a1 k1 u1) (jo_9__0c45_0c31__0 a1 k1 u1 q22.2) rfl hP hD hk22 ht22 hB22
    have hP22 : va_P (dC, dI) vwCl (zc_9 a1 k1 (u1.1, u1.2.1, u1.2.2.1, u1.2.2.2.1, u1.2.2.2.2.1, u1.2.2.2.2.2.1, u1.2.2.2.2.2.2.1, q22.2, u1.2.2.2.2.2.2.2.2)) H22 := hP22
    have hD22 : va_D A (zc_9 a1 k1 (u1.1, u1.2.1, u1.2.2.1, u1.2.2.2.1, u1.2.2.2.2.1, u1.2.2.2.2.2.1, u1.2.2.2.2.2.2.1, q22.2, u1.2.2.2.2.2.2.2.2)) := hD22
    clear hP hD hS hB22 hk22 hvm22 hz22 ht22
    refine lv_if_eq (tgt := 171) hx hb dX9_lent_164 (by decide) (fun c23 => ?_) (fun c23 => ?_)
    · replace hR := ifp_ hR c23
      refine lv_iconst (v := (0 : Int32)) hx hb dX9_lent_171 (by decide) ?_
      exact hB172 rec43 hrec43 y1 y2 y3 y4 y5 y6 y7 y8 y9 (0 : Int32) w0 (u1.1, u1.2.1, u1.2.2.1, u1.2.2.2.1, u1.2.2.2.2.1, u1.2.2.2.2.2.1, u1.2.2.2.2.2.2.1, q22.2, u1.2.2.2.2.2.2.2.2) H22 locs22 ls21 hP22 hD22 hS22 (lv_sub hl21 [1, 2, 3, 4, 5, 6, 7, 8, 9, 10] rfl) hR
    · replace hR := ifn_ hR c23
      refine lv_iconst (v := (1 : Int32)) hx hb dX9_lent_167 (by decide) ?_
      refine lv_goto (tgt := 172) hx hb dX9_lent_168 (by decide) ?_
      exact hB172 rec43 hrec43 y1 y2 y3 y4 y5 y6 y7 y8 y9 (1 : Int32) w0 (u1.1, u1.2.1, u1.2.2.1, u1.2.2.2.1, u1.2.2.2.2.1, u1.2.2.2.2.2.1, u1.2.2.2.2.2.2.1, q22.2, u1.2.2.2.2.2.2.2.2) H22 locs22 ls21 hP22 hD22 hS22 (lv_sub hl21 [1, 2, 3, 4, 5, 6, 7, 8, 9, 10] rfl) hR
  have hB121 : ∀ (rec43 : Int32 → Int32 → Int32 → Int32 → Int32 → Int32 → Int32 → Int32 → Int32 → ZT_9 → Option (Int32 × ZT_9)) (hrec43 : ∀ (y1 : Int32) (y2 : Int32) (y3 : Int32) (y4 : Int32) (y5 : Int32) (y6 : Int32) (y7 : Int32) (y8 : Int32) (y9 : Int32) (u1 : ZT_9) (H : Heap) (locs : List Loc) (ls : Array Slot), va_P (dC, dI) vwCl (zc_9 a1 k1 u1) H → va_D A (zc_9 a1 k1 u1) → va_S A s.heap H locs → lv_has ls 11 [(0, .ref (a1 0)), (1, .int y1), (2, .int y2), (3, .int y3), (4, .int y4), (5, .int y5), (6, .int y6), (7, .int y7), (8, .int y8), (9, .int y9)] → rec43 y1 y2 y3 y4 y5 y6 y7 y8 y9 u1 = some res → W p l e ({ frames := 6, cells := 0, slots := 0, locals := 143 } : Room) s m args below meth c H locs 0 0 Q (F0 m 43 ls [])), ∀ (y1 : Int32) (y2 : Int32) (y3 : Int32) (y4 : Int32) (y5 : Int32) (y6 : Int32) (y7 : Int32) (y8 : Int32) (y9 : Int32) (u1 : ZT_9) (H : Heap) (locs : List Loc) (ls : Array Slot), va_P (dC, dI) vwCl (zc_9 a1 k1 u1) H → va_D A (zc_9 a1 k1 u1) → va_S A s.heap H locs → lv_has ls 11 [(0, .ref (a1 0)), (1, .int y1), (2, .int y2), (3, .int y3), (4, .int y4), (5, .int y5), (6, .int y6), (7, .int y7), (8, .int y8), (9, .int y9)] → rr_X9_lent_121 fu rec43 y1 y2 y3 y4 y5 y6 y7 y8 y9 u1 = some res → W p l e ({ frames := 6, cells := 0, slots := 0, locals := 143 } : Room) s m args below meth c H locs 0 0 Q (F0 m 121 ls []) := by
    intro rec43 hrec43 y1 y2 y3 y4 y5 y6 y7 y8 y9 u1 H locs ls hP hD hS hl hR
    unfold rr_X9_lent_121 at hR
    refine lv_aload_n hx hb dX9_lent_121 rfl (lv_at hl 0 rfl) ?_
    refine va_get (D := (dC, dI)) (ci := 9) (v := .ref (a1 45)) (C := RX9) (T := TX9) (N := 14) hx hb hts hin9 hown hK hP 0 rfl rfl 7 (by decide) (hts (.fieldLink RX9 40 "OldestCoins" "trial" "LOldestCoins$Board;") (List.mem_of_getElem? (i := 5) rfl)) (fun _ h9 => h9) rfl dX9_lent_122 ?_
    refine lv_aload_n hx hb dX9_lent_125 rfl (lv_at hl 0 rfl) ?_
    refine va_get (D := (dC, dI)) (ci := 9) (v := .ref (a1 31)) (C := RX9) (T := TX9) (N := 14) hx hb hts hin9 hown hK hP 0 rfl rfl 3 (by decide) (hts (.fieldLink RX9 22 "OldestCoins" "ranks" "LOldestCoins$Ranks;") (List.mem_of_getElem? (i := 7) rfl)) (fun _ h9 => h9) rfl dX9_lent_126 ?_
    refine lv_iload_n hx hb dX9_lent_129 rfl (lv_at hl 1 rfl) ?_
    refine lv_iload_n hx hb dX9_lent_130 rfl (lv_at hl 2 rfl) ?_
    refine lv_iload_n hx hb dX9_lent_131 rfl (lv_at hl 3 rfl) ?_
    have hR0 := ob_ok hR
    clear hR
    obtain ⟨q19, hq19, hR⟩ := hR0
    refine va_calli (va_runV (As := [.ref (a1 31), .int y1, .int y2, .int y3]) (rest := []) ⟨hx, hb, hml, hown, hts⟩ (cc_X1_meetsEvenly l dC dI fu (sh_ a1 45) (sh_ a1 31) (sh_ k1 45) (sh_ k1 31) H.size y1 y2 y3 u1.2.2.2.2.2.2.2.1 u1.2.2.2.1 q19 hq19) (cwV 4 hts gX9_lent_X1_meetsEvenly rfl rfl rfl (by decide +kernel) ⟨Nat.le_of_ble_eq_true rfl, Nat.le_of_ble_eq_true rfl⟩) (pf_v (hK.sub (tys' := zt_1 (sh_ k1 45) ++ zt_4 (sh_ k1 31)) [33, 22, 23, 24, 25, 26] rfl) (sub_P (sb_9__0c45_0c31 a1 k1 u1) hP) (sub_D (sb_9__0c45_0c31 a1 k1 u1) hD) 1 0 rfl rfl rfl) rfl rfl hl.1 rfl (lv_room (Nat.le_of_ble_eq_true rfl)) dX9_lent_132 ⟨Nat.le_refl _, Nat.le_refl _⟩) hS (fun q _ h => (sub_F (sb_9__0c45_0c31 a1 k1 u1) hD hS hA) q h) (sub_F (sb_9__0c45_0c31 a1 k1 u1) hD hS hA) (fun r19 v19 t19 H19 locs19 ht19 hvm19 hw19 hB19 hz19 hk19 hS19 => ?_)
    obtain rfl : r19 = q19.1 := (congrArg Prod.fst hw19).symm
    obtain rfl : v19 = q19.2 := (congrArg Prod.snd hw19).symm
    obtain ⟨hP19, hD19⟩ := jn_sub (sb_9__0c45_0c31 a1 k1 u1) (jo_9__0c45_0c31__0 a1 k1 u1 q19.2) rfl hP hD hk19 ht19 hB19
    have hP19 : va_P (dC, dI) vwCl (zc_9 a1 k1 (u1.1, u1.2.1, u1.2.2.1, u1.2.2.2.1, u1.2.2.2.2.1, u1.2.2.2.2.2.1, u1.2.2.2.2.2.2.1, q19.2, u1.2.2.2.2.2.2.2.2)) H19 := hP19
    have hD19 : va_D A (zc_9 a1 k1 (u1.1, u1.2.1, u1.2.2.1, u1.2.2.2.1, u1.2.2.2.2.1, u1.2.2.2.2.2.1, u1.2.2.2.2.2.2.1, q19.2, u1.2.2.2.2.2.2.2.2)) := hD19
    clear hP hD hS hB19 hk19 hvm19 hz19 ht19
    refine lv_if_eq (tgt := 142) hx hb dX9_lent_135 (by decide) (fun c20 => ?_) (fun c20 => ?_)
    · replace hR := ifp_ hR c20
      refine lv_iconst (v := (0 : Int32)) hx hb dX9_lent_142 (by decide) ?_
      exact hB143 rec43 hrec43 y1 y2 y3 y4 y5 y6 y7 y8 y9 (0 : Int32) (u1.1, u1.2.1, u1.2.2.1, u1.2.2.2.1, u1.2.2.2.2.1, u1.2.2.2.2.2.1, u1.2.2.2.2.2.2.1, q19.2, u1.2.2.2.2.2.2.2.2) H19 locs19 ls hP19 hD19 hS19 (lv_sub hl [0, 1, 2, 3, 4, 5, 6, 7, 8, 9] rfl) hR
    · replace hR := ifn_ hR c20
      refine lv_iconst (v := (1 : Int32)) hx hb dX9_lent_138 (by decide) ?_
      refine lv_goto (tgt := 143) hx hb dX9_lent_139 (by decide) ?_
      exact hB143 rec43 hrec43 y1 y2 y3 y4 y5 y6 y7 y8 y9 (1 : Int32) (u1.1, u1.2.1, u1.2.2.1, u1.2.2.2.1, u1.2.2.2.2.1, u1.2.2.2.2.2.1, u1.2.2.2.2.2.2.1, q19.2, u1.2.2.2.2.2.2.2.2) H19 locs19 ls hP19 hD19 hS19 (lv_sub hl [0, 1, 2, 3, 4, 5, 6, 7, 8, 9] rfl) hR
  have hB84 : ∀ (rec43 : Int32 → Int32 → Int32 → Int32 → Int32 → Int32 → Int32 → Int32 → Int32 → ZT_9 → Option (Int32 × ZT_9)) (hrec43 : ∀ (y1 : Int32) (y2 : Int32) (y3 : Int32) (y4 : Int32) (y5 : Int32) (y6 : Int32) (y7 : Int32) (y8 : Int32) (y9 : Int32) (u1 : ZT_9) (H : Heap) (locs : List Loc) (ls : Array Slot), va_P (dC, dI) vwCl (zc_9 a1 k1 u1) H → va_D A (zc_9 a1 k1 u1) → va_S A s.heap H locs → lv_has ls 11 [(0, .ref (a1 0)), (1, .int y1), (2, .int y2), (3, .int y3), (4, .int y4), (5, .int y5), (6, .int y6), (7, .int y7), (8, .int y8), (9, .int y9)] → rec43 y1 y2 y3 y4 y5 y6 y7 y8 y9 u1 = some res → W p l e ({ frames := 6, cells := 0, slots := 0, locals := 143 } : Room) s m args below meth c H locs 0 0 Q (F0 m 43 ls [])), ∀ (y1 : Int32) (y2 : Int32) (y3 : Int32) (y4 : Int32) (y5 : Int32) (y6 : Int32) (y7 : Int32) (y8 : Int32) (y9 : Int32) (u1 : ZT_9) (H : Heap) (locs : List Loc) (ls : Array Slot), va_P (dC, dI) vwCl (zc_9 a1 k1 u1) H → va_D A (zc_9 a1 k1 u1) → va_S A s.heap H locs → lv_has ls 11 [(0, .ref (a1 0)), (1, .int y1), (2, .int y2), (3, .int y3), (4, .int y4), (5, .int y5), (6, .int y6), (7, .int y7), (8, .int y8), (9, .int y9)] → rr_X9_lent_84 fu rec43 y1 y2 y3 y4 y5 y6 y7 y8 y9 u1 = some res → W p l e ({ frames := 6, cells := 0, slots := 0, locals := 143 } : Room) s m args below meth c H locs 0 0 Q (F0 m 84 ls []) := by
    intro rec43 hrec43 y1 y2 y3 y4 y5 y6 y7 y8 y9 u1 H locs ls hP hD hS hl hR
    unfold rr_X9_lent_84 at hR
    refine lv_aload_n hx hb dX9_lent_84 rfl (lv_at hl 0 rfl) ?_
    refine va_get (D := (dC, dI)) (ci := 9) (v := .ref (a1 45)) (C := RX9) (T := TX9) (N := 14) hx hb hts hin9 hown hK hP 0 rfl rfl 7 (by decide) (hts (.fieldLink RX9 40 "OldestCoins" "trial" "LOldestCoins$Board;") (List.mem_of_getElem? (i := 5) rfl)) (fun _ h9 => h9) rfl dX9_lent_85 ?_
    refine lv_aload_n hx hb dX9_lent_88 rfl (lv_at hl 0 rfl) ?_
    refine va_get (D := (dC, dI)) (ci := 9) (v := .ref (a1 43)) (C := RX9) (T := TX9) (N := 14) hx hb hts hin9 hown hK hP 0 rfl rfl 6 (by decide) (hts (.fieldLink RX9 36 "OldestCoins" "board" "LOldestCoins$Board;") (List.mem_of_getElem? (i := 6) rfl)) (fun _ h9 => h9) rfl dX9_lent_89 ?_
    have hR0 := ob_ok hR
    clear hR
    obtain ⟨q14, hq14, hR⟩ := hR0
    refine va_callv (va_runV (As := [.ref (a1 43)]) (rest := []) ⟨hx, hb, hml, hown, hts⟩ (cc_X1_copyFrom l dC dI fu (sh_ a1 45) (sh_ a1 43) (sh_ k1 45) (sh_ k1 43) H.size u1.2.2.2.2.2.2.2.1 u1.2.2.2.2.2.2.1 q14 hq14) (cwV 1 hts gX9_lent_X1_copyFrom rfl rfl rfl (by decide +kernel) ⟨Nat.le_of_ble_eq_true rfl, Nat.le_of_ble_eq_true rfl⟩) (pf_v (hK.sub (tys' := zt_1 (sh_ k1 45) ++ zt_1 (sh_ k1 43)) [33, 32] rfl) (sub_P (sb_9__0c45_0c43 a1 k1 u1) hP) (sub_D (sb_9__0c45_0c43 a1 k1 u1) hD) 1 0 rfl rfl rfl) rfl rfl hl.1 rfl (lv_room (Nat.le_of_ble_eq_true rfl)) dX9_lent_92 ⟨Nat.le_refl _, Nat.le_refl _⟩) hS (fun q _ h => (sub_F (sb_9__0c45_0c43 a1 k1 u1) hD hS hA) q h) (sub_F (sb_9__0c45_0c43 a1 k1 u1) hD hS hA) (fun v14 t14 H14 locs14 ht14 hvm14 hw14 hB14 hz14 hk14 hS14 => ?_)
    subst hw14
    obtain ⟨hP14, hD14⟩ := jn_sub (sb_9__0c45_0c43 a1 k1 u1) (jo_9__0c45_0c43__0 a1 k1 u1 q14) rfl hP hD hk14 ht14 hB14
    have hP14 : va_P (dC, dI) vwCl (zc_9 a1 k1 (u1.1, u1.2.1, u1.2.2.1, u1.2.2.2.1, u1.2.2.2.2.1, u1.2.2.2.2.2.1, u1.2.2.2.2.2.2.1, q14, u1.2.2.2.2.2.2.2.2)) H14 := hP14
    have hD14 : va_D A (zc_9 a1 k1 (u1.1, u1.2.1, u1.2.2.1, u1.2.2.2.1, u1.2.2.2.2.1, u1.2.2.2.2.2.1, u1.2.2.2.2.2.2.1, q14, u1.2.2.2.2.2.2.2.2)) := hD14
    clear hP hD hS hB14 hk14 hvm14 hz14 ht14
    refine lv_iload hx hb dX9_lent_95 (lv_at hl 9 rfl) ?_
    refine lv_iconst (v := (-1 : Int32)) hx hb dX9_lent_97 (by decide) ?_
    refine lv_icmp_eq (tgt := 121) hx hb dX9_lent_98 (by decide) (fun c15 => ?_) (fun c15 => ?_)
    · replace hR := ifp_ hR c15
      exact hB121 rec43 hrec43 y1 y2 y3 y4 y5 y6 y7 y8 y9 (u1.1, u1.2.1, u1.2.2.1, u1.2.2.2.1, u1.2.2.2.2.1, u1.2.2.2.2.2.1, u1.2.2.2.2.2.2.1, q14, u1.2.2.2.2.2.2.2.2) H14 locs14 ls hP14 hD14 hS14 (lv_sub hl [0, 1, 2, 3, 4, 5, 6, 7, 8, 9] rfl) hR
    · replace hR := ifn_ hR c15
      refine lv_aload_n hx hb dX9_lent_101 rfl (lv_at hl 0 rfl) ?_
      refine va_get (D := (dC, dI)) (ci := 9) (v := .ref (a1 45)) (C := RX9) (T := TX9) (N := 14) hx hb hts hin9 hown hK hP14 0 rfl rfl 7 (by decide) (hts (.fieldLink RX9 40 "OldestCoins" "trial" "LOldestCoins$Board;") (List.mem_of_getElem? (i := 5) rfl)) (fun _ h9 => h9) rfl dX9_lent_102 ?_
      refine lv_aload_n hx hb dX9_lent_105 rfl (lv_at hl 0 rfl) ?_
      refine va_get (D := (dC, dI)) (ci := 9) (v := .ref (a1 31)) (C := RX9) (T := TX9) (N := 14) hx hb hts hin9 hown hK hP14 0 rfl rfl 3 (by decide) (hts (.fieldLink RX9 22 "OldestCoins" "ranks" "LOldestCoins$Ranks;") (List.mem_of_getElem? (i := 7) rfl)) (fun _ h9 => h9) rfl dX9_lent_106 ?_
      refine va_get (D := (dC, dI)) (ci := 4) (v := .ref (a1 34)) (C := RX4) (T := TX4) (N := 6) hx hb hts hin4 hown hK hP14 31 rfl rfl 3 (by decide) (hts (.fieldLink RX9 258 "OldestCoins$Ranks" "rankOf" "[I") (List.mem_of_getElem? (i := 8) rfl)) (fun _ h9 => h9) rfl dX9_lent_109 ?_
      refine lv_iload hx hb dX9_lent_112 (lv_at hl 9 rfl) ?_
      have i16 := (ck_ok hR).1
      replace hR := (ck_ok hR).2
      refine va_iald (f := u1.2.2.2.1.2.2.2.1) hx hb hK hP14 34 24 rfl rfl i16 dX9_lent_114 ?_
      refine lv_iload_n hx hb dX9_lent_115 rfl (lv_at hl 1 rfl) ?_
      refine lv_iload hx hb dX9_lent_116 (lv_at hl 4 rfl) ?_
      have hR0 := ob_ok hR
      clear hR
      obtain ⟨q17, hq17, hR⟩ := hR0
      refine va_callv (va_runV (As := [.int (u1.2.2.2.1.2.2.2.1 y9.toNatClampNeg), .int y1, .int y4]) (rest := []) ⟨hx, hb, hml, hown, hts⟩ (cc_X1_move l dC dI fu (sh_ a1 45) (sh_ k1 45) H14.size (u1.2.2.2.1.2.2.2.1 y9.toNatClampNeg) y1 y4 q14 q17 hq17) (cwV 3 hts gX9_lent_X1_move rfl rfl rfl (by decide +kernel) ⟨Nat.le_of_ble_eq_true rfl, Nat.le_of_ble_eq_true rfl⟩) (pf_v (hK.sub (tys' := zt_1 (sh_ k1 45)) [33] rfl) (sub_P (sb_9__0c45 a1 k1 (u1.1, u1.2.1, u1.2.2.1, u1.2.2.2.1, u1.2.2.2.2.1, u1.2.2.2.2.2.1, u1.2.2.2.2.2.2.1, q14, u1.2.2.2.2.2.2.2.2)) hP14) (sub_D (sb_9__0c45 a1 k1 (u1.1, u1.2.1, u1.2.2.1, u1.2.2.2.1, u1.2.2.2.2.1, u1.2.2.2.2.2.1, u1.2.2.2.2.2.2.1, q14, u1.2.2.2.2.2.2.2.2)) hD14) 1 0 rfl rfl rfl) rfl rfl hl.1 rfl (lv_room (Nat.le_of_ble_eq_true rfl)) dX9_lent_118 ⟨Nat.le_refl _, Nat.le_refl _⟩) hS14 (fun q _ h => (sub_F (sb_9__0c45 a1 k1 (u1.1, u1.2.1, u1.2.2.1, u1.2.2.2.1, u1.2.2.2.2.1, u1.2.2.2.2.2.1, u1.2.2.2.2.2.2.1, q14, u1.2.2.2.2.2.2.2.2)) hD14 hS14 hA) q h) (sub_F (sb_9__0c45 a1 k1 (u1.1, u1.2.1, u1.2.2.1, u1.2.2.2.1, u1.2.2.2.2.1, u1.2.2.2.2.2.1, u1.2.2.2.2.2.2.1, q14, u1.2.2.2.2.2.2.2.2)) hD14 hS14 hA) (fun v17 t17 H17 locs17 ht17 hvm17 hw17 hB17 hz17 hk17 hS17 => ?_)
      subst hw17
      obtain ⟨hP17, hD17⟩ := jn_sub (sb_9__0c45 a1 k1 (u1.1, u1.2.1, u1.2.2.1, u1.2.2.2.1, u1.2.2.2.2.1, u1.2.2.2.2.2.1, u1.2.2.2.2.2.2.1, q14, u1.2.2.2.2.2.2.2.2)) (jo_9__0c45__0 a1 k1 (u1.1, u1.2.1, u1.2.2.1, u1.2.2.2.1, u1.2.2.2.2.1, u1.2.2.2.2.2.1, u1.2.2.2.2.2.2.1, q14, u1.2.2.2.2.2.2.2.2) q17) rfl hP14 hD14 hk17 ht17 hB17
      have hP17 : va_P (dC, dI) vwCl (zc_9 a1 k1 (u1.1, u1.2.1, u1.2.2.1, u1.2.2.2.1, u1.2.2.2.2.1, u1.2.2.2.2.2.1, u1.2.2.2.2.2.2.1, q17, u1.2.2.2.2.2.2.2.2)) H17 := hP17
      have hD17 : va_D A (zc_9 a1 k1 (u1.1, u1.2.1, u1.2.2.1, u1.2.2.2.1, u1.2.2.2.2.1, u1.2.2.2.2.2.1, u1.2.2.2.2.2.2.1, q17, u1.2.2.2.2.2.2.2.2)) := hD17
      clear hP14 hD14 hS14 hB17 hk17 hvm17 hz17 ht17
      exact hB121 rec43 hrec43 y1 y2 y3 y4 y5 y6 y7 y8 y9 (u1.1, u1.2.1, u1.2.2.1, u1.2.2.2.1, u1.2.2.2.2.1, u1.2.2.2.2.2.1, u1.2.2.2.2.2.2.1, q17, u1.2.2.2.2.2.2.2.2) H17 locs17 ls hP17 hD17 hS17 (lv_sub hl [0, 1, 2, 3, 4, 5, 6, 7, 8, 9] rfl) hR
  have hB43 : ∀ (n : Nat), ∀ (y1 : Int32) (y2 : Int32) (y3 : Int32) (y4 : Int32) (y5 : Int32) (y6 : Int32) (y7 : Int32) (y8 : Int32) (y9 : Int32) (u1 : ZT_9) (H : Heap) (locs : List Loc) (ls : Array Slot), va_P (dC, dI) vwCl (zc_9 a1 k1 u1) H → va_D A (zc_9 a1 k1 u1) → va_S A s.heap H locs → lv_has ls 11 [(0, .ref (a1 0)), (1, .int y1), (2, .int y2), (3, .int y3), (4, .int y4), (5, .int y5), (6, .int y6), (7, .int y7), (8, .int y8), (9, .int y9)] → rr_X9_lent_43 fu n y1 y2 y3 y4 y5 y6 y7 y8 y9 u1 = some res → W p l e ({ frames := 6, cells := 0, slots := 0, locals := 143 } : Room) s m args below meth c H locs 0 0 Q (F0 m 43 ls []) := by
    intro  n
    induction n with
    | zero => intro y1 y2 y3 y4 y5 y6 y7 y8 y9 u1 H locs ls hP hD hS hl hR; exact absurd hR (by intro h; cases h)
    | succ n ih =>
      intro y1 y2 y3 y4 y5 y6 y7 y8 y9 u1 H locs ls hP hD hS hl hR
      replace hR : rr_X9_lent_43_b fu (rr_X9_lent_43 fu n) y1 y2 y3 y4 y5 y6 y7 y8 y9 u1 = some res := hR
      unfold rr_X9_lent_43_b at hR
      refine lv_iload hx hb dX9_lent_43 (lv_at hl 9 rfl) ?_
      refine lv_aload_n hx hb dX9_lent_45 rfl (lv_at hl 0 rfl) ?_
      refine va_get (D := (dC, dI)) (ci := 9) (v := .ref (a1 1)) (C := RX9) (T := TX9) (N := 14) hx hb hts hin9 hown hK hP 0 rfl rfl 0 (by decide) (hts (.fieldLink RX9 10 "OldestCoins" "town" "LOldestCoins$Town;") (List.mem_of_getElem? (i := 1) rfl)) (fun _ h9 => h9) rfl dX9_lent_46 ?_
      refine va_get (D := (dC, dI)) (ci := 8) (v := .ref (a1 2)) (C := RX8) (T := TX8) (N := 4) hx hb hts hin8 hown hK hP 1 rfl rfl 1 (by decide) (hts (.fieldLink RX9 98 "OldestCoins$Town" "coins" "LOldestCoins$Coins;") (List.mem_of_getElem? (i := 2) rfl)) (fun _ h9 => h9) rfl dX9_lent_49 ?_
      refine va_get (D := (dC, dI)) (ci := 2) (v := .int u1.1.2.1.1) (C := RX2) (T := TX2) (N := 6) hx hb hts hin2 hown hK hP 2 rfl rfl 0 (by decide) (hts (.fieldLink RX9 101 "OldestCoins$Coins" "size" "I") (List.mem_of_getElem? (i := 3) rfl)) (fun _ h9 => h9) rfl dX9_lent_52 ?_
      refine lv_icmp_ge (tgt := 207) hx hb dX9_lent_55 (by decide) (fun c10 => ?_) (fun c10 => ?_)
      · replace hR := ifp_ hR c10
        refine lv_iload hx hb dX9_lent_207 (lv_at hl 7 rfl) ?_
        subst hQe
        exact W.iret (v := y7) hx hb hr (fun t ht hW => ⟨⟨y7, u1, rfl, (Option.some.inj hR).symm, by rw [ht]; exact hP, va_K.moved hW.alike hK, hD⟩, hS.F ht⟩) hS.2.2 dX9_lent_209
      · replace hR := ifn_ hR c10
        refine lv_iload hx hb dX9_lent_58 (lv_at hl 9 rfl) ?_
        refine lv_iconst (v := (-1 : Int32)) hx hb dX9_lent_60 (by decide) ?_
        refine lv_icmp_eq (tgt := 84) hx hb dX9_lent_61 (by decide) (fun c11 => ?_) (fun c11 => ?_)
        · replace hR := ifp_ hR c11
          exact hB84 (rr_X9_lent_43 fu n) ih y1 y2 y3 y4 y5 y6 y7 y8 y9 u1 H locs ls hP hD hS (lv_sub hl [0, 1, 2, 3, 4, 5, 6, 7, 8, 9] rfl) hR
        · replace hR := ifn_ hR c11
          refine lv_aload_n hx hb dX9_lent_64 rfl (lv_at hl 0 rfl) ?_
          refine va_get (D := (dC, dI)) (ci := 9) (v := .ref (a1 1)) (C := RX9) (T := TX9) (N := 14) hx hb hts hin9 hown hK hP 0 rfl rfl 0 (by decide) (hts (.fieldLink RX9 10 "OldestCoins" "town" "LOldestCoins$Town;") (List.mem_of_getElem? (i := 1) rfl)) (fun _ h9 => h9) rfl dX9_lent_65 ?_
          refine va_get (D := (dC, dI)) (ci := 8) (v := .ref (a1 2)) (C := RX8) (T := TX8) (N := 4) hx hb hts hin8 hown hK hP 1 rfl rfl 1 (by decide) (hts (.fieldLink RX9 98 "OldestCoins$Town" "coins" "LOldestCoins$Coins;") (List.mem_of_getElem? (i := 2) rfl)) (fun _ h9 => h9) rfl dX9_lent_68 ?_
          refine va_get (D := (dC, dI)) (ci := 2) (v := .ref (a1 3)) (C := RX2) (T := TX2) (N := 6) hx hb hts hin2 hown hK hP 2 rfl rfl 1 (by decide) (hts (.fieldLink RX9 125 "OldestCoins$Coins" "holder" "[I") (List.mem_of_getElem? (i := 4) rfl)) (fun _ h9 => h9) rfl dX9_lent_71 ?_
          refine lv_iload hx hb dX9_lent_74 (lv_at hl 9 rfl) ?_
          have i12 := (ck_ok hR).1
          replace hR := (ck_ok hR).2
          refine va_iald (f := u1.1.2.1.2.1) hx hb hK hP 3 0 rfl rfl i12 dX9_lent_76 ?_
          refine lv_iload_n hx hb dX9_lent_77 rfl (lv_at hl 1 rfl) ?_
          refine lv_icmp_eq (tgt := 84) hx hb dX9_lent_78 (by decide) (fun c13 => ?_) (fun c13 => ?_)
          · replace hR := ifp_ hR c13
            exact hB84 (rr_X9_lent_43 fu n) ih y1 y2 y3 y4 y5 y6 y7 y8 y9 u1 H locs ls hP hD hS (lv_sub hl [0, 1, 2, 3, 4, 5, 6, 7, 8, 9] rfl) hR
          · replace hR := ifn_ hR c13
            refine lv_goto (tgt := 201) hx hb dX9_lent_81 (by decide) ?_
            exact hB201 (rr_X9_lent_43 fu n) ih y1 y2 y3 y4 y5 y6 y7 y8 y9 u1 H locs ls hP hD hS (lv_sub hl [0, 1, 2, 3, 4, 5, 6, 7, 8, 9] rfl) hR
  unfold rr_X9_lent at hR
  refine lv_iload_n hx hb dX9_lent_0 rfl (lv_at hl 1 rfl) ?_
  refine lv_iload_n hx hb dX9_lent_1 rfl (lv_at hl 2 rfl) ?_
  refine lv_iload_n hx hb dX9_lent_2 rfl (lv_at hl 3 rfl) ?_
  have hR0 := ob_ok hR
  clear hR
  obtain ⟨q1, hq1, hR⟩ := hR0
  refine va_calli (va_runS (As := [.int x1, .int x2, .int x3]) (rest := []) ⟨hx, hb, hml, hown, hts⟩ (cc_X9_isBill l dC dI fu s.heap.size x1 x2 x3 q1 hq1) (va_cwS 3 hts gX9_lent_X9_isBill rfl rfl rfl (by decide +kernel) ⟨Nat.le_of_ble_eq_true rfl, Nat.le_of_ble_eq_true rfl⟩) (pf_s (nil_K hK) nil_P (nil_D (A := A))) rfl rfl hl.1 rfl (lv_room (Nat.le_of_ble_eq_true rfl)) dX9_lent_3 ⟨Nat.le_refl _, Nat.le_refl _⟩) hS (fun q _ h => (fr_none hS hA) q h) (fr_none hS hA) (fun r1 v1 t1 H1 locs1 ht1 hvm1 hw1 hB1 hz1 hk1 hS1 => ?_)
  subst hw1
  have hP1 := jn_none hP hk1
  have hD1 := hD
  have hP1 : va_P (dC, dI) vwCl (zc_9 a1 k1 s1) H1 := hP1
  have hD1 : va_D A (zc_9 a1 k1 s1) := hD1
  clear hP hD hS hB1 hk1 hvm1 hz1 ht1
  refine lv_if_eq (tgt := 27) hx hb dX9_lent_6 (by decide) (fun c2 => ?_) (fun c2 => ?_)
  · replace hR := ifp_ hR c2
    refine lv_iconst (v := (-1 : Int32)) hx hb dX9_lent_27 (by decide) ?_
    subst hQe
    exact W.iret (v := (-1 : Int32)) hx hb hr (fun t ht hW => ⟨⟨(-1 : Int32), s1, rfl, (Option.some.inj hR).symm, by rw [ht]; exact hP1, va_K.moved hW.alike hK, hD1⟩, hS1.F ht⟩) hS1.2.2 dX9_lent_28
  · replace hR := ifn_ hR c2
    refine lv_iload hx hb dX9_lent_9 (lv_at hl 4 rfl) ?_
    refine lv_iload hx hb dX9_lent_11 (lv_at hl 5 rfl) ?_
    refine lv_iload hx hb dX9_lent_13 (lv_at hl 6 rfl) ?_
    have hR0 := ob_ok hR
    clear hR
    obtain ⟨q3, hq3, hR⟩ := hR0
    refine va_calli (va_runS (As := [.int x4, .int x5, .int x6]) (rest := []) ⟨hx, hb, hml, hown, hts⟩ (cc_X9_isBill l dC dI fu H1.size x4 x5 x6 q3 hq3) (va_cwS 3 hts gX9_lent_X9_isBill rfl rfl rfl (by decide +kernel) ⟨Nat.le_of_ble_eq_true rfl, Nat.le_of_ble_eq_true rfl⟩) (pf_s (nil_K hK) nil_P (nil_D (A := A))) rfl rfl hl.1 rfl (lv_room (Nat.le_of_ble_eq_true rfl)) dX9_lent_15 ⟨Nat.le_refl _, Nat.le_refl _⟩) hS1 (fun q _ h => (fr_none hS1 hA) q h) (fr_none hS1 hA) (fun r3 v3 t3 H3 locs3 ht3 hvm3 hw3 hB3 hz3 hk3 hS3 => ?_)
    subst hw3
    have hP3 := jn_none hP1 hk3
    have hD3 := hD1
    have hP3 : va_P (dC, dI) vwCl (zc_9 a1 k1 s1) H3 := hP3
    have hD3 : va_D A (zc_9 a1 k1 s1) := hD3
    clear hP1 hD1 hS1 hB3 hk3 hvm3 hz3 ht3
    refine lv_if_eq (tgt := 27) hx hb dX9_lent_18 (by decide) (fun c4 => ?_) (fun c4 => ?_)
    · replace hR := ifp_ hR c4
      refine lv_iconst (v := (-1 : Int32)) hx hb dX9_lent_27 (by decide) ?_
      subst hQe
      exact W.iret (v := (-1 : Int32)) hx hb hr (fun t ht hW => ⟨⟨(-1 : Int32), s1, rfl, (Option.some.inj hR).symm, by rw [ht]; exact hP3, va_K.moved hW.alike hK, hD3⟩, hS3.F ht⟩) hS3.2.2 dX9_lent_28
    · replace hR := ifn_ hR c4
      refine lv_iload_n hx hb dX9_lent_21 rfl (lv_at hl 1 rfl) ?_
      refine lv_iload hx hb dX9_lent_22 (lv_at hl 4 rfl) ?_
      refine lv_icmp_ne (tgt := 29) hx hb dX9_lent_24 (by decide) (fun c5 => ?_) (fun c5 => ?_)
      · replace hR := ifn_ hR c5
        refine lv_aload_n hx hb dX9_lent_29 rfl (lv_at hl 0 rfl) ?_
        have hR0 := ob_ok hR
        clear hR
        obtain ⟨q6, hq6, hR⟩ := hR0
        refine va_callv (va_runV (As := []) (rest := []) ⟨hx, hb, hml, hown, hts⟩ (cc_X9_layOut l dC dI fu a1 k1 H3.size s1 q6 hq6) (cwV 0 hts gX9_lent_X9_layOut rfl rfl rfl (by decide +kernel) ⟨Nat.le_of_ble_eq_true rfl, Nat.le_of_ble_eq_true rfl⟩) (pf_v hK hP3 hD3 9 0 rfl rfl rfl) rfl rfl hl.1 rfl (lv_room (Nat.le_of_ble_eq_true rfl)) dX9_lent_30 ⟨Nat.le_refl _, Nat.le_refl _⟩) hS3 (fun q _ h => (fr_all hD3 hS3 hA) q h) (fr_all hD3 hS3 hA) (fun v6 t6 H6 locs6 ht6 hvm6 hw6 hB6 hz6 hk6 hS6 => ?_)
        subst hw6
        obtain ⟨hP6, hD6⟩ := jn_all hD3 hS3 hA ht6 hB6
        have hP6 : va_P (dC, dI) vwCl (zc_9 a1 k1 q6) H6 := hP6
        have hD6 : va_D A (zc_9 a1 k1 q6) := hD6
        clear hP3 hD3 hS3 hB6 hk6 hvm6 hz6 ht6
        refine lv_bipush (v := (-4 : Int32)) hx hb dX9_lent_33 (by decide) ?_
        refine lv_istore (lv' := [(7, .int (-4 : Int32)), (0, .ref (a1 0)), (1, .int x1), (2, .int x2), (3, .int x3), (4, .int x4), (5, .int x5), (6, .int x6)]) hx hb dX9_lent_35 hl (by decide) rfl (fun ls7 hl7 => ?_)
        refine lv_iconst (v := (0 : Int32)) hx hb dX9_lent_37 (by decide) ?_
        refine lv_istore (lv' := [(8, .int (0 : Int32)), (7, .int (-4 : Int32)), (0, .ref (a1 0)), (1, .int x1), (2, .int x2), (3, .int x3), (4, .int x4), (5, .int x5), (6, .int x6)]) hx hb dX9_lent_38 hl7 (by decide) rfl (fun ls8 hl8 => ?_)
        refine lv_iconst (v := (-1 : Int32)) hx hb dX9_lent_40 (by decide) ?_
        refine lv_istore (lv' := [(9, .int (-1 : Int32)), (8, .int (0 : Int32)), (7, .int (-4 : Int32)), (0, .ref (a1 0)), (1, .int x1), (2, .int x2), (3, .int x3), (4, .int x4), (5, .int x5), (6, .int x6)]) hx hb dX9_lent_41 hl8 (by decide) rfl (fun ls9 hl9 => ?_)
        exact hB43 fu x1 x2 x3 x4 x5 x6 (-4 : Int32) (0 : Int32) (-1 : Int32) q6 H6 locs6 ls9 hP6 hD6 hS6 (lv_sub hl9 [3, 4, 5, 6, 7, 8, 9, 2, 1, 0] rfl) hR
      · replace hR := ifp_ hR c5
        refine lv_iconst (v := (-1 : Int32)) hx hb dX9_lent_27 (by decide) ?_
        subst hQe
        exact W.iret (v := (-1 : Int32)) hx hb hr (fun t ht hW => ⟨⟨(-1 : Int32), s1, rfl, (Option.some.inj hR).symm, by rw [ht]; exact hP3, va_K.moved hW.alike hK, hD3⟩, hS3.F ht⟩) hS3.2.2 dX9_lent_28
