def rr_X10_doBill_75 (fu : Nat) (rec15 : Int32 → Int32 → Int32 → ZT_10 → Option (Int32 × ZT_10)) (y1 : Int32) (y2 : Int32) (y4 : Int32) (w0 : Int32) (w1 : Int32) (u1 : ZT_10) : Option (Int32 × ZT_10) := ck_ w1 40 (lt_ (α := Int32) (y4 + (1 : Int32)) (fun z11 => rec15 y1 y2 z11 ((u1.1.1, u1.1.2.1, u1.1.2.2.1, u1.1.2.2.2.1, (upd u1.1.2.2.2.2.1 w1.toNatClampNeg w0), u1.1.2.2.2.2.2), u1.2)))
def rr_X10_doBill_15_b (fu : Nat) (rec15 : Int32 → Int32 → Int32 → ZT_10 → Option (Int32 × ZT_10)) (y1 : Int32) (y2 : Int32) (y4 : Int32) (u1 : ZT_10) : Option (Int32 × ZT_10) := (if u1.1.2.2.2.2.2.1 ≤ y4 then some ((1 : Int32), u1) else (rr_X10_bit fu y4).bind (fun q5 => (if (lg_cmp (u1.2.2.2.2.2.1.1 &&& q5) (0 : Int64)) = (0 : Int32) then (rr_X10_bit fu y4).bind (fun q7 => (if (lg_cmp (u1.2.2.2.2.2.1.2.1 &&& q7) (0 : Int64)) = (0 : Int32) then ck_ y4 40 (rr_X10_doBill_75 fu rec15 y1 y2 y4 (u1.1.2.2.2.2.1 y4.toNatClampNeg) y4 u1) else rr_X10_doBill_75 fu rec15 y1 y2 y4 y1 y4 u1)) else rr_X10_doBill_75 fu rec15 y1 y2 y4 y2 y4 u1)))
def rr_X10_doBill_15 (fu : Nat) (n : Nat) : Int32 → Int32 → Int32 → ZT_10 → Option (Int32 × ZT_10) := lp_ (fun _ _ _ _ => none) (rr_X10_doBill_15_b fu) n
def rr_X10_doBill (fu : Nat) (x1 : Int32) (x2 : Int32) (x3 : Int32) (s1 : ZT_10) : Option (Int32 × ZT_10) := (rr_X10_findBill fu x1 x2 x3 s1).bind (fun q1 => (if q1.1 = (0 : Int32) then some ((0 : Int32), q1.2) else rr_X10_doBill_15 fu fu x1 x2 (0 : Int32) q1.2))
set_option maxHeartbeats 4000000 in
set_option maxRecDepth 100000 in
theorem cc_X10_doBill (l : Launch) (dC : Nat → ClassId) (dI : Nat → Nat → Nat) (fu : Nat) (a1 : Nat → Nat) (k1 : Nat → ClassId) (sz : Nat) (x1 : Int32) (x2 : Int32) (x3 : Int32) (s1 : ZT_10) (res : Int32 × ZT_10) (hR : rr_X10_doBill fu x1 x2 x3 s1 = some res) : Met l yX10_doBill wsX10_doBill ({ frames := 5, cells := 0, slots := 0, locals := 115 } : Room) (PcF [.ref (a1 0), .int x1, .int x2, .int x3] sz (dC, dI) (zc_10 a1 k1 s1) (zt_10 k1)) (va_Qi (fun (r : Int32) (u : ZT_10) => res = (r, u)) (fun u t => at3_ (dC, dI) (zc_10 a1 k1 u) (zt_10 k1) (va_A (zc_10 a1 k1 s1) sz) t) (va_A (zc_10 a1 k1 s1) sz)) 0 0 (va_A (zc_10 a1 k1 s1) sz) := by
  refine Met.ofW (cc := cX10_doBill) (maxL := 5) (ret := (some .boolean)) (by decide) rfl ?_
  intro p e s m args below meth c s₁ B hml hv
  obtain ⟨hav, hsz, hP, hK, hD0⟩ := hv
  have hx := B.exec
  have hb := B.bytes
  have hr := B.returns
  have hts := atoms_spec (ws := wsX10_doBill) B.pre
  have hown : s.vm.findClass RX10 = some m.cls := findClass_of_methodNamed B.named
  have hlocks := B.notSynchronized
  have hin10 : ∀ w ∈ wsX100, w ∈ wsX10_doBill := fun w h => List.mem_cons_of_mem _ (List.mem_append_right _ h)
  subst hsz
  have hD := hD0.self (sz := s.heap.size)
  clear hD0
  generalize hAe : va_A (zc_10 a1 k1 s1) s.heap.size = A at hD ⊢
  have hA : ∀ q : Nat, s.heap.size ≤ q → A q := fun q h => by rw [← hAe]; exact Or.inr h
  have hS : va_S A s.heap s.heap [] := va_S.rf
  generalize hQe : MQ below _ args s 0 0 A = Q
  rw [show entryFrame m args 5 = F0 m 0 ((lg_sl ([.ref (a1 0), .int x1, .int x2, .int x3]) ++ List.replicate (5 - (lg_sl ([.ref (a1 0), .int x1, .int x2, .int x3])).length) Slot.unset).toArray) [] from by rw [hav]; exact lg_entry_eq m _ _]
  have hl := lv_entry ([.ref (a1 0), .int x1, .int x2, .int x3]) (n := 5) (Nat.le_of_ble_eq_true rfl)
  generalize (lg_sl ([.ref (a1 0), .int x1, .int x2, .int x3]) ++ List.replicate (5 - (lg_sl ([.ref (a1 0), .int x1, .int x2, .int x3])).length) Slot.unset).toArray = ls at hl ⊢
  have hl : lv_has ls 5 [(0, .ref (a1 0)), (1, .int x1), (2, .int x2), (3, .int x3)] := hl
  have hB75 : ∀ (rec15 : Int32 → Int32 → Int32 → ZT_10 → Option (Int32 × ZT_10)) (hrec15 : ∀ (y1 : Int32) (y2 : Int32) (y4 : Int32) (u1 : ZT_10) (H : Heap) (locs : List Loc) (ls : Array Slot), va_P (dC, dI) vwCl (zc_10 a1 k1 u1) H → va_D A (zc_10 a1 k1 u1) → va_S A s.heap H locs → lv_has ls 5 [(0, .ref (a1 0)), (1, .int y1), (2, .int y2), (4, .int y4)] → rec15 y1 y2 y4 u1 = some res → W p l e ({ frames := 5, cells := 0, slots := 0, locals := 115 } : Room) s m args below meth c H locs 0 0 Q (F0 m 15 ls [])), ∀ (y1 : Int32) (y2 : Int32) (y4 : Int32) (w0 : Int32) (w1 : Int32) (u1 : ZT_10) (H : Heap) (locs : List Loc) (ls : Array Slot), va_P (dC, dI) vwCl (zc_10 a1 k1 u1) H → va_D A (zc_10 a1 k1 u1) → va_S A s.heap H locs → lv_has ls 5 [(0, .ref (a1 0)), (1, .int y1), (2, .int y2), (4, .int y4)] → rr_X10_doBill_75 fu rec15 y1 y2 y4 w0 w1 u1 = some res → W p l e ({ frames := 5, cells := 0, slots := 0, locals := 115 } : Room) s m args below meth c H locs 0 0 Q (F0 m 75 ls [.int w0, .int w1, .ref (a1 5)]) := by
    intro rec15 hrec15 y1 y2 y4 w0 w1 u1 H locs ls hP hD hS hl hR
    unfold rr_X10_doBill_75 at hR
    have i10 := (ck_ok hR).1
    replace hR := (ck_ok hR).2
    refine va_iast (f := u1.1.2.2.2.2.1) hx hb hK hP hD hS 5 4 rfl rfl i10 dX10_doBill_75 (fun H10 locs10 hP10 hD10 hS10 => ?_)
    have hP10 : va_P (dC, dI) vwCl (zc_10 a1 k1 ((u1.1.1, u1.1.2.1, u1.1.2.2.1, u1.1.2.2.2.1, (upd u1.1.2.2.2.2.1 w1.toNatClampNeg w0), u1.1.2.2.2.2.2), u1.2)) H10 := hP10
    have hD10 : va_D A (zc_10 a1 k1 ((u1.1.1, u1.1.2.1, u1.1.2.2.1, u1.1.2.2.2.1, (upd u1.1.2.2.2.2.1 w1.toNatClampNeg w0), u1.1.2.2.2.2.2), u1.2)) := hD10
    clear hP hD hS
    obtain ⟨z11, ez11⟩ : ∃ y : Int32, y = (y4 + (1 : Int32)) := ⟨_, rfl⟩
    replace hR := lt_ok hR ez11
    refine lv_iinc (v := z11) (lv' := [(4, .int z11), (0, .ref (a1 0)), (1, .int y1), (2, .int y2)]) hx hb dX10_doBill_76 hl (k := 3) rfl (by rw [ez11]; rfl) (by decide) rfl (fun ls11 hl11 => ?_)
    refine lv_goto (tgt := 15) hx hb dX10_doBill_79 (by decide) ?_
    exact hrec15 y1 y2 z11 ((u1.1.1, u1.1.2.1, u1.1.2.2.1, u1.1.2.2.2.1, (upd u1.1.2.2.2.2.1 w1.toNatClampNeg w0), u1.1.2.2.2.2.2), u1.2) H10 locs10 ls11 hP10 hD10 hS10 (lv_sub hl11 [1, 2, 3, 0] rfl) hR
  have hB15 : ∀ (n : Nat), ∀ (y1 : Int32) (y2 : Int32) (y4 : Int32) (u1 : ZT_10) (H : Heap) (locs : List Loc) (ls : Array Slot), va_P (dC, dI) vwCl (zc_10 a1 k1 u1) H → va_D A (zc_10 a1 k1 u1) → va_S A s.heap H locs → lv_has ls 5 [(0, .ref (a1 0)), (1, .int y1), (2, .int y2), (4, .int y4)] → rr_X10_doBill_15 fu n y1 y2 y4 u1 = some res → W p l e ({ frames := 5, cells := 0, slots := 0, locals := 115 } : Room) s m args below meth c H locs 0 0 Q (F0 m 15 ls []) := by
    intro  n
    induction n with
    | zero => intro y1 y2 y4 u1 H locs ls hP hD hS hl hR; exact absurd hR (by intro h; cases h)
    | succ n ih =>
      intro y1 y2 y4 u1 H locs ls hP hD hS hl hR
      replace hR : rr_X10_doBill_15_b fu (rr_X10_doBill_15 fu n) y1 y2 y4 u1 = some res := hR
      unfold rr_X10_doBill_15_b at hR
      refine lv_iload hx hb dX10_doBill_15 (lv_at hl 3 rfl) ?_
      refine lv_aload_n hx hb dX10_doBill_17 rfl (lv_at hl 0 rfl) ?_
      refine va_get (D := (dC, dI)) (ci := 10) (v := .int u1.1.2.2.2.2.2.1) (C := RX10) (T := TX10) (N := 35) hx hb hts hin10 hown hK hP 0 rfl rfl 5 (by decide) (hts (.fieldLink RX10 74 "OldestCoinsModel" "many" "I") (List.mem_of_getElem? (i := 1) rfl)) (fun _ h9 => h9) rfl dX10_doBill_18 ?_
      refine lv_icmp_ge (tgt := 82) hx hb dX10_doBill_21 (by decide) (fun c4 => ?_) (fun c4 => ?_)
      · replace hR := ifp_ hR c4
        refine lv_iconst (v := (1 : Int32)) hx hb dX10_doBill_82 (by decide) ?_
        subst hQe
        exact W.zret (ty := .boolean) (v := (1 : Int32)) hx hb hr rfl (fun t ht hW => ⟨⟨(1 : Int32), u1, rfl, (Option.some.inj hR).symm, by rw [ht]; exact hP, va_K.moved hW.alike hK, hD⟩, hS.F ht⟩) hS.2.2 dX10_doBill_83
      · replace hR := ifn_ hR c4
        refine lv_aload_n hx hb dX10_doBill_24 rfl (lv_at hl 0 rfl) ?_
        refine va_get (D := (dC, dI)) (ci := 10) (v := .ref (a1 5)) (C := RX10) (T := TX10) (N := 35) hx hb hts hin10 hown hK hP 0 rfl rfl 4 (by decide) (hts (.fieldLink RX10 22 "OldestCoinsModel" "whose" "[I") (List.mem_of_getElem? (i := 2) rfl)) (fun _ h9 => h9) rfl dX10_doBill_25 ?_
        refine lv_iload hx hb dX10_doBill_28 (lv_at hl 3 rfl) ?_
        refine lv_aload_n hx hb dX10_doBill_30 rfl (lv_at hl 0 rfl) ?_
        refine va_get (D := (dC, dI)) (ci := 10) (v := .long u1.2.2.2.2.2.1.1) (C := RX10) (T := TX10) (N := 35) hx hb hts hin10 hown hK hP 0 rfl rfl 19 (by decide) (hts (.fieldLink RX10 185 "OldestCoinsModel" "paid" "J") (List.mem_of_getElem? (i := 3) rfl)) (fun _ h9 => h9) rfl dX10_doBill_31 ?_
        refine lv_iload hx hb dX10_doBill_34 (lv_at hl 3 rfl) ?_
        have hR0 := ob_ok hR
        clear hR
        obtain ⟨q5, hq5, hR⟩ := hR0
        refine va_calll (va_runS (As := [.int y4]) (rest := [.long u1.2.2.2.2.2.1.1, .int y4, .ref (a1 5)]) ⟨hx, hb, hml, hown, hts⟩ (cc_X10_bit l dC dI fu H.size y4 q5 hq5) (va_cwS 1 hts gX10_doBill_X10_bit rfl rfl rfl (by decide +kernel) ⟨Nat.le_of_ble_eq_true rfl, Nat.le_of_ble_eq_true rfl⟩) (pf_s (nil_K hK) nil_P (nil_D (A := A))) rfl rfl hl.1 rfl (lv_room (Nat.le_of_ble_eq_true rfl)) dX10_doBill_36 ⟨Nat.le_refl _, Nat.le_refl _⟩) hS (fun q _ h => (fr_none hS hA) q h) (fr_none hS hA) (fun r5 v5 t5 H5 locs5 ht5 hvm5 hw5 hB5 hz5 hk5 hS5 => ?_)
        subst hw5
        have hP5 := jn_none hP hk5
        have hD5 := hD
        have hP5 : va_P (dC, dI) vwCl (zc_10 a1 k1 u1) H5 := hP5
        have hD5 : va_D A (zc_10 a1 k1 u1) := hD5
        clear hP hD hS hB5 hk5 hvm5 hz5 ht5
        refine lv_land hx hb dX10_doBill_39 ?_
        refine lv_lconst (v := (0 : Int64)) hx hb dX10_doBill_40 (by decide) ?_
        refine W.lcmp hx hb dX10_doBill_41 ?_
        refine lv_if_eq (tgt := 49) hx hb dX10_doBill_42 (by decide) (fun c6 => ?_) (fun c6 => ?_)
        · replace hR := ifp_ hR c6
          refine lv_aload_n hx hb dX10_doBill_49 rfl (lv_at hl 0 rfl) ?_
          refine va_get (D := (dC, dI)) (ci := 10) (v := .long u1.2.2.2.2.2.1.2.1) (C := RX10) (T := TX10) (N := 35) hx hb hts hin10 hown hK hP5 0 rfl rfl 20 (by decide) (hts (.fieldLink RX10 189 "OldestCoinsModel" "given" "J") (List.mem_of_getElem? (i := 4) rfl)) (fun _ h9 => h9) rfl dX10_doBill_50 ?_
          refine lv_iload hx hb dX10_doBill_53 (lv_at hl 3 rfl) ?_
          have hR0 := ob_ok hR
          clear hR
          obtain ⟨q7, hq7, hR⟩ := hR0
          refine va_calll (va_runS (As := [.int y4]) (rest := [.long u1.2.2.2.2.2.1.2.1, .int y4, .ref (a1 5)]) ⟨hx, hb, hml, hown, hts⟩ (cc_X10_bit l dC dI fu H5.size y4 q7 hq7) (va_cwS 1 hts gX10_doBill_X10_bit rfl rfl rfl (by decide +kernel) ⟨Nat.le_of_ble_eq_true rfl, Nat.le_of_ble_eq_true rfl⟩) (pf_s (nil_K hK) nil_P (nil_D (A := A))) rfl rfl hl.1 rfl (lv_room (Nat.le_of_ble_eq_true rfl)) dX10_doBill_55 ⟨Nat.le_refl _, Nat.le_refl _⟩) hS5 (fun q _ h => (fr_none hS5 hA) q h) (fr_none hS5 hA) (fun r7 v7 t7 H7 locs7 ht7 hvm7 hw7 hB7 hz7 hk7 hS7 => ?_)
          subst hw7
          have hP7 := jn_none hP5 hk7
          have hD7 := hD5
          have hP7 : va_P (dC, dI) vwCl (zc_10 a1 k1 u1) H7 := hP7
          have hD7 : va_D A (zc_10 a1 k1 u1) := hD7
          clear hP5 hD5 hS5 hB7 hk7 hvm7 hz7 ht7
          refine lv_land hx hb dX10_doBill_58 ?_
          refine lv_lconst (v := (0 : Int64)) hx hb dX10_doBill_59 (by decide) ?_
          refine W.lcmp hx hb dX10_doBill_60 ?_
          refine lv_if_eq (tgt := 68) hx hb dX10_doBill_61 (by decide) (fun c8 => ?_) (fun c8 => ?_)
          · replace hR := ifp_ hR c8
            refine lv_aload_n hx hb dX10_doBill_68 rfl (lv_at hl 0 rfl) ?_
            refine va_get (D := (dC, dI)) (ci := 10) (v := .ref (a1 5)) (C := RX10) (T := TX10) (N := 35) hx hb hts hin10 hown hK hP7 0 rfl rfl 4 (by decide) (hts (.fieldLink RX10 22 "OldestCoinsModel" "whose" "[I") (List.mem_of_getElem? (i := 2) rfl)) (fun _ h9 => h9) rfl dX10_doBill_69 ?_
            refine lv_iload hx hb dX10_doBill_72 (lv_at hl 3 rfl) ?_
            have i9 := (ck_ok hR).1
            replace hR := (ck_ok hR).2
            refine va_iald (f := u1.1.2.2.2.2.1) hx hb hK hP7 5 4 rfl rfl i9 dX10_doBill_74 ?_
            exact hB75 (rr_X10_doBill_15 fu n) ih y1 y2 y4 (u1.1.2.2.2.2.1 y4.toNatClampNeg) y4 u1 H7 locs7 ls hP7 hD7 hS7 (lv_sub hl [0, 1, 2, 3] rfl) hR
          · replace hR := ifn_ hR c8
            refine lv_iload_n hx hb dX10_doBill_64 rfl (lv_at hl 1 rfl) ?_
            refine lv_goto (tgt := 75) hx hb dX10_doBill_65 (by decide) ?_
            exact hB75 (rr_X10_doBill_15 fu n) ih y1 y2 y4 y1 y4 u1 H7 locs7 ls hP7 hD7 hS7 (lv_sub hl [0, 1, 2, 3] rfl) hR
        · replace hR := ifn_ hR c6
          refine lv_iload_n hx hb dX10_doBill_45 rfl (lv_at hl 2 rfl) ?_
          refine lv_goto (tgt := 75) hx hb dX10_doBill_46 (by decide) ?_
          exact hB75 (rr_X10_doBill_15 fu n) ih y1 y2 y4 y2 y4 u1 H5 locs5 ls hP5 hD5 hS5 (lv_sub hl [0, 1, 2, 3] rfl) hR
  unfold rr_X10_doBill at hR
  refine lv_aload_n hx hb dX10_doBill_0 rfl (lv_at hl 0 rfl) ?_
  refine lv_iload_n hx hb dX10_doBill_1 rfl (lv_at hl 1 rfl) ?_
  refine lv_iload_n hx hb dX10_doBill_2 rfl (lv_at hl 2 rfl) ?_
  refine lv_iload_n hx hb dX10_doBill_3 rfl (lv_at hl 3 rfl) ?_
  have hR0 := ob_ok hR
  clear hR
  obtain ⟨q1, hq1, hR⟩ := hR0
  refine va_calli (va_runV (As := [.int x1, .int x2, .int x3]) (rest := []) ⟨hx, hb, hml, hown, hts⟩ (cc_X10_findBill l dC dI fu a1 k1 s.heap.size x1 x2 x3 s1 q1 hq1) (cwV 3 hts gX10_doBill_X10_findBill rfl rfl rfl (by decide +kernel) ⟨Nat.le_of_ble_eq_true rfl, Nat.le_of_ble_eq_true rfl⟩) (pf_v hK hP hD 10 0 rfl rfl rfl) rfl rfl hl.1 rfl (lv_room (Nat.le_of_ble_eq_true rfl)) dX10_doBill_4 ⟨Nat.le_refl _, Nat.le_refl _⟩) hS (fun q _ h => (fr_all hD hS hA) q h) (fr_all hD hS hA) (fun r1 v1 t1 H1 locs1 ht1 hvm1 hw1 hB1 hz1 hk1 hS1 => ?_)
  obtain rfl : r1 = q1.1 := (congrArg Prod.fst hw1).symm
  obtain rfl : v1 = q1.2 := (congrArg Prod.snd hw1).symm
  obtain ⟨hP1, hD1⟩ := jn_all hD hS hA ht1 hB1
  have hP1 : va_P (dC, dI) vwCl (zc_10 a1 k1 q1.2) H1 := hP1
  have hD1 : va_D A (zc_10 a1 k1 q1.2) := hD1
  clear hP hD hS hB1 hk1 hvm1 hz1 ht1
  refine lv_if_ne (tgt := 12) hx hb dX10_doBill_7 (by decide) (fun c2 => ?_) (fun c2 => ?_)
  · replace hR := ifn_ hR c2
    refine lv_iconst (v := (0 : Int32)) hx hb dX10_doBill_12 (by decide) ?_
    refine lv_istore (lv' := [(4, .int (0 : Int32)), (0, .ref (a1 0)), (1, .int x1), (2, .int x2), (3, .int x3)]) hx hb dX10_doBill_13 hl (by decide) rfl (fun ls3 hl3 => ?_)
    exact hB15 fu x1 x2 (0 : Int32) q1.2 H1 locs1 ls3 hP1 hD1 hS1 (lv_sub hl3 [1, 2, 3, 0] rfl) hR
  · replace hR := ifp_ hR c2
    refine lv_iconst (v := (0 : Int32)) hx hb dX10_doBill_10 (by decide) ?_
    subst hQe
    exact W.zret (ty := .boolean) (v := (0 : Int32)) hx hb hr rfl (fun t ht hW => ⟨⟨(0 : Int32), q1.2, rfl, (Option.some.inj hR).symm, by rw [ht]; exact hP1, va_K.moved hW.alike hK, hD1⟩, hS1.F ht⟩) hS1.2.2 dX10_doBill_11
def rr_X10_runDay_4_b (fu : Nat) (rec4 : Int32 → Int32 → Int32 → ZT_10 → Option (Int32 × ZT_10)) (y1 : Int32) (y2 : Int32) (y3 : Int32) (u1 : ZT_10) : Option (Int32 × ZT_10) := (if (y1 * u1.2.2.1.2) ≤ y3 then some (y2, u1) else nz_ u1.2.2.1.2 (lt_ (α := Int32) (y3 - y3 / u1.2.2.1.2 * u1.2.2.1.2) (fun z5 => ck_ ((3 : Int32) * z5) 72 (ck_ (((3 : Int32) * z5) + (1 : Int32)) 72 (ck_ (((3 : Int32) * z5) + (2 : Int32)) 72 ((rr_X10_doBill fu (u1.2.2.1.1 ((3 : Int32) * z5).toNatClampNeg) (u1.2.2.1.1 (((3 : Int32) * z5) + (1 : Int32)).toNatClampNeg) (u1.2.2.1.1 (((3 : Int32) * z5) + (2 : Int32)).toNatClampNeg) u1).bind (fun q10 => (if q10.1 = (0 : Int32) then some (y2, q10.2) else ck_ z5 24 (lt_ (α := Int32) (y2 + (1 : Int32)) (fun z13 => lt_ (α := Int32) (y3 + (1 : Int32)) (fun z14 => rec4 y1 z13 z14 (q10.2.1, q10.2.2.1, q10.2.2.2.1, q10.2.2.2.2.1, q10.2.2.2.2.2.1, q10.2.2.2.2.2.2.1, q10.2.2.2.2.2.2.2.1, ((vp_updL q10.2.2.2.2.2.2.2.2.1.1 z5.toNatClampNeg q10.2.2.2.2.2.2.1.1), q10.2.2.2.2.2.2.2.2.1.2), q10.2.2.2.2.2.2.2.2.2))))))))))))
def rr_X10_runDay_4 (fu : Nat) (n : Nat) : Int32 → Int32 → Int32 → ZT_10 → Option (Int32 × ZT_10) := lp_ (fun _ _ _ _ => none) (rr_X10_runDay_4_b fu) n
def rr_X10_runDay (fu : Nat) (x1 : Int32) (s1 : ZT_10) : Option (Int32 × ZT_10) := rr_X10_runDay_4 fu fu x1 (0 : Int32) (0 : Int32) s1
set_option maxHeartbeats 4000000 in
set_option maxRecDepth 100000 in
theorem cc_X10_runDay (l : Launch) (dC : Nat → ClassId) (dI : Nat → Nat → Nat) (fu : Nat) (a1 : Nat → Nat) (k1 : Nat → ClassId) (sz : Nat) (x1 : Int32) (s1 : ZT_10) (res : Int32 × ZT_10) (hR : rr_X10_runDay fu x1 s1 = some res) : Met l yX10_runDay wsX10_runDay ({ frames := 6, cells := 0, slots := 0, locals := 139 } : Room) (PcF [.ref (a1 0), .int x1] sz (dC, dI) (zc_10 a1 k1 s1) (zt_10 k1)) (va_Qi (fun (r : Int32) (u : ZT_10) => res = (r, u)) (fun u t => at3_ (dC, dI) (zc_10 a1 k1 u) (zt_10 k1) (va_A (zc_10 a1 k1 s1) sz) t) (va_A (zc_10 a1 k1 s1) sz)) 0 0 (va_A (zc_10 a1 k1 s1) sz) := by
  refine Met.ofW (cc := cX10_runDay) (maxL := 5) (ret := (some .int)) (by decide) rfl ?_
  intro p e s m args below meth c s₁ B hml hv
  obtain ⟨hav, hsz, hP, hK, hD0⟩ := hv
  have hx := B.exec
  have hb := B.bytes
  have hr := B.returns
  have hts := atoms_spec (ws := wsX10_runDay) B.pre
  have hown : s.vm.findClass RX10 = some m.cls := findClass_of_methodNamed B.named
  have hlocks := B.notSynchronized
  have hin10 : ∀ w ∈ wsX100, w ∈ wsX10_runDay := fun w h => List.mem_cons_of_mem _ (List.mem_append_right _ h)
  subst hsz
  have hD := hD0.self (sz := s.heap.size)
  clear hD0
  generalize hAe : va_A (zc_10 a1 k1 s1) s.heap.size = A at hD ⊢
  have hA : ∀ q : Nat, s.heap.size ≤ q → A q := fun q h => by rw [← hAe]; exact Or.inr h
  have hS : va_S A s.heap s.heap [] := va_S.rf
  generalize hQe : MQ below _ args s 0 0 A = Q
  rw [show entryFrame m args 5 = F0 m 0 ((lg_sl ([.ref (a1 0), .int x1]) ++ List.replicate (5 - (lg_sl ([.ref (a1 0), .int x1])).length) Slot.unset).toArray) [] from by rw [hav]; exact lg_entry_eq m _ _]
  have hl := lv_entry ([.ref (a1 0), .int x1]) (n := 5) (Nat.le_of_ble_eq_true rfl)
  generalize (lg_sl ([.ref (a1 0), .int x1]) ++ List.replicate (5 - (lg_sl ([.ref (a1 0), .int x1])).length) Slot.unset).toArray = ls at hl ⊢
  have hl : lv_has ls 5 [(0, .ref (a1 0)), (1, .int x1)] := hl
  have hB4 : ∀ (n : Nat), ∀ (y1 : Int32) (y2 : Int32) (y3 : Int32) (u1 : ZT_10) (H : Heap) (locs : List Loc) (ls : Array Slot), va_P (dC, dI) vwCl (zc_10 a1 k1 u1) H → va_D A (zc_10 a1 k1 u1) → va_S A s.heap H locs → lv_has ls 5 [(0, .ref (a1 0)), (1, .int y1), (2, .int y2), (3, .int y3)] → rr_X10_runDay_4 fu n y1 y2 y3 u1 = some res → W p l e ({ frames := 6, cells := 0, slots := 0, locals := 139 } : Room) s m args below meth c H locs 0 0 Q (F0 m 4 ls []) := by
    intro  n
    induction n with
    | zero => intro y1 y2 y3 u1 H locs ls hP hD hS hl hR; exact absurd hR (by intro h; cases h)
    | succ n ih =>
      intro y1 y2 y3 u1 H locs ls hP hD hS hl hR
      replace hR : rr_X10_runDay_4_b fu (rr_X10_runDay_4 fu n) y1 y2 y3 u1 = some res := hR
      unfold rr_X10_runDay_4_b at hR
      refine lv_iload_n hx hb dX10_runDay_4 rfl (lv_at hl 3 rfl) ?_
      refine lv_iload_n hx hb dX10_runDay_5 rfl (lv_at hl 1 rfl) ?_
      refine lv_aload_n hx hb dX10_runDay_6 rfl (lv_at hl 0 rfl) ?_
      refine va_get (D := (dC, dI)) (ci := 10) (v := .int u1.2.2.1.2) (C := RX10) (T := TX10) (N := 35) hx hb hts hin10 hown hK hP 0 rfl rfl 11 (by decide) (hts (.fieldLink RX10 132 "OldestCoinsModel" "billMany" "I") (List.mem_of_getElem? (i := 1) rfl)) (fun _ h9 => h9) rfl dX10_runDay_7 ?_
      refine lv_imul hx hb dX10_runDay_10 ?_
      refine lv_icmp_ge (tgt := 82) hx hb dX10_runDay_11 (by decide) (fun c3 => ?_) (fun c3 => ?_)
      · replace hR := ifp_ hR c3
        refine lv_iload_n hx hb dX10_runDay_82 rfl (lv_at hl 2 rfl) ?_
        subst hQe
        exact W.iret (v := y2) hx hb hr (fun t ht hW => ⟨⟨y2, u1, rfl, (Option.some.inj hR).symm, by rw [ht]; exact hP, va_K.moved hW.alike hK, hD⟩, hS.F ht⟩) hS.2.2 dX10_runDay_83
      · replace hR := ifn_ hR c3
        refine lv_iload_n hx hb dX10_runDay_14 rfl (lv_at hl 3 rfl) ?_
        refine lv_aload_n hx hb dX10_runDay_15 rfl (lv_at hl 0 rfl) ?_
        refine va_get (D := (dC, dI)) (ci := 10) (v := .int u1.2.2.1.2) (C := RX10) (T := TX10) (N := 35) hx hb hts hin10 hown hK hP 0 rfl rfl 11 (by decide) (hts (.fieldLink RX10 132 "OldestCoinsModel" "billMany" "I") (List.mem_of_getElem? (i := 1) rfl)) (fun _ h9 => h9) rfl dX10_runDay_16 ?_
        have z4 := (nz_ok hR).1
        replace hR := (nz_ok hR).2
        refine lv_irem hx hb dX10_runDay_19 z4 ?_
        refine lv_topi (fun z5 ez5 => ?_)
        replace hR := lt_ok hR ez5
        refine lv_istore (lv' := [(4, .int z5), (0, .ref (a1 0)), (1, .int y1), (2, .int y2), (3, .int y3)]) hx hb dX10_runDay_20 hl (by decide) rfl (fun ls6 hl6 => ?_)
        refine lv_aload_n hx hb dX10_runDay_22 rfl (lv_at hl6 1 rfl) ?_
        refine lv_aload_n hx hb dX10_runDay_23 rfl (lv_at hl6 1 rfl) ?_
        refine va_get (D := (dC, dI)) (ci := 10) (v := .ref (a1 8)) (C := RX10) (T := TX10) (N := 35) hx hb hts hin10 hown hK hP 0 rfl rfl 10 (by decide) (hts (.fieldLink RX10 31 "OldestCoinsModel" "bills" "[I") (List.mem_of_getElem? (i := 2) rfl)) (fun _ h9 => h9) rfl dX10_runDay_24 ?_
        refine lv_iconst (v := (3 : Int32)) hx hb dX10_runDay_27 (by decide) ?_
        refine lv_iload hx hb dX10_runDay_28 (lv_at hl6 0 rfl) ?_
        refine lv_imul hx hb dX10_runDay_30 ?_
        have i7 := (ck_ok hR).1
        replace hR := (ck_ok hR).2
        refine va_iald (f := u1.2.2.1.1) hx hb hK hP 8 7 rfl rfl i7 dX10_runDay_31 ?_
        refine lv_aload_n hx hb dX10_runDay_32 rfl (lv_at hl6 1 rfl) ?_
        refine va_get (D := (dC, dI)) (ci := 10) (v := .ref (a1 8)) (C := RX10) (T := TX10) (N := 35) hx hb hts hin10 hown hK hP 0 rfl rfl 10 (by decide) (hts (.fieldLink RX10 31 "OldestCoinsModel" "bills" "[I") (List.mem_of_getElem? (i := 2) rfl)) (fun _ h9 => h9) rfl dX10_runDay_33 ?_
        refine lv_iconst (v := (3 : Int32)) hx hb dX10_runDay_36 (by decide) ?_
        refine lv_iload hx hb dX10_runDay_37 (lv_at hl6 0 rfl) ?_
        refine lv_imul hx hb dX10_runDay_39 ?_
        refine lv_iconst (v := (1 : Int32)) hx hb dX10_runDay_40 (by decide) ?_
        refine lv_iadd hx hb dX10_runDay_41 ?_
        have i8 := (ck_ok hR).1
        replace hR := (ck_ok hR).2
        refine va_iald (f := u1.2.2.1.1) hx hb hK hP 8 7 rfl rfl i8 dX10_runDay_42 ?_
        refine lv_aload_n hx hb dX10_runDay_43 rfl (lv_at hl6 1 rfl) ?_
        refine va_get (D := (dC, dI)) (ci := 10) (v := .ref (a1 8)) (C := RX10) (T := TX10) (N := 35) hx hb hts hin10 hown hK hP 0 rfl rfl 10 (by decide) (hts (.fieldLink RX10 31 "OldestCoinsModel" "bills" "[I") (List.mem_of_getElem? (i := 2) rfl)) (fun _ h9 => h9) rfl dX10_runDay_44 ?_
        refine lv_iconst (v := (3 : Int32)) hx hb dX10_runDay_47 (by decide) ?_
        refine lv_iload hx hb dX10_runDay_48 (lv_at hl6 0 rfl) ?_
        refine lv_imul hx hb dX10_runDay_50 ?_
        refine lv_iconst (v := (2 : Int32)) hx hb dX10_runDay_51 (by decide) ?_
        refine lv_iadd hx hb dX10_runDay_52 ?_
        have i9 := (ck_ok hR).1
        replace hR := (ck_ok hR).2
        refine va_iald (f := u1.2.2.1.1) hx hb hK hP 8 7 rfl rfl i9 dX10_runDay_53 ?_
        have hR0 := ob_ok hR
        clear hR
        obtain ⟨q10, hq10, hR⟩ := hR0
        refine va_calli (va_runV (As := [.int (u1.2.2.1.1 ((3 : Int32) * z5).toNatClampNeg), .int (u1.2.2.1.1 (((3 : Int32) * z5) + (1 : Int32)).toNatClampNeg), .int (u1.2.2.1.1 (((3 : Int32) * z5) + (2 : Int32)).toNatClampNeg)]) (rest := []) ⟨hx, hb, hml, hown, hts⟩ (cc_X10_doBill l dC dI fu a1 k1 H.size (u1.2.2.1.1 ((3 : Int32) * z5).toNatClampNeg) (u1.2.2.1.1 (((3 : Int32) * z5) + (1 : Int32)).toNatClampNeg) (u1.2.2.1.1 (((3 : Int32) * z5) + (2 : Int32)).toNatClampNeg) u1 q10 hq10) (cwV 3 hts gX10_runDay_X10_doBill rfl rfl rfl (by decide +kernel) ⟨Nat.le_of_ble_eq_true rfl, Nat.le_of_ble_eq_true rfl⟩) (pf_v hK hP hD 10 0 rfl rfl rfl) rfl rfl hl6.1 rfl (lv_room (Nat.le_of_ble_eq_true rfl)) dX10_runDay_54 ⟨Nat.le_refl _, Nat.le_refl _⟩) hS (fun q _ h => (fr_all hD hS hA) q h) (fr_all hD hS hA) (fun r10 v10 t10 H10 locs10 ht10 hvm10 hw10 hB10 hz10 hk10 hS10 => ?_)
        obtain rfl : r10 = q10.1 := (congrArg Prod.fst hw10).symm
        obtain rfl : v10 = q10.2 := (congrArg Prod.snd hw10).symm
        obtain ⟨hP10, hD10⟩ := jn_all hD hS hA ht10 hB10
        have hP10 : va_P (dC, dI) vwCl (zc_10 a1 k1 q10.2) H10 := hP10
        have hD10 : va_D A (zc_10 a1 k1 q10.2) := hD10
        clear hP hD hS hB10 hk10 hvm10 hz10 ht10
        refine lv_if_ne (tgt := 62) hx hb dX10_runDay_57 (by decide) (fun c11 => ?_) (fun c11 => ?_)
        · replace hR := ifn_ hR c11
          refine lv_aload_n hx hb dX10_runDay_62 rfl (lv_at hl6 1 rfl) ?_
          refine va_get (D := (dC, dI)) (ci := 10) (v := .ref (a1 15)) (C := RX10) (T := TX10) (N := 35) hx hb hts hin10 hown hK hP10 0 rfl rfl 27 (by decide) (hts (.fieldLink RX10 52 "OldestCoinsModel" "paidBy" "[J") (List.mem_of_getElem? (i := 3) rfl)) (fun _ h9 => h9) rfl dX10_runDay_63 ?_
          refine lv_iload hx hb dX10_runDay_66 (lv_at hl6 0 rfl) ?_
          refine lv_aload_n hx hb dX10_runDay_68 rfl (lv_at hl6 1 rfl) ?_
          refine va_get (D := (dC, dI)) (ci := 10) (v := .long q10.2.2.2.2.2.2.1.1) (C := RX10) (T := TX10) (N := 35) hx hb hts hin10 hown hK hP10 0 rfl rfl 19 (by decide) (hts (.fieldLink RX10 185 "OldestCoinsModel" "paid" "J") (List.mem_of_getElem? (i := 4) rfl)) (fun _ h9 => h9) rfl dX10_runDay_69 ?_
          have i12 := (ck_ok hR).1
          replace hR := (ck_ok hR).2
          refine va_last (f := q10.2.2.2.2.2.2.2.2.1.1) hx hb hK hP10 hD10 hS10 15 14 rfl rfl i12 dX10_runDay_72 (fun H12 locs12 hP12 hD12 hS12 => ?_)
          have hP12 : va_P (dC, dI) vwCl (zc_10 a1 k1 (q10.2.1, q10.2.2.1, q10.2.2.2.1, q10.2.2.2.2.1, q10.2.2.2.2.2.1, q10.2.2.2.2.2.2.1, q10.2.2.2.2.2.2.2.1, ((vp_updL q10.2.2.2.2.2.2.2.2.1.1 z5.toNatClampNeg q10.2.2.2.2.2.2.1.1), q10.2.2.2.2.2.2.2.2.1.2), q10.2.2.2.2.2.2.2.2.2)) H12 := hP12
          have hD12 : va_D A (zc_10 a1 k1 (q10.2.1, q10.2.2.1, q10.2.2.2.1, q10.2.2.2.2.1, q10.2.2.2.2.2.1, q10.2.2.2.2.2.2.1, q10.2.2.2.2.2.2.2.1, ((vp_updL q10.2.2.2.2.2.2.2.2.1.1 z5.toNatClampNeg q10.2.2.2.2.2.2.1.1), q10.2.2.2.2.2.2.2.2.1.2), q10.2.2.2.2.2.2.2.2.2)) := hD12
          clear hP10 hD10 hS10
          obtain ⟨z13, ez13⟩ : ∃ y : Int32, y = (y2 + (1 : Int32)) := ⟨_, rfl⟩
          replace hR := lt_ok hR ez13
          refine lv_iinc (v := z13) (lv' := [(2, .int z13), (4, .int z5), (0, .ref (a1 0)), (1, .int y1), (3, .int y3)]) hx hb dX10_runDay_73 hl6 (k := 3) rfl (by rw [ez13]; rfl) (by decide) rfl (fun ls13 hl13 => ?_)
          obtain ⟨z14, ez14⟩ : ∃ y : Int32, y = (y3 + (1 : Int32)) := ⟨_, rfl⟩
          replace hR := lt_ok hR ez14
          refine lv_iinc (v := z14) (lv' := [(3, .int z14), (2, .int z13), (4, .int z5), (0, .ref (a1 0)), (1, .int y1)]) hx hb dX10_runDay_76 hl13 (k := 4) rfl (by rw [ez14]; rfl) (by decide) rfl (fun ls14 hl14 => ?_)
          refine lv_goto (tgt := 4) hx hb dX10_runDay_79 (by decide) ?_
          exact ih y1 z13 z14 (q10.2.1, q10.2.2.1, q10.2.2.2.1, q10.2.2.2.2.1, q10.2.2.2.2.2.1, q10.2.2.2.2.2.2.1, q10.2.2.2.2.2.2.2.1, ((vp_updL q10.2.2.2.2.2.2.2.2.1.1 z5.toNatClampNeg q10.2.2.2.2.2.2.1.1), q10.2.2.2.2.2.2.2.2.1.2), q10.2.2.2.2.2.2.2.2.2) H12 locs12 ls14 hP12 hD12 hS12 (lv_sub hl14 [3, 4, 1, 0] rfl) hR
        · replace hR := ifp_ hR c11
          refine lv_iload_n hx hb dX10_runDay_60 rfl (lv_at hl6 3 rfl) ?_
          subst hQe
          exact W.iret (v := y2) hx hb hr (fun t ht hW => ⟨⟨y2, q10.2, rfl, (Option.some.inj hR).symm, by rw [ht]; exact hP10, va_K.moved hW.alike hK, hD10⟩, hS10.F ht⟩) hS10.2.2 dX10_runDay_61
  unfold rr_X10_runDay at hR
  refine lv_iconst (v := (0 : Int32)) hx hb dX10_runDay_0 (by decide) ?_
  refine lv_istore_n (lv' := [(2, .int (0 : Int32)), (0, .ref (a1 0)), (1, .int x1)]) hx hb dX10_runDay_1 rfl hl (by decide) rfl (fun ls1 hl1 => ?_)
  refine lv_iconst (v := (0 : Int32)) hx hb dX10_runDay_2 (by decide) ?_
  refine lv_istore_n (lv' := [(3, .int (0 : Int32)), (2, .int (0 : Int32)), (0, .ref (a1 0)), (1, .int x1)]) hx hb dX10_runDay_3 rfl hl1 (by decide) rfl (fun ls2 hl2 => ?_)
  exact hB4 fu x1 (0 : Int32) (0 : Int32) s1 s.heap [] ls2 hP hD hS (lv_sub hl2 [2, 3, 1, 0] rfl) hR
def rr_X10_worthOf_33 (fu : Nat) (s1 : ZT_10) (rec4 : Int32 → Int32 → Int32 → Option (Int32)) (y1 : Int32) (y3 : Int32) (w0 : Int32) (w1 : Int32) : Option (Int32) := lt_ (α := Int32) (w1 + w0) (fun z7 => lt_ (α := Int32) (y3 + (1 : Int32)) (fun z9 => rec4 y1 z7 z9))
def rr_X10_worthOf_4_b (fu : Nat) (s1 : ZT_10) (rec4 : Int32 → Int32 → Int32 → Option (Int32)) (y1 : Int32) (y2 : Int32) (y3 : Int32) : Option (Int32) := (if s1.1.2.2.2.2.2.1 ≤ y3 then some y2 else ck_ y3 40 ((if (s1.1.2.2.2.2.1 y3.toNatClampNeg) = y1 then ck_ y3 40 (rr_X10_worthOf_33 fu s1 rec4 y1 y3 (s1.1.1 y3.toNatClampNeg) y2) else rr_X10_worthOf_33 fu s1 rec4 y1 y3 (0 : Int32) y2)))
def rr_X10_worthOf_4 (fu : Nat) (s1 : ZT_10) (n : Nat) : Int32 → Int32 → Int32 → Option (Int32) := lp_ (fun _ _ _ => none) (rr_X10_worthOf_4_b fu s1) n
def rr_X10_worthOf (fu : Nat) (x1 : Int32) (s1 : ZT_10) : Option (Int32) := rr_X10_worthOf_4 fu s1 fu x1 (0 : Int32) (0 : Int32)
set_option maxHeartbeats 4000000 in
set_option maxRecDepth 100000 in
theorem cc_X10_worthOf (l : Launch) (dC : Nat → ClassId) (dI : Nat → Nat → Nat) (fu : Nat) (a1 : Nat → Nat) (k1 : Nat → ClassId) (sz : Nat) (x1 : Int32) (s1 : ZT_10) (res : Int32) (hR : rr_X10_worthOf fu x1 s1 = some res) : Met l yX10_worthOf wsX10_worthOf ({ frames := 0, cells := 0, slots := 0, locals := 0 } : Room) (PcF [.ref (a1 0), .int x1] sz (dC, dI) (zc_10 a1 k1 s1) (zt_10 k1)) (va_Qi (fun (r : Int32) (u : Unit) => res = r) (fun u t => at3_ (dC, dI) (zc_10 a1 k1 s1) (zt_10 k1) (va_A (zc_10 a1 k1 s1) sz) t) (va_A (zc_10 a1 k1 s1) sz)) 0 0 (va_A (zc_10 a1 k1 s1) sz) := by
  refine Met.ofW (cc := cX10_worthOf) (maxL := 4) (ret := (some .int)) (by decide) rfl ?_
  intro p e s m args below meth c s₁ B hml hv
  obtain ⟨hav, hsz, hP, hK, hD0⟩ := hv
  have hx := B.exec
  have hb := B.bytes
  have hr := B.returns
  have hts := atoms_spec (ws := wsX10_worthOf) B.pre
  have hown : s.vm.findClass RX10 = some m.cls := findClass_of_methodNamed B.named
  have hlocks := B.notSynchronized
  have hin10 : ∀ w ∈ wsX100, w ∈ wsX10_worthOf := fun w h => List.mem_cons_of_mem _ (List.mem_append_right _ h)
  subst hsz
  have hD := hD0.self (sz := s.heap.size)
  clear hD0
  generalize hAe : va_A (zc_10 a1 k1 s1) s.heap.size = A at hD ⊢
  have hA : ∀ q : Nat, s.heap.size ≤ q → A q := fun q h => by rw [← hAe]; exact Or.inr h
  have hS : va_S A s.heap s.heap [] := va_S.rf
  generalize hQe : MQ below _ args s 0 0 A = Q
  rw [show entryFrame m args 4 = F0 m 0 ((lg_sl ([.ref (a1 0), .int x1]) ++ List.replicate (4 - (lg_sl ([.ref (a1 0), .int x1])).length) Slot.unset).toArray) [] from by rw [hav]; exact lg_entry_eq m _ _]
  have hl := lv_entry ([.ref (a1 0), .int x1]) (n := 4) (Nat.le_of_ble_eq_true rfl)
  generalize (lg_sl ([.ref (a1 0), .int x1]) ++ List.replicate (4 - (lg_sl ([.ref (a1 0), .int x1])).length) Slot.unset).toArray = ls at hl ⊢
  have hl : lv_has ls 4 [(0, .ref (a1 0)), (1, .int x1)] := hl
  have hB33 : ∀ (rec4 : Int32 → Int32 → Int32 → Option (Int32)) (hrec4 : ∀ (y1 : Int32) (y2 : Int32) (y3 : Int32) (H : Heap) (locs : List Loc) (ls : Array Slot), va_P (dC, dI) vwCl (zc_10 a1 k1 s1) H → va_D A (zc_10 a1 k1 s1) → va_S A s.heap H locs → lv_has ls 4 [(0, .ref (a1 0)), (1, .int y1), (2, .int y2), (3, .int y3)] → rec4 y1 y2 y3 = some res → W p l e ({ frames := 0, cells := 0, slots := 0, locals := 0 } : Room) s m args below meth c H locs 0 0 Q (F0 m 4 ls [])), ∀ (y1 : Int32) (y3 : Int32) (w0 : Int32) (w1 : Int32) (H : Heap) (locs : List Loc) (ls : Array Slot), va_P (dC, dI) vwCl (zc_10 a1 k1 s1) H → va_D A (zc_10 a1 k1 s1) → va_S A s.heap H locs → lv_has ls 4 [(0, .ref (a1 0)), (1, .int y1), (3, .int y3)] → rr_X10_worthOf_33 fu s1 rec4 y1 y3 w0 w1 = some res → W p l e ({ frames := 0, cells := 0, slots := 0, locals := 0 } : Room) s m args below meth c H locs 0 0 Q (F0 m 33 ls [.int w0, .int w1]) := by
    intro rec4 hrec4 y1 y3 w0 w1 H locs ls hP hD hS hl hR
    unfold rr_X10_worthOf_33 at hR
    refine lv_iadd hx hb dX10_worthOf_33 ?_
    refine lv_topi (fun z7 ez7 => ?_)
    replace hR := lt_ok hR ez7
    refine lv_istore_n (lv' := [(2, .int z7), (0, .ref (a1 0)), (1, .int y1), (3, .int y3)]) hx hb dX10_worthOf_34 rfl hl (by decide) rfl (fun ls8 hl8 => ?_)
    obtain ⟨z9, ez9⟩ : ∃ y : Int32, y = (y3 + (1 : Int32)) := ⟨_, rfl⟩
    replace hR := lt_ok hR ez9
    refine lv_iinc (v := z9) (lv' := [(3, .int z9), (2, .int z7), (0, .ref (a1 0)), (1, .int y1)]) hx hb dX10_worthOf_35 hl8 (k := 3) rfl (by rw [ez9]; rfl) (by decide) rfl (fun ls9 hl9 => ?_)
    refine lv_goto (tgt := 4) hx hb dX10_worthOf_38 (by decide) ?_
    exact hrec4 y1 z7 z9 H locs ls9 hP hD hS (lv_sub hl9 [2, 3, 1, 0] rfl) hR
  have hB4 : ∀ (n : Nat), ∀ (y1 : Int32) (y2 : Int32) (y3 : Int32) (H : Heap) (locs : List Loc) (ls : Array Slot), va_P (dC, dI) vwCl (zc_10 a1 k1 s1) H → va_D A (zc_10 a1 k1 s1) → va_S A s.heap H locs → lv_has ls 4 [(0, .ref (a1 0)), (1, .int y1), (2, .int y2), (3, .int y3)] → rr_X10_worthOf_4 fu s1 n y1 y2 y3 = some res → W p l e ({ frames := 0, cells := 0, slots := 0, locals := 0 } : Room) s m args below meth c H locs 0 0 Q (F0 m 4 ls []) := by
    intro  n
    induction n with
    | zero => intro y1 y2 y3 H locs ls hP hD hS hl hR; exact absurd hR (by intro h; cases h)
    | succ n ih =>
      intro y1 y2 y3 H locs ls hP hD hS hl hR
      replace hR : rr_X10_worthOf_4_b fu s1 (rr_X10_worthOf_4 fu s1 n) y1 y2 y3 = some res := hR
      unfold rr_X10_worthOf_4_b at hR
      refine lv_iload_n hx hb dX10_worthOf_4 rfl (lv_at hl 3 rfl) ?_
      refine lv_aload_n hx hb dX10_worthOf_5 rfl (lv_at hl 0 rfl) ?_
      refine va_get (D := (dC, dI)) (ci := 10) (v := .int s1.1.2.2.2.2.2.1) (C := RX10) (T := TX10) (N := 35) hx hb hts hin10 hown hK hP 0 rfl rfl 5 (by decide) (hts (.fieldLink RX10 74 "OldestCoinsModel" "many" "I") (List.mem_of_getElem? (i := 1) rfl)) (fun _ h9 => h9) rfl dX10_worthOf_6 ?_
      refine lv_icmp_ge (tgt := 41) hx hb dX10_worthOf_9 (by decide) (fun c3 => ?_) (fun c3 => ?_)
      · replace hR := ifp_ hR c3
        refine lv_iload_n hx hb dX10_worthOf_41 rfl (lv_at hl 2 rfl) ?_
        subst hQe
        exact W.iret (v := y2) hx hb hr (fun t ht hW => ⟨⟨y2, (), rfl, (Option.some.inj hR).symm, by rw [ht]; exact hP, va_K.moved hW.alike hK, hD⟩, hS.F ht⟩) hS.2.2 dX10_worthOf_42
      · replace hR := ifn_ hR c3
        refine lv_iload_n hx hb dX10_worthOf_12 rfl (lv_at hl 2 rfl) ?_
        refine lv_aload_n hx hb dX10_worthOf_13 rfl (lv_at hl 0 rfl) ?_
        refine va_get (D := (dC, dI)) (ci := 10) (v := .ref (a1 5)) (C := RX10) (T := TX10) (N := 35) hx hb hts hin10 hown hK hP 0 rfl rfl 4 (by decide) (hts (.fieldLink RX10 22 "OldestCoinsModel" "whose" "[I") (List.mem_of_getElem? (i := 2) rfl)) (fun _ h9 => h9) rfl dX10_worthOf_14 ?_
        refine lv_iload_n hx hb dX10_worthOf_17 rfl (lv_at hl 3 rfl) ?_
        have i4 := (ck_ok hR).1
        replace hR := (ck_ok hR).2
        refine va_iald (f := s1.1.2.2.2.2.1) hx hb hK hP 5 4 rfl rfl i4 dX10_worthOf_18 ?_
        refine lv_iload_n hx hb dX10_worthOf_19 rfl (lv_at hl 1 rfl) ?_
        refine lv_icmp_ne (tgt := 32) hx hb dX10_worthOf_20 (by decide) (fun c5 => ?_) (fun c5 => ?_)
        · replace hR := ifn_ hR c5
          refine lv_iconst (v := (0 : Int32)) hx hb dX10_worthOf_32 (by decide) ?_
          exact hB33 (rr_X10_worthOf_4 fu s1 n) ih y1 y3 (0 : Int32) y2 H locs ls hP hD hS (lv_sub hl [0, 1, 3] rfl) hR
        · replace hR := ifp_ hR c5
          refine lv_aload_n hx hb dX10_worthOf_23 rfl (lv_at hl 0 rfl) ?_
          refine va_get (D := (dC, dI)) (ci := 10) (v := .ref (a1 1)) (C := RX10) (T := TX10) (N := 35) hx hb hts hin10 hown hK hP 0 rfl rfl 0 (by decide) (hts (.fieldLink RX10 7 "OldestCoinsModel" "worths" "[I") (List.mem_of_getElem? (i := 3) rfl)) (fun _ h9 => h9) rfl dX10_worthOf_24 ?_
          refine lv_iload_n hx hb dX10_worthOf_27 rfl (lv_at hl 3 rfl) ?_
          have i6 := (ck_ok hR).1
          replace hR := (ck_ok hR).2
          refine va_iald (f := s1.1.1) hx hb hK hP 1 0 rfl rfl i6 dX10_worthOf_28 ?_
          refine lv_goto (tgt := 33) hx hb dX10_worthOf_29 (by decide) ?_
          exact hB33 (rr_X10_worthOf_4 fu s1 n) ih y1 y3 (s1.1.1 y3.toNatClampNeg) y2 H locs ls hP hD hS (lv_sub hl [0, 1, 3] rfl) hR
  unfold rr_X10_worthOf at hR
  refine lv_iconst (v := (0 : Int32)) hx hb dX10_worthOf_0 (by decide) ?_
  refine lv_istore_n (lv' := [(2, .int (0 : Int32)), (0, .ref (a1 0)), (1, .int x1)]) hx hb dX10_worthOf_1 rfl hl (by decide) rfl (fun ls1 hl1 => ?_)
  refine lv_iconst (v := (0 : Int32)) hx hb dX10_worthOf_2 (by decide) ?_
  refine lv_istore_n (lv' := [(3, .int (0 : Int32)), (2, .int (0 : Int32)), (0, .ref (a1 0)), (1, .int x1)]) hx hb dX10_worthOf_3 rfl hl1 (by decide) rfl (fun ls2 hl2 => ?_)
  exact hB4 fu x1 (0 : Int32) (0 : Int32) s.heap [] ls2 hP hD hS (lv_sub hl2 [2, 3, 1, 0] rfl) hR
def rr_X10_runOnce_2_b (fu : Nat) (rec2 : Int32 → Int32 → ZT_10 → Option (Int32 × ZT_10)) (y1 : Int32) (y2 : Int32) (u1 : ZT_10) : Option (Int32 × ZT_10) := (if (24 : Int32) ≤ y2 then (rr_X10_keep fu u1).bind (fun q3 => (rr_X10_runDay fu (1 : Int32) q3).bind (fun q4 => (rr_X10_worthOf fu y1 q4.2).bind (fun q5 => (rr_X10_bringBack fu q4.2).bind (fun q7 => some (q5, q7))))) else ck_ y2 24 (lt_ (α := Int32) (y2 + (1 : Int32)) (fun z9 => rec2 y1 z9 (u1.1, u1.2.1, u1.2.2.1, u1.2.2.2.1, u1.2.2.2.2.1, u1.2.2.2.2.2.1, u1.2.2.2.2.2.2.1, ((vp_updL u1.2.2.2.2.2.2.2.1.1 y2.toNatClampNeg (0 : Int64)), u1.2.2.2.2.2.2.2.1.2), u1.2.2.2.2.2.2.2.2))))
def rr_X10_runOnce_2 (fu : Nat) (n : Nat) : Int32 → Int32 → ZT_10 → Option (Int32 × ZT_10) := lp_ (fun _ _ _ => none) (rr_X10_runOnce_2_b fu) n
def rr_X10_runOnce (fu : Nat) (x1 : Int32) (s1 : ZT_10) : Option (Int32 × ZT_10) := rr_X10_runOnce_2 fu fu x1 (0 : Int32) s1
set_option maxHeartbeats 4000000 in
set_option maxRecDepth 100000 in
theorem cc_X10_runOnce (l : Launch) (dC : Nat → ClassId) (dI : Nat → Nat → Nat) (fu : Nat) (a1 : Nat → Nat) (k1 : Nat → ClassId) (sz : Nat) (x1 : Int32) (s1 : ZT_10) (res : Int32 × ZT_10) (hR : rr_X10_runOnce fu x1 s1 = some res) : Met l yX10_runOnce wsX10_runOnce ({ frames := 7, cells := 0, slots := 0, locals := 163 } : Room) (PcF [.ref (a1 0), .int x1] sz (dC, dI) (zc_10 a1 k1 s1) (zt_10 k1)) (va_Qi (fun (r : Int32) (u : ZT_10) => res = (r, u)) (fun u t => at3_ (dC, dI) (zc_10 a1 k1 u) (zt_10 k1) (va_A (zc_10 a1 k1 s1) sz) t) (va_A (zc_10 a1 k1 s1) sz)) 0 0 (va_A (zc_10 a1 k1 s1) sz) := by
  refine Met.ofW (cc := cX10_runOnce) (maxL := 3) (ret := (some .int)) (by decide) rfl ?_
  intro p e s m args below meth c s₁ B hml hv
  obtain ⟨hav, hsz, hP, hK, hD0⟩ := hv
  have hx := B.exec
  have hb := B.bytes
  have hr := B.returns
  have hts := atoms_spec (ws := wsX10_runOnce) B.pre
  have hown : s.vm.findClass RX10 = some m.cls := findClass_of_methodNamed B.named
  have hlocks := B.notSynchronized
  have hin10 : ∀ w ∈ wsX100, w ∈ wsX10_runOnce := fun w h => List.mem_cons_of_mem _ (List.mem_append_right _ h)
  subst hsz
  have hD := hD0.self (sz := s.heap.size)
  clear hD0
  generalize hAe : va_A (zc_10 a1 k1 s1) s.heap.size = A at hD ⊢
  have hA : ∀ q : Nat, s.heap.size ≤ q → A q := fun q h => by rw [← hAe]; exact Or.inr h
  have hS : va_S A s.heap s.heap [] := va_S.rf
  generalize hQe : MQ below _ args s 0 0 A = Q
  rw [show entryFrame m args 3 = F0 m 0 ((lg_sl ([.ref (a1 0), .int x1]) ++ List.replicate (3 - (lg_sl ([.ref (a1 0), .int x1])).length) Slot.unset).toArray) [] from by rw [hav]; exact lg_entry_eq m _ _]
  have hl := lv_entry ([.ref (a1 0), .int x1]) (n := 3) (Nat.le_of_ble_eq_true rfl)
  generalize (lg_sl ([.ref (a1 0), .int x1]) ++ List.replicate (3 - (lg_sl ([.ref (a1 0), .int x1])).length) Slot.unset).toArray = ls at hl ⊢
  have hl : lv_has ls 3 [(0, .ref (a1 0)), (1, .int x1)] := hl
  have hB2 : ∀ (n : Nat), ∀ (y1 : Int32) (y2 : Int32) (u1 : ZT_10) (H : Heap) (locs : List Loc) (ls : Array Slot), va_P (dC, dI) vwCl (zc_10 a1 k1 u1) H → va_D A (zc_10 a1 k1 u1) → va_S A s.heap H locs → lv_has ls 3 [(0, .ref (a1 0)), (1, .int y1), (2, .int y2)] → rr_X10_runOnce_2 fu n y1 y2 u1 = some res → W p l e ({ frames := 7, cells := 0, slots := 0, locals := 163 } : Room) s m args below meth c H locs 0 0 Q (F0 m 2 ls []) := by
    intro  n
    induction n with
    | zero => intro y1 y2 u1 H locs ls hP hD hS hl hR; exact absurd hR (by intro h; cases h)
    | succ n ih =>
      intro y1 y2 u1 H locs ls hP hD hS hl hR
      replace hR : rr_X10_runOnce_2_b fu (rr_X10_runOnce_2 fu n) y1 y2 u1 = some res := hR
      unfold rr_X10_runOnce_2_b at hR
      refine lv_iload_n hx hb dX10_runOnce_2 rfl (lv_at hl 2 rfl) ?_
      refine lv_bipush (v := (24 : Int32)) hx hb dX10_runOnce_3 (by decide) ?_
      refine lv_icmp_ge (tgt := 21) hx hb dX10_runOnce_5 (by decide) (fun c2 => ?_) (fun c2 => ?_)
      · replace hR := ifp_ hR c2
        refine lv_aload_n hx hb dX10_runOnce_21 rfl (lv_at hl 0 rfl) ?_
        have hR0 := ob_ok hR
        clear hR
        obtain ⟨q3, hq3, hR⟩ := hR0
        refine va_callv (va_runV (As := []) (rest := []) ⟨hx, hb, hml, hown, hts⟩ (cc_X10_keep l dC dI fu a1 k1 H.size u1 q3 hq3) (cwV 0 hts gX10_runOnce_X10_keep rfl rfl rfl (by decide +kernel) ⟨Nat.le_of_ble_eq_true rfl, Nat.le_of_ble_eq_true rfl⟩) (pf_v hK hP hD 10 0 rfl rfl rfl) rfl rfl hl.1 rfl (lv_room (Nat.le_of_ble_eq_true rfl)) dX10_runOnce_22 ⟨Nat.le_refl _, Nat.le_refl _⟩) hS (fun q _ h => (fr_all hD hS hA) q h) (fr_all hD hS hA) (fun v3 t3 H3 locs3 ht3 hvm3 hw3 hB3 hz3 hk3 hS3 => ?_)
        subst hw3
        obtain ⟨hP3, hD3⟩ := jn_all hD hS hA ht3 hB3
        have hP3 : va_P (dC, dI) vwCl (zc_10 a1 k1 q3) H3 := hP3
        have hD3 : va_D A (zc_10 a1 k1 q3) := hD3
        clear hP hD hS hB3 hk3 hvm3 hz3 ht3
        refine lv_aload_n hx hb dX10_runOnce_25 rfl (lv_at hl 0 rfl) ?_
        refine lv_iconst (v := (1 : Int32)) hx hb dX10_runOnce_26 (by decide) ?_
        have hR0 := ob_ok hR
        clear hR
        obtain ⟨q4, hq4, hR⟩ := hR0
        refine va_calli (va_runV (As := [.int (1 : Int32)]) (rest := []) ⟨hx, hb, hml, hown, hts⟩ (cc_X10_runDay l dC dI fu a1 k1 H3.size (1 : Int32) q3 q4 hq4) (cwV 1 hts gX10_runOnce_X10_runDay rfl rfl rfl (by decide +kernel) ⟨Nat.le_of_ble_eq_true rfl, Nat.le_of_ble_eq_true rfl⟩) (pf_v hK hP3 hD3 10 0 rfl rfl rfl) rfl rfl hl.1 rfl (lv_room (Nat.le_of_ble_eq_true rfl)) dX10_runOnce_27 ⟨Nat.le_refl _, Nat.le_refl _⟩) hS3 (fun q _ h => (fr_all hD3 hS3 hA) q h) (fr_all hD3 hS3 hA) (fun r4 v4 t4 H4 locs4 ht4 hvm4 hw4 hB4 hz4 hk4 hS4 => ?_)
        obtain rfl : r4 = q4.1 := (congrArg Prod.fst hw4).symm
        obtain rfl : v4 = q4.2 := (congrArg Prod.snd hw4).symm
        obtain ⟨hP4, hD4⟩ := jn_all hD3 hS3 hA ht4 hB4
        have hP4 : va_P (dC, dI) vwCl (zc_10 a1 k1 q4.2) H4 := hP4
        have hD4 : va_D A (zc_10 a1 k1 q4.2) := hD4
        clear hP3 hD3 hS3 hB4 hk4 hvm4 hz4 ht4
        refine lv_pop hx hb dX10_runOnce_30 rfl ?_
        refine lv_aload_n hx hb dX10_runOnce_31 rfl (lv_at hl 0 rfl) ?_
        refine lv_iload_n hx hb dX10_runOnce_32 rfl (lv_at hl 1 rfl) ?_
        have hR0 := ob_ok hR
        clear hR
        obtain ⟨q5, hq5, hR⟩ := hR0
        refine va_calli (va_runV (As := [.int y1]) (rest := []) ⟨hx, hb, hml, hown, hts⟩ (cc_X10_worthOf l dC dI fu a1 k1 H4.size y1 q4.2 q5 hq5) (cwV 1 hts gX10_runOnce_X10_worthOf rfl rfl rfl (by decide +kernel) ⟨Nat.le_of_ble_eq_true rfl, Nat.le_of_ble_eq_true rfl⟩) (pf_v hK hP4 hD4 10 0 rfl rfl rfl) rfl rfl hl.1 rfl (lv_room (Nat.le_of_ble_eq_true rfl)) dX10_runOnce_33 ⟨Nat.le_refl _, Nat.le_refl _⟩) hS4 (fun q _ h => (fr_all hD4 hS4 hA) q h) (fr_all hD4 hS4 hA) (fun r5 v5 t5 H5 locs5 ht5 hvm5 hw5 hB5 hz5 hk5 hS5 => ?_)
        subst hw5
        obtain ⟨hP5, hD5⟩ := jn_all hD4 hS4 hA ht5 hB5
        have hP5 : va_P (dC, dI) vwCl (zc_10 a1 k1 q4.2) H5 := hP5
        have hD5 : va_D A (zc_10 a1 k1 q4.2) := hD5
        clear hP4 hD4 hS4 hB5 hk5 hvm5 hz5 ht5
        refine lv_istore_n (lv' := [(2, .int q5), (0, .ref (a1 0)), (1, .int y1)]) hx hb dX10_runOnce_36 rfl hl (by decide) rfl (fun ls6 hl6 => ?_)
        refine lv_aload_n hx hb dX10_runOnce_37 rfl (lv_at hl6 1 rfl) ?_
        have hR0 := ob_ok hR
        clear hR
        obtain ⟨q7, hq7, hR⟩ := hR0
        refine va_callv (va_runV (As := []) (rest := []) ⟨hx, hb, hml, hown, hts⟩ (cc_X10_bringBack l dC dI fu a1 k1 H5.size q4.2 q7 hq7) (cwV 0 hts gX10_runOnce_X10_bringBack rfl rfl rfl (by decide +kernel) ⟨Nat.le_of_ble_eq_true rfl, Nat.le_of_ble_eq_true rfl⟩) (pf_v hK hP5 hD5 10 0 rfl rfl rfl) rfl rfl hl6.1 rfl (lv_room (Nat.le_of_ble_eq_true rfl)) dX10_runOnce_38 ⟨Nat.le_refl _, Nat.le_refl _⟩) hS5 (fun q _ h => (fr_all hD5 hS5 hA) q h) (fr_all hD5 hS5 hA) (fun v7 t7 H7 locs7 ht7 hvm7 hw7 hB7 hz7 hk7 hS7 => ?_)
        subst hw7
        obtain ⟨hP7, hD7⟩ := jn_all hD5 hS5 hA ht7 hB7
        have hP7 : va_P (dC, dI) vwCl (zc_10 a1 k1 q7) H7 := hP7
        have hD7 : va_D A (zc_10 a1 k1 q7) := hD7
        clear hP5 hD5 hS5 hB7 hk7 hvm7 hz7 ht7
        refine lv_iload_n hx hb dX10_runOnce_41 rfl (lv_at hl6 0 rfl) ?_
        subst hQe
        exact W.iret (v := q5) hx hb hr (fun t ht hW => ⟨⟨q5, q7, rfl, (Option.some.inj hR).symm, by rw [ht]; exact hP7, va_K.moved hW.alike hK, hD7⟩, hS7.F ht⟩) hS7.2.2 dX10_runOnce_42
      · replace hR := ifn_ hR c2
        refine lv_aload_n hx hb dX10_runOnce_8 rfl (lv_at hl 0 rfl) ?_
        refine va_get (D := (dC, dI)) (ci := 10) (v := .ref (a1 15)) (C := RX10) (T := TX10) (N := 35) hx hb hts hin10 hown hK hP 0 rfl rfl 27 (by decide) (hts (.fieldLink RX10 52 "OldestCoinsModel" "paidBy" "[J") (List.mem_of_getElem? (i := 1) rfl)) (fun _ h9 => h9) rfl dX10_runOnce_9 ?_
        refine lv_iload_n hx hb dX10_runOnce_12 rfl (lv_at hl 2 rfl) ?_
        refine lv_lconst (v := (0 : Int64)) hx hb dX10_runOnce_13 (by decide) ?_
        have i8 := (ck_ok hR).1
        replace hR := (ck_ok hR).2
        refine va_last (f := u1.2.2.2.2.2.2.2.1.1) hx hb hK hP hD hS 15 14 rfl rfl i8 dX10_runOnce_14 (fun H8 locs8 hP8 hD8 hS8 => ?_)
        have hP8 : va_P (dC, dI) vwCl (zc_10 a1 k1 (u1.1, u1.2.1, u1.2.2.1, u1.2.2.2.1, u1.2.2.2.2.1, u1.2.2.2.2.2.1, u1.2.2.2.2.2.2.1, ((vp_updL u1.2.2.2.2.2.2.2.1.1 y2.toNatClampNeg (0 : Int64)), u1.2.2.2.2.2.2.2.1.2), u1.2.2.2.2.2.2.2.2)) H8 := hP8
        have hD8 : va_D A (zc_10 a1 k1 (u1.1, u1.2.1, u1.2.2.1, u1.2.2.2.1, u1.2.2.2.2.1, u1.2.2.2.2.2.1, u1.2.2.2.2.2.2.1, ((vp_updL u1.2.2.2.2.2.2.2.1.1 y2.toNatClampNeg (0 : Int64)), u1.2.2.2.2.2.2.2.1.2), u1.2.2.2.2.2.2.2.2)) := hD8
        clear hP hD hS
        obtain ⟨z9, ez9⟩ : ∃ y : Int32, y = (y2 + (1 : Int32)) := ⟨_, rfl⟩
        replace hR := lt_ok hR ez9
        refine lv_iinc (v := z9) (lv' := [(2, .int z9), (0, .ref (a1 0)), (1, .int y1)]) hx hb dX10_runOnce_15 hl (k := 2) rfl (by rw [ez9]; rfl) (by decide) rfl (fun ls9 hl9 => ?_)
        refine lv_goto (tgt := 2) hx hb dX10_runOnce_18 (by decide) ?_
        exact ih y1 z9 (u1.1, u1.2.1, u1.2.2.1, u1.2.2.2.1, u1.2.2.2.2.1, u1.2.2.2.2.2.1, u1.2.2.2.2.2.2.1, ((vp_updL u1.2.2.2.2.2.2.2.1.1 y2.toNatClampNeg (0 : Int64)), u1.2.2.2.2.2.2.2.1.2), u1.2.2.2.2.2.2.2.2) H8 locs8 ls9 hP8 hD8 hS8 (lv_sub hl9 [1, 2, 0] rfl) hR
  unfold rr_X10_runOnce at hR
  refine lv_iconst (v := (0 : Int32)) hx hb dX10_runOnce_0 (by decide) ?_
  refine lv_istore_n (lv' := [(2, .int (0 : Int32)), (0, .ref (a1 0)), (1, .int x1)]) hx hb dX10_runOnce_1 rfl hl (by decide) rfl (fun ls1 hl1 => ?_)
  exact hB2 fu x1 (0 : Int32) s1 s.heap [] ls1 hP hD hS (lv_sub hl1 [1, 2, 0] rfl) hR
def rr_X10_runForged (fu : Nat) (x1 : Int32) (x2 : Int32) (x3 : Int32) (s1 : ZT_10) : Option (Int32 × ZT_10) := ck_ x1 40 (lt_ (α := Int32) (s1.1.2.2.2.1 x1.toNatClampNeg) (fun z2 => ck_ x1 40 (lt_ (α := Int32) (s1.1.2.2.1 x1.toNatClampNeg) (fun z5 => ck_ x1 40 (ck_ x1 40 ((rr_X10_runOnce fu x3 ((s1.1.1, s1.1.2.1, (upd s1.1.2.2.1 x1.toNatClampNeg x2), (upd s1.1.2.2.2.1 x1.toNatClampNeg (1 : Int32)), s1.1.2.2.2.2), s1.2)).bind (fun q9 => ck_ x1 40 (ck_ x1 40 (some (q9.1, ((q9.2.1.1, q9.2.1.2.1, (upd q9.2.1.2.2.1 x1.toNatClampNeg z5), (upd q9.2.1.2.2.2.1 x1.toNatClampNeg z2), q9.2.1.2.2.2.2), q9.2.2)))))))))))
set_option maxHeartbeats 4000000 in
set_option maxRecDepth 100000 in
theorem cc_X10_runForged (l : Launch) (dC : Nat → ClassId) (dI : Nat → Nat → Nat) (fu : Nat) (a1 : Nat → Nat) (k1 : Nat → ClassId) (sz : Nat) (x1 : Int32) (x2 : Int32) (x3 : Int32) (s1 : ZT_10) (res : Int32 × ZT_10) (hR : rr_X10_runForged fu x1 x2 x3 s1 = some res) : Met l yX10_runForged wsX10_runForged ({ frames := 8, cells := 0, slots := 0, locals := 185 } : Room) (PcF [.ref (a1 0), .int x1, .int x2, .int x3] sz (dC, dI) (zc_10 a1 k1 s1) (zt_10 k1)) (va_Qi (fun (r : Int32) (u : ZT_10) => res = (r, u)) (fun u t => at3_ (dC, dI) (zc_10 a1 k1 u) (zt_10 k1) (va_A (zc_10 a1 k1 s1) sz) t) (va_A (zc_10 a1 k1 s1) sz)) 0 0 (va_A (zc_10 a1 k1 s1) sz) := by
  refine Met.ofW (cc := cX10_runForged) (maxL := 7) (ret := (some .int)) (by decide) rfl ?_
  intro p e s m args below meth c s₁ B hml hv
  obtain ⟨hav, hsz, hP, hK, hD0⟩ := hv
  have hx := B.exec
  have hb := B.bytes
  have hr := B.returns
  have hts := atoms_spec (ws := wsX10_runForged) B.pre
  have hown : s.vm.findClass RX10 = some m.cls := findClass_of_methodNamed B.named
  have hlocks := B.notSynchronized
  have hin10 : ∀ w ∈ wsX100, w ∈ wsX10_runForged := fun w h => List.mem_cons_of_mem _ (List.mem_append_right _ h)
  subst hsz
  have hD := hD0.self (sz := s.heap.size)
  clear hD0
  generalize hAe : va_A (zc_10 a1 k1 s1) s.heap.size = A at hD ⊢
  have hA : ∀ q : Nat, s.heap.size ≤ q → A q := fun q h => by rw [← hAe]; exact Or.inr h
  have hS : va_S A s.heap s.heap [] := va_S.rf
  generalize hQe : MQ below _ args s 0 0 A = Q
  rw [show entryFrame m args 7 = F0 m 0 ((lg_sl ([.ref (a1 0), .int x1, .int x2, .int x3]) ++ List.replicate (7 - (lg_sl ([.ref (a1 0), .int x1, .int x2, .int x3])).length) Slot.unset).toArray) [] from by rw [hav]; exact lg_entry_eq m _ _]
  have hl := lv_entry ([.ref (a1 0), .int x1, .int x2, .int x3]) (n := 7) (Nat.le_of_ble_eq_true rfl)
  generalize (lg_sl ([.ref (a1 0), .int x1, .int x2, .int x3]) ++ List.replicate (7 - (lg_sl ([.ref (a1 0), .int x1, .int x2, .int x3])).length) Slot.unset).toArray = ls at hl ⊢
  have hl : lv_has ls 7 [(0, .ref (a1 0)), (1, .int x1), (2, .int x2), (3, .int x3)] := hl
  unfold rr_X10_runForged at hR
  refine lv_aload_n hx hb dX10_runForged_0 rfl (lv_at hl 0 rfl) ?_
  refine va_get (D := (dC, dI)) (ci := 10) (v := .ref (a1 4)) (C := RX10) (T := TX10) (N := 35) hx hb hts hin10 hown hK hP 0 rfl rfl 3 (by decide) (hts (.fieldLink RX10 19 "OldestCoinsModel" "kinds" "[I") (List.mem_of_getElem? (i := 1) rfl)) (fun _ h9 => h9) rfl dX10_runForged_1 ?_
  refine lv_iload_n hx hb dX10_runForged_4 rfl (lv_at hl 1 rfl) ?_
  have i1 := (ck_ok hR).1
  replace hR := (ck_ok hR).2
  refine va_iald (f := s1.1.2.2.2.1) hx hb hK hP 4 3 rfl rfl i1 dX10_runForged_5 ?_
  refine lv_topi (fun z2 ez2 => ?_)
  replace hR := lt_ok hR ez2
  refine lv_istore (lv' := [(4, .int z2), (0, .ref (a1 0)), (1, .int x1), (2, .int x2), (3, .int x3)]) hx hb dX10_runForged_6 hl (by decide) rfl (fun ls3 hl3 => ?_)
  refine lv_aload_n hx hb dX10_runForged_8 rfl (lv_at hl3 1 rfl) ?_
  refine va_get (D := (dC, dI)) (ci := 10) (v := .ref (a1 3)) (C := RX10) (T := TX10) (N := 35) hx hb hts hin10 hown hK hP 0 rfl rfl 2 (by decide) (hts (.fieldLink RX10 16 "OldestCoinsModel" "stamps" "[I") (List.mem_of_getElem? (i := 2) rfl)) (fun _ h9 => h9) rfl dX10_runForged_9 ?_
  refine lv_iload_n hx hb dX10_runForged_12 rfl (lv_at hl3 2 rfl) ?_
  have i4 := (ck_ok hR).1
  replace hR := (ck_ok hR).2
  refine va_iald (f := s1.1.2.2.1) hx hb hK hP 3 2 rfl rfl i4 dX10_runForged_13 ?_
  refine lv_topi (fun z5 ez5 => ?_)
  replace hR := lt_ok hR ez5
  refine lv_istore (lv' := [(5, .int z5), (4, .int z2), (0, .ref (a1 0)), (1, .int x1), (2, .int x2), (3, .int x3)]) hx hb dX10_runForged_14 hl3 (by decide) rfl (fun ls6 hl6 => ?_)
  refine lv_aload_n hx hb dX10_runForged_16 rfl (lv_at hl6 2 rfl) ?_
  refine va_get (D := (dC, dI)) (ci := 10) (v := .ref (a1 4)) (C := RX10) (T := TX10) (N := 35) hx hb hts hin10 hown hK hP 0 rfl rfl 3 (by decide) (hts (.fieldLink RX10 19 "OldestCoinsModel" "kinds" "[I") (List.mem_of_getElem? (i := 1) rfl)) (fun _ h9 => h9) rfl dX10_runForged_17 ?_
  refine lv_iload_n hx hb dX10_runForged_20 rfl (lv_at hl6 3 rfl) ?_
  refine lv_iconst (v := (1 : Int32)) hx hb dX10_runForged_21 (by decide) ?_
  have i7 := (ck_ok hR).1
  replace hR := (ck_ok hR).2
  refine va_iast (f := s1.1.2.2.2.1) hx hb hK hP hD hS 4 3 rfl rfl i7 dX10_runForged_22 (fun H7 locs7 hP7 hD7 hS7 => ?_)
  have hP7 : va_P (dC, dI) vwCl (zc_10 a1 k1 ((s1.1.1, s1.1.2.1, s1.1.2.2.1, (upd s1.1.2.2.2.1 x1.toNatClampNeg (1 : Int32)), s1.1.2.2.2.2), s1.2)) H7 := hP7
  have hD7 : va_D A (zc_10 a1 k1 ((s1.1.1, s1.1.2.1, s1.1.2.2.1, (upd s1.1.2.2.2.1 x1.toNatClampNeg (1 : Int32)), s1.1.2.2.2.2), s1.2)) := hD7
  clear hP hD hS
  refine lv_aload_n hx hb dX10_runForged_23 rfl (lv_at hl6 2 rfl) ?_
  refine va_get (D := (dC, dI)) (ci := 10) (v := .ref (a1 3)) (C := RX10) (T := TX10) (N := 35) hx hb hts hin10 hown hK hP7 0 rfl rfl 2 (by decide) (hts (.fieldLink RX10 16 "OldestCoinsModel" "stamps" "[I") (List.mem_of_getElem? (i := 2) rfl)) (fun _ h9 => h9) rfl dX10_runForged_24 ?_
  refine lv_iload_n hx hb dX10_runForged_27 rfl (lv_at hl6 3 rfl) ?_
  refine lv_iload_n hx hb dX10_runForged_28 rfl (lv_at hl6 4 rfl) ?_
  have i8 := (ck_ok hR).1
  replace hR := (ck_ok hR).2
  refine va_iast (f := s1.1.2.2.1) hx hb hK hP7 hD7 hS7 3 2 rfl rfl i8 dX10_runForged_29 (fun H8 locs8 hP8 hD8 hS8 => ?_)
  have hP8 : va_P (dC, dI) vwCl (zc_10 a1 k1 ((s1.1.1, s1.1.2.1, (upd s1.1.2.2.1 x1.toNatClampNeg x2), (upd s1.1.2.2.2.1 x1.toNatClampNeg (1 : Int32)), s1.1.2.2.2.2), s1.2)) H8 := hP8
  have hD8 : va_D A (zc_10 a1 k1 ((s1.1.1, s1.1.2.1, (upd s1.1.2.2.1 x1.toNatClampNeg x2), (upd s1.1.2.2.2.1 x1.toNatClampNeg (1 : Int32)), s1.1.2.2.2.2), s1.2)) := hD8
  clear hP7 hD7 hS7
  refine lv_aload_n hx hb dX10_runForged_30 rfl (lv_at hl6 2 rfl) ?_
  refine lv_iload_n hx hb dX10_runForged_31 rfl (lv_at hl6 5 rfl) ?_
  have hR0 := ob_ok hR
  clear hR
  obtain ⟨q9, hq9, hR⟩ := hR0
  refine va_calli (va_runV (As := [.int x3]) (rest := []) ⟨hx, hb, hml, hown, hts⟩ (cc_X10_runOnce l dC dI fu a1 k1 H8.size x3 ((s1.1.1, s1.1.2.1, (upd s1.1.2.2.1 x1.toNatClampNeg x2), (upd s1.1.2.2.2.1 x1.toNatClampNeg (1 : Int32)), s1.1.2.2.2.2), s1.2) q9 hq9) (cwV 1 hts gX10_runForged_X10_runOnce rfl rfl rfl (by decide +kernel) ⟨Nat.le_of_ble_eq_true rfl, Nat.le_of_ble_eq_true rfl⟩) (pf_v hK hP8 hD8 10 0 rfl rfl rfl) rfl rfl hl6.1 rfl (lv_room (Nat.le_of_ble_eq_true rfl)) dX10_runForged_32 ⟨Nat.le_refl _, Nat.le_refl _⟩) hS8 (fun q _ h => (fr_all hD8 hS8 hA) q h) (fr_all hD8 hS8 hA) (fun r9 v9 t9 H9 locs9 ht9 hvm9 hw9 hB9 hz9 hk9 hS9 => ?_)
  obtain rfl : r9 = q9.1 := (congrArg Prod.fst hw9).symm
  obtain rfl : v9 = q9.2 := (congrArg Prod.snd hw9).symm
  obtain ⟨hP9, hD9⟩ := jn_all hD8 hS8 hA ht9 hB9
  have hP9 : va_P (dC, dI) vwCl (zc_10 a1 k1 q9.2) H9 := hP9
  have hD9 : va_D A (zc_10 a1 k1 q9.2) := hD9
  clear hP8 hD8 hS8 hB9 hk9 hvm9 hz9 ht9
  refine lv_istore (lv' := [(6, .int q9.1), (5, .int z5), (4, .int z2), (0, .ref (a1 0)), (1, .int x1), (2, .int x2), (3, .int x3)]) hx hb dX10_runForged_35 hl6 (by decide) rfl (fun ls10 hl10 => ?_)
  refine lv_aload_n hx hb dX10_runForged_37 rfl (lv_at hl10 3 rfl) ?_
  refine va_get (D := (dC, dI)) (ci := 10) (v := .ref (a1 4)) (C := RX10) (T := TX10) (N := 35) hx hb hts hin10 hown hK hP9 0 rfl rfl 3 (by decide) (hts (.fieldLink RX10 19 "OldestCoinsModel" "kinds" "[I") (List.mem_of_getElem? (i := 1) rfl)) (fun _ h9 => h9) rfl dX10_runForged_38 ?_
  refine lv_iload_n hx hb dX10_runForged_41 rfl (lv_at hl10 4 rfl) ?_
  refine lv_iload hx hb dX10_runForged_42 (lv_at hl10 2 rfl) ?_
  have i11 := (ck_ok hR).1
  replace hR := (ck_ok hR).2
  refine va_iast (f := q9.2.1.2.2.2.1) hx hb hK hP9 hD9 hS9 4 3 rfl rfl i11 dX10_runForged_44 (fun H11 locs11 hP11 hD11 hS11 => ?_)
  have hP11 : va_P (dC, dI) vwCl (zc_10 a1 k1 ((q9.2.1.1, q9.2.1.2.1, q9.2.1.2.2.1, (upd q9.2.1.2.2.2.1 x1.toNatClampNeg z2), q9.2.1.2.2.2.2), q9.2.2)) H11 := hP11
  have hD11 : va_D A (zc_10 a1 k1 ((q9.2.1.1, q9.2.1.2.1, q9.2.1.2.2.1, (upd q9.2.1.2.2.2.1 x1.toNatClampNeg z2), q9.2.1.2.2.2.2), q9.2.2)) := hD11
  clear hP9 hD9 hS9
  refine lv_aload_n hx hb dX10_runForged_45 rfl (lv_at hl10 3 rfl) ?_
  refine va_get (D := (dC, dI)) (ci := 10) (v := .ref (a1 3)) (C := RX10) (T := TX10) (N := 35) hx hb hts hin10 hown hK hP11 0 rfl rfl 2 (by decide) (hts (.fieldLink RX10 16 "OldestCoinsModel" "stamps" "[I") (List.mem_of_getElem? (i := 2) rfl)) (fun _ h9 => h9) rfl dX10_runForged_46 ?_
  refine lv_iload_n hx hb dX10_runForged_49 rfl (lv_at hl10 4 rfl) ?_
  refine lv_iload hx hb dX10_runForged_50 (lv_at hl10 1 rfl) ?_
  have i12 := (ck_ok hR).1
  replace hR := (ck_ok hR).2
  refine va_iast (f := q9.2.1.2.2.1) hx hb hK hP11 hD11 hS11 3 2 rfl rfl i12 dX10_runForged_52 (fun H12 locs12 hP12 hD12 hS12 => ?_)
  have hP12 : va_P (dC, dI) vwCl (zc_10 a1 k1 ((q9.2.1.1, q9.2.1.2.1, (upd q9.2.1.2.2.1 x1.toNatClampNeg z5), (upd q9.2.1.2.2.2.1 x1.toNatClampNeg z2), q9.2.1.2.2.2.2), q9.2.2)) H12 := hP12
  have hD12 : va_D A (zc_10 a1 k1 ((q9.2.1.1, q9.2.1.2.1, (upd q9.2.1.2.2.1 x1.toNatClampNeg z5), (upd q9.2.1.2.2.2.1 x1.toNatClampNeg z2), q9.2.1.2.2.2.2), q9.2.2)) := hD12
  clear hP11 hD11 hS11
  refine lv_iload hx hb dX10_runForged_53 (lv_at hl10 0 rfl) ?_
  subst hQe
  exact W.iret (v := q9.1) hx hb hr (fun t ht hW => ⟨⟨q9.1, ((q9.2.1.1, q9.2.1.2.1, (upd q9.2.1.2.2.1 x1.toNatClampNeg z5), (upd q9.2.1.2.2.2.1 x1.toNatClampNeg z2), q9.2.1.2.2.2.2), q9.2.2), rfl, (Option.some.inj hR).symm, by rw [ht]; exact hP12, va_K.moved hW.alike hK, hD12⟩, hS12.F ht⟩) hS12.2.2 dX10_runForged_55
def rr_X10_shows_64_b (fu : Nat) (rec64 : Int32 → ZT_10 → Option (Int32 × ZT_10)) (y3 : Int32) (u1 : ZT_10) : Option (Int32 × ZT_10) := (if u1.2.2.1.2 ≤ y3 then some ((-4 : Int32), u1) else ck_ y3 24 (ck_ y3 24 ((if (lg_cmp (u1.2.2.2.2.2.2.2.1.2 y3.toNatClampNeg) (u1.2.2.2.2.2.2.2.1.1 y3.toNatClampNeg)) = (0 : Int32) then lt_ (α := Int32) (y3 + (1 : Int32)) (fun z18 => rec64 z18 u1) else some (y3, u1)))))
def rr_X10_shows_64 (fu : Nat) (n : Nat) : Int32 → ZT_10 → Option (Int32 × ZT_10) := lp_ (fun _ _ => none) (rr_X10_shows_64_b fu) n
def rr_X10_shows_32_b (fu : Nat) (rec32 : Int32 → ZT_10 → Option (Int32 × ZT_10)) (y3 : Int32) (u1 : ZT_10) : Option (Int32 × ZT_10) := (if (24 : Int32) ≤ y3 then (rr_X10_runOnce fu (0 : Int32) u1).bind (fun q8 => rr_X10_shows_64 fu fu (0 : Int32) q8.2) else ck_ y3 24 (lt_ (α := Int64) (u1.2.2.2.2.2.2.2.1.1 y3.toNatClampNeg) (fun z11 => ck_ y3 24 (lt_ (α := Int32) (y3 + (1 : Int32)) (fun z13 => rec32 z13 (u1.1, u1.2.1, u1.2.2.1, u1.2.2.2.1, u1.2.2.2.2.1, u1.2.2.2.2.2.1, u1.2.2.2.2.2.2.1, (u1.2.2.2.2.2.2.2.1.1, (vp_updL u1.2.2.2.2.2.2.2.1.2 y3.toNatClampNeg z11)), u1.2.2.2.2.2.2.2.2))))))
def rr_X10_shows_32 (fu : Nat) (n : Nat) : Int32 → ZT_10 → Option (Int32 × ZT_10) := lp_ (fun _ _ => none) (rr_X10_shows_32_b fu) n
def rr_X10_shows (fu : Nat) (x1 : Int32) (x2 : Int32) (s1 : ZT_10) : Option (Int32 × ZT_10) := (rr_X10_isCoin fu x1 s1).bind (fun q1 => (if q1 = (0 : Int32) then some ((-1 : Int32), s1) else (rr_X10_in fu x2.toInt64 (0 : Int64) (99 : Int64)).bind (fun q3 => (if q3 = (0 : Int32) then some ((-1 : Int32), s1) else (rr_X10_runForged fu x1 x2 (0 : Int32) s1).bind (fun q5 => rr_X10_shows_32 fu fu (0 : Int32) q5.2)))))
set_option maxHeartbeats 4000000 in
set_option maxRecDepth 100000 in
theorem cc_X10_shows (l : Launch) (dC : Nat → ClassId) (dI : Nat → Nat → Nat) (fu : Nat) (a1 : Nat → Nat) (k1 : Nat → ClassId) (sz : Nat) (x1 : Int32) (x2 : Int32) (s1 : ZT_10) (res : Int32 × ZT_10) (hR : rr_X10_shows fu x1 x2 s1 = some res) : Met l yX10_shows wsX10_shows ({ frames := 9, cells := 0, slots := 0, locals := 211 } : Room) (PcF [.ref (a1 0), .int x1, .int x2] sz (dC, dI) (zc_10 a1 k1 s1) (zt_10 k1)) (va_Qi (fun (r : Int32) (u : ZT_10) => res = (r, u)) (fun u t => at3_ (dC, dI) (zc_10 a1 k1 u) (zt_10 k1) (va_A (zc_10 a1 k1 s1) sz) t) (va_A (zc_10 a1 k1 s1) sz)) 0 0 (va_A (zc_10 a1 k1 s1) sz) := by
  refine Met.ofW (cc := cX10_shows) (maxL := 4) (ret := (some .int)) (by decide) rfl ?_
  intro p e s m args below meth c s₁ B hml hv
  obtain ⟨hav, hsz, hP, hK, hD0⟩ := hv
  have hx := B.exec
  have hb := B.bytes
  have hr := B.returns
  have hts := atoms_spec (ws := wsX10_shows) B.pre
  have hown : s.vm.findClass RX10 = some m.cls := findClass_of_methodNamed B.named
  have hlocks := B.notSynchronized
  have hin10 : ∀ w ∈ wsX100, w ∈ wsX10_shows := fun w h => List.mem_cons_of_mem _ (List.mem_append_right _ h)
  subst hsz
  have hD := hD0.self (sz := s.heap.size)
  clear hD0
  generalize hAe : va_A (zc_10 a1 k1 s1) s.heap.size = A at hD ⊢
  have hA : ∀ q : Nat, s.heap.size ≤ q → A q := fun q h => by rw [← hAe]; exact Or.inr h
  have hS : va_S A s.heap s.heap [] := va_S.rf
  generalize hQe : MQ below _ args s 0 0 A = Q
  rw [show entryFrame m args 4 = F0 m 0 ((lg_sl ([.ref (a1 0), .int x1, .int x2]) ++ List.replicate (4 - (lg_sl ([.ref (a1 0), .int x1, .int x2])).length) Slot.unset).toArray) [] from by rw [hav]; exact lg_entry_eq m _ _]
  have hl := lv_entry ([.ref (a1 0), .int x1, .int x2]) (n := 4) (Nat.le_of_ble_eq_true rfl)
  generalize (lg_sl ([.ref (a1 0), .int x1, .int x2]) ++ List.replicate (4 - (lg_sl ([.ref (a1 0), .int x1, .int x2])).length) Slot.unset).toArray = ls at hl ⊢
  have hl : lv_has ls 4 [(0, .ref (a1 0)), (1, .int x1), (2, .int x2)] := hl
  have hB64 : ∀ (n : Nat), ∀ (y3 : Int32) (u1 : ZT_10) (H : Heap) (locs : List Loc) (ls : Array Slot), va_P (dC, dI) vwCl (zc_10 a1 k1 u1) H → va_D A (zc_10 a1 k1 u1) → va_S A s.heap H locs → lv_has ls 4 [(0, .ref (a1 0)), (3, .int y3)] → rr_X10_shows_64 fu n y3 u1 = some res → W p l e ({ frames := 9, cells := 0, slots := 0, locals := 211 } : Room) s m args below meth c H locs 0 0 Q (F0 m 64 ls []) := by
    intro  n
    induction n with
    | zero => intro y3 u1 H locs ls hP hD hS hl hR; exact absurd hR (by intro h; cases h)
    | succ n ih =>
      intro y3 u1 H locs ls hP hD hS hl hR
      replace hR : rr_X10_shows_64_b fu (rr_X10_shows_64 fu n) y3 u1 = some res := hR
      unfold rr_X10_shows_64_b at hR
      refine lv_iload_n hx hb dX10_shows_64 rfl (lv_at hl 1 rfl) ?_
      refine lv_aload_n hx hb dX10_shows_65 rfl (lv_at hl 0 rfl) ?_
      refine va_get (D := (dC, dI)) (ci := 10) (v := .int u1.2.2.1.2) (C := RX10) (T := TX10) (N := 35) hx hb hts hin10 hown hK hP 0 rfl rfl 11 (by decide) (hts (.fieldLink RX10 132 "OldestCoinsModel" "billMany" "I") (List.mem_of_getElem? (i := 4) rfl)) (fun _ h9 => h9) rfl dX10_shows_66 ?_
      refine lv_icmp_ge (tgt := 96) hx hb dX10_shows_69 (by decide) (fun c14 => ?_) (fun c14 => ?_)
      · replace hR := ifp_ hR c14
        refine lv_bipush (v := (-4 : Int32)) hx hb dX10_shows_96 (by decide) ?_
        subst hQe
        exact W.iret (v := (-4 : Int32)) hx hb hr (fun t ht hW => ⟨⟨(-4 : Int32), u1, rfl, (Option.some.inj hR).symm, by rw [ht]; exact hP, va_K.moved hW.alike hK, hD⟩, hS.F ht⟩) hS.2.2 dX10_shows_98
      · replace hR := ifn_ hR c14
        refine lv_aload_n hx hb dX10_shows_72 rfl (lv_at hl 0 rfl) ?_
        refine va_get (D := (dC, dI)) (ci := 10) (v := .ref (a1 16)) (C := RX10) (T := TX10) (N := 35) hx hb hts hin10 hown hK hP 0 rfl rfl 28 (by decide) (hts (.fieldLink RX10 56 "OldestCoinsModel" "paidThen" "[J") (List.mem_of_getElem? (i := 2) rfl)) (fun _ h9 => h9) rfl dX10_shows_73 ?_
        refine lv_iload_n hx hb dX10_shows_76 rfl (lv_at hl 1 rfl) ?_
        have i15 := (ck_ok hR).1
        replace hR := (ck_ok hR).2
        refine va_lald (f := u1.2.2.2.2.2.2.2.1.2) hx hb hK hP 16 15 rfl rfl i15 dX10_shows_77 ?_
        refine lv_aload_n hx hb dX10_shows_78 rfl (lv_at hl 0 rfl) ?_
        refine va_get (D := (dC, dI)) (ci := 10) (v := .ref (a1 15)) (C := RX10) (T := TX10) (N := 35) hx hb hts hin10 hown hK hP 0 rfl rfl 27 (by decide) (hts (.fieldLink RX10 52 "OldestCoinsModel" "paidBy" "[J") (List.mem_of_getElem? (i := 3) rfl)) (fun _ h9 => h9) rfl dX10_shows_79 ?_
        refine lv_iload_n hx hb dX10_shows_82 rfl (lv_at hl 1 rfl) ?_
        have i16 := (ck_ok hR).1
        replace hR := (ck_ok hR).2
        refine va_lald (f := u1.2.2.2.2.2.2.2.1.1) hx hb hK hP 15 14 rfl rfl i16 dX10_shows_83 ?_
        refine W.lcmp hx hb dX10_shows_84 ?_
        refine lv_if_eq (tgt := 90) hx hb dX10_shows_85 (by decide) (fun c17 => ?_) (fun c17 => ?_)
        · replace hR := ifp_ hR c17
          obtain ⟨z18, ez18⟩ : ∃ y : Int32, y = (y3 + (1 : Int32)) := ⟨_, rfl⟩
          replace hR := lt_ok hR ez18
          refine lv_iinc (v := z18) (lv' := [(3, .int z18), (0, .ref (a1 0))]) hx hb dX10_shows_90 hl (k := 1) rfl (by rw [ez18]; rfl) (by decide) rfl (fun ls18 hl18 => ?_)
          refine lv_goto (tgt := 64) hx hb dX10_shows_93 (by decide) ?_
          exact ih z18 u1 H locs ls18 hP hD hS (lv_sub hl18 [1, 0] rfl) hR
        · replace hR := ifn_ hR c17
          refine lv_iload_n hx hb dX10_shows_88 rfl (lv_at hl 1 rfl) ?_
          subst hQe
          exact W.iret (v := y3) hx hb hr (fun t ht hW => ⟨⟨y3, u1, rfl, (Option.some.inj hR).symm, by rw [ht]; exact hP, va_K.moved hW.alike hK, hD⟩, hS.F ht⟩) hS.2.2 dX10_shows_89
  have hB32 : ∀ (n : Nat), ∀ (y3 : Int32) (u1 : ZT_10) (H : Heap) (locs : List Loc) (ls : Array Slot), va_P (dC, dI) vwCl (zc_10 a1 k1 u1) H → va_D A (zc_10 a1 k1 u1) → va_S A s.heap H locs → lv_has ls 4 [(0, .ref (a1 0)), (3, .int y3)] → rr_X10_shows_32 fu n y3 u1 = some res → W p l e ({ frames := 9, cells := 0, slots := 0, locals := 211 } : Room) s m args below meth c H locs 0 0 Q (F0 m 32 ls []) := by
    intro  n
    induction n with
    | zero => intro y3 u1 H locs ls hP hD hS hl hR; exact absurd hR (by intro h; cases h)
    | succ n ih =>
      intro y3 u1 H locs ls hP hD hS hl hR
      replace hR : rr_X10_shows_32_b fu (rr_X10_shows_32 fu n) y3 u1 = some res := hR
      unfold rr_X10_shows_32_b at hR
      refine lv_iload_n hx hb dX10_shows_32 rfl (lv_at hl 1 rfl) ?_
      refine lv_bipush (v := (24 : Int32)) hx hb dX10_shows_33 (by decide) ?_
      refine lv_icmp_ge (tgt := 56) hx hb dX10_shows_35 (by decide) (fun c7 => ?_) (fun c7 => ?_)
      · replace hR := ifp_ hR c7
        refine lv_aload_n hx hb dX10_shows_56 rfl (lv_at hl 0 rfl) ?_
        refine lv_iconst (v := (0 : Int32)) hx hb dX10_shows_57 (by decide) ?_
        have hR0 := ob_ok hR
        clear hR
        obtain ⟨q8, hq8, hR⟩ := hR0
        refine va_calli (va_runV (As := [.int (0 : Int32)]) (rest := []) ⟨hx, hb, hml, hown, hts⟩ (cc_X10_runOnce l dC dI fu a1 k1 H.size (0 : Int32) u1 q8 hq8) (cwV 1 hts gX10_shows_X10_runOnce rfl rfl rfl (by decide +kernel) ⟨Nat.le_of_ble_eq_true rfl, Nat.le_of_ble_eq_true rfl⟩) (pf_v hK hP hD 10 0 rfl rfl rfl) rfl rfl hl.1 rfl (lv_room (Nat.le_of_ble_eq_true rfl)) dX10_shows_58 ⟨Nat.le_refl _, Nat.le_refl _⟩) hS (fun q _ h => (fr_all hD hS hA) q h) (fr_all hD hS hA) (fun r8 v8 t8 H8 locs8 ht8 hvm8 hw8 hB8 hz8 hk8 hS8 => ?_)
        obtain rfl : r8 = q8.1 := (congrArg Prod.fst hw8).symm
        obtain rfl : v8 = q8.2 := (congrArg Prod.snd hw8).symm
        obtain ⟨hP8, hD8⟩ := jn_all hD hS hA ht8 hB8
        have hP8 : va_P (dC, dI) vwCl (zc_10 a1 k1 q8.2) H8 := hP8
        have hD8 : va_D A (zc_10 a1 k1 q8.2) := hD8
        clear hP hD hS hB8 hk8 hvm8 hz8 ht8
        refine lv_pop hx hb dX10_shows_61 rfl ?_
        refine lv_iconst (v := (0 : Int32)) hx hb dX10_shows_62 (by decide) ?_
        refine lv_istore_n (lv' := [(3, .int (0 : Int32)), (0, .ref (a1 0))]) hx hb dX10_shows_63 rfl hl (by decide) rfl (fun ls9 hl9 => ?_)
        exact hB64 fu (0 : Int32) q8.2 H8 locs8 ls9 hP8 hD8 hS8 (lv_sub hl9 [1, 0] rfl) hR
      · replace hR := ifn_ hR c7
        refine lv_aload_n hx hb dX10_shows_38 rfl (lv_at hl 0 rfl) ?_
        refine va_get (D := (dC, dI)) (ci := 10) (v := .ref (a1 16)) (C := RX10) (T := TX10) (N := 35) hx hb hts hin10 hown hK hP 0 rfl rfl 28 (by decide) (hts (.fieldLink RX10 56 "OldestCoinsModel" "paidThen" "[J") (List.mem_of_getElem? (i := 2) rfl)) (fun _ h9 => h9) rfl dX10_shows_39 ?_
        refine lv_iload_n hx hb dX10_shows_42 rfl (lv_at hl 1 rfl) ?_
        refine lv_aload_n hx hb dX10_shows_43 rfl (lv_at hl 0 rfl) ?_
        refine va_get (D := (dC, dI)) (ci := 10) (v := .ref (a1 15)) (C := RX10) (T := TX10) (N := 35) hx hb hts hin10 hown hK hP 0 rfl rfl 27 (by decide) (hts (.fieldLink RX10 52 "OldestCoinsModel" "paidBy" "[J") (List.mem_of_getElem? (i := 3) rfl)) (fun _ h9 => h9) rfl dX10_shows_44 ?_
        refine lv_iload_n hx hb dX10_shows_47 rfl (lv_at hl 1 rfl) ?_
        have i10 := (ck_ok hR).1
        replace hR := (ck_ok hR).2
        refine va_lald (f := u1.2.2.2.2.2.2.2.1.1) hx hb hK hP 15 14 rfl rfl i10 dX10_shows_48 ?_
        refine lv_topl (fun z11 ez11 => ?_)
        replace hR := lt_ok hR ez11
        have i12 := (ck_ok hR).1
        replace hR := (ck_ok hR).2
        refine va_last (f := u1.2.2.2.2.2.2.2.1.2) hx hb hK hP hD hS 16 15 rfl rfl i12 dX10_shows_49 (fun H12 locs12 hP12 hD12 hS12 => ?_)
        have hP12 : va_P (dC, dI) vwCl (zc_10 a1 k1 (u1.1, u1.2.1, u1.2.2.1, u1.2.2.2.1, u1.2.2.2.2.1, u1.2.2.2.2.2.1, u1.2.2.2.2.2.2.1, (u1.2.2.2.2.2.2.2.1.1, (vp_updL u1.2.2.2.2.2.2.2.1.2 y3.toNatClampNeg z11)), u1.2.2.2.2.2.2.2.2)) H12 := hP12
        have hD12 : va_D A (zc_10 a1 k1 (u1.1, u1.2.1, u1.2.2.1, u1.2.2.2.1, u1.2.2.2.2.1, u1.2.2.2.2.2.1, u1.2.2.2.2.2.2.1, (u1.2.2.2.2.2.2.2.1.1, (vp_updL u1.2.2.2.2.2.2.2.1.2 y3.toNatClampNeg z11)), u1.2.2.2.2.2.2.2.2)) := hD12
        clear hP hD hS
        obtain ⟨z13, ez13⟩ : ∃ y : Int32, y = (y3 + (1 : Int32)) := ⟨_, rfl⟩
        replace hR := lt_ok hR ez13
        refine lv_iinc (v := z13) (lv' := [(3, .int z13), (0, .ref (a1 0))]) hx hb dX10_shows_50 hl (k := 1) rfl (by rw [ez13]; rfl) (by decide) rfl (fun ls13 hl13 => ?_)
        refine lv_goto (tgt := 32) hx hb dX10_shows_53 (by decide) ?_
        exact ih z13 (u1.1, u1.2.1, u1.2.2.1, u1.2.2.2.1, u1.2.2.2.2.1, u1.2.2.2.2.2.1, u1.2.2.2.2.2.2.1, (u1.2.2.2.2.2.2.2.1.1, (vp_updL u1.2.2.2.2.2.2.2.1.2 y3.toNatClampNeg z11)), u1.2.2.2.2.2.2.2.2) H12 locs12 ls13 hP12 hD12 hS12 (lv_sub hl13 [1, 0] rfl) hR
  unfold rr_X10_shows at hR
  refine lv_aload_n hx hb dX10_shows_0 rfl (lv_at hl 0 rfl) ?_
  refine lv_iload_n hx hb dX10_shows_1 rfl (lv_at hl 1 rfl) ?_
  have hR0 := ob_ok hR
  clear hR
  obtain ⟨q1, hq1, hR⟩ := hR0
  refine va_calli (va_runV (As := [.int x1]) (rest := []) ⟨hx, hb, hml, hown, hts⟩ (cc_X10_isCoin l dC dI fu a1 k1 s.heap.size x1 s1 q1 hq1) (cwV 1 hts gX10_shows_X10_isCoin rfl rfl rfl (by decide +kernel) ⟨Nat.le_of_ble_eq_true rfl, Nat.le_of_ble_eq_true rfl⟩) (pf_v hK hP hD 10 0 rfl rfl rfl) rfl rfl hl.1 rfl (lv_room (Nat.le_of_ble_eq_true rfl)) dX10_shows_2 ⟨Nat.le_refl _, Nat.le_refl _⟩) hS (fun q _ h => (fr_all hD hS hA) q h) (fr_all hD hS hA) (fun r1 v1 t1 H1 locs1 ht1 hvm1 hw1 hB1 hz1 hk1 hS1 => ?_)
  subst hw1
  obtain ⟨hP1, hD1⟩ := jn_all hD hS hA ht1 hB1
  have hP1 : va_P (dC, dI) vwCl (zc_10 a1 k1 s1) H1 := hP1
  have hD1 : va_D A (zc_10 a1 k1 s1) := hD1
  clear hP hD hS hB1 hk1 hvm1 hz1 ht1
  refine lv_if_eq (tgt := 20) hx hb dX10_shows_5 (by decide) (fun c2 => ?_) (fun c2 => ?_)
  · replace hR := ifp_ hR c2
    refine lv_iconst (v := (-1 : Int32)) hx hb dX10_shows_20 (by decide) ?_
    subst hQe
    exact W.iret (v := (-1 : Int32)) hx hb hr (fun t ht hW => ⟨⟨(-1 : Int32), s1, rfl, (Option.some.inj hR).symm, by rw [ht]; exact hP1, va_K.moved hW.alike hK, hD1⟩, hS1.F ht⟩) hS1.2.2 dX10_shows_21
  · replace hR := ifn_ hR c2
    refine lv_iload_n hx hb dX10_shows_8 rfl (lv_at hl 2 rfl) ?_
    refine lv_i2l (v := x2.toInt64) hx hb dX10_shows_9 rfl ?_
    refine lv_lconst (v := (0 : Int64)) hx hb dX10_shows_10 (by decide) ?_
    refine lv_ldc2 (v := (99 : Int64)) hx hb hown (hts (.constantLong RX10 94 (99)) (List.mem_of_getElem? (i := 1) rfl)) dX10_shows_11 ?_
    have hR0 := ob_ok hR
    clear hR
    obtain ⟨q3, hq3, hR⟩ := hR0
    refine va_calli (va_runS (As := [.long x2.toInt64, .long (0 : Int64), .long (99 : Int64)]) (rest := []) ⟨hx, hb, hml, hown, hts⟩ (cc_X10_in l dC dI fu H1.size x2.toInt64 (0 : Int64) (99 : Int64) q3 hq3) (va_cwS 3 hts gX10_shows_X10_in rfl rfl rfl (by decide +kernel) ⟨Nat.le_of_ble_eq_true rfl, Nat.le_of_ble_eq_true rfl⟩) (pf_s (nil_K hK) nil_P (nil_D (A := A))) rfl rfl hl.1 rfl (lv_room (Nat.le_of_ble_eq_true rfl)) dX10_shows_14 ⟨Nat.le_refl _, Nat.le_refl _⟩) hS1 (fun q _ h => (fr_none hS1 hA) q h) (fr_none hS1 hA) (fun r3 v3 t3 H3 locs3 ht3 hvm3 hw3 hB3 hz3 hk3 hS3 => ?_)
    subst hw3
    have hP3 := jn_none hP1 hk3
    have hD3 := hD1
    have hP3 : va_P (dC, dI) vwCl (zc_10 a1 k1 s1) H3 := hP3
    have hD3 : va_D A (zc_10 a1 k1 s1) := hD3
    clear hP1 hD1 hS1 hB3 hk3 hvm3 hz3 ht3
    refine lv_if_ne (tgt := 22) hx hb dX10_shows_17 (by decide) (fun c4 => ?_) (fun c4 => ?_)
    · replace hR := ifn_ hR c4
      refine lv_aload_n hx hb dX10_shows_22 rfl (lv_at hl 0 rfl) ?_
      refine lv_iload_n hx hb dX10_shows_23 rfl (lv_at hl 1 rfl) ?_
      refine lv_iload_n hx hb dX10_shows_24 rfl (lv_at hl 2 rfl) ?_
      refine lv_iconst (v := (0 : Int32)) hx hb dX10_shows_25 (by decide) ?_
      have hR0 := ob_ok hR
      clear hR
      obtain ⟨q5, hq5, hR⟩ := hR0
      refine va_calli (va_runV (As := [.int x1, .int x2, .int (0 : Int32)]) (rest := []) ⟨hx, hb, hml, hown, hts⟩ (cc_X10_runForged l dC dI fu a1 k1 H3.size x1 x2 (0 : Int32) s1 q5 hq5) (cwV 3 hts gX10_shows_X10_runForged rfl rfl rfl (by decide +kernel) ⟨Nat.le_of_ble_eq_true rfl, Nat.le_of_ble_eq_true rfl⟩) (pf_v hK hP3 hD3 10 0 rfl rfl rfl) rfl rfl hl.1 rfl (lv_room (Nat.le_of_ble_eq_true rfl)) dX10_shows_26 ⟨Nat.le_refl _, Nat.le_refl _⟩) hS3 (fun q _ h => (fr_all hD3 hS3 hA) q h) (fr_all hD3 hS3 hA) (fun r5 v5 t5 H5 locs5 ht5 hvm5 hw5 hB5 hz5 hk5 hS5 => ?_)
      obtain rfl : r5 = q5.1 := (congrArg Prod.fst hw5).symm
      obtain rfl : v5 = q5.2 := (congrArg Prod.snd hw5).symm
      obtain ⟨hP5, hD5⟩ := jn_all hD3 hS3 hA ht5 hB5
      have hP5 : va_P (dC, dI) vwCl (zc_10 a1 k1 q5.2) H5 := hP5
      have hD5 : va_D A (zc_10 a1 k1 q5.2) := hD5
      clear hP3 hD3 hS3 hB5 hk5 hvm5 hz5 ht5
      refine lv_pop hx hb dX10_shows_29 rfl ?_
      refine lv_iconst (v := (0 : Int32)) hx hb dX10_shows_30 (by decide) ?_
      refine lv_istore_n (lv' := [(3, .int (0 : Int32)), (0, .ref (a1 0)), (1, .int x1), (2, .int x2)]) hx hb dX10_shows_31 rfl hl (by decide) rfl (fun ls6 hl6 => ?_)
      exact hB32 fu (0 : Int32) q5.2 H5 locs5 ls6 hP5 hD5 hS5 (lv_sub hl6 [1, 0] rfl) hR
    · replace hR := ifp_ hR c4
      refine lv_iconst (v := (-1 : Int32)) hx hb dX10_shows_20 (by decide) ?_
      subst hQe
      exact W.iret (v := (-1 : Int32)) hx hb hr (fun t ht hW => ⟨⟨(-1 : Int32), s1, rfl, (Option.some.inj hR).symm, by rw [ht]; exact hP3, va_K.moved hW.alike hK, hD3⟩, hS3.F ht⟩) hS3.2.2 dX10_shows_21
def rr_X10_isPurse (fu : Nat) (x0 : Int32) : Option (Int32) := (rr_X10_in fu x0.toInt64 (0 : Int64) (3 : Int64)).bind (fun q1 => zk_ q1 (some q1))
set_option maxHeartbeats 4000000 in
set_option maxRecDepth 100000 in
theorem cc_X10_isPurse (l : Launch) (dC : Nat → ClassId) (dI : Nat → Nat → Nat) (fu : Nat) (sz : Nat) (x0 : Int32) (res : Int32) (hR : rr_X10_isPurse fu x0 = some res) : Met l yX10_isPurse wsX10_isPurse ({ frames := 1, cells := 0, slots := 0, locals := 25 } : Room) (PcF [.int x0] sz (dC, dI) (([] : va_W)) ([])) (va_Qi (fun (r : Int32) (u : Unit) => res = r) (fun u t => at3_ (dC, dI) (([] : va_W)) ([]) (va_A (([] : va_W)) sz) t) (va_A (([] : va_W)) sz)) 0 0 (va_A (([] : va_W)) sz) := by
  refine Met.ofW (cc := cX10_isPurse) (maxL := 1) (ret := (some .boolean)) (by decide) rfl ?_
  intro p e s m args below meth c s₁ B hml hv
  obtain ⟨hav, hsz, hP, hK, hD0⟩ := hv
  have hx := B.exec
  have hb := B.bytes
  have hr := B.returns
  have hts := atoms_spec (ws := wsX10_isPurse) B.pre
  have hown : s.vm.findClass RX10 = some m.cls := findClass_of_methodNamed B.named
  have hlocks := B.notSynchronized
  subst hsz
  have hD := hD0.self (sz := s.heap.size)
  clear hD0
  generalize hAe : va_A (([] : va_W)) s.heap.size = A at hD ⊢
  have hA : ∀ q : Nat, s.heap.size ≤ q → A q := fun q h => by rw [← hAe]; exact Or.inr h
  have hS : va_S A s.heap s.heap [] := va_S.rf
  generalize hQe : MQ below _ args s 0 0 A = Q
  rw [show entryFrame m args 1 = F0 m 0 ((lg_sl ([.int x0]) ++ List.replicate (1 - (lg_sl ([.int x0])).length) Slot.unset).toArray) [] from by rw [hav]; exact lg_entry_eq m _ _]
  have hl := lv_entry ([.int x0]) (n := 1) (Nat.le_of_ble_eq_true rfl)
  generalize (lg_sl ([.int x0]) ++ List.replicate (1 - (lg_sl ([.int x0])).length) Slot.unset).toArray = ls at hl ⊢
  have hl : lv_has ls 1 [(0, .int x0)] := hl
  unfold rr_X10_isPurse at hR
  refine lv_iload_n hx hb dX10_isPurse_0 rfl (lv_at hl 0 rfl) ?_
  refine lv_i2l (v := x0.toInt64) hx hb dX10_isPurse_1 rfl ?_
  refine lv_lconst (v := (0 : Int64)) hx hb dX10_isPurse_2 (by decide) ?_
  refine lv_ldc2 (v := (3 : Int64)) hx hb hown (hts (.constantLong RX10 84 (3)) (List.mem_of_getElem? (i := 1) rfl)) dX10_isPurse_3 ?_
  have hR0 := ob_ok hR
  clear hR
  obtain ⟨q1, hq1, hR⟩ := hR0
  refine va_calli (va_runS (As := [.long x0.toInt64, .long (0 : Int64), .long (3 : Int64)]) (rest := []) ⟨hx, hb, hml, hown, hts⟩ (cc_X10_in l dC dI fu s.heap.size x0.toInt64 (0 : Int64) (3 : Int64) q1 hq1) (va_cwS 3 hts gX10_isPurse_X10_in rfl rfl rfl (by decide +kernel) ⟨Nat.le_of_ble_eq_true rfl, Nat.le_of_ble_eq_true rfl⟩) (pf_s (nil_K hK) nil_P (nil_D (A := A))) rfl rfl hl.1 rfl (lv_room (Nat.le_of_ble_eq_true rfl)) dX10_isPurse_6 ⟨Nat.le_refl _, Nat.le_refl _⟩) hS (fun q _ h => (fr_none hS hA) q h) (fr_none hS hA) (fun r1 v1 t1 H1 locs1 ht1 hvm1 hw1 hB1 hz1 hk1 hS1 => ?_)
  subst hw1
  have hP1 := jn_none hP hk1
  have hD1 := hD
  have hP1 : va_P (dC, dI) vwCl (([] : va_W)) H1 := hP1
  have hD1 : va_D A (([] : va_W)) := hD1
  clear hP hD hS hB1 hk1 hvm1 hz1 ht1
  have z2 := (zk_ok hR).1
  replace hR := (zk_ok hR).2
  subst hQe
  exact W.zret (ty := .boolean) (v := q1) hx hb hr (zk_nar z2) (fun t ht hW => ⟨⟨q1, (), rfl, (Option.some.inj hR).symm, by rw [ht]; exact hP1, va_K.moved hW.alike hK, hD1⟩, hS1.F ht⟩) hS1.2.2 dX10_isPurse_9
def rr_X10_gain (fu : Nat) (x1 : Int32) (x2 : Int32) (x3 : Int32) (s1 : ZT_10) : Option (Int32 × ZT_10) := (rr_X10_isPurse fu x1).bind (fun q1 => (if q1 = (0 : Int32) then some ((-100001 : Int32), s1) else (rr_X10_isCoin fu x2 s1).bind (fun q3 => (if q3 = (0 : Int32) then some ((-100001 : Int32), s1) else (rr_X10_in fu x3.toInt64 (0 : Int64) (99 : Int64)).bind (fun q5 => (if q5 = (0 : Int32) then some ((-100001 : Int32), s1) else (rr_X10_runForged fu x2 x3 x1 s1).bind (fun q7 => (rr_X10_runOnce fu x1 q7.2).bind (fun q8 => some ((q7.1 - q8.1), q8.2)))))))))
set_option maxHeartbeats 4000000 in
set_option maxRecDepth 100000 in
theorem cc_X10_gain (l : Launch) (dC : Nat → ClassId) (dI : Nat → Nat → Nat) (fu : Nat) (a1 : Nat → Nat) (k1 : Nat → ClassId) (sz : Nat) (x1 : Int32) (x2 : Int32) (x3 : Int32) (s1 : ZT_10) (res : Int32 × ZT_10) (hR : rr_X10_gain fu x1 x2 x3 s1 = some res) : Met l yX10_gain wsX10_gain ({ frames := 9, cells := 0, slots := 0, locals := 211 } : Room) (PcF [.ref (a1 0), .int x1, .int x2, .int x3] sz (dC, dI) (zc_10 a1 k1 s1) (zt_10 k1)) (va_Qi (fun (r : Int32) (u : ZT_10) => res = (r, u)) (fun u t => at3_ (dC, dI) (zc_10 a1 k1 u) (zt_10 k1) (va_A (zc_10 a1 k1 s1) sz) t) (va_A (zc_10 a1 k1 s1) sz)) 0 0 (va_A (zc_10 a1 k1 s1) sz) := by
  refine Met.ofW (cc := cX10_gain) (maxL := 4) (ret := (some .int)) (by decide) rfl ?_
  intro p e s m args below meth c s₁ B hml hv
  obtain ⟨hav, hsz, hP, hK, hD0⟩ := hv
  have hx := B.exec
  have hb := B.bytes
  have hr := B.returns
  have hts := atoms_spec (ws := wsX10_gain) B.pre
  have hown : s.vm.findClass RX10 = some m.cls := findClass_of_methodNamed B.named
  have hlocks := B.notSynchronized
  subst hsz
  have hD := hD0.self (sz := s.heap.size)
  clear hD0
  generalize hAe : va_A (zc_10 a1 k1 s1) s.heap.size = A at hD ⊢
  have hA : ∀ q : Nat, s.heap.size ≤ q → A q := fun q h => by rw [← hAe]; exact Or.inr h
  have hS : va_S A s.heap s.heap [] := va_S.rf
  generalize hQe : MQ below _ args s 0 0 A = Q
  rw [show entryFrame m args 4 = F0 m 0 ((lg_sl ([.ref (a1 0), .int x1, .int x2, .int x3]) ++ List.replicate (4 - (lg_sl ([.ref (a1 0), .int x1, .int x2, .int x3])).length) Slot.unset).toArray) [] from by rw [hav]; exact lg_entry_eq m _ _]
  have hl := lv_entry ([.ref (a1 0), .int x1, .int x2, .int x3]) (n := 4) (Nat.le_of_ble_eq_true rfl)
  generalize (lg_sl ([.ref (a1 0), .int x1, .int x2, .int x3]) ++ List.replicate (4 - (lg_sl ([.ref (a1 0), .int x1, .int x2, .int x3])).length) Slot.unset).toArray = ls at hl ⊢
  have hl : lv_has ls 4 [(0, .ref (a1 0)), (1, .int x1), (2, .int x2), (3, .int x3)] := hl
  unfold rr_X10_gain at hR
  refine lv_iload_n hx hb dX10_gain_0 rfl (lv_at hl 1 rfl) ?_
  have hR0 := ob_ok hR
  clear hR
  obtain ⟨q1, hq1, hR⟩ := hR0
  refine va_calli (va_runS (As := [.int x1]) (rest := []) ⟨hx, hb, hml, hown, hts⟩ (cc_X10_isPurse l dC dI fu s.heap.size x1 q1 hq1) (va_cwS 1 hts gX10_gain_X10_isPurse rfl rfl rfl (by decide +kernel) ⟨Nat.le_of_ble_eq_true rfl, Nat.le_of_ble_eq_true rfl⟩) (pf_s (nil_K hK) nil_P (nil_D (A := A))) rfl rfl hl.1 rfl (lv_room (Nat.le_of_ble_eq_true rfl)) dX10_gain_1 ⟨Nat.le_refl _, Nat.le_refl _⟩) hS (fun q _ h => (fr_none hS hA) q h) (fr_none hS hA) (fun r1 v1 t1 H1 locs1 ht1 hvm1 hw1 hB1 hz1 hk1 hS1 => ?_)
  subst hw1
  have hP1 := jn_none hP hk1
  have hD1 := hD
  have hP1 : va_P (dC, dI) vwCl (zc_10 a1 k1 s1) H1 := hP1
  have hD1 : va_D A (zc_10 a1 k1 s1) := hD1
  clear hP hD hS hB1 hk1 hvm1 hz1 ht1
  refine lv_if_eq (tgt := 27) hx hb dX10_gain_4 (by decide) (fun c2 => ?_) (fun c2 => ?_)
  · replace hR := ifp_ hR c2
    refine lv_ldc (v := (-100001 : Int32)) hx hb hown (hts (.constant RX10 251 (-100001)) (List.mem_of_getElem? (i := 2) rfl)) dX10_gain_27 ?_
    subst hQe
    exact W.iret (v := (-100001 : Int32)) hx hb hr (fun t ht hW => ⟨⟨(-100001 : Int32), s1, rfl, (Option.some.inj hR).symm, by rw [ht]; exact hP1, va_K.moved hW.alike hK, hD1⟩, hS1.F ht⟩) hS1.2.2 dX10_gain_29
  · replace hR := ifn_ hR c2
    refine lv_aload_n hx hb dX10_gain_7 rfl (lv_at hl 0 rfl) ?_
    refine lv_iload_n hx hb dX10_gain_8 rfl (lv_at hl 2 rfl) ?_
    have hR0 := ob_ok hR
    clear hR
    obtain ⟨q3, hq3, hR⟩ := hR0
    refine va_calli (va_runV (As := [.int x2]) (rest := []) ⟨hx, hb, hml, hown, hts⟩ (cc_X10_isCoin l dC dI fu a1 k1 H1.size x2 s1 q3 hq3) (cwV 1 hts gX10_gain_X10_isCoin rfl rfl rfl (by decide +kernel) ⟨Nat.le_of_ble_eq_true rfl, Nat.le_of_ble_eq_true rfl⟩) (pf_v hK hP1 hD1 10 0 rfl rfl rfl) rfl rfl hl.1 rfl (lv_room (Nat.le_of_ble_eq_true rfl)) dX10_gain_9 ⟨Nat.le_refl _, Nat.le_refl _⟩) hS1 (fun q _ h => (fr_all hD1 hS1 hA) q h) (fr_all hD1 hS1 hA) (fun r3 v3 t3 H3 locs3 ht3 hvm3 hw3 hB3 hz3 hk3 hS3 => ?_)
    subst hw3
    obtain ⟨hP3, hD3⟩ := jn_all hD1 hS1 hA ht3 hB3
    have hP3 : va_P (dC, dI) vwCl (zc_10 a1 k1 s1) H3 := hP3
    have hD3 : va_D A (zc_10 a1 k1 s1) := hD3
    clear hP1 hD1 hS1 hB3 hk3 hvm3 hz3 ht3
    refine lv_if_eq (tgt := 27) hx hb dX10_gain_12 (by decide) (fun c4 => ?_) (fun c4 => ?_)
    · replace hR := ifp_ hR c4
      refine lv_ldc (v := (-100001 : Int32)) hx hb hown (hts (.constant RX10 251 (-100001)) (List.mem_of_getElem? (i := 2) rfl)) dX10_gain_27 ?_
      subst hQe
      exact W.iret (v := (-100001 : Int32)) hx hb hr (fun t ht hW => ⟨⟨(-100001 : Int32), s1, rfl, (Option.some.inj hR).symm, by rw [ht]; exact hP3, va_K.moved hW.alike hK, hD3⟩, hS3.F ht⟩) hS3.2.2 dX10_gain_29
    · replace hR := ifn_ hR c4
      refine lv_iload_n hx hb dX10_gain_15 rfl (lv_at hl 3 rfl) ?_
      refine lv_i2l (v := x3.toInt64) hx hb dX10_gain_16 rfl ?_
      refine lv_lconst (v := (0 : Int64)) hx hb dX10_gain_17 (by decide) ?_
      refine lv_ldc2 (v := (99 : Int64)) hx hb hown (hts (.constantLong RX10 94 (99)) (List.mem_of_getElem? (i := 1) rfl)) dX10_gain_18 ?_
      have hR0 := ob_ok hR
      clear hR
      obtain ⟨q5, hq5, hR⟩ := hR0
      refine va_calli (va_runS (As := [.long x3.toInt64, .long (0 : Int64), .long (99 : Int64)]) (rest := []) ⟨hx, hb, hml, hown, hts⟩ (cc_X10_in l dC dI fu H3.size x3.toInt64 (0 : Int64) (99 : Int64) q5 hq5) (va_cwS 3 hts gX10_gain_X10_in rfl rfl rfl (by decide +kernel) ⟨Nat.le_of_ble_eq_true rfl, Nat.le_of_ble_eq_true rfl⟩) (pf_s (nil_K hK) nil_P (nil_D (A := A))) rfl rfl hl.1 rfl (lv_room (Nat.le_of_ble_eq_true rfl)) dX10_gain_21 ⟨Nat.le_refl _, Nat.le_refl _⟩) hS3 (fun q _ h => (fr_none hS3 hA) q h) (fr_none hS3 hA) (fun r5 v5 t5 H5 locs5 ht5 hvm5 hw5 hB5 hz5 hk5 hS5 => ?_)
      subst hw5
      have hP5 := jn_none hP3 hk5
      have hD5 := hD3
      have hP5 : va_P (dC, dI) vwCl (zc_10 a1 k1 s1) H5 := hP5
      have hD5 : va_D A (zc_10 a1 k1 s1) := hD5
      clear hP3 hD3 hS3 hB5 hk5 hvm5 hz5 ht5
      refine lv_if_ne (tgt := 30) hx hb dX10_gain_24 (by decide) (fun c6 => ?_) (fun c6 => ?_)
      · replace hR := ifn_ hR c6
        refine lv_aload_n hx hb dX10_gain_30 rfl (lv_at hl 0 rfl) ?_
        refine lv_iload_n hx hb dX10_gain_31 rfl (lv_at hl 2 rfl) ?_
        refine lv_iload_n hx hb dX10_gain_32 rfl (lv_at hl 3 rfl) ?_
        refine lv_iload_n hx hb dX10_gain_33 rfl (lv_at hl 1 rfl) ?_
        have hR0 := ob_ok hR
        clear hR
        obtain ⟨q7, hq7, hR⟩ := hR0
        refine va_calli (va_runV (As := [.int x2, .int x3, .int x1]) (rest := []) ⟨hx, hb, hml, hown, hts⟩ (cc_X10_runForged l dC dI fu a1 k1 H5.size x2 x3 x1 s1 q7 hq7) (cwV 3 hts gX10_gain_X10_runForged rfl rfl rfl (by decide +kernel) ⟨Nat.le_of_ble_eq_true rfl, Nat.le_of_ble_eq_true rfl⟩) (pf_v hK hP5 hD5 10 0 rfl rfl rfl) rfl rfl hl.1 rfl (lv_room (Nat.le_of_ble_eq_true rfl)) dX10_gain_34 ⟨Nat.le_refl _, Nat.le_refl _⟩) hS5 (fun q _ h => (fr_all hD5 hS5 hA) q h) (fr_all hD5 hS5 hA) (fun r7 v7 t7 H7 locs7 ht7 hvm7 hw7 hB7 hz7 hk7 hS7 => ?_)
        obtain rfl : r7 = q7.1 := (congrArg Prod.fst hw7).symm
        obtain rfl : v7 = q7.2 := (congrArg Prod.snd hw7).symm
        obtain ⟨hP7, hD7⟩ := jn_all hD5 hS5 hA ht7 hB7
        have hP7 : va_P (dC, dI) vwCl (zc_10 a1 k1 q7.2) H7 := hP7
        have hD7 : va_D A (zc_10 a1 k1 q7.2) := hD7
        clear hP5 hD5 hS5 hB7 hk7 hvm7 hz7 ht7
        refine lv_aload_n hx hb dX10_gain_37 rfl (lv_at hl 0 rfl) ?_
        refine lv_iload_n hx hb dX10_gain_38 rfl (lv_at hl 1 rfl) ?_
        have hR0 := ob_ok hR
        clear hR
        obtain ⟨q8, hq8, hR⟩ := hR0
        refine va_calli (va_runV (As := [.int x1]) (rest := [.int q7.1]) ⟨hx, hb, hml, hown, hts⟩ (cc_X10_runOnce l dC dI fu a1 k1 H7.size x1 q7.2 q8 hq8) (cwV 1 hts gX10_gain_X10_runOnce rfl rfl rfl (by decide +kernel) ⟨Nat.le_of_ble_eq_true rfl, Nat.le_of_ble_eq_true rfl⟩) (pf_v hK hP7 hD7 10 0 rfl rfl rfl) rfl rfl hl.1 rfl (lv_room (Nat.le_of_ble_eq_true rfl)) dX10_gain_39 ⟨Nat.le_refl _, Nat.le_refl _⟩) hS7 (fun q _ h => (fr_all hD7 hS7 hA) q h) (fr_all hD7 hS7 hA) (fun r8 v8 t8 H8 locs8 ht8 hvm8 hw8 hB8 hz8 hk8 hS8 => ?_)
        obtain rfl : r8 = q8.1 := (congrArg Prod.fst hw8).symm
        obtain rfl : v8 = q8.2 := (congrArg Prod.snd hw8).symm
        obtain ⟨hP8, hD8⟩ := jn_all hD7 hS7 hA ht8 hB8
        have hP8 : va_P (dC, dI) vwCl (zc_10 a1 k1 q8.2) H8 := hP8
        have hD8 : va_D A (zc_10 a1 k1 q8.2) := hD8
        clear hP7 hD7 hS7 hB8 hk8 hvm8 hz8 ht8
        refine lv_isub hx hb dX10_gain_42 ?_
        subst hQe
        exact W.iret (v := (q7.1 - q8.1)) hx hb hr (fun t ht hW => ⟨⟨(q7.1 - q8.1), q8.2, rfl, (Option.some.inj hR).symm, by rw [ht]; exact hP8, va_K.moved hW.alike hK, hD8⟩, hS8.F ht⟩) hS8.2.2 dX10_gain_43
      · replace hR := ifp_ hR c6
        refine lv_ldc (v := (-100001 : Int32)) hx hb hown (hts (.constant RX10 251 (-100001)) (List.mem_of_getElem? (i := 2) rfl)) dX10_gain_27 ?_
        subst hQe
        exact W.iret (v := (-100001 : Int32)) hx hb hr (fun t ht hW => ⟨⟨(-100001 : Int32), s1, rfl, (Option.some.inj hR).symm, by rw [ht]; exact hP5, va_K.moved hW.alike hK, hD5⟩, hS5.F ht⟩) hS5.2.2 dX10_gain_29
def rr_X10_where (fu : Nat) (x1 : Int32) (x2 : Int32) (s1 : ZT_10) : Option (Int32 × ZT_10) := (rr_X10_isCoin fu x1 s1).bind (fun q1 => (if q1 = (0 : Int32) then some ((-1 : Int32), s1) else (rr_X10_in fu x2.toInt64 (1 : Int64) (50 : Int64)).bind (fun q3 => (if q3 = (0 : Int32) then some ((-1 : Int32), s1) else (rr_X10_keep fu s1).bind (fun q5 => (rr_X10_runDay fu x2 q5).bind (fun q6 => ck_ x1 40 (lt_ (α := Int32) (q6.2.1.2.2.2.2.1 x1.toNatClampNeg) (fun z8 => (rr_X10_bringBack fu q6.2).bind (fun q10 => some (z8, q10))))))))))
set_option maxHeartbeats 4000000 in
set_option maxRecDepth 100000 in
theorem cc_X10_where (l : Launch) (dC : Nat → ClassId) (dI : Nat → Nat → Nat) (fu : Nat) (a1 : Nat → Nat) (k1 : Nat → ClassId) (sz : Nat) (x1 : Int32) (x2 : Int32) (s1 : ZT_10) (res : Int32 × ZT_10) (hR : rr_X10_where fu x1 x2 s1 = some res) : Met l yX10_where wsX10_where ({ frames := 7, cells := 0, slots := 0, locals := 163 } : Room) (PcF [.ref (a1 0), .int x1, .int x2] sz (dC, dI) (zc_10 a1 k1 s1) (zt_10 k1)) (va_Qi (fun (r : Int32) (u : ZT_10) => res = (r, u)) (fun u t => at3_ (dC, dI) (zc_10 a1 k1 u) (zt_10 k1) (va_A (zc_10 a1 k1 s1) sz) t) (va_A (zc_10 a1 k1 s1) sz)) 0 0 (va_A (zc_10 a1 k1 s1) sz) := by
  refine Met.ofW (cc := cX10_where) (maxL := 4) (ret := (some .int)) (by decide) rfl ?_
  intro p e s m args below meth c s₁ B hml hv
  obtain ⟨hav, hsz, hP, hK, hD0⟩ := hv
  have hx := B.exec
  have hb := B.bytes
  have hr := B.returns
  have hts := atoms_spec (ws := wsX10_where) B.pre
  have hown : s.vm.findClass RX10 = some m.cls := findClass_of_methodNamed B.named
  have hlocks := B.notSynchronized
  have hin10 : ∀ w ∈ wsX100, w ∈ wsX10_where := fun w h => List.mem_cons_of_mem _ (List.mem_append_right _ h)
  subst hsz
  have hD := hD0.self (sz := s.heap.size)
  clear hD0
  generalize hAe : va_A (zc_10 a1 k1 s1) s.heap.size = A at hD ⊢
  have hA : ∀ q : Nat, s.heap.size ≤ q → A q := fun q h => by rw [← hAe]; exact Or.inr h
  have hS : va_S A s.heap s.heap [] := va_S.rf
  generalize hQe : MQ below _ args s 0 0 A = Q
  rw [show entryFrame m args 4 = F0 m 0 ((lg_sl ([.ref (a1 0), .int x1, .int x2]) ++ List.replicate (4 - (lg_sl ([.ref (a1 0), .int x1, .int x2])).length) Slot.unset).toArray) [] from by rw [hav]; exact lg_entry_eq m _ _]
  have hl := lv_entry ([.ref (a1 0), .int x1, .int x2]) (n := 4) (Nat.le_of_ble_eq_true rfl)
  generalize (lg_sl ([.ref (a1 0), .int x1, .int x2]) ++ List.replicate (4 - (lg_sl ([.ref (a1 0), .int x1, .int x2])).length) Slot.unset).toArray = ls at hl ⊢
  have hl : lv_has ls 4 [(0, .ref (a1 0)), (1, .int x1), (2, .int x2)] := hl
  unfold rr_X10_where at hR
  refine lv_aload_n hx hb dX10_where_0 rfl (lv_at hl 0 rfl) ?_
  refine lv_iload_n hx hb dX10_where_1 rfl (lv_at hl 1 rfl) ?_
  have hR0 := ob_ok hR
  clear hR
  obtain ⟨q1, hq1, hR⟩ := hR0
  refine va_calli (va_runV (As := [.int x1]) (rest := []) ⟨hx, hb, hml, hown, hts⟩ (cc_X10_isCoin l dC dI fu a1 k1 s.heap.size x1 s1 q1 hq1) (cwV 1 hts gX10_where_X10_isCoin rfl rfl rfl (by decide +kernel) ⟨Nat.le_of_ble_eq_true rfl, Nat.le_of_ble_eq_true rfl⟩) (pf_v hK hP hD 10 0 rfl rfl rfl) rfl rfl hl.1 rfl (lv_room (Nat.le_of_ble_eq_true rfl)) dX10_where_2 ⟨Nat.le_refl _, Nat.le_refl _⟩) hS (fun q _ h => (fr_all hD hS hA) q h) (fr_all hD hS hA) (fun r1 v1 t1 H1 locs1 ht1 hvm1 hw1 hB1 hz1 hk1 hS1 => ?_)
  subst hw1
  obtain ⟨hP1, hD1⟩ := jn_all hD hS hA ht1 hB1
  have hP1 : va_P (dC, dI) vwCl (zc_10 a1 k1 s1) H1 := hP1
  have hD1 : va_D A (zc_10 a1 k1 s1) := hD1
  clear hP hD hS hB1 hk1 hvm1 hz1 ht1
  refine lv_if_eq (tgt := 20) hx hb dX10_where_5 (by decide) (fun c2 => ?_) (fun c2 => ?_)
  · replace hR := ifp_ hR c2
    refine lv_iconst (v := (-1 : Int32)) hx hb dX10_where_20 (by decide) ?_
    subst hQe
    exact W.iret (v := (-1 : Int32)) hx hb hr (fun t ht hW => ⟨⟨(-1 : Int32), s1, rfl, (Option.some.inj hR).symm, by rw [ht]; exact hP1, va_K.moved hW.alike hK, hD1⟩, hS1.F ht⟩) hS1.2.2 dX10_where_21
  · replace hR := ifn_ hR c2
    refine lv_iload_n hx hb dX10_where_8 rfl (lv_at hl 2 rfl) ?_
    refine lv_i2l (v := x2.toInt64) hx hb dX10_where_9 rfl ?_
    refine lv_lconst (v := (1 : Int64)) hx hb dX10_where_10 (by decide) ?_
    refine lv_ldc2 (v := (50 : Int64)) hx hb hown (hts (.constantLong RX10 243 (50)) (List.mem_of_getElem? (i := 1) rfl)) dX10_where_11 ?_
    have hR0 := ob_ok hR
    clear hR
    obtain ⟨q3, hq3, hR⟩ := hR0
    refine va_calli (va_runS (As := [.long x2.toInt64, .long (1 : Int64), .long (50 : Int64)]) (rest := []) ⟨hx, hb, hml, hown, hts⟩ (cc_X10_in l dC dI fu H1.size x2.toInt64 (1 : Int64) (50 : Int64) q3 hq3) (va_cwS 3 hts gX10_where_X10_in rfl rfl rfl (by decide +kernel) ⟨Nat.le_of_ble_eq_true rfl, Nat.le_of_ble_eq_true rfl⟩) (pf_s (nil_K hK) nil_P (nil_D (A := A))) rfl rfl hl.1 rfl (lv_room (Nat.le_of_ble_eq_true rfl)) dX10_where_14 ⟨Nat.le_refl _, Nat.le_refl _⟩) hS1 (fun q _ h => (fr_none hS1 hA) q h) (fr_none hS1 hA) (fun r3 v3 t3 H3 locs3 ht3 hvm3 hw3 hB3 hz3 hk3 hS3 => ?_)
    subst hw3
    have hP3 := jn_none hP1 hk3
    have hD3 := hD1
    have hP3 : va_P (dC, dI) vwCl (zc_10 a1 k1 s1) H3 := hP3
    have hD3 : va_D A (zc_10 a1 k1 s1) := hD3
    clear hP1 hD1 hS1 hB3 hk3 hvm3 hz3 ht3
    refine lv_if_ne (tgt := 22) hx hb dX10_where_17 (by decide) (fun c4 => ?_) (fun c4 => ?_)
    · replace hR := ifn_ hR c4
      refine lv_aload_n hx hb dX10_where_22 rfl (lv_at hl 0 rfl) ?_
      have hR0 := ob_ok hR
      clear hR
      obtain ⟨q5, hq5, hR⟩ := hR0
      refine va_callv (va_runV (As := []) (rest := []) ⟨hx, hb, hml, hown, hts⟩ (cc_X10_keep l dC dI fu a1 k1 H3.size s1 q5 hq5) (cwV 0 hts gX10_where_X10_keep rfl rfl rfl (by decide +kernel) ⟨Nat.le_of_ble_eq_true rfl, Nat.le_of_ble_eq_true rfl⟩) (pf_v hK hP3 hD3 10 0 rfl rfl rfl) rfl rfl hl.1 rfl (lv_room (Nat.le_of_ble_eq_true rfl)) dX10_where_23 ⟨Nat.le_refl _, Nat.le_refl _⟩) hS3 (fun q _ h => (fr_all hD3 hS3 hA) q h) (fr_all hD3 hS3 hA) (fun v5 t5 H5 locs5 ht5 hvm5 hw5 hB5 hz5 hk5 hS5 => ?_)
      subst hw5
      obtain ⟨hP5, hD5⟩ := jn_all hD3 hS3 hA ht5 hB5
      have hP5 : va_P (dC, dI) vwCl (zc_10 a1 k1 q5) H5 := hP5
      have hD5 : va_D A (zc_10 a1 k1 q5) := hD5
      clear hP3 hD3 hS3 hB5 hk5 hvm5 hz5 ht5
      refine lv_aload_n hx hb dX10_where_26 rfl (lv_at hl 0 rfl) ?_
      refine lv_iload_n hx hb dX10_where_27 rfl (lv_at hl 2 rfl) ?_
      have hR0 := ob_ok hR
      clear hR
      obtain ⟨q6, hq6, hR⟩ := hR0
      refine va_calli (va_runV (As := [.int x2]) (rest := []) ⟨hx, hb, hml, hown, hts⟩ (cc_X10_runDay l dC dI fu a1 k1 H5.size x2 q5 q6 hq6) (cwV 1 hts gX10_where_X10_runDay rfl rfl rfl (by decide +kernel) ⟨Nat.le_of_ble_eq_true rfl, Nat.le_of_ble_eq_true rfl⟩) (pf_v hK hP5 hD5 10 0 rfl rfl rfl) rfl rfl hl.1 rfl (lv_room (Nat.le_of_ble_eq_true rfl)) dX10_where_28 ⟨Nat.le_refl _, Nat.le_refl _⟩) hS5 (fun q _ h => (fr_all hD5 hS5 hA) q h) (fr_all hD5 hS5 hA) (fun r6 v6 t6 H6 locs6 ht6 hvm6 hw6 hB6 hz6 hk6 hS6 => ?_)
      obtain rfl : r6 = q6.1 := (congrArg Prod.fst hw6).symm
      obtain rfl : v6 = q6.2 := (congrArg Prod.snd hw6).symm
      obtain ⟨hP6, hD6⟩ := jn_all hD5 hS5 hA ht6 hB6
      have hP6 : va_P (dC, dI) vwCl (zc_10 a1 k1 q6.2) H6 := hP6
      have hD6 : va_D A (zc_10 a1 k1 q6.2) := hD6
      clear hP5 hD5 hS5 hB6 hk6 hvm6 hz6 ht6
      refine lv_pop hx hb dX10_where_31 rfl ?_
      refine lv_aload_n hx hb dX10_where_32 rfl (lv_at hl 0 rfl) ?_
      refine va_get (D := (dC, dI)) (ci := 10) (v := .ref (a1 5)) (C := RX10) (T := TX10) (N := 35) hx hb hts hin10 hown hK hP6 0 rfl rfl 4 (by decide) (hts (.fieldLink RX10 22 "OldestCoinsModel" "whose" "[I") (List.mem_of_getElem? (i := 2) rfl)) (fun _ h9 => h9) rfl dX10_where_33 ?_
      refine lv_iload_n hx hb dX10_where_36 rfl (lv_at hl 1 rfl) ?_
      have i7 := (ck_ok hR).1
      replace hR := (ck_ok hR).2
      refine va_iald (f := q6.2.1.2.2.2.2.1) hx hb hK hP6 5 4 rfl rfl i7 dX10_where_37 ?_
      refine lv_topi (fun z8 ez8 => ?_)
      replace hR := lt_ok hR ez8
      refine lv_istore_n (lv' := [(3, .int z8), (0, .ref (a1 0)), (1, .int x1), (2, .int x2)]) hx hb dX10_where_38 rfl hl (by decide) rfl (fun ls9 hl9 => ?_)
      refine lv_aload_n hx hb dX10_where_39 rfl (lv_at hl9 1 rfl) ?_
      have hR0 := ob_ok hR
      clear hR
      obtain ⟨q10, hq10, hR⟩ := hR0
      refine va_callv (va_runV (As := []) (rest := []) ⟨hx, hb, hml, hown, hts⟩ (cc_X10_bringBack l dC dI fu a1 k1 H6.size q6.2 q10 hq10) (cwV 0 hts gX10_where_X10_bringBack rfl rfl rfl (by decide +kernel) ⟨Nat.le_of_ble_eq_true rfl, Nat.le_of_ble_eq_true rfl⟩) (pf_v hK hP6 hD6 10 0 rfl rfl rfl) rfl rfl hl9.1 rfl (lv_room (Nat.le_of_ble_eq_true rfl)) dX10_where_40 ⟨Nat.le_refl _, Nat.le_refl _⟩) hS6 (fun q _ h => (fr_all hD6 hS6 hA) q h) (fr_all hD6 hS6 hA) (fun v10 t10 H10 locs10 ht10 hvm10 hw10 hB10 hz10 hk10 hS10 => ?_)
      subst hw10
      obtain ⟨hP10, hD10⟩ := jn_all hD6 hS6 hA ht10 hB10
      have hP10 : va_P (dC, dI) vwCl (zc_10 a1 k1 q10) H10 := hP10
      have hD10 : va_D A (zc_10 a1 k1 q10) := hD10
      clear hP6 hD6 hS6 hB10 hk10 hvm10 hz10 ht10
      refine lv_iload_n hx hb dX10_where_43 rfl (lv_at hl9 0 rfl) ?_
      subst hQe
      exact W.iret (v := z8) hx hb hr (fun t ht hW => ⟨⟨z8, q10, rfl, (Option.some.inj hR).symm, by rw [ht]; exact hP10, va_K.moved hW.alike hK, hD10⟩, hS10.F ht⟩) hS10.2.2 dX10_where_44
    · replace hR := ifp_ hR c4
      refine lv_iconst (v := (-1 : Int32)) hx hb dX10_where_20 (by decide) ?_
      subst hQe
      exact W.iret (v := (-1 : Int32)) hx hb hr (fun t ht hW => ⟨⟨(-1 : Int32), s1, rfl, (Option.some.inj hR).symm, by rw [ht]; exact hP3, va_K.moved hW.alike hK, hD3⟩, hS3.F ht⟩) hS3.2.2 dX10_where_21
def rr_X10_run (fu : Nat) (x1 : Int32) (s1 : ZT_10) : Option (Int32 × ZT_10) := (rr_X10_in fu x1.toInt64 (1 : Int64) (50 : Int64)).bind (fun q1 => (if q1 = (0 : Int32) then some ((-1 : Int32), s1) else (rr_X10_runDay fu x1 s1).bind (fun q3 => some (q3.1, q3.2))))
set_option maxHeartbeats 4000000 in
set_option maxRecDepth 100000 in
theorem cc_X10_run (l : Launch) (dC : Nat → ClassId) (dI : Nat → Nat → Nat) (fu : Nat) (a1 : Nat → Nat) (k1 : Nat → ClassId) (sz : Nat) (x1 : Int32) (s1 : ZT_10) (res : Int32 × ZT_10) (hR : rr_X10_run fu x1 s1 = some res) : Met l yX10_run wsX10_run ({ frames := 7, cells := 0, slots := 0, locals := 163 } : Room) (PcF [.ref (a1 0), .int x1] sz (dC, dI) (zc_10 a1 k1 s1) (zt_10 k1)) (va_Qi (fun (r : Int32) (u : ZT_10) => res = (r, u)) (fun u t => at3_ (dC, dI) (zc_10 a1 k1 u) (zt_10 k1) (va_A (zc_10 a1 k1 s1) sz) t) (va_A (zc_10 a1 k1 s1) sz)) 0 0 (va_A (zc_10 a1 k1 s1) sz) := by
  refine Met.ofW (cc := cX10_run) (maxL := 2) (ret := (some .int)) (by decide) rfl ?_
  intro p e s m args below meth c s₁ B hml hv
  obtain ⟨hav, hsz, hP, hK, hD0⟩ := hv
  have hx := B.exec
  have hb := B.bytes
  have hr := B.returns
  have hts := atoms_spec (ws := wsX10_run) B.pre
  have hown : s.vm.findClass RX10 = some m.cls := findClass_of_methodNamed B.named
  have hlocks := B.notSynchronized
  subst hsz
  have hD := hD0.self (sz := s.heap.size)
  clear hD0
  generalize hAe : va_A (zc_10 a1 k1 s1) s.heap.size = A at hD ⊢
  have hA : ∀ q : Nat, s.heap.size ≤ q → A q := fun q h => by rw [← hAe]; exact Or.inr h
  have hS : va_S A s.heap s.heap [] := va_S.rf
  generalize hQe : MQ below _ args s 0 0 A = Q
  rw [show entryFrame m args 2 = F0 m 0 ((lg_sl ([.ref (a1 0), .int x1]) ++ List.replicate (2 - (lg_sl ([.ref (a1 0), .int x1])).length) Slot.unset).toArray) [] from by rw [hav]; exact lg_entry_eq m _ _]
  have hl := lv_entry ([.ref (a1 0), .int x1]) (n := 2) (Nat.le_of_ble_eq_true rfl)
  generalize (lg_sl ([.ref (a1 0), .int x1]) ++ List.replicate (2 - (lg_sl ([.ref (a1 0), .int x1])).length) Slot.unset).toArray = ls at hl ⊢
  have hl : lv_has ls 2 [(0, .ref (a1 0)), (1, .int x1)] := hl
  unfold rr_X10_run at hR
  refine lv_iload_n hx hb dX10_run_0 rfl (lv_at hl 1 rfl) ?_
  refine lv_i2l (v := x1.toInt64) hx hb dX10_run_1 rfl ?_
  refine lv_lconst (v := (1 : Int64)) hx hb dX10_run_2 (by decide) ?_
  refine lv_ldc2 (v := (50 : Int64)) hx hb hown (hts (.constantLong RX10 243 (50)) (List.mem_of_getElem? (i := 1) rfl)) dX10_run_3 ?_
  have hR0 := ob_ok hR
  clear hR
  obtain ⟨q1, hq1, hR⟩ := hR0
  refine va_calli (va_runS (As := [.long x1.toInt64, .long (1 : Int64), .long (50 : Int64)]) (rest := []) ⟨hx, hb, hml, hown, hts⟩ (cc_X10_in l dC dI fu s.heap.size x1.toInt64 (1 : Int64) (50 : Int64) q1 hq1) (va_cwS 3 hts gX10_run_X10_in rfl rfl rfl (by decide +kernel) ⟨Nat.le_of_ble_eq_true rfl, Nat.le_of_ble_eq_true rfl⟩) (pf_s (nil_K hK) nil_P (nil_D (A := A))) rfl rfl hl.1 rfl (lv_room (Nat.le_of_ble_eq_true rfl)) dX10_run_6 ⟨Nat.le_refl _, Nat.le_refl _⟩) hS (fun q _ h => (fr_none hS hA) q h) (fr_none hS hA) (fun r1 v1 t1 H1 locs1 ht1 hvm1 hw1 hB1 hz1 hk1 hS1 => ?_)
  subst hw1
  have hP1 := jn_none hP hk1
  have hD1 := hD
  have hP1 : va_P (dC, dI) vwCl (zc_10 a1 k1 s1) H1 := hP1
  have hD1 : va_D A (zc_10 a1 k1 s1) := hD1
  clear hP hD hS hB1 hk1 hvm1 hz1 ht1
  refine lv_if_eq (tgt := 20) hx hb dX10_run_9 (by decide) (fun c2 => ?_) (fun c2 => ?_)
  · replace hR := ifp_ hR c2
    refine lv_iconst (v := (-1 : Int32)) hx hb dX10_run_20 (by decide) ?_
    subst hQe
    exact W.iret (v := (-1 : Int32)) hx hb hr (fun t ht hW => ⟨⟨(-1 : Int32), s1, rfl, (Option.some.inj hR).symm, by rw [ht]; exact hP1, va_K.moved hW.alike hK, hD1⟩, hS1.F ht⟩) hS1.2.2 dX10_run_21
  · replace hR := ifn_ hR c2
    refine lv_aload_n hx hb dX10_run_12 rfl (lv_at hl 0 rfl) ?_
    refine lv_iload_n hx hb dX10_run_13 rfl (lv_at hl 1 rfl) ?_
    have hR0 := ob_ok hR
    clear hR
    obtain ⟨q3, hq3, hR⟩ := hR0
    refine va_calli (va_runV (As := [.int x1]) (rest := []) ⟨hx, hb, hml, hown, hts⟩ (cc_X10_runDay l dC dI fu a1 k1 H1.size x1 s1 q3 hq3) (cwV 1 hts gX10_run_X10_runDay rfl rfl rfl (by decide +kernel) ⟨Nat.le_of_ble_eq_true rfl, Nat.le_of_ble_eq_true rfl⟩) (pf_v hK hP1 hD1 10 0 rfl rfl rfl) rfl rfl hl.1 rfl (lv_room (Nat.le_of_ble_eq_true rfl)) dX10_run_14 ⟨Nat.le_refl _, Nat.le_refl _⟩) hS1 (fun q _ h => (fr_all hD1 hS1 hA) q h) (fr_all hD1 hS1 hA) (fun r3 v3 t3 H3 locs3 ht3 hvm3 hw3 hB3 hz3 hk3 hS3 => ?_)
    obtain rfl : r3 = q3.1 := (congrArg Prod.fst hw3).symm
    obtain rfl : v3 = q3.2 := (congrArg Prod.snd hw3).symm
    obtain ⟨hP3, hD3⟩ := jn_all hD1 hS1 hA ht3 hB3
    have hP3 : va_P (dC, dI) vwCl (zc_10 a1 k1 q3.2) H3 := hP3
    have hD3 : va_D A (zc_10 a1 k1 q3.2) := hD3
    clear hP1 hD1 hS1 hB3 hk3 hvm3 hz3 ht3
    refine lv_goto (tgt := 21) hx hb dX10_run_17 (by decide) ?_
    subst hQe
    exact W.iret (v := q3.1) hx hb hr (fun t ht hW => ⟨⟨q3.1, q3.2, rfl, (Option.some.inj hR).symm, by rw [ht]; exact hP3, va_K.moved hW.alike hK, hD3⟩, hS3.F ht⟩) hS3.2.2 dX10_run_21
def rr_X10_isShop (fu : Nat) (x0 : Int32) : Option (Int32) := (rr_X10_in fu x0.toInt64 (4 : Int64) (7 : Int64)).bind (fun q1 => zk_ q1 (some q1))
set_option maxHeartbeats 4000000 in
set_option maxRecDepth 100000 in
theorem cc_X10_isShop (l : Launch) (dC : Nat → ClassId) (dI : Nat → Nat → Nat) (fu : Nat) (sz : Nat) (x0 : Int32) (res : Int32) (hR : rr_X10_isShop fu x0 = some res) : Met l yX10_isShop wsX10_isShop ({ frames := 1, cells := 0, slots := 0, locals := 25 } : Room) (PcF [.int x0] sz (dC, dI) (([] : va_W)) ([])) (va_Qi (fun (r : Int32) (u : Unit) => res = r) (fun u t => at3_ (dC, dI) (([] : va_W)) ([]) (va_A (([] : va_W)) sz) t) (va_A (([] : va_W)) sz)) 0 0 (va_A (([] : va_W)) sz) := by
  refine Met.ofW (cc := cX10_isShop) (maxL := 1) (ret := (some .boolean)) (by decide) rfl ?_
  intro p e s m args below meth c s₁ B hml hv
  obtain ⟨hav, hsz, hP, hK, hD0⟩ := hv
  have hx := B.exec
  have hb := B.bytes
  have hr := B.returns
  have hts := atoms_spec (ws := wsX10_isShop) B.pre
  have hown : s.vm.findClass RX10 = some m.cls := findClass_of_methodNamed B.named
  have hlocks := B.notSynchronized
  subst hsz
  have hD := hD0.self (sz := s.heap.size)
  clear hD0
  generalize hAe : va_A (([] : va_W)) s.heap.size = A at hD ⊢
  have hA : ∀ q : Nat, s.heap.size ≤ q → A q := fun q h => by rw [← hAe]; exact Or.inr h
  have hS : va_S A s.heap s.heap [] := va_S.rf
  generalize hQe : MQ below _ args s 0 0 A = Q
  rw [show entryFrame m args 1 = F0 m 0 ((lg_sl ([.int x0]) ++ List.replicate (1 - (lg_sl ([.int x0])).length) Slot.unset).toArray) [] from by rw [hav]; exact lg_entry_eq m _ _]
  have hl := lv_entry ([.int x0]) (n := 1) (Nat.le_of_ble_eq_true rfl)
  generalize (lg_sl ([.int x0]) ++ List.replicate (1 - (lg_sl ([.int x0])).length) Slot.unset).toArray = ls at hl ⊢
  have hl : lv_has ls 1 [(0, .int x0)] := hl
  unfold rr_X10_isShop at hR
  refine lv_iload_n hx hb dX10_isShop_0 rfl (lv_at hl 0 rfl) ?_
  refine lv_i2l (v := x0.toInt64) hx hb dX10_isShop_1 rfl ?_
  refine lv_ldc2 (v := (4 : Int64)) hx hb hown (hts (.constantLong RX10 86 (4)) (List.mem_of_getElem? (i := 1) rfl)) dX10_isShop_2 ?_
  refine lv_ldc2 (v := (7 : Int64)) hx hb hown (hts (.constantLong RX10 82 (7)) (List.mem_of_getElem? (i := 2) rfl)) dX10_isShop_5 ?_
  have hR0 := ob_ok hR
  clear hR
  obtain ⟨q1, hq1, hR⟩ := hR0
  refine va_calli (va_runS (As := [.long x0.toInt64, .long (4 : Int64), .long (7 : Int64)]) (rest := []) ⟨hx, hb, hml, hown, hts⟩ (cc_X10_in l dC dI fu s.heap.size x0.toInt64 (4 : Int64) (7 : Int64) q1 hq1) (va_cwS 3 hts gX10_isShop_X10_in rfl rfl rfl (by decide +kernel) ⟨Nat.le_of_ble_eq_true rfl, Nat.le_of_ble_eq_true rfl⟩) (pf_s (nil_K hK) nil_P (nil_D (A := A))) rfl rfl hl.1 rfl (lv_room (Nat.le_of_ble_eq_true rfl)) dX10_isShop_8 ⟨Nat.le_refl _, Nat.le_refl _⟩) hS (fun q _ h => (fr_none hS hA) q h) (fr_none hS hA) (fun r1 v1 t1 H1 locs1 ht1 hvm1 hw1 hB1 hz1 hk1 hS1 => ?_)
  subst hw1
  have hP1 := jn_none hP hk1
  have hD1 := hD
  have hP1 : va_P (dC, dI) vwCl (([] : va_W)) H1 := hP1
  have hD1 : va_D A (([] : va_W)) := hD1
  clear hP hD hS hB1 hk1 hvm1 hz1 ht1
  have z2 := (zk_ok hR).1
  replace hR := (zk_ok hR).2
  subst hQe
  exact W.zret (ty := .boolean) (v := q1) hx hb hr (zk_nar z2) (fun t ht hW => ⟨⟨q1, (), rfl, (Option.some.inj hR).symm, by rw [ht]; exact hP1, va_K.moved hW.alike hK, hD1⟩, hS1.F ht⟩) hS1.2.2 dX10_isShop_11
def rr_X10_isBill (fu : Nat) (x0 : Int32) (x1 : Int32) (x2 : Int32) : Option (Int32) := (rr_X10_isPurse fu x0).bind (fun q1 => (if q1 = (0 : Int32) then some (0 : Int32) else (rr_X10_isShop fu x1).bind (fun q3 => (if q3 = (0 : Int32) then some (0 : Int32) else (rr_X10_isSum fu x2).bind (fun q5 => (if q5 = (0 : Int32) then some (0 : Int32) else some (1 : Int32)))))))
set_option maxHeartbeats 4000000 in
set_option maxRecDepth 100000 in
theorem cc_X10_isBill (l : Launch) (dC : Nat → ClassId) (dI : Nat → Nat → Nat) (fu : Nat) (sz : Nat) (x0 : Int32) (x1 : Int32) (x2 : Int32) (res : Int32) (hR : rr_X10_isBill fu x0 x1 x2 = some res) : Met l yX10_isBill wsX10_isBill ({ frames := 2, cells := 0, slots := 0, locals := 45 } : Room) (PcF [.int x0, .int x1, .int x2] sz (dC, dI) (([] : va_W)) ([])) (va_Qi (fun (r : Int32) (u : Unit) => res = r) (fun u t => at3_ (dC, dI) (([] : va_W)) ([]) (va_A (([] : va_W)) sz) t) (va_A (([] : va_W)) sz)) 0 0 (va_A (([] : va_W)) sz) := by
  refine Met.ofW (cc := cX10_isBill) (maxL := 3) (ret := (some .boolean)) (by decide) rfl ?_
  intro p e s m args below meth c s₁ B hml hv
  obtain ⟨hav, hsz, hP, hK, hD0⟩ := hv
  have hx := B.exec
  have hb := B.bytes
  have hr := B.returns
  have hts := atoms_spec (ws := wsX10_isBill) B.pre
  have hown : s.vm.findClass RX10 = some m.cls := findClass_of_methodNamed B.named
  have hlocks := B.notSynchronized
  subst hsz
  have hD := hD0.self (sz := s.heap.size)
  clear hD0
  generalize hAe : va_A (([] : va_W)) s.heap.size = A at hD ⊢
  have hA : ∀ q : Nat, s.heap.size ≤ q → A q := fun q h => by rw [← hAe]; exact Or.inr h
  have hS : va_S A s.heap s.heap [] := va_S.rf
  generalize hQe : MQ below _ args s 0 0 A = Q
  rw [show entryFrame m args 3 = F0 m 0 ((lg_sl ([.int x0, .int x1, .int x2]) ++ List.replicate (3 - (lg_sl ([.int x0, .int x1, .int x2])).length) Slot.unset).toArray) [] from by rw [hav]; exact lg_entry_eq m _ _]
  have hl := lv_entry ([.int x0, .int x1, .int x2]) (n := 3) (Nat.le_of_ble_eq_true rfl)
  generalize (lg_sl ([.int x0, .int x1, .int x2]) ++ List.replicate (3 - (lg_sl ([.int x0, .int x1, .int x2])).length) Slot.unset).toArray = ls at hl ⊢
  have hl : lv_has ls 3 [(0, .int x0), (1, .int x1), (2, .int x2)] := hl
  unfold rr_X10_isBill at hR
  refine lv_iload_n hx hb dX10_isBill_0 rfl (lv_at hl 0 rfl) ?_
  have hR0 := ob_ok hR
  clear hR
  obtain ⟨q1, hq1, hR⟩ := hR0
  refine va_calli (va_runS (As := [.int x0]) (rest := []) ⟨hx, hb, hml, hown, hts⟩ (cc_X10_isPurse l dC dI fu s.heap.size x0 q1 hq1) (va_cwS 1 hts gX10_isBill_X10_isPurse rfl rfl rfl (by decide +kernel) ⟨Nat.le_of_ble_eq_true rfl, Nat.le_of_ble_eq_true rfl⟩) (pf_s (nil_K hK) nil_P (nil_D (A := A))) rfl rfl hl.1 rfl (lv_room (Nat.le_of_ble_eq_true rfl)) dX10_isBill_1 ⟨Nat.le_refl _, Nat.le_refl _⟩) hS (fun q _ h => (fr_none hS hA) q h) (fr_none hS hA) (fun r1 v1 t1 H1 locs1 ht1 hvm1 hw1 hB1 hz1 hk1 hS1 => ?_)
  subst hw1
  have hP1 := jn_none hP hk1
  have hD1 := hD
  have hP1 : va_P (dC, dI) vwCl (([] : va_W)) H1 := hP1
  have hD1 : va_D A (([] : va_W)) := hD1
  clear hP hD hS hB1 hk1 hvm1 hz1 ht1
  refine lv_if_eq (tgt := 25) hx hb dX10_isBill_4 (by decide) (fun c2 => ?_) (fun c2 => ?_)
  · replace hR := ifp_ hR c2
    refine lv_iconst (v := (0 : Int32)) hx hb dX10_isBill_25 (by decide) ?_
    subst hQe
    exact W.zret (ty := .boolean) (v := (0 : Int32)) hx hb hr rfl (fun t ht hW => ⟨⟨(0 : Int32), (), rfl, (Option.some.inj hR).symm, by rw [ht]; exact hP1, va_K.moved hW.alike hK, hD1⟩, hS1.F ht⟩) hS1.2.2 dX10_isBill_26
  · replace hR := ifn_ hR c2
    refine lv_iload_n hx hb dX10_isBill_7 rfl (lv_at hl 1 rfl) ?_
    have hR0 := ob_ok hR
    clear hR
    obtain ⟨q3, hq3, hR⟩ := hR0
    refine va_calli (va_runS (As := [.int x1]) (rest := []) ⟨hx, hb, hml, hown, hts⟩ (cc_X10_isShop l dC dI fu H1.size x1 q3 hq3) (va_cwS 1 hts gX10_isBill_X10_isShop rfl rfl rfl (by decide +kernel) ⟨Nat.le_of_ble_eq_true rfl, Nat.le_of_ble_eq_true rfl⟩) (pf_s (nil_K hK) nil_P (nil_D (A := A))) rfl rfl hl.1 rfl (lv_room (Nat.le_of_ble_eq_true rfl)) dX10_isBill_8 ⟨Nat.le_refl _, Nat.le_refl _⟩) hS1 (fun q _ h => (fr_none hS1 hA) q h) (fr_none hS1 hA) (fun r3 v3 t3 H3 locs3 ht3 hvm3 hw3 hB3 hz3 hk3 hS3 => ?_)
    subst hw3
    have hP3 := jn_none hP1 hk3
    have hD3 := hD1
    have hP3 : va_P (dC, dI) vwCl (([] : va_W)) H3 := hP3
    have hD3 : va_D A (([] : va_W)) := hD3
    clear hP1 hD1 hS1 hB3 hk3 hvm3 hz3 ht3
    refine lv_if_eq (tgt := 25) hx hb dX10_isBill_11 (by decide) (fun c4 => ?_) (fun c4 => ?_)
    · replace hR := ifp_ hR c4
      refine lv_iconst (v := (0 : Int32)) hx hb dX10_isBill_25 (by decide) ?_
      subst hQe
      exact W.zret (ty := .boolean) (v := (0 : Int32)) hx hb hr rfl (fun t ht hW => ⟨⟨(0 : Int32), (), rfl, (Option.some.inj hR).symm, by rw [ht]; exact hP3, va_K.moved hW.alike hK, hD3⟩, hS3.F ht⟩) hS3.2.2 dX10_isBill_26
    · replace hR := ifn_ hR c4
      refine lv_iload_n hx hb dX10_isBill_14 rfl (lv_at hl 2 rfl) ?_
      have hR0 := ob_ok hR
      clear hR
      obtain ⟨q5, hq5, hR⟩ := hR0
      refine va_calli (va_runS (As := [.int x2]) (rest := []) ⟨hx, hb, hml, hown, hts⟩ (cc_X10_isSum l dC dI fu H3.size x2 q5 hq5) (va_cwS 1 hts gX10_isBill_X10_isSum rfl rfl rfl (by decide +kernel) ⟨Nat.le_of_ble_eq_true rfl, Nat.le_of_ble_eq_true rfl⟩) (pf_s (nil_K hK) nil_P (nil_D (A := A))) rfl rfl hl.1 rfl (lv_room (Nat.le_of_ble_eq_true rfl)) dX10_isBill_15 ⟨Nat.le_refl _, Nat.le_refl _⟩) hS3 (fun q _ h => (fr_none hS3 hA) q h) (fr_none hS3 hA) (fun r5 v5 t5 H5 locs5 ht5 hvm5 hw5 hB5 hz5 hk5 hS5 => ?_)
      subst hw5
      have hP5 := jn_none hP3 hk5
      have hD5 := hD3
      have hP5 : va_P (dC, dI) vwCl (([] : va_W)) H5 := hP5
      have hD5 : va_D A (([] : va_W)) := hD5
      clear hP3 hD3 hS3 hB5 hk5 hvm5 hz5 ht5
      refine lv_if_eq (tgt := 25) hx hb dX10_isBill_18 (by decide) (fun c6 => ?_) (fun c6 => ?_)
      · replace hR := ifp_ hR c6
        refine lv_iconst (v := (0 : Int32)) hx hb dX10_isBill_25 (by decide) ?_
        subst hQe
        exact W.zret (ty := .boolean) (v := (0 : Int32)) hx hb hr rfl (fun t ht hW => ⟨⟨(0 : Int32), (), rfl, (Option.some.inj hR).symm, by rw [ht]; exact hP5, va_K.moved hW.alike hK, hD5⟩, hS5.F ht⟩) hS5.2.2 dX10_isBill_26
      · replace hR := ifn_ hR c6
        refine lv_iconst (v := (1 : Int32)) hx hb dX10_isBill_21 (by decide) ?_
        refine lv_goto (tgt := 26) hx hb dX10_isBill_22 (by decide) ?_
        subst hQe
        exact W.zret (ty := .boolean) (v := (1 : Int32)) hx hb hr rfl (fun t ht hW => ⟨⟨(1 : Int32), (), rfl, (Option.some.inj hR).symm, by rw [ht]; exact hP5, va_K.moved hW.alike hK, hD5⟩, hS5.F ht⟩) hS5.2.2 dX10_isBill_26
def rr_X10_lent_182 (fu : Nat) (rec43 : Int32 → Int32 → Int32 → Int32 → Int32 → Int32 → Int32 → Int32 → Int32 → ZT_10 → Option (Int32 × ZT_10)) (y1 : Int32) (y2 : Int32) (y3 : Int32) (y4 : Int32) (y5 : Int32) (y6 : Int32) (y7 : Int32) (y8 : Int32) (y9 : Int32) (u1 : ZT_10) : Option (Int32 × ZT_10) := lt_ (α := Int32) (y9 + (1 : Int32)) (fun z16 => rec43 y1 y2 y3 y4 y5 y6 y7 y8 z16 u1)
def rr_X10_lent_180 (fu : Nat) (rec43 : Int32 → Int32 → Int32 → Int32 → Int32 → Int32 → Int32 → Int32 → Int32 → ZT_10 → Option (Int32 × ZT_10)) (y1 : Int32) (y2 : Int32) (y3 : Int32) (y4 : Int32) (y5 : Int32) (y6 : Int32) (y8 : Int32) (y9 : Int32) (w0 : Int32) (u1 : ZT_10) : Option (Int32 × ZT_10) := rr_X10_lent_182 fu rec43 y1 y2 y3 y4 y5 y6 w0 y8 y9 u1
def rr_X10_lent_164 (fu : Nat) (rec43 : Int32 → Int32 → Int32 → Int32 → Int32 → Int32 → Int32 → Int32 → Int32 → ZT_10 → Option (Int32 × ZT_10)) (y1 : Int32) (y2 : Int32) (y3 : Int32) (y4 : Int32) (y5 : Int32) (y6 : Int32) (y7 : Int32) (y9 : Int32) (y10 : Int32) (w0 : Int32) (u1 : ZT_10) : Option (Int32 × ZT_10) := (if y10 ≤ y7 then rr_X10_lent_180 fu rec43 y1 y2 y3 y4 y5 y6 w0 y9 y7 u1 else rr_X10_lent_180 fu rec43 y1 y2 y3 y4 y5 y6 w0 y9 y10 u1)
def rr_X10_lent_133 (fu : Nat) (rec43 : Int32 → Int32 → Int32 → Int32 → Int32 → Int32 → Int32 → Int32 → Int32 → ZT_10 → Option (Int32 × ZT_10)) (y1 : Int32) (y2 : Int32) (y3 : Int32) (y4 : Int32) (y5 : Int32) (y6 : Int32) (y7 : Int32) (y8 : Int32) (y9 : Int32) (w0 : Int32) (w1 : Int32) (u1 : ZT_10) : Option (Int32 × ZT_10) := lt_ (α := Int32) (w1 + w0) (fun z24 => (rr_X10_bringBack fu u1).bind (fun q26 => (if z24 ≤ y7 then rr_X10_lent_164 fu rec43 y1 y2 y3 y4 y5 y6 y7 y9 z24 y8 q26 else (if (0 : Int32) ≤ y9 then rr_X10_lent_164 fu rec43 y1 y2 y3 y4 y5 y6 y7 y9 z24 y9 q26 else rr_X10_lent_164 fu rec43 y1 y2 y3 y4 y5 y6 y7 y9 z24 (-4 : Int32) q26))))
def rr_X10_lent_132 (fu : Nat) (rec43 : Int32 → Int32 → Int32 → Int32 → Int32 → Int32 → Int32 → Int32 → Int32 → ZT_10 → Option (Int32 × ZT_10)) (y1 : Int32) (y2 : Int32) (y3 : Int32) (y4 : Int32) (y5 : Int32) (y6 : Int32) (y7 : Int32) (y8 : Int32) (y9 : Int32) (w0 : Int32) (u1 : ZT_10) : Option (Int32 × ZT_10) := rr_X10_lent_133 fu rec43 y1 y2 y3 y4 y5 y6 y7 y8 y9 (0 : Int32) w0 u1
def rr_X10_lent_104 (fu : Nat) (rec43 : Int32 → Int32 → Int32 → Int32 → Int32 → Int32 → Int32 → Int32 → Int32 → ZT_10 → Option (Int32 × ZT_10)) (y1 : Int32) (y2 : Int32) (y3 : Int32) (y4 : Int32) (y5 : Int32) (y6 : Int32) (y7 : Int32) (y8 : Int32) (y9 : Int32) (w0 : Int32) (u1 : ZT_10) : Option (Int32 × ZT_10) := (rr_X10_doBill fu y4 y5 y6 u1).bind (fun q21 => (if q21.1 = (0 : Int32) then rr_X10_lent_132 fu rec43 y1 y2 y3 y4 y5 y6 y7 y8 y9 w0 q21.2 else (if q21.2.2.2.2.2.2.1.2.2.2.1 = (0 : Int32) then rr_X10_lent_133 fu rec43 y1 y2 y3 y4 y5 y6 y7 y8 y9 (1 : Int32) w0 q21.2 else rr_X10_lent_132 fu rec43 y1 y2 y3 y4 y5 y6 y7 y8 y9 w0 q21.2)))
def rr_X10_lent_103 (fu : Nat) (rec43 : Int32 → Int32 → Int32 → Int32 → Int32 → Int32 → Int32 → Int32 → Int32 → ZT_10 → Option (Int32 × ZT_10)) (y1 : Int32) (y2 : Int32) (y3 : Int32) (y4 : Int32) (y5 : Int32) (y6 : Int32) (y7 : Int32) (y8 : Int32) (y9 : Int32) (u1 : ZT_10) : Option (Int32 × ZT_10) := rr_X10_lent_104 fu rec43 y1 y2 y3 y4 y5 y6 y7 y8 y9 (0 : Int32) u1
def rr_X10_lent_82 (fu : Nat) (rec43 : Int32 → Int32 → Int32 → Int32 → Int32 → Int32 → Int32 → Int32 → Int32 → ZT_10 → Option (Int32 × ZT_10)) (y1 : Int32) (y2 : Int32) (y3 : Int32) (y4 : Int32) (y5 : Int32) (y6 : Int32) (y7 : Int32) (y8 : Int32) (y9 : Int32) (u1 : ZT_10) : Option (Int32 × ZT_10) := (rr_X10_doBill fu y1 y2 y3 u1).bind (fun q17 => (if q17.1 = (0 : Int32) then rr_X10_lent_103 fu rec43 y1 y2 y3 y4 y5 y6 y7 y8 y9 q17.2 else (if q17.2.2.2.2.2.2.1.2.2.2.1 = (0 : Int32) then rr_X10_lent_104 fu rec43 y1 y2 y3 y4 y5 y6 y7 y8 y9 (1 : Int32) q17.2 else rr_X10_lent_103 fu rec43 y1 y2 y3 y4 y5 y6 y7 y8 y9 q17.2)))
def rr_X10_lent_68 (fu : Nat) (rec43 : Int32 → Int32 → Int32 → Int32 → Int32 → Int32 → Int32 → Int32 → Int32 → ZT_10 → Option (Int32 × ZT_10)) (y1 : Int32) (y2 : Int32) (y3 : Int32) (y4 : Int32) (y5 : Int32) (y6 : Int32) (y7 : Int32) (y8 : Int32) (y9 : Int32) (u1 : ZT_10) : Option (Int32 × ZT_10) := (if y9 < (0 : Int32) then rr_X10_lent_82 fu rec43 y1 y2 y3 y4 y5 y6 y7 y8 y9 u1 else ck_ y9 40 (rr_X10_lent_82 fu rec43 y1 y2 y3 y4 y5 y6 y7 y8 y9 ((u1.1.1, u1.1.2.1, u1.1.2.2.1, u1.1.2.2.2.1, (upd u1.1.2.2.2.2.1 y9.toNatClampNeg y4), u1.1.2.2.2.2.2), u1.2)))
def rr_X10_lent_43_b (fu : Nat) (rec43 : Int32 → Int32 → Int32 → Int32 → Int32 → Int32 → Int32 → Int32 → Int32 → ZT_10 → Option (Int32 × ZT_10)) (y1 : Int32) (y2 : Int32) (y3 : Int32) (y4 : Int32) (y5 : Int32) (y6 : Int32) (y7 : Int32) (y8 : Int32) (y9 : Int32) (u1 : ZT_10) : Option (Int32 × ZT_10) := (if u1.1.2.2.2.2.2.1 ≤ y9 then some (y8, u1) else (if y9 < (0 : Int32) then rr_X10_lent_68 fu rec43 y1 y2 y3 y4 y5 y6 y7 y8 y9 u1 else ck_ y9 40 ((if (u1.2.2.2.2.2.2.1.1 y9.toNatClampNeg) = y1 then rr_X10_lent_68 fu rec43 y1 y2 y3 y4 y5 y6 y7 y8 y9 u1 else rr_X10_lent_182 fu rec43 y1 y2 y3 y4 y5 y6 y7 y8 y9 u1))))
def rr_X10_lent_43 (fu : Nat) (n : Nat) : Int32 → Int32 → Int32 → Int32 → Int32 → Int32 → Int32 → Int32 → Int32 → ZT_10 → Option (Int32 × ZT_10) := lp_ (fun _ _ _ _ _ _ _ _ _ _ => none) (rr_X10_lent_43_b fu) n
def rr_X10_lent (fu : Nat) (x1 : Int32) (x2 : Int32) (x3 : Int32) (x4 : Int32) (x5 : Int32) (x6 : Int32) (s1 : ZT_10) : Option (Int32 × ZT_10) := (rr_X10_isBill fu x1 x2 x3).bind (fun q1 => (if q1 = (0 : Int32) then some ((-1 : Int32), s1) else (rr_X10_isBill fu x4 x5 x6).bind (fun q3 => (if q3 = (0 : Int32) then some ((-1 : Int32), s1) else (if x1 = x4 then some ((-1 : Int32), s1) else (rr_X10_keep fu s1).bind (fun q6 => rr_X10_lent_43 fu fu x1 x2 x3 x4 x5 x6 (-1 : Int32) (-4 : Int32) (-1 : Int32) q6))))))
set_option maxHeartbeats 4000000 in
set_option maxRecDepth 100000 in
theorem cc_X10_lent (l : Launch) (dC : Nat → ClassId) (dI : Nat → Nat → Nat) (fu : Nat) (a1 : Nat → Nat) (k1 : Nat → ClassId) (sz : Nat) (x1 : Int32) (x2 : Int32) (x3 : Int32) (x4 : Int32) (x5 : Int32) (x6 : Int32) (s1 : ZT_10) (res : Int32 × ZT_10) (hR : rr_X10_lent fu x1 x2 x3 x4 x5 x6 s1 = some res) : Met l yX10_lent wsX10_lent ({ frames := 6, cells := 0, slots := 0, locals := 139 } : Room) (PcF [.ref (a1 0), .int x1, .int x2, .int x3, .int x4, .int x5, .int x6] sz (dC, dI) (zc_10 a1 k1 s1) (zt_10 k1)) (va_Qi (fun (r : Int32) (u : ZT_10) => res = (r, u)) (fun u t => at3_ (dC, dI) (zc_10 a1 k1 u) (zt_10 k1) (va_A (zc_10 a1 k1 s1) sz) t) (va_A (zc_10 a1 k1 s1) sz)) 0 0 (va_A (zc_10 a1 k1 s1) sz) := by
  refine Met.ofW (cc := cX10_lent) (maxL := 11) (ret := (some .int)) (by decide) rfl ?_
  intro p e s m args below meth c s₁ B hml hv
  obtain ⟨hav, hsz, hP, hK, hD0⟩ := hv
  have hx := B.exec
  have hb := B.bytes
  have hr := B.returns
  have hts := atoms_spec (ws := wsX10_lent) B.pre
  have hown : s.vm.findClass RX10 = some m.cls := findClass_of_methodNamed B.named
  have hlocks := B.notSynchronized
  have hin10 : ∀ w ∈ wsX100, w ∈ wsX10_lent := fun w h => List.mem_cons_of_mem _ (List.mem_append_right _ h)
  subst hsz
  have hD := hD0.self (sz := s.heap.size)
  clear hD0
  generalize hAe : va_A (zc_10 a1 k1 s1) s.heap.size = A at hD ⊢
  have hA : ∀ q : Nat, s.heap.size ≤ q → A q := fun q h => by rw [← hAe]; exact Or.inr h
  have hS : va_S A s.heap s.heap [] := va_S.rf
  generalize hQe : MQ below _ args s 0 0 A = Q
  rw [show entryFrame m args 11 = F0 m 0 ((lg_sl ([.ref (a1 0), .int x1, .int x2, .int x3, .int x4, .int x5, .int x6]) ++ List.replicate (11 - (lg_sl ([.ref (a1 0), .int x1, .int x2, .int x3, .int x4, .int x5, .int x6])).length) Slot.unset).toArray) [] from by rw [hav]; exact lg_entry_eq m _ _]
  have hl := lv_entry ([.ref (a1 0), .int x1, .int x2, .int x3, .int x4, .int x5, .int x6]) (n := 11) (Nat.le_of_ble_eq_true rfl)
  generalize (lg_sl ([.ref (a1 0), .int x1, .int x2, .int x3, .int x4, .int x5, .int x6]) ++ List.replicate (11 - (lg_sl ([.ref (a1 0), .int x1, .int x2, .int x3, .int x4, .int x5, .int x6])).length) Slot.unset).toArray = ls at hl ⊢
  have hl : lv_has ls 11 [(0, .ref (a1 0)), (1, .int x1), (2, .int x2), (3, .int x3), (4, .int x4), (5, .int x5), (6, .int x6)] := hl
  have hB182 : ∀ (rec43 : Int32 → Int32 → Int32 → Int32 → Int32 → Int32 → Int32 → Int32 → Int32 → ZT_10 → Option (Int32 × ZT_10)) (hrec43 : ∀ (y1 : Int32) (y2 : Int32) (y3 : Int32) (y4 : Int32) (y5 : Int32) (y6 : Int32) (y7 : Int32) (y8 : Int32) (y9 : Int32) (u1 : ZT_10) (H : Heap) (locs : List Loc) (ls : Array Slot), va_P (dC, dI) vwCl (zc_10 a1 k1 u1) H → va_D A (zc_10 a1 k1 u1) → va_S A s.heap H locs → lv_has ls 11 [(0, .ref (a1 0)), (1, .int y1), (2, .int y2), (3, .int y3), (4, .int y4), (5, .int y5), (6, .int y6), (7, .int y7), (8, .int y8), (9, .int y9)] → rec43 y1 y2 y3 y4 y5 y6 y7 y8 y9 u1 = some res → W p l e ({ frames := 6, cells := 0, slots := 0, locals := 139 } : Room) s m args below meth c H locs 0 0 Q (F0 m 43 ls [])), ∀ (y1 : Int32) (y2 : Int32) (y3 : Int32) (y4 : Int32) (y5 : Int32) (y6 : Int32) (y7 : Int32) (y8 : Int32) (y9 : Int32) (u1 : ZT_10) (H : Heap) (locs : List Loc) (ls : Array Slot), va_P (dC, dI) vwCl (zc_10 a1 k1 u1) H → va_D A (zc_10 a1 k1 u1) → va_S A s.heap H locs → lv_has ls 11 [(0, .ref (a1 0)), (1, .int y1), (2, .int y2), (3, .int y3), (4, .int y4), (5, .int y5), (6, .int y6), (7, .int y7), (8, .int y8), (9, .int y9)] → rr_X10_lent_182 fu rec43 y1 y2 y3 y4 y5 y6 y7 y8 y9 u1 = some res → W p l e ({ frames := 6, cells := 0, slots := 0, locals := 139 } : Room) s m args below meth c H locs 0 0 Q (F0 m 182 ls []) := by
    intro rec43 hrec43 y1 y2 y3 y4 y5 y6 y7 y8 y9 u1 H locs ls hP hD hS hl hR
    unfold rr_X10_lent_182 at hR
    obtain ⟨z16, ez16⟩ : ∃ y : Int32, y = (y9 + (1 : Int32)) := ⟨_, rfl⟩
    replace hR := lt_ok hR ez16
    refine lv_iinc (v := z16) (lv' := [(9, .int z16), (0, .ref (a1 0)), (1, .int y1), (2, .int y2), (3, .int y3), (4, .int y4), (5, .int y5), (6, .int y6), (7, .int y7), (8, .int y8)]) hx hb dX10_lent_182 hl (k := 9) rfl (by rw [ez16]; rfl) (by decide) rfl (fun ls16 hl16 => ?_)
    refine lv_goto (tgt := 43) hx hb dX10_lent_185 (by decide) ?_
    exact hrec43 y1 y2 y3 y4 y5 y6 y7 y8 z16 u1 H locs ls16 hP hD hS (lv_sub hl16 [1, 2, 3, 4, 5, 6, 7, 8, 9, 0] rfl) hR
  have hB180 : ∀ (rec43 : Int32 → Int32 → Int32 → Int32 → Int32 → Int32 → Int32 → Int32 → Int32 → ZT_10 → Option (Int32 × ZT_10)) (hrec43 : ∀ (y1 : Int32) (y2 : Int32) (y3 : Int32) (y4 : Int32) (y5 : Int32) (y6 : Int32) (y7 : Int32) (y8 : Int32) (y9 : Int32) (u1 : ZT_10) (H : Heap) (locs : List Loc) (ls : Array Slot), va_P (dC, dI) vwCl (zc_10 a1 k1 u1) H → va_D A (zc_10 a1 k1 u1) → va_S A s.heap H locs → lv_has ls 11 [(0, .ref (a1 0)), (1, .int y1), (2, .int y2), (3, .int y3), (4, .int y4), (5, .int y5), (6, .int y6), (7, .int y7), (8, .int y8), (9, .int y9)] → rec43 y1 y2 y3 y4 y5 y6 y7 y8 y9 u1 = some res → W p l e ({ frames := 6, cells := 0, slots := 0, locals := 139 } : Room) s m args below meth c H locs 0 0 Q (F0 m 43 ls [])), ∀ (y1 : Int32) (y2 : Int32) (y3 : Int32) (y4 : Int32) (y5 : Int32) (y6 : Int32) (y8 : Int32) (y9 : Int32) (w0 : Int32) (u1 : ZT_10) (H : Heap) (locs : List Loc) (ls : Array Slot), va_P (dC, dI) vwCl (zc_10 a1 k1 u1) H → va_D A (zc_10 a1 k1 u1) → va_S A s.heap H locs → lv_has ls 11 [(0, .ref (a1 0)), (1, .int y1), (2, .int y2), (3, .int y3), (4, .int y4), (5, .int y5), (6, .int y6), (8, .int y8), (9, .int y9)] → rr_X10_lent_180 fu rec43 y1 y2 y3 y4 y5 y6 y8 y9 w0 u1 = some res → W p l e ({ frames := 6, cells := 0, slots := 0, locals := 139 } : Room) s m args below meth c H locs 0 0 Q (F0 m 180 ls [.int w0]) := by
    intro rec43 hrec43 y1 y2 y3 y4 y5 y6 y8 y9 w0 u1 H locs ls hP hD hS hl hR
    unfold rr_X10_lent_180 at hR
    refine lv_istore (lv' := [(7, .int w0), (0, .ref (a1 0)), (1, .int y1), (2, .int y2), (3, .int y3), (4, .int y4), (5, .int y5), (6, .int y6), (8, .int y8), (9, .int y9)]) hx hb dX10_lent_180 hl (by decide) rfl (fun ls31 hl31 => ?_)
    exact hB182 rec43 hrec43 y1 y2 y3 y4 y5 y6 w0 y8 y9 u1 H locs ls31 hP hD hS (lv_sub hl31 [1, 2, 3, 4, 5, 6, 7, 0, 8, 9] rfl) hR
  have hB164 : ∀ (rec43 : Int32 → Int32 → Int32 → Int32 → Int32 → Int32 → Int32 → Int32 → Int32 → ZT_10 → Option (Int32 × ZT_10)) (hrec43 : ∀ (y1 : Int32) (y2 : Int32) (y3 : Int32) (y4 : Int32) (y5 : Int32) (y6 : Int32) (y7 : Int32) (y8 : Int32) (y9 : Int32) (u1 : ZT_10) (H : Heap) (locs : List Loc) (ls : Array Slot), va_P (dC, dI) vwCl (zc_10 a1 k1 u1) H → va_D A (zc_10 a1 k1 u1) → va_S A s.heap H locs → lv_has ls 11 [(0, .ref (a1 0)), (1, .int y1), (2, .int y2), (3, .int y3), (4, .int y4), (5, .int y5), (6, .int y6), (7, .int y7), (8, .int y8), (9, .int y9)] → rec43 y1 y2 y3 y4 y5 y6 y7 y8 y9 u1 = some res → W p l e ({ frames := 6, cells := 0, slots := 0, locals := 139 } : Room) s m args below meth c H locs 0 0 Q (F0 m 43 ls [])), ∀ (y1 : Int32) (y2 : Int32) (y3 : Int32) (y4 : Int32) (y5 : Int32) (y6 : Int32) (y7 : Int32) (y9 : Int32) (y10 : Int32) (w0 : Int32) (u1 : ZT_10) (H : Heap) (locs : List Loc) (ls : Array Slot), va_P (dC, dI) vwCl (zc_10 a1 k1 u1) H → va_D A (zc_10 a1 k1 u1) → va_S A s.heap H locs → lv_has ls 11 [(0, .ref (a1 0)), (1, .int y1), (2, .int y2), (3, .int y3), (4, .int y4), (5, .int y5), (6, .int y6), (7, .int y7), (9, .int y9), (10, .int y10)] → rr_X10_lent_164 fu rec43 y1 y2 y3 y4 y5 y6 y7 y9 y10 w0 u1 = some res → W p l e ({ frames := 6, cells := 0, slots := 0, locals := 139 } : Room) s m args below meth c H locs 0 0 Q (F0 m 164 ls [.int w0]) := by
    intro rec43 hrec43 y1 y2 y3 y4 y5 y6 y7 y9 y10 w0 u1 H locs ls hP hD hS hl hR
    unfold rr_X10_lent_164 at hR
    refine lv_istore (lv' := [(8, .int w0), (0, .ref (a1 0)), (1, .int y1), (2, .int y2), (3, .int y3), (4, .int y4), (5, .int y5), (6, .int y6), (7, .int y7), (9, .int y9), (10, .int y10)]) hx hb dX10_lent_164 hl (by decide) rfl (fun ls29 hl29 => ?_)
    refine lv_iload hx hb dX10_lent_166 (lv_at hl29 10 rfl) ?_
    refine lv_iload hx hb dX10_lent_168 (lv_at hl29 8 rfl) ?_
    refine lv_icmp_le (tgt := 178) hx hb dX10_lent_170 (by decide) (fun c30 => ?_) (fun c30 => ?_)
    · replace hR := ifp_ hR c30
      refine lv_iload hx hb dX10_lent_178 (lv_at hl29 8 rfl) ?_
      exact hB180 rec43 hrec43 y1 y2 y3 y4 y5 y6 w0 y9 y7 u1 H locs ls29 hP hD hS (lv_sub hl29 [1, 2, 3, 4, 5, 6, 7, 0, 9] rfl) hR
    · replace hR := ifn_ hR c30
      refine lv_iload hx hb dX10_lent_173 (lv_at hl29 10 rfl) ?_
      refine lv_goto (tgt := 180) hx hb dX10_lent_175 (by decide) ?_
      exact hB180 rec43 hrec43 y1 y2 y3 y4 y5 y6 w0 y9 y10 u1 H locs ls29 hP hD hS (lv_sub hl29 [1, 2, 3, 4, 5, 6, 7, 0, 9] rfl) hR
  have hB133 : ∀ (rec43 : Int32 → Int32 → Int32 → Int32 → Int32 → Int32 → Int32 → Int32 → Int32 → ZT_10 → Option (Int32 × ZT_10)) (hrec43 : ∀ (y1 : Int32) (y2 : Int32) (y3 : Int32) (y4 : Int32) (y5 : Int32) (y6 : Int32) (y7 : Int32) (y8 : Int32) (y9 : Int32) (u1 : ZT_10) (H : Heap) (locs : List Loc) (ls : Array Slot), va_P (dC, dI) vwCl (zc_10 a1 k1 u1) H → va_D A (zc_10 a1 k1 u1) → va_S A s.heap H locs → lv_has ls 11 [(0, .ref (a1 0)), (1, .int y1), (2, .int y2), (3, .int y3), (4, .int y4), (5, .int y5), (6, .int y6), (7, .int y7), (8, .int y8), (9, .int y9)] → rec43 y1 y2 y3 y4 y5 y6 y7 y8 y9 u1 = some res → W p l e ({ frames := 6, cells := 0, slots := 0, locals := 139 } : Room) s m args below meth c H locs 0 0 Q (F0 m 43 ls [])), ∀ (y1 : Int32) (y2 : Int32) (y3 : Int32) (y4 : Int32) (y5 : Int32) (y6 : Int32) (y7 : Int32) (y8 : Int32) (y9 : Int32) (w0 : Int32) (w1 : Int32) (u1 : ZT_10) (H : Heap) (locs : List Loc) (ls : Array Slot), va_P (dC, dI) vwCl (zc_10 a1 k1 u1) H → va_D A (zc_10 a1 k1 u1) → va_S A s.heap H locs → lv_has ls 11 [(0, .ref (a1 0)), (1, .int y1), (2, .int y2), (3, .int y3), (4, .int y4), (5, .int y5), (6, .int y6), (7, .int y7), (8, .int y8), (9, .int y9)] → rr_X10_lent_133 fu rec43 y1 y2 y3 y4 y5 y6 y7 y8 y9 w0 w1 u1 = some res → W p l e ({ frames := 6, cells := 0, slots := 0, locals := 139 } : Room) s m args below meth c H locs 0 0 Q (F0 m 133 ls [.int w0, .int w1]) := by
    intro rec43 hrec43 y1 y2 y3 y4 y5 y6 y7 y8 y9 w0 w1 u1 H locs ls hP hD hS hl hR
    unfold rr_X10_lent_133 at hR
    refine lv_iadd hx hb dX10_lent_133 ?_
    refine lv_topi (fun z24 ez24 => ?_)
    replace hR := lt_ok hR ez24
    refine lv_istore (lv' := [(10, .int z24), (0, .ref (a1 0)), (1, .int y1), (2, .int y2), (3, .int y3), (4, .int y4), (5, .int y5), (6, .int y6), (7, .int y7), (8, .int y8), (9, .int y9)]) hx hb dX10_lent_134 hl (by decide) rfl (fun ls25 hl25 => ?_)
    refine lv_aload_n hx hb dX10_lent_136 rfl (lv_at hl25 1 rfl) ?_
    have hR0 := ob_ok hR
    clear hR
    obtain ⟨q26, hq26, hR⟩ := hR0
    refine va_callv (va_runV (As := []) (rest := []) ⟨hx, hb, hml, hown, hts⟩ (cc_X10_bringBack l dC dI fu a1 k1 H.size u1 q26 hq26) (cwV 0 hts gX10_lent_X10_bringBack rfl rfl rfl (by decide +kernel) ⟨Nat.le_of_ble_eq_true rfl, Nat.le_of_ble_eq_true rfl⟩) (pf_v hK hP hD 10 0 rfl rfl rfl) rfl rfl hl25.1 rfl (lv_room (Nat.le_of_ble_eq_true rfl)) dX10_lent_137 ⟨Nat.le_refl _, Nat.le_refl _⟩) hS (fun q _ h => (fr_all hD hS hA) q h) (fr_all hD hS hA) (fun v26 t26 H26 locs26 ht26 hvm26 hw26 hB26 hz26 hk26 hS26 => ?_)
    subst hw26
    obtain ⟨hP26, hD26⟩ := jn_all hD hS hA ht26 hB26
    have hP26 : va_P (dC, dI) vwCl (zc_10 a1 k1 q26) H26 := hP26
    have hD26 : va_D A (zc_10 a1 k1 q26) := hD26
    clear hP hD hS hB26 hk26 hvm26 hz26 ht26
    refine lv_iload hx hb dX10_lent_140 (lv_at hl25 0 rfl) ?_
    refine lv_iload hx hb dX10_lent_142 (lv_at hl25 8 rfl) ?_
    refine lv_icmp_le (tgt := 162) hx hb dX10_lent_144 (by decide) (fun c27 => ?_) (fun c27 => ?_)
    · replace hR := ifp_ hR c27
      refine lv_iload hx hb dX10_lent_162 (lv_at hl25 9 rfl) ?_
      exact hB164 rec43 hrec43 y1 y2 y3 y4 y5 y6 y7 y9 z24 y8 q26 H26 locs26 ls25 hP26 hD26 hS26 (lv_sub hl25 [1, 2, 3, 4, 5, 6, 7, 8, 10, 0] rfl) hR
    · replace hR := ifn_ hR c27
      refine lv_iload hx hb dX10_lent_147 (lv_at hl25 10 rfl) ?_
      refine lv_if_ge (tgt := 157) hx hb dX10_lent_149 (by decide) (fun c28 => ?_) (fun c28 => ?_)
      · replace hR := ifp_ hR c28
        refine lv_iload hx hb dX10_lent_157 (lv_at hl25 10 rfl) ?_
        refine lv_goto (tgt := 164) hx hb dX10_lent_159 (by decide) ?_
        exact hB164 rec43 hrec43 y1 y2 y3 y4 y5 y6 y7 y9 z24 y9 q26 H26 locs26 ls25 hP26 hD26 hS26 (lv_sub hl25 [1, 2, 3, 4, 5, 6, 7, 8, 10, 0] rfl) hR
      · replace hR := ifn_ hR c28
        refine lv_bipush (v := (-4 : Int32)) hx hb dX10_lent_152 (by decide) ?_
        refine lv_goto (tgt := 164) hx hb dX10_lent_154 (by decide) ?_
        exact hB164 rec43 hrec43 y1 y2 y3 y4 y5 y6 y7 y9 z24 (-4 : Int32) q26 H26 locs26 ls25 hP26 hD26 hS26 (lv_sub hl25 [1, 2, 3, 4, 5, 6, 7, 8, 10, 0] rfl) hR
  have hB132 : ∀ (rec43 : Int32 → Int32 → Int32 → Int32 → Int32 → Int32 → Int32 → Int32 → Int32 → ZT_10 → Option (Int32 × ZT_10)) (hrec43 : ∀ (y1 : Int32) (y2 : Int32) (y3 : Int32) (y4 : Int32) (y5 : Int32) (y6 : Int32) (y7 : Int32) (y8 : Int32) (y9 : Int32) (u1 : ZT_10) (H : Heap) (locs : List Loc) (ls : Array Slot), va_P (dC, dI) vwCl (zc_10 a1 k1 u1) H → va_D A (zc_10 a1 k1 u1) → va_S A s.heap H locs → lv_has ls 11 [(0, .ref (a1 0)), (1, .int y1), (2, .int y2), (3, .int y3), (4, .int y4), (5, .int y5), (6, .int y6), (7, .int y7), (8, .int y8), (9, .int y9)] → rec43 y1 y2 y3 y4 y5 y6 y7 y8 y9 u1 = some res → W p l e ({ frames := 6, cells := 0, slots := 0, locals := 139 } : Room) s m args below meth c H locs 0 0 Q (F0 m 43 ls [])), ∀ (y1 : Int32) (y2 : Int32) (y3 : Int32) (y4 : Int32) (y5 : Int32) (y6 : Int32) (y7 : Int32) (y8 : Int32) (y9 : Int32) (w0 : Int32) (u1 : ZT_10) (H : Heap) (locs : List Loc) (ls : Array Slot), va_P (dC, dI) vwCl (zc_10 a1 k1 u1) H → va_D A (zc_10 a1 k1 u1) → va_S A s.heap H locs → lv_has ls 11 [(0, .ref (a1 0)), (1, .int y1), (2, .int y2), (3, .int y3), (4, .int y4), (5, .int y5), (6, .int y6), (7, .int y7), (8, .int y8), (9, .int y9)] → rr_X10_lent_132 fu rec43 y1 y2 y3 y4 y5 y6 y7 y8 y9 w0 u1 = some res → W p l e ({ frames := 6, cells := 0, slots := 0, locals := 139 } : Room) s m args below meth c H locs 0 0 Q (F0 m 132 ls [.int w0]) := by
    intro rec43 hrec43 y1 y2 y3 y4 y5 y6 y7 y8 y9 w0 u1 H locs ls hP hD hS hl hR
    unfold rr_X10_lent_132 at hR
    refine lv_iconst (v := (0 : Int32)) hx hb dX10_lent_132 (by decide) ?_
    exact hB133 rec43 hrec43 y1 y2 y3 y4 y5 y6 y7 y8 y9 (0 : Int32) w0 u1 H locs ls hP hD hS (lv_sub hl [0, 1, 2, 3, 4, 5, 6, 7, 8, 9] rfl) hR
  have hB104 : ∀ (rec43 : Int32 → Int32 → Int32 → Int32 → Int32 → Int32 → Int32 → Int32 → Int32 → ZT_10 → Option (Int32 × ZT_10)) (hrec43 : ∀ (y1 : Int32) (y2 : Int32) (y3 : Int32) (y4 : Int32) (y5 : Int32) (y6 : Int32) (y7 : Int32) (y8 : Int32) (y9 : Int32) (u1 : ZT_10) (H : Heap) (locs : List Loc) (ls : Array Slot), va_P (dC, dI) vwCl (zc_10 a1 k1 u1) H → va_D A (zc_10 a1 k1 u1) → va_S A s.heap H locs → lv_has ls 11 [(0, .ref (a1 0)), (1, .int y1), (2, .int y2), (3, .int y3), (4, .int y4), (5, .int y5), (6, .int y6), (7, .int y7), (8, .int y8), (9, .int y9)] → rec43 y1 y2 y3 y4 y5 y6 y7 y8 y9 u1 = some res → W p l e ({ frames := 6, cells := 0, slots := 0, locals := 139 } : Room) s m args below meth c H locs 0 0 Q (F0 m 43 ls [])), ∀ (y1 : Int32) (y2 : Int32) (y3 : Int32) (y4 : Int32) (y5 : Int32) (y6 : Int32) (y7 : Int32) (y8 : Int32) (y9 : Int32) (w0 : Int32) (u1 : ZT_10) (H : Heap) (locs : List Loc) (ls : Array Slot), va_P (dC, dI) vwCl (zc_10 a1 k1 u1) H → va_D A (zc_10 a1 k1 u1) → va_S A s.heap H locs → lv_has ls 11 [(0, .ref (a1 0)), (1, .int y1), (2, .int y2), (3, .int y3), (4, .int y4), (5, .int y5), (6, .int y6), (7, .int y7), (8, .int y8), (9, .int y9)] → rr_X10_lent_104 fu rec43 y1 y2 y3 y4 y5 y6 y7 y8 y9 w0 u1 = some res → W p l e ({ frames := 6, cells := 0, slots := 0, locals := 139 } : Room) s m args below meth c H locs 0 0 Q (F0 m 104 ls [.int w0]) := by
    intro rec43 hrec43 y1 y2 y3 y4 y5 y6 y7 y8 y9 w0 u1 H locs ls hP hD hS hl hR
    unfold rr_X10_lent_104 at hR
    refine lv_istore (lv' := [(10, .int w0), (0, .ref (a1 0)), (1, .int y1), (2, .int y2), (3, .int y3), (4, .int y4), (5, .int y5), (6, .int y6), (7, .int y7), (8, .int y8), (9, .int y9)]) hx hb dX10_lent_104 hl (by decide) rfl (fun ls20 hl20 => ?_)
    refine lv_iload hx hb dX10_lent_106 (lv_at hl20 0 rfl) ?_
    refine lv_aload_n hx hb dX10_lent_108 rfl (lv_at hl20 1 rfl) ?_
    refine lv_iload hx hb dX10_lent_109 (lv_at hl20 5 rfl) ?_
    refine lv_iload hx hb dX10_lent_111 (lv_at hl20 6 rfl) ?_
    refine lv_iload hx hb dX10_lent_113 (lv_at hl20 7 rfl) ?_
    have hR0 := ob_ok hR
    clear hR
    obtain ⟨q21, hq21, hR⟩ := hR0
    refine va_calli (va_runV (As := [.int y4, .int y5, .int y6]) (rest := [.int w0]) ⟨hx, hb, hml, hown, hts⟩ (cc_X10_doBill l dC dI fu a1 k1 H.size y4 y5 y6 u1 q21 hq21) (cwV 3 hts gX10_lent_X10_doBill rfl rfl rfl (by decide +kernel) ⟨Nat.le_of_ble_eq_true rfl, Nat.le_of_ble_eq_true rfl⟩) (pf_v hK hP hD 10 0 rfl rfl rfl) rfl rfl hl20.1 rfl (lv_room (Nat.le_of_ble_eq_true rfl)) dX10_lent_115 ⟨Nat.le_refl _, Nat.le_refl _⟩) hS (fun q _ h => (fr_all hD hS hA) q h) (fr_all hD hS hA) (fun r21 v21 t21 H21 locs21 ht21 hvm21 hw21 hB21 hz21 hk21 hS21 => ?_)
    obtain rfl : r21 = q21.1 := (congrArg Prod.fst hw21).symm
    obtain rfl : v21 = q21.2 := (congrArg Prod.snd hw21).symm
    obtain ⟨hP21, hD21⟩ := jn_all hD hS hA ht21 hB21
    have hP21 : va_P (dC, dI) vwCl (zc_10 a1 k1 q21.2) H21 := hP21
    have hD21 : va_D A (zc_10 a1 k1 q21.2) := hD21
    clear hP hD hS hB21 hk21 hvm21 hz21 ht21
    refine lv_if_eq (tgt := 132) hx hb dX10_lent_118 (by decide) (fun c22 => ?_) (fun c22 => ?_)
    · replace hR := ifp_ hR c22
      exact hB132 rec43 hrec43 y1 y2 y3 y4 y5 y6 y7 y8 y9 w0 q21.2 H21 locs21 ls20 hP21 hD21 hS21 (lv_sub hl20 [1, 2, 3, 4, 5, 6, 7, 8, 9, 10] rfl) hR
    · replace hR := ifn_ hR c22
      refine lv_aload_n hx hb dX10_lent_121 rfl (lv_at hl20 1 rfl) ?_
      refine va_get (D := (dC, dI)) (ci := 10) (v := .int q21.2.2.2.2.2.2.1.2.2.2.1) (C := RX10) (T := TX10) (N := 35) hx hb hts hin10 hown hK hP21 0 rfl rfl 22 (by decide) (hts (.fieldLink RX10 199 "OldestCoinsModel" "due" "I") (List.mem_of_getElem? (i := 4) rfl)) (fun _ h9 => h9) rfl dX10_lent_122 ?_
      refine lv_if_ne (tgt := 132) hx hb dX10_lent_125 (by decide) (fun c23 => ?_) (fun c23 => ?_)
      · replace hR := ifn_ hR c23
        exact hB132 rec43 hrec43 y1 y2 y3 y4 y5 y6 y7 y8 y9 w0 q21.2 H21 locs21 ls20 hP21 hD21 hS21 (lv_sub hl20 [1, 2, 3, 4, 5, 6, 7, 8, 9, 10] rfl) hR
      · replace hR := ifp_ hR c23
        refine lv_iconst (v := (1 : Int32)) hx hb dX10_lent_128 (by decide) ?_
        refine lv_goto (tgt := 133) hx hb dX10_lent_129 (by decide) ?_
        exact hB133 rec43 hrec43 y1 y2 y3 y4 y5 y6 y7 y8 y9 (1 : Int32) w0 q21.2 H21 locs21 ls20 hP21 hD21 hS21 (lv_sub hl20 [1, 2, 3, 4, 5, 6, 7, 8, 9, 10] rfl) hR
  have hB103 : ∀ (rec43 : Int32 → Int32 → Int32 → Int32 → Int32 → Int32 → Int32 → Int32 → Int32 → ZT_10 → Option (Int32 × ZT_10)) (hrec43 : ∀ (y1 : Int32) (y2 : Int32) (y3 : Int32) (y4 : Int32) (y5 : Int32) (y6 : Int32) (y7 : Int32) (y8 : Int32) (y9 : Int32) (u1 : ZT_10) (H : Heap) (locs : List Loc) (ls : Array Slot), va_P (dC, dI) vwCl (zc_10 a1 k1 u1) H → va_D A (zc_10 a1 k1 u1) → va_S A s.heap H locs → lv_has ls 11 [(0, .ref (a1 0)), (1, .int y1), (2, .int y2), (3, .int y3), (4, .int y4), (5, .int y5), (6, .int y6), (7, .int y7), (8, .int y8), (9, .int y9)] → rec43 y1 y2 y3 y4 y5 y6 y7 y8 y9 u1 = some res → W p l e ({ frames := 6, cells := 0, slots := 0, locals := 139 } : Room) s m args below meth c H locs 0 0 Q (F0 m 43 ls [])), ∀ (y1 : Int32) (y2 : Int32) (y3 : Int32) (y4 : Int32) (y5 : Int32) (y6 : Int32) (y7 : Int32) (y8 : Int32) (y9 : Int32) (u1 : ZT_10) (H : Heap) (locs : List Loc) (ls : Array Slot), va_P (dC, dI) vwCl (zc_10 a1 k1 u1) H → va_D A (zc_10 a1 k1 u1) → va_S A s.heap H locs → lv_has ls 11 [(0, .ref (a1 0)), (1, .int y1), (2, .int y2), (3, .int y3), (4, .int y4), (5, .int y5), (6, .int y6), (7, .int y7), (8, .int y8), (9, .int y9)] → rr_X10_lent_103 fu rec43 y1 y2 y3 y4 y5 y6 y7 y8 y9 u1 = some res → W p l e ({ frames := 6, cells := 0, slots := 0, locals := 139 } : Room) s m args below meth c H locs 0 0 Q (F0 m 103 ls []) := by
    intro rec43 hrec43 y1 y2 y3 y4 y5 y6 y7 y8 y9 u1 H locs ls hP hD hS hl hR
    unfold rr_X10_lent_103 at hR
    refine lv_iconst (v := (0 : Int32)) hx hb dX10_lent_103 (by decide) ?_
    exact hB104 rec43 hrec43 y1 y2 y3 y4 y5 y6 y7 y8 y9 (0 : Int32) u1 H locs ls hP hD hS (lv_sub hl [0, 1, 2, 3, 4, 5, 6, 7, 8, 9] rfl) hR
  have hB82 : ∀ (rec43 : Int32 → Int32 → Int32 → Int32 → Int32 → Int32 → Int32 → Int32 → Int32 → ZT_10 → Option (Int32 × ZT_10)) (hrec43 : ∀ (y1 : Int32) (y2 : Int32) (y3 : Int32) (y4 : Int32) (y5 : Int32) (y6 : Int32) (y7 : Int32) (y8 : Int32) (y9 : Int32) (u1 : ZT_10) (H : Heap) (locs : List Loc) (ls : Array Slot), va_P (dC, dI) vwCl (zc_10 a1 k1 u1) H → va_D A (zc_10 a1 k1 u1) → va_S A s.heap H locs → lv_has ls 11 [(0, .ref (a1 0)), (1, .int y1), (2, .int y2), (3, .int y3), (4, .int y4), (5, .int y5), (6, .int y6), (7, .int y7), (8, .int y8), (9, .int y9)] → rec43 y1 y2 y3 y4 y5 y6 y7 y8 y9 u1 = some res → W p l e ({ frames := 6, cells := 0, slots := 0, locals := 139 } : Room) s m args below meth c H locs 0 0 Q (F0 m 43 ls [])), ∀ (y1 : Int32) (y2 : Int32) (y3 : Int32) (y4 : Int32) (y5 : Int32) (y6 : Int32) (y7 : Int32) (y8 : Int32) (y9 : Int32) (u1 : ZT_10) (H : Heap) (locs : List Loc) (ls : Array Slot), va_P (dC, dI) vwCl (zc_10 a1 k1 u1) H → va_D A (zc_10 a1 k1 u1) → va_S A s.heap H locs → lv_has ls 11 [(0, .ref (a1 0)), (1, .int y1), (2, .int y2), (3, .int y3), (4, .int y4), (5, .int y5), (6, .int y6), (7, .int y7), (8, .int y8), (9, .int y9)] → rr_X10_lent_82 fu rec43 y1 y2 y3 y4 y5 y6 y7 y8 y9 u1 = some res → W p l e ({ frames := 6, cells := 0, slots := 0, locals := 139 } : Room) s m args below meth c H locs 0 0 Q (F0 m 82 ls []) := by
    intro rec43 hrec43 y1 y2 y3 y4 y5 y6 y7 y8 y9 u1 H locs ls hP hD hS hl hR
    unfold rr_X10_lent_82 at hR
    refine lv_aload_n hx hb dX10_lent_82 rfl (lv_at hl 0 rfl) ?_
    refine lv_iload_n hx hb dX10_lent_83 rfl (lv_at hl 1 rfl) ?_
    refine lv_iload_n hx hb dX10_lent_84 rfl (lv_at hl 2 rfl) ?_
    refine lv_iload_n hx hb dX10_lent_85 rfl (lv_at hl 3 rfl) ?_
    have hR0 := ob_ok hR
    clear hR
    obtain ⟨q17, hq17, hR⟩ := hR0
    refine va_calli (va_runV (As := [.int y1, .int y2, .int y3]) (rest := []) ⟨hx, hb, hml, hown, hts⟩ (cc_X10_doBill l dC dI fu a1 k1 H.size y1 y2 y3 u1 q17 hq17) (cwV 3 hts gX10_lent_X10_doBill rfl rfl rfl (by decide +kernel) ⟨Nat.le_of_ble_eq_true rfl, Nat.le_of_ble_eq_true rfl⟩) (pf_v hK hP hD 10 0 rfl rfl rfl) rfl rfl hl.1 rfl (lv_room (Nat.le_of_ble_eq_true rfl)) dX10_lent_86 ⟨Nat.le_refl _, Nat.le_refl _⟩) hS (fun q _ h => (fr_all hD hS hA) q h) (fr_all hD hS hA) (fun r17 v17 t17 H17 locs17 ht17 hvm17 hw17 hB17 hz17 hk17 hS17 => ?_)
    obtain rfl : r17 = q17.1 := (congrArg Prod.fst hw17).symm
    obtain rfl : v17 = q17.2 := (congrArg Prod.snd hw17).symm
    obtain ⟨hP17, hD17⟩ := jn_all hD hS hA ht17 hB17
    have hP17 : va_P (dC, dI) vwCl (zc_10 a1 k1 q17.2) H17 := hP17
    have hD17 : va_D A (zc_10 a1 k1 q17.2) := hD17
    clear hP hD hS hB17 hk17 hvm17 hz17 ht17
    refine lv_if_eq (tgt := 103) hx hb dX10_lent_89 (by decide) (fun c18 => ?_) (fun c18 => ?_)
    · replace hR := ifp_ hR c18
      exact hB103 rec43 hrec43 y1 y2 y3 y4 y5 y6 y7 y8 y9 q17.2 H17 locs17 ls hP17 hD17 hS17 (lv_sub hl [0, 1, 2, 3, 4, 5, 6, 7, 8, 9] rfl) hR
    · replace hR := ifn_ hR c18
      refine lv_aload_n hx hb dX10_lent_92 rfl (lv_at hl 0 rfl) ?_
      refine va_get (D := (dC, dI)) (ci := 10) (v := .int q17.2.2.2.2.2.2.1.2.2.2.1) (C := RX10) (T := TX10) (N := 35) hx hb hts hin10 hown hK hP17 0 rfl rfl 22 (by decide) (hts (.fieldLink RX10 199 "OldestCoinsModel" "due" "I") (List.mem_of_getElem? (i := 4) rfl)) (fun _ h9 => h9) rfl dX10_lent_93 ?_
      refine lv_if_ne (tgt := 103) hx hb dX10_lent_96 (by decide) (fun c19 => ?_) (fun c19 => ?_)
      · replace hR := ifn_ hR c19
        exact hB103 rec43 hrec43 y1 y2 y3 y4 y5 y6 y7 y8 y9 q17.2 H17 locs17 ls hP17 hD17 hS17 (lv_sub hl [0, 1, 2, 3, 4, 5, 6, 7, 8, 9] rfl) hR
      · replace hR := ifp_ hR c19
        refine lv_iconst (v := (1 : Int32)) hx hb dX10_lent_99 (by decide) ?_
        refine lv_goto (tgt := 104) hx hb dX10_lent_100 (by decide) ?_
        exact hB104 rec43 hrec43 y1 y2 y3 y4 y5 y6 y7 y8 y9 (1 : Int32) q17.2 H17 locs17 ls hP17 hD17 hS17 (lv_sub hl [0, 1, 2, 3, 4, 5, 6, 7, 8, 9] rfl) hR
  have hB68 : ∀ (rec43 : Int32 → Int32 → Int32 → Int32 → Int32 → Int32 → Int32 → Int32 → Int32 → ZT_10 → Option (Int32 × ZT_10)) (hrec43 : ∀ (y1 : Int32) (y2 : Int32) (y3 : Int32) (y4 : Int32) (y5 : Int32) (y6 : Int32) (y7 : Int32) (y8 : Int32) (y9 : Int32) (u1 : ZT_10) (H : Heap) (locs : List Loc) (ls : Array Slot), va_P (dC, dI) vwCl (zc_10 a1 k1 u1) H → va_D A (zc_10 a1 k1 u1) → va_S A s.heap H locs → lv_has ls 11 [(0, .ref (a1 0)), (1, .int y1), (2, .int y2), (3, .int y3), (4, .int y4), (5, .int y5), (6, .int y6), (7, .int y7), (8, .int y8), (9, .int y9)] → rec43 y1 y2 y3 y4 y5 y6 y7 y8 y9 u1 = some res → W p l e ({ frames := 6, cells := 0, slots := 0, locals := 139 } : Room) s m args below meth c H locs 0 0 Q (F0 m 43 ls [])), ∀ (y1 : Int32) (y2 : Int32) (y3 : Int32) (y4 : Int32) (y5 : Int32) (y6 : Int32) (y7 : Int32) (y8 : Int32) (y9 : Int32) (u1 : ZT_10) (H : Heap) (locs : List Loc) (ls : Array Slot), va_P (dC, dI) vwCl (zc_10 a1 k1 u1) H → va_D A (zc_10 a1 k1 u1) → va_S A s.heap H locs → lv_has ls 11 [(0, .ref (a1 0)), (1, .int y1), (2, .int y2), (3, .int y3), (4, .int y4), (5, .int y5), (6, .int y6), (7, .int y7), (8, .int y8), (9, .int y9)] → rr_X10_lent_68 fu rec43 y1 y2 y3 y4 y5 y6 y7 y8 y9 u1 = some res → W p l e ({ frames := 6, cells := 0, slots := 0, locals := 139 } : Room) s m args below meth c H locs 0 0 Q (F0 m 68 ls []) := by
    intro rec43 hrec43 y1 y2 y3 y4 y5 y6 y7 y8 y9 u1 H locs ls hP hD hS hl hR
    unfold rr_X10_lent_68 at hR
    refine lv_iload hx hb dX10_lent_68 (lv_at hl 9 rfl) ?_
    refine lv_if_lt (tgt := 82) hx hb dX10_lent_70 (by decide) (fun c14 => ?_) (fun c14 => ?_)
    · replace hR := ifp_ hR c14
      exact hB82 rec43 hrec43 y1 y2 y3 y4 y5 y6 y7 y8 y9 u1 H locs ls hP hD hS (lv_sub hl [0, 1, 2, 3, 4, 5, 6, 7, 8, 9] rfl) hR
    · replace hR := ifn_ hR c14
      refine lv_aload_n hx hb dX10_lent_73 rfl (lv_at hl 0 rfl) ?_
      refine va_get (D := (dC, dI)) (ci := 10) (v := .ref (a1 5)) (C := RX10) (T := TX10) (N := 35) hx hb hts hin10 hown hK hP 0 rfl rfl 4 (by decide) (hts (.fieldLink RX10 22 "OldestCoinsModel" "whose" "[I") (List.mem_of_getElem? (i := 3) rfl)) (fun _ h9 => h9) rfl dX10_lent_74 ?_
      refine lv_iload hx hb dX10_lent_77 (lv_at hl 9 rfl) ?_
      refine lv_iload hx hb dX10_lent_79 (lv_at hl 4 rfl) ?_
      have i15 := (ck_ok hR).1
      replace hR := (ck_ok hR).2
      refine va_iast (f := u1.1.2.2.2.2.1) hx hb hK hP hD hS 5 4 rfl rfl i15 dX10_lent_81 (fun H15 locs15 hP15 hD15 hS15 => ?_)
      have hP15 : va_P (dC, dI) vwCl (zc_10 a1 k1 ((u1.1.1, u1.1.2.1, u1.1.2.2.1, u1.1.2.2.2.1, (upd u1.1.2.2.2.2.1 y9.toNatClampNeg y4), u1.1.2.2.2.2.2), u1.2)) H15 := hP15
      have hD15 : va_D A (zc_10 a1 k1 ((u1.1.1, u1.1.2.1, u1.1.2.2.1, u1.1.2.2.2.1, (upd u1.1.2.2.2.2.1 y9.toNatClampNeg y4), u1.1.2.2.2.2.2), u1.2)) := hD15
      clear hP hD hS
      exact hB82 rec43 hrec43 y1 y2 y3 y4 y5 y6 y7 y8 y9 ((u1.1.1, u1.1.2.1, u1.1.2.2.1, u1.1.2.2.2.1, (upd u1.1.2.2.2.2.1 y9.toNatClampNeg y4), u1.1.2.2.2.2.2), u1.2) H15 locs15 ls hP15 hD15 hS15 (lv_sub hl [0, 1, 2, 3, 4, 5, 6, 7, 8, 9] rfl) hR
  have hB43 : ∀ (n : Nat), ∀ (y1 : Int32) (y2 : Int32) (y3 : Int32) (y4 : Int32) (y5 : Int32) (y6 : Int32) (y7 : Int32) (y8 : Int32) (y9 : Int32) (u1 : ZT_10) (H : Heap) (locs : List Loc) (ls : Array Slot), va_P (dC, dI) vwCl (zc_10 a1 k1 u1) H → va_D A (zc_10 a1 k1 u1) → va_S A s.heap H locs → lv_has ls 11 [(0, .ref (a1 0)), (1, .int y1), (2, .int y2), (3, .int y3), (4, .int y4), (5, .int y5), (6, .int y6), (7, .int y7), (8, .int y8), (9, .int y9)] → rr_X10_lent_43 fu n y1 y2 y3 y4 y5 y6 y7 y8 y9 u1 = some res → W p l e ({ frames := 6, cells := 0, slots := 0, locals := 139 } : Room) s m args below meth c H locs 0 0 Q (F0 m 43 ls []) := by
    intro  n
    induction n with
    | zero => intro y1 y2 y3 y4 y5 y6 y7 y8 y9 u1 H locs ls hP hD hS hl hR; exact absurd hR (by intro h; cases h)
    | succ n ih =>
      intro y1 y2 y3 y4 y5 y6 y7 y8 y9 u1 H locs ls hP hD hS hl hR
      replace hR : rr_X10_lent_43_b fu (rr_X10_lent_43 fu n) y1 y2 y3 y4 y5 y6 y7 y8 y9 u1 = some res := hR
      unfold rr_X10_lent_43_b at hR
      refine lv_iload hx hb dX10_lent_43 (lv_at hl 9 rfl) ?_
      refine lv_aload_n hx hb dX10_lent_45 rfl (lv_at hl 0 rfl) ?_
      refine va_get (D := (dC, dI)) (ci := 10) (v := .int u1.1.2.2.2.2.2.1) (C := RX10) (T := TX10) (N := 35) hx hb hts hin10 hown hK hP 0 rfl rfl 5 (by decide) (hts (.fieldLink RX10 74 "OldestCoinsModel" "many" "I") (List.mem_of_getElem? (i := 1) rfl)) (fun _ h9 => h9) rfl dX10_lent_46 ?_
      refine lv_icmp_ge (tgt := 188) hx hb dX10_lent_49 (by decide) (fun c10 => ?_) (fun c10 => ?_)
      · replace hR := ifp_ hR c10
        refine lv_iload hx hb dX10_lent_188 (lv_at hl 8 rfl) ?_
        subst hQe
        exact W.iret (v := y8) hx hb hr (fun t ht hW => ⟨⟨y8, u1, rfl, (Option.some.inj hR).symm, by rw [ht]; exact hP, va_K.moved hW.alike hK, hD⟩, hS.F ht⟩) hS.2.2 dX10_lent_190
      · replace hR := ifn_ hR c10
        refine lv_iload hx hb dX10_lent_52 (lv_at hl 9 rfl) ?_
        refine lv_if_lt (tgt := 68) hx hb dX10_lent_54 (by decide) (fun c11 => ?_) (fun c11 => ?_)
        · replace hR := ifp_ hR c11
          exact hB68 (rr_X10_lent_43 fu n) ih y1 y2 y3 y4 y5 y6 y7 y8 y9 u1 H locs ls hP hD hS (lv_sub hl [0, 1, 2, 3, 4, 5, 6, 7, 8, 9] rfl) hR
        · replace hR := ifn_ hR c11
          refine lv_aload_n hx hb dX10_lent_57 rfl (lv_at hl 0 rfl) ?_
          refine va_get (D := (dC, dI)) (ci := 10) (v := .ref (a1 12)) (C := RX10) (T := TX10) (N := 35) hx hb hts hin10 hown hK hP 0 rfl rfl 24 (by decide) (hts (.fieldLink RX10 43 "OldestCoinsModel" "had" "[I") (List.mem_of_getElem? (i := 2) rfl)) (fun _ h9 => h9) rfl dX10_lent_58 ?_
          refine lv_iload hx hb dX10_lent_61 (lv_at hl 9 rfl) ?_
          have i12 := (ck_ok hR).1
          replace hR := (ck_ok hR).2
          refine va_iald (f := u1.2.2.2.2.2.2.1.1) hx hb hK hP 12 11 rfl rfl i12 dX10_lent_63 ?_
          refine lv_iload_n hx hb dX10_lent_64 rfl (lv_at hl 1 rfl) ?_
          refine lv_icmp_ne (tgt := 182) hx hb dX10_lent_65 (by decide) (fun c13 => ?_) (fun c13 => ?_)
          · replace hR := ifn_ hR c13
            exact hB182 (rr_X10_lent_43 fu n) ih y1 y2 y3 y4 y5 y6 y7 y8 y9 u1 H locs ls hP hD hS (lv_sub hl [0, 1, 2, 3, 4, 5, 6, 7, 8, 9] rfl) hR
          · replace hR := ifp_ hR c13
            exact hB68 (rr_X10_lent_43 fu n) ih y1 y2 y3 y4 y5 y6 y7 y8 y9 u1 H locs ls hP hD hS (lv_sub hl [0, 1, 2, 3, 4, 5, 6, 7, 8, 9] rfl) hR
  unfold rr_X10_lent at hR
  refine lv_iload_n hx hb dX10_lent_0 rfl (lv_at hl 1 rfl) ?_
  refine lv_iload_n hx hb dX10_lent_1 rfl (lv_at hl 2 rfl) ?_
  refine lv_iload_n hx hb dX10_lent_2 rfl (lv_at hl 3 rfl) ?_
  have hR0 := ob_ok hR
  clear hR
  obtain ⟨q1, hq1, hR⟩ := hR0
  refine va_calli (va_runS (As := [.int x1, .int x2, .int x3]) (rest := []) ⟨hx, hb, hml, hown, hts⟩ (cc_X10_isBill l dC dI fu s.heap.size x1 x2 x3 q1 hq1) (va_cwS 3 hts gX10_lent_X10_isBill rfl rfl rfl (by decide +kernel) ⟨Nat.le_of_ble_eq_true rfl, Nat.le_of_ble_eq_true rfl⟩) (pf_s (nil_K hK) nil_P (nil_D (A := A))) rfl rfl hl.1 rfl (lv_room (Nat.le_of_ble_eq_true rfl)) dX10_lent_3 ⟨Nat.le_refl _, Nat.le_refl _⟩) hS (fun q _ h => (fr_none hS hA) q h) (fr_none hS hA) (fun r1 v1 t1 H1 locs1 ht1 hvm1 hw1 hB1 hz1 hk1 hS1 => ?_)
  subst hw1
  have hP1 := jn_none hP hk1
  have hD1 := hD
  have hP1 : va_P (dC, dI) vwCl (zc_10 a1 k1 s1) H1 := hP1
  have hD1 : va_D A (zc_10 a1 k1 s1) := hD1
  clear hP hD hS hB1 hk1 hvm1 hz1 ht1
  refine lv_if_eq (tgt := 27) hx hb dX10_lent_6 (by decide) (fun c2 => ?_) (fun c2 => ?_)
  · replace hR := ifp_ hR c2
    refine lv_iconst (v := (-1 : Int32)) hx hb dX10_lent_27 (by decide) ?_
    subst hQe
    exact W.iret (v := (-1 : Int32)) hx hb hr (fun t ht hW => ⟨⟨(-1 : Int32), s1, rfl, (Option.some.inj hR).symm, by rw [ht]; exact hP1, va_K.moved hW.alike hK, hD1⟩, hS1.F ht⟩) hS1.2.2 dX10_lent_28
  · replace hR := ifn_ hR c2
    refine lv_iload hx hb dX10_lent_9 (lv_at hl 4 rfl) ?_
    refine lv_iload hx hb dX10_lent_11 (lv_at hl 5 rfl) ?_
    refine lv_iload hx hb dX10_lent_13 (lv_at hl 6 rfl) ?_
    have hR0 := ob_ok hR
    clear hR
    obtain ⟨q3, hq3, hR⟩ := hR0
    refine va_calli (va_runS (As := [.int x4, .int x5, .int x6]) (rest := []) ⟨hx, hb, hml, hown, hts⟩ (cc_X10_isBill l dC dI fu H1.size x4 x5 x6 q3 hq3) (va_cwS 3 hts gX10_lent_X10_isBill rfl rfl rfl (by decide +kernel) ⟨Nat.le_of_ble_eq_true rfl, Nat.le_of_ble_eq_true rfl⟩) (pf_s (nil_K hK) nil_P (nil_D (A := A))) rfl rfl hl.1 rfl (lv_room (Nat.le_of_ble_eq_true rfl)) dX10_lent_15 ⟨Nat.le_refl _, Nat.le_refl _⟩) hS1 (fun q _ h => (fr_none hS1 hA) q h) (fr_none hS1 hA) (fun r3 v3 t3 H3 locs3 ht3 hvm3 hw3 hB3 hz3 hk3 hS3 => ?_)
    subst hw3
    have hP3 := jn_none hP1 hk3
    have hD3 := hD1
    have hP3 : va_P (dC, dI) vwCl (zc_10 a1 k1 s1) H3 := hP3
    have hD3 : va_D A (zc_10 a1 k1 s1) := hD3
    clear hP1 hD1 hS1 hB3 hk3 hvm3 hz3 ht3
    refine lv_if_eq (tgt := 27) hx hb dX10_lent_18 (by decide) (fun c4 => ?_) (fun c4 => ?_)
    · replace hR := ifp_ hR c4
      refine lv_iconst (v := (-1 : Int32)) hx hb dX10_lent_27 (by decide) ?_
      subst hQe
      exact W.iret (v := (-1 : Int32)) hx hb hr (fun t ht hW => ⟨⟨(-1 : Int32), s1, rfl, (Option.some.inj hR).symm, by rw [ht]; exact hP3, va_K.moved hW.alike hK, hD3⟩, hS3.F ht⟩) hS3.2.2 dX10_lent_28
    · replace hR := ifn_ hR c4
      refine lv_iload_n hx hb dX10_lent_21 rfl (lv_at hl 1 rfl) ?_
      refine lv_iload hx hb dX10_lent_22 (lv_at hl 4 rfl) ?_
      refine lv_icmp_ne (tgt := 29) hx hb dX10_lent_24 (by decide) (fun c5 => ?_) (fun c5 => ?_)
      · replace hR := ifn_ hR c5
        refine lv_aload_n hx hb dX10_lent_29 rfl (lv_at hl 0 rfl) ?_
        have hR0 := ob_ok hR
        clear hR
        obtain ⟨q6, hq6, hR⟩ := hR0
        refine va_callv (va_runV (As := []) (rest := []) ⟨hx, hb, hml, hown, hts⟩ (cc_X10_keep l dC dI fu a1 k1 H3.size s1 q6 hq6) (cwV 0 hts gX10_lent_X10_keep rfl rfl rfl (by decide +kernel) ⟨Nat.le_of_ble_eq_true rfl, Nat.le_of_ble_eq_true rfl⟩) (pf_v hK hP3 hD3 10 0 rfl rfl rfl) rfl rfl hl.1 rfl (lv_room (Nat.le_of_ble_eq_true rfl)) dX10_lent_30 ⟨Nat.le_refl _, Nat.le_refl _⟩) hS3 (fun q _ h => (fr_all hD3 hS3 hA) q h) (fr_all hD3 hS3 hA) (fun v6 t6 H6 locs6 ht6 hvm6 hw6 hB6 hz6 hk6 hS6 => ?_)
        subst hw6
        obtain ⟨hP6, hD6⟩ := jn_all hD3 hS3 hA ht6 hB6
        have hP6 : va_P (dC, dI) vwCl (zc_10 a1 k1 q6) H6 := hP6
        have hD6 : va_D A (zc_10 a1 k1 q6) := hD6
        clear hP3 hD3 hS3 hB6 hk6 hvm6 hz6 ht6
        refine lv_iconst (v := (-1 : Int32)) hx hb dX10_lent_33 (by decide) ?_
        refine lv_istore (lv' := [(7, .int (-1 : Int32)), (0, .ref (a1 0)), (1, .int x1), (2, .int x2), (3, .int x3), (4, .int x4), (5, .int x5), (6, .int x6)]) hx hb dX10_lent_34 hl (by decide) rfl (fun ls7 hl7 => ?_)
        refine lv_bipush (v := (-4 : Int32)) hx hb dX10_lent_36 (by decide) ?_
        refine lv_istore (lv' := [(8, .int (-4 : Int32)), (7, .int (-1 : Int32)), (0, .ref (a1 0)), (1, .int x1), (2, .int x2), (3, .int x3), (4, .int x4), (5, .int x5), (6, .int x6)]) hx hb dX10_lent_38 hl7 (by decide) rfl (fun ls8 hl8 => ?_)
        refine lv_iconst (v := (-1 : Int32)) hx hb dX10_lent_40 (by decide) ?_
        refine lv_istore (lv' := [(9, .int (-1 : Int32)), (8, .int (-4 : Int32)), (7, .int (-1 : Int32)), (0, .ref (a1 0)), (1, .int x1), (2, .int x2), (3, .int x3), (4, .int x4), (5, .int x5), (6, .int x6)]) hx hb dX10_lent_41 hl8 (by decide) rfl (fun ls9 hl9 => ?_)
        exact hB43 fu x1 x2 x3 x4 x5 x6 (-1 : Int32) (-4 : Int32) (-1 : Int32) q6 H6 locs6 ls9 hP6 hD6 hS6 (lv_sub hl9 [3, 4, 5, 6, 7, 8, 9, 2, 1, 0] rfl) hR
      · replace hR := ifp_ hR c5
        refine lv_iconst (v := (-1 : Int32)) hx hb dX10_lent_27 (by decide) ?_
        subst hQe
        exact W.iret (v := (-1 : Int32)) hx hb hr (fun t ht hW => ⟨⟨(-1 : Int32), s1, rfl, (Option.some.inj hR).symm, by rw [ht]; exact hP3, va_K.moved hW.alike hK, hD3⟩, hS3.F ht⟩) hS3.2.2 dX10_lent_28
