def rr_X6_append_5_b (fu : Nat) (rec5 : Int64 → Int32 → ZT_6 → Option (ZT_6)) (y1 : Int64) (y4 : Int32) (u1 : ZT_6) : Option (ZT_6) := (if y4 < (0 : Int32) then some u1 else (if (160 : Int32) ≤ u1.1 then some u1 else lt_ (α := Int32) (y1 >>> (((8 : Int32) * y4).toInt64 &&& 63)).toInt32.toInt8.toInt32 (fun z5 => ck_ u1.1 160 (lt_ (α := Int32) (u1.1 + (1 : Int32)) (fun z7 => lt_ (α := Int32) (y4 + (-1 : Int32)) (fun z9 => rec5 y1 z9 (z7, u1.2.1, u1.2.2.1, (upd u1.2.2.2 u1.1.toNatClampNeg (vp_nar .byte z5)))))))))
def rr_X6_append_5 (fu : Nat) (n : Nat) : Int64 → Int32 → ZT_6 → Option (ZT_6) := lp_ (fun _ _ _ => none) (rr_X6_append_5_b fu) n
def rr_X6_append (fu : Nat) (x1 : Int64) (x3 : Int32) (s1 : ZT_6) : Option (ZT_6) := lt_ (α := Int32) (x3 - (1 : Int32)) (fun z1 => rr_X6_append_5 fu fu x1 z1 s1)
set_option maxHeartbeats 4000000 in
set_option maxRecDepth 100000 in
theorem cc_X6_append (l : Launch) (dC : Nat → ClassId) (dI : Nat → Nat → Nat) (fu : Nat) (a1 : Nat → Nat) (k1 : Nat → ClassId) (sz : Nat) (x1 : Int64) (x3 : Int32) (s1 : ZT_6) (res : ZT_6) (hR : rr_X6_append fu x1 x3 s1 = some res) : Met l yX6_append wsX6_append ({ frames := 0, cells := 0, slots := 0, locals := 0 } : Room) (PcF [.ref (a1 0), .long x1, .int x3] sz (dC, dI) (zc_6 a1 k1 s1) (zt_6 k1)) (va_Qv (fun u : ZT_6 => res = u) (fun u t => at3_ (dC, dI) (zc_6 a1 k1 u) (zt_6 k1) (va_A (zc_6 a1 k1 s1) sz) t) (va_A (zc_6 a1 k1 s1) sz)) 0 0 (va_A (zc_6 a1 k1 s1) sz) := by
  refine Met.ofW (cc := cX6_append) (maxL := 5) (ret := none) (by decide) rfl ?_
  intro p e s m args below meth c s₁ B hml hv
  obtain ⟨hav, hsz, hP, hK, hD0⟩ := hv
  have hx := B.exec
  have hb := B.bytes
  have hr := B.returns
  have hts := atoms_spec (ws := wsX6_append) B.pre
  have hown : s.vm.findClass RX6 = some m.cls := findClass_of_methodNamed B.named
  have hlocks := B.notSynchronized
  have hin6 : ∀ w ∈ wsX60, w ∈ wsX6_append := fun w h => List.mem_cons_of_mem _ (List.mem_append_right _ h)
  subst hsz
  have hD := hD0.self (sz := s.heap.size)
  clear hD0
  generalize hAe : va_A (zc_6 a1 k1 s1) s.heap.size = A at hD ⊢
  have hA : ∀ q : Nat, s.heap.size ≤ q → A q := fun q h => by rw [← hAe]; exact Or.inr h
  have hS : va_S A s.heap s.heap [] := va_S.rf
  generalize hQe : MQ below _ args s 0 0 A = Q
  rw [show entryFrame m args 5 = F0 m 0 ((lg_sl ([.ref (a1 0), .long x1, .int x3]) ++ List.replicate (5 - (lg_sl ([.ref (a1 0), .long x1, .int x3])).length) Slot.unset).toArray) [] from by rw [hav]; exact lg_entry_eq m _ _]
  have hl := lv_entry ([.ref (a1 0), .long x1, .int x3]) (n := 5) (Nat.le_of_ble_eq_true rfl)
  generalize (lg_sl ([.ref (a1 0), .long x1, .int x3]) ++ List.replicate (5 - (lg_sl ([.ref (a1 0), .long x1, .int x3])).length) Slot.unset).toArray = ls at hl ⊢
  have hl : lv_has ls 5 [(0, .ref (a1 0)), (1, .long x1), (3, .int x3)] := hl
  have hB5 : ∀ (n : Nat), ∀ (y1 : Int64) (y4 : Int32) (u1 : ZT_6) (H : Heap) (locs : List Loc) (ls : Array Slot), va_P (dC, dI) vwCl (zc_6 a1 k1 u1) H → va_D A (zc_6 a1 k1 u1) → va_S A s.heap H locs → lv_has ls 5 [(0, .ref (a1 0)), (1, .long y1), (4, .int y4)] → rr_X6_append_5 fu n y1 y4 u1 = some res → W p l e ({ frames := 0, cells := 0, slots := 0, locals := 0 } : Room) s m args below meth c H locs 0 0 Q (F0 m 5 ls []) := by
    intro  n
    induction n with
    | zero => intro y1 y4 u1 H locs ls hP hD hS hl hR; exact absurd hR (by intro h; cases h)
    | succ n ih =>
      intro y1 y4 u1 H locs ls hP hD hS hl hR
      replace hR : rr_X6_append_5_b fu (rr_X6_append_5 fu n) y1 y4 u1 = some res := hR
      unfold rr_X6_append_5_b at hR
      refine lv_iload hx hb dX6_append_5 (lv_at hl 2 rfl) ?_
      refine lv_if_lt (tgt := 54) hx hb dX6_append_7 (by decide) (fun c3 => ?_) (fun c3 => ?_)
      · replace hR := ifp_ hR c3
        subst hQe
        exact W.vret hx hb hr (fun t ht hW => ⟨⟨u1, rfl, (Option.some.inj hR).symm, by rw [ht]; exact hP, va_K.moved hW.alike hK, hD⟩, hS.F ht⟩) hS.2.2 dX6_append_54
      · replace hR := ifn_ hR c3
        refine lv_aload_n hx hb dX6_append_10 rfl (lv_at hl 0 rfl) ?_
        refine va_get (D := (dC, dI)) (ci := 6) (v := .int u1.1) (C := RX6) (T := TX6) (N := 4) hx hb hts hin6 hown hK hP 0 rfl rfl 0 (by decide) (hts (.fieldLink RX6 25 "OldestCoins$Tape" "size" "I") (List.mem_of_getElem? (i := 1) rfl)) (fun _ h9 => h9) rfl dX6_append_11 ?_
        refine lv_sipush (v := (160 : Int32)) hx hb dX6_append_14 (by decide) ?_
        refine lv_icmp_ge (tgt := 54) hx hb dX6_append_17 (by decide) (fun c4 => ?_) (fun c4 => ?_)
        · replace hR := ifp_ hR c4
          subst hQe
          exact W.vret hx hb hr (fun t ht hW => ⟨⟨u1, rfl, (Option.some.inj hR).symm, by rw [ht]; exact hP, va_K.moved hW.alike hK, hD⟩, hS.F ht⟩) hS.2.2 dX6_append_54
        · replace hR := ifn_ hR c4
          refine lv_aload_n hx hb dX6_append_20 rfl (lv_at hl 0 rfl) ?_
          refine va_get (D := (dC, dI)) (ci := 6) (v := .ref (a1 1)) (C := RX6) (T := TX6) (N := 4) hx hb hts hin6 hown hK hP 0 rfl rfl 3 (by decide) (hts (.fieldLink RX6 15 "OldestCoins$Tape" "bytes" "[B") (List.mem_of_getElem? (i := 2) rfl)) (fun _ h9 => h9) rfl dX6_append_21 ?_
          refine lv_aload_n hx hb dX6_append_24 rfl (lv_at hl 0 rfl) ?_
          refine va_get (D := (dC, dI)) (ci := 6) (v := .int u1.1) (C := RX6) (T := TX6) (N := 4) hx hb hts hin6 hown hK hP 0 rfl rfl 0 (by decide) (hts (.fieldLink RX6 25 "OldestCoins$Tape" "size" "I") (List.mem_of_getElem? (i := 1) rfl)) (fun _ h9 => h9) rfl dX6_append_25 ?_
          refine lv_lload_n hx hb dX6_append_28 rfl (lv_at hl 1 rfl) ?_
          refine lv_bipush (v := (8 : Int32)) hx hb dX6_append_29 (by decide) ?_
          refine lv_iload hx hb dX6_append_31 (lv_at hl 2 rfl) ?_
          refine lv_imul hx hb dX6_append_33 ?_
          refine lv_lshr (v := (y1 >>> (((8 : Int32) * y4).toInt64 &&& 63))) hx hb dX6_append_34 rfl ?_
          refine lv_l2i (v := (y1 >>> (((8 : Int32) * y4).toInt64 &&& 63)).toInt32) hx hb dX6_append_35 rfl ?_
          refine lv_i2b (v := (y1 >>> (((8 : Int32) * y4).toInt64 &&& 63)).toInt32.toInt8.toInt32) hx hb dX6_append_36 rfl ?_
          refine lv_topi (fun z5 ez5 => ?_)
          replace hR := lt_ok hR ez5
          have i6 := (ck_ok hR).1
          replace hR := (ck_ok hR).2
          refine va_bast (f := u1.2.2.2) hx hb hK hP hD hS 1 0 rfl rfl i6 dX6_append_37 (fun H6 locs6 hP6 hD6 hS6 => ?_)
          have hP6 : va_P (dC, dI) vwCl (zc_6 a1 k1 (u1.1, u1.2.1, u1.2.2.1, (upd u1.2.2.2 u1.1.toNatClampNeg (vp_nar .byte z5)))) H6 := hP6
          have hD6 : va_D A (zc_6 a1 k1 (u1.1, u1.2.1, u1.2.2.1, (upd u1.2.2.2 u1.1.toNatClampNeg (vp_nar .byte z5)))) := hD6
          clear hP hD hS
          refine lv_aload_n hx hb dX6_append_38 rfl (lv_at hl 0 rfl) ?_
          refine lv_dup hx hb dX6_append_39 rfl ?_
          refine va_get (D := (dC, dI)) (ci := 6) (v := .int u1.1) (C := RX6) (T := TX6) (N := 4) hx hb hts hin6 hown hK hP6 0 rfl rfl 0 (by decide) (hts (.fieldLink RX6 25 "OldestCoins$Tape" "size" "I") (List.mem_of_getElem? (i := 1) rfl)) (fun _ h9 => h9) rfl dX6_append_40 ?_
          refine lv_iconst (v := (1 : Int32)) hx hb dX6_append_43 (by decide) ?_
          refine lv_iadd hx hb dX6_append_44 ?_
          refine lv_topi (fun z7 ez7 => ?_)
          replace hR := lt_ok hR ez7
          refine va_put (D := (dC, dI)) (ci := 6) (v := .int z7) (ty := .int) (C := RX6) (T := TX6) (N := 4) hx hb hts hin6 tyX6 tyX6_ok nmX6 hown hK hP6 hD6 hS6 0 rfl rfl 0 (by decide) (hts (.fieldLink RX6 25 "OldestCoins$Tape" "size" "I") (List.mem_of_getElem? (i := 1) rfl)) (fun _ h9 => h9) rfl (by decide +kernel) rfl rfl (Nat.le_of_ble_eq_true rfl) dX6_append_45 (fun H8 locs8 hP8 hD8 hS8 => ?_)
          have hP8 : va_P (dC, dI) vwCl (zc_6 a1 k1 (z7, u1.2.1, u1.2.2.1, (upd u1.2.2.2 u1.1.toNatClampNeg (vp_nar .byte z5)))) H8 := hP8
          have hD8 : va_D A (zc_6 a1 k1 (z7, u1.2.1, u1.2.2.1, (upd u1.2.2.2 u1.1.toNatClampNeg (vp_nar .byte z5)))) := hD8
          clear hP6 hD6 hS6
          obtain ⟨z9, ez9⟩ : ∃ y : Int32, y = (y4 + (-1 : Int32)) := ⟨_, rfl⟩
          replace hR := lt_ok hR ez9
          refine lv_iinc (v := z9) (lv' := [(4, .int z9), (0, .ref (a1 0)), (1, .long y1)]) hx hb dX6_append_48 hl (k := 2) rfl (by rw [ez9]; rfl) (by decide) rfl (fun ls9 hl9 => ?_)
          refine lv_goto (tgt := 5) hx hb dX6_append_51 (by decide) ?_
          exact ih y1 z9 (z7, u1.2.1, u1.2.2.1, (upd u1.2.2.2 u1.1.toNatClampNeg (vp_nar .byte z5))) H8 locs8 ls9 hP8 hD8 hS8 (lv_sub hl9 [1, 2, 0] rfl) hR
  unfold rr_X6_append at hR
  refine lv_iload_n hx hb dX6_append_0 rfl (lv_at hl 2 rfl) ?_
  refine lv_iconst (v := (1 : Int32)) hx hb dX6_append_1 (by decide) ?_
  refine lv_isub hx hb dX6_append_2 ?_
  refine lv_topi (fun z1 ez1 => ?_)
  replace hR := lt_ok hR ez1
  refine lv_istore (lv' := [(4, .int z1), (0, .ref (a1 0)), (1, .long x1), (3, .int x3)]) hx hb dX6_append_3 hl (by decide) rfl (fun ls2 hl2 => ?_)
  exact hB5 fu x1 z1 s1 s.heap [] ls2 hP hD hS (lv_sub hl2 [1, 2, 0] rfl) hR
def rr_X6_mayHold_2_b (fu : Nat) (rec2 : Int64 → Int32 → Int32 → Option (Int32)) (y0 : Int64) (y2 : Int32) (y3 : Int32) : Option (Int32) := (if y2 ≤ y3 then some (1 : Int32) else (rr_X9_isWithin fu ((y0 >>> (((8 : Int32) * y3).toInt64 &&& 63)) &&& (255 : Int64)).toInt32 (32 : Int32) (126 : Int32)).bind (fun q3 => (if q3 = (0 : Int32) then some (0 : Int32) else lt_ (α := Int32) (y3 + (1 : Int32)) (fun z5 => rec2 y0 y2 z5))))
def rr_X6_mayHold_2 (fu : Nat) (n : Nat) : Int64 → Int32 → Int32 → Option (Int32) := lp_ (fun _ _ _ => none) (rr_X6_mayHold_2_b fu) n
def rr_X6_mayHold (fu : Nat) (x0 : Int64) (x2 : Int32) : Option (Int32) := rr_X6_mayHold_2 fu fu x0 x2 (0 : Int32)
set_option maxHeartbeats 4000000 in
set_option maxRecDepth 100000 in
theorem cc_X6_mayHold (l : Launch) (dC : Nat → ClassId) (dI : Nat → Nat → Nat) (fu : Nat) (sz : Nat) (x0 : Int64) (x2 : Int32) (res : Int32) (hR : rr_X6_mayHold fu x0 x2 = some res) : Met l yX6_mayHold wsX6_mayHold ({ frames := 1, cells := 0, slots := 0, locals := 22 } : Room) (PcN [.long x0, .int x2] sz (dC, dI) (([] : va_W)) ([])) (va_Qi (fun (r : Int32) (u : Unit) => res = r) (fun u t => at3_ (dC, dI) (([] : va_W)) ([]) (va_A (([] : va_W)) sz) t) (va_A (([] : va_W)) sz)) 0 0 (va_A (([] : va_W)) sz) := by
  refine Met.ofW (cc := cX6_mayHold) (maxL := 4) (ret := (some .boolean)) (by decide) rfl ?_
  intro p e s m args below meth c s₁ B hml hv
  obtain ⟨hav, hsz, hP, hK, hD0, hN⟩ := hv
  have hx := B.exec
  have hb := B.bytes
  have hr := B.returns
  have hts := atoms_spec (ws := wsX6_mayHold) B.pre
  have hown : s.vm.findClass RX6 = some m.cls := findClass_of_methodNamed B.named
  have hlocks := B.notSynchronized
  subst hsz
  have hD := hD0.self (sz := s.heap.size)
  clear hD0
  generalize hAe : va_A (([] : va_W)) s.heap.size = A at hD ⊢
  have hA : ∀ q : Nat, s.heap.size ≤ q → A q := fun q h => by rw [← hAe]; exact Or.inr h
  have hS : va_S A s.heap s.heap [] := va_S.rf
  generalize hQe : MQ below _ args s 0 0 A = Q
  rw [show entryFrame m args 4 = F0 m 0 ((lg_sl ([.long x0, .int x2]) ++ List.replicate (4 - (lg_sl ([.long x0, .int x2])).length) Slot.unset).toArray) [] from by rw [hav]; exact lg_entry_eq m _ _]
  have hl := lv_entry ([.long x0, .int x2]) (n := 4) (Nat.le_of_ble_eq_true rfl)
  generalize (lg_sl ([.long x0, .int x2]) ++ List.replicate (4 - (lg_sl ([.long x0, .int x2])).length) Slot.unset).toArray = ls at hl ⊢
  have hl : lv_has ls 4 [(0, .long x0), (2, .int x2)] := hl
  have hB2 : ∀ (n : Nat), ∀ (y0 : Int64) (y2 : Int32) (y3 : Int32) (H : Heap) (locs : List Loc) (ls : Array Slot), va_P (dC, dI) vwCl (([] : va_W)) H → va_D A (([] : va_W)) → va_S A s.heap H locs → lv_has ls 4 [(0, .long y0), (2, .int y2), (3, .int y3)] → rr_X6_mayHold_2 fu n y0 y2 y3 = some res → W p l e ({ frames := 1, cells := 0, slots := 0, locals := 22 } : Room) s m args below meth c H locs 0 0 Q (F0 m 2 ls []) := by
    intro  n
    induction n with
    | zero => intro y0 y2 y3 H locs ls hP hD hS hl hR; exact absurd hR (by intro h; cases h)
    | succ n ih =>
      intro y0 y2 y3 H locs ls hP hD hS hl hR
      replace hR : rr_X6_mayHold_2_b fu (rr_X6_mayHold_2 fu n) y0 y2 y3 = some res := hR
      unfold rr_X6_mayHold_2_b at hR
      refine lv_iload_n hx hb dX6_mayHold_2 rfl (lv_at hl 2 rfl) ?_
      refine lv_iload_n hx hb dX6_mayHold_3 rfl (lv_at hl 1 rfl) ?_
      refine lv_icmp_ge (tgt := 36) hx hb dX6_mayHold_4 (by decide) (fun c2 => ?_) (fun c2 => ?_)
      · replace hR := ifp_ hR c2
        refine lv_iconst (v := (1 : Int32)) hx hb dX6_mayHold_36 (by decide) ?_
        subst hQe
        exact W.zret (ty := .boolean) (v := (1 : Int32)) hx hb hr rfl (fun t ht hW => ⟨⟨(1 : Int32), (), rfl, (Option.some.inj hR).symm, by rw [ht]; exact hP, va_K.moved hW.alike hK, hD⟩, hS.F ht⟩) hS.2.2 dX6_mayHold_37
      · replace hR := ifn_ hR c2
        refine lv_lload_n hx hb dX6_mayHold_7 rfl (lv_at hl 0 rfl) ?_
        refine lv_bipush (v := (8 : Int32)) hx hb dX6_mayHold_8 (by decide) ?_
        refine lv_iload_n hx hb dX6_mayHold_10 rfl (lv_at hl 2 rfl) ?_
        refine lv_imul hx hb dX6_mayHold_11 ?_
        refine lv_lshr (v := (y0 >>> (((8 : Int32) * y3).toInt64 &&& 63))) hx hb dX6_mayHold_12 rfl ?_
        refine lv_ldc2 (v := (255 : Int64)) hx hb hown (hts (.constantLong RX6 19 (255)) (List.mem_of_getElem? (i := 1) rfl)) dX6_mayHold_13 ?_
        refine lv_land hx hb dX6_mayHold_16 ?_
        refine lv_l2i (v := ((y0 >>> (((8 : Int32) * y3).toInt64 &&& 63)) &&& (255 : Int64)).toInt32) hx hb dX6_mayHold_17 rfl ?_
        refine lv_bipush (v := (32 : Int32)) hx hb dX6_mayHold_18 (by decide) ?_
        refine lv_bipush (v := (126 : Int32)) hx hb dX6_mayHold_20 (by decide) ?_
        have hR0 := ob_ok hR
        clear hR
        obtain ⟨q3, hq3, hR⟩ := hR0
        refine va_calli (va_runSN (As := [.int ((y0 >>> (((8 : Int32) * y3).toInt64 &&& 63)) &&& (255 : Int64)).toInt32, .int (32 : Int32), .int (126 : Int32)]) (rest := []) ⟨hx, hb, hml, hown, hts⟩ (cc_X9_isWithin l dC dI fu H.size ((y0 >>> (((8 : Int32) * y3).toInt64 &&& 63)) &&& (255 : Int64)).toInt32 (32 : Int32) (126 : Int32) q3 hq3) ⟨va_cnB 3 hts gX6_mayHold_X9_isWithin_n21 rfl rfl rfl hN (hts (.initialized RX9) (List.mem_of_getElem? (i := 3) rfl)) (by decide +kernel) ⟨Nat.le_of_ble_eq_true rfl, Nat.le_of_ble_eq_true rfl⟩, (hts (.static yX9_isWithin) (List.mem_of_getElem? (i := 2) rfl)), trivial⟩ (pf_s (nil_K hK) nil_P (nil_D (A := A))) rfl rfl hl.1 rfl (lv_room (Nat.le_of_ble_eq_true rfl)) dX6_mayHold_22 ⟨Nat.le_refl _, Nat.le_refl _⟩) hS (fun q _ h => (fr_none hS hA) q h) (fr_none hS hA) (fun r3 v3 t3 H3 locs3 ht3 hvm3 hw3 hB3 hz3 hk3 hS3 => ?_)
        subst hw3
        have hP3 := jn_none hP hk3
        have hD3 := hD
        have hP3 : va_P (dC, dI) vwCl (([] : va_W)) H3 := hP3
        have hD3 : va_D A (([] : va_W)) := hD3
        clear hP hD hS hB3 hk3 hvm3 hz3 ht3
        refine lv_if_ne (tgt := 30) hx hb dX6_mayHold_25 (by decide) (fun c4 => ?_) (fun c4 => ?_)
        · replace hR := ifn_ hR c4
          obtain ⟨z5, ez5⟩ : ∃ y : Int32, y = (y3 + (1 : Int32)) := ⟨_, rfl⟩
          replace hR := lt_ok hR ez5
          refine lv_iinc (v := z5) (lv' := [(3, .int z5), (0, .long y0), (2, .int y2)]) hx hb dX6_mayHold_30 hl (k := 2) rfl (by rw [ez5]; rfl) (by decide) rfl (fun ls5 hl5 => ?_)
          refine lv_goto (tgt := 2) hx hb dX6_mayHold_33 (by decide) ?_
          exact ih y0 y2 z5 H3 locs3 ls5 hP3 hD3 hS3 (lv_sub hl5 [1, 2, 0] rfl) hR
        · replace hR := ifp_ hR c4
          refine lv_iconst (v := (0 : Int32)) hx hb dX6_mayHold_28 (by decide) ?_
          subst hQe
          exact W.zret (ty := .boolean) (v := (0 : Int32)) hx hb hr rfl (fun t ht hW => ⟨⟨(0 : Int32), (), rfl, (Option.some.inj hR).symm, by rw [ht]; exact hP3, va_K.moved hW.alike hK, hD3⟩, hS3.F ht⟩) hS3.2.2 dX6_mayHold_29
  unfold rr_X6_mayHold at hR
  refine lv_iconst (v := (0 : Int32)) hx hb dX6_mayHold_0 (by decide) ?_
  refine lv_istore_n (lv' := [(3, .int (0 : Int32)), (0, .long x0), (2, .int x2)]) hx hb dX6_mayHold_1 rfl hl (by decide) rfl (fun ls1 hl1 => ?_)
  exact hB2 fu x0 x2 (0 : Int32) s.heap [] ls1 hP hD hS (lv_sub hl1 [1, 2, 0] rfl) hR
