def rr_X9_even_111 (fu : Nat) (y2 : Int32) (y6 : Int32) (u1 : ZT_9) : Option (Int32 × ZT_9) := (if y2 = (-1 : Int32) then some (y6, u1) else some ((-4 : Int32), u1))
def rr_X9_even_37_b (fu : Nat) (rec37 : Int32 → Int64 → Int32 → Int32 → Int32 → ZT_9 → Option (Int32 × ZT_9)) (y2 : Int32) (y3 : Int64) (y5 : Int32) (y6 : Int32) (y7 : Int32) (u1 : ZT_9) : Option (Int32 × ZT_9) := (if (40 : Int32) ≤ y7 then rr_X9_even_111 fu y2 y6 u1 else (if (lg_cmp y3 (0 : Int64)) = (0 : Int32) then rr_X9_even_111 fu y2 y6 u1 else (rr_X4_nextPaid fu y3 u1.2.2.2.1).bind (fun q13 => lt_ (α := Int64) (y3 ^^^ ((1 : Int64) <<< (q13.toInt64 &&& 63))) (fun z15 => ck_ q13 64 (lt_ (α := Int32) (y5 + (u1.2.2.2.1.2.2.1 q13.toNatClampNeg)) (fun z18 => (if z18 ≤ (999 : Int32) then (if y6 = y2 then some (z18, u1) else lt_ (α := Int32) (y6 + (1 : Int32)) (fun z22 => lt_ (α := Int32) (y7 + (1 : Int32)) (fun z23 => rec37 y2 z15 z18 z22 z23 u1))) else rr_X9_even_111 fu y2 y6 u1)))))))
def rr_X9_even_37 (fu : Nat) (n : Nat) : Int32 → Int64 → Int32 → Int32 → Int32 → ZT_9 → Option (Int32 × ZT_9) := lp_ (fun _ _ _ _ _ _ => none) (rr_X9_even_37_b fu) n
def rr_X9_even (fu : Nat) (x1 : Int32) (x2 : Int32) (s1 : ZT_9) : Option (Int32 × ZT_9) := (rr_X9_isPurse fu x1).bind (fun q1 => (if q1 = (0 : Int32) then some ((-1 : Int32), s1) else (if (-1 : Int32) ≤ x2 then (rr_X9_layOut fu s1).bind (fun q4 => ck_ x1 8 (lt_ (α := Int64) (q4.2.2.2.2.2.2.1.1 x1.toNatClampNeg) (fun z6 => rr_X9_even_37 fu fu x2 z6 (0 : Int32) (0 : Int32) (0 : Int32) q4))) else some ((-1 : Int32), s1))))
set_option maxHeartbeats 4000000 in
set_option maxRecDepth 100000 in
theorem cc_X9_even (l : Launch) (dC : Nat → ClassId) (dI : Nat → Nat → Nat) (fu : Nat) (a1 : Nat → Nat) (k1 : Nat → ClassId) (sz : Nat) (x1 : Int32) (x2 : Int32) (s1 : ZT_9) (res : Int32 × ZT_9) (hR : rr_X9_even fu x1 x2 s1 = some res) : Met l yX9_even wsX9_even ({ frames := 5, cells := 0, slots := 0, locals := 112 } : Room) (PcF [.ref (a1 0), .int x1, .int x2] sz (dC, dI) (zc_9 a1 k1 s1) (zt_9 k1)) (va_Qi (fun (r : Int32) (u : ZT_9) => res = (r, u)) (fun u t => at3_ (dC, dI) (zc_9 a1 k1 u) (zt_9 k1) (va_A (zc_9 a1 k1 s1) sz) t) (va_A (zc_9 a1 k1 s1) sz)) 0 0 (va_A (zc_9 a1 k1 s1) sz) := by
  refine Met.ofW (cc := cX9_even) (maxL := 9) (ret := (some .int)) (by decide) rfl ?_
  intro p e s m args below meth c s₁ B hml hv
  obtain ⟨hav, hsz, hP, hK, hD0⟩ := hv
  have hx := B.exec
  have hb := B.bytes
  have hr := B.returns
  have hts := atoms_spec (ws := wsX9_even) B.pre
  have hown : s.vm.findClass RX9 = some m.cls := findClass_of_methodNamed B.named
  have hlocks := B.notSynchronized
  have hin1 : ∀ w ∈ wsX10, w ∈ wsX9_even := fun w h => List.mem_cons_of_mem _ (List.mem_append_left _ (List.mem_append_left _ (List.mem_append_left _ (List.mem_append_right _ h))))
  have hin4 : ∀ w ∈ wsX40, w ∈ wsX9_even := fun w h => List.mem_cons_of_mem _ (List.mem_append_left _ (List.mem_append_left _ (List.mem_append_right _ h)))
  have hin9 : ∀ w ∈ wsX90, w ∈ wsX9_even := fun w h => List.mem_cons_of_mem _ (List.mem_append_left _ (List.mem_append_left _ (List.mem_append_left _ (List.mem_append_left _ (List.mem_append_right _ h)))))
  subst hsz
  have hD := hD0.self (sz := s.heap.size)
  clear hD0
  generalize hAe : va_A (zc_9 a1 k1 s1) s.heap.size = A at hD ⊢
  have hA : ∀ q : Nat, s.heap.size ≤ q → A q := fun q h => by rw [← hAe]; exact Or.inr h
  have hS : va_S A s.heap s.heap [] := va_S.rf
  generalize hQe : MQ below _ args s 0 0 A = Q
  rw [show entryFrame m args 9 = F0 m 0 ((lg_sl ([.ref (a1 0), .int x1, .int x2]) ++ List.replicate (9 - (lg_sl ([.ref (a1 0), .int x1, .int x2])).length) Slot.unset).toArray) [] from by rw [hav]; exact lg_entry_eq m _ _]
  have hl := lv_entry ([.ref (a1 0), .int x1, .int x2]) (n := 9) (Nat.le_of_ble_eq_true rfl)
  generalize (lg_sl ([.ref (a1 0), .int x1, .int x2]) ++ List.replicate (9 - (lg_sl ([.ref (a1 0), .int x1, .int x2])).length) Slot.unset).toArray = ls at hl ⊢
  have hl : lv_has ls 9 [(0, .ref (a1 0)), (1, .int x1), (2, .int x2)] := hl
  have hB111 : ∀ (y2 : Int32) (y6 : Int32) (u1 : ZT_9) (H : Heap) (locs : List Loc) (ls : Array Slot), va_P (dC, dI) vwCl (zc_9 a1 k1 u1) H → va_D A (zc_9 a1 k1 u1) → va_S A s.heap H locs → lv_has ls 9 [(2, .int y2), (6, .int y6)] → rr_X9_even_111 fu y2 y6 u1 = some res → W p l e ({ frames := 5, cells := 0, slots := 0, locals := 112 } : Room) s m args below meth c H locs 0 0 Q (F0 m 111 ls []) := by
    intro  y2 y6 u1 H locs ls hP hD hS hl hR
    unfold rr_X9_even_111 at hR
    refine lv_iload_n hx hb dX9_even_111 rfl (lv_at hl 0 rfl) ?_
    refine lv_iconst (v := (-1 : Int32)) hx hb dX9_even_112 (by decide) ?_
    refine lv_icmp_ne (tgt := 121) hx hb dX9_even_113 (by decide) (fun c24 => ?_) (fun c24 => ?_)
    · replace hR := ifn_ hR c24
      refine lv_bipush (v := (-4 : Int32)) hx hb dX9_even_121 (by decide) ?_
      subst hQe
      exact W.iret (v := (-4 : Int32)) hx hb hr (fun t ht hW => ⟨⟨(-4 : Int32), u1, rfl, (Option.some.inj hR).symm, by rw [ht]; exact hP, va_K.moved hW.alike hK, hD⟩, hS.F ht⟩) hS.2.2 dX9_even_123
    · replace hR := ifp_ hR c24
      refine lv_iload hx hb dX9_even_116 (lv_at hl 1 rfl) ?_
      refine lv_goto (tgt := 123) hx hb dX9_even_118 (by decide) ?_
      subst hQe
      exact W.iret (v := y6) hx hb hr (fun t ht hW => ⟨⟨y6, u1, rfl, (Option.some.inj hR).symm, by rw [ht]; exact hP, va_K.moved hW.alike hK, hD⟩, hS.F ht⟩) hS.2.2 dX9_even_123
  have hB37 : ∀ (n : Nat), ∀ (y2 : Int32) (y3 : Int64) (y5 : Int32) (y6 : Int32) (y7 : Int32) (u1 : ZT_9) (H : Heap) (locs : List Loc) (ls : Array Slot), va_P (dC, dI) vwCl (zc_9 a1 k1 u1) H → va_D A (zc_9 a1 k1 u1) → va_S A s.heap H locs → lv_has ls 9 [(0, .ref (a1 0)), (2, .int y2), (3, .long y3), (5, .int y5), (6, .int y6), (7, .int y7)] → rr_X9_even_37 fu n y2 y3 y5 y6 y7 u1 = some res → W p l e ({ frames := 5, cells := 0, slots := 0, locals := 112 } : Room) s m args below meth c H locs 0 0 Q (F0 m 37 ls []) := by
    intro  n
    induction n with
    | zero => intro y2 y3 y5 y6 y7 u1 H locs ls hP hD hS hl hR; exact absurd hR (by intro h; cases h)
    | succ n ih =>
      intro y2 y3 y5 y6 y7 u1 H locs ls hP hD hS hl hR
      replace hR : rr_X9_even_37_b fu (rr_X9_even_37 fu n) y2 y3 y5 y6 y7 u1 = some res := hR
      unfold rr_X9_even_37_b at hR
      refine lv_iload hx hb dX9_even_37 (lv_at hl 5 rfl) ?_
      refine lv_bipush (v := (40 : Int32)) hx hb dX9_even_39 (by decide) ?_
      refine lv_icmp_ge (tgt := 111) hx hb dX9_even_41 (by decide) (fun c11 => ?_) (fun c11 => ?_)
      · replace hR := ifp_ hR c11
        exact hB111 y2 y6 u1 H locs ls hP hD hS (lv_sub hl [1, 4] rfl) hR
      · replace hR := ifn_ hR c11
        refine lv_lload_n hx hb dX9_even_44 rfl (lv_at hl 2 rfl) ?_
        refine lv_lconst (v := (0 : Int64)) hx hb dX9_even_45 (by decide) ?_
        refine W.lcmp hx hb dX9_even_46 ?_
        refine lv_if_eq (tgt := 111) hx hb dX9_even_47 (by decide) (fun c12 => ?_) (fun c12 => ?_)
        · replace hR := ifp_ hR c12
          exact hB111 y2 y6 u1 H locs ls hP hD hS (lv_sub hl [1, 4] rfl) hR
        · replace hR := ifn_ hR c12
          refine lv_aload_n hx hb dX9_even_50 rfl (lv_at hl 0 rfl) ?_
          refine va_get (D := (dC, dI)) (ci := 9) (v := .ref (a1 31)) (C := RX9) (T := TX9) (N := 14) hx hb hts hin9 hown hK hP 0 rfl rfl 3 (by decide) (hts (.fieldLink RX9 22 "OldestCoins" "ranks" "LOldestCoins$Ranks;") (List.mem_of_getElem? (i := 3) rfl)) (fun _ h9 => h9) rfl dX9_even_51 ?_
          refine lv_lload_n hx hb dX9_even_54 rfl (lv_at hl 2 rfl) ?_
          have hR0 := ob_ok hR
          clear hR
          obtain ⟨q13, hq13, hR⟩ := hR0
          refine va_calli (va_runV (As := [.long y3]) (rest := []) ⟨hx, hb, hml, hown, hts⟩ (cc_X4_nextPaid l dC dI fu (sh_ a1 31) (sh_ k1 31) H.size y3 u1.2.2.2.1 q13 hq13) (cwV 1 hts gX9_even_X4_nextPaid rfl rfl rfl (by decide +kernel) ⟨Nat.le_of_ble_eq_true rfl, Nat.le_of_ble_eq_true rfl⟩) (pf_v (hK.sub (tys' := zt_4 (sh_ k1 31)) [22, 23, 24, 25, 26] rfl) (sub_P (sb_9__0c31 a1 k1 u1) hP) (sub_D (sb_9__0c31 a1 k1 u1) hD) 4 0 rfl rfl rfl) rfl rfl hl.1 rfl (lv_room (Nat.le_of_ble_eq_true rfl)) dX9_even_55 ⟨Nat.le_refl _, Nat.le_refl _⟩) hS (fun q _ h => (sub_F (sb_9__0c31 a1 k1 u1) hD hS hA) q h) (sub_F (sb_9__0c31 a1 k1 u1) hD hS hA) (fun r13 v13 t13 H13 locs13 ht13 hvm13 hw13 hB13 hz13 hk13 hS13 => ?_)
          subst hw13
          obtain ⟨hP13, hD13⟩ := jn_sub (sb_9__0c31 a1 k1 u1) (jo_9__0c31__ a1 k1 u1 ) rfl hP hD hk13 ht13 hB13
          have hP13 : va_P (dC, dI) vwCl (zc_9 a1 k1 u1) H13 := hP13
          have hD13 : va_D A (zc_9 a1 k1 u1) := hD13
          clear hP hD hS hB13 hk13 hvm13 hz13 ht13
          refine lv_istore (lv' := [(8, .int q13), (0, .ref (a1 0)), (2, .int y2), (3, .long y3), (5, .int y5), (6, .int y6), (7, .int y7)]) hx hb dX9_even_58 hl (by decide) rfl (fun ls14 hl14 => ?_)
          refine lv_lload_n hx hb dX9_even_60 rfl (lv_at hl14 3 rfl) ?_
          refine lv_lconst (v := (1 : Int64)) hx hb dX9_even_61 (by decide) ?_
          refine lv_iload hx hb dX9_even_62 (lv_at hl14 0 rfl) ?_
          refine lv_lshl (v := ((1 : Int64) <<< (q13.toInt64 &&& 63))) hx hb dX9_even_64 rfl ?_
          refine lv_lxor hx hb dX9_even_65 ?_
          refine lv_topl (fun z15 ez15 => ?_)
          replace hR := lt_ok hR ez15
          refine lv_lstore_n (lv' := [(3, .long z15), (8, .int q13), (0, .ref (a1 0)), (2, .int y2), (5, .int y5), (6, .int y6), (7, .int y7)]) hx hb dX9_even_66 rfl hl14 (by decide) rfl (fun ls16 hl16 => ?_)
          refine lv_iload hx hb dX9_even_67 (lv_at hl16 4 rfl) ?_
          refine lv_aload_n hx hb dX9_even_69 rfl (lv_at hl16 2 rfl) ?_
          refine va_get (D := (dC, dI)) (ci := 9) (v := .ref (a1 31)) (C := RX9) (T := TX9) (N := 14) hx hb hts hin9 hown hK hP13 0 rfl rfl 3 (by decide) (hts (.fieldLink RX9 22 "OldestCoins" "ranks" "LOldestCoins$Ranks;") (List.mem_of_getElem? (i := 3) rfl)) (fun _ h9 => h9) rfl dX9_even_70 ?_
          refine va_get (D := (dC, dI)) (ci := 4) (v := .ref (a1 33)) (C := RX4) (T := TX4) (N := 6) hx hb hts hin4 hown hK hP13 31 rfl rfl 2 (by decide) (hts (.fieldLink RX9 227 "OldestCoins$Ranks" "worthAt" "[I") (List.mem_of_getElem? (i := 4) rfl)) (fun _ h9 => h9) rfl dX9_even_73 ?_
          refine lv_iload hx hb dX9_even_76 (lv_at hl16 1 rfl) ?_
          have i17 := (ck_ok hR).1
          replace hR := (ck_ok hR).2
          refine va_iald (f := u1.2.2.2.1.2.2.1) hx hb hK hP13 33 23 rfl rfl i17 dX9_even_78 ?_
          refine lv_iadd hx hb dX9_even_79 ?_
          refine lv_topi (fun z18 ez18 => ?_)
          replace hR := lt_ok hR ez18
          refine lv_istore (lv' := [(5, .int z18), (3, .long z15), (8, .int q13), (0, .ref (a1 0)), (2, .int y2), (6, .int y6), (7, .int y7)]) hx hb dX9_even_80 hl16 (by decide) rfl (fun ls19 hl19 => ?_)
          refine lv_iload hx hb dX9_even_82 (lv_at hl19 0 rfl) ?_
          refine lv_sipush (v := (999 : Int32)) hx hb dX9_even_84 (by decide) ?_
          refine lv_icmp_le (tgt := 93) hx hb dX9_even_87 (by decide) (fun c20 => ?_) (fun c20 => ?_)
          · replace hR := ifp_ hR c20
            refine lv_iload hx hb dX9_even_93 (lv_at hl19 5 rfl) ?_
            refine lv_iload_n hx hb dX9_even_95 rfl (lv_at hl19 4 rfl) ?_
            refine lv_icmp_ne (tgt := 102) hx hb dX9_even_96 (by decide) (fun c21 => ?_) (fun c21 => ?_)
            · replace hR := ifn_ hR c21
              obtain ⟨z22, ez22⟩ : ∃ y : Int32, y = (y6 + (1 : Int32)) := ⟨_, rfl⟩
              replace hR := lt_ok hR ez22
              refine lv_iinc (v := z22) (lv' := [(6, .int z22), (5, .int z18), (3, .long z15), (8, .int q13), (0, .ref (a1 0)), (2, .int y2), (7, .int y7)]) hx hb dX9_even_102 hl19 (k := 5) rfl (by rw [ez22]; rfl) (by decide) rfl (fun ls22 hl22 => ?_)
              obtain ⟨z23, ez23⟩ : ∃ y : Int32, y = (y7 + (1 : Int32)) := ⟨_, rfl⟩
              replace hR := lt_ok hR ez23
              refine lv_iinc (v := z23) (lv' := [(7, .int z23), (6, .int z22), (5, .int z18), (3, .long z15), (8, .int q13), (0, .ref (a1 0)), (2, .int y2)]) hx hb dX9_even_105 hl22 (k := 6) rfl (by rw [ez23]; rfl) (by decide) rfl (fun ls23 hl23 => ?_)
              refine lv_goto (tgt := 37) hx hb dX9_even_108 (by decide) ?_
              exact ih y2 z15 z18 z22 z23 u1 H13 locs13 ls23 hP13 hD13 hS13 (lv_sub hl23 [5, 6, 3, 2, 1, 0] rfl) hR
            · replace hR := ifp_ hR c21
              refine lv_iload hx hb dX9_even_99 (lv_at hl19 0 rfl) ?_
              subst hQe
              exact W.iret (v := z18) hx hb hr (fun t ht hW => ⟨⟨z18, u1, rfl, (Option.some.inj hR).symm, by rw [ht]; exact hP13, va_K.moved hW.alike hK, hD13⟩, hS13.F ht⟩) hS13.2.2 dX9_even_101
          · replace hR := ifn_ hR c20
            refine lv_goto (tgt := 111) hx hb dX9_even_90 (by decide) ?_
            exact hB111 y2 y6 u1 H13 locs13 ls19 hP13 hD13 hS13 (lv_sub hl19 [4, 5] rfl) hR
  unfold rr_X9_even at hR
  refine lv_iload_n hx hb dX9_even_0 rfl (lv_at hl 1 rfl) ?_
  have hR0 := ob_ok hR
  clear hR
  obtain ⟨q1, hq1, hR⟩ := hR0
  refine va_calli (va_runS (As := [.int x1]) (rest := []) ⟨hx, hb, hml, hown, hts⟩ (cc_X9_isPurse l dC dI fu s.heap.size x1 q1 hq1) (va_cwS 1 hts gX9_even_X9_isPurse rfl rfl rfl (by decide +kernel) ⟨Nat.le_of_ble_eq_true rfl, Nat.le_of_ble_eq_true rfl⟩) (pf_s (nil_K hK) nil_P (nil_D (A := A))) rfl rfl hl.1 rfl (lv_room (Nat.le_of_ble_eq_true rfl)) dX9_even_1 ⟨Nat.le_refl _, Nat.le_refl _⟩) hS (fun q _ h => (fr_none hS hA) q h) (fr_none hS hA) (fun r1 v1 t1 H1 locs1 ht1 hvm1 hw1 hB1 hz1 hk1 hS1 => ?_)
  subst hw1
  have hP1 := jn_none hP hk1
  have hD1 := hD
  have hP1 : va_P (dC, dI) vwCl (zc_9 a1 k1 s1) H1 := hP1
  have hD1 : va_D A (zc_9 a1 k1 s1) := hD1
  clear hP hD hS hB1 hk1 hvm1 hz1 ht1
  refine lv_if_eq (tgt := 12) hx hb dX9_even_4 (by decide) (fun c2 => ?_) (fun c2 => ?_)
  · replace hR := ifp_ hR c2
    refine lv_iconst (v := (-1 : Int32)) hx hb dX9_even_12 (by decide) ?_
    subst hQe
    exact W.iret (v := (-1 : Int32)) hx hb hr (fun t ht hW => ⟨⟨(-1 : Int32), s1, rfl, (Option.some.inj hR).symm, by rw [ht]; exact hP1, va_K.moved hW.alike hK, hD1⟩, hS1.F ht⟩) hS1.2.2 dX9_even_13
  · replace hR := ifn_ hR c2
    refine lv_iload_n hx hb dX9_even_7 rfl (lv_at hl 2 rfl) ?_
    refine lv_iconst (v := (-1 : Int32)) hx hb dX9_even_8 (by decide) ?_
    refine lv_icmp_ge (tgt := 14) hx hb dX9_even_9 (by decide) (fun c3 => ?_) (fun c3 => ?_)
    · replace hR := ifp_ hR c3
      refine lv_aload_n hx hb dX9_even_14 rfl (lv_at hl 0 rfl) ?_
      have hR0 := ob_ok hR
      clear hR
      obtain ⟨q4, hq4, hR⟩ := hR0
      refine va_callv (va_runV (As := []) (rest := []) ⟨hx, hb, hml, hown, hts⟩ (cc_X9_layOut l dC dI fu a1 k1 H1.size s1 q4 hq4) (cwV 0 hts gX9_even_X9_layOut rfl rfl rfl (by decide +kernel) ⟨Nat.le_of_ble_eq_true rfl, Nat.le_of_ble_eq_true rfl⟩) (pf_v hK hP1 hD1 9 0 rfl rfl rfl) rfl rfl hl.1 rfl (lv_room (Nat.le_of_ble_eq_true rfl)) dX9_even_15 ⟨Nat.le_refl _, Nat.le_refl _⟩) hS1 (fun q _ h => (fr_all hD1 hS1 hA) q h) (fr_all hD1 hS1 hA) (fun v4 t4 H4 locs4 ht4 hvm4 hw4 hB4 hz4 hk4 hS4 => ?_)
      subst hw4
      obtain ⟨hP4, hD4⟩ := jn_all hD1 hS1 hA ht4 hB4
      have hP4 : va_P (dC, dI) vwCl (zc_9 a1 k1 q4) H4 := hP4
      have hD4 : va_D A (zc_9 a1 k1 q4) := hD4
      clear hP1 hD1 hS1 hB4 hk4 hvm4 hz4 ht4
      refine lv_aload_n hx hb dX9_even_18 rfl (lv_at hl 0 rfl) ?_
      refine va_get (D := (dC, dI)) (ci := 9) (v := .ref (a1 43)) (C := RX9) (T := TX9) (N := 14) hx hb hts hin9 hown hK hP4 0 rfl rfl 6 (by decide) (hts (.fieldLink RX9 36 "OldestCoins" "board" "LOldestCoins$Board;") (List.mem_of_getElem? (i := 1) rfl)) (fun _ h9 => h9) rfl dX9_even_19 ?_
      refine va_get (D := (dC, dI)) (ci := 1) (v := .ref (a1 44)) (C := RX1) (T := TX1) (N := 5) hx hb hts hin1 hown hK hP4 43 rfl rfl 0 (by decide) (hts (.fieldLink RX9 138 "OldestCoins$Board" "had" "[J") (List.mem_of_getElem? (i := 2) rfl)) (fun _ h9 => h9) rfl dX9_even_22 ?_
      refine lv_iload_n hx hb dX9_even_25 rfl (lv_at hl 1 rfl) ?_
      have i5 := (ck_ok hR).1
      replace hR := (ck_ok hR).2
      refine va_lald (f := q4.2.2.2.2.2.2.1.1) hx hb hK hP4 44 32 rfl rfl i5 dX9_even_26 ?_
      refine lv_topl (fun z6 ez6 => ?_)
      replace hR := lt_ok hR ez6
      refine lv_lstore_n (lv' := [(3, .long z6), (0, .ref (a1 0)), (1, .int x1), (2, .int x2)]) hx hb dX9_even_27 rfl hl (by decide) rfl (fun ls7 hl7 => ?_)
      refine lv_iconst (v := (0 : Int32)) hx hb dX9_even_28 (by decide) ?_
      refine lv_istore (lv' := [(5, .int (0 : Int32)), (3, .long z6), (0, .ref (a1 0)), (1, .int x1), (2, .int x2)]) hx hb dX9_even_29 hl7 (by decide) rfl (fun ls8 hl8 => ?_)
      refine lv_iconst (v := (0 : Int32)) hx hb dX9_even_31 (by decide) ?_
      refine lv_istore (lv' := [(6, .int (0 : Int32)), (5, .int (0 : Int32)), (3, .long z6), (0, .ref (a1 0)), (1, .int x1), (2, .int x2)]) hx hb dX9_even_32 hl8 (by decide) rfl (fun ls9 hl9 => ?_)
      refine lv_iconst (v := (0 : Int32)) hx hb dX9_even_34 (by decide) ?_
      refine lv_istore (lv' := [(7, .int (0 : Int32)), (6, .int (0 : Int32)), (5, .int (0 : Int32)), (3, .long z6), (0, .ref (a1 0)), (1, .int x1), (2, .int x2)]) hx hb dX9_even_35 hl9 (by decide) rfl (fun ls10 hl10 => ?_)
      exact hB37 fu x2 z6 (0 : Int32) (0 : Int32) (0 : Int32) q4 H4 locs4 ls10 hP4 hD4 hS4 (lv_sub hl10 [4, 6, 3, 2, 1, 0] rfl) hR
    · replace hR := ifn_ hR c3
      refine lv_iconst (v := (-1 : Int32)) hx hb dX9_even_12 (by decide) ?_
      subst hQe
      exact W.iret (v := (-1 : Int32)) hx hb hr (fun t ht hW => ⟨⟨(-1 : Int32), s1, rfl, (Option.some.inj hR).symm, by rw [ht]; exact hP1, va_K.moved hW.alike hK, hD1⟩, hS1.F ht⟩) hS1.2.2 dX9_even_13
def rr_X9_would (fu : Nat) (x1 : Int32) (x2 : Int32) (x3 : Int32) (x4 : Int32) (s1 : ZT_9) : Option (Int32 × ZT_9) := (rr_X9_isBill fu x1 x2 x3).bind (fun q1 => (if q1 = (0 : Int32) then some ((-1 : Int32), s1) else (rr_X9_isWithin fu x4 (0 : Int32) (3 : Int32)).bind (fun q3 => (if q3 = (0 : Int32) then some ((-1 : Int32), s1) else (rr_X9_layOut fu s1).bind (fun q5 => (rr_X1_meets fu x1 x2 x3 q5.2.2.2.2.2.2.1 q5.2.2.2.1).bind (fun q6 => (if q6.1 = (0 : Int32) then some ((-2 : Int32), (q5.1, q5.2.1, q5.2.2.1, q5.2.2.2.1, q5.2.2.2.2.1, q5.2.2.2.2.2.1, q6.2, q5.2.2.2.2.2.2.2)) else (if x4 = (0 : Int32) then (rr_J13_bitCount_95d88 fu q6.2.2.1).bind (fun q9 => some (q9, (q5.1, q5.2.1, q5.2.2.1, q5.2.2.2.1, q5.2.2.2.2.1, q5.2.2.2.2.2.1, q6.2, q5.2.2.2.2.2.2.2))) else if x4 = (1 : Int32) then some ((x3 + q6.2.2.2.2.1), (q5.1, q5.2.1, q5.2.2.1, q5.2.2.2.1, q5.2.2.2.2.1, q5.2.2.2.2.2.1, q6.2, q5.2.2.2.2.2.2.2)) else if x4 = (2 : Int32) then (rr_J13_bitCount_95d88 fu q6.2.2.2.1).bind (fun q10 => some (q10, (q5.1, q5.2.1, q5.2.2.1, q5.2.2.2.1, q5.2.2.2.2.1, q5.2.2.2.2.2.1, q6.2, q5.2.2.2.2.2.2.2))) else some (q6.2.2.2.2.2, (q5.1, q5.2.1, q5.2.2.1, q5.2.2.2.1, q5.2.2.2.2.1, q5.2.2.2.2.2.1, q6.2, q5.2.2.2.2.2.2.2))))))))))
set_option maxHeartbeats 4000000 in
set_option maxRecDepth 100000 in
theorem cc_X9_would (l : Launch) (dC : Nat → ClassId) (dI : Nat → Nat → Nat) (fu : Nat) (a1 : Nat → Nat) (k1 : Nat → ClassId) (sz : Nat) (x1 : Int32) (x2 : Int32) (x3 : Int32) (x4 : Int32) (s1 : ZT_9) (res : Int32 × ZT_9) (hR : rr_X9_would fu x1 x2 x3 x4 s1 = some res) : Met l yX9_would wsX9_would ({ frames := 5, cells := 0, slots := 0, locals := 119 } : Room) (PcF [.ref (a1 0), .int x1, .int x2, .int x3, .int x4] sz (dC, dI) (zc_9 a1 k1 s1) (zt_9 k1)) (va_Qi (fun (r : Int32) (u : ZT_9) => res = (r, u)) (fun u t => at3_ (dC, dI) (zc_9 a1 k1 u) (zt_9 k1) (va_A (zc_9 a1 k1 s1) sz) t) (va_A (zc_9 a1 k1 s1) sz)) 0 0 (va_A (zc_9 a1 k1 s1) sz) := by
  refine Met.ofW (cc := cX9_would) (maxL := 5) (ret := (some .int)) (by decide) rfl ?_
  intro p e s m args below meth c s₁ B hml hv
  obtain ⟨hav, hsz, hP, hK, hD0⟩ := hv
  have hx := B.exec
  have hb := B.bytes
  have hr := B.returns
  have hts := atoms_spec (ws := wsX9_would) B.pre
  have hown : s.vm.findClass RX9 = some m.cls := findClass_of_methodNamed B.named
  have hlocks := B.notSynchronized
  have hin1 : ∀ w ∈ wsX10, w ∈ wsX9_would := fun w h => List.mem_cons_of_mem _ (List.mem_append_left _ (List.mem_append_left _ (List.mem_append_left _ (List.mem_append_right _ h))))
  have hin9 : ∀ w ∈ wsX90, w ∈ wsX9_would := fun w h => List.mem_cons_of_mem _ (List.mem_append_left _ (List.mem_append_left _ (List.mem_append_left _ (List.mem_append_left _ (List.mem_append_right _ h)))))
  subst hsz
  have hD := hD0.self (sz := s.heap.size)
  clear hD0
  generalize hAe : va_A (zc_9 a1 k1 s1) s.heap.size = A at hD ⊢
  have hA : ∀ q : Nat, s.heap.size ≤ q → A q := fun q h => by rw [← hAe]; exact Or.inr h
  have hS : va_S A s.heap s.heap [] := va_S.rf
  generalize hQe : MQ below _ args s 0 0 A = Q
  rw [show entryFrame m args 5 = F0 m 0 ((lg_sl ([.ref (a1 0), .int x1, .int x2, .int x3, .int x4]) ++ List.replicate (5 - (lg_sl ([.ref (a1 0), .int x1, .int x2, .int x3, .int x4])).length) Slot.unset).toArray) [] from by rw [hav]; exact lg_entry_eq m _ _]
  have hl := lv_entry ([.ref (a1 0), .int x1, .int x2, .int x3, .int x4]) (n := 5) (Nat.le_of_ble_eq_true rfl)
  generalize (lg_sl ([.ref (a1 0), .int x1, .int x2, .int x3, .int x4]) ++ List.replicate (5 - (lg_sl ([.ref (a1 0), .int x1, .int x2, .int x3, .int x4])).length) Slot.unset).toArray = ls at hl ⊢
  have hl : lv_has ls 5 [(0, .ref (a1 0)), (1, .int x1), (2, .int x2), (3, .int x3), (4, .int x4)] := hl
  unfold rr_X9_would at hR
  refine lv_iload_n hx hb dX9_would_0 rfl (lv_at hl 1 rfl) ?_
  refine lv_iload_n hx hb dX9_would_1 rfl (lv_at hl 2 rfl) ?_
  refine lv_iload_n hx hb dX9_would_2 rfl (lv_at hl 3 rfl) ?_
  have hR0 := ob_ok hR
  clear hR
  obtain ⟨q1, hq1, hR⟩ := hR0
  refine va_calli (va_runS (As := [.int x1, .int x2, .int x3]) (rest := []) ⟨hx, hb, hml, hown, hts⟩ (cc_X9_isBill l dC dI fu s.heap.size x1 x2 x3 q1 hq1) (va_cwS 3 hts gX9_would_X9_isBill rfl rfl rfl (by decide +kernel) ⟨Nat.le_of_ble_eq_true rfl, Nat.le_of_ble_eq_true rfl⟩) (pf_s (nil_K hK) nil_P (nil_D (A := A))) rfl rfl hl.1 rfl (lv_room (Nat.le_of_ble_eq_true rfl)) dX9_would_3 ⟨Nat.le_refl _, Nat.le_refl _⟩) hS (fun q _ h => (fr_none hS hA) q h) (fr_none hS hA) (fun r1 v1 t1 H1 locs1 ht1 hvm1 hw1 hB1 hz1 hk1 hS1 => ?_)
  subst hw1
  have hP1 := jn_none hP hk1
  have hD1 := hD
  have hP1 : va_P (dC, dI) vwCl (zc_9 a1 k1 s1) H1 := hP1
  have hD1 : va_D A (zc_9 a1 k1 s1) := hD1
  clear hP hD hS hB1 hk1 hvm1 hz1 ht1
  refine lv_if_eq (tgt := 19) hx hb dX9_would_6 (by decide) (fun c2 => ?_) (fun c2 => ?_)
  · replace hR := ifp_ hR c2
    refine lv_iconst (v := (-1 : Int32)) hx hb dX9_would_19 (by decide) ?_
    subst hQe
    exact W.iret (v := (-1 : Int32)) hx hb hr (fun t ht hW => ⟨⟨(-1 : Int32), s1, rfl, (Option.some.inj hR).symm, by rw [ht]; exact hP1, va_K.moved hW.alike hK, hD1⟩, hS1.F ht⟩) hS1.2.2 dX9_would_20
  · replace hR := ifn_ hR c2
    refine lv_iload hx hb dX9_would_9 (lv_at hl 4 rfl) ?_
    refine lv_iconst (v := (0 : Int32)) hx hb dX9_would_11 (by decide) ?_
    refine lv_iconst (v := (3 : Int32)) hx hb dX9_would_12 (by decide) ?_
    have hR0 := ob_ok hR
    clear hR
    obtain ⟨q3, hq3, hR⟩ := hR0
    refine va_calli (va_runS (As := [.int x4, .int (0 : Int32), .int (3 : Int32)]) (rest := []) ⟨hx, hb, hml, hown, hts⟩ (cc_X9_isWithin l dC dI fu H1.size x4 (0 : Int32) (3 : Int32) q3 hq3) (va_cwS 3 hts gX9_would_X9_isWithin rfl rfl rfl (by decide +kernel) ⟨Nat.le_of_ble_eq_true rfl, Nat.le_of_ble_eq_true rfl⟩) (pf_s (nil_K hK) nil_P (nil_D (A := A))) rfl rfl hl.1 rfl (lv_room (Nat.le_of_ble_eq_true rfl)) dX9_would_13 ⟨Nat.le_refl _, Nat.le_refl _⟩) hS1 (fun q _ h => (fr_none hS1 hA) q h) (fr_none hS1 hA) (fun r3 v3 t3 H3 locs3 ht3 hvm3 hw3 hB3 hz3 hk3 hS3 => ?_)
    subst hw3
    have hP3 := jn_none hP1 hk3
    have hD3 := hD1
    have hP3 : va_P (dC, dI) vwCl (zc_9 a1 k1 s1) H3 := hP3
    have hD3 : va_D A (zc_9 a1 k1 s1) := hD3
    clear hP1 hD1 hS1 hB3 hk3 hvm3 hz3 ht3
    refine lv_if_ne (tgt := 21) hx hb dX9_would_16 (by decide) (fun c4 => ?_) (fun c4 => ?_)
    · replace hR := ifn_ hR c4
      refine lv_aload_n hx hb dX9_would_21 rfl (lv_at hl 0 rfl) ?_
      have hR0 := ob_ok hR
      clear hR
      obtain ⟨q5, hq5, hR⟩ := hR0
      refine va_callv (va_runV (As := []) (rest := []) ⟨hx, hb, hml, hown, hts⟩ (cc_X9_layOut l dC dI fu a1 k1 H3.size s1 q5 hq5) (cwV 0 hts gX9_would_X9_layOut rfl rfl rfl (by decide +kernel) ⟨Nat.le_of_ble_eq_true rfl, Nat.le_of_ble_eq_true rfl⟩) (pf_v hK hP3 hD3 9 0 rfl rfl rfl) rfl rfl hl.1 rfl (lv_room (Nat.le_of_ble_eq_true rfl)) dX9_would_22 ⟨Nat.le_refl _, Nat.le_refl _⟩) hS3 (fun q _ h => (fr_all hD3 hS3 hA) q h) (fr_all hD3 hS3 hA) (fun v5 t5 H5 locs5 ht5 hvm5 hw5 hB5 hz5 hk5 hS5 => ?_)
      subst hw5
      obtain ⟨hP5, hD5⟩ := jn_all hD3 hS3 hA ht5 hB5
      have hP5 : va_P (dC, dI) vwCl (zc_9 a1 k1 q5) H5 := hP5
      have hD5 : va_D A (zc_9 a1 k1 q5) := hD5
      clear hP3 hD3 hS3 hB5 hk5 hvm5 hz5 ht5
      refine lv_aload_n hx hb dX9_would_25 rfl (lv_at hl 0 rfl) ?_
      refine va_get (D := (dC, dI)) (ci := 9) (v := .ref (a1 43)) (C := RX9) (T := TX9) (N := 14) hx hb hts hin9 hown hK hP5 0 rfl rfl 6 (by decide) (hts (.fieldLink RX9 36 "OldestCoins" "board" "LOldestCoins$Board;") (List.mem_of_getElem? (i := 1) rfl)) (fun _ h9 => h9) rfl dX9_would_26 ?_
      refine lv_aload_n hx hb dX9_would_29 rfl (lv_at hl 0 rfl) ?_
      refine va_get (D := (dC, dI)) (ci := 9) (v := .ref (a1 31)) (C := RX9) (T := TX9) (N := 14) hx hb hts hin9 hown hK hP5 0 rfl rfl 3 (by decide) (hts (.fieldLink RX9 22 "OldestCoins" "ranks" "LOldestCoins$Ranks;") (List.mem_of_getElem? (i := 2) rfl)) (fun _ h9 => h9) rfl dX9_would_30 ?_
      refine lv_iload_n hx hb dX9_would_33 rfl (lv_at hl 1 rfl) ?_
      refine lv_iload_n hx hb dX9_would_34 rfl (lv_at hl 2 rfl) ?_
      refine lv_iload_n hx hb dX9_would_35 rfl (lv_at hl 3 rfl) ?_
      have hR0 := ob_ok hR
      clear hR
      obtain ⟨q6, hq6, hR⟩ := hR0
      refine va_calli (va_runV (As := [.ref (a1 31), .int x1, .int x2, .int x3]) (rest := []) ⟨hx, hb, hml, hown, hts⟩ (cc_X1_meets l dC dI fu (sh_ a1 43) (sh_ a1 31) (sh_ k1 43) (sh_ k1 31) H5.size x1 x2 x3 q5.2.2.2.2.2.2.1 q5.2.2.2.1 q6 hq6) (cwV 4 hts gX9_would_X1_meets rfl rfl rfl (by decide +kernel) ⟨Nat.le_of_ble_eq_true rfl, Nat.le_of_ble_eq_true rfl⟩) (pf_v (hK.sub (tys' := zt_1 (sh_ k1 43) ++ zt_4 (sh_ k1 31)) [32, 22, 23, 24, 25, 26] rfl) (sub_P (sb_9__0c43_0c31 a1 k1 q5) hP5) (sub_D (sb_9__0c43_0c31 a1 k1 q5) hD5) 1 0 rfl rfl rfl) rfl rfl hl.1 rfl (lv_room (Nat.le_of_ble_eq_true rfl)) dX9_would_36 ⟨Nat.le_refl _, Nat.le_refl _⟩) hS5 (fun q _ h => (sub_F (sb_9__0c43_0c31 a1 k1 q5) hD5 hS5 hA) q h) (sub_F (sb_9__0c43_0c31 a1 k1 q5) hD5 hS5 hA) (fun r6 v6 t6 H6 locs6 ht6 hvm6 hw6 hB6 hz6 hk6 hS6 => ?_)
      obtain rfl : r6 = q6.1 := (congrArg Prod.fst hw6).symm
      obtain rfl : v6 = q6.2 := (congrArg Prod.snd hw6).symm
      obtain ⟨hP6, hD6⟩ := jn_sub (sb_9__0c43_0c31 a1 k1 q5) (jo_9__0c43_0c31__0 a1 k1 q5 q6.2) rfl hP5 hD5 hk6 ht6 hB6
      have hP6 : va_P (dC, dI) vwCl (zc_9 a1 k1 (q5.1, q5.2.1, q5.2.2.1, q5.2.2.2.1, q5.2.2.2.2.1, q5.2.2.2.2.2.1, q6.2, q5.2.2.2.2.2.2.2)) H6 := hP6
      have hD6 : va_D A (zc_9 a1 k1 (q5.1, q5.2.1, q5.2.2.1, q5.2.2.2.1, q5.2.2.2.2.1, q5.2.2.2.2.2.1, q6.2, q5.2.2.2.2.2.2.2)) := hD6
      clear hP5 hD5 hS5 hB6 hk6 hvm6 hz6 ht6
      refine lv_if_ne (tgt := 45) hx hb dX9_would_39 (by decide) (fun c7 => ?_) (fun c7 => ?_)
      · replace hR := ifn_ hR c7
        refine lv_iload hx hb dX9_would_45 (lv_at hl 4 rfl) ?_
        by_cases c8_0 : x4 = (0 : Int32)
        · replace hR := ifp_ hR c8_0
          refine lv_tableIn (tgt := 72) (off := 25) hx hb dX9_would_47 (by rw [c8_0]; decide) (by rw [c8_0]; decide) (by rw [c8_0]; decide) (by decide) ?_
          refine lv_aload_n hx hb dX9_would_72 rfl (lv_at hl 0 rfl) ?_
          refine va_get (D := (dC, dI)) (ci := 9) (v := .ref (a1 43)) (C := RX9) (T := TX9) (N := 14) hx hb hts hin9 hown hK hP6 0 rfl rfl 6 (by decide) (hts (.fieldLink RX9 36 "OldestCoins" "board" "LOldestCoins$Board;") (List.mem_of_getElem? (i := 1) rfl)) (fun _ h9 => h9) rfl dX9_would_73 ?_
          refine va_get (D := (dC, dI)) (ci := 1) (v := .long q6.2.2.1) (C := RX1) (T := TX1) (N := 5) hx hb hts hin1 hown hK hP6 43 rfl rfl 1 (by decide) (hts (.fieldLink RX9 217 "OldestCoins$Board" "paid" "J") (List.mem_of_getElem? (i := 3) rfl)) (fun _ h9 => h9) rfl dX9_would_76 ?_
          have hR0 := ob_ok hR
          clear hR
          obtain ⟨q9, hq9, hR⟩ := hR0
          refine va_calli (va_runS (As := [.long q6.2.2.1]) (rest := []) ⟨hx, hb, hml, hown, hts⟩ (cc_J13_bitCount_95d88 l dC dI fu H6.size q6.2.2.1 q9 hq9) (va_cwS 1 hts gX9_would_J13_bitCount_95d88 rfl rfl rfl (by decide +kernel) ⟨Nat.le_of_ble_eq_true rfl, Nat.le_of_ble_eq_true rfl⟩) (pf_s (nil_K hK) nil_P (nil_D (A := A))) rfl rfl hl.1 rfl (lv_room (Nat.le_of_ble_eq_true rfl)) dX9_would_79 ⟨Nat.le_refl _, Nat.le_refl _⟩) hS6 (fun q _ h => (fr_none hS6 hA) q h) (fr_none hS6 hA) (fun r9 v9 t9 H9 locs9 ht9 hvm9 hw9 hB9 hz9 hk9 hS9 => ?_)
          subst hw9
          have hP9 := jn_none hP6 hk9
          have hD9 := hD6
          have hP9 : va_P (dC, dI) vwCl (zc_9 a1 k1 (q5.1, q5.2.1, q5.2.2.1, q5.2.2.2.1, q5.2.2.2.2.1, q5.2.2.2.2.2.1, q6.2, q5.2.2.2.2.2.2.2)) H9 := hP9
          have hD9 : va_D A (zc_9 a1 k1 (q5.1, q5.2.1, q5.2.2.1, q5.2.2.2.1, q5.2.2.2.2.1, q5.2.2.2.2.2.1, q6.2, q5.2.2.2.2.2.2.2)) := hD9
          clear hP6 hD6 hS6 hB9 hk9 hvm9 hz9 ht9
          subst hQe
          exact W.iret (v := q9) hx hb hr (fun t ht hW => ⟨⟨q9, (q5.1, q5.2.1, q5.2.2.1, q5.2.2.2.1, q5.2.2.2.2.1, q5.2.2.2.2.2.1, q6.2, q5.2.2.2.2.2.2.2), rfl, (Option.some.inj hR).symm, by rw [ht]; exact hP9, va_K.moved hW.alike hK, hD9⟩, hS9.F ht⟩) hS9.2.2 dX9_would_82
        replace hR := ifn_ hR c8_0
        by_cases c8_1 : x4 = (1 : Int32)
        · replace hR := ifp_ hR c8_1
          refine lv_tableIn (tgt := 83) (off := 36) hx hb dX9_would_47 (by rw [c8_1]; decide) (by rw [c8_1]; decide) (by rw [c8_1]; decide) (by decide) ?_
          refine lv_iload_n hx hb dX9_would_83 rfl (lv_at hl 3 rfl) ?_
          refine lv_aload_n hx hb dX9_would_84 rfl (lv_at hl 0 rfl) ?_
          refine va_get (D := (dC, dI)) (ci := 9) (v := .ref (a1 43)) (C := RX9) (T := TX9) (N := 14) hx hb hts hin9 hown hK hP6 0 rfl rfl 6 (by decide) (hts (.fieldLink RX9 36 "OldestCoins" "board" "LOldestCoins$Board;") (List.mem_of_getElem? (i := 1) rfl)) (fun _ h9 => h9) rfl dX9_would_85 ?_
          refine va_get (D := (dC, dI)) (ci := 1) (v := .int q6.2.2.2.2.1) (C := RX1) (T := TX1) (N := 5) hx hb hts hin1 hown hK hP6 43 rfl rfl 3 (by decide) (hts (.fieldLink RX9 211 "OldestCoins$Board" "due" "I") (List.mem_of_getElem? (i := 4) rfl)) (fun _ h9 => h9) rfl dX9_would_88 ?_
          refine lv_iadd hx hb dX9_would_91 ?_
          subst hQe
          exact W.iret (v := (x3 + q6.2.2.2.2.1)) hx hb hr (fun t ht hW => ⟨⟨(x3 + q6.2.2.2.2.1), (q5.1, q5.2.1, q5.2.2.1, q5.2.2.2.1, q5.2.2.2.2.1, q5.2.2.2.2.2.1, q6.2, q5.2.2.2.2.2.2.2), rfl, (Option.some.inj hR).symm, by rw [ht]; exact hP6, va_K.moved hW.alike hK, hD6⟩, hS6.F ht⟩) hS6.2.2 dX9_would_92
        replace hR := ifn_ hR c8_1
        by_cases c8_2 : x4 = (2 : Int32)
        · replace hR := ifp_ hR c8_2
          refine lv_tableIn (tgt := 93) (off := 46) hx hb dX9_would_47 (by rw [c8_2]; decide) (by rw [c8_2]; decide) (by rw [c8_2]; decide) (by decide) ?_
          refine lv_aload_n hx hb dX9_would_93 rfl (lv_at hl 0 rfl) ?_
          refine va_get (D := (dC, dI)) (ci := 9) (v := .ref (a1 43)) (C := RX9) (T := TX9) (N := 14) hx hb hts hin9 hown hK hP6 0 rfl rfl 6 (by decide) (hts (.fieldLink RX9 36 "OldestCoins" "board" "LOldestCoins$Board;") (List.mem_of_getElem? (i := 1) rfl)) (fun _ h9 => h9) rfl dX9_would_94 ?_
          refine va_get (D := (dC, dI)) (ci := 1) (v := .long q6.2.2.2.1) (C := RX1) (T := TX1) (N := 5) hx hb hts hin1 hown hK hP6 43 rfl rfl 2 (by decide) (hts (.fieldLink RX9 221 "OldestCoins$Board" "given" "J") (List.mem_of_getElem? (i := 5) rfl)) (fun _ h9 => h9) rfl dX9_would_97 ?_
          have hR0 := ob_ok hR
          clear hR
          obtain ⟨q10, hq10, hR⟩ := hR0
          refine va_calli (va_runS (As := [.long q6.2.2.2.1]) (rest := []) ⟨hx, hb, hml, hown, hts⟩ (cc_J13_bitCount_95d88 l dC dI fu H6.size q6.2.2.2.1 q10 hq10) (va_cwS 1 hts gX9_would_J13_bitCount_95d88 rfl rfl rfl (by decide +kernel) ⟨Nat.le_of_ble_eq_true rfl, Nat.le_of_ble_eq_true rfl⟩) (pf_s (nil_K hK) nil_P (nil_D (A := A))) rfl rfl hl.1 rfl (lv_room (Nat.le_of_ble_eq_true rfl)) dX9_would_100 ⟨Nat.le_refl _, Nat.le_refl _⟩) hS6 (fun q _ h => (fr_none hS6 hA) q h) (fr_none hS6 hA) (fun r10 v10 t10 H10 locs10 ht10 hvm10 hw10 hB10 hz10 hk10 hS10 => ?_)
          subst hw10
          have hP10 := jn_none hP6 hk10
          have hD10 := hD6
          have hP10 : va_P (dC, dI) vwCl (zc_9 a1 k1 (q5.1, q5.2.1, q5.2.2.1, q5.2.2.2.1, q5.2.2.2.2.1, q5.2.2.2.2.2.1, q6.2, q5.2.2.2.2.2.2.2)) H10 := hP10
          have hD10 : va_D A (zc_9 a1 k1 (q5.1, q5.2.1, q5.2.2.1, q5.2.2.2.1, q5.2.2.2.2.1, q5.2.2.2.2.2.1, q6.2, q5.2.2.2.2.2.2.2)) := hD10
          clear hP6 hD6 hS6 hB10 hk10 hvm10 hz10 ht10
          subst hQe
          exact W.iret (v := q10) hx hb hr (fun t ht hW => ⟨⟨q10, (q5.1, q5.2.1, q5.2.2.1, q5.2.2.2.1, q5.2.2.2.2.1, q5.2.2.2.2.2.1, q6.2, q5.2.2.2.2.2.2.2), rfl, (Option.some.inj hR).symm, by rw [ht]; exact hP10, va_K.moved hW.alike hK, hD10⟩, hS10.F ht⟩) hS10.2.2 dX9_would_103
        replace hR := ifn_ hR c8_2
        refine lv_tableOut (tgt := 104) hx hb dX9_would_47 (by have k0 := ne_i 0 (0 : Int32) (by decide) c8_0; have k1 := ne_i 1 (1 : Int32) (by decide) c8_1; have k2 := ne_i 2 (2 : Int32) (by decide) c8_2; omega) (by decide) ?_
        refine lv_aload_n hx hb dX9_would_104 rfl (lv_at hl 0 rfl) ?_
        refine va_get (D := (dC, dI)) (ci := 9) (v := .ref (a1 43)) (C := RX9) (T := TX9) (N := 14) hx hb hts hin9 hown hK hP6 0 rfl rfl 6 (by decide) (hts (.fieldLink RX9 36 "OldestCoins" "board" "LOldestCoins$Board;") (List.mem_of_getElem? (i := 1) rfl)) (fun _ h9 => h9) rfl dX9_would_105 ?_
        refine va_get (D := (dC, dI)) (ci := 1) (v := .int q6.2.2.2.2.2) (C := RX1) (T := TX1) (N := 5) hx hb hts hin1 hown hK hP6 43 rfl rfl 4 (by decide) (hts (.fieldLink RX9 214 "OldestCoins$Board" "lacking" "I") (List.mem_of_getElem? (i := 6) rfl)) (fun _ h9 => h9) rfl dX9_would_108 ?_
        subst hQe
        exact W.iret (v := q6.2.2.2.2.2) hx hb hr (fun t ht hW => ⟨⟨q6.2.2.2.2.2, (q5.1, q5.2.1, q5.2.2.1, q5.2.2.2.1, q5.2.2.2.2.1, q5.2.2.2.2.2.1, q6.2, q5.2.2.2.2.2.2.2), rfl, (Option.some.inj hR).symm, by rw [ht]; exact hP6, va_K.moved hW.alike hK, hD6⟩, hS6.F ht⟩) hS6.2.2 dX9_would_111
      · replace hR := ifp_ hR c7
        refine lv_bipush (v := (-2 : Int32)) hx hb dX9_would_42 (by decide) ?_
        subst hQe
        exact W.iret (v := (-2 : Int32)) hx hb hr (fun t ht hW => ⟨⟨(-2 : Int32), (q5.1, q5.2.1, q5.2.2.1, q5.2.2.2.1, q5.2.2.2.2.1, q5.2.2.2.2.2.1, q6.2, q5.2.2.2.2.2.2.2), rfl, (Option.some.inj hR).symm, by rw [ht]; exact hP6, va_K.moved hW.alike hK, hD6⟩, hS6.F ht⟩) hS6.2.2 dX9_would_44
    · replace hR := ifp_ hR c4
      refine lv_iconst (v := (-1 : Int32)) hx hb dX9_would_19 (by decide) ?_
      subst hQe
      exact W.iret (v := (-1 : Int32)) hx hb hr (fun t ht hW => ⟨⟨(-1 : Int32), s1, rfl, (Option.some.inj hR).symm, by rw [ht]; exact hP3, va_K.moved hW.alike hK, hD3⟩, hS3.F ht⟩) hS3.2.2 dX9_would_20
def rr_X9_bill (fu : Nat) (x1 : Int32) (x2 : Int32) (x3 : Int32) (s1 : ZT_9) : Option (Int32 × ZT_9) := (rr_X9_isBill fu x1 x2 x3).bind (fun q1 => (if q1 = (0 : Int32) then some ((-1 : Int32), s1) else (rr_X9_layOut fu s1).bind (fun q3 => (rr_X1_meets fu x1 x2 x3 q3.2.2.2.2.2.2.1 q3.2.2.2.1).bind (fun q4 => (if q4.1 = (0 : Int32) then some ((-2 : Int32), (q3.1, q3.2.1, q3.2.2.1, q3.2.2.2.1, q3.2.2.2.2.1, q3.2.2.2.2.2.1, q4.2, q3.2.2.2.2.2.2.2)) else (rr_X9_takeOver fu (q3.1, q3.2.1, q3.2.2.1, q3.2.2.2.1, q3.2.2.2.2.1, q3.2.2.2.2.2.1, q4.2, q3.2.2.2.2.2.2.2)).bind (fun q6 => some ((q6.2.2.2.2.2.2.1.2.2.2.1 - q6.2.2.2.2.2.2.1.2.2.2.2), q6)))))))
set_option maxHeartbeats 4000000 in
set_option maxRecDepth 100000 in
theorem cc_X9_bill (l : Launch) (dC : Nat → ClassId) (dI : Nat → Nat → Nat) (fu : Nat) (a1 : Nat → Nat) (k1 : Nat → ClassId) (sz : Nat) (x1 : Int32) (x2 : Int32) (x3 : Int32) (s1 : ZT_9) (res : Int32 × ZT_9) (hR : rr_X9_bill fu x1 x2 x3 s1 = some res) : Met l yX9_bill wsX9_bill ({ frames := 5, cells := 0, slots := 0, locals := 119 } : Room) (PcF [.ref (a1 0), .int x1, .int x2, .int x3] sz (dC, dI) (zc_9 a1 k1 s1) (zt_9 k1)) (va_Qi (fun (r : Int32) (u : ZT_9) => res = (r, u)) (fun u t => at3_ (dC, dI) (zc_9 a1 k1 u) (zt_9 k1) (va_A (zc_9 a1 k1 s1) sz) t) (va_A (zc_9 a1 k1 s1) sz)) 0 0 (va_A (zc_9 a1 k1 s1) sz) := by
  refine Met.ofW (cc := cX9_bill) (maxL := 4) (ret := (some .int)) (by decide) rfl ?_
  intro p e s m args below meth c s₁ B hml hv
  obtain ⟨hav, hsz, hP, hK, hD0⟩ := hv
  have hx := B.exec
  have hb := B.bytes
  have hr := B.returns
  have hts := atoms_spec (ws := wsX9_bill) B.pre
  have hown : s.vm.findClass RX9 = some m.cls := findClass_of_methodNamed B.named
  have hlocks := B.notSynchronized
  have hin1 : ∀ w ∈ wsX10, w ∈ wsX9_bill := fun w h => List.mem_cons_of_mem _ (List.mem_append_left _ (List.mem_append_left _ (List.mem_append_left _ (List.mem_append_right _ h))))
  have hin9 : ∀ w ∈ wsX90, w ∈ wsX9_bill := fun w h => List.mem_cons_of_mem _ (List.mem_append_left _ (List.mem_append_left _ (List.mem_append_left _ (List.mem_append_left _ (List.mem_append_right _ h)))))
  subst hsz
  have hD := hD0.self (sz := s.heap.size)
  clear hD0
  generalize hAe : va_A (zc_9 a1 k1 s1) s.heap.size = A at hD ⊢
  have hA : ∀ q : Nat, s.heap.size ≤ q → A q := fun q h => by rw [← hAe]; exact Or.inr h
  have hS : va_S A s.heap s.heap [] := va_S.rf
  generalize hQe : MQ below _ args s 0 0 A = Q
  rw [show entryFrame m args 4 = F0 m 0 ((lg_sl ([.ref (a1 0), .int x1, .int x2, .int x3]) ++ List.replicate (4 - (lg_sl ([.ref (a1 0), .int x1, .int x2, .int x3])).length) Slot.unset).toArray) [] from by rw [hav]; exact lg_entry_eq m _ _]
  have hl := lv_entry ([.ref (a1 0), .int x1, .int x2, .int x3]) (n := 4) (Nat.le_of_ble_eq_true rfl)
  generalize (lg_sl ([.ref (a1 0), .int x1, .int x2, .int x3]) ++ List.replicate (4 - (lg_sl ([.ref (a1 0), .int x1, .int x2, .int x3])).length) Slot.unset).toArray = ls at hl ⊢
  have hl : lv_has ls 4 [(0, .ref (a1 0)), (1, .int x1), (2, .int x2), (3, .int x3)] := hl
  unfold rr_X9_bill at hR
  refine lv_iload_n hx hb dX9_bill_0 rfl (lv_at hl 1 rfl) ?_
  refine lv_iload_n hx hb dX9_bill_1 rfl (lv_at hl 2 rfl) ?_
  refine lv_iload_n hx hb dX9_bill_2 rfl (lv_at hl 3 rfl) ?_
  have hR0 := ob_ok hR
  clear hR
  obtain ⟨q1, hq1, hR⟩ := hR0
  refine va_calli (va_runS (As := [.int x1, .int x2, .int x3]) (rest := []) ⟨hx, hb, hml, hown, hts⟩ (cc_X9_isBill l dC dI fu s.heap.size x1 x2 x3 q1 hq1) (va_cwS 3 hts gX9_bill_X9_isBill rfl rfl rfl (by decide +kernel) ⟨Nat.le_of_ble_eq_true rfl, Nat.le_of_ble_eq_true rfl⟩) (pf_s (nil_K hK) nil_P (nil_D (A := A))) rfl rfl hl.1 rfl (lv_room (Nat.le_of_ble_eq_true rfl)) dX9_bill_3 ⟨Nat.le_refl _, Nat.le_refl _⟩) hS (fun q _ h => (fr_none hS hA) q h) (fr_none hS hA) (fun r1 v1 t1 H1 locs1 ht1 hvm1 hw1 hB1 hz1 hk1 hS1 => ?_)
  subst hw1
  have hP1 := jn_none hP hk1
  have hD1 := hD
  have hP1 : va_P (dC, dI) vwCl (zc_9 a1 k1 s1) H1 := hP1
  have hD1 : va_D A (zc_9 a1 k1 s1) := hD1
  clear hP hD hS hB1 hk1 hvm1 hz1 ht1
  refine lv_if_ne (tgt := 11) hx hb dX9_bill_6 (by decide) (fun c2 => ?_) (fun c2 => ?_)
  · replace hR := ifn_ hR c2
    refine lv_aload_n hx hb dX9_bill_11 rfl (lv_at hl 0 rfl) ?_
    have hR0 := ob_ok hR
    clear hR
    obtain ⟨q3, hq3, hR⟩ := hR0
    refine va_callv (va_runV (As := []) (rest := []) ⟨hx, hb, hml, hown, hts⟩ (cc_X9_layOut l dC dI fu a1 k1 H1.size s1 q3 hq3) (cwV 0 hts gX9_bill_X9_layOut rfl rfl rfl (by decide +kernel) ⟨Nat.le_of_ble_eq_true rfl, Nat.le_of_ble_eq_true rfl⟩) (pf_v hK hP1 hD1 9 0 rfl rfl rfl) rfl rfl hl.1 rfl (lv_room (Nat.le_of_ble_eq_true rfl)) dX9_bill_12 ⟨Nat.le_refl _, Nat.le_refl _⟩) hS1 (fun q _ h => (fr_all hD1 hS1 hA) q h) (fr_all hD1 hS1 hA) (fun v3 t3 H3 locs3 ht3 hvm3 hw3 hB3 hz3 hk3 hS3 => ?_)
    subst hw3
    obtain ⟨hP3, hD3⟩ := jn_all hD1 hS1 hA ht3 hB3
    have hP3 : va_P (dC, dI) vwCl (zc_9 a1 k1 q3) H3 := hP3
    have hD3 : va_D A (zc_9 a1 k1 q3) := hD3
    clear hP1 hD1 hS1 hB3 hk3 hvm3 hz3 ht3
    refine lv_aload_n hx hb dX9_bill_15 rfl (lv_at hl 0 rfl) ?_
    refine va_get (D := (dC, dI)) (ci := 9) (v := .ref (a1 43)) (C := RX9) (T := TX9) (N := 14) hx hb hts hin9 hown hK hP3 0 rfl rfl 6 (by decide) (hts (.fieldLink RX9 36 "OldestCoins" "board" "LOldestCoins$Board;") (List.mem_of_getElem? (i := 1) rfl)) (fun _ h9 => h9) rfl dX9_bill_16 ?_
    refine lv_aload_n hx hb dX9_bill_19 rfl (lv_at hl 0 rfl) ?_
    refine va_get (D := (dC, dI)) (ci := 9) (v := .ref (a1 31)) (C := RX9) (T := TX9) (N := 14) hx hb hts hin9 hown hK hP3 0 rfl rfl 3 (by decide) (hts (.fieldLink RX9 22 "OldestCoins" "ranks" "LOldestCoins$Ranks;") (List.mem_of_getElem? (i := 2) rfl)) (fun _ h9 => h9) rfl dX9_bill_20 ?_
    refine lv_iload_n hx hb dX9_bill_23 rfl (lv_at hl 1 rfl) ?_
    refine lv_iload_n hx hb dX9_bill_24 rfl (lv_at hl 2 rfl) ?_
    refine lv_iload_n hx hb dX9_bill_25 rfl (lv_at hl 3 rfl) ?_
    have hR0 := ob_ok hR
    clear hR
    obtain ⟨q4, hq4, hR⟩ := hR0
    refine va_calli (va_runV (As := [.ref (a1 31), .int x1, .int x2, .int x3]) (rest := []) ⟨hx, hb, hml, hown, hts⟩ (cc_X1_meets l dC dI fu (sh_ a1 43) (sh_ a1 31) (sh_ k1 43) (sh_ k1 31) H3.size x1 x2 x3 q3.2.2.2.2.2.2.1 q3.2.2.2.1 q4 hq4) (cwV 4 hts gX9_bill_X1_meets rfl rfl rfl (by decide +kernel) ⟨Nat.le_of_ble_eq_true rfl, Nat.le_of_ble_eq_true rfl⟩) (pf_v (hK.sub (tys' := zt_1 (sh_ k1 43) ++ zt_4 (sh_ k1 31)) [32, 22, 23, 24, 25, 26] rfl) (sub_P (sb_9__0c43_0c31 a1 k1 q3) hP3) (sub_D (sb_9__0c43_0c31 a1 k1 q3) hD3) 1 0 rfl rfl rfl) rfl rfl hl.1 rfl (lv_room (Nat.le_of_ble_eq_true rfl)) dX9_bill_26 ⟨Nat.le_refl _, Nat.le_refl _⟩) hS3 (fun q _ h => (sub_F (sb_9__0c43_0c31 a1 k1 q3) hD3 hS3 hA) q h) (sub_F (sb_9__0c43_0c31 a1 k1 q3) hD3 hS3 hA) (fun r4 v4 t4 H4 locs4 ht4 hvm4 hw4 hB4 hz4 hk4 hS4 => ?_)
    obtain rfl : r4 = q4.1 := (congrArg Prod.fst hw4).symm
    obtain rfl : v4 = q4.2 := (congrArg Prod.snd hw4).symm
    obtain ⟨hP4, hD4⟩ := jn_sub (sb_9__0c43_0c31 a1 k1 q3) (jo_9__0c43_0c31__0 a1 k1 q3 q4.2) rfl hP3 hD3 hk4 ht4 hB4
    have hP4 : va_P (dC, dI) vwCl (zc_9 a1 k1 (q3.1, q3.2.1, q3.2.2.1, q3.2.2.2.1, q3.2.2.2.2.1, q3.2.2.2.2.2.1, q4.2, q3.2.2.2.2.2.2.2)) H4 := hP4
    have hD4 : va_D A (zc_9 a1 k1 (q3.1, q3.2.1, q3.2.2.1, q3.2.2.2.1, q3.2.2.2.2.1, q3.2.2.2.2.2.1, q4.2, q3.2.2.2.2.2.2.2)) := hD4
    clear hP3 hD3 hS3 hB4 hk4 hvm4 hz4 ht4
    refine lv_if_ne (tgt := 35) hx hb dX9_bill_29 (by decide) (fun c5 => ?_) (fun c5 => ?_)
    · replace hR := ifn_ hR c5
      refine lv_aload_n hx hb dX9_bill_35 rfl (lv_at hl 0 rfl) ?_
      have hR0 := ob_ok hR
      clear hR
      obtain ⟨q6, hq6, hR⟩ := hR0
      refine va_callv (va_runV (As := []) (rest := []) ⟨hx, hb, hml, hown, hts⟩ (cc_X9_takeOver l dC dI fu a1 k1 H4.size (q3.1, q3.2.1, q3.2.2.1, q3.2.2.2.1, q3.2.2.2.2.1, q3.2.2.2.2.2.1, q4.2, q3.2.2.2.2.2.2.2) q6 hq6) (cwV 0 hts gX9_bill_X9_takeOver rfl rfl rfl (by decide +kernel) ⟨Nat.le_of_ble_eq_true rfl, Nat.le_of_ble_eq_true rfl⟩) (pf_v hK hP4 hD4 9 0 rfl rfl rfl) rfl rfl hl.1 rfl (lv_room (Nat.le_of_ble_eq_true rfl)) dX9_bill_36 ⟨Nat.le_refl _, Nat.le_refl _⟩) hS4 (fun q _ h => (fr_all hD4 hS4 hA) q h) (fr_all hD4 hS4 hA) (fun v6 t6 H6 locs6 ht6 hvm6 hw6 hB6 hz6 hk6 hS6 => ?_)
      subst hw6
      obtain ⟨hP6, hD6⟩ := jn_all hD4 hS4 hA ht6 hB6
      have hP6 : va_P (dC, dI) vwCl (zc_9 a1 k1 q6) H6 := hP6
      have hD6 : va_D A (zc_9 a1 k1 q6) := hD6
      clear hP4 hD4 hS4 hB6 hk6 hvm6 hz6 ht6
      refine lv_aload_n hx hb dX9_bill_39 rfl (lv_at hl 0 rfl) ?_
      refine va_get (D := (dC, dI)) (ci := 9) (v := .ref (a1 43)) (C := RX9) (T := TX9) (N := 14) hx hb hts hin9 hown hK hP6 0 rfl rfl 6 (by decide) (hts (.fieldLink RX9 36 "OldestCoins" "board" "LOldestCoins$Board;") (List.mem_of_getElem? (i := 1) rfl)) (fun _ h9 => h9) rfl dX9_bill_40 ?_
      refine va_get (D := (dC, dI)) (ci := 1) (v := .int q6.2.2.2.2.2.2.1.2.2.2.1) (C := RX1) (T := TX1) (N := 5) hx hb hts hin1 hown hK hP6 43 rfl rfl 3 (by decide) (hts (.fieldLink RX9 211 "OldestCoins$Board" "due" "I") (List.mem_of_getElem? (i := 3) rfl)) (fun _ h9 => h9) rfl dX9_bill_43 ?_
      refine lv_aload_n hx hb dX9_bill_46 rfl (lv_at hl 0 rfl) ?_
      refine va_get (D := (dC, dI)) (ci := 9) (v := .ref (a1 43)) (C := RX9) (T := TX9) (N := 14) hx hb hts hin9 hown hK hP6 0 rfl rfl 6 (by decide) (hts (.fieldLink RX9 36 "OldestCoins" "board" "LOldestCoins$Board;") (List.mem_of_getElem? (i := 1) rfl)) (fun _ h9 => h9) rfl dX9_bill_47 ?_
      refine va_get (D := (dC, dI)) (ci := 1) (v := .int q6.2.2.2.2.2.2.1.2.2.2.2) (C := RX1) (T := TX1) (N := 5) hx hb hts hin1 hown hK hP6 43 rfl rfl 4 (by decide) (hts (.fieldLink RX9 214 "OldestCoins$Board" "lacking" "I") (List.mem_of_getElem? (i := 4) rfl)) (fun _ h9 => h9) rfl dX9_bill_50 ?_
      refine lv_isub hx hb dX9_bill_53 ?_
      subst hQe
      exact W.iret (v := (q6.2.2.2.2.2.2.1.2.2.2.1 - q6.2.2.2.2.2.2.1.2.2.2.2)) hx hb hr (fun t ht hW => ⟨⟨(q6.2.2.2.2.2.2.1.2.2.2.1 - q6.2.2.2.2.2.2.1.2.2.2.2), q6, rfl, (Option.some.inj hR).symm, by rw [ht]; exact hP6, va_K.moved hW.alike hK, hD6⟩, hS6.F ht⟩) hS6.2.2 dX9_bill_54
    · replace hR := ifp_ hR c5
      refine lv_bipush (v := (-2 : Int32)) hx hb dX9_bill_32 (by decide) ?_
      subst hQe
      exact W.iret (v := (-2 : Int32)) hx hb hr (fun t ht hW => ⟨⟨(-2 : Int32), (q3.1, q3.2.1, q3.2.2.1, q3.2.2.2.1, q3.2.2.2.2.1, q3.2.2.2.2.2.1, q4.2, q3.2.2.2.2.2.2.2), rfl, (Option.some.inj hR).symm, by rw [ht]; exact hP4, va_K.moved hW.alike hK, hD4⟩, hS4.F ht⟩) hS4.2.2 dX9_bill_34
  · replace hR := ifp_ hR c2
    refine lv_iconst (v := (-1 : Int32)) hx hb dX9_bill_9 (by decide) ?_
    subst hQe
    exact W.iret (v := (-1 : Int32)) hx hb hr (fun t ht hW => ⟨⟨(-1 : Int32), s1, rfl, (Option.some.inj hR).symm, by rw [ht]; exact hP1, va_K.moved hW.alike hK, hD1⟩, hS1.F ht⟩) hS1.2.2 dX9_bill_10
def rr_X9_count (fu : Nat) (x1 : Int32) (s1 : ZT_9) : Option (Int32) := (if x1 = (0 : Int32) then some s1.1.2.1.1 else if x1 = (1 : Int32) then (rr_X2_worthOfAll fu 40 s1.1.2.1).bind (fun q2 => some q2) else if x1 = (2 : Int32) then some s1.1.2.2.1.1 else if x1 = (3 : Int32) then some s1.1.2.2.2.1 else some (-1 : Int32))
set_option maxRecDepth 100000 in
theorem sb_9__0c2 (a1 : Nat → Nat) (k1 : Nat → ClassId) (s1 : ZT_9) : List.Perm (zc_9 a1 k1 s1) ((zc_2 (sh_ (sh_ a1 1) 1) (sh_ (sh_ k1 1) 1) 40 s1.1.2.1) ++ ([(a1 0, .inr (9, [.ref (a1 1), .ref (a1 16), .int s1.2.2.1, .ref (a1 31), .int s1.2.2.2.2.1, .ref (a1 37), .ref (a1 43), .ref (a1 45), .ref (a1 47), .ref (a1 50), .ref (a1 54), .ref (a1 56), .ref (a1 62), .ref (a1 66)]))] ++ (([((sh_ a1 1) 0, .inr (8, [.int s1.1.1, .ref ((sh_ a1 1) 1), .ref ((sh_ a1 1) 7), .ref ((sh_ a1 1) 11)]))] ++ (([] : va_W) ++ (zc_0 (sh_ (sh_ a1 1) 7) (sh_ (sh_ k1 1) 7) 24 s1.1.2.2.1 ++ zc_0 (sh_ (sh_ a1 1) 11) (sh_ (sh_ k1 1) 11) 6 s1.1.2.2.2))) ++ (zc_8 (sh_ a1 16) (sh_ k1 16) s1.2.1 ++ (zc_4 (sh_ a1 31) (sh_ k1 31) s1.2.2.2.1 ++ (zc_4 (sh_ a1 37) (sh_ k1 37) s1.2.2.2.2.2.1 ++ (zc_1 (sh_ a1 43) (sh_ k1 43) s1.2.2.2.2.2.2.1 ++ (zc_1 (sh_ a1 45) (sh_ k1 45) s1.2.2.2.2.2.2.2.1 ++ (zc_7 (sh_ a1 47) (sh_ k1 47) s1.2.2.2.2.2.2.2.2.1 ++ (zc_3 (sh_ a1 50) (sh_ k1 50) s1.2.2.2.2.2.2.2.2.2.1 ++ (zc_6 (sh_ a1 54) (sh_ k1 54) s1.2.2.2.2.2.2.2.2.2.2.1 ++ (zc_2 (sh_ a1 56) (sh_ k1 56) 10 s1.2.2.2.2.2.2.2.2.2.2.2.1 ++ (zc_0 (sh_ a1 62) (sh_ k1 62) 24 s1.2.2.2.2.2.2.2.2.2.2.2.2.1 ++ zc_5 (sh_ a1 66) (sh_ k1 66) s1.2.2.2.2.2.2.2.2.2.2.2.2.2))))))))))))) := (pu_r ([(a1 0, .inr (9, [.ref (a1 1), .ref (a1 16), .int s1.2.2.1, .ref (a1 31), .int s1.2.2.2.2.1, .ref (a1 37), .ref (a1 43), .ref (a1 45), .ref (a1 47), .ref (a1 50), .ref (a1 54), .ref (a1 56), .ref (a1 62), .ref (a1 66)]))]) (pu_l ((zc_8 (sh_ a1 16) (sh_ k1 16) s1.2.1 ++ (zc_4 (sh_ a1 31) (sh_ k1 31) s1.2.2.2.1 ++ (zc_4 (sh_ a1 37) (sh_ k1 37) s1.2.2.2.2.2.1 ++ (zc_1 (sh_ a1 43) (sh_ k1 43) s1.2.2.2.2.2.2.1 ++ (zc_1 (sh_ a1 45) (sh_ k1 45) s1.2.2.2.2.2.2.2.1 ++ (zc_7 (sh_ a1 47) (sh_ k1 47) s1.2.2.2.2.2.2.2.2.1 ++ (zc_3 (sh_ a1 50) (sh_ k1 50) s1.2.2.2.2.2.2.2.2.2.1 ++ (zc_6 (sh_ a1 54) (sh_ k1 54) s1.2.2.2.2.2.2.2.2.2.2.1 ++ (zc_2 (sh_ a1 56) (sh_ k1 56) 10 s1.2.2.2.2.2.2.2.2.2.2.2.1 ++ (zc_0 (sh_ a1 62) (sh_ k1 62) 24 s1.2.2.2.2.2.2.2.2.2.2.2.2.1 ++ zc_5 (sh_ a1 66) (sh_ k1 66) s1.2.2.2.2.2.2.2.2.2.2.2.2.2))))))))))) (pu_r ([((sh_ a1 1) 0, .inr (8, [.int s1.1.1, .ref ((sh_ a1 1) 1), .ref ((sh_ a1 1) 7), .ref ((sh_ a1 1) 11)]))]) (pu_l ((zc_0 (sh_ (sh_ a1 1) 7) (sh_ (sh_ k1 1) 7) 24 s1.1.2.2.1 ++ zc_0 (sh_ (sh_ a1 1) 11) (sh_ (sh_ k1 1) 11) 6 s1.1.2.2.2)) (pu_1 (zc_2 (sh_ (sh_ a1 1) 1) (sh_ (sh_ k1 1) 1) 40 s1.1.2.1))))))
set_option maxRecDepth 100000 in
theorem jo_9__0c2__ (a1 : Nat → Nat) (k1 : Nat → ClassId) (s1 : ZT_9) : List.Perm (zc_9 a1 k1 s1) ((zc_2 (sh_ (sh_ a1 1) 1) (sh_ (sh_ k1 1) 1) 40 s1.1.2.1) ++ ([(a1 0, .inr (9, [.ref (a1 1), .ref (a1 16), .int s1.2.2.1, .ref (a1 31), .int s1.2.2.2.2.1, .ref (a1 37), .ref (a1 43), .ref (a1 45), .ref (a1 47), .ref (a1 50), .ref (a1 54), .ref (a1 56), .ref (a1 62), .ref (a1 66)]))] ++ (([((sh_ a1 1) 0, .inr (8, [.int s1.1.1, .ref ((sh_ a1 1) 1), .ref ((sh_ a1 1) 7), .ref ((sh_ a1 1) 11)]))] ++ (([] : va_W) ++ (zc_0 (sh_ (sh_ a1 1) 7) (sh_ (sh_ k1 1) 7) 24 s1.1.2.2.1 ++ zc_0 (sh_ (sh_ a1 1) 11) (sh_ (sh_ k1 1) 11) 6 s1.1.2.2.2))) ++ (zc_8 (sh_ a1 16) (sh_ k1 16) s1.2.1 ++ (zc_4 (sh_ a1 31) (sh_ k1 31) s1.2.2.2.1 ++ (zc_4 (sh_ a1 37) (sh_ k1 37) s1.2.2.2.2.2.1 ++ (zc_1 (sh_ a1 43) (sh_ k1 43) s1.2.2.2.2.2.2.1 ++ (zc_1 (sh_ a1 45) (sh_ k1 45) s1.2.2.2.2.2.2.2.1 ++ (zc_7 (sh_ a1 47) (sh_ k1 47) s1.2.2.2.2.2.2.2.2.1 ++ (zc_3 (sh_ a1 50) (sh_ k1 50) s1.2.2.2.2.2.2.2.2.2.1 ++ (zc_6 (sh_ a1 54) (sh_ k1 54) s1.2.2.2.2.2.2.2.2.2.2.1 ++ (zc_2 (sh_ a1 56) (sh_ k1 56) 10 s1.2.2.2.2.2.2.2.2.2.2.2.1 ++ (zc_0 (sh_ a1 62) (sh_ k1 62) 24 s1.2.2.2.2.2.2.2.2.2.2.2.2.1 ++ zc_5 (sh_ a1 66) (sh_ k1 66) s1.2.2.2.2.2.2.2.2.2.2.2.2.2))))))))))))) := (pu_r ([(a1 0, .inr (9, [.ref (a1 1), .ref (a1 16), .int s1.2.2.1, .ref (a1 31), .int s1.2.2.2.2.1, .ref (a1 37), .ref (a1 43), .ref (a1 45), .ref (a1 47), .ref (a1 50), .ref (a1 54), .ref (a1 56), .ref (a1 62), .ref (a1 66)]))]) (pu_l ((zc_8 (sh_ a1 16) (sh_ k1 16) s1.2.1 ++ (zc_4 (sh_ a1 31) (sh_ k1 31) s1.2.2.2.1 ++ (zc_4 (sh_ a1 37) (sh_ k1 37) s1.2.2.2.2.2.1 ++ (zc_1 (sh_ a1 43) (sh_ k1 43) s1.2.2.2.2.2.2.1 ++ (zc_1 (sh_ a1 45) (sh_ k1 45) s1.2.2.2.2.2.2.2.1 ++ (zc_7 (sh_ a1 47) (sh_ k1 47) s1.2.2.2.2.2.2.2.2.1 ++ (zc_3 (sh_ a1 50) (sh_ k1 50) s1.2.2.2.2.2.2.2.2.2.1 ++ (zc_6 (sh_ a1 54) (sh_ k1 54) s1.2.2.2.2.2.2.2.2.2.2.1 ++ (zc_2 (sh_ a1 56) (sh_ k1 56) 10 s1.2.2.2.2.2.2.2.2.2.2.2.1 ++ (zc_0 (sh_ a1 62) (sh_ k1 62) 24 s1.2.2.2.2.2.2.2.2.2.2.2.2.1 ++ zc_5 (sh_ a1 66) (sh_ k1 66) s1.2.2.2.2.2.2.2.2.2.2.2.2.2))))))))))) (pu_r ([((sh_ a1 1) 0, .inr (8, [.int s1.1.1, .ref ((sh_ a1 1) 1), .ref ((sh_ a1 1) 7), .ref ((sh_ a1 1) 11)]))]) (pu_l ((zc_0 (sh_ (sh_ a1 1) 7) (sh_ (sh_ k1 1) 7) 24 s1.1.2.2.1 ++ zc_0 (sh_ (sh_ a1 1) 11) (sh_ (sh_ k1 1) 11) 6 s1.1.2.2.2)) (pu_1 (zc_2 (sh_ (sh_ a1 1) 1) (sh_ (sh_ k1 1) 1) 40 s1.1.2.1))))))
set_option maxHeartbeats 4000000 in
set_option maxRecDepth 100000 in
theorem cc_X9_count (l : Launch) (dC : Nat → ClassId) (dI : Nat → Nat → Nat) (fu : Nat) (a1 : Nat → Nat) (k1 : Nat → ClassId) (sz : Nat) (x1 : Int32) (s1 : ZT_9) (res : Int32) (hR : rr_X9_count fu x1 s1 = some res) : Met l yX9_count wsX9_count ({ frames := 1, cells := 0, slots := 0, locals := 22 } : Room) (PcF [.ref (a1 0), .int x1] sz (dC, dI) (zc_9 a1 k1 s1) (zt_9 k1)) (va_Qi (fun (r : Int32) (u : Unit) => res = r) (fun u t => at3_ (dC, dI) (zc_9 a1 k1 s1) (zt_9 k1) (va_A (zc_9 a1 k1 s1) sz) t) (va_A (zc_9 a1 k1 s1) sz)) 0 0 (va_A (zc_9 a1 k1 s1) sz) := by
  refine Met.ofW (cc := cX9_count) (maxL := 2) (ret := (some .int)) (by decide) rfl ?_
  intro p e s m args below meth c s₁ B hml hv
  obtain ⟨hav, hsz, hP, hK, hD0⟩ := hv
  have hx := B.exec
  have hb := B.bytes
  have hr := B.returns
  have hts := atoms_spec (ws := wsX9_count) B.pre
  have hown : s.vm.findClass RX9 = some m.cls := findClass_of_methodNamed B.named
  have hlocks := B.notSynchronized
  have hin0 : ∀ w ∈ wsX00, w ∈ wsX9_count := fun w h => List.mem_cons_of_mem _ (List.mem_append_right _ h)
  have hin2 : ∀ w ∈ wsX20, w ∈ wsX9_count := fun w h => List.mem_cons_of_mem _ (List.mem_append_left _ (List.mem_append_right _ h))
  have hin8 : ∀ w ∈ wsX80, w ∈ wsX9_count := fun w h => List.mem_cons_of_mem _ (List.mem_append_left _ (List.mem_append_left _ (List.mem_append_right _ h)))
  have hin9 : ∀ w ∈ wsX90, w ∈ wsX9_count := fun w h => List.mem_cons_of_mem _ (List.mem_append_left _ (List.mem_append_left _ (List.mem_append_left _ (List.mem_append_right _ h))))
  subst hsz
  have hD := hD0.self (sz := s.heap.size)
  clear hD0
  generalize hAe : va_A (zc_9 a1 k1 s1) s.heap.size = A at hD ⊢
  have hA : ∀ q : Nat, s.heap.size ≤ q → A q := fun q h => by rw [← hAe]; exact Or.inr h
  have hS : va_S A s.heap s.heap [] := va_S.rf
  generalize hQe : MQ below _ args s 0 0 A = Q
  rw [show entryFrame m args 2 = F0 m 0 ((lg_sl ([.ref (a1 0), .int x1]) ++ List.replicate (2 - (lg_sl ([.ref (a1 0), .int x1])).length) Slot.unset).toArray) [] from by rw [hav]; exact lg_entry_eq m _ _]
  have hl := lv_entry ([.ref (a1 0), .int x1]) (n := 2) (Nat.le_of_ble_eq_true rfl)
  generalize (lg_sl ([.ref (a1 0), .int x1]) ++ List.replicate (2 - (lg_sl ([.ref (a1 0), .int x1])).length) Slot.unset).toArray = ls at hl ⊢
  have hl : lv_has ls 2 [(0, .ref (a1 0)), (1, .int x1)] := hl
  unfold rr_X9_count at hR
  refine lv_iload_n hx hb dX9_count_0 rfl (lv_at hl 1 rfl) ?_
  by_cases c1_0 : x1 = (0 : Int32)
  · replace hR := ifp_ hR c1_0
    refine lv_tableIn (tgt := 32) (off := 31) hx hb dX9_count_1 (by rw [c1_0]; decide) (by rw [c1_0]; decide) (by rw [c1_0]; decide) (by decide) ?_
    refine lv_aload_n hx hb dX9_count_32 rfl (lv_at hl 0 rfl) ?_
    refine va_get (D := (dC, dI)) (ci := 9) (v := .ref (a1 1)) (C := RX9) (T := TX9) (N := 14) hx hb hts hin9 hown hK hP 0 rfl rfl 0 (by decide) (hts (.fieldLink RX9 10 "OldestCoins" "town" "LOldestCoins$Town;") (List.mem_of_getElem? (i := 1) rfl)) (fun _ h9 => h9) rfl dX9_count_33 ?_
    refine va_get (D := (dC, dI)) (ci := 8) (v := .ref (a1 2)) (C := RX8) (T := TX8) (N := 4) hx hb hts hin8 hown hK hP 1 rfl rfl 1 (by decide) (hts (.fieldLink RX9 98 "OldestCoins$Town" "coins" "LOldestCoins$Coins;") (List.mem_of_getElem? (i := 2) rfl)) (fun _ h9 => h9) rfl dX9_count_36 ?_
    refine va_get (D := (dC, dI)) (ci := 2) (v := .int s1.1.2.1.1) (C := RX2) (T := TX2) (N := 6) hx hb hts hin2 hown hK hP 2 rfl rfl 0 (by decide) (hts (.fieldLink RX9 101 "OldestCoins$Coins" "size" "I") (List.mem_of_getElem? (i := 3) rfl)) (fun _ h9 => h9) rfl dX9_count_39 ?_
    subst hQe
    exact W.iret (v := s1.1.2.1.1) hx hb hr (fun t ht hW => ⟨⟨s1.1.2.1.1, (), rfl, (Option.some.inj hR).symm, by rw [ht]; exact hP, va_K.moved hW.alike hK, hD⟩, hS.F ht⟩) hS.2.2 dX9_count_42
  replace hR := ifn_ hR c1_0
  by_cases c1_1 : x1 = (1 : Int32)
  · replace hR := ifp_ hR c1_1
    refine lv_tableIn (tgt := 43) (off := 42) hx hb dX9_count_1 (by rw [c1_1]; decide) (by rw [c1_1]; decide) (by rw [c1_1]; decide) (by decide) ?_
    refine lv_aload_n hx hb dX9_count_43 rfl (lv_at hl 0 rfl) ?_
    refine va_get (D := (dC, dI)) (ci := 9) (v := .ref (a1 1)) (C := RX9) (T := TX9) (N := 14) hx hb hts hin9 hown hK hP 0 rfl rfl 0 (by decide) (hts (.fieldLink RX9 10 "OldestCoins" "town" "LOldestCoins$Town;") (List.mem_of_getElem? (i := 1) rfl)) (fun _ h9 => h9) rfl dX9_count_44 ?_
    refine va_get (D := (dC, dI)) (ci := 8) (v := .ref (a1 2)) (C := RX8) (T := TX8) (N := 4) hx hb hts hin8 hown hK hP 1 rfl rfl 1 (by decide) (hts (.fieldLink RX9 98 "OldestCoins$Town" "coins" "LOldestCoins$Coins;") (List.mem_of_getElem? (i := 2) rfl)) (fun _ h9 => h9) rfl dX9_count_47 ?_
    have hR0 := ob_ok hR
    clear hR
    obtain ⟨q2, hq2, hR⟩ := hR0
    refine va_calli (va_runV (As := []) (rest := []) ⟨hx, hb, hml, hown, hts⟩ (cc_X2_worthOfAll l dC dI fu (sh_ (sh_ a1 1) 1) (sh_ (sh_ k1 1) 1) 40 s.heap.size s1.1.2.1 q2 hq2) (cwV 0 hts gX9_count_X2_worthOfAll rfl rfl rfl (by decide +kernel) ⟨Nat.le_of_ble_eq_true rfl, Nat.le_of_ble_eq_true rfl⟩) (pf_v (hK.sub (tys' := zt_2 (sh_ (sh_ k1 1) 1)) [0, 1, 2, 3, 4] rfl) (sub_P (sb_9__0c2 a1 k1 s1) hP) (sub_D (sb_9__0c2 a1 k1 s1) hD) 2 0 rfl rfl rfl) rfl rfl hl.1 rfl (lv_room (Nat.le_of_ble_eq_true rfl)) dX9_count_50 ⟨Nat.le_refl _, Nat.le_refl _⟩) hS (fun q _ h => (sub_F (sb_9__0c2 a1 k1 s1) hD hS hA) q h) (sub_F (sb_9__0c2 a1 k1 s1) hD hS hA) (fun r2 v2 t2 H2 locs2 ht2 hvm2 hw2 hB2 hz2 hk2 hS2 => ?_)
    subst hw2
    obtain ⟨hP2, hD2⟩ := jn_sub (sb_9__0c2 a1 k1 s1) (jo_9__0c2__ a1 k1 s1 ) rfl hP hD hk2 ht2 hB2
    have hP2 : va_P (dC, dI) vwCl (zc_9 a1 k1 s1) H2 := hP2
    have hD2 : va_D A (zc_9 a1 k1 s1) := hD2
    clear hP hD hS hB2 hk2 hvm2 hz2 ht2
    subst hQe
    exact W.iret (v := q2) hx hb hr (fun t ht hW => ⟨⟨q2, (), rfl, (Option.some.inj hR).symm, by rw [ht]; exact hP2, va_K.moved hW.alike hK, hD2⟩, hS2.F ht⟩) hS2.2.2 dX9_count_53
  replace hR := ifn_ hR c1_1
  by_cases c1_2 : x1 = (2 : Int32)
  · replace hR := ifp_ hR c1_2
    refine lv_tableIn (tgt := 54) (off := 53) hx hb dX9_count_1 (by rw [c1_2]; decide) (by rw [c1_2]; decide) (by rw [c1_2]; decide) (by decide) ?_
    refine lv_aload_n hx hb dX9_count_54 rfl (lv_at hl 0 rfl) ?_
    refine va_get (D := (dC, dI)) (ci := 9) (v := .ref (a1 1)) (C := RX9) (T := TX9) (N := 14) hx hb hts hin9 hown hK hP 0 rfl rfl 0 (by decide) (hts (.fieldLink RX9 10 "OldestCoins" "town" "LOldestCoins$Town;") (List.mem_of_getElem? (i := 1) rfl)) (fun _ h9 => h9) rfl dX9_count_55 ?_
    refine va_get (D := (dC, dI)) (ci := 8) (v := .ref (a1 8)) (C := RX8) (T := TX8) (N := 4) hx hb hts hin8 hown hK hP 1 rfl rfl 2 (by decide) (hts (.fieldLink RX9 187 "OldestCoins$Town" "day" "LOldestCoins$Bills;") (List.mem_of_getElem? (i := 4) rfl)) (fun _ h9 => h9) rfl dX9_count_58 ?_
    refine va_get (D := (dC, dI)) (ci := 0) (v := .int s1.1.2.2.1.1) (C := RX0) (T := TX0) (N := 4) hx hb hts hin0 hown hK hP 8 rfl rfl 0 (by decide) (hts (.fieldLink RX9 193 "OldestCoins$Bills" "size" "I") (List.mem_of_getElem? (i := 5) rfl)) (fun _ h9 => h9) rfl dX9_count_61 ?_
    subst hQe
    exact W.iret (v := s1.1.2.2.1.1) hx hb hr (fun t ht hW => ⟨⟨s1.1.2.2.1.1, (), rfl, (Option.some.inj hR).symm, by rw [ht]; exact hP, va_K.moved hW.alike hK, hD⟩, hS.F ht⟩) hS.2.2 dX9_count_64
  replace hR := ifn_ hR c1_2
  by_cases c1_3 : x1 = (3 : Int32)
  · replace hR := ifp_ hR c1_3
    refine lv_tableIn (tgt := 65) (off := 64) hx hb dX9_count_1 (by rw [c1_3]; decide) (by rw [c1_3]; decide) (by rw [c1_3]; decide) (by decide) ?_
    refine lv_aload_n hx hb dX9_count_65 rfl (lv_at hl 0 rfl) ?_
    refine va_get (D := (dC, dI)) (ci := 9) (v := .ref (a1 1)) (C := RX9) (T := TX9) (N := 14) hx hb hts hin9 hown hK hP 0 rfl rfl 0 (by decide) (hts (.fieldLink RX9 10 "OldestCoins" "town" "LOldestCoins$Town;") (List.mem_of_getElem? (i := 1) rfl)) (fun _ h9 => h9) rfl dX9_count_66 ?_
    refine va_get (D := (dC, dI)) (ci := 8) (v := .ref (a1 12)) (C := RX8) (T := TX8) (N := 4) hx hb hts hin8 hown hK hP 1 rfl rfl 3 (by decide) (hts (.fieldLink RX9 198 "OldestCoins$Town" "errands" "LOldestCoins$Bills;") (List.mem_of_getElem? (i := 6) rfl)) (fun _ h9 => h9) rfl dX9_count_69 ?_
    refine va_get (D := (dC, dI)) (ci := 0) (v := .int s1.1.2.2.2.1) (C := RX0) (T := TX0) (N := 4) hx hb hts hin0 hown hK hP 12 rfl rfl 0 (by decide) (hts (.fieldLink RX9 193 "OldestCoins$Bills" "size" "I") (List.mem_of_getElem? (i := 5) rfl)) (fun _ h9 => h9) rfl dX9_count_72 ?_
    subst hQe
    exact W.iret (v := s1.1.2.2.2.1) hx hb hr (fun t ht hW => ⟨⟨s1.1.2.2.2.1, (), rfl, (Option.some.inj hR).symm, by rw [ht]; exact hP, va_K.moved hW.alike hK, hD⟩, hS.F ht⟩) hS.2.2 dX9_count_75
  replace hR := ifn_ hR c1_3
  refine lv_tableOut (tgt := 76) hx hb dX9_count_1 (by have k0 := ne_i 0 (0 : Int32) (by decide) c1_0; have k1 := ne_i 1 (1 : Int32) (by decide) c1_1; have k2 := ne_i 2 (2 : Int32) (by decide) c1_2; have k3 := ne_i 3 (3 : Int32) (by decide) c1_3; omega) (by decide) ?_
  refine lv_iconst (v := (-1 : Int32)) hx hb dX9_count_76 (by decide) ?_
  subst hQe
  exact W.iret (v := (-1 : Int32)) hx hb hr (fun t ht hW => ⟨⟨(-1 : Int32), (), rfl, (Option.some.inj hR).symm, by rw [ht]; exact hP, va_K.moved hW.alike hK, hD⟩, hS.F ht⟩) hS.2.2 dX9_count_77
