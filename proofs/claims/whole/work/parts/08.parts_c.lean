def rr_X7_judge_56_b (fu : Nat) (s2 : ZT_1) (rec56 : Int32 → Int32 → ZT_7 → Option (ZT_7)) (y2 : Int32) (y5 : Int32) (u1 : ZT_7) : Option (ZT_7) := (if y2 ≤ y5 then some u1 else ck_ y5 6 (lt_ (α := Int32) (u1.2.2.2.1 y5.toNatClampNeg) (fun z11 => ck_ y5 6 (lt_ (α := Int32) (y5 + (1 : Int32)) (fun z13 => rec56 y2 z13 (u1.1, u1.2.1, u1.2.2.1, u1.2.2.2.1, (upd u1.2.2.2.2.1 y5.toNatClampNeg z11), u1.2.2.2.2.2))))))
def rr_X7_judge_56 (fu : Nat) (s2 : ZT_1) (n : Nat) : Int32 → Int32 → ZT_7 → Option (ZT_7) := lp_ (fun _ _ _ => none) (rr_X7_judge_56_b fu s2) n
def rr_X7_judge_38 (fu : Nat) (s2 : ZT_1) (y2 : Int32) (y4 : Int32) (u1 : ZT_7) : Option (ZT_7) := (if y4 ≤ u1.2.1 then some u1 else rr_X7_judge_56 fu s2 fu y2 (0 : Int32) (u1.1, y4, u1.2.2))
def rr_X7_judge_36 (fu : Nat) (s2 : ZT_1) (y2 : Int32) (w0 : Int32) (u1 : ZT_7) : Option (ZT_7) := rr_X7_judge_38 fu s2 y2 w0 u1
def rr_X7_judge (fu : Nat) (x2 : Int32) (x3 : Int32) (s1 : ZT_7) (s2 : ZT_1) : Option (ZT_7) := (if (lg_cmp s1.2.2.2.2.2.1 (0 : Int64)) = (0 : Int32) then rr_X7_judge_38 fu s2 x2 x3 s1 else ck_ s1.2.2.2.2.2.2 8 ((if (lg_cmp ((s2.1 s1.2.2.2.2.2.2.toNatClampNeg) &&& s1.2.2.2.2.2.1) (0 : Int64)) = (0 : Int32) then rr_X7_judge_36 fu s2 x2 (0 : Int32) s1 else rr_X7_judge_36 fu s2 x2 (1 : Int32) s1)))
set_option maxHeartbeats 4000000 in
set_option maxRecDepth 100000 in
theorem cc_X7_judge (l : Launch) (dC : Nat → ClassId) (dI : Nat → Nat → Nat) (fu : Nat) (a1 : Nat → Nat) (a2 : Nat → Nat) (k1 : Nat → ClassId) (k2 : Nat → ClassId) (sz : Nat) (x2 : Int32) (x3 : Int32) (s1 : ZT_7) (s2 : ZT_1) (res : ZT_7) (hR : rr_X7_judge fu x2 x3 s1 s2 = some res) : Met l yX7_judge wsX7_judge ({ frames := 0, cells := 0, slots := 0, locals := 0 } : Room) (PcF [.ref (a1 0), .ref (a2 0), .int x2, .int x3] sz (dC, dI) (zc_7 a1 k1 s1 ++ zc_1 a2 k2 s2) (zt_7 k1 ++ zt_1 k2)) (va_Qv (fun u : ZT_7 => res = u) (fun u t => at3_ (dC, dI) (zc_7 a1 k1 u ++ zc_1 a2 k2 s2) (zt_7 k1 ++ zt_1 k2) (va_A (zc_7 a1 k1 s1 ++ zc_1 a2 k2 s2) sz) t) (va_A (zc_7 a1 k1 s1 ++ zc_1 a2 k2 s2) sz)) 0 0 (va_A (zc_7 a1 k1 s1 ++ zc_1 a2 k2 s2) sz) := by
  refine Met.ofW (cc := cX7_judge) (maxL := 6) (ret := none) (by decide) rfl ?_
  intro p e s m args below meth c s₁ B hml hv
  obtain ⟨hav, hsz, hP, hK, hD0⟩ := hv
  have hx := B.exec
  have hb := B.bytes
  have hr := B.returns
  have hts := atoms_spec (ws := wsX7_judge) B.pre
  have hown : s.vm.findClass RX7 = some m.cls := findClass_of_methodNamed B.named
  have hlocks := B.notSynchronized
  have hin1 : ∀ w ∈ wsX10, w ∈ wsX7_judge := fun w h => List.mem_cons_of_mem _ (List.mem_append_right _ h)
  have hin7 : ∀ w ∈ wsX70, w ∈ wsX7_judge := fun w h => List.mem_cons_of_mem _ (List.mem_append_left _ (List.mem_append_right _ h))
  subst hsz
  have hD := hD0.self (sz := s.heap.size)
  clear hD0
  generalize hAe : va_A (zc_7 a1 k1 s1 ++ zc_1 a2 k2 s2) s.heap.size = A at hD ⊢
  have hA : ∀ q : Nat, s.heap.size ≤ q → A q := fun q h => by rw [← hAe]; exact Or.inr h
  have hS : va_S A s.heap s.heap [] := va_S.rf
  generalize hQe : MQ below _ args s 0 0 A = Q
  rw [show entryFrame m args 6 = F0 m 0 ((lg_sl ([.ref (a1 0), .ref (a2 0), .int x2, .int x3]) ++ List.replicate (6 - (lg_sl ([.ref (a1 0), .ref (a2 0), .int x2, .int x3])).length) Slot.unset).toArray) [] from by rw [hav]; exact lg_entry_eq m _ _]
  have hl := lv_entry ([.ref (a1 0), .ref (a2 0), .int x2, .int x3]) (n := 6) (Nat.le_of_ble_eq_true rfl)
  generalize (lg_sl ([.ref (a1 0), .ref (a2 0), .int x2, .int x3]) ++ List.replicate (6 - (lg_sl ([.ref (a1 0), .ref (a2 0), .int x2, .int x3])).length) Slot.unset).toArray = ls at hl ⊢
  have hl : lv_has ls 6 [(0, .ref (a1 0)), (1, .ref (a2 0)), (2, .int x2), (3, .int x3)] := hl
  have hB56 : ∀ (n : Nat), ∀ (y2 : Int32) (y5 : Int32) (u1 : ZT_7) (H : Heap) (locs : List Loc) (ls : Array Slot), va_P (dC, dI) vwCl (zc_7 a1 k1 u1 ++ zc_1 a2 k2 s2) H → va_D A (zc_7 a1 k1 u1 ++ zc_1 a2 k2 s2) → va_S A s.heap H locs → lv_has ls 6 [(0, .ref (a1 0)), (2, .int y2), (5, .int y5)] → rr_X7_judge_56 fu s2 n y2 y5 u1 = some res → W p l e ({ frames := 0, cells := 0, slots := 0, locals := 0 } : Room) s m args below meth c H locs 0 0 Q (F0 m 56 ls []) := by
    intro  n
    induction n with
    | zero => intro y2 y5 u1 H locs ls hP hD hS hl hR; exact absurd hR (by intro h; cases h)
    | succ n ih =>
      intro y2 y5 u1 H locs ls hP hD hS hl hR
      replace hR : rr_X7_judge_56_b fu s2 (rr_X7_judge_56 fu s2 n) y2 y5 u1 = some res := hR
      unfold rr_X7_judge_56_b at hR
      refine lv_iload hx hb dX7_judge_56 (lv_at hl 2 rfl) ?_
      refine lv_iload_n hx hb dX7_judge_58 rfl (lv_at hl 1 rfl) ?_
      refine lv_icmp_ge (tgt := 82) hx hb dX7_judge_59 (by decide) (fun c9 => ?_) (fun c9 => ?_)
      · replace hR := ifp_ hR c9
        subst hQe
        exact W.vret hx hb hr (fun t ht hW => ⟨⟨u1, rfl, (Option.some.inj hR).symm, by rw [ht]; exact hP, va_K.moved hW.alike hK, hD⟩, hS.F ht⟩) hS.2.2 dX7_judge_82
      · replace hR := ifn_ hR c9
        refine lv_aload_n hx hb dX7_judge_62 rfl (lv_at hl 0 rfl) ?_
        refine va_get (D := (dC, dI)) (ci := 7) (v := .ref (a1 2)) (C := RX7) (T := TX7) (N := 7) hx hb hts hin7 hown hK hP 0 rfl rfl 4 (by decide) (hts (.fieldLink RX7 15 "OldestCoins$Tour" "found" "[I") (List.mem_of_getElem? (i := 5) rfl)) (fun _ h9 => h9) rfl dX7_judge_63 ?_
        refine lv_iload hx hb dX7_judge_66 (lv_at hl 2 rfl) ?_
        refine lv_aload_n hx hb dX7_judge_68 rfl (lv_at hl 0 rfl) ?_
        refine va_get (D := (dC, dI)) (ci := 7) (v := .ref (a1 1)) (C := RX7) (T := TX7) (N := 7) hx hb hts hin7 hown hK hP 0 rfl rfl 3 (by decide) (hts (.fieldLink RX7 9 "OldestCoins$Tour" "path" "[I") (List.mem_of_getElem? (i := 6) rfl)) (fun _ h9 => h9) rfl dX7_judge_69 ?_
        refine lv_iload hx hb dX7_judge_72 (lv_at hl 2 rfl) ?_
        have i10 := (ck_ok hR).1
        replace hR := (ck_ok hR).2
        refine va_iald (f := u1.2.2.2.1) hx hb hK hP 1 0 rfl rfl i10 dX7_judge_74 ?_
        refine lv_topi (fun z11 ez11 => ?_)
        replace hR := lt_ok hR ez11
        have i12 := (ck_ok hR).1
        replace hR := (ck_ok hR).2
        refine va_iast (f := u1.2.2.2.2.1) hx hb hK hP hD hS 2 1 rfl rfl i12 dX7_judge_75 (fun H12 locs12 hP12 hD12 hS12 => ?_)
        have hP12 : va_P (dC, dI) vwCl (zc_7 a1 k1 (u1.1, u1.2.1, u1.2.2.1, u1.2.2.2.1, (upd u1.2.2.2.2.1 y5.toNatClampNeg z11), u1.2.2.2.2.2) ++ zc_1 a2 k2 s2) H12 := hP12
        have hD12 : va_D A (zc_7 a1 k1 (u1.1, u1.2.1, u1.2.2.1, u1.2.2.2.1, (upd u1.2.2.2.2.1 y5.toNatClampNeg z11), u1.2.2.2.2.2) ++ zc_1 a2 k2 s2) := hD12
        clear hP hD hS
        obtain ⟨z13, ez13⟩ : ∃ y : Int32, y = (y5 + (1 : Int32)) := ⟨_, rfl⟩
        replace hR := lt_ok hR ez13
        refine lv_iinc (v := z13) (lv' := [(5, .int z13), (0, .ref (a1 0)), (2, .int y2)]) hx hb dX7_judge_76 hl (k := 2) rfl (by rw [ez13]; rfl) (by decide) rfl (fun ls13 hl13 => ?_)
        refine lv_goto (tgt := 56) hx hb dX7_judge_79 (by decide) ?_
        exact ih y2 z13 (u1.1, u1.2.1, u1.2.2.1, u1.2.2.2.1, (upd u1.2.2.2.2.1 y5.toNatClampNeg z11), u1.2.2.2.2.2) H12 locs12 ls13 hP12 hD12 hS12 (lv_sub hl13 [1, 2, 0] rfl) hR
  have hB38 : ∀ (y2 : Int32) (y4 : Int32) (u1 : ZT_7) (H : Heap) (locs : List Loc) (ls : Array Slot), va_P (dC, dI) vwCl (zc_7 a1 k1 u1 ++ zc_1 a2 k2 s2) H → va_D A (zc_7 a1 k1 u1 ++ zc_1 a2 k2 s2) → va_S A s.heap H locs → lv_has ls 6 [(0, .ref (a1 0)), (2, .int y2), (4, .int y4)] → rr_X7_judge_38 fu s2 y2 y4 u1 = some res → W p l e ({ frames := 0, cells := 0, slots := 0, locals := 0 } : Room) s m args below meth c H locs 0 0 Q (F0 m 38 ls []) := by
    intro  y2 y4 u1 H locs ls hP hD hS hl hR
    unfold rr_X7_judge_38 at hR
    refine lv_iload hx hb dX7_judge_38 (lv_at hl 2 rfl) ?_
    refine lv_aload_n hx hb dX7_judge_40 rfl (lv_at hl 0 rfl) ?_
    refine va_get (D := (dC, dI)) (ci := 7) (v := .int u1.2.1) (C := RX7) (T := TX7) (N := 7) hx hb hts hin7 hown hK hP 0 rfl rfl 1 (by decide) (hts (.fieldLink RX7 29 "OldestCoins$Tour" "best" "I") (List.mem_of_getElem? (i := 4) rfl)) (fun _ h9 => h9) rfl dX7_judge_41 ?_
    refine lv_icmp_le (tgt := 82) hx hb dX7_judge_44 (by decide) (fun c5 => ?_) (fun c5 => ?_)
    · replace hR := ifp_ hR c5
      subst hQe
      exact W.vret hx hb hr (fun t ht hW => ⟨⟨u1, rfl, (Option.some.inj hR).symm, by rw [ht]; exact hP, va_K.moved hW.alike hK, hD⟩, hS.F ht⟩) hS.2.2 dX7_judge_82
    · replace hR := ifn_ hR c5
      refine lv_aload_n hx hb dX7_judge_47 rfl (lv_at hl 0 rfl) ?_
      refine lv_iload hx hb dX7_judge_48 (lv_at hl 2 rfl) ?_
      refine va_put (D := (dC, dI)) (ci := 7) (v := .int y4) (ty := .int) (C := RX7) (T := TX7) (N := 7) hx hb hts hin7 tyX7 tyX7_ok nmX7 hown hK hP hD hS 0 rfl rfl 1 (by decide) (hts (.fieldLink RX7 29 "OldestCoins$Tour" "best" "I") (List.mem_of_getElem? (i := 4) rfl)) (fun _ h9 => h9) rfl (by decide +kernel) rfl rfl (Nat.le_of_ble_eq_true rfl) dX7_judge_50 (fun H6 locs6 hP6 hD6 hS6 => ?_)
      have hP6 : va_P (dC, dI) vwCl (zc_7 a1 k1 (u1.1, y4, u1.2.2) ++ zc_1 a2 k2 s2) H6 := hP6
      have hD6 : va_D A (zc_7 a1 k1 (u1.1, y4, u1.2.2) ++ zc_1 a2 k2 s2) := hD6
      clear hP hD hS
      refine lv_iconst (v := (0 : Int32)) hx hb dX7_judge_53 (by decide) ?_
      refine lv_istore (lv' := [(5, .int (0 : Int32)), (0, .ref (a1 0)), (2, .int y2), (4, .int y4)]) hx hb dX7_judge_54 hl (by decide) rfl (fun ls7 hl7 => ?_)
      exact hB56 fu y2 (0 : Int32) (u1.1, y4, u1.2.2) H6 locs6 ls7 hP6 hD6 hS6 (lv_sub hl7 [1, 2, 0] rfl) hR
  have hB36 : ∀ (y2 : Int32) (w0 : Int32) (u1 : ZT_7) (H : Heap) (locs : List Loc) (ls : Array Slot), va_P (dC, dI) vwCl (zc_7 a1 k1 u1 ++ zc_1 a2 k2 s2) H → va_D A (zc_7 a1 k1 u1 ++ zc_1 a2 k2 s2) → va_S A s.heap H locs → lv_has ls 6 [(0, .ref (a1 0)), (2, .int y2)] → rr_X7_judge_36 fu s2 y2 w0 u1 = some res → W p l e ({ frames := 0, cells := 0, slots := 0, locals := 0 } : Room) s m args below meth c H locs 0 0 Q (F0 m 36 ls [.int w0]) := by
    intro  y2 w0 u1 H locs ls hP hD hS hl hR
    unfold rr_X7_judge_36 at hR
    refine lv_istore (lv' := [(4, .int w0), (0, .ref (a1 0)), (2, .int y2)]) hx hb dX7_judge_36 hl (by decide) rfl (fun ls8 hl8 => ?_)
    exact hB38 y2 w0 u1 H locs ls8 hP hD hS (lv_sub hl8 [1, 2, 0] rfl) hR
  unfold rr_X7_judge at hR
  refine lv_iload_n hx hb dX7_judge_0 rfl (lv_at hl 3 rfl) ?_
  refine lv_istore (lv' := [(4, .int x3), (0, .ref (a1 0)), (1, .ref (a2 0)), (2, .int x2), (3, .int x3)]) hx hb dX7_judge_1 hl (by decide) rfl (fun ls1 hl1 => ?_)
  refine lv_aload_n hx hb dX7_judge_3 rfl (lv_at hl1 1 rfl) ?_
  refine va_get (D := (dC, dI)) (ci := 7) (v := .long s1.2.2.2.2.2.1) (C := RX7) (T := TX7) (N := 7) hx hb hts hin7 hown hK hP 0 rfl rfl 5 (by decide) (hts (.fieldLink RX7 22 "OldestCoins$Tour" "wanted" "J") (List.mem_of_getElem? (i := 1) rfl)) (fun _ h9 => h9) rfl dX7_judge_4 ?_
  refine lv_lconst (v := (0 : Int64)) hx hb dX7_judge_7 (by decide) ?_
  refine W.lcmp hx hb dX7_judge_8 ?_
  refine lv_if_eq (tgt := 38) hx hb dX7_judge_9 (by decide) (fun c2 => ?_) (fun c2 => ?_)
  · replace hR := ifp_ hR c2
    exact hB38 x2 x3 s1 s.heap [] ls1 hP hD hS (lv_sub hl1 [1, 3, 0] rfl) hR
  · replace hR := ifn_ hR c2
    refine lv_aload_n hx hb dX7_judge_12 rfl (lv_at hl1 2 rfl) ?_
    refine va_get (D := (dC, dI)) (ci := 1) (v := .ref (a2 1)) (C := RX1) (T := TX1) (N := 5) hx hb hts hin1 hown hK hP 3 rfl rfl 0 (by decide) (hts (.fieldLink RX7 35 "OldestCoins$Board" "had" "[J") (List.mem_of_getElem? (i := 2) rfl)) (fun _ h9 => h9) rfl dX7_judge_13 ?_
    refine lv_aload_n hx hb dX7_judge_16 rfl (lv_at hl1 1 rfl) ?_
    refine va_get (D := (dC, dI)) (ci := 7) (v := .int s1.2.2.2.2.2.2) (C := RX7) (T := TX7) (N := 7) hx hb hts hin7 hown hK hP 0 rfl rfl 6 (by decide) (hts (.fieldLink RX7 26 "OldestCoins$Tour" "till" "I") (List.mem_of_getElem? (i := 3) rfl)) (fun _ h9 => h9) rfl dX7_judge_17 ?_
    have i3 := (ck_ok hR).1
    replace hR := (ck_ok hR).2
    refine va_lald (f := s2.1) hx hb hK hP 4 2 rfl rfl i3 dX7_judge_20 ?_
    refine lv_aload_n hx hb dX7_judge_21 rfl (lv_at hl1 1 rfl) ?_
    refine va_get (D := (dC, dI)) (ci := 7) (v := .long s1.2.2.2.2.2.1) (C := RX7) (T := TX7) (N := 7) hx hb hts hin7 hown hK hP 0 rfl rfl 5 (by decide) (hts (.fieldLink RX7 22 "OldestCoins$Tour" "wanted" "J") (List.mem_of_getElem? (i := 1) rfl)) (fun _ h9 => h9) rfl dX7_judge_22 ?_
    refine lv_land hx hb dX7_judge_25 ?_
    refine lv_lconst (v := (0 : Int64)) hx hb dX7_judge_26 (by decide) ?_
    refine W.lcmp hx hb dX7_judge_27 ?_
    refine lv_if_eq (tgt := 35) hx hb dX7_judge_28 (by decide) (fun c4 => ?_) (fun c4 => ?_)
    · replace hR := ifp_ hR c4
      refine lv_iconst (v := (0 : Int32)) hx hb dX7_judge_35 (by decide) ?_
      exact hB36 x2 (0 : Int32) s1 s.heap [] ls1 hP hD hS (lv_sub hl1 [1, 3] rfl) hR
    · replace hR := ifn_ hR c4
      refine lv_iconst (v := (1 : Int32)) hx hb dX7_judge_31 (by decide) ?_
      refine lv_goto (tgt := 36) hx hb dX7_judge_32 (by decide) ?_
      exact hB36 x2 (1 : Int32) s1 s.heap [] ls1 hP hD hS (lv_sub hl1 [1, 3] rfl) hR
def rr_X7_mayGetBetter (fu : Nat) (x1 : Int32) (s1 : ZT_7) : Option (Int32) := (if (lg_cmp s1.2.2.2.2.2.1 (0 : Int64)) = (0 : Int32) then (if x1 ≤ s1.2.1 then some (0 : Int32) else some (1 : Int32)) else some (1 : Int32))
set_option maxHeartbeats 4000000 in
set_option maxRecDepth 100000 in
theorem cc_X7_mayGetBetter (l : Launch) (dC : Nat → ClassId) (dI : Nat → Nat → Nat) (fu : Nat) (a1 : Nat → Nat) (k1 : Nat → ClassId) (sz : Nat) (x1 : Int32) (s1 : ZT_7) (res : Int32) (hR : rr_X7_mayGetBetter fu x1 s1 = some res) : Met l yX7_mayGetBetter wsX7_mayGetBetter ({ frames := 0, cells := 0, slots := 0, locals := 0 } : Room) (PcF [.ref (a1 0), .int x1] sz (dC, dI) (zc_7 a1 k1 s1) (zt_7 k1)) (va_Qi (fun (r : Int32) (u : Unit) => res = r) (fun u t => at3_ (dC, dI) (zc_7 a1 k1 s1) (zt_7 k1) (va_A (zc_7 a1 k1 s1) sz) t) (va_A (zc_7 a1 k1 s1) sz)) 0 0 (va_A (zc_7 a1 k1 s1) sz) := by
  refine Met.ofW (cc := cX7_mayGetBetter) (maxL := 2) (ret := (some .boolean)) (by decide) rfl ?_
  intro p e s m args below meth c s₁ B hml hv
  obtain ⟨hav, hsz, hP, hK, hD0⟩ := hv
  have hx := B.exec
  have hb := B.bytes
  have hr := B.returns
  have hts := atoms_spec (ws := wsX7_mayGetBetter) B.pre
  have hown : s.vm.findClass RX7 = some m.cls := findClass_of_methodNamed B.named
  have hlocks := B.notSynchronized
  have hin7 : ∀ w ∈ wsX70, w ∈ wsX7_mayGetBetter := fun w h => List.mem_cons_of_mem _ (List.mem_append_right _ h)
  subst hsz
  have hD := hD0.self (sz := s.heap.size)
  clear hD0
  generalize hAe : va_A (zc_7 a1 k1 s1) s.heap.size = A at hD ⊢
  have hA : ∀ q : Nat, s.heap.size ≤ q → A q := fun q h => by rw [← hAe]; exact Or.inr h
  have hS : va_S A s.heap s.heap [] := va_S.rf
  generalize hQe : MQ below _ args s 0 0 A = Q
  rw [show entryFrame m args 2 = F0 m 0 ((lg_sl ([.ref (a1 0), .int x1]) ++ List.replicate (2 - (lg_sl ([.ref (a1 0), .int x1])).length) Slot.unset).toArray) [] from by rw [hav]; exact lg_entry_eq m _ _]
  have hl := lv_entry ([.ref (a1 0), .int x1]) (n := 2) (Nat.le_of_ble_eq_true rfl)
  generalize (lg_sl ([.ref (a1 0), .int x1]) ++ List.replicate (2 - (lg_sl ([.ref (a1 0), .int x1])).length) Slot.unset).toArray = ls at hl ⊢
  have hl : lv_has ls 2 [(0, .ref (a1 0)), (1, .int x1)] := hl
  unfold rr_X7_mayGetBetter at hR
  refine lv_aload_n hx hb dX7_mayGetBetter_0 rfl (lv_at hl 0 rfl) ?_
  refine va_get (D := (dC, dI)) (ci := 7) (v := .long s1.2.2.2.2.2.1) (C := RX7) (T := TX7) (N := 7) hx hb hts hin7 hown hK hP 0 rfl rfl 5 (by decide) (hts (.fieldLink RX7 22 "OldestCoins$Tour" "wanted" "J") (List.mem_of_getElem? (i := 1) rfl)) (fun _ h9 => h9) rfl dX7_mayGetBetter_1 ?_
  refine lv_lconst (v := (0 : Int64)) hx hb dX7_mayGetBetter_4 (by decide) ?_
  refine W.lcmp hx hb dX7_mayGetBetter_5 ?_
  refine lv_if_ne (tgt := 17) hx hb dX7_mayGetBetter_6 (by decide) (fun c1 => ?_) (fun c1 => ?_)
  · replace hR := ifn_ hR c1
    refine lv_iconst (v := (1 : Int32)) hx hb dX7_mayGetBetter_17 (by decide) ?_
    refine lv_goto (tgt := 22) hx hb dX7_mayGetBetter_18 (by decide) ?_
    subst hQe
    exact W.zret (ty := .boolean) (v := (1 : Int32)) hx hb hr rfl (fun t ht hW => ⟨⟨(1 : Int32), (), rfl, (Option.some.inj hR).symm, by rw [ht]; exact hP, va_K.moved hW.alike hK, hD⟩, hS.F ht⟩) hS.2.2 dX7_mayGetBetter_22
  · replace hR := ifp_ hR c1
    refine lv_iload_n hx hb dX7_mayGetBetter_9 rfl (lv_at hl 1 rfl) ?_
    refine lv_aload_n hx hb dX7_mayGetBetter_10 rfl (lv_at hl 0 rfl) ?_
    refine va_get (D := (dC, dI)) (ci := 7) (v := .int s1.2.1) (C := RX7) (T := TX7) (N := 7) hx hb hts hin7 hown hK hP 0 rfl rfl 1 (by decide) (hts (.fieldLink RX7 29 "OldestCoins$Tour" "best" "I") (List.mem_of_getElem? (i := 2) rfl)) (fun _ h9 => h9) rfl dX7_mayGetBetter_11 ?_
    refine lv_icmp_le (tgt := 21) hx hb dX7_mayGetBetter_14 (by decide) (fun c2 => ?_) (fun c2 => ?_)
    · replace hR := ifp_ hR c2
      refine lv_iconst (v := (0 : Int32)) hx hb dX7_mayGetBetter_21 (by decide) ?_
      subst hQe
      exact W.zret (ty := .boolean) (v := (0 : Int32)) hx hb hr rfl (fun t ht hW => ⟨⟨(0 : Int32), (), rfl, (Option.some.inj hR).symm, by rw [ht]; exact hP, va_K.moved hW.alike hK, hD⟩, hS.F ht⟩) hS.2.2 dX7_mayGetBetter_22
    · replace hR := ifn_ hR c2
      refine lv_iconst (v := (1 : Int32)) hx hb dX7_mayGetBetter_17 (by decide) ?_
      refine lv_goto (tgt := 22) hx hb dX7_mayGetBetter_18 (by decide) ?_
      subst hQe
      exact W.zret (ty := .boolean) (v := (1 : Int32)) hx hb hr rfl (fun t ht hW => ⟨⟨(1 : Int32), (), rfl, (Option.some.inj hR).symm, by rw [ht]; exact hP, va_K.moved hW.alike hK, hD⟩, hS.F ht⟩) hS.2.2 dX7_mayGetBetter_22
def rr_X2_worthOfAll_4_b (fu : Nat) (n1 : Nat) (s1 : ZT_2) (rec4 : Int32 → Int32 → Option (Int32)) (y1 : Int32) (y2 : Int32) : Option (Int32) := (if s1.1 ≤ y2 then some y1 else ck_ y2 n1 (lt_ (α := Int32) (y1 + (s1.2.2.1 y2.toNatClampNeg)) (fun z5 => lt_ (α := Int32) (y2 + (1 : Int32)) (fun z7 => rec4 z5 z7))))
def rr_X2_worthOfAll_4 (fu : Nat) (n1 : Nat) (s1 : ZT_2) (n : Nat) : Int32 → Int32 → Option (Int32) := lp_ (fun _ _ => none) (rr_X2_worthOfAll_4_b fu n1 s1) n
def rr_X2_worthOfAll (fu : Nat) (n1 : Nat) (s1 : ZT_2) : Option (Int32) := rr_X2_worthOfAll_4 fu n1 s1 fu (0 : Int32) (0 : Int32)
set_option maxHeartbeats 4000000 in
set_option maxRecDepth 100000 in
theorem cc_X2_worthOfAll (l : Launch) (dC : Nat → ClassId) (dI : Nat → Nat → Nat) (fu : Nat) (a1 : Nat → Nat) (k1 : Nat → ClassId) (n1 : Nat) (sz : Nat) (s1 : ZT_2) (res : Int32) (hR : rr_X2_worthOfAll fu n1 s1 = some res) : Met l yX2_worthOfAll wsX2_worthOfAll ({ frames := 0, cells := 0, slots := 0, locals := 0 } : Room) (PcF [.ref (a1 0)] sz (dC, dI) (zc_2 a1 k1 n1 s1) (zt_2 k1)) (va_Qi (fun (r : Int32) (u : Unit) => res = r) (fun u t => at3_ (dC, dI) (zc_2 a1 k1 n1 s1) (zt_2 k1) (va_A (zc_2 a1 k1 n1 s1) sz) t) (va_A (zc_2 a1 k1 n1 s1) sz)) 0 0 (va_A (zc_2 a1 k1 n1 s1) sz) := by
  refine Met.ofW (cc := cX2_worthOfAll) (maxL := 3) (ret := (some .int)) (by decide) rfl ?_
  intro p e s m args below meth c s₁ B hml hv
  obtain ⟨hav, hsz, hP, hK, hD0⟩ := hv
  have hx := B.exec
  have hb := B.bytes
  have hr := B.returns
  have hts := atoms_spec (ws := wsX2_worthOfAll) B.pre
  have hown : s.vm.findClass RX2 = some m.cls := findClass_of_methodNamed B.named
  have hlocks := B.notSynchronized
  have hin2 : ∀ w ∈ wsX20, w ∈ wsX2_worthOfAll := fun w h => List.mem_cons_of_mem _ (List.mem_append_right _ h)
  subst hsz
  have hD := hD0.self (sz := s.heap.size)
  clear hD0
  generalize hAe : va_A (zc_2 a1 k1 n1 s1) s.heap.size = A at hD ⊢
  have hA : ∀ q : Nat, s.heap.size ≤ q → A q := fun q h => by rw [← hAe]; exact Or.inr h
  have hS : va_S A s.heap s.heap [] := va_S.rf
  generalize hQe : MQ below _ args s 0 0 A = Q
  rw [show entryFrame m args 3 = F0 m 0 ((lg_sl ([.ref (a1 0)]) ++ List.replicate (3 - (lg_sl ([.ref (a1 0)])).length) Slot.unset).toArray) [] from by rw [hav]; exact lg_entry_eq m _ _]
  have hl := lv_entry ([.ref (a1 0)]) (n := 3) (Nat.le_of_ble_eq_true rfl)
  generalize (lg_sl ([.ref (a1 0)]) ++ List.replicate (3 - (lg_sl ([.ref (a1 0)])).length) Slot.unset).toArray = ls at hl ⊢
  have hl : lv_has ls 3 [(0, .ref (a1 0))] := hl
  have hB4 : ∀ (n : Nat), ∀ (y1 : Int32) (y2 : Int32) (H : Heap) (locs : List Loc) (ls : Array Slot), va_P (dC, dI) vwCl (zc_2 a1 k1 n1 s1) H → va_D A (zc_2 a1 k1 n1 s1) → va_S A s.heap H locs → lv_has ls 3 [(0, .ref (a1 0)), (1, .int y1), (2, .int y2)] → rr_X2_worthOfAll_4 fu n1 s1 n y1 y2 = some res → W p l e ({ frames := 0, cells := 0, slots := 0, locals := 0 } : Room) s m args below meth c H locs 0 0 Q (F0 m 4 ls []) := by
    intro  n
    induction n with
    | zero => intro y1 y2 H locs ls hP hD hS hl hR; exact absurd hR (by intro h; cases h)
    | succ n ih =>
      intro y1 y2 H locs ls hP hD hS hl hR
      replace hR : rr_X2_worthOfAll_4_b fu n1 s1 (rr_X2_worthOfAll_4 fu n1 s1 n) y1 y2 = some res := hR
      unfold rr_X2_worthOfAll_4_b at hR
      refine lv_iload_n hx hb dX2_worthOfAll_4 rfl (lv_at hl 2 rfl) ?_
      refine lv_aload_n hx hb dX2_worthOfAll_5 rfl (lv_at hl 0 rfl) ?_
      refine va_get (D := (dC, dI)) (ci := 2) (v := .int s1.1) (C := RX2) (T := TX2) (N := 6) hx hb hts hin2 hown hK hP 0 rfl rfl 0 (by decide) (hts (.fieldLink RX2 27 "OldestCoins$Coins" "size" "I") (List.mem_of_getElem? (i := 1) rfl)) (fun _ h9 => h9) rfl dX2_worthOfAll_6 ?_
      refine lv_icmp_ge (tgt := 27) hx hb dX2_worthOfAll_9 (by decide) (fun c3 => ?_) (fun c3 => ?_)
      · replace hR := ifp_ hR c3
        refine lv_iload_n hx hb dX2_worthOfAll_27 rfl (lv_at hl 1 rfl) ?_
        subst hQe
        exact W.iret (v := y1) hx hb hr (fun t ht hW => ⟨⟨y1, (), rfl, (Option.some.inj hR).symm, by rw [ht]; exact hP, va_K.moved hW.alike hK, hD⟩, hS.F ht⟩) hS.2.2 dX2_worthOfAll_28
      · replace hR := ifn_ hR c3
        refine lv_iload_n hx hb dX2_worthOfAll_12 rfl (lv_at hl 1 rfl) ?_
        refine lv_aload_n hx hb dX2_worthOfAll_13 rfl (lv_at hl 0 rfl) ?_
        refine va_get (D := (dC, dI)) (ci := 2) (v := .ref (a1 2)) (C := RX2) (T := TX2) (N := 6) hx hb hts hin2 hown hK hP 0 rfl rfl 2 (by decide) (hts (.fieldLink RX2 15 "OldestCoins$Coins" "worth" "[I") (List.mem_of_getElem? (i := 2) rfl)) (fun _ h9 => h9) rfl dX2_worthOfAll_14 ?_
        refine lv_iload_n hx hb dX2_worthOfAll_17 rfl (lv_at hl 2 rfl) ?_
        have i4 := (ck_ok hR).1
        replace hR := (ck_ok hR).2
        refine va_iald (f := s1.2.2.1) hx hb hK hP 2 1 rfl rfl i4 dX2_worthOfAll_18 ?_
        refine lv_iadd hx hb dX2_worthOfAll_19 ?_
        refine lv_topi (fun z5 ez5 => ?_)
        replace hR := lt_ok hR ez5
        refine lv_istore_n (lv' := [(1, .int z5), (0, .ref (a1 0)), (2, .int y2)]) hx hb dX2_worthOfAll_20 rfl hl (by decide) rfl (fun ls6 hl6 => ?_)
        obtain ⟨z7, ez7⟩ : ∃ y : Int32, y = (y2 + (1 : Int32)) := ⟨_, rfl⟩
        replace hR := lt_ok hR ez7
        refine lv_iinc (v := z7) (lv' := [(2, .int z7), (1, .int z5), (0, .ref (a1 0))]) hx hb dX2_worthOfAll_21 hl6 (k := 2) rfl (by rw [ez7]; rfl) (by decide) rfl (fun ls7 hl7 => ?_)
        refine lv_goto (tgt := 4) hx hb dX2_worthOfAll_24 (by decide) ?_
        exact ih z5 z7 H locs ls7 hP hD hS (lv_sub hl7 [2, 1, 0] rfl) hR
  unfold rr_X2_worthOfAll at hR
  refine lv_iconst (v := (0 : Int32)) hx hb dX2_worthOfAll_0 (by decide) ?_
  refine lv_istore_n (lv' := [(1, .int (0 : Int32)), (0, .ref (a1 0))]) hx hb dX2_worthOfAll_1 rfl hl (by decide) rfl (fun ls1 hl1 => ?_)
  refine lv_iconst (v := (0 : Int32)) hx hb dX2_worthOfAll_2 (by decide) ?_
  refine lv_istore_n (lv' := [(2, .int (0 : Int32)), (1, .int (0 : Int32)), (0, .ref (a1 0))]) hx hb dX2_worthOfAll_3 rfl hl1 (by decide) rfl (fun ls2 hl2 => ?_)
  exact hB4 fu (0 : Int32) (0 : Int32) s.heap [] ls2 hP hD hS (lv_sub hl2 [2, 1, 0] rfl) hR
def rr_X6_clear (fu : Nat) (s1 : ZT_6) : Option (ZT_6) := some ((0 : Int32), s1.2)
set_option maxHeartbeats 4000000 in
set_option maxRecDepth 100000 in
theorem cc_X6_clear (l : Launch) (dC : Nat → ClassId) (dI : Nat → Nat → Nat) (fu : Nat) (a1 : Nat → Nat) (k1 : Nat → ClassId) (sz : Nat) (s1 : ZT_6) (res : ZT_6) (hR : rr_X6_clear fu s1 = some res) : Met l yX6_clear wsX6_clear ({ frames := 0, cells := 0, slots := 0, locals := 0 } : Room) (PcF [.ref (a1 0)] sz (dC, dI) (zc_6 a1 k1 s1) (zt_6 k1)) (va_Qv (fun u : ZT_6 => res = u) (fun u t => at3_ (dC, dI) (zc_6 a1 k1 u) (zt_6 k1) (va_A (zc_6 a1 k1 s1) sz) t) (va_A (zc_6 a1 k1 s1) sz)) 0 0 (va_A (zc_6 a1 k1 s1) sz) := by
  refine Met.ofW (cc := cX6_clear) (maxL := 1) (ret := none) (by decide) rfl ?_
  intro p e s m args below meth c s₁ B hml hv
  obtain ⟨hav, hsz, hP, hK, hD0⟩ := hv
  have hx := B.exec
  have hb := B.bytes
  have hr := B.returns
  have hts := atoms_spec (ws := wsX6_clear) B.pre
  have hown : s.vm.findClass RX6 = some m.cls := findClass_of_methodNamed B.named
  have hlocks := B.notSynchronized
  have hin6 : ∀ w ∈ wsX60, w ∈ wsX6_clear := fun w h => List.mem_cons_of_mem _ (List.mem_append_right _ h)
  subst hsz
  have hD := hD0.self (sz := s.heap.size)
  clear hD0
  generalize hAe : va_A (zc_6 a1 k1 s1) s.heap.size = A at hD ⊢
  have hA : ∀ q : Nat, s.heap.size ≤ q → A q := fun q h => by rw [← hAe]; exact Or.inr h
  have hS : va_S A s.heap s.heap [] := va_S.rf
  generalize hQe : MQ below _ args s 0 0 A = Q
  rw [show entryFrame m args 1 = F0 m 0 ((lg_sl ([.ref (a1 0)]) ++ List.replicate (1 - (lg_sl ([.ref (a1 0)])).length) Slot.unset).toArray) [] from by rw [hav]; exact lg_entry_eq m _ _]
  have hl := lv_entry ([.ref (a1 0)]) (n := 1) (Nat.le_of_ble_eq_true rfl)
  generalize (lg_sl ([.ref (a1 0)]) ++ List.replicate (1 - (lg_sl ([.ref (a1 0)])).length) Slot.unset).toArray = ls at hl ⊢
  have hl : lv_has ls 1 [(0, .ref (a1 0))] := hl
  unfold rr_X6_clear at hR
  refine lv_aload_n hx hb dX6_clear_0 rfl (lv_at hl 0 rfl) ?_
  refine lv_iconst (v := (0 : Int32)) hx hb dX6_clear_1 (by decide) ?_
  refine va_put (D := (dC, dI)) (ci := 6) (v := .int (0 : Int32)) (ty := .int) (C := RX6) (T := TX6) (N := 4) hx hb hts hin6 tyX6 tyX6_ok nmX6 hown hK hP hD hS 0 rfl rfl 0 (by decide) (hts (.fieldLink RX6 25 "OldestCoins$Tape" "size" "I") (List.mem_of_getElem? (i := 1) rfl)) (fun _ h9 => h9) rfl (by decide +kernel) rfl rfl (Nat.le_of_ble_eq_true rfl) dX6_clear_2 (fun H1 locs1 hP1 hD1 hS1 => ?_)
  have hP1 : va_P (dC, dI) vwCl (zc_6 a1 k1 ((0 : Int32), s1.2)) H1 := hP1
  have hD1 : va_D A (zc_6 a1 k1 ((0 : Int32), s1.2)) := hD1
  clear hP hD hS
  subst hQe
  exact W.vret hx hb hr (fun t ht hW => ⟨⟨((0 : Int32), s1.2), rfl, (Option.some.inj hR).symm, by rw [ht]; exact hP1, va_K.moved hW.alike hK, hD1⟩, hS1.F ht⟩) hS1.2.2 dX6_clear_5
def rr_X6_fail (fu : Nat) (x1 : Int32) (s1 : ZT_6) : Option (ZT_6) := (if s1.2.1 = (-1 : Int32) then some (s1.1, x1, s1.2.2) else some s1)
set_option maxHeartbeats 4000000 in
set_option maxRecDepth 100000 in
theorem cc_X6_fail (l : Launch) (dC : Nat → ClassId) (dI : Nat → Nat → Nat) (fu : Nat) (a1 : Nat → Nat) (k1 : Nat → ClassId) (sz : Nat) (x1 : Int32) (s1 : ZT_6) (res : ZT_6) (hR : rr_X6_fail fu x1 s1 = some res) : Met l yX6_fail wsX6_fail ({ frames := 0, cells := 0, slots := 0, locals := 0 } : Room) (PcF [.ref (a1 0), .int x1] sz (dC, dI) (zc_6 a1 k1 s1) (zt_6 k1)) (va_Qv (fun u : ZT_6 => res = u) (fun u t => at3_ (dC, dI) (zc_6 a1 k1 u) (zt_6 k1) (va_A (zc_6 a1 k1 s1) sz) t) (va_A (zc_6 a1 k1 s1) sz)) 0 0 (va_A (zc_6 a1 k1 s1) sz) := by
  refine Met.ofW (cc := cX6_fail) (maxL := 2) (ret := none) (by decide) rfl ?_
  intro p e s m args below meth c s₁ B hml hv
  obtain ⟨hav, hsz, hP, hK, hD0⟩ := hv
  have hx := B.exec
  have hb := B.bytes
  have hr := B.returns
  have hts := atoms_spec (ws := wsX6_fail) B.pre
  have hown : s.vm.findClass RX6 = some m.cls := findClass_of_methodNamed B.named
  have hlocks := B.notSynchronized
  have hin6 : ∀ w ∈ wsX60, w ∈ wsX6_fail := fun w h => List.mem_cons_of_mem _ (List.mem_append_right _ h)
  subst hsz
  have hD := hD0.self (sz := s.heap.size)
  clear hD0
  generalize hAe : va_A (zc_6 a1 k1 s1) s.heap.size = A at hD ⊢
  have hA : ∀ q : Nat, s.heap.size ≤ q → A q := fun q h => by rw [← hAe]; exact Or.inr h
  have hS : va_S A s.heap s.heap [] := va_S.rf
  generalize hQe : MQ below _ args s 0 0 A = Q
  rw [show entryFrame m args 2 = F0 m 0 ((lg_sl ([.ref (a1 0), .int x1]) ++ List.replicate (2 - (lg_sl ([.ref (a1 0), .int x1])).length) Slot.unset).toArray) [] from by rw [hav]; exact lg_entry_eq m _ _]
  have hl := lv_entry ([.ref (a1 0), .int x1]) (n := 2) (Nat.le_of_ble_eq_true rfl)
  generalize (lg_sl ([.ref (a1 0), .int x1]) ++ List.replicate (2 - (lg_sl ([.ref (a1 0), .int x1])).length) Slot.unset).toArray = ls at hl ⊢
  have hl : lv_has ls 2 [(0, .ref (a1 0)), (1, .int x1)] := hl
  unfold rr_X6_fail at hR
  refine lv_aload_n hx hb dX6_fail_0 rfl (lv_at hl 0 rfl) ?_
  refine va_get (D := (dC, dI)) (ci := 6) (v := .int s1.2.1) (C := RX6) (T := TX6) (N := 4) hx hb hts hin6 hown hK hP 0 rfl rfl 1 (by decide) (hts (.fieldLink RX6 11 "OldestCoins$Tape" "fault" "I") (List.mem_of_getElem? (i := 1) rfl)) (fun _ h9 => h9) rfl dX6_fail_1 ?_
  refine lv_iconst (v := (-1 : Int32)) hx hb dX6_fail_4 (by decide) ?_
  refine lv_icmp_ne (tgt := 13) hx hb dX6_fail_5 (by decide) (fun c1 => ?_) (fun c1 => ?_)
  · replace hR := ifn_ hR c1
    subst hQe
    exact W.vret hx hb hr (fun t ht hW => ⟨⟨s1, rfl, (Option.some.inj hR).symm, by rw [ht]; exact hP, va_K.moved hW.alike hK, hD⟩, hS.F ht⟩) hS.2.2 dX6_fail_13
  · replace hR := ifp_ hR c1
    refine lv_aload_n hx hb dX6_fail_8 rfl (lv_at hl 0 rfl) ?_
    refine lv_iload_n hx hb dX6_fail_9 rfl (lv_at hl 1 rfl) ?_
    refine va_put (D := (dC, dI)) (ci := 6) (v := .int x1) (ty := .int) (C := RX6) (T := TX6) (N := 4) hx hb hts hin6 tyX6 tyX6_ok nmX6 hown hK hP hD hS 0 rfl rfl 1 (by decide) (hts (.fieldLink RX6 11 "OldestCoins$Tape" "fault" "I") (List.mem_of_getElem? (i := 1) rfl)) (fun _ h9 => h9) rfl (by decide +kernel) rfl rfl (Nat.le_of_ble_eq_true rfl) dX6_fail_10 (fun H2 locs2 hP2 hD2 hS2 => ?_)
    have hP2 : va_P (dC, dI) vwCl (zc_6 a1 k1 (s1.1, x1, s1.2.2)) H2 := hP2
    have hD2 : va_D A (zc_6 a1 k1 (s1.1, x1, s1.2.2)) := hD2
    clear hP hD hS
    subst hQe
    exact W.vret hx hb hr (fun t ht hW => ⟨⟨(s1.1, x1, s1.2.2), rfl, (Option.some.inj hR).symm, by rw [ht]; exact hP2, va_K.moved hW.alike hK, hD2⟩, hS2.F ht⟩) hS2.2.2 dX6_fail_13
def rr_X6_passBlanks_0_b (fu : Nat) (rec0 : ZT_6 → Option (ZT_6)) (u1 : ZT_6) : Option (ZT_6) := (if u1.1 ≤ u1.2.2.1 then some u1 else ck_ u1.2.2.1 160 ((if (u1.2.2.2 u1.2.2.1.toNatClampNeg) = (32 : Int32) then lt_ (α := Int32) (u1.2.2.1 + (1 : Int32)) (fun z4 => rec0 (u1.1, u1.2.1, z4, u1.2.2.2)) else some u1)))
def rr_X6_passBlanks_0 (fu : Nat) (n : Nat) : ZT_6 → Option (ZT_6) := lp_ (fun _ => none) (rr_X6_passBlanks_0_b fu) n
def rr_X6_passBlanks (fu : Nat) (s1 : ZT_6) : Option (ZT_6) := rr_X6_passBlanks_0 fu fu s1
set_option maxHeartbeats 4000000 in
set_option maxRecDepth 100000 in
theorem cc_X6_passBlanks (l : Launch) (dC : Nat → ClassId) (dI : Nat → Nat → Nat) (fu : Nat) (a1 : Nat → Nat) (k1 : Nat → ClassId) (sz : Nat) (s1 : ZT_6) (res : ZT_6) (hR : rr_X6_passBlanks fu s1 = some res) : Met l yX6_passBlanks wsX6_passBlanks ({ frames := 0, cells := 0, slots := 0, locals := 0 } : Room) (PcF [.ref (a1 0)] sz (dC, dI) (zc_6 a1 k1 s1) (zt_6 k1)) (va_Qv (fun u : ZT_6 => res = u) (fun u t => at3_ (dC, dI) (zc_6 a1 k1 u) (zt_6 k1) (va_A (zc_6 a1 k1 s1) sz) t) (va_A (zc_6 a1 k1 s1) sz)) 0 0 (va_A (zc_6 a1 k1 s1) sz) := by
  refine Met.ofW (cc := cX6_passBlanks) (maxL := 1) (ret := none) (by decide) rfl ?_
  intro p e s m args below meth c s₁ B hml hv
  obtain ⟨hav, hsz, hP, hK, hD0⟩ := hv
  have hx := B.exec
  have hb := B.bytes
  have hr := B.returns
  have hts := atoms_spec (ws := wsX6_passBlanks) B.pre
  have hown : s.vm.findClass RX6 = some m.cls := findClass_of_methodNamed B.named
  have hlocks := B.notSynchronized
  have hin6 : ∀ w ∈ wsX60, w ∈ wsX6_passBlanks := fun w h => List.mem_cons_of_mem _ (List.mem_append_right _ h)
  subst hsz
  have hD := hD0.self (sz := s.heap.size)
  clear hD0
  generalize hAe : va_A (zc_6 a1 k1 s1) s.heap.size = A at hD ⊢
  have hA : ∀ q : Nat, s.heap.size ≤ q → A q := fun q h => by rw [← hAe]; exact Or.inr h
  have hS : va_S A s.heap s.heap [] := va_S.rf
  generalize hQe : MQ below _ args s 0 0 A = Q
  rw [show entryFrame m args 1 = F0 m 0 ((lg_sl ([.ref (a1 0)]) ++ List.replicate (1 - (lg_sl ([.ref (a1 0)])).length) Slot.unset).toArray) [] from by rw [hav]; exact lg_entry_eq m _ _]
  have hl := lv_entry ([.ref (a1 0)]) (n := 1) (Nat.le_of_ble_eq_true rfl)
  generalize (lg_sl ([.ref (a1 0)]) ++ List.replicate (1 - (lg_sl ([.ref (a1 0)])).length) Slot.unset).toArray = ls at hl ⊢
  have hl : lv_has ls 1 [(0, .ref (a1 0))] := hl
  have hB0 : ∀ (n : Nat), ∀ (u1 : ZT_6) (H : Heap) (locs : List Loc) (ls : Array Slot), va_P (dC, dI) vwCl (zc_6 a1 k1 u1) H → va_D A (zc_6 a1 k1 u1) → va_S A s.heap H locs → lv_has ls 1 [(0, .ref (a1 0))] → rr_X6_passBlanks_0 fu n u1 = some res → W p l e ({ frames := 0, cells := 0, slots := 0, locals := 0 } : Room) s m args below meth c H locs 0 0 Q (F0 m 0 ls []) := by
    intro  n
    induction n with
    | zero => intro u1 H locs ls hP hD hS hl hR; exact absurd hR (by intro h; cases h)
    | succ n ih =>
      intro u1 H locs ls hP hD hS hl hR
      replace hR : rr_X6_passBlanks_0_b fu (rr_X6_passBlanks_0 fu n) u1 = some res := hR
      unfold rr_X6_passBlanks_0_b at hR
      refine lv_aload_n hx hb dX6_passBlanks_0 rfl (lv_at hl 0 rfl) ?_
      refine va_get (D := (dC, dI)) (ci := 6) (v := .int u1.2.2.1) (C := RX6) (T := TX6) (N := 4) hx hb hts hin6 hown hK hP 0 rfl rfl 2 (by decide) (hts (.fieldLink RX6 31 "OldestCoins$Tape" "place" "I") (List.mem_of_getElem? (i := 1) rfl)) (fun _ h9 => h9) rfl dX6_passBlanks_1 ?_
      refine lv_aload_n hx hb dX6_passBlanks_4 rfl (lv_at hl 0 rfl) ?_
      refine va_get (D := (dC, dI)) (ci := 6) (v := .int u1.1) (C := RX6) (T := TX6) (N := 4) hx hb hts hin6 hown hK hP 0 rfl rfl 0 (by decide) (hts (.fieldLink RX6 25 "OldestCoins$Tape" "size" "I") (List.mem_of_getElem? (i := 2) rfl)) (fun _ h9 => h9) rfl dX6_passBlanks_5 ?_
      refine lv_icmp_ge (tgt := 38) hx hb dX6_passBlanks_8 (by decide) (fun c1 => ?_) (fun c1 => ?_)
      · replace hR := ifp_ hR c1
        subst hQe
        exact W.vret hx hb hr (fun t ht hW => ⟨⟨u1, rfl, (Option.some.inj hR).symm, by rw [ht]; exact hP, va_K.moved hW.alike hK, hD⟩, hS.F ht⟩) hS.2.2 dX6_passBlanks_38
      · replace hR := ifn_ hR c1
        refine lv_aload_n hx hb dX6_passBlanks_11 rfl (lv_at hl 0 rfl) ?_
        refine va_get (D := (dC, dI)) (ci := 6) (v := .ref (a1 1)) (C := RX6) (T := TX6) (N := 4) hx hb hts hin6 hown hK hP 0 rfl rfl 3 (by decide) (hts (.fieldLink RX6 15 "OldestCoins$Tape" "bytes" "[B") (List.mem_of_getElem? (i := 3) rfl)) (fun _ h9 => h9) rfl dX6_passBlanks_12 ?_
        refine lv_aload_n hx hb dX6_passBlanks_15 rfl (lv_at hl 0 rfl) ?_
        refine va_get (D := (dC, dI)) (ci := 6) (v := .int u1.2.2.1) (C := RX6) (T := TX6) (N := 4) hx hb hts hin6 hown hK hP 0 rfl rfl 2 (by decide) (hts (.fieldLink RX6 31 "OldestCoins$Tape" "place" "I") (List.mem_of_getElem? (i := 1) rfl)) (fun _ h9 => h9) rfl dX6_passBlanks_16 ?_
        have i2 := (ck_ok hR).1
        replace hR := (ck_ok hR).2
        refine va_bald (f := u1.2.2.2) hx hb hK hP 1 0 rfl rfl i2 dX6_passBlanks_19 ?_
        refine lv_bipush (v := (32 : Int32)) hx hb dX6_passBlanks_20 (by decide) ?_
        refine lv_icmp_ne (tgt := 38) hx hb dX6_passBlanks_22 (by decide) (fun c3 => ?_) (fun c3 => ?_)
        · replace hR := ifn_ hR c3
          subst hQe
          exact W.vret hx hb hr (fun t ht hW => ⟨⟨u1, rfl, (Option.some.inj hR).symm, by rw [ht]; exact hP, va_K.moved hW.alike hK, hD⟩, hS.F ht⟩) hS.2.2 dX6_passBlanks_38
        · replace hR := ifp_ hR c3
          refine lv_aload_n hx hb dX6_passBlanks_25 rfl (lv_at hl 0 rfl) ?_
          refine lv_dup hx hb dX6_passBlanks_26 rfl ?_
          refine va_get (D := (dC, dI)) (ci := 6) (v := .int u1.2.2.1) (C := RX6) (T := TX6) (N := 4) hx hb hts hin6 hown hK hP 0 rfl rfl 2 (by decide) (hts (.fieldLink RX6 31 "OldestCoins$Tape" "place" "I") (List.mem_of_getElem? (i := 1) rfl)) (fun _ h9 => h9) rfl dX6_passBlanks_27 ?_
          refine lv_iconst (v := (1 : Int32)) hx hb dX6_passBlanks_30 (by decide) ?_
          refine lv_iadd hx hb dX6_passBlanks_31 ?_
          refine lv_topi (fun z4 ez4 => ?_)
          replace hR := lt_ok hR ez4
          refine va_put (D := (dC, dI)) (ci := 6) (v := .int z4) (ty := .int) (C := RX6) (T := TX6) (N := 4) hx hb hts hin6 tyX6 tyX6_ok nmX6 hown hK hP hD hS 0 rfl rfl 2 (by decide) (hts (.fieldLink RX6 31 "OldestCoins$Tape" "place" "I") (List.mem_of_getElem? (i := 1) rfl)) (fun _ h9 => h9) rfl (by decide +kernel) rfl rfl (Nat.le_of_ble_eq_true rfl) dX6_passBlanks_32 (fun H5 locs5 hP5 hD5 hS5 => ?_)
          have hP5 : va_P (dC, dI) vwCl (zc_6 a1 k1 (u1.1, u1.2.1, z4, u1.2.2.2)) H5 := hP5
          have hD5 : va_D A (zc_6 a1 k1 (u1.1, u1.2.1, z4, u1.2.2.2)) := hD5
          clear hP hD hS
          refine lv_goto (tgt := 0) hx hb dX6_passBlanks_35 (by decide) ?_
          exact ih (u1.1, u1.2.1, z4, u1.2.2.2) H5 locs5 ls hP5 hD5 hS5 (lv_sub hl [0] rfl) hR
  unfold rr_X6_passBlanks at hR
  exact hB0 fu s1 s.heap [] ls hP hD hS (lv_sub hl [0] rfl) hR
def rr_X6_needsEnd (fu : Nat) (s1 : ZT_6) : Option (ZT_6) := (rr_X6_passBlanks fu s1).bind (fun q1 => (if q1.1 ≤ q1.2.2.1 then some q1 else (rr_X6_fail fu q1.2.2.1 q1).bind (fun q3 => some q3)))
set_option maxHeartbeats 4000000 in
set_option maxRecDepth 100000 in
theorem cc_X6_needsEnd (l : Launch) (dC : Nat → ClassId) (dI : Nat → Nat → Nat) (fu : Nat) (a1 : Nat → Nat) (k1 : Nat → ClassId) (sz : Nat) (s1 : ZT_6) (res : ZT_6) (hR : rr_X6_needsEnd fu s1 = some res) : Met l yX6_needsEnd wsX6_needsEnd ({ frames := 1, cells := 0, slots := 0, locals := 21 } : Room) (PcF [.ref (a1 0)] sz (dC, dI) (zc_6 a1 k1 s1) (zt_6 k1)) (va_Qv (fun u : ZT_6 => res = u) (fun u t => at3_ (dC, dI) (zc_6 a1 k1 u) (zt_6 k1) (va_A (zc_6 a1 k1 s1) sz) t) (va_A (zc_6 a1 k1 s1) sz)) 0 0 (va_A (zc_6 a1 k1 s1) sz) := by
  refine Met.ofW (cc := cX6_needsEnd) (maxL := 1) (ret := none) (by decide) rfl ?_
  intro p e s m args below meth c s₁ B hml hv
  obtain ⟨hav, hsz, hP, hK, hD0⟩ := hv
  have hx := B.exec
  have hb := B.bytes
  have hr := B.returns
  have hts := atoms_spec (ws := wsX6_needsEnd) B.pre
  have hown : s.vm.findClass RX6 = some m.cls := findClass_of_methodNamed B.named
  have hlocks := B.notSynchronized
  have hin6 : ∀ w ∈ wsX60, w ∈ wsX6_needsEnd := fun w h => List.mem_cons_of_mem _ (List.mem_append_right _ h)
  subst hsz
  have hD := hD0.self (sz := s.heap.size)
  clear hD0
  generalize hAe : va_A (zc_6 a1 k1 s1) s.heap.size = A at hD ⊢
  have hA : ∀ q : Nat, s.heap.size ≤ q → A q := fun q h => by rw [← hAe]; exact Or.inr h
  have hS : va_S A s.heap s.heap [] := va_S.rf
  generalize hQe : MQ below _ args s 0 0 A = Q
  rw [show entryFrame m args 1 = F0 m 0 ((lg_sl ([.ref (a1 0)]) ++ List.replicate (1 - (lg_sl ([.ref (a1 0)])).length) Slot.unset).toArray) [] from by rw [hav]; exact lg_entry_eq m _ _]
  have hl := lv_entry ([.ref (a1 0)]) (n := 1) (Nat.le_of_ble_eq_true rfl)
  generalize (lg_sl ([.ref (a1 0)]) ++ List.replicate (1 - (lg_sl ([.ref (a1 0)])).length) Slot.unset).toArray = ls at hl ⊢
  have hl : lv_has ls 1 [(0, .ref (a1 0))] := hl
  unfold rr_X6_needsEnd at hR
  refine lv_aload_n hx hb dX6_needsEnd_0 rfl (lv_at hl 0 rfl) ?_
  have hR0 := ob_ok hR
  clear hR
  obtain ⟨q1, hq1, hR⟩ := hR0
  refine va_callv (va_runV (As := []) (rest := []) ⟨hx, hb, hml, hown, hts⟩ (cc_X6_passBlanks l dC dI fu a1 k1 s.heap.size s1 q1 hq1) (cwV 0 hts gX6_needsEnd_X6_passBlanks rfl rfl rfl (by decide +kernel) ⟨Nat.le_of_ble_eq_true rfl, Nat.le_of_ble_eq_true rfl⟩) (pf_v hK hP hD 6 0 rfl rfl rfl) rfl rfl hl.1 rfl (lv_room (Nat.le_of_ble_eq_true rfl)) dX6_needsEnd_1 ⟨Nat.le_refl _, Nat.le_refl _⟩) hS (fun q _ h => (fr_all hD hS hA) q h) (fr_all hD hS hA) (fun v1 t1 H1 locs1 ht1 hvm1 hw1 hB1 hz1 hk1 hS1 => ?_)
  subst hw1
  obtain ⟨hP1, hD1⟩ := jn_all hD hS hA ht1 hB1
  have hP1 : va_P (dC, dI) vwCl (zc_6 a1 k1 q1) H1 := hP1
  have hD1 : va_D A (zc_6 a1 k1 q1) := hD1
  clear hP hD hS hB1 hk1 hvm1 hz1 ht1
  refine lv_aload_n hx hb dX6_needsEnd_4 rfl (lv_at hl 0 rfl) ?_
  refine va_get (D := (dC, dI)) (ci := 6) (v := .int q1.2.2.1) (C := RX6) (T := TX6) (N := 4) hx hb hts hin6 hown hK hP1 0 rfl rfl 2 (by decide) (hts (.fieldLink RX6 31 "OldestCoins$Tape" "place" "I") (List.mem_of_getElem? (i := 1) rfl)) (fun _ h9 => h9) rfl dX6_needsEnd_5 ?_
  refine lv_aload_n hx hb dX6_needsEnd_8 rfl (lv_at hl 0 rfl) ?_
  refine va_get (D := (dC, dI)) (ci := 6) (v := .int q1.1) (C := RX6) (T := TX6) (N := 4) hx hb hts hin6 hown hK hP1 0 rfl rfl 0 (by decide) (hts (.fieldLink RX6 25 "OldestCoins$Tape" "size" "I") (List.mem_of_getElem? (i := 2) rfl)) (fun _ h9 => h9) rfl dX6_needsEnd_9 ?_
  refine lv_icmp_ge (tgt := 23) hx hb dX6_needsEnd_12 (by decide) (fun c2 => ?_) (fun c2 => ?_)
  · replace hR := ifp_ hR c2
    subst hQe
    exact W.vret hx hb hr (fun t ht hW => ⟨⟨q1, rfl, (Option.some.inj hR).symm, by rw [ht]; exact hP1, va_K.moved hW.alike hK, hD1⟩, hS1.F ht⟩) hS1.2.2 dX6_needsEnd_23
  · replace hR := ifn_ hR c2
    refine lv_aload_n hx hb dX6_needsEnd_15 rfl (lv_at hl 0 rfl) ?_
    refine lv_aload_n hx hb dX6_needsEnd_16 rfl (lv_at hl 0 rfl) ?_
    refine va_get (D := (dC, dI)) (ci := 6) (v := .int q1.2.2.1) (C := RX6) (T := TX6) (N := 4) hx hb hts hin6 hown hK hP1 0 rfl rfl 2 (by decide) (hts (.fieldLink RX6 31 "OldestCoins$Tape" "place" "I") (List.mem_of_getElem? (i := 1) rfl)) (fun _ h9 => h9) rfl dX6_needsEnd_17 ?_
    have hR0 := ob_ok hR
    clear hR
    obtain ⟨q3, hq3, hR⟩ := hR0
    refine va_callv (va_runV (As := [.int q1.2.2.1]) (rest := []) ⟨hx, hb, hml, hown, hts⟩ (cc_X6_fail l dC dI fu a1 k1 H1.size q1.2.2.1 q1 q3 hq3) (cwV 1 hts gX6_needsEnd_X6_fail rfl rfl rfl (by decide +kernel) ⟨Nat.le_of_ble_eq_true rfl, Nat.le_of_ble_eq_true rfl⟩) (pf_v hK hP1 hD1 6 0 rfl rfl rfl) rfl rfl hl.1 rfl (lv_room (Nat.le_of_ble_eq_true rfl)) dX6_needsEnd_20 ⟨Nat.le_refl _, Nat.le_refl _⟩) hS1 (fun q _ h => (fr_all hD1 hS1 hA) q h) (fr_all hD1 hS1 hA) (fun v3 t3 H3 locs3 ht3 hvm3 hw3 hB3 hz3 hk3 hS3 => ?_)
    subst hw3
    obtain ⟨hP3, hD3⟩ := jn_all hD1 hS1 hA ht3 hB3
    have hP3 : va_P (dC, dI) vwCl (zc_6 a1 k1 q3) H3 := hP3
    have hD3 : va_D A (zc_6 a1 k1 q3) := hD3
    clear hP1 hD1 hS1 hB3 hk3 hvm3 hz3 ht3
    subst hQe
    exact W.vret hx hb hr (fun t ht hW => ⟨⟨q3, rfl, (Option.some.inj hR).symm, by rw [ht]; exact hP3, va_K.moved hW.alike hK, hD3⟩, hS3.F ht⟩) hS3.2.2 dX6_needsEnd_23
def rr_X6_signHere (fu : Nat) (s1 : ZT_6) : Option (Int32) := (if s1.1 ≤ s1.2.2.1 then some (-1 : Int32) else ck_ s1.2.2.1 160 (some (s1.2.2.2 s1.2.2.1.toNatClampNeg)))
set_option maxHeartbeats 4000000 in
set_option maxRecDepth 100000 in
theorem cc_X6_signHere (l : Launch) (dC : Nat → ClassId) (dI : Nat → Nat → Nat) (fu : Nat) (a1 : Nat → Nat) (k1 : Nat → ClassId) (sz : Nat) (s1 : ZT_6) (res : Int32) (hR : rr_X6_signHere fu s1 = some res) : Met l yX6_signHere wsX6_signHere ({ frames := 0, cells := 0, slots := 0, locals := 0 } : Room) (PcF [.ref (a1 0)] sz (dC, dI) (zc_6 a1 k1 s1) (zt_6 k1)) (va_Qi (fun (r : Int32) (u : Unit) => res = r) (fun u t => at3_ (dC, dI) (zc_6 a1 k1 s1) (zt_6 k1) (va_A (zc_6 a1 k1 s1) sz) t) (va_A (zc_6 a1 k1 s1) sz)) 0 0 (va_A (zc_6 a1 k1 s1) sz) := by
  refine Met.ofW (cc := cX6_signHere) (maxL := 1) (ret := (some .int)) (by decide) rfl ?_
  intro p e s m args below meth c s₁ B hml hv
  obtain ⟨hav, hsz, hP, hK, hD0⟩ := hv
  have hx := B.exec
  have hb := B.bytes
  have hr := B.returns
  have hts := atoms_spec (ws := wsX6_signHere) B.pre
  have hown : s.vm.findClass RX6 = some m.cls := findClass_of_methodNamed B.named
  have hlocks := B.notSynchronized
  have hin6 : ∀ w ∈ wsX60, w ∈ wsX6_signHere := fun w h => List.mem_cons_of_mem _ (List.mem_append_right _ h)
  subst hsz
  have hD := hD0.self (sz := s.heap.size)
  clear hD0
  generalize hAe : va_A (zc_6 a1 k1 s1) s.heap.size = A at hD ⊢
  have hA : ∀ q : Nat, s.heap.size ≤ q → A q := fun q h => by rw [← hAe]; exact Or.inr h
  have hS : va_S A s.heap s.heap [] := va_S.rf
  generalize hQe : MQ below _ args s 0 0 A = Q
  rw [show entryFrame m args 1 = F0 m 0 ((lg_sl ([.ref (a1 0)]) ++ List.replicate (1 - (lg_sl ([.ref (a1 0)])).length) Slot.unset).toArray) [] from by rw [hav]; exact lg_entry_eq m _ _]
  have hl := lv_entry ([.ref (a1 0)]) (n := 1) (Nat.le_of_ble_eq_true rfl)
  generalize (lg_sl ([.ref (a1 0)]) ++ List.replicate (1 - (lg_sl ([.ref (a1 0)])).length) Slot.unset).toArray = ls at hl ⊢
  have hl : lv_has ls 1 [(0, .ref (a1 0))] := hl
  unfold rr_X6_signHere at hR
  refine lv_aload_n hx hb dX6_signHere_0 rfl (lv_at hl 0 rfl) ?_
  refine va_get (D := (dC, dI)) (ci := 6) (v := .int s1.2.2.1) (C := RX6) (T := TX6) (N := 4) hx hb hts hin6 hown hK hP 0 rfl rfl 2 (by decide) (hts (.fieldLink RX6 31 "OldestCoins$Tape" "place" "I") (List.mem_of_getElem? (i := 1) rfl)) (fun _ h9 => h9) rfl dX6_signHere_1 ?_
  refine lv_aload_n hx hb dX6_signHere_4 rfl (lv_at hl 0 rfl) ?_
  refine va_get (D := (dC, dI)) (ci := 6) (v := .int s1.1) (C := RX6) (T := TX6) (N := 4) hx hb hts hin6 hown hK hP 0 rfl rfl 0 (by decide) (hts (.fieldLink RX6 25 "OldestCoins$Tape" "size" "I") (List.mem_of_getElem? (i := 2) rfl)) (fun _ h9 => h9) rfl dX6_signHere_5 ?_
  refine lv_icmp_ge (tgt := 23) hx hb dX6_signHere_8 (by decide) (fun c1 => ?_) (fun c1 => ?_)
  · replace hR := ifp_ hR c1
    refine lv_iconst (v := (-1 : Int32)) hx hb dX6_signHere_23 (by decide) ?_
    subst hQe
    exact W.iret (v := (-1 : Int32)) hx hb hr (fun t ht hW => ⟨⟨(-1 : Int32), (), rfl, (Option.some.inj hR).symm, by rw [ht]; exact hP, va_K.moved hW.alike hK, hD⟩, hS.F ht⟩) hS.2.2 dX6_signHere_24
  · replace hR := ifn_ hR c1
    refine lv_aload_n hx hb dX6_signHere_11 rfl (lv_at hl 0 rfl) ?_
    refine va_get (D := (dC, dI)) (ci := 6) (v := .ref (a1 1)) (C := RX6) (T := TX6) (N := 4) hx hb hts hin6 hown hK hP 0 rfl rfl 3 (by decide) (hts (.fieldLink RX6 15 "OldestCoins$Tape" "bytes" "[B") (List.mem_of_getElem? (i := 3) rfl)) (fun _ h9 => h9) rfl dX6_signHere_12 ?_
    refine lv_aload_n hx hb dX6_signHere_15 rfl (lv_at hl 0 rfl) ?_
    refine va_get (D := (dC, dI)) (ci := 6) (v := .int s1.2.2.1) (C := RX6) (T := TX6) (N := 4) hx hb hts hin6 hown hK hP 0 rfl rfl 2 (by decide) (hts (.fieldLink RX6 31 "OldestCoins$Tape" "place" "I") (List.mem_of_getElem? (i := 1) rfl)) (fun _ h9 => h9) rfl dX6_signHere_16 ?_
    have i2 := (ck_ok hR).1
    replace hR := (ck_ok hR).2
    refine va_bald (f := s1.2.2.2) hx hb hK hP 1 0 rfl rfl i2 dX6_signHere_19 ?_
    refine lv_goto (tgt := 24) hx hb dX6_signHere_20 (by decide) ?_
    subst hQe
    exact W.iret (v := (s1.2.2.2 s1.2.2.1.toNatClampNeg)) hx hb hr (fun t ht hW => ⟨⟨(s1.2.2.2 s1.2.2.1.toNatClampNeg), (), rfl, (Option.some.inj hR).symm, by rw [ht]; exact hP, va_K.moved hW.alike hK, hD⟩, hS.F ht⟩) hS.2.2 dX6_signHere_24
def rr_X6_takes (fu : Nat) (x1 : Int32) (s1 : ZT_6) : Option (Int32 × ZT_6) := (rr_X6_passBlanks fu s1).bind (fun q1 => (if q1.2.1 = (-1 : Int32) then (rr_X6_signHere fu q1).bind (fun q3 => (if q3 = x1 then lt_ (α := Int32) (q1.2.2.1 + (1 : Int32)) (fun z5 => some ((1 : Int32), (q1.1, q1.2.1, z5, q1.2.2.2))) else some ((0 : Int32), q1))) else some ((0 : Int32), q1)))
set_option maxHeartbeats 4000000 in
set_option maxRecDepth 100000 in
theorem cc_X6_takes (l : Launch) (dC : Nat → ClassId) (dI : Nat → Nat → Nat) (fu : Nat) (a1 : Nat → Nat) (k1 : Nat → ClassId) (sz : Nat) (x1 : Int32) (s1 : ZT_6) (res : Int32 × ZT_6) (hR : rr_X6_takes fu x1 s1 = some res) : Met l yX6_takes wsX6_takes ({ frames := 1, cells := 0, slots := 0, locals := 20 } : Room) (PcF [.ref (a1 0), .int x1] sz (dC, dI) (zc_6 a1 k1 s1) (zt_6 k1)) (va_Qi (fun (r : Int32) (u : ZT_6) => res = (r, u)) (fun u t => at3_ (dC, dI) (zc_6 a1 k1 u) (zt_6 k1) (va_A (zc_6 a1 k1 s1) sz) t) (va_A (zc_6 a1 k1 s1) sz)) 0 0 (va_A (zc_6 a1 k1 s1) sz) := by
  refine Met.ofW (cc := cX6_takes) (maxL := 2) (ret := (some .boolean)) (by decide) rfl ?_
  intro p e s m args below meth c s₁ B hml hv
  obtain ⟨hav, hsz, hP, hK, hD0⟩ := hv
  have hx := B.exec
  have hb := B.bytes
  have hr := B.returns
  have hts := atoms_spec (ws := wsX6_takes) B.pre
  have hown : s.vm.findClass RX6 = some m.cls := findClass_of_methodNamed B.named
  have hlocks := B.notSynchronized
  have hin6 : ∀ w ∈ wsX60, w ∈ wsX6_takes := fun w h => List.mem_cons_of_mem _ (List.mem_append_right _ h)
  subst hsz
  have hD := hD0.self (sz := s.heap.size)
  clear hD0
  generalize hAe : va_A (zc_6 a1 k1 s1) s.heap.size = A at hD ⊢
  have hA : ∀ q : Nat, s.heap.size ≤ q → A q := fun q h => by rw [← hAe]; exact Or.inr h
  have hS : va_S A s.heap s.heap [] := va_S.rf
  generalize hQe : MQ below _ args s 0 0 A = Q
  rw [show entryFrame m args 2 = F0 m 0 ((lg_sl ([.ref (a1 0), .int x1]) ++ List.replicate (2 - (lg_sl ([.ref (a1 0), .int x1])).length) Slot.unset).toArray) [] from by rw [hav]; exact lg_entry_eq m _ _]
  have hl := lv_entry ([.ref (a1 0), .int x1]) (n := 2) (Nat.le_of_ble_eq_true rfl)
  generalize (lg_sl ([.ref (a1 0), .int x1]) ++ List.replicate (2 - (lg_sl ([.ref (a1 0), .int x1])).length) Slot.unset).toArray = ls at hl ⊢
  have hl : lv_has ls 2 [(0, .ref (a1 0)), (1, .int x1)] := hl
  unfold rr_X6_takes at hR
  refine lv_aload_n hx hb dX6_takes_0 rfl (lv_at hl 0 rfl) ?_
  have hR0 := ob_ok hR
  clear hR
  obtain ⟨q1, hq1, hR⟩ := hR0
  refine va_callv (va_runV (As := []) (rest := []) ⟨hx, hb, hml, hown, hts⟩ (cc_X6_passBlanks l dC dI fu a1 k1 s.heap.size s1 q1 hq1) (cwV 0 hts gX6_takes_X6_passBlanks rfl rfl rfl (by decide +kernel) ⟨Nat.le_of_ble_eq_true rfl, Nat.le_of_ble_eq_true rfl⟩) (pf_v hK hP hD 6 0 rfl rfl rfl) rfl rfl hl.1 rfl (lv_room (Nat.le_of_ble_eq_true rfl)) dX6_takes_1 ⟨Nat.le_refl _, Nat.le_refl _⟩) hS (fun q _ h => (fr_all hD hS hA) q h) (fr_all hD hS hA) (fun v1 t1 H1 locs1 ht1 hvm1 hw1 hB1 hz1 hk1 hS1 => ?_)
  subst hw1
  obtain ⟨hP1, hD1⟩ := jn_all hD hS hA ht1 hB1
  have hP1 : va_P (dC, dI) vwCl (zc_6 a1 k1 q1) H1 := hP1
  have hD1 : va_D A (zc_6 a1 k1 q1) := hD1
  clear hP hD hS hB1 hk1 hvm1 hz1 ht1
  refine lv_aload_n hx hb dX6_takes_4 rfl (lv_at hl 0 rfl) ?_
  refine va_get (D := (dC, dI)) (ci := 6) (v := .int q1.2.1) (C := RX6) (T := TX6) (N := 4) hx hb hts hin6 hown hK hP1 0 rfl rfl 1 (by decide) (hts (.fieldLink RX6 11 "OldestCoins$Tape" "fault" "I") (List.mem_of_getElem? (i := 1) rfl)) (fun _ h9 => h9) rfl dX6_takes_5 ?_
  refine lv_iconst (v := (-1 : Int32)) hx hb dX6_takes_8 (by decide) ?_
  refine lv_icmp_ne (tgt := 20) hx hb dX6_takes_9 (by decide) (fun c2 => ?_) (fun c2 => ?_)
  · replace hR := ifn_ hR c2
    refine lv_iconst (v := (0 : Int32)) hx hb dX6_takes_20 (by decide) ?_
    subst hQe
    exact W.zret (ty := .boolean) (v := (0 : Int32)) hx hb hr rfl (fun t ht hW => ⟨⟨(0 : Int32), q1, rfl, (Option.some.inj hR).symm, by rw [ht]; exact hP1, va_K.moved hW.alike hK, hD1⟩, hS1.F ht⟩) hS1.2.2 dX6_takes_21
  · replace hR := ifp_ hR c2
    refine lv_aload_n hx hb dX6_takes_12 rfl (lv_at hl 0 rfl) ?_
    have hR0 := ob_ok hR
    clear hR
    obtain ⟨q3, hq3, hR⟩ := hR0
    refine va_calli (va_runV (As := []) (rest := []) ⟨hx, hb, hml, hown, hts⟩ (cc_X6_signHere l dC dI fu a1 k1 H1.size q1 q3 hq3) (cwV 0 hts gX6_takes_X6_signHere rfl rfl rfl (by decide +kernel) ⟨Nat.le_of_ble_eq_true rfl, Nat.le_of_ble_eq_true rfl⟩) (pf_v hK hP1 hD1 6 0 rfl rfl rfl) rfl rfl hl.1 rfl (lv_room (Nat.le_of_ble_eq_true rfl)) dX6_takes_13 ⟨Nat.le_refl _, Nat.le_refl _⟩) hS1 (fun q _ h => (fr_all hD1 hS1 hA) q h) (fr_all hD1 hS1 hA) (fun r3 v3 t3 H3 locs3 ht3 hvm3 hw3 hB3 hz3 hk3 hS3 => ?_)
    subst hw3
    obtain ⟨hP3, hD3⟩ := jn_all hD1 hS1 hA ht3 hB3
    have hP3 : va_P (dC, dI) vwCl (zc_6 a1 k1 q1) H3 := hP3
    have hD3 : va_D A (zc_6 a1 k1 q1) := hD3
    clear hP1 hD1 hS1 hB3 hk3 hvm3 hz3 ht3
    refine lv_iload_n hx hb dX6_takes_16 rfl (lv_at hl 1 rfl) ?_
    refine lv_icmp_eq (tgt := 22) hx hb dX6_takes_17 (by decide) (fun c4 => ?_) (fun c4 => ?_)
    · replace hR := ifp_ hR c4
      refine lv_aload_n hx hb dX6_takes_22 rfl (lv_at hl 0 rfl) ?_
      refine lv_dup hx hb dX6_takes_23 rfl ?_
      refine va_get (D := (dC, dI)) (ci := 6) (v := .int q1.2.2.1) (C := RX6) (T := TX6) (N := 4) hx hb hts hin6 hown hK hP3 0 rfl rfl 2 (by decide) (hts (.fieldLink RX6 31 "OldestCoins$Tape" "place" "I") (List.mem_of_getElem? (i := 2) rfl)) (fun _ h9 => h9) rfl dX6_takes_24 ?_
      refine lv_iconst (v := (1 : Int32)) hx hb dX6_takes_27 (by decide) ?_
      refine lv_iadd hx hb dX6_takes_28 ?_
      refine lv_topi (fun z5 ez5 => ?_)
      replace hR := lt_ok hR ez5
      refine va_put (D := (dC, dI)) (ci := 6) (v := .int z5) (ty := .int) (C := RX6) (T := TX6) (N := 4) hx hb hts hin6 tyX6 tyX6_ok nmX6 hown hK hP3 hD3 hS3 0 rfl rfl 2 (by decide) (hts (.fieldLink RX6 31 "OldestCoins$Tape" "place" "I") (List.mem_of_getElem? (i := 2) rfl)) (fun _ h9 => h9) rfl (by decide +kernel) rfl rfl (Nat.le_of_ble_eq_true rfl) dX6_takes_29 (fun H6 locs6 hP6 hD6 hS6 => ?_)
      have hP6 : va_P (dC, dI) vwCl (zc_6 a1 k1 (q1.1, q1.2.1, z5, q1.2.2.2)) H6 := hP6
      have hD6 : va_D A (zc_6 a1 k1 (q1.1, q1.2.1, z5, q1.2.2.2)) := hD6
      clear hP3 hD3 hS3
      refine lv_iconst (v := (1 : Int32)) hx hb dX6_takes_32 (by decide) ?_
      subst hQe
      exact W.zret (ty := .boolean) (v := (1 : Int32)) hx hb hr rfl (fun t ht hW => ⟨⟨(1 : Int32), (q1.1, q1.2.1, z5, q1.2.2.2), rfl, (Option.some.inj hR).symm, by rw [ht]; exact hP6, va_K.moved hW.alike hK, hD6⟩, hS6.F ht⟩) hS6.2.2 dX6_takes_33
    · replace hR := ifn_ hR c4
      refine lv_iconst (v := (0 : Int32)) hx hb dX6_takes_20 (by decide) ?_
      subst hQe
      exact W.zret (ty := .boolean) (v := (0 : Int32)) hx hb hr rfl (fun t ht hW => ⟨⟨(0 : Int32), q1, rfl, (Option.some.inj hR).symm, by rw [ht]; exact hP3, va_K.moved hW.alike hK, hD3⟩, hS3.F ht⟩) hS3.2.2 dX6_takes_21
def rr_X6_needs (fu : Nat) (x1 : Int32) (s1 : ZT_6) : Option (ZT_6) := (rr_X6_takes fu x1 s1).bind (fun q1 => (if q1.1 = (0 : Int32) then (rr_X6_fail fu q1.2.2.2.1 q1.2).bind (fun q3 => some q3) else some q1.2))
set_option maxHeartbeats 4000000 in
set_option maxRecDepth 100000 in
theorem cc_X6_needs (l : Launch) (dC : Nat → ClassId) (dI : Nat → Nat → Nat) (fu : Nat) (a1 : Nat → Nat) (k1 : Nat → ClassId) (sz : Nat) (x1 : Int32) (s1 : ZT_6) (res : ZT_6) (hR : rr_X6_needs fu x1 s1 = some res) : Met l yX6_needs wsX6_needs ({ frames := 2, cells := 0, slots := 0, locals := 41 } : Room) (PcF [.ref (a1 0), .int x1] sz (dC, dI) (zc_6 a1 k1 s1) (zt_6 k1)) (va_Qv (fun u : ZT_6 => res = u) (fun u t => at3_ (dC, dI) (zc_6 a1 k1 u) (zt_6 k1) (va_A (zc_6 a1 k1 s1) sz) t) (va_A (zc_6 a1 k1 s1) sz)) 0 0 (va_A (zc_6 a1 k1 s1) sz) := by
  refine Met.ofW (cc := cX6_needs) (maxL := 2) (ret := none) (by decide) rfl ?_
  intro p e s m args below meth c s₁ B hml hv
  obtain ⟨hav, hsz, hP, hK, hD0⟩ := hv
  have hx := B.exec
  have hb := B.bytes
  have hr := B.returns
  have hts := atoms_spec (ws := wsX6_needs) B.pre
  have hown : s.vm.findClass RX6 = some m.cls := findClass_of_methodNamed B.named
  have hlocks := B.notSynchronized
  have hin6 : ∀ w ∈ wsX60, w ∈ wsX6_needs := fun w h => List.mem_cons_of_mem _ (List.mem_append_right _ h)
  subst hsz
  have hD := hD0.self (sz := s.heap.size)
  clear hD0
  generalize hAe : va_A (zc_6 a1 k1 s1) s.heap.size = A at hD ⊢
  have hA : ∀ q : Nat, s.heap.size ≤ q → A q := fun q h => by rw [← hAe]; exact Or.inr h
  have hS : va_S A s.heap s.heap [] := va_S.rf
  generalize hQe : MQ below _ args s 0 0 A = Q
  rw [show entryFrame m args 2 = F0 m 0 ((lg_sl ([.ref (a1 0), .int x1]) ++ List.replicate (2 - (lg_sl ([.ref (a1 0), .int x1])).length) Slot.unset).toArray) [] from by rw [hav]; exact lg_entry_eq m _ _]
  have hl := lv_entry ([.ref (a1 0), .int x1]) (n := 2) (Nat.le_of_ble_eq_true rfl)
  generalize (lg_sl ([.ref (a1 0), .int x1]) ++ List.replicate (2 - (lg_sl ([.ref (a1 0), .int x1])).length) Slot.unset).toArray = ls at hl ⊢
  have hl : lv_has ls 2 [(0, .ref (a1 0)), (1, .int x1)] := hl
  unfold rr_X6_needs at hR
  refine lv_aload_n hx hb dX6_needs_0 rfl (lv_at hl 0 rfl) ?_
  refine lv_iload_n hx hb dX6_needs_1 rfl (lv_at hl 1 rfl) ?_
  have hR0 := ob_ok hR
  clear hR
  obtain ⟨q1, hq1, hR⟩ := hR0
  refine va_calli (va_runV (As := [.int x1]) (rest := []) ⟨hx, hb, hml, hown, hts⟩ (cc_X6_takes l dC dI fu a1 k1 s.heap.size x1 s1 q1 hq1) (cwV 1 hts gX6_needs_X6_takes rfl rfl rfl (by decide +kernel) ⟨Nat.le_of_ble_eq_true rfl, Nat.le_of_ble_eq_true rfl⟩) (pf_v hK hP hD 6 0 rfl rfl rfl) rfl rfl hl.1 rfl (lv_room (Nat.le_of_ble_eq_true rfl)) dX6_needs_2 ⟨Nat.le_refl _, Nat.le_refl _⟩) hS (fun q _ h => (fr_all hD hS hA) q h) (fr_all hD hS hA) (fun r1 v1 t1 H1 locs1 ht1 hvm1 hw1 hB1 hz1 hk1 hS1 => ?_)
  obtain rfl : r1 = q1.1 := (congrArg Prod.fst hw1).symm
  obtain rfl : v1 = q1.2 := (congrArg Prod.snd hw1).symm
  obtain ⟨hP1, hD1⟩ := jn_all hD hS hA ht1 hB1
  have hP1 : va_P (dC, dI) vwCl (zc_6 a1 k1 q1.2) H1 := hP1
  have hD1 : va_D A (zc_6 a1 k1 q1.2) := hD1
  clear hP hD hS hB1 hk1 hvm1 hz1 ht1
  refine lv_if_ne (tgt := 16) hx hb dX6_needs_5 (by decide) (fun c2 => ?_) (fun c2 => ?_)
  · replace hR := ifn_ hR c2
    subst hQe
    exact W.vret hx hb hr (fun t ht hW => ⟨⟨q1.2, rfl, (Option.some.inj hR).symm, by rw [ht]; exact hP1, va_K.moved hW.alike hK, hD1⟩, hS1.F ht⟩) hS1.2.2 dX6_needs_16
  · replace hR := ifp_ hR c2
    refine lv_aload_n hx hb dX6_needs_8 rfl (lv_at hl 0 rfl) ?_
    refine lv_aload_n hx hb dX6_needs_9 rfl (lv_at hl 0 rfl) ?_
    refine va_get (D := (dC, dI)) (ci := 6) (v := .int q1.2.2.2.1) (C := RX6) (T := TX6) (N := 4) hx hb hts hin6 hown hK hP1 0 rfl rfl 2 (by decide) (hts (.fieldLink RX6 31 "OldestCoins$Tape" "place" "I") (List.mem_of_getElem? (i := 1) rfl)) (fun _ h9 => h9) rfl dX6_needs_10 ?_
    have hR0 := ob_ok hR
    clear hR
    obtain ⟨q3, hq3, hR⟩ := hR0
    refine va_callv (va_runV (As := [.int q1.2.2.2.1]) (rest := []) ⟨hx, hb, hml, hown, hts⟩ (cc_X6_fail l dC dI fu a1 k1 H1.size q1.2.2.2.1 q1.2 q3 hq3) (cwV 1 hts gX6_needs_X6_fail rfl rfl rfl (by decide +kernel) ⟨Nat.le_of_ble_eq_true rfl, Nat.le_of_ble_eq_true rfl⟩) (pf_v hK hP1 hD1 6 0 rfl rfl rfl) rfl rfl hl.1 rfl (lv_room (Nat.le_of_ble_eq_true rfl)) dX6_needs_13 ⟨Nat.le_refl _, Nat.le_refl _⟩) hS1 (fun q _ h => (fr_all hD1 hS1 hA) q h) (fr_all hD1 hS1 hA) (fun v3 t3 H3 locs3 ht3 hvm3 hw3 hB3 hz3 hk3 hS3 => ?_)
    subst hw3
    obtain ⟨hP3, hD3⟩ := jn_all hD1 hS1 hA ht3 hB3
    have hP3 : va_P (dC, dI) vwCl (zc_6 a1 k1 q3) H3 := hP3
    have hD3 : va_D A (zc_6 a1 k1 q3) := hD3
    clear hP1 hD1 hS1 hB3 hk3 hvm3 hz3 ht3
    subst hQe
    exact W.vret hx hb hr (fun t ht hW => ⟨⟨q3, rfl, (Option.some.inj hR).symm, by rw [ht]; exact hP3, va_K.moved hW.alike hK, hD3⟩, hS3.F ht⟩) hS3.2.2 dX6_needs_16
def rr_X6_takeDigit (fu : Nat) (x1 : Int32) (x2 : Int32) (s1 : ZT_6) : Option (Int32 × ZT_6) := (rr_X6_passBlanks fu s1).bind (fun q1 => (rr_X6_signHere fu q1).bind (fun q2 => lt_ (α := Int32) (q2 - (48 : Int32)) (fun z3 => (rr_X9_isWithin fu z3 x1 x2).bind (fun q5 => (if q5 = (0 : Int32) then (rr_X6_fail fu q1.2.2.1 q1).bind (fun q9 => some (x1, q9)) else lt_ (α := Int32) (q1.2.2.1 + (1 : Int32)) (fun z7 => some (z3, (q1.1, q1.2.1, z7, q1.2.2.2))))))))
set_option maxHeartbeats 4000000 in
set_option maxRecDepth 100000 in
theorem cc_X6_takeDigit (l : Launch) (dC : Nat → ClassId) (dI : Nat → Nat → Nat) (fu : Nat) (a1 : Nat → Nat) (k1 : Nat → ClassId) (sz : Nat) (x1 : Int32) (x2 : Int32) (s1 : ZT_6) (res : Int32 × ZT_6) (hR : rr_X6_takeDigit fu x1 x2 s1 = some res) : Met l yX6_takeDigit wsX6_takeDigit ({ frames := 1, cells := 0, slots := 0, locals := 22 } : Room) (PcN [.ref (a1 0), .int x1, .int x2] sz (dC, dI) (zc_6 a1 k1 s1) (zt_6 k1)) (va_Qi (fun (r : Int32) (u : ZT_6) => res = (r, u)) (fun u t => at3_ (dC, dI) (zc_6 a1 k1 u) (zt_6 k1) (va_A (zc_6 a1 k1 s1) sz) t) (va_A (zc_6 a1 k1 s1) sz)) 0 0 (va_A (zc_6 a1 k1 s1) sz) := by
  refine Met.ofW (cc := cX6_takeDigit) (maxL := 4) (ret := (some .int)) (by decide) rfl ?_
  intro p e s m args below meth c s₁ B hml hv
  obtain ⟨hav, hsz, hP, hK, hD0, hN⟩ := hv
  have hx := B.exec
  have hb := B.bytes
  have hr := B.returns
  have hts := atoms_spec (ws := wsX6_takeDigit) B.pre
  have hown : s.vm.findClass RX6 = some m.cls := findClass_of_methodNamed B.named
  have hlocks := B.notSynchronized
  have hin6 : ∀ w ∈ wsX60, w ∈ wsX6_takeDigit := fun w h => List.mem_cons_of_mem _ (List.mem_append_right _ h)
  subst hsz
  have hD := hD0.self (sz := s.heap.size)
  clear hD0
  generalize hAe : va_A (zc_6 a1 k1 s1) s.heap.size = A at hD ⊢
  have hA : ∀ q : Nat, s.heap.size ≤ q → A q := fun q h => by rw [← hAe]; exact Or.inr h
  have hS : va_S A s.heap s.heap [] := va_S.rf
  generalize hQe : MQ below _ args s 0 0 A = Q
  rw [show entryFrame m args 4 = F0 m 0 ((lg_sl ([.ref (a1 0), .int x1, .int x2]) ++ List.replicate (4 - (lg_sl ([.ref (a1 0), .int x1, .int x2])).length) Slot.unset).toArray) [] from by rw [hav]; exact lg_entry_eq m _ _]
  have hl := lv_entry ([.ref (a1 0), .int x1, .int x2]) (n := 4) (Nat.le_of_ble_eq_true rfl)
  generalize (lg_sl ([.ref (a1 0), .int x1, .int x2]) ++ List.replicate (4 - (lg_sl ([.ref (a1 0), .int x1, .int x2])).length) Slot.unset).toArray = ls at hl ⊢
  have hl : lv_has ls 4 [(0, .ref (a1 0)), (1, .int x1), (2, .int x2)] := hl
  unfold rr_X6_takeDigit at hR
  refine lv_aload_n hx hb dX6_takeDigit_0 rfl (lv_at hl 0 rfl) ?_
  have hR0 := ob_ok hR
  clear hR
  obtain ⟨q1, hq1, hR⟩ := hR0
  refine va_callv (va_runV (As := []) (rest := []) ⟨hx, hb, hml, hown, hts⟩ (cc_X6_passBlanks l dC dI fu a1 k1 s.heap.size s1 q1 hq1) (cwV 0 hts gX6_takeDigit_X6_passBlanks rfl rfl rfl (by decide +kernel) ⟨Nat.le_of_ble_eq_true rfl, Nat.le_of_ble_eq_true rfl⟩) (pf_v hK hP hD 6 0 rfl rfl rfl) rfl rfl hl.1 rfl (lv_room (Nat.le_of_ble_eq_true rfl)) dX6_takeDigit_1 ⟨Nat.le_refl _, Nat.le_refl _⟩) hS (fun q _ h => (fr_all hD hS hA) q h) (fr_all hD hS hA) (fun v1 t1 H1 locs1 ht1 hvm1 hw1 hB1 hz1 hk1 hS1 => ?_)
  subst hw1
  obtain ⟨hP1, hD1⟩ := jn_all hD hS hA ht1 hB1
  have hP1 : va_P (dC, dI) vwCl (zc_6 a1 k1 q1) H1 := hP1
  have hD1 : va_D A (zc_6 a1 k1 q1) := hD1
  clear hP hD hS hB1 hk1 hvm1 hz1 ht1
  refine lv_aload_n hx hb dX6_takeDigit_4 rfl (lv_at hl 0 rfl) ?_
  have hR0 := ob_ok hR
  clear hR
  obtain ⟨q2, hq2, hR⟩ := hR0
  refine va_calli (va_runV (As := []) (rest := []) ⟨hx, hb, hml, hown, hts⟩ (cc_X6_signHere l dC dI fu a1 k1 H1.size q1 q2 hq2) (cwV 0 hts gX6_takeDigit_X6_signHere rfl rfl rfl (by decide +kernel) ⟨Nat.le_of_ble_eq_true rfl, Nat.le_of_ble_eq_true rfl⟩) (pf_v hK hP1 hD1 6 0 rfl rfl rfl) rfl rfl hl.1 rfl (lv_room (Nat.le_of_ble_eq_true rfl)) dX6_takeDigit_5 ⟨Nat.le_refl _, Nat.le_refl _⟩) hS1 (fun q _ h => (fr_all hD1 hS1 hA) q h) (fr_all hD1 hS1 hA) (fun r2 v2 t2 H2 locs2 ht2 hvm2 hw2 hB2 hz2 hk2 hS2 => ?_)
  subst hw2
  obtain ⟨hP2, hD2⟩ := jn_all hD1 hS1 hA ht2 hB2
  have hP2 : va_P (dC, dI) vwCl (zc_6 a1 k1 q1) H2 := hP2
  have hD2 : va_D A (zc_6 a1 k1 q1) := hD2
  clear hP1 hD1 hS1 hB2 hk2 hvm2 hz2 ht2
  refine lv_bipush (v := (48 : Int32)) hx hb dX6_takeDigit_8 (by decide) ?_
  refine lv_isub hx hb dX6_takeDigit_10 ?_
  refine lv_topi (fun z3 ez3 => ?_)
  replace hR := lt_ok hR ez3
  refine lv_istore_n (lv' := [(3, .int z3), (0, .ref (a1 0)), (1, .int x1), (2, .int x2)]) hx hb dX6_takeDigit_11 rfl hl (by decide) rfl (fun ls4 hl4 => ?_)
  refine lv_iload_n hx hb dX6_takeDigit_12 rfl (lv_at hl4 0 rfl) ?_
  refine lv_iload_n hx hb dX6_takeDigit_13 rfl (lv_at hl4 2 rfl) ?_
  refine lv_iload_n hx hb dX6_takeDigit_14 rfl (lv_at hl4 3 rfl) ?_
  have hR0 := ob_ok hR
  clear hR
  obtain ⟨q5, hq5, hR⟩ := hR0
  refine va_calli (va_runSN (As := [.int z3, .int x1, .int x2]) (rest := []) ⟨hx, hb, hml, hown, hts⟩ (cc_X9_isWithin l dC dI fu H2.size z3 x1 x2 q5 hq5) ⟨va_cnB 3 hts gX6_takeDigit_X9_isWithin_n21 rfl rfl rfl hN (hts (.initialized RX9) (List.mem_of_getElem? (i := 14) rfl)) (by decide +kernel) ⟨Nat.le_of_ble_eq_true rfl, Nat.le_of_ble_eq_true rfl⟩, (hts (.static yX9_isWithin) (List.mem_of_getElem? (i := 13) rfl)), trivial⟩ (pf_s (nil_K hK) nil_P (nil_D (A := A))) rfl rfl hl4.1 rfl (lv_room (Nat.le_of_ble_eq_true rfl)) dX6_takeDigit_15 ⟨Nat.le_refl _, Nat.le_refl _⟩) hS2 (fun q _ h => (fr_none hS2 hA) q h) (fr_none hS2 hA) (fun r5 v5 t5 H5 locs5 ht5 hvm5 hw5 hB5 hz5 hk5 hS5 => ?_)
  subst hw5
  have hP5 := jn_none hP2 hk5
  have hD5 := hD2
  have hP5 : va_P (dC, dI) vwCl (zc_6 a1 k1 q1) H5 := hP5
  have hD5 : va_D A (zc_6 a1 k1 q1) := hD5
  clear hP2 hD2 hS2 hB5 hk5 hvm5 hz5 ht5
  refine lv_if_ne (tgt := 31) hx hb dX6_takeDigit_18 (by decide) (fun c6 => ?_) (fun c6 => ?_)
  · replace hR := ifn_ hR c6
    refine lv_aload_n hx hb dX6_takeDigit_31 rfl (lv_at hl4 1 rfl) ?_
    refine lv_dup hx hb dX6_takeDigit_32 rfl ?_
    refine va_get (D := (dC, dI)) (ci := 6) (v := .int q1.2.2.1) (C := RX6) (T := TX6) (N := 4) hx hb hts hin6 hown hK hP5 0 rfl rfl 2 (by decide) (hts (.fieldLink RX6 31 "OldestCoins$Tape" "place" "I") (List.mem_of_getElem? (i := 1) rfl)) (fun _ h9 => h9) rfl dX6_takeDigit_33 ?_
    refine lv_iconst (v := (1 : Int32)) hx hb dX6_takeDigit_36 (by decide) ?_
    refine lv_iadd hx hb dX6_takeDigit_37 ?_
    refine lv_topi (fun z7 ez7 => ?_)
    replace hR := lt_ok hR ez7
    refine va_put (D := (dC, dI)) (ci := 6) (v := .int z7) (ty := .int) (C := RX6) (T := TX6) (N := 4) hx hb hts hin6 tyX6 tyX6_ok nmX6 hown hK hP5 hD5 hS5 0 rfl rfl 2 (by decide) (hts (.fieldLink RX6 31 "OldestCoins$Tape" "place" "I") (List.mem_of_getElem? (i := 1) rfl)) (fun _ h9 => h9) rfl (by decide +kernel) rfl rfl (Nat.le_of_ble_eq_true rfl) dX6_takeDigit_38 (fun H8 locs8 hP8 hD8 hS8 => ?_)
    have hP8 : va_P (dC, dI) vwCl (zc_6 a1 k1 (q1.1, q1.2.1, z7, q1.2.2.2)) H8 := hP8
    have hD8 : va_D A (zc_6 a1 k1 (q1.1, q1.2.1, z7, q1.2.2.2)) := hD8
    clear hP5 hD5 hS5
    refine lv_iload_n hx hb dX6_takeDigit_41 rfl (lv_at hl4 0 rfl) ?_
    subst hQe
    exact W.iret (v := z3) hx hb hr (fun t ht hW => ⟨⟨z3, (q1.1, q1.2.1, z7, q1.2.2.2), rfl, (Option.some.inj hR).symm, by rw [ht]; exact hP8, va_K.moved hW.alike hK, hD8⟩, hS8.F ht⟩) hS8.2.2 dX6_takeDigit_42
  · replace hR := ifp_ hR c6
    refine lv_aload_n hx hb dX6_takeDigit_21 rfl (lv_at hl4 1 rfl) ?_
    refine lv_aload_n hx hb dX6_takeDigit_22 rfl (lv_at hl4 1 rfl) ?_
    refine va_get (D := (dC, dI)) (ci := 6) (v := .int q1.2.2.1) (C := RX6) (T := TX6) (N := 4) hx hb hts hin6 hown hK hP5 0 rfl rfl 2 (by decide) (hts (.fieldLink RX6 31 "OldestCoins$Tape" "place" "I") (List.mem_of_getElem? (i := 1) rfl)) (fun _ h9 => h9) rfl dX6_takeDigit_23 ?_
    have hR0 := ob_ok hR
    clear hR
    obtain ⟨q9, hq9, hR⟩ := hR0
    refine va_callv (va_runV (As := [.int q1.2.2.1]) (rest := []) ⟨hx, hb, hml, hown, hts⟩ (cc_X6_fail l dC dI fu a1 k1 H5.size q1.2.2.1 q1 q9 hq9) (cwV 1 hts gX6_takeDigit_X6_fail rfl rfl rfl (by decide +kernel) ⟨Nat.le_of_ble_eq_true rfl, Nat.le_of_ble_eq_true rfl⟩) (pf_v hK hP5 hD5 6 0 rfl rfl rfl) rfl rfl hl4.1 rfl (lv_room (Nat.le_of_ble_eq_true rfl)) dX6_takeDigit_26 ⟨Nat.le_refl _, Nat.le_refl _⟩) hS5 (fun q _ h => (fr_all hD5 hS5 hA) q h) (fr_all hD5 hS5 hA) (fun v9 t9 H9 locs9 ht9 hvm9 hw9 hB9 hz9 hk9 hS9 => ?_)
    subst hw9
    obtain ⟨hP9, hD9⟩ := jn_all hD5 hS5 hA ht9 hB9
    have hP9 : va_P (dC, dI) vwCl (zc_6 a1 k1 q9) H9 := hP9
    have hD9 : va_D A (zc_6 a1 k1 q9) := hD9
    clear hP5 hD5 hS5 hB9 hk9 hvm9 hz9 ht9
    refine lv_iload_n hx hb dX6_takeDigit_29 rfl (lv_at hl4 2 rfl) ?_
    subst hQe
    exact W.iret (v := x1) hx hb hr (fun t ht hW => ⟨⟨x1, q9, rfl, (Option.some.inj hR).symm, by rw [ht]; exact hP9, va_K.moved hW.alike hK, hD9⟩, hS9.F ht⟩) hS9.2.2 dX6_takeDigit_30
def rr_X6_takeNumber_98 (fu : Nat) (y1 : Int32) (y3 : Int32) (u1 : ZT_6) : Option (Int32 × ZT_6) := (rr_X6_fail fu y3 u1).bind (fun q16 => some (y1, q16))
def rr_X6_takeNumber_80 (fu : Nat) (y1 : Int32) (y2 : Int32) (y3 : Int32) (y4 : Int32) (u1 : ZT_6) : Option (Int32 × ZT_6) := (if u1.2.2.1 = y3 then rr_X6_takeNumber_98 fu y1 y3 u1 else (rr_X9_isWithin fu y4 y1 y2).bind (fun q14 => (if q14 = (0 : Int32) then rr_X6_takeNumber_98 fu y1 y3 u1 else some (y4, u1))))
def rr_X6_takeNumber_12_b (fu : Nat) (rec12 : Int32 → Int32 → Int32 → Int32 → ZT_6 → Option (Int32 × ZT_6)) (y1 : Int32) (y2 : Int32) (y3 : Int32) (y4 : Int32) (u1 : ZT_6) : Option (Int32 × ZT_6) := (if u1.1 ≤ u1.2.2.1 then rr_X6_takeNumber_80 fu y1 y2 y3 y4 u1 else ck_ u1.2.2.1 160 ((rr_X9_isWithin fu (u1.2.2.2 u1.2.2.1.toNatClampNeg) (48 : Int32) (57 : Int32)).bind (fun q6 => (if q6 = (0 : Int32) then rr_X6_takeNumber_80 fu y1 y2 y3 y4 u1 else ck_ u1.2.2.1 160 (lt_ (α := Int32) (if (100000 : Int32) < (((y4 * (10 : Int32)) + (u1.2.2.2 u1.2.2.1.toNatClampNeg)) - (48 : Int32)) then (100000 : Int32) else (((y4 * (10 : Int32)) + (u1.2.2.2 u1.2.2.1.toNatClampNeg)) - (48 : Int32))) (fun z9 => lt_ (α := Int32) (u1.2.2.1 + (1 : Int32)) (fun z11 => rec12 y1 y2 y3 z9 (u1.1, u1.2.1, z11, u1.2.2.2))))))))
def rr_X6_takeNumber_12 (fu : Nat) (n : Nat) : Int32 → Int32 → Int32 → Int32 → ZT_6 → Option (Int32 × ZT_6) := lp_ (fun _ _ _ _ _ => none) (rr_X6_takeNumber_12_b fu) n
def rr_X6_takeNumber (fu : Nat) (x1 : Int32) (x2 : Int32) (s1 : ZT_6) : Option (Int32 × ZT_6) := (rr_X6_passBlanks fu s1).bind (fun q1 => rr_X6_takeNumber_12 fu fu x1 x2 q1.2.2.1 (0 : Int32) q1)
set_option maxHeartbeats 4000000 in
set_option maxRecDepth 100000 in
theorem cc_X6_takeNumber (l : Launch) (dC : Nat → ClassId) (dI : Nat → Nat → Nat) (fu : Nat) (a1 : Nat → Nat) (k1 : Nat → ClassId) (sz : Nat) (x1 : Int32) (x2 : Int32) (s1 : ZT_6) (res : Int32 × ZT_6) (hR : rr_X6_takeNumber fu x1 x2 s1 = some res) : Met l yX6_takeNumber wsX6_takeNumber ({ frames := 1, cells := 0, slots := 0, locals := 22 } : Room) (PcN [.ref (a1 0), .int x1, .int x2] sz (dC, dI) (zc_6 a1 k1 s1) (zt_6 k1)) (va_Qi (fun (r : Int32) (u : ZT_6) => res = (r, u)) (fun u t => at3_ (dC, dI) (zc_6 a1 k1 u) (zt_6 k1) (va_A (zc_6 a1 k1 s1) sz) t) (va_A (zc_6 a1 k1 s1) sz)) 0 0 (va_A (zc_6 a1 k1 s1) sz) := by
  refine Met.ofW (cc := cX6_takeNumber) (maxL := 5) (ret := (some .int)) (by decide) rfl ?_
  intro p e s m args below meth c s₁ B hml hv
  obtain ⟨hav, hsz, hP, hK, hD0, hN⟩ := hv
  have hx := B.exec
  have hb := B.bytes
  have hr := B.returns
  have hts := atoms_spec (ws := wsX6_takeNumber) B.pre
  have hown : s.vm.findClass RX6 = some m.cls := findClass_of_methodNamed B.named
  have hlocks := B.notSynchronized
  have hin6 : ∀ w ∈ wsX60, w ∈ wsX6_takeNumber := fun w h => List.mem_cons_of_mem _ (List.mem_append_right _ h)
  subst hsz
  have hD := hD0.self (sz := s.heap.size)
  clear hD0
  generalize hAe : va_A (zc_6 a1 k1 s1) s.heap.size = A at hD ⊢
  have hA : ∀ q : Nat, s.heap.size ≤ q → A q := fun q h => by rw [← hAe]; exact Or.inr h
  have hS : va_S A s.heap s.heap [] := va_S.rf
  generalize hQe : MQ below _ args s 0 0 A = Q
  rw [show entryFrame m args 5 = F0 m 0 ((lg_sl ([.ref (a1 0), .int x1, .int x2]) ++ List.replicate (5 - (lg_sl ([.ref (a1 0), .int x1, .int x2])).length) Slot.unset).toArray) [] from by rw [hav]; exact lg_entry_eq m _ _]
  have hl := lv_entry ([.ref (a1 0), .int x1, .int x2]) (n := 5) (Nat.le_of_ble_eq_true rfl)
  generalize (lg_sl ([.ref (a1 0), .int x1, .int x2]) ++ List.replicate (5 - (lg_sl ([.ref (a1 0), .int x1, .int x2])).length) Slot.unset).toArray = ls at hl ⊢
  have hl : lv_has ls 5 [(0, .ref (a1 0)), (1, .int x1), (2, .int x2)] := hl
  have hB98 : ∀ (y1 : Int32) (y3 : Int32) (u1 : ZT_6) (H : Heap) (locs : List Loc) (ls : Array Slot), va_P (dC, dI) vwCl (zc_6 a1 k1 u1) H → va_D A (zc_6 a1 k1 u1) → va_S A s.heap H locs → lv_has ls 5 [(0, .ref (a1 0)), (1, .int y1), (3, .int y3)] → rr_X6_takeNumber_98 fu y1 y3 u1 = some res → W p l e ({ frames := 1, cells := 0, slots := 0, locals := 22 } : Room) s m args below meth c H locs 0 0 Q (F0 m 98 ls []) := by
    intro  y1 y3 u1 H locs ls hP hD hS hl hR
    unfold rr_X6_takeNumber_98 at hR
    refine lv_aload_n hx hb dX6_takeNumber_98 rfl (lv_at hl 0 rfl) ?_
    refine lv_iload_n hx hb dX6_takeNumber_99 rfl (lv_at hl 2 rfl) ?_
    have hR0 := ob_ok hR
    clear hR
    obtain ⟨q16, hq16, hR⟩ := hR0
    refine va_callv (va_runV (As := [.int y3]) (rest := []) ⟨hx, hb, hml, hown, hts⟩ (cc_X6_fail l dC dI fu a1 k1 H.size y3 u1 q16 hq16) (cwV 1 hts gX6_takeNumber_X6_fail rfl rfl rfl (by decide +kernel) ⟨Nat.le_of_ble_eq_true rfl, Nat.le_of_ble_eq_true rfl⟩) (pf_v hK hP hD 6 0 rfl rfl rfl) rfl rfl hl.1 rfl (lv_room (Nat.le_of_ble_eq_true rfl)) dX6_takeNumber_100 ⟨Nat.le_refl _, Nat.le_refl _⟩) hS (fun q _ h => (fr_all hD hS hA) q h) (fr_all hD hS hA) (fun v16 t16 H16 locs16 ht16 hvm16 hw16 hB16 hz16 hk16 hS16 => ?_)
    subst hw16
    obtain ⟨hP16, hD16⟩ := jn_all hD hS hA ht16 hB16
    have hP16 : va_P (dC, dI) vwCl (zc_6 a1 k1 q16) H16 := hP16
    have hD16 : va_D A (zc_6 a1 k1 q16) := hD16
    clear hP hD hS hB16 hk16 hvm16 hz16 ht16
    refine lv_iload_n hx hb dX6_takeNumber_103 rfl (lv_at hl 1 rfl) ?_
    subst hQe
    exact W.iret (v := y1) hx hb hr (fun t ht hW => ⟨⟨y1, q16, rfl, (Option.some.inj hR).symm, by rw [ht]; exact hP16, va_K.moved hW.alike hK, hD16⟩, hS16.F ht⟩) hS16.2.2 dX6_takeNumber_104
  have hB80 : ∀ (y1 : Int32) (y2 : Int32) (y3 : Int32) (y4 : Int32) (u1 : ZT_6) (H : Heap) (locs : List Loc) (ls : Array Slot), va_P (dC, dI) vwCl (zc_6 a1 k1 u1) H → va_D A (zc_6 a1 k1 u1) → va_S A s.heap H locs → lv_has ls 5 [(0, .ref (a1 0)), (1, .int y1), (2, .int y2), (3, .int y3), (4, .int y4)] → rr_X6_takeNumber_80 fu y1 y2 y3 y4 u1 = some res → W p l e ({ frames := 1, cells := 0, slots := 0, locals := 22 } : Room) s m args below meth c H locs 0 0 Q (F0 m 80 ls []) := by
    intro  y1 y2 y3 y4 u1 H locs ls hP hD hS hl hR
    unfold rr_X6_takeNumber_80 at hR
    refine lv_aload_n hx hb dX6_takeNumber_80 rfl (lv_at hl 0 rfl) ?_
    refine va_get (D := (dC, dI)) (ci := 6) (v := .int u1.2.2.1) (C := RX6) (T := TX6) (N := 4) hx hb hts hin6 hown hK hP 0 rfl rfl 2 (by decide) (hts (.fieldLink RX6 31 "OldestCoins$Tape" "place" "I") (List.mem_of_getElem? (i := 1) rfl)) (fun _ h9 => h9) rfl dX6_takeNumber_81 ?_
    refine lv_iload_n hx hb dX6_takeNumber_84 rfl (lv_at hl 3 rfl) ?_
    refine lv_icmp_eq (tgt := 98) hx hb dX6_takeNumber_85 (by decide) (fun c13 => ?_) (fun c13 => ?_)
    · replace hR := ifp_ hR c13
      exact hB98 y1 y3 u1 H locs ls hP hD hS (lv_sub hl [0, 1, 3] rfl) hR
    · replace hR := ifn_ hR c13
      refine lv_iload hx hb dX6_takeNumber_88 (lv_at hl 4 rfl) ?_
      refine lv_iload_n hx hb dX6_takeNumber_90 rfl (lv_at hl 1 rfl) ?_
      refine lv_iload_n hx hb dX6_takeNumber_91 rfl (lv_at hl 2 rfl) ?_
      have hR0 := ob_ok hR
      clear hR
      obtain ⟨q14, hq14, hR⟩ := hR0
      refine va_calli (va_runSN (As := [.int y4, .int y1, .int y2]) (rest := []) ⟨hx, hb, hml, hown, hts⟩ (cc_X9_isWithin l dC dI fu H.size y4 y1 y2 q14 hq14) ⟨va_cnB 3 hts gX6_takeNumber_X9_isWithin_n21 rfl rfl rfl hN (hts (.initialized RX9) (List.mem_of_getElem? (i := 15) rfl)) (by decide +kernel) ⟨Nat.le_of_ble_eq_true rfl, Nat.le_of_ble_eq_true rfl⟩, (hts (.static yX9_isWithin) (List.mem_of_getElem? (i := 14) rfl)), trivial⟩ (pf_s (nil_K hK) nil_P (nil_D (A := A))) rfl rfl hl.1 rfl (lv_room (Nat.le_of_ble_eq_true rfl)) dX6_takeNumber_92 ⟨Nat.le_refl _, Nat.le_refl _⟩) hS (fun q _ h => (fr_none hS hA) q h) (fr_none hS hA) (fun r14 v14 t14 H14 locs14 ht14 hvm14 hw14 hB14 hz14 hk14 hS14 => ?_)
      subst hw14
      have hP14 := jn_none hP hk14
      have hD14 := hD
      have hP14 : va_P (dC, dI) vwCl (zc_6 a1 k1 u1) H14 := hP14
      have hD14 : va_D A (zc_6 a1 k1 u1) := hD14
      clear hP hD hS hB14 hk14 hvm14 hz14 ht14
      refine lv_if_ne (tgt := 105) hx hb dX6_takeNumber_95 (by decide) (fun c15 => ?_) (fun c15 => ?_)
      · replace hR := ifn_ hR c15
        refine lv_iload hx hb dX6_takeNumber_105 (lv_at hl 4 rfl) ?_
        subst hQe
        exact W.iret (v := y4) hx hb hr (fun t ht hW => ⟨⟨y4, u1, rfl, (Option.some.inj hR).symm, by rw [ht]; exact hP14, va_K.moved hW.alike hK, hD14⟩, hS14.F ht⟩) hS14.2.2 dX6_takeNumber_107
      · replace hR := ifp_ hR c15
        exact hB98 y1 y3 u1 H14 locs14 ls hP14 hD14 hS14 (lv_sub hl [0, 1, 3] rfl) hR
  have hB12 : ∀ (n : Nat), ∀ (y1 : Int32) (y2 : Int32) (y3 : Int32) (y4 : Int32) (u1 : ZT_6) (H : Heap) (locs : List Loc) (ls : Array Slot), va_P (dC, dI) vwCl (zc_6 a1 k1 u1) H → va_D A (zc_6 a1 k1 u1) → va_S A s.heap H locs → lv_has ls 5 [(0, .ref (a1 0)), (1, .int y1), (2, .int y2), (3, .int y3), (4, .int y4)] → rr_X6_takeNumber_12 fu n y1 y2 y3 y4 u1 = some res → W p l e ({ frames := 1, cells := 0, slots := 0, locals := 22 } : Room) s m args below meth c H locs 0 0 Q (F0 m 12 ls []) := by
    intro  n
    induction n with
    | zero => intro y1 y2 y3 y4 u1 H locs ls hP hD hS hl hR; exact absurd hR (by intro h; cases h)
    | succ n ih =>
      intro y1 y2 y3 y4 u1 H locs ls hP hD hS hl hR
      replace hR : rr_X6_takeNumber_12_b fu (rr_X6_takeNumber_12 fu n) y1 y2 y3 y4 u1 = some res := hR
      unfold rr_X6_takeNumber_12_b at hR
      refine lv_aload_n hx hb dX6_takeNumber_12 rfl (lv_at hl 0 rfl) ?_
      refine va_get (D := (dC, dI)) (ci := 6) (v := .int u1.2.2.1) (C := RX6) (T := TX6) (N := 4) hx hb hts hin6 hown hK hP 0 rfl rfl 2 (by decide) (hts (.fieldLink RX6 31 "OldestCoins$Tape" "place" "I") (List.mem_of_getElem? (i := 1) rfl)) (fun _ h9 => h9) rfl dX6_takeNumber_13 ?_
      refine lv_aload_n hx hb dX6_takeNumber_16 rfl (lv_at hl 0 rfl) ?_
      refine va_get (D := (dC, dI)) (ci := 6) (v := .int u1.1) (C := RX6) (T := TX6) (N := 4) hx hb hts hin6 hown hK hP 0 rfl rfl 0 (by decide) (hts (.fieldLink RX6 25 "OldestCoins$Tape" "size" "I") (List.mem_of_getElem? (i := 2) rfl)) (fun _ h9 => h9) rfl dX6_takeNumber_17 ?_
      refine lv_icmp_ge (tgt := 80) hx hb dX6_takeNumber_20 (by decide) (fun c4 => ?_) (fun c4 => ?_)
      · replace hR := ifp_ hR c4
        exact hB80 y1 y2 y3 y4 u1 H locs ls hP hD hS (lv_sub hl [0, 1, 2, 3, 4] rfl) hR
      · replace hR := ifn_ hR c4
        refine lv_aload_n hx hb dX6_takeNumber_23 rfl (lv_at hl 0 rfl) ?_
        refine va_get (D := (dC, dI)) (ci := 6) (v := .ref (a1 1)) (C := RX6) (T := TX6) (N := 4) hx hb hts hin6 hown hK hP 0 rfl rfl 3 (by decide) (hts (.fieldLink RX6 15 "OldestCoins$Tape" "bytes" "[B") (List.mem_of_getElem? (i := 3) rfl)) (fun _ h9 => h9) rfl dX6_takeNumber_24 ?_
        refine lv_aload_n hx hb dX6_takeNumber_27 rfl (lv_at hl 0 rfl) ?_
        refine va_get (D := (dC, dI)) (ci := 6) (v := .int u1.2.2.1) (C := RX6) (T := TX6) (N := 4) hx hb hts hin6 hown hK hP 0 rfl rfl 2 (by decide) (hts (.fieldLink RX6 31 "OldestCoins$Tape" "place" "I") (List.mem_of_getElem? (i := 1) rfl)) (fun _ h9 => h9) rfl dX6_takeNumber_28 ?_
        have i5 := (ck_ok hR).1
        replace hR := (ck_ok hR).2
        refine va_bald (f := u1.2.2.2) hx hb hK hP 1 0 rfl rfl i5 dX6_takeNumber_31 ?_
        refine lv_bipush (v := (48 : Int32)) hx hb dX6_takeNumber_32 (by decide) ?_
        refine lv_bipush (v := (57 : Int32)) hx hb dX6_takeNumber_34 (by decide) ?_
        have hR0 := ob_ok hR
        clear hR
        obtain ⟨q6, hq6, hR⟩ := hR0
        refine va_calli (va_runSN (As := [.int (u1.2.2.2 u1.2.2.1.toNatClampNeg), .int (48 : Int32), .int (57 : Int32)]) (rest := []) ⟨hx, hb, hml, hown, hts⟩ (cc_X9_isWithin l dC dI fu H.size (u1.2.2.2 u1.2.2.1.toNatClampNeg) (48 : Int32) (57 : Int32) q6 hq6) ⟨va_cnB 3 hts gX6_takeNumber_X9_isWithin_n21 rfl rfl rfl hN (hts (.initialized RX9) (List.mem_of_getElem? (i := 15) rfl)) (by decide +kernel) ⟨Nat.le_of_ble_eq_true rfl, Nat.le_of_ble_eq_true rfl⟩, (hts (.static yX9_isWithin) (List.mem_of_getElem? (i := 14) rfl)), trivial⟩ (pf_s (nil_K hK) nil_P (nil_D (A := A))) rfl rfl hl.1 rfl (lv_room (Nat.le_of_ble_eq_true rfl)) dX6_takeNumber_36 ⟨Nat.le_refl _, Nat.le_refl _⟩) hS (fun q _ h => (fr_none hS hA) q h) (fr_none hS hA) (fun r6 v6 t6 H6 locs6 ht6 hvm6 hw6 hB6 hz6 hk6 hS6 => ?_)
        subst hw6
        have hP6 := jn_none hP hk6
        have hD6 := hD
        have hP6 : va_P (dC, dI) vwCl (zc_6 a1 k1 u1) H6 := hP6
        have hD6 : va_D A (zc_6 a1 k1 u1) := hD6
        clear hP hD hS hB6 hk6 hvm6 hz6 ht6
        refine lv_if_eq (tgt := 80) hx hb dX6_takeNumber_39 (by decide) (fun c7 => ?_) (fun c7 => ?_)
        · replace hR := ifp_ hR c7
          exact hB80 y1 y2 y3 y4 u1 H6 locs6 ls hP6 hD6 hS6 (lv_sub hl [0, 1, 2, 3, 4] rfl) hR
        · replace hR := ifn_ hR c7
          refine lv_iload hx hb dX6_takeNumber_42 (lv_at hl 4 rfl) ?_
          refine lv_bipush (v := (10 : Int32)) hx hb dX6_takeNumber_44 (by decide) ?_
          refine lv_imul hx hb dX6_takeNumber_46 ?_
          refine lv_aload_n hx hb dX6_takeNumber_47 rfl (lv_at hl 0 rfl) ?_
          refine va_get (D := (dC, dI)) (ci := 6) (v := .ref (a1 1)) (C := RX6) (T := TX6) (N := 4) hx hb hts hin6 hown hK hP6 0 rfl rfl 3 (by decide) (hts (.fieldLink RX6 15 "OldestCoins$Tape" "bytes" "[B") (List.mem_of_getElem? (i := 3) rfl)) (fun _ h9 => h9) rfl dX6_takeNumber_48 ?_
          refine lv_aload_n hx hb dX6_takeNumber_51 rfl (lv_at hl 0 rfl) ?_
          refine va_get (D := (dC, dI)) (ci := 6) (v := .int u1.2.2.1) (C := RX6) (T := TX6) (N := 4) hx hb hts hin6 hown hK hP6 0 rfl rfl 2 (by decide) (hts (.fieldLink RX6 31 "OldestCoins$Tape" "place" "I") (List.mem_of_getElem? (i := 1) rfl)) (fun _ h9 => h9) rfl dX6_takeNumber_52 ?_
          have i8 := (ck_ok hR).1
          replace hR := (ck_ok hR).2
          refine va_bald (f := u1.2.2.2) hx hb hK hP6 1 0 rfl rfl i8 dX6_takeNumber_55 ?_
          refine lv_iadd hx hb dX6_takeNumber_56 ?_
          refine lv_bipush (v := (48 : Int32)) hx hb dX6_takeNumber_57 (by decide) ?_
          refine lv_isub hx hb dX6_takeNumber_59 ?_
          refine lv_ldc (v := (100000 : Int32)) hx hb hown (hts (.constant RX6 80 (100000)) (List.mem_of_getElem? (i := 4) rfl)) dX6_takeNumber_60 ?_
          refine va_mmin hx hb (hml.trans hl.1.symm) hown (hts (.methodLink RX6 81 Lib.Math.min.name) (List.mem_of_getElem? (i := 5) rfl)) (hts (.static Lib.Math.min.name) (List.mem_of_getElem? (i := 6) rfl)) (hts (.initialized "java/lang/Math") (List.mem_of_getElem? (i := 7) rfl)) (hts (.code Lib.Math.min.name Lib.Math.min.code 2 (some .int)) (List.mem_of_getElem? (i := 8) rfl)) (Nat.le_of_ble_eq_true rfl) (Nat.le_of_ble_eq_true rfl) (Nat.le_refl _) (Nat.le_refl _) dX6_takeNumber_62 ?_
          refine lv_topi (fun z9 ez9 => ?_)
          replace hR := lt_ok hR ez9
          refine lv_istore (lv' := [(4, .int z9), (0, .ref (a1 0)), (1, .int y1), (2, .int y2), (3, .int y3)]) hx hb dX6_takeNumber_65 hl (by decide) rfl (fun ls10 hl10 => ?_)
          refine lv_aload_n hx hb dX6_takeNumber_67 rfl (lv_at hl10 1 rfl) ?_
          refine lv_dup hx hb dX6_takeNumber_68 rfl ?_
          refine va_get (D := (dC, dI)) (ci := 6) (v := .int u1.2.2.1) (C := RX6) (T := TX6) (N := 4) hx hb hts hin6 hown hK hP6 0 rfl rfl 2 (by decide) (hts (.fieldLink RX6 31 "OldestCoins$Tape" "place" "I") (List.mem_of_getElem? (i := 1) rfl)) (fun _ h9 => h9) rfl dX6_takeNumber_69 ?_
          refine lv_iconst (v := (1 : Int32)) hx hb dX6_takeNumber_72 (by decide) ?_
          refine lv_iadd hx hb dX6_takeNumber_73 ?_
          refine lv_topi (fun z11 ez11 => ?_)
          replace hR := lt_ok hR ez11
          refine va_put (D := (dC, dI)) (ci := 6) (v := .int z11) (ty := .int) (C := RX6) (T := TX6) (N := 4) hx hb hts hin6 tyX6 tyX6_ok nmX6 hown hK hP6 hD6 hS6 0 rfl rfl 2 (by decide) (hts (.fieldLink RX6 31 "OldestCoins$Tape" "place" "I") (List.mem_of_getElem? (i := 1) rfl)) (fun _ h9 => h9) rfl (by decide +kernel) rfl rfl (Nat.le_of_ble_eq_true rfl) dX6_takeNumber_74 (fun H12 locs12 hP12 hD12 hS12 => ?_)
          have hP12 : va_P (dC, dI) vwCl (zc_6 a1 k1 (u1.1, u1.2.1, z11, u1.2.2.2)) H12 := hP12
          have hD12 : va_D A (zc_6 a1 k1 (u1.1, u1.2.1, z11, u1.2.2.2)) := hD12
          clear hP6 hD6 hS6
          refine lv_goto (tgt := 12) hx hb dX6_takeNumber_77 (by decide) ?_
          exact ih y1 y2 y3 z9 (u1.1, u1.2.1, z11, u1.2.2.2) H12 locs12 ls10 hP12 hD12 hS12 (lv_sub hl10 [1, 2, 3, 4, 0] rfl) hR
  unfold rr_X6_takeNumber at hR
  refine lv_aload_n hx hb dX6_takeNumber_0 rfl (lv_at hl 0 rfl) ?_
  have hR0 := ob_ok hR
  clear hR
  obtain ⟨q1, hq1, hR⟩ := hR0
  refine va_callv (va_runV (As := []) (rest := []) ⟨hx, hb, hml, hown, hts⟩ (cc_X6_passBlanks l dC dI fu a1 k1 s.heap.size s1 q1 hq1) (cwV 0 hts gX6_takeNumber_X6_passBlanks rfl rfl rfl (by decide +kernel) ⟨Nat.le_of_ble_eq_true rfl, Nat.le_of_ble_eq_true rfl⟩) (pf_v hK hP hD 6 0 rfl rfl rfl) rfl rfl hl.1 rfl (lv_room (Nat.le_of_ble_eq_true rfl)) dX6_takeNumber_1 ⟨Nat.le_refl _, Nat.le_refl _⟩) hS (fun q _ h => (fr_all hD hS hA) q h) (fr_all hD hS hA) (fun v1 t1 H1 locs1 ht1 hvm1 hw1 hB1 hz1 hk1 hS1 => ?_)
  subst hw1
  obtain ⟨hP1, hD1⟩ := jn_all hD hS hA ht1 hB1
  have hP1 : va_P (dC, dI) vwCl (zc_6 a1 k1 q1) H1 := hP1
  have hD1 : va_D A (zc_6 a1 k1 q1) := hD1
  clear hP hD hS hB1 hk1 hvm1 hz1 ht1
  refine lv_aload_n hx hb dX6_takeNumber_4 rfl (lv_at hl 0 rfl) ?_
  refine va_get (D := (dC, dI)) (ci := 6) (v := .int q1.2.2.1) (C := RX6) (T := TX6) (N := 4) hx hb hts hin6 hown hK hP1 0 rfl rfl 2 (by decide) (hts (.fieldLink RX6 31 "OldestCoins$Tape" "place" "I") (List.mem_of_getElem? (i := 1) rfl)) (fun _ h9 => h9) rfl dX6_takeNumber_5 ?_
  refine lv_istore_n (lv' := [(3, .int q1.2.2.1), (0, .ref (a1 0)), (1, .int x1), (2, .int x2)]) hx hb dX6_takeNumber_8 rfl hl (by decide) rfl (fun ls2 hl2 => ?_)
  refine lv_iconst (v := (0 : Int32)) hx hb dX6_takeNumber_9 (by decide) ?_
  refine lv_istore (lv' := [(4, .int (0 : Int32)), (3, .int q1.2.2.1), (0, .ref (a1 0)), (1, .int x1), (2, .int x2)]) hx hb dX6_takeNumber_10 hl2 (by decide) rfl (fun ls3 hl3 => ?_)
  exact hB12 fu x1 x2 q1.2.2.1 (0 : Int32) q1 H1 locs1 ls3 hP1 hD1 hS1 (lv_sub hl3 [2, 3, 4, 1, 0] rfl) hR
def rr_X6_readBill (fu : Nat) (n2 : Nat) (s1 : ZT_6) (s2 : ZT_0) : Option (ZT_6 × ZT_0) := (rr_X6_takeDigit fu (0 : Int32) (3 : Int32) s1).bind (fun q1 => (rr_X6_needs fu (62 : Int32) q1.2).bind (fun q3 => (rr_X6_takeDigit fu (4 : Int32) (7 : Int32) q3).bind (fun q4 => (rr_X6_needs fu (58 : Int32) q4.2).bind (fun q6 => (rr_X6_takeNumber fu (1 : Int32) (999 : Int32) q6).bind (fun q7 => (rr_X0_add fu n2 q1.1 q4.1 q7.1 s2).bind (fun q9 => some (q7.2, q9)))))))
set_option maxRecDepth 100000 in
theorem sb_6_0__0c0 (a1 : Nat → Nat) (a2 : Nat → Nat) (k1 : Nat → ClassId) (k2 : Nat → ClassId) (n2 : Nat) (s1 : ZT_6) (s2 : ZT_0) : List.Perm (zc_6 a1 k1 s1 ++ zc_0 a2 k2 n2 s2) ((zc_6 a1 k1 s1) ++ (([] : va_W) ++ zc_0 a2 k2 n2 s2)) := (pu_l (zc_0 a2 k2 n2 s2) (pu_1 (zc_6 a1 k1 s1)))
set_option maxRecDepth 100000 in
theorem jo_6_0__0c0__0 (a1 : Nat → Nat) (a2 : Nat → Nat) (k1 : Nat → ClassId) (k2 : Nat → ClassId) (n2 : Nat) (s1 : ZT_6) (s2 : ZT_0) (u1 : ZT_6) : List.Perm (zc_6 a1 k1 u1 ++ zc_0 a2 k2 n2 s2) ((zc_6 a1 k1 u1) ++ (([] : va_W) ++ zc_0 a2 k2 n2 s2)) := (pu_l (zc_0 a2 k2 n2 s2) (pu_1 (zc_6 a1 k1 u1)))
set_option maxRecDepth 100000 in
theorem sb_6_0__1c0 (a1 : Nat → Nat) (a2 : Nat → Nat) (k1 : Nat → ClassId) (k2 : Nat → ClassId) (n2 : Nat) (s1 : ZT_6) (s2 : ZT_0) : List.Perm (zc_6 a1 k1 s1 ++ zc_0 a2 k2 n2 s2) ((zc_0 a2 k2 n2 s2) ++ (zc_6 a1 k1 s1 ++ ([] : va_W))) := (pu_r (zc_6 a1 k1 s1) (pu_1 (zc_0 a2 k2 n2 s2)))
set_option maxRecDepth 100000 in
theorem jo_6_0__1c0__0 (a1 : Nat → Nat) (a2 : Nat → Nat) (k1 : Nat → ClassId) (k2 : Nat → ClassId) (n2 : Nat) (s1 : ZT_6) (s2 : ZT_0) (u1 : ZT_0) : List.Perm (zc_6 a1 k1 s1 ++ zc_0 a2 k2 n2 u1) ((zc_0 a2 k2 n2 u1) ++ (zc_6 a1 k1 s1 ++ ([] : va_W))) := (pu_r (zc_6 a1 k1 s1) (pu_1 (zc_0 a2 k2 n2 u1)))
set_option maxHeartbeats 4000000 in
set_option maxRecDepth 100000 in
theorem cc_X6_readBill (l : Launch) (dC : Nat → ClassId) (dI : Nat → Nat → Nat) (fu : Nat) (a1 : Nat → Nat) (a2 : Nat → Nat) (k1 : Nat → ClassId) (k2 : Nat → ClassId) (n2 : Nat) (sz : Nat) (s1 : ZT_6) (s2 : ZT_0) (res : ZT_6 × ZT_0) (hR : rr_X6_readBill fu n2 s1 s2 = some res) : Met l yX6_readBill wsX6_readBill ({ frames := 3, cells := 0, slots := 0, locals := 62 } : Room) (PcN [.ref (a1 0), .ref (a2 0)] sz (dC, dI) (zc_6 a1 k1 s1 ++ zc_0 a2 k2 n2 s2) (zt_6 k1 ++ zt_0 k2)) (va_Qv (fun u : ZT_6 × ZT_0 => res = u) (fun u t => at3_ (dC, dI) (zc_6 a1 k1 u.1 ++ zc_0 a2 k2 n2 u.2) (zt_6 k1 ++ zt_0 k2) (va_A (zc_6 a1 k1 s1 ++ zc_0 a2 k2 n2 s2) sz) t) (va_A (zc_6 a1 k1 s1 ++ zc_0 a2 k2 n2 s2) sz)) 0 0 (va_A (zc_6 a1 k1 s1 ++ zc_0 a2 k2 n2 s2) sz) := by
  refine Met.ofW (cc := cX6_readBill) (maxL := 5) (ret := none) (by decide) rfl ?_
  intro p e s m args below meth c s₁ B hml hv
  obtain ⟨hav, hsz, hP, hK, hD0, hN⟩ := hv
  have hx := B.exec
  have hb := B.bytes
  have hr := B.returns
  have hts := atoms_spec (ws := wsX6_readBill) B.pre
  have hown : s.vm.findClass RX6 = some m.cls := findClass_of_methodNamed B.named
  have hlocks := B.notSynchronized
  subst hsz
  have hD := hD0.self (sz := s.heap.size)
  clear hD0
  generalize hAe : va_A (zc_6 a1 k1 s1 ++ zc_0 a2 k2 n2 s2) s.heap.size = A at hD ⊢
  have hA : ∀ q : Nat, s.heap.size ≤ q → A q := fun q h => by rw [← hAe]; exact Or.inr h
  have hS : va_S A s.heap s.heap [] := va_S.rf
  generalize hQe : MQ below _ args s 0 0 A = Q
  rw [show entryFrame m args 5 = F0 m 0 ((lg_sl ([.ref (a1 0), .ref (a2 0)]) ++ List.replicate (5 - (lg_sl ([.ref (a1 0), .ref (a2 0)])).length) Slot.unset).toArray) [] from by rw [hav]; exact lg_entry_eq m _ _]
  have hl := lv_entry ([.ref (a1 0), .ref (a2 0)]) (n := 5) (Nat.le_of_ble_eq_true rfl)
  generalize (lg_sl ([.ref (a1 0), .ref (a2 0)]) ++ List.replicate (5 - (lg_sl ([.ref (a1 0), .ref (a2 0)])).length) Slot.unset).toArray = ls at hl ⊢
  have hl : lv_has ls 5 [(0, .ref (a1 0)), (1, .ref (a2 0))] := hl
  unfold rr_X6_readBill at hR
  refine lv_aload_n hx hb dX6_readBill_0 rfl (lv_at hl 0 rfl) ?_
  refine lv_iconst (v := (0 : Int32)) hx hb dX6_readBill_1 (by decide) ?_
  refine lv_iconst (v := (3 : Int32)) hx hb dX6_readBill_2 (by decide) ?_
  have hR0 := ob_ok hR
  clear hR
  obtain ⟨q1, hq1, hR⟩ := hR0
  refine va_calli (va_runV (As := [.int (0 : Int32), .int (3 : Int32)]) (rest := []) ⟨hx, hb, hml, hown, hts⟩ (cc_X6_takeDigit l dC dI fu a1 k1 s.heap.size (0 : Int32) (3 : Int32) s1 q1 hq1) (cwV 2 hts gX6_readBill_X6_takeDigit rfl rfl rfl (by decide +kernel) ⟨Nat.le_of_ble_eq_true rfl, Nat.le_of_ble_eq_true rfl⟩) (pn_v hN (hK.sub (tys' := zt_6 k1) [0] rfl) (sub_P (sb_6_0__0c0 a1 a2 k1 k2 n2 s1 s2) hP) (sub_D (sb_6_0__0c0 a1 a2 k1 k2 n2 s1 s2) hD) 6 0 rfl rfl rfl) rfl rfl hl.1 rfl (lv_room (Nat.le_of_ble_eq_true rfl)) dX6_readBill_3 ⟨Nat.le_refl _, Nat.le_refl _⟩) hS (fun q _ h => (sub_F (sb_6_0__0c0 a1 a2 k1 k2 n2 s1 s2) hD hS hA) q h) (sub_F (sb_6_0__0c0 a1 a2 k1 k2 n2 s1 s2) hD hS hA) (fun r1 v1 t1 H1 locs1 ht1 hvm1 hw1 hB1 hz1 hk1 hS1 => ?_)
  obtain rfl : r1 = q1.1 := (congrArg Prod.fst hw1).symm
  obtain rfl : v1 = q1.2 := (congrArg Prod.snd hw1).symm
  obtain ⟨hP1, hD1⟩ := jn_sub (sb_6_0__0c0 a1 a2 k1 k2 n2 s1 s2) (jo_6_0__0c0__0 a1 a2 k1 k2 n2 s1 s2 q1.2) rfl hP hD hk1 ht1 hB1
  have hP1 : va_P (dC, dI) vwCl (zc_6 a1 k1 q1.2 ++ zc_0 a2 k2 n2 s2) H1 := hP1
  have hD1 : va_D A (zc_6 a1 k1 q1.2 ++ zc_0 a2 k2 n2 s2) := hD1
  clear hP hD hS hB1 hk1 hvm1 hz1 ht1
  refine lv_istore_n (lv' := [(2, .int q1.1), (0, .ref (a1 0)), (1, .ref (a2 0))]) hx hb dX6_readBill_6 rfl hl (by decide) rfl (fun ls2 hl2 => ?_)
  refine lv_aload_n hx hb dX6_readBill_7 rfl (lv_at hl2 1 rfl) ?_
  refine lv_bipush (v := (62 : Int32)) hx hb dX6_readBill_8 (by decide) ?_
  have hR0 := ob_ok hR
  clear hR
  obtain ⟨q3, hq3, hR⟩ := hR0
  refine va_callv (va_runV (As := [.int (62 : Int32)]) (rest := []) ⟨hx, hb, hml, hown, hts⟩ (cc_X6_needs l dC dI fu a1 k1 H1.size (62 : Int32) q1.2 q3 hq3) (cwV 1 hts gX6_readBill_X6_needs rfl rfl rfl (by decide +kernel) ⟨Nat.le_of_ble_eq_true rfl, Nat.le_of_ble_eq_true rfl⟩) (pf_v (hK.sub (tys' := zt_6 k1) [0] rfl) (sub_P (sb_6_0__0c0 a1 a2 k1 k2 n2 q1.2 s2) hP1) (sub_D (sb_6_0__0c0 a1 a2 k1 k2 n2 q1.2 s2) hD1) 6 0 rfl rfl rfl) rfl rfl hl2.1 rfl (lv_room (Nat.le_of_ble_eq_true rfl)) dX6_readBill_10 ⟨Nat.le_refl _, Nat.le_refl _⟩) hS1 (fun q _ h => (sub_F (sb_6_0__0c0 a1 a2 k1 k2 n2 q1.2 s2) hD1 hS1 hA) q h) (sub_F (sb_6_0__0c0 a1 a2 k1 k2 n2 q1.2 s2) hD1 hS1 hA) (fun v3 t3 H3 locs3 ht3 hvm3 hw3 hB3 hz3 hk3 hS3 => ?_)
  subst hw3
  obtain ⟨hP3, hD3⟩ := jn_sub (sb_6_0__0c0 a1 a2 k1 k2 n2 q1.2 s2) (jo_6_0__0c0__0 a1 a2 k1 k2 n2 q1.2 s2 q3) rfl hP1 hD1 hk3 ht3 hB3
  have hP3 : va_P (dC, dI) vwCl (zc_6 a1 k1 q3 ++ zc_0 a2 k2 n2 s2) H3 := hP3
  have hD3 : va_D A (zc_6 a1 k1 q3 ++ zc_0 a2 k2 n2 s2) := hD3
  clear hP1 hD1 hS1 hB3 hk3 hvm3 hz3 ht3
  refine lv_aload_n hx hb dX6_readBill_13 rfl (lv_at hl2 1 rfl) ?_
  refine lv_iconst (v := (4 : Int32)) hx hb dX6_readBill_14 (by decide) ?_
  refine lv_bipush (v := (7 : Int32)) hx hb dX6_readBill_15 (by decide) ?_
  have hR0 := ob_ok hR
  clear hR
  obtain ⟨q4, hq4, hR⟩ := hR0
  refine va_calli (va_runV (As := [.int (4 : Int32), .int (7 : Int32)]) (rest := []) ⟨hx, hb, hml, hown, hts⟩ (cc_X6_takeDigit l dC dI fu a1 k1 H3.size (4 : Int32) (7 : Int32) q3 q4 hq4) (cwV 2 hts gX6_readBill_X6_takeDigit rfl rfl rfl (by decide +kernel) ⟨Nat.le_of_ble_eq_true rfl, Nat.le_of_ble_eq_true rfl⟩) (pn_v hN (hK.sub (tys' := zt_6 k1) [0] rfl) (sub_P (sb_6_0__0c0 a1 a2 k1 k2 n2 q3 s2) hP3) (sub_D (sb_6_0__0c0 a1 a2 k1 k2 n2 q3 s2) hD3) 6 0 rfl rfl rfl) rfl rfl hl2.1 rfl (lv_room (Nat.le_of_ble_eq_true rfl)) dX6_readBill_17 ⟨Nat.le_refl _, Nat.le_refl _⟩) hS3 (fun q _ h => (sub_F (sb_6_0__0c0 a1 a2 k1 k2 n2 q3 s2) hD3 hS3 hA) q h) (sub_F (sb_6_0__0c0 a1 a2 k1 k2 n2 q3 s2) hD3 hS3 hA) (fun r4 v4 t4 H4 locs4 ht4 hvm4 hw4 hB4 hz4 hk4 hS4 => ?_)
  obtain rfl : r4 = q4.1 := (congrArg Prod.fst hw4).symm
  obtain rfl : v4 = q4.2 := (congrArg Prod.snd hw4).symm
  obtain ⟨hP4, hD4⟩ := jn_sub (sb_6_0__0c0 a1 a2 k1 k2 n2 q3 s2) (jo_6_0__0c0__0 a1 a2 k1 k2 n2 q3 s2 q4.2) rfl hP3 hD3 hk4 ht4 hB4
  have hP4 : va_P (dC, dI) vwCl (zc_6 a1 k1 q4.2 ++ zc_0 a2 k2 n2 s2) H4 := hP4
  have hD4 : va_D A (zc_6 a1 k1 q4.2 ++ zc_0 a2 k2 n2 s2) := hD4
  clear hP3 hD3 hS3 hB4 hk4 hvm4 hz4 ht4
  refine lv_istore_n (lv' := [(3, .int q4.1), (2, .int q1.1), (0, .ref (a1 0)), (1, .ref (a2 0))]) hx hb dX6_readBill_20 rfl hl2 (by decide) rfl (fun ls5 hl5 => ?_)
  refine lv_aload_n hx hb dX6_readBill_21 rfl (lv_at hl5 2 rfl) ?_
  refine lv_bipush (v := (58 : Int32)) hx hb dX6_readBill_22 (by decide) ?_
  have hR0 := ob_ok hR
  clear hR
  obtain ⟨q6, hq6, hR⟩ := hR0
  refine va_callv (va_runV (As := [.int (58 : Int32)]) (rest := []) ⟨hx, hb, hml, hown, hts⟩ (cc_X6_needs l dC dI fu a1 k1 H4.size (58 : Int32) q4.2 q6 hq6) (cwV 1 hts gX6_readBill_X6_needs rfl rfl rfl (by decide +kernel) ⟨Nat.le_of_ble_eq_true rfl, Nat.le_of_ble_eq_true rfl⟩) (pf_v (hK.sub (tys' := zt_6 k1) [0] rfl) (sub_P (sb_6_0__0c0 a1 a2 k1 k2 n2 q4.2 s2) hP4) (sub_D (sb_6_0__0c0 a1 a2 k1 k2 n2 q4.2 s2) hD4) 6 0 rfl rfl rfl) rfl rfl hl5.1 rfl (lv_room (Nat.le_of_ble_eq_true rfl)) dX6_readBill_24 ⟨Nat.le_refl _, Nat.le_refl _⟩) hS4 (fun q _ h => (sub_F (sb_6_0__0c0 a1 a2 k1 k2 n2 q4.2 s2) hD4 hS4 hA) q h) (sub_F (sb_6_0__0c0 a1 a2 k1 k2 n2 q4.2 s2) hD4 hS4 hA) (fun v6 t6 H6 locs6 ht6 hvm6 hw6 hB6 hz6 hk6 hS6 => ?_)
  subst hw6
  obtain ⟨hP6, hD6⟩ := jn_sub (sb_6_0__0c0 a1 a2 k1 k2 n2 q4.2 s2) (jo_6_0__0c0__0 a1 a2 k1 k2 n2 q4.2 s2 q6) rfl hP4 hD4 hk6 ht6 hB6
  have hP6 : va_P (dC, dI) vwCl (zc_6 a1 k1 q6 ++ zc_0 a2 k2 n2 s2) H6 := hP6
  have hD6 : va_D A (zc_6 a1 k1 q6 ++ zc_0 a2 k2 n2 s2) := hD6
  clear hP4 hD4 hS4 hB6 hk6 hvm6 hz6 ht6
  refine lv_aload_n hx hb dX6_readBill_27 rfl (lv_at hl5 2 rfl) ?_
  refine lv_iconst (v := (1 : Int32)) hx hb dX6_readBill_28 (by decide) ?_
  refine lv_sipush (v := (999 : Int32)) hx hb dX6_readBill_29 (by decide) ?_
  have hR0 := ob_ok hR
  clear hR
  obtain ⟨q7, hq7, hR⟩ := hR0
  refine va_calli (va_runV (As := [.int (1 : Int32), .int (999 : Int32)]) (rest := []) ⟨hx, hb, hml, hown, hts⟩ (cc_X6_takeNumber l dC dI fu a1 k1 H6.size (1 : Int32) (999 : Int32) q6 q7 hq7) (cwV 2 hts gX6_readBill_X6_takeNumber rfl rfl rfl (by decide +kernel) ⟨Nat.le_of_ble_eq_true rfl, Nat.le_of_ble_eq_true rfl⟩) (pn_v hN (hK.sub (tys' := zt_6 k1) [0] rfl) (sub_P (sb_6_0__0c0 a1 a2 k1 k2 n2 q6 s2) hP6) (sub_D (sb_6_0__0c0 a1 a2 k1 k2 n2 q6 s2) hD6) 6 0 rfl rfl rfl) rfl rfl hl5.1 rfl (lv_room (Nat.le_of_ble_eq_true rfl)) dX6_readBill_32 ⟨Nat.le_refl _, Nat.le_refl _⟩) hS6 (fun q _ h => (sub_F (sb_6_0__0c0 a1 a2 k1 k2 n2 q6 s2) hD6 hS6 hA) q h) (sub_F (sb_6_0__0c0 a1 a2 k1 k2 n2 q6 s2) hD6 hS6 hA) (fun r7 v7 t7 H7 locs7 ht7 hvm7 hw7 hB7 hz7 hk7 hS7 => ?_)
  obtain rfl : r7 = q7.1 := (congrArg Prod.fst hw7).symm
  obtain rfl : v7 = q7.2 := (congrArg Prod.snd hw7).symm
  obtain ⟨hP7, hD7⟩ := jn_sub (sb_6_0__0c0 a1 a2 k1 k2 n2 q6 s2) (jo_6_0__0c0__0 a1 a2 k1 k2 n2 q6 s2 q7.2) rfl hP6 hD6 hk7 ht7 hB7
  have hP7 : va_P (dC, dI) vwCl (zc_6 a1 k1 q7.2 ++ zc_0 a2 k2 n2 s2) H7 := hP7
  have hD7 : va_D A (zc_6 a1 k1 q7.2 ++ zc_0 a2 k2 n2 s2) := hD7
  clear hP6 hD6 hS6 hB7 hk7 hvm7 hz7 ht7
  refine lv_istore (lv' := [(4, .int q7.1), (3, .int q4.1), (2, .int q1.1), (0, .ref (a1 0)), (1, .ref (a2 0))]) hx hb dX6_readBill_35 hl5 (by decide) rfl (fun ls8 hl8 => ?_)
  refine lv_aload_n hx hb dX6_readBill_37 rfl (lv_at hl8 4 rfl) ?_
  refine lv_iload_n hx hb dX6_readBill_38 rfl (lv_at hl8 2 rfl) ?_
  refine lv_iload_n hx hb dX6_readBill_39 rfl (lv_at hl8 1 rfl) ?_
  refine lv_iload hx hb dX6_readBill_40 (lv_at hl8 0 rfl) ?_
  have hR0 := ob_ok hR
  clear hR
  obtain ⟨q9, hq9, hR⟩ := hR0
  refine va_callv (va_runV (As := [.int q1.1, .int q4.1, .int q7.1]) (rest := []) ⟨hx, hb, hml, hown, hts⟩ (cc_X0_add l dC dI fu a2 k2 n2 H7.size q1.1 q4.1 q7.1 s2 q9 hq9) (cwV 3 hts gX6_readBill_X0_add rfl rfl rfl (by decide +kernel) ⟨Nat.le_of_ble_eq_true rfl, Nat.le_of_ble_eq_true rfl⟩) (pf_v (hK.sub (tys' := zt_0 k2) [1, 2, 3] rfl) (sub_P (sb_6_0__1c0 a1 a2 k1 k2 n2 q7.2 s2) hP7) (sub_D (sb_6_0__1c0 a1 a2 k1 k2 n2 q7.2 s2) hD7) 0 0 rfl rfl rfl) rfl rfl hl8.1 rfl (lv_room (Nat.le_of_ble_eq_true rfl)) dX6_readBill_42 ⟨Nat.le_refl _, Nat.le_refl _⟩) hS7 (fun q _ h => (sub_F (sb_6_0__1c0 a1 a2 k1 k2 n2 q7.2 s2) hD7 hS7 hA) q h) (sub_F (sb_6_0__1c0 a1 a2 k1 k2 n2 q7.2 s2) hD7 hS7 hA) (fun v9 t9 H9 locs9 ht9 hvm9 hw9 hB9 hz9 hk9 hS9 => ?_)
  subst hw9
  obtain ⟨hP9, hD9⟩ := jn_sub (sb_6_0__1c0 a1 a2 k1 k2 n2 q7.2 s2) (jo_6_0__1c0__0 a1 a2 k1 k2 n2 q7.2 s2 q9) rfl hP7 hD7 hk9 ht9 hB9
  have hP9 : va_P (dC, dI) vwCl (zc_6 a1 k1 q7.2 ++ zc_0 a2 k2 n2 q9) H9 := hP9
  have hD9 : va_D A (zc_6 a1 k1 q7.2 ++ zc_0 a2 k2 n2 q9) := hD9
  clear hP7 hD7 hS7 hB9 hk9 hvm9 hz9 ht9
  subst hQe
  exact W.vret hx hb hr (fun t ht hW => ⟨⟨(q7.2, q9), rfl, (Option.some.inj hR).symm, by rw [ht]; exact hP9, va_K.moved hW.alike hK, hD9⟩, hS9.F ht⟩) hS9.2.2 dX6_readBill_45
def rr_X6_readBills_61 (fu : Nat) (n2 : Nat) (u1 : ZT_6) (u2 : ZT_0) : Option (ZT_6 × ZT_0) := (rr_X6_needsEnd fu u1).bind (fun q12 => some (q12, u2))
def rr_X6_readBills_54 (fu : Nat) (n2 : Nat) (rec19 : Int32 → Int32 → ZT_6 → ZT_0 → Option (ZT_6 × ZT_0)) (y3 : Int32) (w0 : Int32) (u1 : ZT_6) (u2 : ZT_0) : Option (ZT_6 × ZT_0) := lt_ (α := Int32) (y3 + (1 : Int32)) (fun z14 => rec19 w0 z14 u1 u2)
def rr_X6_readBills_53 (fu : Nat) (n2 : Nat) (rec19 : Int32 → Int32 → ZT_6 → ZT_0 → Option (ZT_6 × ZT_0)) (y3 : Int32) (u1 : ZT_6) (u2 : ZT_0) : Option (ZT_6 × ZT_0) := rr_X6_readBills_54 fu n2 rec19 y3 (0 : Int32) u1 u2
def rr_X6_readBills_19_b (fu : Nat) (n2 : Nat) (rec19 : Int32 → Int32 → ZT_6 → ZT_0 → Option (ZT_6 × ZT_0)) (y2 : Int32) (y3 : Int32) (u1 : ZT_6) (u2 : ZT_0) : Option (ZT_6 × ZT_0) := (if y2 = (0 : Int32) then rr_X6_readBills_61 fu n2 u1 u2 else (if (24 : Int32) < y3 then rr_X6_readBills_61 fu n2 u1 u2 else (rr_X6_readBill fu n2 u1 u2).bind (fun q8 => (if (24 : Int32) ≤ y3 then rr_X6_readBills_53 fu n2 rec19 y3 q8.1 q8.2 else (rr_X6_takes fu (44 : Int32) q8.1).bind (fun q10 => (if q10.1 = (0 : Int32) then rr_X6_readBills_53 fu n2 rec19 y3 q10.2 q8.2 else rr_X6_readBills_54 fu n2 rec19 y3 (1 : Int32) q10.2 q8.2))))))
def rr_X6_readBills_19 (fu : Nat) (n2 : Nat) (n : Nat) : Int32 → Int32 → ZT_6 → ZT_0 → Option (ZT_6 × ZT_0) := lp_ (fun _ _ _ _ => none) (rr_X6_readBills_19_b fu n2) n
def rr_X6_readBills (fu : Nat) (n2 : Nat) (s1 : ZT_6) (s2 : ZT_0) : Option (ZT_6 × ZT_0) := rr_X6_readBills_19 fu n2 fu (1 : Int32) (1 : Int32) (s1.1, (-1 : Int32), (0 : Int32), s1.2.2.2) ((0 : Int32), s2.2)
set_option maxHeartbeats 4000000 in
set_option maxRecDepth 100000 in
theorem cc_X6_readBills (l : Launch) (dC : Nat → ClassId) (dI : Nat → Nat → Nat) (fu : Nat) (a1 : Nat → Nat) (a2 : Nat → Nat) (k1 : Nat → ClassId) (k2 : Nat → ClassId) (n2 : Nat) (sz : Nat) (s1 : ZT_6) (s2 : ZT_0) (res : ZT_6 × ZT_0) (hR : rr_X6_readBills fu n2 s1 s2 = some res) : Met l yX6_readBills wsX6_readBills ({ frames := 4, cells := 0, slots := 0, locals := 86 } : Room) (PcN [.ref (a1 0), .ref (a2 0)] sz (dC, dI) (zc_6 a1 k1 s1 ++ zc_0 a2 k2 n2 s2) (zt_6 k1 ++ zt_0 k2)) (va_Qv (fun u : ZT_6 × ZT_0 => res = u) (fun u t => at3_ (dC, dI) (zc_6 a1 k1 u.1 ++ zc_0 a2 k2 n2 u.2) (zt_6 k1 ++ zt_0 k2) (va_A (zc_6 a1 k1 s1 ++ zc_0 a2 k2 n2 s2) sz) t) (va_A (zc_6 a1 k1 s1 ++ zc_0 a2 k2 n2 s2) sz)) 0 0 (va_A (zc_6 a1 k1 s1 ++ zc_0 a2 k2 n2 s2) sz) := by
  refine Met.ofW (cc := cX6_readBills) (maxL := 4) (ret := none) (by decide) rfl ?_
  intro p e s m args below meth c s₁ B hml hv
  obtain ⟨hav, hsz, hP, hK, hD0, hN⟩ := hv
  have hx := B.exec
  have hb := B.bytes
  have hr := B.returns
  have hts := atoms_spec (ws := wsX6_readBills) B.pre
  have hown : s.vm.findClass RX6 = some m.cls := findClass_of_methodNamed B.named
  have hlocks := B.notSynchronized
  have hin0 : ∀ w ∈ wsX00, w ∈ wsX6_readBills := fun w h => List.mem_cons_of_mem _ (List.mem_append_left _ (List.mem_append_right _ h))
  have hin6 : ∀ w ∈ wsX60, w ∈ wsX6_readBills := fun w h => List.mem_cons_of_mem _ (List.mem_append_right _ h)
  subst hsz
  have hD := hD0.self (sz := s.heap.size)
  clear hD0
  generalize hAe : va_A (zc_6 a1 k1 s1 ++ zc_0 a2 k2 n2 s2) s.heap.size = A at hD ⊢
  have hA : ∀ q : Nat, s.heap.size ≤ q → A q := fun q h => by rw [← hAe]; exact Or.inr h
  have hS : va_S A s.heap s.heap [] := va_S.rf
  generalize hQe : MQ below _ args s 0 0 A = Q
  rw [show entryFrame m args 4 = F0 m 0 ((lg_sl ([.ref (a1 0), .ref (a2 0)]) ++ List.replicate (4 - (lg_sl ([.ref (a1 0), .ref (a2 0)])).length) Slot.unset).toArray) [] from by rw [hav]; exact lg_entry_eq m _ _]
  have hl := lv_entry ([.ref (a1 0), .ref (a2 0)]) (n := 4) (Nat.le_of_ble_eq_true rfl)
  generalize (lg_sl ([.ref (a1 0), .ref (a2 0)]) ++ List.replicate (4 - (lg_sl ([.ref (a1 0), .ref (a2 0)])).length) Slot.unset).toArray = ls at hl ⊢
  have hl : lv_has ls 4 [(0, .ref (a1 0)), (1, .ref (a2 0))] := hl
  have hB61 : ∀ (u1 : ZT_6) (u2 : ZT_0) (H : Heap) (locs : List Loc) (ls : Array Slot), va_P (dC, dI) vwCl (zc_6 a1 k1 u1 ++ zc_0 a2 k2 n2 u2) H → va_D A (zc_6 a1 k1 u1 ++ zc_0 a2 k2 n2 u2) → va_S A s.heap H locs → lv_has ls 4 [(0, .ref (a1 0))] → rr_X6_readBills_61 fu n2 u1 u2 = some res → W p l e ({ frames := 4, cells := 0, slots := 0, locals := 86 } : Room) s m args below meth c H locs 0 0 Q (F0 m 61 ls []) := by
    intro  u1 u2 H locs ls hP hD hS hl hR
    unfold rr_X6_readBills_61 at hR
    refine lv_aload_n hx hb dX6_readBills_61 rfl (lv_at hl 0 rfl) ?_
    have hR0 := ob_ok hR
    clear hR
    obtain ⟨q12, hq12, hR⟩ := hR0
    refine va_callv (va_runV (As := []) (rest := []) ⟨hx, hb, hml, hown, hts⟩ (cc_X6_needsEnd l dC dI fu a1 k1 H.size u1 q12 hq12) (cwV 0 hts gX6_readBills_X6_needsEnd rfl rfl rfl (by decide +kernel) ⟨Nat.le_of_ble_eq_true rfl, Nat.le_of_ble_eq_true rfl⟩) (pf_v (hK.sub (tys' := zt_6 k1) [0] rfl) (sub_P (sb_6_0__0c0 a1 a2 k1 k2 n2 u1 u2) hP) (sub_D (sb_6_0__0c0 a1 a2 k1 k2 n2 u1 u2) hD) 6 0 rfl rfl rfl) rfl rfl hl.1 rfl (lv_room (Nat.le_of_ble_eq_true rfl)) dX6_readBills_62 ⟨Nat.le_refl _, Nat.le_refl _⟩) hS (fun q _ h => (sub_F (sb_6_0__0c0 a1 a2 k1 k2 n2 u1 u2) hD hS hA) q h) (sub_F (sb_6_0__0c0 a1 a2 k1 k2 n2 u1 u2) hD hS hA) (fun v12 t12 H12 locs12 ht12 hvm12 hw12 hB12 hz12 hk12 hS12 => ?_)
    subst hw12
    obtain ⟨hP12, hD12⟩ := jn_sub (sb_6_0__0c0 a1 a2 k1 k2 n2 u1 u2) (jo_6_0__0c0__0 a1 a2 k1 k2 n2 u1 u2 q12) rfl hP hD hk12 ht12 hB12
    have hP12 : va_P (dC, dI) vwCl (zc_6 a1 k1 q12 ++ zc_0 a2 k2 n2 u2) H12 := hP12
    have hD12 : va_D A (zc_6 a1 k1 q12 ++ zc_0 a2 k2 n2 u2) := hD12
    clear hP hD hS hB12 hk12 hvm12 hz12 ht12
    subst hQe
    exact W.vret hx hb hr (fun t ht hW => ⟨⟨(q12, u2), rfl, (Option.some.inj hR).symm, by rw [ht]; exact hP12, va_K.moved hW.alike hK, hD12⟩, hS12.F ht⟩) hS12.2.2 dX6_readBills_65
  have hB54 : ∀ (rec19 : Int32 → Int32 → ZT_6 → ZT_0 → Option (ZT_6 × ZT_0)) (hrec19 : ∀ (y2 : Int32) (y3 : Int32) (u1 : ZT_6) (u2 : ZT_0) (H : Heap) (locs : List Loc) (ls : Array Slot), va_P (dC, dI) vwCl (zc_6 a1 k1 u1 ++ zc_0 a2 k2 n2 u2) H → va_D A (zc_6 a1 k1 u1 ++ zc_0 a2 k2 n2 u2) → va_S A s.heap H locs → lv_has ls 4 [(0, .ref (a1 0)), (1, .ref (a2 0)), (2, .int y2), (3, .int y3)] → rec19 y2 y3 u1 u2 = some res → W p l e ({ frames := 4, cells := 0, slots := 0, locals := 86 } : Room) s m args below meth c H locs 0 0 Q (F0 m 19 ls [])), ∀ (y3 : Int32) (w0 : Int32) (u1 : ZT_6) (u2 : ZT_0) (H : Heap) (locs : List Loc) (ls : Array Slot), va_P (dC, dI) vwCl (zc_6 a1 k1 u1 ++ zc_0 a2 k2 n2 u2) H → va_D A (zc_6 a1 k1 u1 ++ zc_0 a2 k2 n2 u2) → va_S A s.heap H locs → lv_has ls 4 [(0, .ref (a1 0)), (1, .ref (a2 0)), (3, .int y3)] → rr_X6_readBills_54 fu n2 rec19 y3 w0 u1 u2 = some res → W p l e ({ frames := 4, cells := 0, slots := 0, locals := 86 } : Room) s m args below meth c H locs 0 0 Q (F0 m 54 ls [.int w0]) := by
    intro rec19 hrec19 y3 w0 u1 u2 H locs ls hP hD hS hl hR
    unfold rr_X6_readBills_54 at hR
    refine lv_istore_n (lv' := [(2, .int w0), (0, .ref (a1 0)), (1, .ref (a2 0)), (3, .int y3)]) hx hb dX6_readBills_54 rfl hl (by decide) rfl (fun ls13 hl13 => ?_)
    obtain ⟨z14, ez14⟩ : ∃ y : Int32, y = (y3 + (1 : Int32)) := ⟨_, rfl⟩
    replace hR := lt_ok hR ez14
    refine lv_iinc (v := z14) (lv' := [(3, .int z14), (2, .int w0), (0, .ref (a1 0)), (1, .ref (a2 0))]) hx hb dX6_readBills_55 hl13 (k := 3) rfl (by rw [ez14]; rfl) (by decide) rfl (fun ls14 hl14 => ?_)
    refine lv_goto (tgt := 19) hx hb dX6_readBills_58 (by decide) ?_
    exact hrec19 w0 z14 u1 u2 H locs ls14 hP hD hS (lv_sub hl14 [2, 3, 1, 0] rfl) hR
  have hB53 : ∀ (rec19 : Int32 → Int32 → ZT_6 → ZT_0 → Option (ZT_6 × ZT_0)) (hrec19 : ∀ (y2 : Int32) (y3 : Int32) (u1 : ZT_6) (u2 : ZT_0) (H : Heap) (locs : List Loc) (ls : Array Slot), va_P (dC, dI) vwCl (zc_6 a1 k1 u1 ++ zc_0 a2 k2 n2 u2) H → va_D A (zc_6 a1 k1 u1 ++ zc_0 a2 k2 n2 u2) → va_S A s.heap H locs → lv_has ls 4 [(0, .ref (a1 0)), (1, .ref (a2 0)), (2, .int y2), (3, .int y3)] → rec19 y2 y3 u1 u2 = some res → W p l e ({ frames := 4, cells := 0, slots := 0, locals := 86 } : Room) s m args below meth c H locs 0 0 Q (F0 m 19 ls [])), ∀ (y3 : Int32) (u1 : ZT_6) (u2 : ZT_0) (H : Heap) (locs : List Loc) (ls : Array Slot), va_P (dC, dI) vwCl (zc_6 a1 k1 u1 ++ zc_0 a2 k2 n2 u2) H → va_D A (zc_6 a1 k1 u1 ++ zc_0 a2 k2 n2 u2) → va_S A s.heap H locs → lv_has ls 4 [(0, .ref (a1 0)), (1, .ref (a2 0)), (3, .int y3)] → rr_X6_readBills_53 fu n2 rec19 y3 u1 u2 = some res → W p l e ({ frames := 4, cells := 0, slots := 0, locals := 86 } : Room) s m args below meth c H locs 0 0 Q (F0 m 53 ls []) := by
    intro rec19 hrec19 y3 u1 u2 H locs ls hP hD hS hl hR
    unfold rr_X6_readBills_53 at hR
    refine lv_iconst (v := (0 : Int32)) hx hb dX6_readBills_53 (by decide) ?_
    exact hB54 rec19 hrec19 y3 (0 : Int32) u1 u2 H locs ls hP hD hS (lv_sub hl [0, 1, 2] rfl) hR
  have hB19 : ∀ (n : Nat), ∀ (y2 : Int32) (y3 : Int32) (u1 : ZT_6) (u2 : ZT_0) (H : Heap) (locs : List Loc) (ls : Array Slot), va_P (dC, dI) vwCl (zc_6 a1 k1 u1 ++ zc_0 a2 k2 n2 u2) H → va_D A (zc_6 a1 k1 u1 ++ zc_0 a2 k2 n2 u2) → va_S A s.heap H locs → lv_has ls 4 [(0, .ref (a1 0)), (1, .ref (a2 0)), (2, .int y2), (3, .int y3)] → rr_X6_readBills_19 fu n2 n y2 y3 u1 u2 = some res → W p l e ({ frames := 4, cells := 0, slots := 0, locals := 86 } : Room) s m args below meth c H locs 0 0 Q (F0 m 19 ls []) := by
    intro  n
    induction n with
    | zero => intro y2 y3 u1 u2 H locs ls hP hD hS hl hR; exact absurd hR (by intro h; cases h)
    | succ n ih =>
      intro y2 y3 u1 u2 H locs ls hP hD hS hl hR
      replace hR : rr_X6_readBills_19_b fu n2 (rr_X6_readBills_19 fu n2 n) y2 y3 u1 u2 = some res := hR
      unfold rr_X6_readBills_19_b at hR
      refine lv_iload_n hx hb dX6_readBills_19 rfl (lv_at hl 2 rfl) ?_
      refine lv_if_eq (tgt := 61) hx hb dX6_readBills_20 (by decide) (fun c6 => ?_) (fun c6 => ?_)
      · replace hR := ifp_ hR c6
        exact hB61 u1 u2 H locs ls hP hD hS (lv_sub hl [0] rfl) hR
      · replace hR := ifn_ hR c6
        refine lv_iload_n hx hb dX6_readBills_23 rfl (lv_at hl 3 rfl) ?_
        refine lv_bipush (v := (24 : Int32)) hx hb dX6_readBills_24 (by decide) ?_
        refine lv_icmp_gt (tgt := 61) hx hb dX6_readBills_26 (by decide) (fun c7 => ?_) (fun c7 => ?_)
        · replace hR := ifp_ hR c7
          exact hB61 u1 u2 H locs ls hP hD hS (lv_sub hl [0] rfl) hR
        · replace hR := ifn_ hR c7
          refine lv_aload_n hx hb dX6_readBills_29 rfl (lv_at hl 0 rfl) ?_
          refine lv_aload_n hx hb dX6_readBills_30 rfl (lv_at hl 1 rfl) ?_
          have hR0 := ob_ok hR
          clear hR
          obtain ⟨q8, hq8, hR⟩ := hR0
          refine va_callv (va_runV (As := [.ref (a2 0)]) (rest := []) ⟨hx, hb, hml, hown, hts⟩ (cc_X6_readBill l dC dI fu a1 a2 k1 k2 n2 H.size u1 u2 q8 hq8) (cwV 1 hts gX6_readBills_X6_readBill rfl rfl rfl (by decide +kernel) ⟨Nat.le_of_ble_eq_true rfl, Nat.le_of_ble_eq_true rfl⟩) (pn_v hN hK hP hD 6 0 rfl rfl rfl) rfl rfl hl.1 rfl (lv_room (Nat.le_of_ble_eq_true rfl)) dX6_readBills_31 ⟨Nat.le_refl _, Nat.le_refl _⟩) hS (fun q _ h => (fr_all hD hS hA) q h) (fr_all hD hS hA) (fun v8 t8 H8 locs8 ht8 hvm8 hw8 hB8 hz8 hk8 hS8 => ?_)
          subst hw8
          obtain ⟨hP8, hD8⟩ := jn_all hD hS hA ht8 hB8
          have hP8 : va_P (dC, dI) vwCl (zc_6 a1 k1 q8.1 ++ zc_0 a2 k2 n2 q8.2) H8 := hP8
          have hD8 : va_D A (zc_6 a1 k1 q8.1 ++ zc_0 a2 k2 n2 q8.2) := hD8
          clear hP hD hS hB8 hk8 hvm8 hz8 ht8
          refine lv_iload_n hx hb dX6_readBills_34 rfl (lv_at hl 3 rfl) ?_
          refine lv_bipush (v := (24 : Int32)) hx hb dX6_readBills_35 (by decide) ?_
          refine lv_icmp_ge (tgt := 53) hx hb dX6_readBills_37 (by decide) (fun c9 => ?_) (fun c9 => ?_)
          · replace hR := ifp_ hR c9
            exact hB53 (rr_X6_readBills_19 fu n2 n) ih y3 q8.1 q8.2 H8 locs8 ls hP8 hD8 hS8 (lv_sub hl [0, 1, 3] rfl) hR
          · replace hR := ifn_ hR c9
            refine lv_aload_n hx hb dX6_readBills_40 rfl (lv_at hl 0 rfl) ?_
            refine lv_bipush (v := (44 : Int32)) hx hb dX6_readBills_41 (by decide) ?_
            have hR0 := ob_ok hR
            clear hR
            obtain ⟨q10, hq10, hR⟩ := hR0
            refine va_calli (va_runV (As := [.int (44 : Int32)]) (rest := []) ⟨hx, hb, hml, hown, hts⟩ (cc_X6_takes l dC dI fu a1 k1 H8.size (44 : Int32) q8.1 q10 hq10) (cwV 1 hts gX6_readBills_X6_takes rfl rfl rfl (by decide +kernel) ⟨Nat.le_of_ble_eq_true rfl, Nat.le_of_ble_eq_true rfl⟩) (pf_v (hK.sub (tys' := zt_6 k1) [0] rfl) (sub_P (sb_6_0__0c0 a1 a2 k1 k2 n2 q8.1 q8.2) hP8) (sub_D (sb_6_0__0c0 a1 a2 k1 k2 n2 q8.1 q8.2) hD8) 6 0 rfl rfl rfl) rfl rfl hl.1 rfl (lv_room (Nat.le_of_ble_eq_true rfl)) dX6_readBills_43 ⟨Nat.le_refl _, Nat.le_refl _⟩) hS8 (fun q _ h => (sub_F (sb_6_0__0c0 a1 a2 k1 k2 n2 q8.1 q8.2) hD8 hS8 hA) q h) (sub_F (sb_6_0__0c0 a1 a2 k1 k2 n2 q8.1 q8.2) hD8 hS8 hA) (fun r10 v10 t10 H10 locs10 ht10 hvm10 hw10 hB10 hz10 hk10 hS10 => ?_)
            obtain rfl : r10 = q10.1 := (congrArg Prod.fst hw10).symm
            obtain rfl : v10 = q10.2 := (congrArg Prod.snd hw10).symm
            obtain ⟨hP10, hD10⟩ := jn_sub (sb_6_0__0c0 a1 a2 k1 k2 n2 q8.1 q8.2) (jo_6_0__0c0__0 a1 a2 k1 k2 n2 q8.1 q8.2 q10.2) rfl hP8 hD8 hk10 ht10 hB10
            have hP10 : va_P (dC, dI) vwCl (zc_6 a1 k1 q10.2 ++ zc_0 a2 k2 n2 q8.2) H10 := hP10
            have hD10 : va_D A (zc_6 a1 k1 q10.2 ++ zc_0 a2 k2 n2 q8.2) := hD10
            clear hP8 hD8 hS8 hB10 hk10 hvm10 hz10 ht10
            refine lv_if_eq (tgt := 53) hx hb dX6_readBills_46 (by decide) (fun c11 => ?_) (fun c11 => ?_)
            · replace hR := ifp_ hR c11
              exact hB53 (rr_X6_readBills_19 fu n2 n) ih y3 q10.2 q8.2 H10 locs10 ls hP10 hD10 hS10 (lv_sub hl [0, 1, 3] rfl) hR
            · replace hR := ifn_ hR c11
              refine lv_iconst (v := (1 : Int32)) hx hb dX6_readBills_49 (by decide) ?_
              refine lv_goto (tgt := 54) hx hb dX6_readBills_50 (by decide) ?_
              exact hB54 (rr_X6_readBills_19 fu n2 n) ih y3 (1 : Int32) q10.2 q8.2 H10 locs10 ls hP10 hD10 hS10 (lv_sub hl [0, 1, 3] rfl) hR
  unfold rr_X6_readBills at hR
  refine lv_aload_n hx hb dX6_readBills_0 rfl (lv_at hl 1 rfl) ?_
  refine lv_iconst (v := (0 : Int32)) hx hb dX6_readBills_1 (by decide) ?_
  refine va_put (D := (dC, dI)) (ci := 0) (v := .int (0 : Int32)) (ty := .int) (C := RX0) (T := TX0) (N := 4) hx hb hts hin0 tyX0 tyX0_ok nmX0 hown hK hP hD hS 2 rfl rfl 0 (by decide) (hts (.fieldLink RX6 57 "OldestCoins$Bills" "size" "I") (List.mem_of_getElem? (i := 1) rfl)) (fun _ h9 => h9) rfl (by decide +kernel) rfl rfl (Nat.le_of_ble_eq_true rfl) dX6_readBills_2 (fun H1 locs1 hP1 hD1 hS1 => ?_)
  have hP1 : va_P (dC, dI) vwCl (zc_6 a1 k1 s1 ++ zc_0 a2 k2 n2 ((0 : Int32), s2.2)) H1 := hP1
  have hD1 : va_D A (zc_6 a1 k1 s1 ++ zc_0 a2 k2 n2 ((0 : Int32), s2.2)) := hD1
  clear hP hD hS
  refine lv_aload_n hx hb dX6_readBills_5 rfl (lv_at hl 0 rfl) ?_
  refine lv_iconst (v := (0 : Int32)) hx hb dX6_readBills_6 (by decide) ?_
  refine va_put (D := (dC, dI)) (ci := 6) (v := .int (0 : Int32)) (ty := .int) (C := RX6) (T := TX6) (N := 4) hx hb hts hin6 tyX6 tyX6_ok nmX6 hown hK hP1 hD1 hS1 0 rfl rfl 2 (by decide) (hts (.fieldLink RX6 31 "OldestCoins$Tape" "place" "I") (List.mem_of_getElem? (i := 2) rfl)) (fun _ h9 => h9) rfl (by decide +kernel) rfl rfl (Nat.le_of_ble_eq_true rfl) dX6_readBills_7 (fun H2 locs2 hP2 hD2 hS2 => ?_)
  have hP2 : va_P (dC, dI) vwCl (zc_6 a1 k1 (s1.1, s1.2.1, (0 : Int32), s1.2.2.2) ++ zc_0 a2 k2 n2 ((0 : Int32), s2.2)) H2 := hP2
  have hD2 : va_D A (zc_6 a1 k1 (s1.1, s1.2.1, (0 : Int32), s1.2.2.2) ++ zc_0 a2 k2 n2 ((0 : Int32), s2.2)) := hD2
  clear hP1 hD1 hS1
  refine lv_aload_n hx hb dX6_readBills_10 rfl (lv_at hl 0 rfl) ?_
  refine lv_iconst (v := (-1 : Int32)) hx hb dX6_readBills_11 (by decide) ?_
  refine va_put (D := (dC, dI)) (ci := 6) (v := .int (-1 : Int32)) (ty := .int) (C := RX6) (T := TX6) (N := 4) hx hb hts hin6 tyX6 tyX6_ok nmX6 hown hK hP2 hD2 hS2 0 rfl rfl 1 (by decide) (hts (.fieldLink RX6 11 "OldestCoins$Tape" "fault" "I") (List.mem_of_getElem? (i := 3) rfl)) (fun _ h9 => h9) rfl (by decide +kernel) rfl rfl (Nat.le_of_ble_eq_true rfl) dX6_readBills_12 (fun H3 locs3 hP3 hD3 hS3 => ?_)
  have hP3 : va_P (dC, dI) vwCl (zc_6 a1 k1 (s1.1, (-1 : Int32), (0 : Int32), s1.2.2.2) ++ zc_0 a2 k2 n2 ((0 : Int32), s2.2)) H3 := hP3
  have hD3 : va_D A (zc_6 a1 k1 (s1.1, (-1 : Int32), (0 : Int32), s1.2.2.2) ++ zc_0 a2 k2 n2 ((0 : Int32), s2.2)) := hD3
  clear hP2 hD2 hS2
  refine lv_iconst (v := (1 : Int32)) hx hb dX6_readBills_15 (by decide) ?_
  refine lv_istore_n (lv' := [(2, .int (1 : Int32)), (0, .ref (a1 0)), (1, .ref (a2 0))]) hx hb dX6_readBills_16 rfl hl (by decide) rfl (fun ls4 hl4 => ?_)
  refine lv_iconst (v := (1 : Int32)) hx hb dX6_readBills_17 (by decide) ?_
  refine lv_istore_n (lv' := [(3, .int (1 : Int32)), (2, .int (1 : Int32)), (0, .ref (a1 0)), (1, .ref (a2 0))]) hx hb dX6_readBills_18 rfl hl4 (by decide) rfl (fun ls5 hl5 => ?_)
  exact hB19 fu (1 : Int32) (1 : Int32) (s1.1, (-1 : Int32), (0 : Int32), s1.2.2.2) ((0 : Int32), s2.2) H3 locs3 ls5 hP3 hD3 hS3 (lv_sub hl5 [2, 3, 1, 0] rfl) hR
def rr_X6_readCoin_81 (fu : Nat) (n2 : Nat) (y2 : Int32) (y3 : Int32) (y4 : Int32) (y5 : Int32) (y6 : Int32) (u1 : ZT_6) (u2 : ZT_2) : Option (ZT_6 × ZT_2) := (rr_X2_add fu n2 y2 y3 y4 y5 y6 u2).bind (fun q19 => some (u1, q19))
def rr_X6_readCoin (fu : Nat) (n2 : Nat) (x2 : Int32) (s1 : ZT_6) (s2 : ZT_2) : Option (ZT_6 × ZT_2) := (rr_X6_takeNumber fu (1 : Int32) (99 : Int32) s1).bind (fun q1 => (rr_X6_needs fu (121 : Int32) q1.2).bind (fun q3 => (rr_X6_takeNumber fu (0 : Int32) (99 : Int32) q3).bind (fun q4 => (rr_X6_takes fu (102 : Int32) q4.2).bind (fun q8 => (if q8.1 = (0 : Int32) then (rr_X6_takes fu (119 : Int32) q8.2).bind (fun q10 => (if q10.1 = (0 : Int32) then (rr_X6_takes fu (98 : Int32) q10.2).bind (fun q12 => (if q12.1 = (0 : Int32) then rr_X6_readCoin_81 fu n2 x2 q1.1 q4.1 q4.1 (0 : Int32) q12.2 s2 else rr_X6_readCoin_81 fu n2 x2 q1.1 q4.1 q4.1 (3 : Int32) q12.2 s2)) else rr_X6_readCoin_81 fu n2 x2 q1.1 q4.1 q4.1 (2 : Int32) q10.2 s2)) else (rr_X6_takeNumber fu (0 : Int32) (99 : Int32) q8.2).bind (fun q17 => rr_X6_readCoin_81 fu n2 x2 q1.1 q4.1 q17.1 (1 : Int32) q17.2 s2))))))
set_option maxRecDepth 100000 in
theorem sb_6_2__0c0 (a1 : Nat → Nat) (a2 : Nat → Nat) (k1 : Nat → ClassId) (k2 : Nat → ClassId) (n2 : Nat) (s1 : ZT_6) (s2 : ZT_2) : List.Perm (zc_6 a1 k1 s1 ++ zc_2 a2 k2 n2 s2) ((zc_6 a1 k1 s1) ++ (([] : va_W) ++ zc_2 a2 k2 n2 s2)) := (pu_l (zc_2 a2 k2 n2 s2) (pu_1 (zc_6 a1 k1 s1)))
set_option maxRecDepth 100000 in
theorem jo_6_2__0c0__0 (a1 : Nat → Nat) (a2 : Nat → Nat) (k1 : Nat → ClassId) (k2 : Nat → ClassId) (n2 : Nat) (s1 : ZT_6) (s2 : ZT_2) (u1 : ZT_6) : List.Perm (zc_6 a1 k1 u1 ++ zc_2 a2 k2 n2 s2) ((zc_6 a1 k1 u1) ++ (([] : va_W) ++ zc_2 a2 k2 n2 s2)) := (pu_l (zc_2 a2 k2 n2 s2) (pu_1 (zc_6 a1 k1 u1)))
set_option maxRecDepth 100000 in
theorem sb_6_2__1c0 (a1 : Nat → Nat) (a2 : Nat → Nat) (k1 : Nat → ClassId) (k2 : Nat → ClassId) (n2 : Nat) (s1 : ZT_6) (s2 : ZT_2) : List.Perm (zc_6 a1 k1 s1 ++ zc_2 a2 k2 n2 s2) ((zc_2 a2 k2 n2 s2) ++ (zc_6 a1 k1 s1 ++ ([] : va_W))) := (pu_r (zc_6 a1 k1 s1) (pu_1 (zc_2 a2 k2 n2 s2)))
set_option maxRecDepth 100000 in
theorem jo_6_2__1c0__0 (a1 : Nat → Nat) (a2 : Nat → Nat) (k1 : Nat → ClassId) (k2 : Nat → ClassId) (n2 : Nat) (s1 : ZT_6) (s2 : ZT_2) (u1 : ZT_2) : List.Perm (zc_6 a1 k1 s1 ++ zc_2 a2 k2 n2 u1) ((zc_2 a2 k2 n2 u1) ++ (zc_6 a1 k1 s1 ++ ([] : va_W))) := (pu_r (zc_6 a1 k1 s1) (pu_1 (zc_2 a2 k2 n2 u1)))
set_option maxHeartbeats 4000000 in
set_option maxRecDepth 100000 in
theorem cc_X6_readCoin (l : Launch) (dC : Nat → ClassId) (dI : Nat → Nat → Nat) (fu : Nat) (a1 : Nat → Nat) (a2 : Nat → Nat) (k1 : Nat → ClassId) (k2 : Nat → ClassId) (n2 : Nat) (sz : Nat) (x2 : Int32) (s1 : ZT_6) (s2 : ZT_2) (res : ZT_6 × ZT_2) (hR : rr_X6_readCoin fu n2 x2 s1 s2 = some res) : Met l yX6_readCoin wsX6_readCoin ({ frames := 3, cells := 0, slots := 0, locals := 62 } : Room) (PcN [.ref (a1 0), .ref (a2 0), .int x2] sz (dC, dI) (zc_6 a1 k1 s1 ++ zc_2 a2 k2 n2 s2) (zt_6 k1 ++ zt_2 k2)) (va_Qv (fun u : ZT_6 × ZT_2 => res = u) (fun u t => at3_ (dC, dI) (zc_6 a1 k1 u.1 ++ zc_2 a2 k2 n2 u.2) (zt_6 k1 ++ zt_2 k2) (va_A (zc_6 a1 k1 s1 ++ zc_2 a2 k2 n2 s2) sz) t) (va_A (zc_6 a1 k1 s1 ++ zc_2 a2 k2 n2 s2) sz)) 0 0 (va_A (zc_6 a1 k1 s1 ++ zc_2 a2 k2 n2 s2) sz) := by
  refine Met.ofW (cc := cX6_readCoin) (maxL := 7) (ret := none) (by decide) rfl ?_
  intro p e s m args below meth c s₁ B hml hv
  obtain ⟨hav, hsz, hP, hK, hD0, hN⟩ := hv
  have hx := B.exec
  have hb := B.bytes
  have hr := B.returns
  have hts := atoms_spec (ws := wsX6_readCoin) B.pre
  have hown : s.vm.findClass RX6 = some m.cls := findClass_of_methodNamed B.named
  have hlocks := B.notSynchronized
  subst hsz
  have hD := hD0.self (sz := s.heap.size)
  clear hD0
  generalize hAe : va_A (zc_6 a1 k1 s1 ++ zc_2 a2 k2 n2 s2) s.heap.size = A at hD ⊢
  have hA : ∀ q : Nat, s.heap.size ≤ q → A q := fun q h => by rw [← hAe]; exact Or.inr h
  have hS : va_S A s.heap s.heap [] := va_S.rf
  generalize hQe : MQ below _ args s 0 0 A = Q
  rw [show entryFrame m args 7 = F0 m 0 ((lg_sl ([.ref (a1 0), .ref (a2 0), .int x2]) ++ List.replicate (7 - (lg_sl ([.ref (a1 0), .ref (a2 0), .int x2])).length) Slot.unset).toArray) [] from by rw [hav]; exact lg_entry_eq m _ _]
  have hl := lv_entry ([.ref (a1 0), .ref (a2 0), .int x2]) (n := 7) (Nat.le_of_ble_eq_true rfl)
  generalize (lg_sl ([.ref (a1 0), .ref (a2 0), .int x2]) ++ List.replicate (7 - (lg_sl ([.ref (a1 0), .ref (a2 0), .int x2])).length) Slot.unset).toArray = ls at hl ⊢
  have hl : lv_has ls 7 [(0, .ref (a1 0)), (1, .ref (a2 0)), (2, .int x2)] := hl
  have hB81 : ∀ (y2 : Int32) (y3 : Int32) (y4 : Int32) (y5 : Int32) (y6 : Int32) (u1 : ZT_6) (u2 : ZT_2) (H : Heap) (locs : List Loc) (ls : Array Slot), va_P (dC, dI) vwCl (zc_6 a1 k1 u1 ++ zc_2 a2 k2 n2 u2) H → va_D A (zc_6 a1 k1 u1 ++ zc_2 a2 k2 n2 u2) → va_S A s.heap H locs → lv_has ls 7 [(1, .ref (a2 0)), (2, .int y2), (3, .int y3), (4, .int y4), (5, .int y5), (6, .int y6)] → rr_X6_readCoin_81 fu n2 y2 y3 y4 y5 y6 u1 u2 = some res → W p l e ({ frames := 3, cells := 0, slots := 0, locals := 62 } : Room) s m args below meth c H locs 0 0 Q (F0 m 81 ls []) := by
    intro  y2 y3 y4 y5 y6 u1 u2 H locs ls hP hD hS hl hR
    unfold rr_X6_readCoin_81 at hR
    refine lv_aload_n hx hb dX6_readCoin_81 rfl (lv_at hl 0 rfl) ?_
    refine lv_iload_n hx hb dX6_readCoin_82 rfl (lv_at hl 1 rfl) ?_
    refine lv_iload_n hx hb dX6_readCoin_83 rfl (lv_at hl 2 rfl) ?_
    refine lv_iload hx hb dX6_readCoin_84 (lv_at hl 3 rfl) ?_
    refine lv_iload hx hb dX6_readCoin_86 (lv_at hl 4 rfl) ?_
    refine lv_iload hx hb dX6_readCoin_88 (lv_at hl 5 rfl) ?_
    have hR0 := ob_ok hR
    clear hR
    obtain ⟨q19, hq19, hR⟩ := hR0
    refine va_callv (va_runV (As := [.int y2, .int y3, .int y4, .int y5, .int y6]) (rest := []) ⟨hx, hb, hml, hown, hts⟩ (cc_X2_add l dC dI fu a2 k2 n2 H.size y2 y3 y4 y5 y6 u2 q19 hq19) (cwV 5 hts gX6_readCoin_X2_add rfl rfl rfl (by decide +kernel) ⟨Nat.le_of_ble_eq_true rfl, Nat.le_of_ble_eq_true rfl⟩) (pf_v (hK.sub (tys' := zt_2 k2) [1, 2, 3, 4, 5] rfl) (sub_P (sb_6_2__1c0 a1 a2 k1 k2 n2 u1 u2) hP) (sub_D (sb_6_2__1c0 a1 a2 k1 k2 n2 u1 u2) hD) 2 0 rfl rfl rfl) rfl rfl hl.1 rfl (lv_room (Nat.le_of_ble_eq_true rfl)) dX6_readCoin_90 ⟨Nat.le_refl _, Nat.le_refl _⟩) hS (fun q _ h => (sub_F (sb_6_2__1c0 a1 a2 k1 k2 n2 u1 u2) hD hS hA) q h) (sub_F (sb_6_2__1c0 a1 a2 k1 k2 n2 u1 u2) hD hS hA) (fun v19 t19 H19 locs19 ht19 hvm19 hw19 hB19 hz19 hk19 hS19 => ?_)
    subst hw19
    obtain ⟨hP19, hD19⟩ := jn_sub (sb_6_2__1c0 a1 a2 k1 k2 n2 u1 u2) (jo_6_2__1c0__0 a1 a2 k1 k2 n2 u1 u2 q19) rfl hP hD hk19 ht19 hB19
    have hP19 : va_P (dC, dI) vwCl (zc_6 a1 k1 u1 ++ zc_2 a2 k2 n2 q19) H19 := hP19
    have hD19 : va_D A (zc_6 a1 k1 u1 ++ zc_2 a2 k2 n2 q19) := hD19
    clear hP hD hS hB19 hk19 hvm19 hz19 ht19
    subst hQe
    exact W.vret hx hb hr (fun t ht hW => ⟨⟨(u1, q19), rfl, (Option.some.inj hR).symm, by rw [ht]; exact hP19, va_K.moved hW.alike hK, hD19⟩, hS19.F ht⟩) hS19.2.2 dX6_readCoin_93
  unfold rr_X6_readCoin at hR
  refine lv_aload_n hx hb dX6_readCoin_0 rfl (lv_at hl 0 rfl) ?_
  refine lv_iconst (v := (1 : Int32)) hx hb dX6_readCoin_1 (by decide) ?_
  refine lv_bipush (v := (99 : Int32)) hx hb dX6_readCoin_2 (by decide) ?_
  have hR0 := ob_ok hR
  clear hR
  obtain ⟨q1, hq1, hR⟩ := hR0
  refine va_calli (va_runV (As := [.int (1 : Int32), .int (99 : Int32)]) (rest := []) ⟨hx, hb, hml, hown, hts⟩ (cc_X6_takeNumber l dC dI fu a1 k1 s.heap.size (1 : Int32) (99 : Int32) s1 q1 hq1) (cwV 2 hts gX6_readCoin_X6_takeNumber rfl rfl rfl (by decide +kernel) ⟨Nat.le_of_ble_eq_true rfl, Nat.le_of_ble_eq_true rfl⟩) (pn_v hN (hK.sub (tys' := zt_6 k1) [0] rfl) (sub_P (sb_6_2__0c0 a1 a2 k1 k2 n2 s1 s2) hP) (sub_D (sb_6_2__0c0 a1 a2 k1 k2 n2 s1 s2) hD) 6 0 rfl rfl rfl) rfl rfl hl.1 rfl (lv_room (Nat.le_of_ble_eq_true rfl)) dX6_readCoin_4 ⟨Nat.le_refl _, Nat.le_refl _⟩) hS (fun q _ h => (sub_F (sb_6_2__0c0 a1 a2 k1 k2 n2 s1 s2) hD hS hA) q h) (sub_F (sb_6_2__0c0 a1 a2 k1 k2 n2 s1 s2) hD hS hA) (fun r1 v1 t1 H1 locs1 ht1 hvm1 hw1 hB1 hz1 hk1 hS1 => ?_)
  obtain rfl : r1 = q1.1 := (congrArg Prod.fst hw1).symm
  obtain rfl : v1 = q1.2 := (congrArg Prod.snd hw1).symm
  obtain ⟨hP1, hD1⟩ := jn_sub (sb_6_2__0c0 a1 a2 k1 k2 n2 s1 s2) (jo_6_2__0c0__0 a1 a2 k1 k2 n2 s1 s2 q1.2) rfl hP hD hk1 ht1 hB1
  have hP1 : va_P (dC, dI) vwCl (zc_6 a1 k1 q1.2 ++ zc_2 a2 k2 n2 s2) H1 := hP1
  have hD1 : va_D A (zc_6 a1 k1 q1.2 ++ zc_2 a2 k2 n2 s2) := hD1
  clear hP hD hS hB1 hk1 hvm1 hz1 ht1
  refine lv_istore_n (lv' := [(3, .int q1.1), (0, .ref (a1 0)), (1, .ref (a2 0)), (2, .int x2)]) hx hb dX6_readCoin_7 rfl hl (by decide) rfl (fun ls2 hl2 => ?_)
  refine lv_aload_n hx hb dX6_readCoin_8 rfl (lv_at hl2 1 rfl) ?_
  refine lv_bipush (v := (121 : Int32)) hx hb dX6_readCoin_9 (by decide) ?_
  have hR0 := ob_ok hR
  clear hR
  obtain ⟨q3, hq3, hR⟩ := hR0
  refine va_callv (va_runV (As := [.int (121 : Int32)]) (rest := []) ⟨hx, hb, hml, hown, hts⟩ (cc_X6_needs l dC dI fu a1 k1 H1.size (121 : Int32) q1.2 q3 hq3) (cwV 1 hts gX6_readCoin_X6_needs rfl rfl rfl (by decide +kernel) ⟨Nat.le_of_ble_eq_true rfl, Nat.le_of_ble_eq_true rfl⟩) (pf_v (hK.sub (tys' := zt_6 k1) [0] rfl) (sub_P (sb_6_2__0c0 a1 a2 k1 k2 n2 q1.2 s2) hP1) (sub_D (sb_6_2__0c0 a1 a2 k1 k2 n2 q1.2 s2) hD1) 6 0 rfl rfl rfl) rfl rfl hl2.1 rfl (lv_room (Nat.le_of_ble_eq_true rfl)) dX6_readCoin_11 ⟨Nat.le_refl _, Nat.le_refl _⟩) hS1 (fun q _ h => (sub_F (sb_6_2__0c0 a1 a2 k1 k2 n2 q1.2 s2) hD1 hS1 hA) q h) (sub_F (sb_6_2__0c0 a1 a2 k1 k2 n2 q1.2 s2) hD1 hS1 hA) (fun v3 t3 H3 locs3 ht3 hvm3 hw3 hB3 hz3 hk3 hS3 => ?_)
  subst hw3
  obtain ⟨hP3, hD3⟩ := jn_sub (sb_6_2__0c0 a1 a2 k1 k2 n2 q1.2 s2) (jo_6_2__0c0__0 a1 a2 k1 k2 n2 q1.2 s2 q3) rfl hP1 hD1 hk3 ht3 hB3
  have hP3 : va_P (dC, dI) vwCl (zc_6 a1 k1 q3 ++ zc_2 a2 k2 n2 s2) H3 := hP3
  have hD3 : va_D A (zc_6 a1 k1 q3 ++ zc_2 a2 k2 n2 s2) := hD3
  clear hP1 hD1 hS1 hB3 hk3 hvm3 hz3 ht3
  refine lv_aload_n hx hb dX6_readCoin_14 rfl (lv_at hl2 1 rfl) ?_
  refine lv_iconst (v := (0 : Int32)) hx hb dX6_readCoin_15 (by decide) ?_
  refine lv_bipush (v := (99 : Int32)) hx hb dX6_readCoin_16 (by decide) ?_
  have hR0 := ob_ok hR
  clear hR
  obtain ⟨q4, hq4, hR⟩ := hR0
  refine va_calli (va_runV (As := [.int (0 : Int32), .int (99 : Int32)]) (rest := []) ⟨hx, hb, hml, hown, hts⟩ (cc_X6_takeNumber l dC dI fu a1 k1 H3.size (0 : Int32) (99 : Int32) q3 q4 hq4) (cwV 2 hts gX6_readCoin_X6_takeNumber rfl rfl rfl (by decide +kernel) ⟨Nat.le_of_ble_eq_true rfl, Nat.le_of_ble_eq_true rfl⟩) (pn_v hN (hK.sub (tys' := zt_6 k1) [0] rfl) (sub_P (sb_6_2__0c0 a1 a2 k1 k2 n2 q3 s2) hP3) (sub_D (sb_6_2__0c0 a1 a2 k1 k2 n2 q3 s2) hD3) 6 0 rfl rfl rfl) rfl rfl hl2.1 rfl (lv_room (Nat.le_of_ble_eq_true rfl)) dX6_readCoin_18 ⟨Nat.le_refl _, Nat.le_refl _⟩) hS3 (fun q _ h => (sub_F (sb_6_2__0c0 a1 a2 k1 k2 n2 q3 s2) hD3 hS3 hA) q h) (sub_F (sb_6_2__0c0 a1 a2 k1 k2 n2 q3 s2) hD3 hS3 hA) (fun r4 v4 t4 H4 locs4 ht4 hvm4 hw4 hB4 hz4 hk4 hS4 => ?_)
  obtain rfl : r4 = q4.1 := (congrArg Prod.fst hw4).symm
  obtain rfl : v4 = q4.2 := (congrArg Prod.snd hw4).symm
  obtain ⟨hP4, hD4⟩ := jn_sub (sb_6_2__0c0 a1 a2 k1 k2 n2 q3 s2) (jo_6_2__0c0__0 a1 a2 k1 k2 n2 q3 s2 q4.2) rfl hP3 hD3 hk4 ht4 hB4
  have hP4 : va_P (dC, dI) vwCl (zc_6 a1 k1 q4.2 ++ zc_2 a2 k2 n2 s2) H4 := hP4
  have hD4 : va_D A (zc_6 a1 k1 q4.2 ++ zc_2 a2 k2 n2 s2) := hD4
  clear hP3 hD3 hS3 hB4 hk4 hvm4 hz4 ht4
  refine lv_istore (lv' := [(4, .int q4.1), (3, .int q1.1), (0, .ref (a1 0)), (1, .ref (a2 0)), (2, .int x2)]) hx hb dX6_readCoin_21 hl2 (by decide) rfl (fun ls5 hl5 => ?_)
  refine lv_iload hx hb dX6_readCoin_23 (lv_at hl5 0 rfl) ?_
  refine lv_istore (lv' := [(5, .int q4.1), (4, .int q4.1), (3, .int q1.1), (0, .ref (a1 0)), (1, .ref (a2 0)), (2, .int x2)]) hx hb dX6_readCoin_25 hl5 (by decide) rfl (fun ls6 hl6 => ?_)
  refine lv_iconst (v := (0 : Int32)) hx hb dX6_readCoin_27 (by decide) ?_
  refine lv_istore (lv' := [(6, .int (0 : Int32)), (5, .int q4.1), (4, .int q4.1), (3, .int q1.1), (0, .ref (a1 0)), (1, .ref (a2 0)), (2, .int x2)]) hx hb dX6_readCoin_28 hl6 (by decide) rfl (fun ls7 hl7 => ?_)
  refine lv_aload_n hx hb dX6_readCoin_30 rfl (lv_at hl7 4 rfl) ?_
  refine lv_bipush (v := (102 : Int32)) hx hb dX6_readCoin_31 (by decide) ?_
  have hR0 := ob_ok hR
  clear hR
  obtain ⟨q8, hq8, hR⟩ := hR0
  refine va_calli (va_runV (As := [.int (102 : Int32)]) (rest := []) ⟨hx, hb, hml, hown, hts⟩ (cc_X6_takes l dC dI fu a1 k1 H4.size (102 : Int32) q4.2 q8 hq8) (cwV 1 hts gX6_readCoin_X6_takes rfl rfl rfl (by decide +kernel) ⟨Nat.le_of_ble_eq_true rfl, Nat.le_of_ble_eq_true rfl⟩) (pf_v (hK.sub (tys' := zt_6 k1) [0] rfl) (sub_P (sb_6_2__0c0 a1 a2 k1 k2 n2 q4.2 s2) hP4) (sub_D (sb_6_2__0c0 a1 a2 k1 k2 n2 q4.2 s2) hD4) 6 0 rfl rfl rfl) rfl rfl hl7.1 rfl (lv_room (Nat.le_of_ble_eq_true rfl)) dX6_readCoin_33 ⟨Nat.le_refl _, Nat.le_refl _⟩) hS4 (fun q _ h => (sub_F (sb_6_2__0c0 a1 a2 k1 k2 n2 q4.2 s2) hD4 hS4 hA) q h) (sub_F (sb_6_2__0c0 a1 a2 k1 k2 n2 q4.2 s2) hD4 hS4 hA) (fun r8 v8 t8 H8 locs8 ht8 hvm8 hw8 hB8 hz8 hk8 hS8 => ?_)
  obtain rfl : r8 = q8.1 := (congrArg Prod.fst hw8).symm
  obtain rfl : v8 = q8.2 := (congrArg Prod.snd hw8).symm
  obtain ⟨hP8, hD8⟩ := jn_sub (sb_6_2__0c0 a1 a2 k1 k2 n2 q4.2 s2) (jo_6_2__0c0__0 a1 a2 k1 k2 n2 q4.2 s2 q8.2) rfl hP4 hD4 hk8 ht8 hB8
  have hP8 : va_P (dC, dI) vwCl (zc_6 a1 k1 q8.2 ++ zc_2 a2 k2 n2 s2) H8 := hP8
  have hD8 : va_D A (zc_6 a1 k1 q8.2 ++ zc_2 a2 k2 n2 s2) := hD8
  clear hP4 hD4 hS4 hB8 hk8 hvm8 hz8 ht8
  refine lv_if_eq (tgt := 54) hx hb dX6_readCoin_36 (by decide) (fun c9 => ?_) (fun c9 => ?_)
  · replace hR := ifp_ hR c9
    refine lv_aload_n hx hb dX6_readCoin_54 rfl (lv_at hl7 4 rfl) ?_
    refine lv_bipush (v := (119 : Int32)) hx hb dX6_readCoin_55 (by decide) ?_
    have hR0 := ob_ok hR
    clear hR
    obtain ⟨q10, hq10, hR⟩ := hR0
    refine va_calli (va_runV (As := [.int (119 : Int32)]) (rest := []) ⟨hx, hb, hml, hown, hts⟩ (cc_X6_takes l dC dI fu a1 k1 H8.size (119 : Int32) q8.2 q10 hq10) (cwV 1 hts gX6_readCoin_X6_takes rfl rfl rfl (by decide +kernel) ⟨Nat.le_of_ble_eq_true rfl, Nat.le_of_ble_eq_true rfl⟩) (pf_v (hK.sub (tys' := zt_6 k1) [0] rfl) (sub_P (sb_6_2__0c0 a1 a2 k1 k2 n2 q8.2 s2) hP8) (sub_D (sb_6_2__0c0 a1 a2 k1 k2 n2 q8.2 s2) hD8) 6 0 rfl rfl rfl) rfl rfl hl7.1 rfl (lv_room (Nat.le_of_ble_eq_true rfl)) dX6_readCoin_57 ⟨Nat.le_refl _, Nat.le_refl _⟩) hS8 (fun q _ h => (sub_F (sb_6_2__0c0 a1 a2 k1 k2 n2 q8.2 s2) hD8 hS8 hA) q h) (sub_F (sb_6_2__0c0 a1 a2 k1 k2 n2 q8.2 s2) hD8 hS8 hA) (fun r10 v10 t10 H10 locs10 ht10 hvm10 hw10 hB10 hz10 hk10 hS10 => ?_)
    obtain rfl : r10 = q10.1 := (congrArg Prod.fst hw10).symm
    obtain rfl : v10 = q10.2 := (congrArg Prod.snd hw10).symm
    obtain ⟨hP10, hD10⟩ := jn_sub (sb_6_2__0c0 a1 a2 k1 k2 n2 q8.2 s2) (jo_6_2__0c0__0 a1 a2 k1 k2 n2 q8.2 s2 q10.2) rfl hP8 hD8 hk10 ht10 hB10
    have hP10 : va_P (dC, dI) vwCl (zc_6 a1 k1 q10.2 ++ zc_2 a2 k2 n2 s2) H10 := hP10
    have hD10 : va_D A (zc_6 a1 k1 q10.2 ++ zc_2 a2 k2 n2 s2) := hD10
    clear hP8 hD8 hS8 hB10 hk10 hvm10 hz10 ht10
    refine lv_if_eq (tgt := 69) hx hb dX6_readCoin_60 (by decide) (fun c11 => ?_) (fun c11 => ?_)
    · replace hR := ifp_ hR c11
      refine lv_aload_n hx hb dX6_readCoin_69 rfl (lv_at hl7 4 rfl) ?_
      refine lv_bipush (v := (98 : Int32)) hx hb dX6_readCoin_70 (by decide) ?_
      have hR0 := ob_ok hR
      clear hR
      obtain ⟨q12, hq12, hR⟩ := hR0
      refine va_calli (va_runV (As := [.int (98 : Int32)]) (rest := []) ⟨hx, hb, hml, hown, hts⟩ (cc_X6_takes l dC dI fu a1 k1 H10.size (98 : Int32) q10.2 q12 hq12) (cwV 1 hts gX6_readCoin_X6_takes rfl rfl rfl (by decide +kernel) ⟨Nat.le_of_ble_eq_true rfl, Nat.le_of_ble_eq_true rfl⟩) (pf_v (hK.sub (tys' := zt_6 k1) [0] rfl) (sub_P (sb_6_2__0c0 a1 a2 k1 k2 n2 q10.2 s2) hP10) (sub_D (sb_6_2__0c0 a1 a2 k1 k2 n2 q10.2 s2) hD10) 6 0 rfl rfl rfl) rfl rfl hl7.1 rfl (lv_room (Nat.le_of_ble_eq_true rfl)) dX6_readCoin_72 ⟨Nat.le_refl _, Nat.le_refl _⟩) hS10 (fun q _ h => (sub_F (sb_6_2__0c0 a1 a2 k1 k2 n2 q10.2 s2) hD10 hS10 hA) q h) (sub_F (sb_6_2__0c0 a1 a2 k1 k2 n2 q10.2 s2) hD10 hS10 hA) (fun r12 v12 t12 H12 locs12 ht12 hvm12 hw12 hB12 hz12 hk12 hS12 => ?_)
      obtain rfl : r12 = q12.1 := (congrArg Prod.fst hw12).symm
      obtain rfl : v12 = q12.2 := (congrArg Prod.snd hw12).symm
      obtain ⟨hP12, hD12⟩ := jn_sub (sb_6_2__0c0 a1 a2 k1 k2 n2 q10.2 s2) (jo_6_2__0c0__0 a1 a2 k1 k2 n2 q10.2 s2 q12.2) rfl hP10 hD10 hk12 ht12 hB12
      have hP12 : va_P (dC, dI) vwCl (zc_6 a1 k1 q12.2 ++ zc_2 a2 k2 n2 s2) H12 := hP12
      have hD12 : va_D A (zc_6 a1 k1 q12.2 ++ zc_2 a2 k2 n2 s2) := hD12
      clear hP10 hD10 hS10 hB12 hk12 hvm12 hz12 ht12
      refine lv_if_eq (tgt := 81) hx hb dX6_readCoin_75 (by decide) (fun c13 => ?_) (fun c13 => ?_)
      · replace hR := ifp_ hR c13
        exact hB81 x2 q1.1 q4.1 q4.1 (0 : Int32) q12.2 s2 H12 locs12 ls7 hP12 hD12 hS12 (lv_sub hl7 [5, 6, 3, 2, 1, 0] rfl) hR
      · replace hR := ifn_ hR c13
        refine lv_iconst (v := (3 : Int32)) hx hb dX6_readCoin_78 (by decide) ?_
        refine lv_istore (lv' := [(6, .int (3 : Int32)), (5, .int q4.1), (4, .int q4.1), (3, .int q1.1), (0, .ref (a1 0)), (1, .ref (a2 0)), (2, .int x2)]) hx hb dX6_readCoin_79 hl7 (by decide) rfl (fun ls14 hl14 => ?_)
        exact hB81 x2 q1.1 q4.1 q4.1 (3 : Int32) q12.2 s2 H12 locs12 ls14 hP12 hD12 hS12 (lv_sub hl14 [5, 6, 3, 2, 1, 0] rfl) hR
    · replace hR := ifn_ hR c11
      refine lv_iconst (v := (2 : Int32)) hx hb dX6_readCoin_63 (by decide) ?_
      refine lv_istore (lv' := [(6, .int (2 : Int32)), (5, .int q4.1), (4, .int q4.1), (3, .int q1.1), (0, .ref (a1 0)), (1, .ref (a2 0)), (2, .int x2)]) hx hb dX6_readCoin_64 hl7 (by decide) rfl (fun ls15 hl15 => ?_)
      refine lv_goto (tgt := 81) hx hb dX6_readCoin_66 (by decide) ?_
      exact hB81 x2 q1.1 q4.1 q4.1 (2 : Int32) q10.2 s2 H10 locs10 ls15 hP10 hD10 hS10 (lv_sub hl15 [5, 6, 3, 2, 1, 0] rfl) hR
  · replace hR := ifn_ hR c9
    refine lv_iconst (v := (1 : Int32)) hx hb dX6_readCoin_39 (by decide) ?_
    refine lv_istore (lv' := [(6, .int (1 : Int32)), (5, .int q4.1), (4, .int q4.1), (3, .int q1.1), (0, .ref (a1 0)), (1, .ref (a2 0)), (2, .int x2)]) hx hb dX6_readCoin_40 hl7 (by decide) rfl (fun ls16 hl16 => ?_)
    refine lv_aload_n hx hb dX6_readCoin_42 rfl (lv_at hl16 4 rfl) ?_
    refine lv_iconst (v := (0 : Int32)) hx hb dX6_readCoin_43 (by decide) ?_
    refine lv_bipush (v := (99 : Int32)) hx hb dX6_readCoin_44 (by decide) ?_
    have hR0 := ob_ok hR
    clear hR
    obtain ⟨q17, hq17, hR⟩ := hR0
    refine va_calli (va_runV (As := [.int (0 : Int32), .int (99 : Int32)]) (rest := []) ⟨hx, hb, hml, hown, hts⟩ (cc_X6_takeNumber l dC dI fu a1 k1 H8.size (0 : Int32) (99 : Int32) q8.2 q17 hq17) (cwV 2 hts gX6_readCoin_X6_takeNumber rfl rfl rfl (by decide +kernel) ⟨Nat.le_of_ble_eq_true rfl, Nat.le_of_ble_eq_true rfl⟩) (pn_v hN (hK.sub (tys' := zt_6 k1) [0] rfl) (sub_P (sb_6_2__0c0 a1 a2 k1 k2 n2 q8.2 s2) hP8) (sub_D (sb_6_2__0c0 a1 a2 k1 k2 n2 q8.2 s2) hD8) 6 0 rfl rfl rfl) rfl rfl hl16.1 rfl (lv_room (Nat.le_of_ble_eq_true rfl)) dX6_readCoin_46 ⟨Nat.le_refl _, Nat.le_refl _⟩) hS8 (fun q _ h => (sub_F (sb_6_2__0c0 a1 a2 k1 k2 n2 q8.2 s2) hD8 hS8 hA) q h) (sub_F (sb_6_2__0c0 a1 a2 k1 k2 n2 q8.2 s2) hD8 hS8 hA) (fun r17 v17 t17 H17 locs17 ht17 hvm17 hw17 hB17 hz17 hk17 hS17 => ?_)
    obtain rfl : r17 = q17.1 := (congrArg Prod.fst hw17).symm
    obtain rfl : v17 = q17.2 := (congrArg Prod.snd hw17).symm
    obtain ⟨hP17, hD17⟩ := jn_sub (sb_6_2__0c0 a1 a2 k1 k2 n2 q8.2 s2) (jo_6_2__0c0__0 a1 a2 k1 k2 n2 q8.2 s2 q17.2) rfl hP8 hD8 hk17 ht17 hB17
    have hP17 : va_P (dC, dI) vwCl (zc_6 a1 k1 q17.2 ++ zc_2 a2 k2 n2 s2) H17 := hP17
    have hD17 : va_D A (zc_6 a1 k1 q17.2 ++ zc_2 a2 k2 n2 s2) := hD17
    clear hP8 hD8 hS8 hB17 hk17 hvm17 hz17 ht17
    refine lv_istore (lv' := [(5, .int q17.1), (6, .int (1 : Int32)), (4, .int q4.1), (3, .int q1.1), (0, .ref (a1 0)), (1, .ref (a2 0)), (2, .int x2)]) hx hb dX6_readCoin_49 hl16 (by decide) rfl (fun ls18 hl18 => ?_)
    refine lv_goto (tgt := 81) hx hb dX6_readCoin_51 (by decide) ?_
    exact hB81 x2 q1.1 q4.1 q17.1 (1 : Int32) q17.2 s2 H17 locs17 ls18 hP17 hD17 hS17 (lv_sub hl18 [5, 6, 3, 2, 0, 1] rfl) hR
def rr_X6_readCoins_65 (fu : Nat) (n2 : Nat) (u1 : ZT_6) (u2 : ZT_2) : Option (ZT_6 × ZT_2) := (rr_X6_needsEnd fu u1).bind (fun q12 => some (q12, u2))
def rr_X6_readCoins_58 (fu : Nat) (n2 : Nat) (rec20 : Int32 → Int32 → Int32 → ZT_6 → ZT_2 → Option (ZT_6 × ZT_2)) (y2 : Int32) (y4 : Int32) (w0 : Int32) (u1 : ZT_6) (u2 : ZT_2) : Option (ZT_6 × ZT_2) := lt_ (α := Int32) (y4 + (1 : Int32)) (fun z14 => rec20 y2 w0 z14 u1 u2)
def rr_X6_readCoins_57 (fu : Nat) (n2 : Nat) (rec20 : Int32 → Int32 → Int32 → ZT_6 → ZT_2 → Option (ZT_6 × ZT_2)) (y2 : Int32) (y4 : Int32) (u1 : ZT_6) (u2 : ZT_2) : Option (ZT_6 × ZT_2) := rr_X6_readCoins_58 fu n2 rec20 y2 y4 (0 : Int32) u1 u2
def rr_X6_readCoins_20_b (fu : Nat) (n2 : Nat) (rec20 : Int32 → Int32 → Int32 → ZT_6 → ZT_2 → Option (ZT_6 × ZT_2)) (y2 : Int32) (y3 : Int32) (y4 : Int32) (u1 : ZT_6) (u2 : ZT_2) : Option (ZT_6 × ZT_2) := (if y3 = (0 : Int32) then rr_X6_readCoins_65 fu n2 u1 u2 else (if (10 : Int32) < y4 then rr_X6_readCoins_65 fu n2 u1 u2 else (rr_X6_readCoin fu n2 y2 u1 u2).bind (fun q8 => (if (10 : Int32) ≤ y4 then rr_X6_readCoins_57 fu n2 rec20 y2 y4 q8.1 q8.2 else (rr_X6_takes fu (44 : Int32) q8.1).bind (fun q10 => (if q10.1 = (0 : Int32) then rr_X6_readCoins_57 fu n2 rec20 y2 y4 q10.2 q8.2 else rr_X6_readCoins_58 fu n2 rec20 y2 y4 (1 : Int32) q10.2 q8.2))))))
def rr_X6_readCoins_20 (fu : Nat) (n2 : Nat) (n : Nat) : Int32 → Int32 → Int32 → ZT_6 → ZT_2 → Option (ZT_6 × ZT_2) := lp_ (fun _ _ _ _ _ => none) (rr_X6_readCoins_20_b fu n2) n
def rr_X6_readCoins (fu : Nat) (n2 : Nat) (x2 : Int32) (s1 : ZT_6) (s2 : ZT_2) : Option (ZT_6 × ZT_2) := rr_X6_readCoins_20 fu n2 fu x2 (1 : Int32) (1 : Int32) (s1.1, (-1 : Int32), (0 : Int32), s1.2.2.2) ((0 : Int32), s2.2)
set_option maxHeartbeats 4000000 in
set_option maxRecDepth 100000 in
theorem cc_X6_readCoins (l : Launch) (dC : Nat → ClassId) (dI : Nat → Nat → Nat) (fu : Nat) (a1 : Nat → Nat) (a2 : Nat → Nat) (k1 : Nat → ClassId) (k2 : Nat → ClassId) (n2 : Nat) (sz : Nat) (x2 : Int32) (s1 : ZT_6) (s2 : ZT_2) (res : ZT_6 × ZT_2) (hR : rr_X6_readCoins fu n2 x2 s1 s2 = some res) : Met l yX6_readCoins wsX6_readCoins ({ frames := 4, cells := 0, slots := 0, locals := 88 } : Room) (PcN [.ref (a1 0), .ref (a2 0), .int x2] sz (dC, dI) (zc_6 a1 k1 s1 ++ zc_2 a2 k2 n2 s2) (zt_6 k1 ++ zt_2 k2)) (va_Qv (fun u : ZT_6 × ZT_2 => res = u) (fun u t => at3_ (dC, dI) (zc_6 a1 k1 u.1 ++ zc_2 a2 k2 n2 u.2) (zt_6 k1 ++ zt_2 k2) (va_A (zc_6 a1 k1 s1 ++ zc_2 a2 k2 n2 s2) sz) t) (va_A (zc_6 a1 k1 s1 ++ zc_2 a2 k2 n2 s2) sz)) 0 0 (va_A (zc_6 a1 k1 s1 ++ zc_2 a2 k2 n2 s2) sz) := by
  refine Met.ofW (cc := cX6_readCoins) (maxL := 5) (ret := none) (by decide) rfl ?_
  intro p e s m args below meth c s₁ B hml hv
  obtain ⟨hav, hsz, hP, hK, hD0, hN⟩ := hv
  have hx := B.exec
  have hb := B.bytes
  have hr := B.returns
  have hts := atoms_spec (ws := wsX6_readCoins) B.pre
  have hown : s.vm.findClass RX6 = some m.cls := findClass_of_methodNamed B.named
  have hlocks := B.notSynchronized
  have hin2 : ∀ w ∈ wsX20, w ∈ wsX6_readCoins := fun w h => List.mem_cons_of_mem _ (List.mem_append_left _ (List.mem_append_right _ h))
  have hin6 : ∀ w ∈ wsX60, w ∈ wsX6_readCoins := fun w h => List.mem_cons_of_mem _ (List.mem_append_right _ h)
  subst hsz
  have hD := hD0.self (sz := s.heap.size)
  clear hD0
  generalize hAe : va_A (zc_6 a1 k1 s1 ++ zc_2 a2 k2 n2 s2) s.heap.size = A at hD ⊢
  have hA : ∀ q : Nat, s.heap.size ≤ q → A q := fun q h => by rw [← hAe]; exact Or.inr h
  have hS : va_S A s.heap s.heap [] := va_S.rf
  generalize hQe : MQ below _ args s 0 0 A = Q
  rw [show entryFrame m args 5 = F0 m 0 ((lg_sl ([.ref (a1 0), .ref (a2 0), .int x2]) ++ List.replicate (5 - (lg_sl ([.ref (a1 0), .ref (a2 0), .int x2])).length) Slot.unset).toArray) [] from by rw [hav]; exact lg_entry_eq m _ _]
  have hl := lv_entry ([.ref (a1 0), .ref (a2 0), .int x2]) (n := 5) (Nat.le_of_ble_eq_true rfl)
  generalize (lg_sl ([.ref (a1 0), .ref (a2 0), .int x2]) ++ List.replicate (5 - (lg_sl ([.ref (a1 0), .ref (a2 0), .int x2])).length) Slot.unset).toArray = ls at hl ⊢
  have hl : lv_has ls 5 [(0, .ref (a1 0)), (1, .ref (a2 0)), (2, .int x2)] := hl
  have hB65 : ∀ (u1 : ZT_6) (u2 : ZT_2) (H : Heap) (locs : List Loc) (ls : Array Slot), va_P (dC, dI) vwCl (zc_6 a1 k1 u1 ++ zc_2 a2 k2 n2 u2) H → va_D A (zc_6 a1 k1 u1 ++ zc_2 a2 k2 n2 u2) → va_S A s.heap H locs → lv_has ls 5 [(0, .ref (a1 0))] → rr_X6_readCoins_65 fu n2 u1 u2 = some res → W p l e ({ frames := 4, cells := 0, slots := 0, locals := 88 } : Room) s m args below meth c H locs 0 0 Q (F0 m 65 ls []) := by
    intro  u1 u2 H locs ls hP hD hS hl hR
    unfold rr_X6_readCoins_65 at hR
    refine lv_aload_n hx hb dX6_readCoins_65 rfl (lv_at hl 0 rfl) ?_
    have hR0 := ob_ok hR
    clear hR
    obtain ⟨q12, hq12, hR⟩ := hR0
    refine va_callv (va_runV (As := []) (rest := []) ⟨hx, hb, hml, hown, hts⟩ (cc_X6_needsEnd l dC dI fu a1 k1 H.size u1 q12 hq12) (cwV 0 hts gX6_readCoins_X6_needsEnd rfl rfl rfl (by decide +kernel) ⟨Nat.le_of_ble_eq_true rfl, Nat.le_of_ble_eq_true rfl⟩) (pf_v (hK.sub (tys' := zt_6 k1) [0] rfl) (sub_P (sb_6_2__0c0 a1 a2 k1 k2 n2 u1 u2) hP) (sub_D (sb_6_2__0c0 a1 a2 k1 k2 n2 u1 u2) hD) 6 0 rfl rfl rfl) rfl rfl hl.1 rfl (lv_room (Nat.le_of_ble_eq_true rfl)) dX6_readCoins_66 ⟨Nat.le_refl _, Nat.le_refl _⟩) hS (fun q _ h => (sub_F (sb_6_2__0c0 a1 a2 k1 k2 n2 u1 u2) hD hS hA) q h) (sub_F (sb_6_2__0c0 a1 a2 k1 k2 n2 u1 u2) hD hS hA) (fun v12 t12 H12 locs12 ht12 hvm12 hw12 hB12 hz12 hk12 hS12 => ?_)
    subst hw12
    obtain ⟨hP12, hD12⟩ := jn_sub (sb_6_2__0c0 a1 a2 k1 k2 n2 u1 u2) (jo_6_2__0c0__0 a1 a2 k1 k2 n2 u1 u2 q12) rfl hP hD hk12 ht12 hB12
    have hP12 : va_P (dC, dI) vwCl (zc_6 a1 k1 q12 ++ zc_2 a2 k2 n2 u2) H12 := hP12
    have hD12 : va_D A (zc_6 a1 k1 q12 ++ zc_2 a2 k2 n2 u2) := hD12
    clear hP hD hS hB12 hk12 hvm12 hz12 ht12
    subst hQe
    exact W.vret hx hb hr (fun t ht hW => ⟨⟨(q12, u2), rfl, (Option.some.inj hR).symm, by rw [ht]; exact hP12, va_K.moved hW.alike hK, hD12⟩, hS12.F ht⟩) hS12.2.2 dX6_readCoins_69
  have hB58 : ∀ (rec20 : Int32 → Int32 → Int32 → ZT_6 → ZT_2 → Option (ZT_6 × ZT_2)) (hrec20 : ∀ (y2 : Int32) (y3 : Int32) (y4 : Int32) (u1 : ZT_6) (u2 : ZT_2) (H : Heap) (locs : List Loc) (ls : Array Slot), va_P (dC, dI) vwCl (zc_6 a1 k1 u1 ++ zc_2 a2 k2 n2 u2) H → va_D A (zc_6 a1 k1 u1 ++ zc_2 a2 k2 n2 u2) → va_S A s.heap H locs → lv_has ls 5 [(0, .ref (a1 0)), (1, .ref (a2 0)), (2, .int y2), (3, .int y3), (4, .int y4)] → rec20 y2 y3 y4 u1 u2 = some res → W p l e ({ frames := 4, cells := 0, slots := 0, locals := 88 } : Room) s m args below meth c H locs 0 0 Q (F0 m 20 ls [])), ∀ (y2 : Int32) (y4 : Int32) (w0 : Int32) (u1 : ZT_6) (u2 : ZT_2) (H : Heap) (locs : List Loc) (ls : Array Slot), va_P (dC, dI) vwCl (zc_6 a1 k1 u1 ++ zc_2 a2 k2 n2 u2) H → va_D A (zc_6 a1 k1 u1 ++ zc_2 a2 k2 n2 u2) → va_S A s.heap H locs → lv_has ls 5 [(0, .ref (a1 0)), (1, .ref (a2 0)), (2, .int y2), (4, .int y4)] → rr_X6_readCoins_58 fu n2 rec20 y2 y4 w0 u1 u2 = some res → W p l e ({ frames := 4, cells := 0, slots := 0, locals := 88 } : Room) s m args below meth c H locs 0 0 Q (F0 m 58 ls [.int w0]) := by
    intro rec20 hrec20 y2 y4 w0 u1 u2 H locs ls hP hD hS hl hR
    unfold rr_X6_readCoins_58 at hR
    refine lv_istore_n (lv' := [(3, .int w0), (0, .ref (a1 0)), (1, .ref (a2 0)), (2, .int y2), (4, .int y4)]) hx hb dX6_readCoins_58 rfl hl (by decide) rfl (fun ls13 hl13 => ?_)
    obtain ⟨z14, ez14⟩ : ∃ y : Int32, y = (y4 + (1 : Int32)) := ⟨_, rfl⟩
    replace hR := lt_ok hR ez14
    refine lv_iinc (v := z14) (lv' := [(4, .int z14), (3, .int w0), (0, .ref (a1 0)), (1, .ref (a2 0)), (2, .int y2)]) hx hb dX6_readCoins_59 hl13 (k := 4) rfl (by rw [ez14]; rfl) (by decide) rfl (fun ls14 hl14 => ?_)
    refine lv_goto (tgt := 20) hx hb dX6_readCoins_62 (by decide) ?_
    exact hrec20 y2 w0 z14 u1 u2 H locs ls14 hP hD hS (lv_sub hl14 [2, 3, 4, 1, 0] rfl) hR
  have hB57 : ∀ (rec20 : Int32 → Int32 → Int32 → ZT_6 → ZT_2 → Option (ZT_6 × ZT_2)) (hrec20 : ∀ (y2 : Int32) (y3 : Int32) (y4 : Int32) (u1 : ZT_6) (u2 : ZT_2) (H : Heap) (locs : List Loc) (ls : Array Slot), va_P (dC, dI) vwCl (zc_6 a1 k1 u1 ++ zc_2 a2 k2 n2 u2) H → va_D A (zc_6 a1 k1 u1 ++ zc_2 a2 k2 n2 u2) → va_S A s.heap H locs → lv_has ls 5 [(0, .ref (a1 0)), (1, .ref (a2 0)), (2, .int y2), (3, .int y3), (4, .int y4)] → rec20 y2 y3 y4 u1 u2 = some res → W p l e ({ frames := 4, cells := 0, slots := 0, locals := 88 } : Room) s m args below meth c H locs 0 0 Q (F0 m 20 ls [])), ∀ (y2 : Int32) (y4 : Int32) (u1 : ZT_6) (u2 : ZT_2) (H : Heap) (locs : List Loc) (ls : Array Slot), va_P (dC, dI) vwCl (zc_6 a1 k1 u1 ++ zc_2 a2 k2 n2 u2) H → va_D A (zc_6 a1 k1 u1 ++ zc_2 a2 k2 n2 u2) → va_S A s.heap H locs → lv_has ls 5 [(0, .ref (a1 0)), (1, .ref (a2 0)), (2, .int y2), (4, .int y4)] → rr_X6_readCoins_57 fu n2 rec20 y2 y4 u1 u2 = some res → W p l e ({ frames := 4, cells := 0, slots := 0, locals := 88 } : Room) s m args below meth c H locs 0 0 Q (F0 m 57 ls []) := by
    intro rec20 hrec20 y2 y4 u1 u2 H locs ls hP hD hS hl hR
    unfold rr_X6_readCoins_57 at hR
    refine lv_iconst (v := (0 : Int32)) hx hb dX6_readCoins_57 (by decide) ?_
    exact hB58 rec20 hrec20 y2 y4 (0 : Int32) u1 u2 H locs ls hP hD hS (lv_sub hl [0, 1, 2, 3] rfl) hR
  have hB20 : ∀ (n : Nat), ∀ (y2 : Int32) (y3 : Int32) (y4 : Int32) (u1 : ZT_6) (u2 : ZT_2) (H : Heap) (locs : List Loc) (ls : Array Slot), va_P (dC, dI) vwCl (zc_6 a1 k1 u1 ++ zc_2 a2 k2 n2 u2) H → va_D A (zc_6 a1 k1 u1 ++ zc_2 a2 k2 n2 u2) → va_S A s.heap H locs → lv_has ls 5 [(0, .ref (a1 0)), (1, .ref (a2 0)), (2, .int y2), (3, .int y3), (4, .int y4)] → rr_X6_readCoins_20 fu n2 n y2 y3 y4 u1 u2 = some res → W p l e ({ frames := 4, cells := 0, slots := 0, locals := 88 } : Room) s m args below meth c H locs 0 0 Q (F0 m 20 ls []) := by
    intro  n
    induction n with
    | zero => intro y2 y3 y4 u1 u2 H locs ls hP hD hS hl hR; exact absurd hR (by intro h; cases h)
    | succ n ih =>
      intro y2 y3 y4 u1 u2 H locs ls hP hD hS hl hR
      replace hR : rr_X6_readCoins_20_b fu n2 (rr_X6_readCoins_20 fu n2 n) y2 y3 y4 u1 u2 = some res := hR
      unfold rr_X6_readCoins_20_b at hR
      refine lv_iload_n hx hb dX6_readCoins_20 rfl (lv_at hl 3 rfl) ?_
      refine lv_if_eq (tgt := 65) hx hb dX6_readCoins_21 (by decide) (fun c6 => ?_) (fun c6 => ?_)
      · replace hR := ifp_ hR c6
        exact hB65 u1 u2 H locs ls hP hD hS (lv_sub hl [0] rfl) hR
      · replace hR := ifn_ hR c6
        refine lv_iload hx hb dX6_readCoins_24 (lv_at hl 4 rfl) ?_
        refine lv_bipush (v := (10 : Int32)) hx hb dX6_readCoins_26 (by decide) ?_
        refine lv_icmp_gt (tgt := 65) hx hb dX6_readCoins_28 (by decide) (fun c7 => ?_) (fun c7 => ?_)
        · replace hR := ifp_ hR c7
          exact hB65 u1 u2 H locs ls hP hD hS (lv_sub hl [0] rfl) hR
        · replace hR := ifn_ hR c7
          refine lv_aload_n hx hb dX6_readCoins_31 rfl (lv_at hl 0 rfl) ?_
          refine lv_aload_n hx hb dX6_readCoins_32 rfl (lv_at hl 1 rfl) ?_
          refine lv_iload_n hx hb dX6_readCoins_33 rfl (lv_at hl 2 rfl) ?_
          have hR0 := ob_ok hR
          clear hR
          obtain ⟨q8, hq8, hR⟩ := hR0
          refine va_callv (va_runV (As := [.ref (a2 0), .int y2]) (rest := []) ⟨hx, hb, hml, hown, hts⟩ (cc_X6_readCoin l dC dI fu a1 a2 k1 k2 n2 H.size y2 u1 u2 q8 hq8) (cwV 2 hts gX6_readCoins_X6_readCoin rfl rfl rfl (by decide +kernel) ⟨Nat.le_of_ble_eq_true rfl, Nat.le_of_ble_eq_true rfl⟩) (pn_v hN hK hP hD 6 0 rfl rfl rfl) rfl rfl hl.1 rfl (lv_room (Nat.le_of_ble_eq_true rfl)) dX6_readCoins_34 ⟨Nat.le_refl _, Nat.le_refl _⟩) hS (fun q _ h => (fr_all hD hS hA) q h) (fr_all hD hS hA) (fun v8 t8 H8 locs8 ht8 hvm8 hw8 hB8 hz8 hk8 hS8 => ?_)
          subst hw8
          obtain ⟨hP8, hD8⟩ := jn_all hD hS hA ht8 hB8
          have hP8 : va_P (dC, dI) vwCl (zc_6 a1 k1 q8.1 ++ zc_2 a2 k2 n2 q8.2) H8 := hP8
          have hD8 : va_D A (zc_6 a1 k1 q8.1 ++ zc_2 a2 k2 n2 q8.2) := hD8
          clear hP hD hS hB8 hk8 hvm8 hz8 ht8
          refine lv_iload hx hb dX6_readCoins_37 (lv_at hl 4 rfl) ?_
          refine lv_bipush (v := (10 : Int32)) hx hb dX6_readCoins_39 (by decide) ?_
          refine lv_icmp_ge (tgt := 57) hx hb dX6_readCoins_41 (by decide) (fun c9 => ?_) (fun c9 => ?_)
          · replace hR := ifp_ hR c9
            exact hB57 (rr_X6_readCoins_20 fu n2 n) ih y2 y4 q8.1 q8.2 H8 locs8 ls hP8 hD8 hS8 (lv_sub hl [0, 1, 2, 4] rfl) hR
          · replace hR := ifn_ hR c9
            refine lv_aload_n hx hb dX6_readCoins_44 rfl (lv_at hl 0 rfl) ?_
            refine lv_bipush (v := (44 : Int32)) hx hb dX6_readCoins_45 (by decide) ?_
            have hR0 := ob_ok hR
            clear hR
            obtain ⟨q10, hq10, hR⟩ := hR0
            refine va_calli (va_runV (As := [.int (44 : Int32)]) (rest := []) ⟨hx, hb, hml, hown, hts⟩ (cc_X6_takes l dC dI fu a1 k1 H8.size (44 : Int32) q8.1 q10 hq10) (cwV 1 hts gX6_readCoins_X6_takes rfl rfl rfl (by decide +kernel) ⟨Nat.le_of_ble_eq_true rfl, Nat.le_of_ble_eq_true rfl⟩) (pf_v (hK.sub (tys' := zt_6 k1) [0] rfl) (sub_P (sb_6_2__0c0 a1 a2 k1 k2 n2 q8.1 q8.2) hP8) (sub_D (sb_6_2__0c0 a1 a2 k1 k2 n2 q8.1 q8.2) hD8) 6 0 rfl rfl rfl) rfl rfl hl.1 rfl (lv_room (Nat.le_of_ble_eq_true rfl)) dX6_readCoins_47 ⟨Nat.le_refl _, Nat.le_refl _⟩) hS8 (fun q _ h => (sub_F (sb_6_2__0c0 a1 a2 k1 k2 n2 q8.1 q8.2) hD8 hS8 hA) q h) (sub_F (sb_6_2__0c0 a1 a2 k1 k2 n2 q8.1 q8.2) hD8 hS8 hA) (fun r10 v10 t10 H10 locs10 ht10 hvm10 hw10 hB10 hz10 hk10 hS10 => ?_)
            obtain rfl : r10 = q10.1 := (congrArg Prod.fst hw10).symm
            obtain rfl : v10 = q10.2 := (congrArg Prod.snd hw10).symm
            obtain ⟨hP10, hD10⟩ := jn_sub (sb_6_2__0c0 a1 a2 k1 k2 n2 q8.1 q8.2) (jo_6_2__0c0__0 a1 a2 k1 k2 n2 q8.1 q8.2 q10.2) rfl hP8 hD8 hk10 ht10 hB10
            have hP10 : va_P (dC, dI) vwCl (zc_6 a1 k1 q10.2 ++ zc_2 a2 k2 n2 q8.2) H10 := hP10
            have hD10 : va_D A (zc_6 a1 k1 q10.2 ++ zc_2 a2 k2 n2 q8.2) := hD10
            clear hP8 hD8 hS8 hB10 hk10 hvm10 hz10 ht10
            refine lv_if_eq (tgt := 57) hx hb dX6_readCoins_50 (by decide) (fun c11 => ?_) (fun c11 => ?_)
            · replace hR := ifp_ hR c11
              exact hB57 (rr_X6_readCoins_20 fu n2 n) ih y2 y4 q10.2 q8.2 H10 locs10 ls hP10 hD10 hS10 (lv_sub hl [0, 1, 2, 4] rfl) hR
            · replace hR := ifn_ hR c11
              refine lv_iconst (v := (1 : Int32)) hx hb dX6_readCoins_53 (by decide) ?_
              refine lv_goto (tgt := 58) hx hb dX6_readCoins_54 (by decide) ?_
              exact hB58 (rr_X6_readCoins_20 fu n2 n) ih y2 y4 (1 : Int32) q10.2 q8.2 H10 locs10 ls hP10 hD10 hS10 (lv_sub hl [0, 1, 2, 4] rfl) hR
  unfold rr_X6_readCoins at hR
  refine lv_aload_n hx hb dX6_readCoins_0 rfl (lv_at hl 1 rfl) ?_
  refine lv_iconst (v := (0 : Int32)) hx hb dX6_readCoins_1 (by decide) ?_
  refine va_put (D := (dC, dI)) (ci := 2) (v := .int (0 : Int32)) (ty := .int) (C := RX2) (T := TX2) (N := 6) hx hb hts hin2 tyX2 tyX2_ok nmX2 hown hK hP hD hS 2 rfl rfl 0 (by decide) (hts (.fieldLink RX6 28 "OldestCoins$Coins" "size" "I") (List.mem_of_getElem? (i := 1) rfl)) (fun _ h9 => h9) rfl (by decide +kernel) rfl rfl (Nat.le_of_ble_eq_true rfl) dX6_readCoins_2 (fun H1 locs1 hP1 hD1 hS1 => ?_)
  have hP1 : va_P (dC, dI) vwCl (zc_6 a1 k1 s1 ++ zc_2 a2 k2 n2 ((0 : Int32), s2.2)) H1 := hP1
  have hD1 : va_D A (zc_6 a1 k1 s1 ++ zc_2 a2 k2 n2 ((0 : Int32), s2.2)) := hD1
  clear hP hD hS
  refine lv_aload_n hx hb dX6_readCoins_5 rfl (lv_at hl 0 rfl) ?_
  refine lv_iconst (v := (0 : Int32)) hx hb dX6_readCoins_6 (by decide) ?_
  refine va_put (D := (dC, dI)) (ci := 6) (v := .int (0 : Int32)) (ty := .int) (C := RX6) (T := TX6) (N := 4) hx hb hts hin6 tyX6 tyX6_ok nmX6 hown hK hP1 hD1 hS1 0 rfl rfl 2 (by decide) (hts (.fieldLink RX6 31 "OldestCoins$Tape" "place" "I") (List.mem_of_getElem? (i := 2) rfl)) (fun _ h9 => h9) rfl (by decide +kernel) rfl rfl (Nat.le_of_ble_eq_true rfl) dX6_readCoins_7 (fun H2 locs2 hP2 hD2 hS2 => ?_)
  have hP2 : va_P (dC, dI) vwCl (zc_6 a1 k1 (s1.1, s1.2.1, (0 : Int32), s1.2.2.2) ++ zc_2 a2 k2 n2 ((0 : Int32), s2.2)) H2 := hP2
  have hD2 : va_D A (zc_6 a1 k1 (s1.1, s1.2.1, (0 : Int32), s1.2.2.2) ++ zc_2 a2 k2 n2 ((0 : Int32), s2.2)) := hD2
  clear hP1 hD1 hS1
  refine lv_aload_n hx hb dX6_readCoins_10 rfl (lv_at hl 0 rfl) ?_
  refine lv_iconst (v := (-1 : Int32)) hx hb dX6_readCoins_11 (by decide) ?_
  refine va_put (D := (dC, dI)) (ci := 6) (v := .int (-1 : Int32)) (ty := .int) (C := RX6) (T := TX6) (N := 4) hx hb hts hin6 tyX6 tyX6_ok nmX6 hown hK hP2 hD2 hS2 0 rfl rfl 1 (by decide) (hts (.fieldLink RX6 11 "OldestCoins$Tape" "fault" "I") (List.mem_of_getElem? (i := 3) rfl)) (fun _ h9 => h9) rfl (by decide +kernel) rfl rfl (Nat.le_of_ble_eq_true rfl) dX6_readCoins_12 (fun H3 locs3 hP3 hD3 hS3 => ?_)
  have hP3 : va_P (dC, dI) vwCl (zc_6 a1 k1 (s1.1, (-1 : Int32), (0 : Int32), s1.2.2.2) ++ zc_2 a2 k2 n2 ((0 : Int32), s2.2)) H3 := hP3
  have hD3 : va_D A (zc_6 a1 k1 (s1.1, (-1 : Int32), (0 : Int32), s1.2.2.2) ++ zc_2 a2 k2 n2 ((0 : Int32), s2.2)) := hD3
  clear hP2 hD2 hS2
  refine lv_iconst (v := (1 : Int32)) hx hb dX6_readCoins_15 (by decide) ?_
  refine lv_istore_n (lv' := [(3, .int (1 : Int32)), (0, .ref (a1 0)), (1, .ref (a2 0)), (2, .int x2)]) hx hb dX6_readCoins_16 rfl hl (by decide) rfl (fun ls4 hl4 => ?_)
  refine lv_iconst (v := (1 : Int32)) hx hb dX6_readCoins_17 (by decide) ?_
  refine lv_istore (lv' := [(4, .int (1 : Int32)), (3, .int (1 : Int32)), (0, .ref (a1 0)), (1, .ref (a2 0)), (2, .int x2)]) hx hb dX6_readCoins_18 hl4 (by decide) rfl (fun ls5 hl5 => ?_)
  exact hB20 fu x2 (1 : Int32) (1 : Int32) (s1.1, (-1 : Int32), (0 : Int32), s1.2.2.2) ((0 : Int32), s2.2) H3 locs3 ls5 hP3 hD3 hS3 (lv_sub hl5 [2, 3, 4, 1, 0] rfl) hR
