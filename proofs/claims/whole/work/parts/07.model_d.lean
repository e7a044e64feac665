def rr_X10_goErrands_55 (fu : Nat) (rec4 : Int32 → Int32 → Int32 → ZT_10 → Option (Int32 × ZT_10)) (y1 : Int32) (y3 : Int32) (w0 : Int32) (w1 : Int32) (u1 : ZT_10) : Option (Int32 × ZT_10) := lt_ (α := Int32) (w1 + w0) (fun z11 => lt_ (α := Int32) (y3 + (1 : Int32)) (fun z13 => rec4 y1 z11 z13 u1))
def rr_X10_goErrands_54 (fu : Nat) (rec4 : Int32 → Int32 → Int32 → ZT_10 → Option (Int32 × ZT_10)) (y1 : Int32) (y3 : Int32) (w0 : Int32) (u1 : ZT_10) : Option (Int32 × ZT_10) := rr_X10_goErrands_55 fu rec4 y1 y3 (0 : Int32) w0 u1
def rr_X10_goErrands_4_b (fu : Nat) (rec4 : Int32 → Int32 → Int32 → ZT_10 → Option (Int32 × ZT_10)) (y1 : Int32) (y2 : Int32) (y3 : Int32) (u1 : ZT_10) : Option (Int32 × ZT_10) := (if u1.2.1.2.2 ≤ y3 then some (y2, u1) else ck_ y3 6 (ck_ (u1.2.2.2.2.2.2.1.2.1 y3.toNatClampNeg) 6 (ck_ y3 6 (ck_ (u1.2.2.2.2.2.2.1.2.1 y3.toNatClampNeg) 6 ((rr_X10_doBill fu y1 (u1.2.1.1 (u1.2.2.2.2.2.2.1.2.1 y3.toNatClampNeg).toNatClampNeg) (u1.2.1.2.1 (u1.2.2.2.2.2.2.1.2.1 y3.toNatClampNeg).toNatClampNeg) u1).bind (fun q8 => (if q8.1 = (0 : Int32) then rr_X10_goErrands_54 fu rec4 y1 y3 y2 q8.2 else (if q8.2.2.2.2.2.2.1.2.2.2.1 = (0 : Int32) then rr_X10_goErrands_55 fu rec4 y1 y3 (1 : Int32) y2 q8.2 else rr_X10_goErrands_54 fu rec4 y1 y3 y2 q8.2))))))))
def rr_X10_goErrands_4 (fu : Nat) (n : Nat) : Int32 → Int32 → Int32 → ZT_10 → Option (Int32 × ZT_10) := lp_ (fun _ _ _ _ => none) (rr_X10_goErrands_4_b fu) n
def rr_X10_goErrands (fu : Nat) (x1 : Int32) (s1 : ZT_10) : Option (Int32 × ZT_10) := rr_X10_goErrands_4 fu fu x1 (0 : Int32) (0 : Int32) s1
set_option maxHeartbeats 4000000 in
set_option maxRecDepth 100000 in
theorem cc_X10_goErrands (l : Launch) (dC : Nat → ClassId) (dI : Nat → Nat → Nat) (fu : Nat) (a1 : Nat → Nat) (k1 : Nat → ClassId) (sz : Nat) (x1 : Int32) (s1 : ZT_10) (res : Int32 × ZT_10) (hR : rr_X10_goErrands fu x1 s1 = some res) : Met l yX10_goErrands wsX10_goErrands ({ frames := 6, cells := 0, slots := 0, locals := 139 } : Room) (PcF [.ref (a1 0), .int x1] sz (dC, dI) (zc_10 a1 k1 s1) (zt_10 k1)) (va_Qi (fun (r : Int32) (u : ZT_10) => res = (r, u)) (fun u t => at3_ (dC, dI) (zc_10 a1 k1 u) (zt_10 k1) (va_A (zc_10 a1 k1 s1) sz) t) (va_A (zc_10 a1 k1 s1) sz)) 0 0 (va_A (zc_10 a1 k1 s1) sz) := by
  refine Met.ofW (cc := cX10_goErrands) (maxL := 4) (ret := (some .int)) (by decide) rfl ?_
  intro p e s m args below meth c s₁ B hml hv
  obtain ⟨hav, hsz, hP, hK, hD0⟩ := hv
  have hx := B.exec
  have hb := B.bytes
  have hr := B.returns
  have hts := atoms_spec (ws := wsX10_goErrands) B.pre
  have hown : s.vm.findClass RX10 = some m.cls := findClass_of_methodNamed B.named
  have hlocks := B.notSynchronized
  have hin10 : ∀ w ∈ wsX100, w ∈ wsX10_goErrands := fun w h => List.mem_cons_of_mem _ (List.mem_append_right _ h)
  subst hsz
  have hD := hD0.self (sz := s.heap.size)
  clear hD0
  generalize hAe : va_A (zc_10 a1 k1 s1) s.heap.size = A at hD ⊢
  have hA : ∀ q : Nat, s.heap.size ≤ q → A q := fun q h => by rw [← hAe]; exact Or.inr h
  have hS : va_S A s.heap s.heap [] := va_S.rf
  generalize hQe : MQ below _ args s 0 0 A = Q
  rw [show entryFrame m args 4 = F0 m 0 ((lg_sl ([.ref (a1 0), .int x1]) ++ List.replicate (4 - (lg_sl ([.ref (a1 0), .int x1])).length) Slot.unset).toArray) [] from by rw [hav]; exact lg_entry_eq m _ _]
  have hl := lv_entry ([.ref (a1 0), .int x1]) (n := 4) (Nat.le_of_ble_eq_true rfl)
  generalize (lg_sl ([.ref (a1 0), .int x1]) ++ List.replicate (4 - (lg_sl ([.ref (a1 0), .int x1])).length) Slot.unset).toArray = ls at hl ⊢
  have hl : lv_has ls 4 [(0, .ref (a1 0)), (1, .int x1)] := hl
  have hB55 : ∀ (rec4 : Int32 → Int32 → Int32 → ZT_10 → Option (Int32 × ZT_10)) (hrec4 : ∀ (y1 : Int32) (y2 : Int32) (y3 : Int32) (u1 : ZT_10) (H : Heap) (locs : List Loc) (ls : Array Slot), va_P (dC, dI) vwCl (zc_10 a1 k1 u1) H → va_D A (zc_10 a1 k1 u1) → va_S A s.heap H locs → lv_has ls 4 [(0, .ref (a1 0)), (1, .int y1), (2, .int y2), (3, .int y3)] → rec4 y1 y2 y3 u1 = some res → W p l e ({ frames := 6, cells := 0, slots := 0, locals := 139 } : Room) s m args below meth c H locs 0 0 Q (F0 m 4 ls [])), ∀ (y1 : Int32) (y3 : Int32) (w0 : Int32) (w1 : Int32) (u1 : ZT_10) (H : Heap) (locs : List Loc) (ls : Array Slot), va_P (dC, dI) vwCl (zc_10 a1 k1 u1) H → va_D A (zc_10 a1 k1 u1) → va_S A s.heap H locs → lv_has ls 4 [(0, .ref (a1 0)), (1, .int y1), (3, .int y3)] → rr_X10_goErrands_55 fu rec4 y1 y3 w0 w1 u1 = some res → W p l e ({ frames := 6, cells := 0, slots := 0, locals := 139 } : Room) s m args below meth c H locs 0 0 Q (F0 m 55 ls [.int w0, .int w1]) := by
    intro rec4 hrec4 y1 y3 w0 w1 u1 H locs ls hP hD hS hl hR
    unfold rr_X10_goErrands_55 at hR
    refine lv_iadd hx hb dX10_goErrands_55 ?_
    refine lv_topi (fun z11 ez11 => ?_)
    replace hR := lt_ok hR ez11
    refine lv_istore_n (lv' := [(2, .int z11), (0, .ref (a1 0)), (1, .int y1), (3, .int y3)]) hx hb dX10_goErrands_56 rfl hl (by decide) rfl (fun ls12 hl12 => ?_)
    obtain ⟨z13, ez13⟩ : ∃ y : Int32, y = (y3 + (1 : Int32)) := ⟨_, rfl⟩
    replace hR := lt_ok hR ez13
    refine lv_iinc (v := z13) (lv' := [(3, .int z13), (2, .int z11), (0, .ref (a1 0)), (1, .int y1)]) hx hb dX10_goErrands_57 hl12 (k := 3) rfl (by rw [ez13]; rfl) (by decide) rfl (fun ls13 hl13 => ?_)
    refine lv_goto (tgt := 4) hx hb dX10_goErrands_60 (by decide) ?_
    exact hrec4 y1 z11 z13 u1 H locs ls13 hP hD hS (lv_sub hl13 [2, 3, 1, 0] rfl) hR
  have hB54 : ∀ (rec4 : Int32 → Int32 → Int32 → ZT_10 → Option (Int32 × ZT_10)) (hrec4 : ∀ (y1 : Int32) (y2 : Int32) (y3 : Int32) (u1 : ZT_10) (H : Heap) (locs : List Loc) (ls : Array Slot), va_P (dC, dI) vwCl (zc_10 a1 k1 u1) H → va_D A (zc_10 a1 k1 u1) → va_S A s.heap H locs → lv_has ls 4 [(0, .ref (a1 0)), (1, .int y1), (2, .int y2), (3, .int y3)] → rec4 y1 y2 y3 u1 = some res → W p l e ({ frames := 6, cells := 0, slots := 0, locals := 139 } : Room) s m args below meth c H locs 0 0 Q (F0 m 4 ls [])), ∀ (y1 : Int32) (y3 : Int32) (w0 : Int32) (u1 : ZT_10) (H : Heap) (locs : List Loc) (ls : Array Slot), va_P (dC, dI) vwCl (zc_10 a1 k1 u1) H → va_D A (zc_10 a1 k1 u1) → va_S A s.heap H locs → lv_has ls 4 [(0, .ref (a1 0)), (1, .int y1), (3, .int y3)] → rr_X10_goErrands_54 fu rec4 y1 y3 w0 u1 = some res → W p l e ({ frames := 6, cells := 0, slots := 0, locals := 139 } : Room) s m args below meth c H locs 0 0 Q (F0 m 54 ls [.int w0]) := by
    intro rec4 hrec4 y1 y3 w0 u1 H locs ls hP hD hS hl hR
    unfold rr_X10_goErrands_54 at hR
    refine lv_iconst (v := (0 : Int32)) hx hb dX10_goErrands_54 (by decide) ?_
    exact hB55 rec4 hrec4 y1 y3 (0 : Int32) w0 u1 H locs ls hP hD hS (lv_sub hl [0, 1, 2] rfl) hR
  have hB4 : ∀ (n : Nat), ∀ (y1 : Int32) (y2 : Int32) (y3 : Int32) (u1 : ZT_10) (H : Heap) (locs : List Loc) (ls : Array Slot), va_P (dC, dI) vwCl (zc_10 a1 k1 u1) H → va_D A (zc_10 a1 k1 u1) → va_S A s.heap H locs → lv_has ls 4 [(0, .ref (a1 0)), (1, .int y1), (2, .int y2), (3, .int y3)] → rr_X10_goErrands_4 fu n y1 y2 y3 u1 = some res → W p l e ({ frames := 6, cells := 0, slots := 0, locals := 139 } : Room) s m args below meth c H locs 0 0 Q (F0 m 4 ls []) := by
    intro  n
    induction n with
    | zero => intro y1 y2 y3 u1 H locs ls hP hD hS hl hR; exact absurd hR (by intro h; cases h)
    | succ n ih =>
      intro y1 y2 y3 u1 H locs ls hP hD hS hl hR
      replace hR : rr_X10_goErrands_4_b fu (rr_X10_goErrands_4 fu n) y1 y2 y3 u1 = some res := hR
      unfold rr_X10_goErrands_4_b at hR
      refine lv_iload_n hx hb dX10_goErrands_4 rfl (lv_at hl 3 rfl) ?_
      refine lv_aload_n hx hb dX10_goErrands_5 rfl (lv_at hl 0 rfl) ?_
      refine va_get (D := (dC, dI)) (ci := 10) (v := .int u1.2.1.2.2) (C := RX10) (T := TX10) (N := 35) hx hb hts hin10 hown hK hP 0 rfl rfl 9 (by decide) (hts (.fieldLink RX10 135 "OldestCoinsModel" "errands" "I") (List.mem_of_getElem? (i := 1) rfl)) (fun _ h9 => h9) rfl dX10_goErrands_6 ?_
      refine lv_icmp_ge (tgt := 63) hx hb dX10_goErrands_9 (by decide) (fun c3 => ?_) (fun c3 => ?_)
      · replace hR := ifp_ hR c3
        refine lv_iload_n hx hb dX10_goErrands_63 rfl (lv_at hl 2 rfl) ?_
        subst hQe
        exact W.iret (v := y2) hx hb hr (fun t ht hW => ⟨⟨y2, u1, rfl, (Option.some.inj hR).symm, by rw [ht]; exact hP, va_K.moved hW.alike hK, hD⟩, hS.F ht⟩) hS.2.2 dX10_goErrands_64
      · replace hR := ifn_ hR c3
        refine lv_iload_n hx hb dX10_goErrands_12 rfl (lv_at hl 2 rfl) ?_
        refine lv_aload_n hx hb dX10_goErrands_13 rfl (lv_at hl 0 rfl) ?_
        refine lv_iload_n hx hb dX10_goErrands_14 rfl (lv_at hl 1 rfl) ?_
        refine lv_aload_n hx hb dX10_goErrands_15 rfl (lv_at hl 0 rfl) ?_
        refine va_get (D := (dC, dI)) (ci := 10) (v := .ref (a1 6)) (C := RX10) (T := TX10) (N := 35) hx hb hts hin10 hown hK hP 0 rfl rfl 7 (by decide) (hts (.fieldLink RX10 25 "OldestCoinsModel" "shops" "[I") (List.mem_of_getElem? (i := 2) rfl)) (fun _ h9 => h9) rfl dX10_goErrands_16 ?_
        refine lv_aload_n hx hb dX10_goErrands_19 rfl (lv_at hl 0 rfl) ?_
        refine va_get (D := (dC, dI)) (ci := 10) (v := .ref (a1 13)) (C := RX10) (T := TX10) (N := 35) hx hb hts hin10 hown hK hP 0 rfl rfl 25 (by decide) (hts (.fieldLink RX10 46 "OldestCoinsModel" "order" "[I") (List.mem_of_getElem? (i := 3) rfl)) (fun _ h9 => h9) rfl dX10_goErrands_20 ?_
        refine lv_iload_n hx hb dX10_goErrands_23 rfl (lv_at hl 3 rfl) ?_
        have i4 := (ck_ok hR).1
        replace hR := (ck_ok hR).2
        refine va_iald (f := u1.2.2.2.2.2.2.1.2.1) hx hb hK hP 13 12 rfl rfl i4 dX10_goErrands_24 ?_
        have i5 := (ck_ok hR).1
        replace hR := (ck_ok hR).2
        refine va_iald (f := u1.2.1.1) hx hb hK hP 6 5 rfl rfl i5 dX10_goErrands_25 ?_
        refine lv_aload_n hx hb dX10_goErrands_26 rfl (lv_at hl 0 rfl) ?_
        refine va_get (D := (dC, dI)) (ci := 10) (v := .ref (a1 7)) (C := RX10) (T := TX10) (N := 35) hx hb hts hin10 hown hK hP 0 rfl rfl 8 (by decide) (hts (.fieldLink RX10 28 "OldestCoinsModel" "sums" "[I") (List.mem_of_getElem? (i := 4) rfl)) (fun _ h9 => h9) rfl dX10_goErrands_27 ?_
        refine lv_aload_n hx hb dX10_goErrands_30 rfl (lv_at hl 0 rfl) ?_
        refine va_get (D := (dC, dI)) (ci := 10) (v := .ref (a1 13)) (C := RX10) (T := TX10) (N := 35) hx hb hts hin10 hown hK hP 0 rfl rfl 25 (by decide) (hts (.fieldLink RX10 46 "OldestCoinsModel" "order" "[I") (List.mem_of_getElem? (i := 3) rfl)) (fun _ h9 => h9) rfl dX10_goErrands_31 ?_
        refine lv_iload_n hx hb dX10_goErrands_34 rfl (lv_at hl 3 rfl) ?_
        have i6 := (ck_ok hR).1
        replace hR := (ck_ok hR).2
        refine va_iald (f := u1.2.2.2.2.2.2.1.2.1) hx hb hK hP 13 12 rfl rfl i6 dX10_goErrands_35 ?_
        have i7 := (ck_ok hR).1
        replace hR := (ck_ok hR).2
        refine va_iald (f := u1.2.1.2.1) hx hb hK hP 7 6 rfl rfl i7 dX10_goErrands_36 ?_
        have hR0 := ob_ok hR
        clear hR
        obtain ⟨q8, hq8, hR⟩ := hR0
        refine va_calli (va_runV (As := [.int y1, .int (u1.2.1.1 (u1.2.2.2.2.2.2.1.2.1 y3.toNatClampNeg).toNatClampNeg), .int (u1.2.1.2.1 (u1.2.2.2.2.2.2.1.2.1 y3.toNatClampNeg).toNatClampNeg)]) (rest := [.int y2]) ⟨hx, hb, hml, hown, hts⟩ (cc_X10_doBill l dC dI fu a1 k1 H.size y1 (u1.2.1.1 (u1.2.2.2.2.2.2.1.2.1 y3.toNatClampNeg).toNatClampNeg) (u1.2.1.2.1 (u1.2.2.2.2.2.2.1.2.1 y3.toNatClampNeg).toNatClampNeg) u1 q8 hq8) (cwV 3 hts gX10_goErrands_X10_doBill rfl rfl rfl (by decide +kernel) ⟨Nat.le_of_ble_eq_true rfl, Nat.le_of_ble_eq_true rfl⟩) (pf_v hK hP hD 10 0 rfl rfl rfl) rfl rfl hl.1 rfl (lv_room (Nat.le_of_ble_eq_true rfl)) dX10_goErrands_37 ⟨Nat.le_refl _, Nat.le_refl _⟩) hS (fun q _ h => (fr_all hD hS hA) q h) (fr_all hD hS hA) (fun r8 v8 t8 H8 locs8 ht8 hvm8 hw8 hB8 hz8 hk8 hS8 => ?_)
        obtain rfl : r8 = q8.1 := (congrArg Prod.fst hw8).symm
        obtain rfl : v8 = q8.2 := (congrArg Prod.snd hw8).symm
        obtain ⟨hP8, hD8⟩ := jn_all hD hS hA ht8 hB8
        have hP8 : va_P (dC, dI) vwCl (zc_10 a1 k1 q8.2) H8 := hP8
        have hD8 : va_D A (zc_10 a1 k1 q8.2) := hD8
        clear hP hD hS hB8 hk8 hvm8 hz8 ht8
        refine lv_if_eq (tgt := 54) hx hb dX10_goErrands_40 (by decide) (fun c9 => ?_) (fun c9 => ?_)
        · replace hR := ifp_ hR c9
          exact hB54 (rr_X10_goErrands_4 fu n) ih y1 y3 y2 q8.2 H8 locs8 ls hP8 hD8 hS8 (lv_sub hl [0, 1, 3] rfl) hR
        · replace hR := ifn_ hR c9
          refine lv_aload_n hx hb dX10_goErrands_43 rfl (lv_at hl 0 rfl) ?_
          refine va_get (D := (dC, dI)) (ci := 10) (v := .int q8.2.2.2.2.2.2.1.2.2.2.1) (C := RX10) (T := TX10) (N := 35) hx hb hts hin10 hown hK hP8 0 rfl rfl 22 (by decide) (hts (.fieldLink RX10 199 "OldestCoinsModel" "due" "I") (List.mem_of_getElem? (i := 5) rfl)) (fun _ h9 => h9) rfl dX10_goErrands_44 ?_
          refine lv_if_ne (tgt := 54) hx hb dX10_goErrands_47 (by decide) (fun c10 => ?_) (fun c10 => ?_)
          · replace hR := ifn_ hR c10
            exact hB54 (rr_X10_goErrands_4 fu n) ih y1 y3 y2 q8.2 H8 locs8 ls hP8 hD8 hS8 (lv_sub hl [0, 1, 3] rfl) hR
          · replace hR := ifp_ hR c10
            refine lv_iconst (v := (1 : Int32)) hx hb dX10_goErrands_50 (by decide) ?_
            refine lv_goto (tgt := 55) hx hb dX10_goErrands_51 (by decide) ?_
            exact hB55 (rr_X10_goErrands_4 fu n) ih y1 y3 (1 : Int32) y2 q8.2 H8 locs8 ls hP8 hD8 hS8 (lv_sub hl [0, 1, 3] rfl) hR
  unfold rr_X10_goErrands at hR
  refine lv_iconst (v := (0 : Int32)) hx hb dX10_goErrands_0 (by decide) ?_
  refine lv_istore_n (lv' := [(2, .int (0 : Int32)), (0, .ref (a1 0)), (1, .int x1)]) hx hb dX10_goErrands_1 rfl hl (by decide) rfl (fun ls1 hl1 => ?_)
  refine lv_iconst (v := (0 : Int32)) hx hb dX10_goErrands_2 (by decide) ?_
  refine lv_istore_n (lv' := [(3, .int (0 : Int32)), (2, .int (0 : Int32)), (0, .ref (a1 0)), (1, .int x1)]) hx hb dX10_goErrands_3 rfl hl1 (by decide) rfl (fun ls2 hl2 => ?_)
  exact hB4 fu x1 (0 : Int32) (0 : Int32) s1 s.heap [] ls2 hP hD hS (lv_sub hl2 [2, 3, 1, 0] rfl) hR
def rr_X10_send_86 (fu : Nat) (rec60 : Int32 → Int32 → Int32 → Int32 → Int32 → ZT_10 → Option (Int32 × ZT_10)) (y1 : Int32) (y2 : Int32) (y3 : Int32) (y4 : Int32) (w0 : Int32) (u1 : ZT_10) : Option (Int32 × ZT_10) := (rr_X10_bringBack fu u1).bind (fun q18 => (if w0 = (0 : Int32) then (rr_X10_nextOrder fu q18.2.1.2.2 q18).bind (fun q20 => rec60 y1 y2 y3 y4 q20.1 q20.2) else ck_ y4 6 (some ((q18.2.2.2.2.2.2.1.2.1 y4.toNatClampNeg), q18))))
def rr_X10_send_60_b (fu : Nat) (rec60 : Int32 → Int32 → Int32 → Int32 → Int32 → ZT_10 → Option (Int32 × ZT_10)) (y1 : Int32) (y2 : Int32) (y3 : Int32) (y4 : Int32) (y5 : Int32) (u1 : ZT_10) : Option (Int32 × ZT_10) := (if y5 = (0 : Int32) then some ((-4 : Int32), u1) else (rr_X10_goErrands fu y1 u1).bind (fun q14 => ck_ y2 40 ((if (q14.2.1.2.2.2.2.1 y2.toNatClampNeg) = y3 then rr_X10_send_86 fu rec60 y1 y2 y3 y4 (1 : Int32) q14.2 else rr_X10_send_86 fu rec60 y1 y2 y3 y4 (0 : Int32) q14.2))))
def rr_X10_send_60 (fu : Nat) (n : Nat) : Int32 → Int32 → Int32 → Int32 → Int32 → ZT_10 → Option (Int32 × ZT_10) := lp_ (fun _ _ _ _ _ _ => none) (rr_X10_send_60_b fu) n
def rr_X10_send (fu : Nat) (x1 : Int32) (x2 : Int32) (x3 : Int32) (x4 : Int32) (s1 : ZT_10) : Option (Int32 × ZT_10) := (rr_X10_isPurse fu x1).bind (fun q1 => (if q1 = (0 : Int32) then some ((-1 : Int32), s1) else (rr_X10_isCoin fu x2 s1).bind (fun q3 => (if q3 = (0 : Int32) then some ((-1 : Int32), s1) else (rr_X10_isShop fu x3).bind (fun q5 => (if q5 = (0 : Int32) then some ((-1 : Int32), s1) else (rr_X10_in fu x4.toInt64 (0 : Int64) (5 : Int64)).bind (fun q7 => (if q7 = (0 : Int32) then some ((-1 : Int32), s1) else (if x4 < s1.2.1.2.2 then (rr_X10_keep fu s1).bind (fun q10 => (rr_X10_firstOrder fu q10).bind (fun q11 => rr_X10_send_60 fu fu x1 x2 x3 x4 (1 : Int32) q11)) else some ((-4 : Int32), s1))))))))))
set_option maxHeartbeats 4000000 in
set_option maxRecDepth 100000 in
theorem cc_X10_send (l : Launch) (dC : Nat → ClassId) (dI : Nat → Nat → Nat) (fu : Nat) (a1 : Nat → Nat) (k1 : Nat → ClassId) (sz : Nat) (x1 : Int32) (x2 : Int32) (x3 : Int32) (x4 : Int32) (s1 : ZT_10) (res : Int32 × ZT_10) (hR : rr_X10_send fu x1 x2 x3 x4 s1 = some res) : Met l yX10_send wsX10_send ({ frames := 7, cells := 0, slots := 0, locals := 162 } : Room) (PcF [.ref (a1 0), .int x1, .int x2, .int x3, .int x4] sz (dC, dI) (zc_10 a1 k1 s1) (zt_10 k1)) (va_Qi (fun (r : Int32) (u : ZT_10) => res = (r, u)) (fun u t => at3_ (dC, dI) (zc_10 a1 k1 u) (zt_10 k1) (va_A (zc_10 a1 k1 s1) sz) t) (va_A (zc_10 a1 k1 s1) sz)) 0 0 (va_A (zc_10 a1 k1 s1) sz) := by
  refine Met.ofW (cc := cX10_send) (maxL := 7) (ret := (some .int)) (by decide) rfl ?_
  intro p e s m args below meth c s₁ B hml hv
  obtain ⟨hav, hsz, hP, hK, hD0⟩ := hv
  have hx := B.exec
  have hb := B.bytes
  have hr := B.returns
  have hts := atoms_spec (ws := wsX10_send) B.pre
  have hown : s.vm.findClass RX10 = some m.cls := findClass_of_methodNamed B.named
  have hlocks := B.notSynchronized
  have hin10 : ∀ w ∈ wsX100, w ∈ wsX10_send := fun w h => List.mem_cons_of_mem _ (List.mem_append_right _ h)
  subst hsz
  have hD := hD0.self (sz := s.heap.size)
  clear hD0
  generalize hAe : va_A (zc_10 a1 k1 s1) s.heap.size = A at hD ⊢
  have hA : ∀ q : Nat, s.heap.size ≤ q → A q := fun q h => by rw [← hAe]; exact Or.inr h
  have hS : va_S A s.heap s.heap [] := va_S.rf
  generalize hQe : MQ below _ args s 0 0 A = Q
  rw [show entryFrame m args 7 = F0 m 0 ((lg_sl ([.ref (a1 0), .int x1, .int x2, .int x3, .int x4]) ++ List.replicate (7 - (lg_sl ([.ref (a1 0), .int x1, .int x2, .int x3, .int x4])).length) Slot.unset).toArray) [] from by rw [hav]; exact lg_entry_eq m _ _]
  have hl := lv_entry ([.ref (a1 0), .int x1, .int x2, .int x3, .int x4]) (n := 7) (Nat.le_of_ble_eq_true rfl)
  generalize (lg_sl ([.ref (a1 0), .int x1, .int x2, .int x3, .int x4]) ++ List.replicate (7 - (lg_sl ([.ref (a1 0), .int x1, .int x2, .int x3, .int x4])).length) Slot.unset).toArray = ls at hl ⊢
  have hl : lv_has ls 7 [(0, .ref (a1 0)), (1, .int x1), (2, .int x2), (3, .int x3), (4, .int x4)] := hl
  have hB86 : ∀ (rec60 : Int32 → Int32 → Int32 → Int32 → Int32 → ZT_10 → Option (Int32 × ZT_10)) (hrec60 : ∀ (y1 : Int32) (y2 : Int32) (y3 : Int32) (y4 : Int32) (y5 : Int32) (u1 : ZT_10) (H : Heap) (locs : List Loc) (ls : Array Slot), va_P (dC, dI) vwCl (zc_10 a1 k1 u1) H → va_D A (zc_10 a1 k1 u1) → va_S A s.heap H locs → lv_has ls 7 [(0, .ref (a1 0)), (1, .int y1), (2, .int y2), (3, .int y3), (4, .int y4), (5, .int y5)] → rec60 y1 y2 y3 y4 y5 u1 = some res → W p l e ({ frames := 7, cells := 0, slots := 0, locals := 162 } : Room) s m args below meth c H locs 0 0 Q (F0 m 60 ls [])), ∀ (y1 : Int32) (y2 : Int32) (y3 : Int32) (y4 : Int32) (w0 : Int32) (u1 : ZT_10) (H : Heap) (locs : List Loc) (ls : Array Slot), va_P (dC, dI) vwCl (zc_10 a1 k1 u1) H → va_D A (zc_10 a1 k1 u1) → va_S A s.heap H locs → lv_has ls 7 [(0, .ref (a1 0)), (1, .int y1), (2, .int y2), (3, .int y3), (4, .int y4)] → rr_X10_send_86 fu rec60 y1 y2 y3 y4 w0 u1 = some res → W p l e ({ frames := 7, cells := 0, slots := 0, locals := 162 } : Room) s m args below meth c H locs 0 0 Q (F0 m 86 ls [.int w0]) := by
    intro rec60 hrec60 y1 y2 y3 y4 w0 u1 H locs ls hP hD hS hl hR
    unfold rr_X10_send_86 at hR
    refine lv_istore (lv' := [(6, .int w0), (0, .ref (a1 0)), (1, .int y1), (2, .int y2), (3, .int y3), (4, .int y4)]) hx hb dX10_send_86 hl (by decide) rfl (fun ls17 hl17 => ?_)
    refine lv_aload_n hx hb dX10_send_88 rfl (lv_at hl17 1 rfl) ?_
    have hR0 := ob_ok hR
    clear hR
    obtain ⟨q18, hq18, hR⟩ := hR0
    refine va_callv (va_runV (As := []) (rest := []) ⟨hx, hb, hml, hown, hts⟩ (cc_X10_bringBack l dC dI fu a1 k1 H.size u1 q18 hq18) (cwV 0 hts gX10_send_X10_bringBack rfl rfl rfl (by decide +kernel) ⟨Nat.le_of_ble_eq_true rfl, Nat.le_of_ble_eq_true rfl⟩) (pf_v hK hP hD 10 0 rfl rfl rfl) rfl rfl hl17.1 rfl (lv_room (Nat.le_of_ble_eq_true rfl)) dX10_send_89 ⟨Nat.le_refl _, Nat.le_refl _⟩) hS (fun q _ h => (fr_all hD hS hA) q h) (fr_all hD hS hA) (fun v18 t18 H18 locs18 ht18 hvm18 hw18 hB18 hz18 hk18 hS18 => ?_)
    subst hw18
    obtain ⟨hP18, hD18⟩ := jn_all hD hS hA ht18 hB18
    have hP18 : va_P (dC, dI) vwCl (zc_10 a1 k1 q18) H18 := hP18
    have hD18 : va_D A (zc_10 a1 k1 q18) := hD18
    clear hP hD hS hB18 hk18 hvm18 hz18 ht18
    refine lv_iload hx hb dX10_send_92 (lv_at hl17 0 rfl) ?_
    refine lv_if_eq (tgt := 105) hx hb dX10_send_94 (by decide) (fun c19 => ?_) (fun c19 => ?_)
    · replace hR := ifp_ hR c19
      refine lv_aload_n hx hb dX10_send_105 rfl (lv_at hl17 1 rfl) ?_
      refine lv_aload_n hx hb dX10_send_106 rfl (lv_at hl17 1 rfl) ?_
      refine va_get (D := (dC, dI)) (ci := 10) (v := .int q18.2.1.2.2) (C := RX10) (T := TX10) (N := 35) hx hb hts hin10 hown hK hP18 0 rfl rfl 9 (by decide) (hts (.fieldLink RX10 135 "OldestCoinsModel" "errands" "I") (List.mem_of_getElem? (i := 2) rfl)) (fun _ h9 => h9) rfl dX10_send_107 ?_
      have hR0 := ob_ok hR
      clear hR
      obtain ⟨q20, hq20, hR⟩ := hR0
      refine va_calli (va_runV (As := [.int q18.2.1.2.2]) (rest := []) ⟨hx, hb, hml, hown, hts⟩ (cc_X10_nextOrder l dC dI fu a1 k1 H18.size q18.2.1.2.2 q18 q20 hq20) (cwV 1 hts gX10_send_X10_nextOrder rfl rfl rfl (by decide +kernel) ⟨Nat.le_of_ble_eq_true rfl, Nat.le_of_ble_eq_true rfl⟩) (pf_v hK hP18 hD18 10 0 rfl rfl rfl) rfl rfl hl17.1 rfl (lv_room (Nat.le_of_ble_eq_true rfl)) dX10_send_110 ⟨Nat.le_refl _, Nat.le_refl _⟩) hS18 (fun q _ h => (fr_all hD18 hS18 hA) q h) (fr_all hD18 hS18 hA) (fun r20 v20 t20 H20 locs20 ht20 hvm20 hw20 hB20 hz20 hk20 hS20 => ?_)
      obtain rfl : r20 = q20.1 := (congrArg Prod.fst hw20).symm
      obtain rfl : v20 = q20.2 := (congrArg Prod.snd hw20).symm
      obtain ⟨hP20, hD20⟩ := jn_all hD18 hS18 hA ht20 hB20
      have hP20 : va_P (dC, dI) vwCl (zc_10 a1 k1 q20.2) H20 := hP20
      have hD20 : va_D A (zc_10 a1 k1 q20.2) := hD20
      clear hP18 hD18 hS18 hB20 hk20 hvm20 hz20 ht20
      refine lv_istore (lv' := [(5, .int q20.1), (6, .int w0), (0, .ref (a1 0)), (1, .int y1), (2, .int y2), (3, .int y3), (4, .int y4)]) hx hb dX10_send_113 hl17 (by decide) rfl (fun ls21 hl21 => ?_)
      refine lv_goto (tgt := 60) hx hb dX10_send_115 (by decide) ?_
      exact hrec60 y1 y2 y3 y4 q20.1 q20.2 H20 locs20 ls21 hP20 hD20 hS20 (lv_sub hl21 [2, 3, 4, 5, 6, 0] rfl) hR
    · replace hR := ifn_ hR c19
      refine lv_aload_n hx hb dX10_send_97 rfl (lv_at hl17 1 rfl) ?_
      refine va_get (D := (dC, dI)) (ci := 10) (v := .ref (a1 13)) (C := RX10) (T := TX10) (N := 35) hx hb hts hin10 hown hK hP18 0 rfl rfl 25 (by decide) (hts (.fieldLink RX10 46 "OldestCoinsModel" "order" "[I") (List.mem_of_getElem? (i := 4) rfl)) (fun _ h9 => h9) rfl dX10_send_98 ?_
      refine lv_iload hx hb dX10_send_101 (lv_at hl17 5 rfl) ?_
      have i22 := (ck_ok hR).1
      replace hR := (ck_ok hR).2
      refine va_iald (f := q18.2.2.2.2.2.2.1.2.1) hx hb hK hP18 13 12 rfl rfl i22 dX10_send_103 ?_
      subst hQe
      exact W.iret (v := (q18.2.2.2.2.2.2.1.2.1 y4.toNatClampNeg)) hx hb hr (fun t ht hW => ⟨⟨(q18.2.2.2.2.2.2.1.2.1 y4.toNatClampNeg), q18, rfl, (Option.some.inj hR).symm, by rw [ht]; exact hP18, va_K.moved hW.alike hK, hD18⟩, hS18.F ht⟩) hS18.2.2 dX10_send_104
  have hB60 : ∀ (n : Nat), ∀ (y1 : Int32) (y2 : Int32) (y3 : Int32) (y4 : Int32) (y5 : Int32) (u1 : ZT_10) (H : Heap) (locs : List Loc) (ls : Array Slot), va_P (dC, dI) vwCl (zc_10 a1 k1 u1) H → va_D A (zc_10 a1 k1 u1) → va_S A s.heap H locs → lv_has ls 7 [(0, .ref (a1 0)), (1, .int y1), (2, .int y2), (3, .int y3), (4, .int y4), (5, .int y5)] → rr_X10_send_60 fu n y1 y2 y3 y4 y5 u1 = some res → W p l e ({ frames := 7, cells := 0, slots := 0, locals := 162 } : Room) s m args below meth c H locs 0 0 Q (F0 m 60 ls []) := by
    intro  n
    induction n with
    | zero => intro y1 y2 y3 y4 y5 u1 H locs ls hP hD hS hl hR; exact absurd hR (by intro h; cases h)
    | succ n ih =>
      intro y1 y2 y3 y4 y5 u1 H locs ls hP hD hS hl hR
      replace hR : rr_X10_send_60_b fu (rr_X10_send_60 fu n) y1 y2 y3 y4 y5 u1 = some res := hR
      unfold rr_X10_send_60_b at hR
      refine lv_iload hx hb dX10_send_60 (lv_at hl 5 rfl) ?_
      refine lv_if_eq (tgt := 118) hx hb dX10_send_62 (by decide) (fun c13 => ?_) (fun c13 => ?_)
      · replace hR := ifp_ hR c13
        refine lv_bipush (v := (-4 : Int32)) hx hb dX10_send_118 (by decide) ?_
        subst hQe
        exact W.iret (v := (-4 : Int32)) hx hb hr (fun t ht hW => ⟨⟨(-4 : Int32), u1, rfl, (Option.some.inj hR).symm, by rw [ht]; exact hP, va_K.moved hW.alike hK, hD⟩, hS.F ht⟩) hS.2.2 dX10_send_120
      · replace hR := ifn_ hR c13
        refine lv_aload_n hx hb dX10_send_65 rfl (lv_at hl 0 rfl) ?_
        refine lv_iload_n hx hb dX10_send_66 rfl (lv_at hl 1 rfl) ?_
        have hR0 := ob_ok hR
        clear hR
        obtain ⟨q14, hq14, hR⟩ := hR0
        refine va_calli (va_runV (As := [.int y1]) (rest := []) ⟨hx, hb, hml, hown, hts⟩ (cc_X10_goErrands l dC dI fu a1 k1 H.size y1 u1 q14 hq14) (cwV 1 hts gX10_send_X10_goErrands rfl rfl rfl (by decide +kernel) ⟨Nat.le_of_ble_eq_true rfl, Nat.le_of_ble_eq_true rfl⟩) (pf_v hK hP hD 10 0 rfl rfl rfl) rfl rfl hl.1 rfl (lv_room (Nat.le_of_ble_eq_true rfl)) dX10_send_67 ⟨Nat.le_refl _, Nat.le_refl _⟩) hS (fun q _ h => (fr_all hD hS hA) q h) (fr_all hD hS hA) (fun r14 v14 t14 H14 locs14 ht14 hvm14 hw14 hB14 hz14 hk14 hS14 => ?_)
        obtain rfl : r14 = q14.1 := (congrArg Prod.fst hw14).symm
        obtain rfl : v14 = q14.2 := (congrArg Prod.snd hw14).symm
        obtain ⟨hP14, hD14⟩ := jn_all hD hS hA ht14 hB14
        have hP14 : va_P (dC, dI) vwCl (zc_10 a1 k1 q14.2) H14 := hP14
        have hD14 : va_D A (zc_10 a1 k1 q14.2) := hD14
        clear hP hD hS hB14 hk14 hvm14 hz14 ht14
        refine lv_pop hx hb dX10_send_70 rfl ?_
        refine lv_aload_n hx hb dX10_send_71 rfl (lv_at hl 0 rfl) ?_
        refine va_get (D := (dC, dI)) (ci := 10) (v := .ref (a1 5)) (C := RX10) (T := TX10) (N := 35) hx hb hts hin10 hown hK hP14 0 rfl rfl 4 (by decide) (hts (.fieldLink RX10 22 "OldestCoinsModel" "whose" "[I") (List.mem_of_getElem? (i := 3) rfl)) (fun _ h9 => h9) rfl dX10_send_72 ?_
        refine lv_iload_n hx hb dX10_send_75 rfl (lv_at hl 2 rfl) ?_
        have i15 := (ck_ok hR).1
        replace hR := (ck_ok hR).2
        refine va_iald (f := q14.2.1.2.2.2.2.1) hx hb hK hP14 5 4 rfl rfl i15 dX10_send_76 ?_
        refine lv_iload_n hx hb dX10_send_77 rfl (lv_at hl 3 rfl) ?_
        refine lv_icmp_ne (tgt := 85) hx hb dX10_send_78 (by decide) (fun c16 => ?_) (fun c16 => ?_)
        · replace hR := ifn_ hR c16
          refine lv_iconst (v := (0 : Int32)) hx hb dX10_send_85 (by decide) ?_
          exact hB86 (rr_X10_send_60 fu n) ih y1 y2 y3 y4 (0 : Int32) q14.2 H14 locs14 ls hP14 hD14 hS14 (lv_sub hl [0, 1, 2, 3, 4] rfl) hR
        · replace hR := ifp_ hR c16
          refine lv_iconst (v := (1 : Int32)) hx hb dX10_send_81 (by decide) ?_
          refine lv_goto (tgt := 86) hx hb dX10_send_82 (by decide) ?_
          exact hB86 (rr_X10_send_60 fu n) ih y1 y2 y3 y4 (1 : Int32) q14.2 H14 locs14 ls hP14 hD14 hS14 (lv_sub hl [0, 1, 2, 3, 4] rfl) hR
  unfold rr_X10_send at hR
  refine lv_iload_n hx hb dX10_send_0 rfl (lv_at hl 1 rfl) ?_
  have hR0 := ob_ok hR
  clear hR
  obtain ⟨q1, hq1, hR⟩ := hR0
  refine va_calli (va_runS (As := [.int x1]) (rest := []) ⟨hx, hb, hml, hown, hts⟩ (cc_X10_isPurse l dC dI fu s.heap.size x1 q1 hq1) (va_cwS 1 hts gX10_send_X10_isPurse rfl rfl rfl (by decide +kernel) ⟨Nat.le_of_ble_eq_true rfl, Nat.le_of_ble_eq_true rfl⟩) (pf_s (nil_K hK) nil_P (nil_D (A := A))) rfl rfl hl.1 rfl (lv_room (Nat.le_of_ble_eq_true rfl)) dX10_send_1 ⟨Nat.le_refl _, Nat.le_refl _⟩) hS (fun q _ h => (fr_none hS hA) q h) (fr_none hS hA) (fun r1 v1 t1 H1 locs1 ht1 hvm1 hw1 hB1 hz1 hk1 hS1 => ?_)
  subst hw1
  have hP1 := jn_none hP hk1
  have hD1 := hD
  have hP1 : va_P (dC, dI) vwCl (zc_10 a1 k1 s1) H1 := hP1
  have hD1 : va_D A (zc_10 a1 k1 s1) := hD1
  clear hP hD hS hB1 hk1 hvm1 hz1 ht1
  refine lv_if_eq (tgt := 35) hx hb dX10_send_4 (by decide) (fun c2 => ?_) (fun c2 => ?_)
  · replace hR := ifp_ hR c2
    refine lv_iconst (v := (-1 : Int32)) hx hb dX10_send_35 (by decide) ?_
    subst hQe
    exact W.iret (v := (-1 : Int32)) hx hb hr (fun t ht hW => ⟨⟨(-1 : Int32), s1, rfl, (Option.some.inj hR).symm, by rw [ht]; exact hP1, va_K.moved hW.alike hK, hD1⟩, hS1.F ht⟩) hS1.2.2 dX10_send_36
  · replace hR := ifn_ hR c2
    refine lv_aload_n hx hb dX10_send_7 rfl (lv_at hl 0 rfl) ?_
    refine lv_iload_n hx hb dX10_send_8 rfl (lv_at hl 2 rfl) ?_
    have hR0 := ob_ok hR
    clear hR
    obtain ⟨q3, hq3, hR⟩ := hR0
    refine va_calli (va_runV (As := [.int x2]) (rest := []) ⟨hx, hb, hml, hown, hts⟩ (cc_X10_isCoin l dC dI fu a1 k1 H1.size x2 s1 q3 hq3) (cwV 1 hts gX10_send_X10_isCoin rfl rfl rfl (by decide +kernel) ⟨Nat.le_of_ble_eq_true rfl, Nat.le_of_ble_eq_true rfl⟩) (pf_v hK hP1 hD1 10 0 rfl rfl rfl) rfl rfl hl.1 rfl (lv_room (Nat.le_of_ble_eq_true rfl)) dX10_send_9 ⟨Nat.le_refl _, Nat.le_refl _⟩) hS1 (fun q _ h => (fr_all hD1 hS1 hA) q h) (fr_all hD1 hS1 hA) (fun r3 v3 t3 H3 locs3 ht3 hvm3 hw3 hB3 hz3 hk3 hS3 => ?_)
    subst hw3
    obtain ⟨hP3, hD3⟩ := jn_all hD1 hS1 hA ht3 hB3
    have hP3 : va_P (dC, dI) vwCl (zc_10 a1 k1 s1) H3 := hP3
    have hD3 : va_D A (zc_10 a1 k1 s1) := hD3
    clear hP1 hD1 hS1 hB3 hk3 hvm3 hz3 ht3
    refine lv_if_eq (tgt := 35) hx hb dX10_send_12 (by decide) (fun c4 => ?_) (fun c4 => ?_)
    · replace hR := ifp_ hR c4
      refine lv_iconst (v := (-1 : Int32)) hx hb dX10_send_35 (by decide) ?_
      subst hQe
      exact W.iret (v := (-1 : Int32)) hx hb hr (fun t ht hW => ⟨⟨(-1 : Int32), s1, rfl, (Option.some.inj hR).symm, by rw [ht]; exact hP3, va_K.moved hW.alike hK, hD3⟩, hS3.F ht⟩) hS3.2.2 dX10_send_36
    · replace hR := ifn_ hR c4
      refine lv_iload_n hx hb dX10_send_15 rfl (lv_at hl 3 rfl) ?_
      have hR0 := ob_ok hR
      clear hR
      obtain ⟨q5, hq5, hR⟩ := hR0
      refine va_calli (va_runS (As := [.int x3]) (rest := []) ⟨hx, hb, hml, hown, hts⟩ (cc_X10_isShop l dC dI fu H3.size x3 q5 hq5) (va_cwS 1 hts gX10_send_X10_isShop rfl rfl rfl (by decide +kernel) ⟨Nat.le_of_ble_eq_true rfl, Nat.le_of_ble_eq_true rfl⟩) (pf_s (nil_K hK) nil_P (nil_D (A := A))) rfl rfl hl.1 rfl (lv_room (Nat.le_of_ble_eq_true rfl)) dX10_send_16 ⟨Nat.le_refl _, Nat.le_refl _⟩) hS3 (fun q _ h => (fr_none hS3 hA) q h) (fr_none hS3 hA) (fun r5 v5 t5 H5 locs5 ht5 hvm5 hw5 hB5 hz5 hk5 hS5 => ?_)
      subst hw5
      have hP5 := jn_none hP3 hk5
      have hD5 := hD3
      have hP5 : va_P (dC, dI) vwCl (zc_10 a1 k1 s1) H5 := hP5
      have hD5 : va_D A (zc_10 a1 k1 s1) := hD5
      clear hP3 hD3 hS3 hB5 hk5 hvm5 hz5 ht5
      refine lv_if_eq (tgt := 35) hx hb dX10_send_19 (by decide) (fun c6 => ?_) (fun c6 => ?_)
      · replace hR := ifp_ hR c6
        refine lv_iconst (v := (-1 : Int32)) hx hb dX10_send_35 (by decide) ?_
        subst hQe
        exact W.iret (v := (-1 : Int32)) hx hb hr (fun t ht hW => ⟨⟨(-1 : Int32), s1, rfl, (Option.some.inj hR).symm, by rw [ht]; exact hP5, va_K.moved hW.alike hK, hD5⟩, hS5.F ht⟩) hS5.2.2 dX10_send_36
      · replace hR := ifn_ hR c6
        refine lv_iload hx hb dX10_send_22 (lv_at hl 4 rfl) ?_
        refine lv_i2l (v := x4.toInt64) hx hb dX10_send_24 rfl ?_
        refine lv_lconst (v := (0 : Int64)) hx hb dX10_send_25 (by decide) ?_
        refine lv_ldc2 (v := (5 : Int64)) hx hb hown (hts (.constantLong RX10 232 (5)) (List.mem_of_getElem? (i := 1) rfl)) dX10_send_26 ?_
        have hR0 := ob_ok hR
        clear hR
        obtain ⟨q7, hq7, hR⟩ := hR0
        refine va_calli (va_runS (As := [.long x4.toInt64, .long (0 : Int64), .long (5 : Int64)]) (rest := []) ⟨hx, hb, hml, hown, hts⟩ (cc_X10_in l dC dI fu H5.size x4.toInt64 (0 : Int64) (5 : Int64) q7 hq7) (va_cwS 3 hts gX10_send_X10_in rfl rfl rfl (by decide +kernel) ⟨Nat.le_of_ble_eq_true rfl, Nat.le_of_ble_eq_true rfl⟩) (pf_s (nil_K hK) nil_P (nil_D (A := A))) rfl rfl hl.1 rfl (lv_room (Nat.le_of_ble_eq_true rfl)) dX10_send_29 ⟨Nat.le_refl _, Nat.le_refl _⟩) hS5 (fun q _ h => (fr_none hS5 hA) q h) (fr_none hS5 hA) (fun r7 v7 t7 H7 locs7 ht7 hvm7 hw7 hB7 hz7 hk7 hS7 => ?_)
        subst hw7
        have hP7 := jn_none hP5 hk7
        have hD7 := hD5
        have hP7 : va_P (dC, dI) vwCl (zc_10 a1 k1 s1) H7 := hP7
        have hD7 : va_D A (zc_10 a1 k1 s1) := hD7
        clear hP5 hD5 hS5 hB7 hk7 hvm7 hz7 ht7
        refine lv_if_ne (tgt := 37) hx hb dX10_send_32 (by decide) (fun c8 => ?_) (fun c8 => ?_)
        · replace hR := ifn_ hR c8
          refine lv_iload hx hb dX10_send_37 (lv_at hl 4 rfl) ?_
          refine lv_aload_n hx hb dX10_send_39 rfl (lv_at hl 0 rfl) ?_
          refine va_get (D := (dC, dI)) (ci := 10) (v := .int s1.2.1.2.2) (C := RX10) (T := TX10) (N := 35) hx hb hts hin10 hown hK hP7 0 rfl rfl 9 (by decide) (hts (.fieldLink RX10 135 "OldestCoinsModel" "errands" "I") (List.mem_of_getElem? (i := 2) rfl)) (fun _ h9 => h9) rfl dX10_send_40 ?_
          refine lv_icmp_lt (tgt := 49) hx hb dX10_send_43 (by decide) (fun c9 => ?_) (fun c9 => ?_)
          · replace hR := ifp_ hR c9
            refine lv_aload_n hx hb dX10_send_49 rfl (lv_at hl 0 rfl) ?_
            have hR0 := ob_ok hR
            clear hR
            obtain ⟨q10, hq10, hR⟩ := hR0
            refine va_callv (va_runV (As := []) (rest := []) ⟨hx, hb, hml, hown, hts⟩ (cc_X10_keep l dC dI fu a1 k1 H7.size s1 q10 hq10) (cwV 0 hts gX10_send_X10_keep rfl rfl rfl (by decide +kernel) ⟨Nat.le_of_ble_eq_true rfl, Nat.le_of_ble_eq_true rfl⟩) (pf_v hK hP7 hD7 10 0 rfl rfl rfl) rfl rfl hl.1 rfl (lv_room (Nat.le_of_ble_eq_true rfl)) dX10_send_50 ⟨Nat.le_refl _, Nat.le_refl _⟩) hS7 (fun q _ h => (fr_all hD7 hS7 hA) q h) (fr_all hD7 hS7 hA) (fun v10 t10 H10 locs10 ht10 hvm10 hw10 hB10 hz10 hk10 hS10 => ?_)
            subst hw10
            obtain ⟨hP10, hD10⟩ := jn_all hD7 hS7 hA ht10 hB10
            have hP10 : va_P (dC, dI) vwCl (zc_10 a1 k1 q10) H10 := hP10
            have hD10 : va_D A (zc_10 a1 k1 q10) := hD10
            clear hP7 hD7 hS7 hB10 hk10 hvm10 hz10 ht10
            refine lv_aload_n hx hb dX10_send_53 rfl (lv_at hl 0 rfl) ?_
            have hR0 := ob_ok hR
            clear hR
            obtain ⟨q11, hq11, hR⟩ := hR0
            refine va_callv (va_runV (As := []) (rest := []) ⟨hx, hb, hml, hown, hts⟩ (cc_X10_firstOrder l dC dI fu a1 k1 H10.size q10 q11 hq11) (cwV 0 hts gX10_send_X10_firstOrder rfl rfl rfl (by decide +kernel) ⟨Nat.le_of_ble_eq_true rfl, Nat.le_of_ble_eq_true rfl⟩) (pf_v hK hP10 hD10 10 0 rfl rfl rfl) rfl rfl hl.1 rfl (lv_room (Nat.le_of_ble_eq_true rfl)) dX10_send_54 ⟨Nat.le_refl _, Nat.le_refl _⟩) hS10 (fun q _ h => (fr_all hD10 hS10 hA) q h) (fr_all hD10 hS10 hA) (fun v11 t11 H11 locs11 ht11 hvm11 hw11 hB11 hz11 hk11 hS11 => ?_)
            subst hw11
            obtain ⟨hP11, hD11⟩ := jn_all hD10 hS10 hA ht11 hB11
            have hP11 : va_P (dC, dI) vwCl (zc_10 a1 k1 q11) H11 := hP11
            have hD11 : va_D A (zc_10 a1 k1 q11) := hD11
            clear hP10 hD10 hS10 hB11 hk11 hvm11 hz11 ht11
            refine lv_iconst (v := (1 : Int32)) hx hb dX10_send_57 (by decide) ?_
            refine lv_istore (lv' := [(5, .int (1 : Int32)), (0, .ref (a1 0)), (1, .int x1), (2, .int x2), (3, .int x3), (4, .int x4)]) hx hb dX10_send_58 hl (by decide) rfl (fun ls12 hl12 => ?_)
            exact hB60 fu x1 x2 x3 x4 (1 : Int32) q11 H11 locs11 ls12 hP11 hD11 hS11 (lv_sub hl12 [1, 2, 3, 4, 5, 0] rfl) hR
          · replace hR := ifn_ hR c9
            refine lv_bipush (v := (-4 : Int32)) hx hb dX10_send_46 (by decide) ?_
            subst hQe
            exact W.iret (v := (-4 : Int32)) hx hb hr (fun t ht hW => ⟨⟨(-4 : Int32), s1, rfl, (Option.some.inj hR).symm, by rw [ht]; exact hP7, va_K.moved hW.alike hK, hD7⟩, hS7.F ht⟩) hS7.2.2 dX10_send_48
        · replace hR := ifp_ hR c8
          refine lv_iconst (v := (-1 : Int32)) hx hb dX10_send_35 (by decide) ?_
          subst hQe
          exact W.iret (v := (-1 : Int32)) hx hb hr (fun t ht hW => ⟨⟨(-1 : Int32), s1, rfl, (Option.some.inj hR).symm, by rw [ht]; exact hP7, va_K.moved hW.alike hK, hD7⟩, hS7.F ht⟩) hS7.2.2 dX10_send_36
def rr_X10_order_120 (fu : Nat) (rec54 : Int32 → Int32 → Int32 → Int32 → ZT_10 → Option (Int32 × ZT_10)) (y1 : Int32) (y2 : Int32) (w0 : Int32) (u1 : ZT_10) : Option (Int32 × ZT_10) := (rr_X10_nextOrder fu u1.2.1.2.2 u1).bind (fun q26 => rec54 y1 y2 w0 q26.1 q26.2)
def rr_X10_order_108 (fu : Nat) (rec54 : Int32 → Int32 → Int32 → Int32 → ZT_10 → Option (Int32 × ZT_10)) (y1 : Int32) (y2 : Int32) (y3 : Int32) (y5 : Int32) (u1 : ZT_10) : Option (Int32 × ZT_10) := (if y5 ≤ y3 then rr_X10_order_120 fu rec54 y1 y2 y3 u1 else rr_X10_order_120 fu rec54 y1 y2 y5 u1)
def rr_X10_order_73_b (fu : Nat) (rec54 : Int32 → Int32 → Int32 → Int32 → ZT_10 → Option (Int32 × ZT_10)) (rec73 : Int32 → Int32 → Int32 → Int32 → Int32 → ZT_10 → Option (Int32 × ZT_10)) (y1 : Int32) (y2 : Int32) (y3 : Int32) (y5 : Int32) (y6 : Int32) (u1 : ZT_10) : Option (Int32 × ZT_10) := (if u1.2.1.2.2 ≤ y6 then rr_X10_order_108 fu rec54 y1 y2 y3 y5 u1 else (if y5 ≤ y3 then rr_X10_order_108 fu rec54 y1 y2 y3 y5 u1 else ck_ y6 6 (lt_ (α := Int32) (u1.2.2.2.2.2.2.1.2.1 y6.toNatClampNeg) (fun z21 => ck_ y6 6 (lt_ (α := Int32) (y6 + (1 : Int32)) (fun z23 => rec73 y1 y2 y3 y5 z23 (u1.1, u1.2.1, u1.2.2.1, u1.2.2.2.1, u1.2.2.2.2.1, u1.2.2.2.2.2.1, (u1.2.2.2.2.2.2.1.1, u1.2.2.2.2.2.2.1.2.1, (upd u1.2.2.2.2.2.2.1.2.2 y6.toNatClampNeg z21)), u1.2.2.2.2.2.2.2)))))))
def rr_X10_order_73 (fu : Nat) (rec54 : Int32 → Int32 → Int32 → Int32 → ZT_10 → Option (Int32 × ZT_10)) (n : Nat) : Int32 → Int32 → Int32 → Int32 → Int32 → ZT_10 → Option (Int32 × ZT_10) := lp_ (fun _ _ _ _ _ _ => none) (rr_X10_order_73_b fu rec54) n
def rr_X10_order_54_b (fu : Nat) (rec54 : Int32 → Int32 → Int32 → Int32 → ZT_10 → Option (Int32 × ZT_10)) (y1 : Int32) (y2 : Int32) (y3 : Int32) (y4 : Int32) (u1 : ZT_10) : Option (Int32 × ZT_10) := (if y4 = (0 : Int32) then (if (0 : Int32) ≤ y2 then ck_ y2 6 (some ((u1.2.2.2.2.2.2.1.2.2 y2.toNatClampNeg), u1)) else some (y3, u1)) else (rr_X10_goErrands fu y1 u1).bind (fun q14 => (rr_X10_bringBack fu q14.2).bind (fun q16 => rr_X10_order_73 fu rec54 fu y1 y2 y3 q14.1 (0 : Int32) q16)))
def rr_X10_order_54 (fu : Nat) (n : Nat) : Int32 → Int32 → Int32 → Int32 → ZT_10 → Option (Int32 × ZT_10) := lp_ (fun _ _ _ _ _ => none) (rr_X10_order_54_b fu) n
def rr_X10_order (fu : Nat) (x1 : Int32) (x2 : Int32) (s1 : ZT_10) : Option (Int32 × ZT_10) := (rr_X10_isPurse fu x1).bind (fun q1 => (if q1 = (0 : Int32) then some ((-1 : Int32), s1) else (rr_X10_in fu x2.toInt64 (-1 : Int64) (5 : Int64)).bind (fun q3 => (if q3 = (0 : Int32) then some ((-1 : Int32), s1) else (if s1.2.1.2.2 ≤ x2 then some ((-4 : Int32), s1) else (if s1.2.1.2.2 = (0 : Int32) then some ((-4 : Int32), s1) else (rr_X10_keep fu s1).bind (fun q7 => (rr_X10_firstOrder fu q7).bind (fun q8 => rr_X10_order_54 fu fu x1 x2 (-1 : Int32) (1 : Int32) q8))))))))
set_option maxHeartbeats 4000000 in
set_option maxRecDepth 100000 in
theorem cc_X10_order (l : Launch) (dC : Nat → ClassId) (dI : Nat → Nat → Nat) (fu : Nat) (a1 : Nat → Nat) (k1 : Nat → ClassId) (sz : Nat) (x1 : Int32) (x2 : Int32) (s1 : ZT_10) (res : Int32 × ZT_10) (hR : rr_X10_order fu x1 x2 s1 = some res) : Met l yX10_order wsX10_order ({ frames := 7, cells := 0, slots := 0, locals := 162 } : Room) (PcF [.ref (a1 0), .int x1, .int x2] sz (dC, dI) (zc_10 a1 k1 s1) (zt_10 k1)) (va_Qi (fun (r : Int32) (u : ZT_10) => res = (r, u)) (fun u t => at3_ (dC, dI) (zc_10 a1 k1 u) (zt_10 k1) (va_A (zc_10 a1 k1 s1) sz) t) (va_A (zc_10 a1 k1 s1) sz)) 0 0 (va_A (zc_10 a1 k1 s1) sz) := by
  refine Met.ofW (cc := cX10_order) (maxL := 7) (ret := (some .int)) (by decide) rfl ?_
  intro p e s m args below meth c s₁ B hml hv
  obtain ⟨hav, hsz, hP, hK, hD0⟩ := hv
  have hx := B.exec
  have hb := B.bytes
  have hr := B.returns
  have hts := atoms_spec (ws := wsX10_order) B.pre
  have hown : s.vm.findClass RX10 = some m.cls := findClass_of_methodNamed B.named
  have hlocks := B.notSynchronized
  have hin10 : ∀ w ∈ wsX100, w ∈ wsX10_order := fun w h => List.mem_cons_of_mem _ (List.mem_append_right _ h)
  subst hsz
  have hD := hD0.self (sz := s.heap.size)
  clear hD0
  generalize hAe : va_A (zc_10 a1 k1 s1) s.heap.size = A at hD ⊢
  have hA : ∀ q : Nat, s.heap.size ≤ q → A q := fun q h => by rw [← hAe]; exact Or.inr h
  have hS : va_S A s.heap s.heap [] := va_S.rf
  generalize hQe : MQ below _ args s 0 0 A = Q
  rw [show entryFrame m args 7 = F0 m 0 ((lg_sl ([.ref (a1 0), .int x1, .int x2]) ++ List.replicate (7 - (lg_sl ([.ref (a1 0), .int x1, .int x2])).length) Slot.unset).toArray) [] from by rw [hav]; exact lg_entry_eq m _ _]
  have hl := lv_entry ([.ref (a1 0), .int x1, .int x2]) (n := 7) (Nat.le_of_ble_eq_true rfl)
  generalize (lg_sl ([.ref (a1 0), .int x1, .int x2]) ++ List.replicate (7 - (lg_sl ([.ref (a1 0), .int x1, .int x2])).length) Slot.unset).toArray = ls at hl ⊢
  have hl : lv_has ls 7 [(0, .ref (a1 0)), (1, .int x1), (2, .int x2)] := hl
  have hB120 : ∀ (rec54 : Int32 → Int32 → Int32 → Int32 → ZT_10 → Option (Int32 × ZT_10)) (hrec54 : ∀ (y1 : Int32) (y2 : Int32) (y3 : Int32) (y4 : Int32) (u1 : ZT_10) (H : Heap) (locs : List Loc) (ls : Array Slot), va_P (dC, dI) vwCl (zc_10 a1 k1 u1) H → va_D A (zc_10 a1 k1 u1) → va_S A s.heap H locs → lv_has ls 7 [(0, .ref (a1 0)), (1, .int y1), (2, .int y2), (3, .int y3), (4, .int y4)] → rec54 y1 y2 y3 y4 u1 = some res → W p l e ({ frames := 7, cells := 0, slots := 0, locals := 162 } : Room) s m args below meth c H locs 0 0 Q (F0 m 54 ls [])), ∀ (y1 : Int32) (y2 : Int32) (w0 : Int32) (u1 : ZT_10) (H : Heap) (locs : List Loc) (ls : Array Slot), va_P (dC, dI) vwCl (zc_10 a1 k1 u1) H → va_D A (zc_10 a1 k1 u1) → va_S A s.heap H locs → lv_has ls 7 [(0, .ref (a1 0)), (1, .int y1), (2, .int y2)] → rr_X10_order_120 fu rec54 y1 y2 w0 u1 = some res → W p l e ({ frames := 7, cells := 0, slots := 0, locals := 162 } : Room) s m args below meth c H locs 0 0 Q (F0 m 120 ls [.int w0]) := by
    intro rec54 hrec54 y1 y2 w0 u1 H locs ls hP hD hS hl hR
    unfold rr_X10_order_120 at hR
    refine lv_istore_n (lv' := [(3, .int w0), (0, .ref (a1 0)), (1, .int y1), (2, .int y2)]) hx hb dX10_order_120 rfl hl (by decide) rfl (fun ls25 hl25 => ?_)
    refine lv_aload_n hx hb dX10_order_121 rfl (lv_at hl25 1 rfl) ?_
    refine lv_aload_n hx hb dX10_order_122 rfl (lv_at hl25 1 rfl) ?_
    refine va_get (D := (dC, dI)) (ci := 10) (v := .int u1.2.1.2.2) (C := RX10) (T := TX10) (N := 35) hx hb hts hin10 hown hK hP 0 rfl rfl 9 (by decide) (hts (.fieldLink RX10 135 "OldestCoinsModel" "errands" "I") (List.mem_of_getElem? (i := 3) rfl)) (fun _ h9 => h9) rfl dX10_order_123 ?_
    have hR0 := ob_ok hR
    clear hR
    obtain ⟨q26, hq26, hR⟩ := hR0
    refine va_calli (va_runV (As := [.int u1.2.1.2.2]) (rest := []) ⟨hx, hb, hml, hown, hts⟩ (cc_X10_nextOrder l dC dI fu a1 k1 H.size u1.2.1.2.2 u1 q26 hq26) (cwV 1 hts gX10_order_X10_nextOrder rfl rfl rfl (by decide +kernel) ⟨Nat.le_of_ble_eq_true rfl, Nat.le_of_ble_eq_true rfl⟩) (pf_v hK hP hD 10 0 rfl rfl rfl) rfl rfl hl25.1 rfl (lv_room (Nat.le_of_ble_eq_true rfl)) dX10_order_126 ⟨Nat.le_refl _, Nat.le_refl _⟩) hS (fun q _ h => (fr_all hD hS hA) q h) (fr_all hD hS hA) (fun r26 v26 t26 H26 locs26 ht26 hvm26 hw26 hB26 hz26 hk26 hS26 => ?_)
    obtain rfl : r26 = q26.1 := (congrArg Prod.fst hw26).symm
    obtain rfl : v26 = q26.2 := (congrArg Prod.snd hw26).symm
    obtain ⟨hP26, hD26⟩ := jn_all hD hS hA ht26 hB26
    have hP26 : va_P (dC, dI) vwCl (zc_10 a1 k1 q26.2) H26 := hP26
    have hD26 : va_D A (zc_10 a1 k1 q26.2) := hD26
    clear hP hD hS hB26 hk26 hvm26 hz26 ht26
    refine lv_istore (lv' := [(4, .int q26.1), (3, .int w0), (0, .ref (a1 0)), (1, .int y1), (2, .int y2)]) hx hb dX10_order_129 hl25 (by decide) rfl (fun ls27 hl27 => ?_)
    refine lv_goto (tgt := 54) hx hb dX10_order_131 (by decide) ?_
    exact hrec54 y1 y2 w0 q26.1 q26.2 H26 locs26 ls27 hP26 hD26 hS26 (lv_sub hl27 [2, 3, 4, 1, 0] rfl) hR
  have hB108 : ∀ (rec54 : Int32 → Int32 → Int32 → Int32 → ZT_10 → Option (Int32 × ZT_10)) (hrec54 : ∀ (y1 : Int32) (y2 : Int32) (y3 : Int32) (y4 : Int32) (u1 : ZT_10) (H : Heap) (locs : List Loc) (ls : Array Slot), va_P (dC, dI) vwCl (zc_10 a1 k1 u1) H → va_D A (zc_10 a1 k1 u1) → va_S A s.heap H locs → lv_has ls 7 [(0, .ref (a1 0)), (1, .int y1), (2, .int y2), (3, .int y3), (4, .int y4)] → rec54 y1 y2 y3 y4 u1 = some res → W p l e ({ frames := 7, cells := 0, slots := 0, locals := 162 } : Room) s m args below meth c H locs 0 0 Q (F0 m 54 ls [])), ∀ (y1 : Int32) (y2 : Int32) (y3 : Int32) (y5 : Int32) (u1 : ZT_10) (H : Heap) (locs : List Loc) (ls : Array Slot), va_P (dC, dI) vwCl (zc_10 a1 k1 u1) H → va_D A (zc_10 a1 k1 u1) → va_S A s.heap H locs → lv_has ls 7 [(0, .ref (a1 0)), (1, .int y1), (2, .int y2), (3, .int y3), (5, .int y5)] → rr_X10_order_108 fu rec54 y1 y2 y3 y5 u1 = some res → W p l e ({ frames := 7, cells := 0, slots := 0, locals := 162 } : Room) s m args below meth c H locs 0 0 Q (F0 m 108 ls []) := by
    intro rec54 hrec54 y1 y2 y3 y5 u1 H locs ls hP hD hS hl hR
    unfold rr_X10_order_108 at hR
    refine lv_iload hx hb dX10_order_108 (lv_at hl 4 rfl) ?_
    refine lv_iload_n hx hb dX10_order_110 rfl (lv_at hl 3 rfl) ?_
    refine lv_icmp_le (tgt := 119) hx hb dX10_order_111 (by decide) (fun c24 => ?_) (fun c24 => ?_)
    · replace hR := ifp_ hR c24
      refine lv_iload_n hx hb dX10_order_119 rfl (lv_at hl 3 rfl) ?_
      exact hB120 rec54 hrec54 y1 y2 y3 u1 H locs ls hP hD hS (lv_sub hl [0, 1, 2] rfl) hR
    · replace hR := ifn_ hR c24
      refine lv_iload hx hb dX10_order_114 (lv_at hl 4 rfl) ?_
      refine lv_goto (tgt := 120) hx hb dX10_order_116 (by decide) ?_
      exact hB120 rec54 hrec54 y1 y2 y5 u1 H locs ls hP hD hS (lv_sub hl [0, 1, 2] rfl) hR
  have hB73 : ∀ (rec54 : Int32 → Int32 → Int32 → Int32 → ZT_10 → Option (Int32 × ZT_10)) (hrec54 : ∀ (y1 : Int32) (y2 : Int32) (y3 : Int32) (y4 : Int32) (u1 : ZT_10) (H : Heap) (locs : List Loc) (ls : Array Slot), va_P (dC, dI) vwCl (zc_10 a1 k1 u1) H → va_D A (zc_10 a1 k1 u1) → va_S A s.heap H locs → lv_has ls 7 [(0, .ref (a1 0)), (1, .int y1), (2, .int y2), (3, .int y3), (4, .int y4)] → rec54 y1 y2 y3 y4 u1 = some res → W p l e ({ frames := 7, cells := 0, slots := 0, locals := 162 } : Room) s m args below meth c H locs 0 0 Q (F0 m 54 ls [])), ∀ (n : Nat), ∀ (y1 : Int32) (y2 : Int32) (y3 : Int32) (y5 : Int32) (y6 : Int32) (u1 : ZT_10) (H : Heap) (locs : List Loc) (ls : Array Slot), va_P (dC, dI) vwCl (zc_10 a1 k1 u1) H → va_D A (zc_10 a1 k1 u1) → va_S A s.heap H locs → lv_has ls 7 [(0, .ref (a1 0)), (1, .int y1), (2, .int y2), (3, .int y3), (5, .int y5), (6, .int y6)] → rr_X10_order_73 fu rec54 n y1 y2 y3 y5 y6 u1 = some res → W p l e ({ frames := 7, cells := 0, slots := 0, locals := 162 } : Room) s m args below meth c H locs 0 0 Q (F0 m 73 ls []) := by
    intro rec54 hrec54 n
    induction n with
    | zero => intro y1 y2 y3 y5 y6 u1 H locs ls hP hD hS hl hR; exact absurd hR (by intro h; cases h)
    | succ n ih =>
      intro y1 y2 y3 y5 y6 u1 H locs ls hP hD hS hl hR
      replace hR : rr_X10_order_73_b fu rec54 (rr_X10_order_73 fu rec54 n) y1 y2 y3 y5 y6 u1 = some res := hR
      unfold rr_X10_order_73_b at hR
      refine lv_iload hx hb dX10_order_73 (lv_at hl 5 rfl) ?_
      refine lv_aload_n hx hb dX10_order_75 rfl (lv_at hl 0 rfl) ?_
      refine va_get (D := (dC, dI)) (ci := 10) (v := .int u1.2.1.2.2) (C := RX10) (T := TX10) (N := 35) hx hb hts hin10 hown hK hP 0 rfl rfl 9 (by decide) (hts (.fieldLink RX10 135 "OldestCoinsModel" "errands" "I") (List.mem_of_getElem? (i := 3) rfl)) (fun _ h9 => h9) rfl dX10_order_76 ?_
      refine lv_icmp_ge (tgt := 108) hx hb dX10_order_79 (by decide) (fun c18 => ?_) (fun c18 => ?_)
      · replace hR := ifp_ hR c18
        exact hB108 rec54 hrec54 y1 y2 y3 y5 u1 H locs ls hP hD hS (lv_sub hl [0, 1, 2, 3, 4] rfl) hR
      · replace hR := ifn_ hR c18
        refine lv_iload hx hb dX10_order_82 (lv_at hl 4 rfl) ?_
        refine lv_iload_n hx hb dX10_order_84 rfl (lv_at hl 3 rfl) ?_
        refine lv_icmp_le (tgt := 108) hx hb dX10_order_85 (by decide) (fun c19 => ?_) (fun c19 => ?_)
        · replace hR := ifp_ hR c19
          exact hB108 rec54 hrec54 y1 y2 y3 y5 u1 H locs ls hP hD hS (lv_sub hl [0, 1, 2, 3, 4] rfl) hR
        · replace hR := ifn_ hR c19
          refine lv_aload_n hx hb dX10_order_88 rfl (lv_at hl 0 rfl) ?_
          refine va_get (D := (dC, dI)) (ci := 10) (v := .ref (a1 14)) (C := RX10) (T := TX10) (N := 35) hx hb hts hin10 hown hK hP 0 rfl rfl 26 (by decide) (hts (.fieldLink RX10 49 "OldestCoinsModel" "best" "[I") (List.mem_of_getElem? (i := 4) rfl)) (fun _ h9 => h9) rfl dX10_order_89 ?_
          refine lv_iload hx hb dX10_order_92 (lv_at hl 5 rfl) ?_
          refine lv_aload_n hx hb dX10_order_94 rfl (lv_at hl 0 rfl) ?_
          refine va_get (D := (dC, dI)) (ci := 10) (v := .ref (a1 13)) (C := RX10) (T := TX10) (N := 35) hx hb hts hin10 hown hK hP 0 rfl rfl 25 (by decide) (hts (.fieldLink RX10 46 "OldestCoinsModel" "order" "[I") (List.mem_of_getElem? (i := 5) rfl)) (fun _ h9 => h9) rfl dX10_order_95 ?_
          refine lv_iload hx hb dX10_order_98 (lv_at hl 5 rfl) ?_
          have i20 := (ck_ok hR).1
          replace hR := (ck_ok hR).2
          refine va_iald (f := u1.2.2.2.2.2.2.1.2.1) hx hb hK hP 13 12 rfl rfl i20 dX10_order_100 ?_
          refine lv_topi (fun z21 ez21 => ?_)
          replace hR := lt_ok hR ez21
          have i22 := (ck_ok hR).1
          replace hR := (ck_ok hR).2
          refine va_iast (f := u1.2.2.2.2.2.2.1.2.2) hx hb hK hP hD hS 14 13 rfl rfl i22 dX10_order_101 (fun H22 locs22 hP22 hD22 hS22 => ?_)
          have hP22 : va_P (dC, dI) vwCl (zc_10 a1 k1 (u1.1, u1.2.1, u1.2.2.1, u1.2.2.2.1, u1.2.2.2.2.1, u1.2.2.2.2.2.1, (u1.2.2.2.2.2.2.1.1, u1.2.2.2.2.2.2.1.2.1, (upd u1.2.2.2.2.2.2.1.2.2 y6.toNatClampNeg z21)), u1.2.2.2.2.2.2.2)) H22 := hP22
          have hD22 : va_D A (zc_10 a1 k1 (u1.1, u1.2.1, u1.2.2.1, u1.2.2.2.1, u1.2.2.2.2.1, u1.2.2.2.2.2.1, (u1.2.2.2.2.2.2.1.1, u1.2.2.2.2.2.2.1.2.1, (upd u1.2.2.2.2.2.2.1.2.2 y6.toNatClampNeg z21)), u1.2.2.2.2.2.2.2)) := hD22
          clear hP hD hS
          obtain ⟨z23, ez23⟩ : ∃ y : Int32, y = (y6 + (1 : Int32)) := ⟨_, rfl⟩
          replace hR := lt_ok hR ez23
          refine lv_iinc (v := z23) (lv' := [(6, .int z23), (0, .ref (a1 0)), (1, .int y1), (2, .int y2), (3, .int y3), (5, .int y5)]) hx hb dX10_order_102 hl (k := 5) rfl (by rw [ez23]; rfl) (by decide) rfl (fun ls23 hl23 => ?_)
          refine lv_goto (tgt := 73) hx hb dX10_order_105 (by decide) ?_
          exact ih y1 y2 y3 y5 z23 (u1.1, u1.2.1, u1.2.2.1, u1.2.2.2.1, u1.2.2.2.2.1, u1.2.2.2.2.2.1, (u1.2.2.2.2.2.2.1.1, u1.2.2.2.2.2.2.1.2.1, (upd u1.2.2.2.2.2.2.1.2.2 y6.toNatClampNeg z21)), u1.2.2.2.2.2.2.2) H22 locs22 ls23 hP22 hD22 hS22 (lv_sub hl23 [1, 2, 3, 4, 5, 0] rfl) hR
  have hB54 : ∀ (n : Nat), ∀ (y1 : Int32) (y2 : Int32) (y3 : Int32) (y4 : Int32) (u1 : ZT_10) (H : Heap) (locs : List Loc) (ls : Array Slot), va_P (dC, dI) vwCl (zc_10 a1 k1 u1) H → va_D A (zc_10 a1 k1 u1) → va_S A s.heap H locs → lv_has ls 7 [(0, .ref (a1 0)), (1, .int y1), (2, .int y2), (3, .int y3), (4, .int y4)] → rr_X10_order_54 fu n y1 y2 y3 y4 u1 = some res → W p l e ({ frames := 7, cells := 0, slots := 0, locals := 162 } : Room) s m args below meth c H locs 0 0 Q (F0 m 54 ls []) := by
    intro  n
    induction n with
    | zero => intro y1 y2 y3 y4 u1 H locs ls hP hD hS hl hR; exact absurd hR (by intro h; cases h)
    | succ n ih =>
      intro y1 y2 y3 y4 u1 H locs ls hP hD hS hl hR
      replace hR : rr_X10_order_54_b fu (rr_X10_order_54 fu n) y1 y2 y3 y4 u1 = some res := hR
      unfold rr_X10_order_54_b at hR
      refine lv_iload hx hb dX10_order_54 (lv_at hl 4 rfl) ?_
      refine lv_if_eq (tgt := 134) hx hb dX10_order_56 (by decide) (fun c11 => ?_) (fun c11 => ?_)
      · replace hR := ifp_ hR c11
        refine lv_iload_n hx hb dX10_order_134 rfl (lv_at hl 2 rfl) ?_
        refine lv_if_ge (tgt := 142) hx hb dX10_order_135 (by decide) (fun c12 => ?_) (fun c12 => ?_)
        · replace hR := ifp_ hR c12
          refine lv_aload_n hx hb dX10_order_142 rfl (lv_at hl 0 rfl) ?_
          refine va_get (D := (dC, dI)) (ci := 10) (v := .ref (a1 14)) (C := RX10) (T := TX10) (N := 35) hx hb hts hin10 hown hK hP 0 rfl rfl 26 (by decide) (hts (.fieldLink RX10 49 "OldestCoinsModel" "best" "[I") (List.mem_of_getElem? (i := 4) rfl)) (fun _ h9 => h9) rfl dX10_order_143 ?_
          refine lv_iload_n hx hb dX10_order_146 rfl (lv_at hl 2 rfl) ?_
          have i13 := (ck_ok hR).1
          replace hR := (ck_ok hR).2
          refine va_iald (f := u1.2.2.2.2.2.2.1.2.2) hx hb hK hP 14 13 rfl rfl i13 dX10_order_147 ?_
          subst hQe
          exact W.iret (v := (u1.2.2.2.2.2.2.1.2.2 y2.toNatClampNeg)) hx hb hr (fun t ht hW => ⟨⟨(u1.2.2.2.2.2.2.1.2.2 y2.toNatClampNeg), u1, rfl, (Option.some.inj hR).symm, by rw [ht]; exact hP, va_K.moved hW.alike hK, hD⟩, hS.F ht⟩) hS.2.2 dX10_order_148
        · replace hR := ifn_ hR c12
          refine lv_iload_n hx hb dX10_order_138 rfl (lv_at hl 3 rfl) ?_
          refine lv_goto (tgt := 148) hx hb dX10_order_139 (by decide) ?_
          subst hQe
          exact W.iret (v := y3) hx hb hr (fun t ht hW => ⟨⟨y3, u1, rfl, (Option.some.inj hR).symm, by rw [ht]; exact hP, va_K.moved hW.alike hK, hD⟩, hS.F ht⟩) hS.2.2 dX10_order_148
      · replace hR := ifn_ hR c11
        refine lv_aload_n hx hb dX10_order_59 rfl (lv_at hl 0 rfl) ?_
        refine lv_iload_n hx hb dX10_order_60 rfl (lv_at hl 1 rfl) ?_
        have hR0 := ob_ok hR
        clear hR
        obtain ⟨q14, hq14, hR⟩ := hR0
        refine va_calli (va_runV (As := [.int y1]) (rest := []) ⟨hx, hb, hml, hown, hts⟩ (cc_X10_goErrands l dC dI fu a1 k1 H.size y1 u1 q14 hq14) (cwV 1 hts gX10_order_X10_goErrands rfl rfl rfl (by decide +kernel) ⟨Nat.le_of_ble_eq_true rfl, Nat.le_of_ble_eq_true rfl⟩) (pf_v hK hP hD 10 0 rfl rfl rfl) rfl rfl hl.1 rfl (lv_room (Nat.le_of_ble_eq_true rfl)) dX10_order_61 ⟨Nat.le_refl _, Nat.le_refl _⟩) hS (fun q _ h => (fr_all hD hS hA) q h) (fr_all hD hS hA) (fun r14 v14 t14 H14 locs14 ht14 hvm14 hw14 hB14 hz14 hk14 hS14 => ?_)
        obtain rfl : r14 = q14.1 := (congrArg Prod.fst hw14).symm
        obtain rfl : v14 = q14.2 := (congrArg Prod.snd hw14).symm
        obtain ⟨hP14, hD14⟩ := jn_all hD hS hA ht14 hB14
        have hP14 : va_P (dC, dI) vwCl (zc_10 a1 k1 q14.2) H14 := hP14
        have hD14 : va_D A (zc_10 a1 k1 q14.2) := hD14
        clear hP hD hS hB14 hk14 hvm14 hz14 ht14
        refine lv_istore (lv' := [(5, .int q14.1), (0, .ref (a1 0)), (1, .int y1), (2, .int y2), (3, .int y3), (4, .int y4)]) hx hb dX10_order_64 hl (by decide) rfl (fun ls15 hl15 => ?_)
        refine lv_aload_n hx hb dX10_order_66 rfl (lv_at hl15 1 rfl) ?_
        have hR0 := ob_ok hR
        clear hR
        obtain ⟨q16, hq16, hR⟩ := hR0
        refine va_callv (va_runV (As := []) (rest := []) ⟨hx, hb, hml, hown, hts⟩ (cc_X10_bringBack l dC dI fu a1 k1 H14.size q14.2 q16 hq16) (cwV 0 hts gX10_order_X10_bringBack rfl rfl rfl (by decide +kernel) ⟨Nat.le_of_ble_eq_true rfl, Nat.le_of_ble_eq_true rfl⟩) (pf_v hK hP14 hD14 10 0 rfl rfl rfl) rfl rfl hl15.1 rfl (lv_room (Nat.le_of_ble_eq_true rfl)) dX10_order_67 ⟨Nat.le_refl _, Nat.le_refl _⟩) hS14 (fun q _ h => (fr_all hD14 hS14 hA) q h) (fr_all hD14 hS14 hA) (fun v16 t16 H16 locs16 ht16 hvm16 hw16 hB16 hz16 hk16 hS16 => ?_)
        subst hw16
        obtain ⟨hP16, hD16⟩ := jn_all hD14 hS14 hA ht16 hB16
        have hP16 : va_P (dC, dI) vwCl (zc_10 a1 k1 q16) H16 := hP16
        have hD16 : va_D A (zc_10 a1 k1 q16) := hD16
        clear hP14 hD14 hS14 hB16 hk16 hvm16 hz16 ht16
        refine lv_iconst (v := (0 : Int32)) hx hb dX10_order_70 (by decide) ?_
        refine lv_istore (lv' := [(6, .int (0 : Int32)), (5, .int q14.1), (0, .ref (a1 0)), (1, .int y1), (2, .int y2), (3, .int y3), (4, .int y4)]) hx hb dX10_order_71 hl15 (by decide) rfl (fun ls17 hl17 => ?_)
        exact hB73 (rr_X10_order_54 fu n) ih fu y1 y2 y3 q14.1 (0 : Int32) q16 H16 locs16 ls17 hP16 hD16 hS16 (lv_sub hl17 [2, 3, 4, 5, 1, 0] rfl) hR
  unfold rr_X10_order at hR
  refine lv_iload_n hx hb dX10_order_0 rfl (lv_at hl 1 rfl) ?_
  have hR0 := ob_ok hR
  clear hR
  obtain ⟨q1, hq1, hR⟩ := hR0
  refine va_calli (va_runS (As := [.int x1]) (rest := []) ⟨hx, hb, hml, hown, hts⟩ (cc_X10_isPurse l dC dI fu s.heap.size x1 q1 hq1) (va_cwS 1 hts gX10_order_X10_isPurse rfl rfl rfl (by decide +kernel) ⟨Nat.le_of_ble_eq_true rfl, Nat.le_of_ble_eq_true rfl⟩) (pf_s (nil_K hK) nil_P (nil_D (A := A))) rfl rfl hl.1 rfl (lv_room (Nat.le_of_ble_eq_true rfl)) dX10_order_1 ⟨Nat.le_refl _, Nat.le_refl _⟩) hS (fun q _ h => (fr_none hS hA) q h) (fr_none hS hA) (fun r1 v1 t1 H1 locs1 ht1 hvm1 hw1 hB1 hz1 hk1 hS1 => ?_)
  subst hw1
  have hP1 := jn_none hP hk1
  have hD1 := hD
  have hP1 : va_P (dC, dI) vwCl (zc_10 a1 k1 s1) H1 := hP1
  have hD1 : va_D A (zc_10 a1 k1 s1) := hD1
  clear hP hD hS hB1 hk1 hvm1 hz1 ht1
  refine lv_if_eq (tgt := 21) hx hb dX10_order_4 (by decide) (fun c2 => ?_) (fun c2 => ?_)
  · replace hR := ifp_ hR c2
    refine lv_iconst (v := (-1 : Int32)) hx hb dX10_order_21 (by decide) ?_
    subst hQe
    exact W.iret (v := (-1 : Int32)) hx hb hr (fun t ht hW => ⟨⟨(-1 : Int32), s1, rfl, (Option.some.inj hR).symm, by rw [ht]; exact hP1, va_K.moved hW.alike hK, hD1⟩, hS1.F ht⟩) hS1.2.2 dX10_order_22
  · replace hR := ifn_ hR c2
    refine lv_iload_n hx hb dX10_order_7 rfl (lv_at hl 2 rfl) ?_
    refine lv_i2l (v := x2.toInt64) hx hb dX10_order_8 rfl ?_
    refine lv_ldc2 (v := (-1 : Int64)) hx hb hown (hts (.constantLong RX10 230 (-1)) (List.mem_of_getElem? (i := 1) rfl)) dX10_order_9 ?_
    refine lv_ldc2 (v := (5 : Int64)) hx hb hown (hts (.constantLong RX10 232 (5)) (List.mem_of_getElem? (i := 2) rfl)) dX10_order_12 ?_
    have hR0 := ob_ok hR
    clear hR
    obtain ⟨q3, hq3, hR⟩ := hR0
    refine va_calli (va_runS (As := [.long x2.toInt64, .long (-1 : Int64), .long (5 : Int64)]) (rest := []) ⟨hx, hb, hml, hown, hts⟩ (cc_X10_in l dC dI fu H1.size x2.toInt64 (-1 : Int64) (5 : Int64) q3 hq3) (va_cwS 3 hts gX10_order_X10_in rfl rfl rfl (by decide +kernel) ⟨Nat.le_of_ble_eq_true rfl, Nat.le_of_ble_eq_true rfl⟩) (pf_s (nil_K hK) nil_P (nil_D (A := A))) rfl rfl hl.1 rfl (lv_room (Nat.le_of_ble_eq_true rfl)) dX10_order_15 ⟨Nat.le_refl _, Nat.le_refl _⟩) hS1 (fun q _ h => (fr_none hS1 hA) q h) (fr_none hS1 hA) (fun r3 v3 t3 H3 locs3 ht3 hvm3 hw3 hB3 hz3 hk3 hS3 => ?_)
    subst hw3
    have hP3 := jn_none hP1 hk3
    have hD3 := hD1
    have hP3 : va_P (dC, dI) vwCl (zc_10 a1 k1 s1) H3 := hP3
    have hD3 : va_D A (zc_10 a1 k1 s1) := hD3
    clear hP1 hD1 hS1 hB3 hk3 hvm3 hz3 ht3
    refine lv_if_ne (tgt := 23) hx hb dX10_order_18 (by decide) (fun c4 => ?_) (fun c4 => ?_)
    · replace hR := ifn_ hR c4
      refine lv_iload_n hx hb dX10_order_23 rfl (lv_at hl 2 rfl) ?_
      refine lv_aload_n hx hb dX10_order_24 rfl (lv_at hl 0 rfl) ?_
      refine va_get (D := (dC, dI)) (ci := 10) (v := .int s1.2.1.2.2) (C := RX10) (T := TX10) (N := 35) hx hb hts hin10 hown hK hP3 0 rfl rfl 9 (by decide) (hts (.fieldLink RX10 135 "OldestCoinsModel" "errands" "I") (List.mem_of_getElem? (i := 3) rfl)) (fun _ h9 => h9) rfl dX10_order_25 ?_
      refine lv_icmp_ge (tgt := 38) hx hb dX10_order_28 (by decide) (fun c5 => ?_) (fun c5 => ?_)
      · replace hR := ifp_ hR c5
        refine lv_bipush (v := (-4 : Int32)) hx hb dX10_order_38 (by decide) ?_
        subst hQe
        exact W.iret (v := (-4 : Int32)) hx hb hr (fun t ht hW => ⟨⟨(-4 : Int32), s1, rfl, (Option.some.inj hR).symm, by rw [ht]; exact hP3, va_K.moved hW.alike hK, hD3⟩, hS3.F ht⟩) hS3.2.2 dX10_order_40
      · replace hR := ifn_ hR c5
        refine lv_aload_n hx hb dX10_order_31 rfl (lv_at hl 0 rfl) ?_
        refine va_get (D := (dC, dI)) (ci := 10) (v := .int s1.2.1.2.2) (C := RX10) (T := TX10) (N := 35) hx hb hts hin10 hown hK hP3 0 rfl rfl 9 (by decide) (hts (.fieldLink RX10 135 "OldestCoinsModel" "errands" "I") (List.mem_of_getElem? (i := 3) rfl)) (fun _ h9 => h9) rfl dX10_order_32 ?_
        refine lv_if_ne (tgt := 41) hx hb dX10_order_35 (by decide) (fun c6 => ?_) (fun c6 => ?_)
        · replace hR := ifn_ hR c6
          refine lv_aload_n hx hb dX10_order_41 rfl (lv_at hl 0 rfl) ?_
          have hR0 := ob_ok hR
          clear hR
          obtain ⟨q7, hq7, hR⟩ := hR0
          refine va_callv (va_runV (As := []) (rest := []) ⟨hx, hb, hml, hown, hts⟩ (cc_X10_keep l dC dI fu a1 k1 H3.size s1 q7 hq7) (cwV 0 hts gX10_order_X10_keep rfl rfl rfl (by decide +kernel) ⟨Nat.le_of_ble_eq_true rfl, Nat.le_of_ble_eq_true rfl⟩) (pf_v hK hP3 hD3 10 0 rfl rfl rfl) rfl rfl hl.1 rfl (lv_room (Nat.le_of_ble_eq_true rfl)) dX10_order_42 ⟨Nat.le_refl _, Nat.le_refl _⟩) hS3 (fun q _ h => (fr_all hD3 hS3 hA) q h) (fr_all hD3 hS3 hA) (fun v7 t7 H7 locs7 ht7 hvm7 hw7 hB7 hz7 hk7 hS7 => ?_)
          subst hw7
          obtain ⟨hP7, hD7⟩ := jn_all hD3 hS3 hA ht7 hB7
          have hP7 : va_P (dC, dI) vwCl (zc_10 a1 k1 q7) H7 := hP7
          have hD7 : va_D A (zc_10 a1 k1 q7) := hD7
          clear hP3 hD3 hS3 hB7 hk7 hvm7 hz7 ht7
          refine lv_aload_n hx hb dX10_order_45 rfl (lv_at hl 0 rfl) ?_
          have hR0 := ob_ok hR
          clear hR
          obtain ⟨q8, hq8, hR⟩ := hR0
          refine va_callv (va_runV (As := []) (rest := []) ⟨hx, hb, hml, hown, hts⟩ (cc_X10_firstOrder l dC dI fu a1 k1 H7.size q7 q8 hq8) (cwV 0 hts gX10_order_X10_firstOrder rfl rfl rfl (by decide +kernel) ⟨Nat.le_of_ble_eq_true rfl, Nat.le_of_ble_eq_true rfl⟩) (pf_v hK hP7 hD7 10 0 rfl rfl rfl) rfl rfl hl.1 rfl (lv_room (Nat.le_of_ble_eq_true rfl)) dX10_order_46 ⟨Nat.le_refl _, Nat.le_refl _⟩) hS7 (fun q _ h => (fr_all hD7 hS7 hA) q h) (fr_all hD7 hS7 hA) (fun v8 t8 H8 locs8 ht8 hvm8 hw8 hB8 hz8 hk8 hS8 => ?_)
          subst hw8
          obtain ⟨hP8, hD8⟩ := jn_all hD7 hS7 hA ht8 hB8
          have hP8 : va_P (dC, dI) vwCl (zc_10 a1 k1 q8) H8 := hP8
          have hD8 : va_D A (zc_10 a1 k1 q8) := hD8
          clear hP7 hD7 hS7 hB8 hk8 hvm8 hz8 ht8
          refine lv_iconst (v := (-1 : Int32)) hx hb dX10_order_49 (by decide) ?_
          refine lv_istore_n (lv' := [(3, .int (-1 : Int32)), (0, .ref (a1 0)), (1, .int x1), (2, .int x2)]) hx hb dX10_order_50 rfl hl (by decide) rfl (fun ls9 hl9 => ?_)
          refine lv_iconst (v := (1 : Int32)) hx hb dX10_order_51 (by decide) ?_
          refine lv_istore (lv' := [(4, .int (1 : Int32)), (3, .int (-1 : Int32)), (0, .ref (a1 0)), (1, .int x1), (2, .int x2)]) hx hb dX10_order_52 hl9 (by decide) rfl (fun ls10 hl10 => ?_)
          exact hB54 fu x1 x2 (-1 : Int32) (1 : Int32) q8 H8 locs8 ls10 hP8 hD8 hS8 (lv_sub hl10 [2, 3, 4, 1, 0] rfl) hR
        · replace hR := ifp_ hR c6
          refine lv_bipush (v := (-4 : Int32)) hx hb dX10_order_38 (by decide) ?_
          subst hQe
          exact W.iret (v := (-4 : Int32)) hx hb hr (fun t ht hW => ⟨⟨(-4 : Int32), s1, rfl, (Option.some.inj hR).symm, by rw [ht]; exact hP3, va_K.moved hW.alike hK, hD3⟩, hS3.F ht⟩) hS3.2.2 dX10_order_40
    · replace hR := ifp_ hR c4
      refine lv_iconst (v := (-1 : Int32)) hx hb dX10_order_21 (by decide) ?_
      subst hQe
      exact W.iret (v := (-1 : Int32)) hx hb hr (fun t ht hW => ⟨⟨(-1 : Int32), s1, rfl, (Option.some.inj hR).symm, by rw [ht]; exact hP3, va_K.moved hW.alike hK, hD3⟩, hS3.F ht⟩) hS3.2.2 dX10_order_22
def rr_X10_home (fu : Nat) (s1 : ZT_10) : Option (Int32 × ZT_10) := some (s1.2.1.2.2, (s1.1, (s1.2.1.1, s1.2.1.2.1, (0 : Int32)), s1.2.2))
set_option maxHeartbeats 4000000 in
set_option maxRecDepth 100000 in
theorem cc_X10_home (l : Launch) (dC : Nat → ClassId) (dI : Nat → Nat → Nat) (fu : Nat) (a1 : Nat → Nat) (k1 : Nat → ClassId) (sz : Nat) (s1 : ZT_10) (res : Int32 × ZT_10) (hR : rr_X10_home fu s1 = some res) : Met l yX10_home wsX10_home ({ frames := 0, cells := 0, slots := 0, locals := 0 } : Room) (PcF [.ref (a1 0)] sz (dC, dI) (zc_10 a1 k1 s1) (zt_10 k1)) (va_Qi (fun (r : Int32) (u : ZT_10) => res = (r, u)) (fun u t => at3_ (dC, dI) (zc_10 a1 k1 u) (zt_10 k1) (va_A (zc_10 a1 k1 s1) sz) t) (va_A (zc_10 a1 k1 s1) sz)) 0 0 (va_A (zc_10 a1 k1 s1) sz) := by
  refine Met.ofW (cc := cX10_home) (maxL := 2) (ret := (some .int)) (by decide) rfl ?_
  intro p e s m args below meth c s₁ B hml hv
  obtain ⟨hav, hsz, hP, hK, hD0⟩ := hv
  have hx := B.exec
  have hb := B.bytes
  have hr := B.returns
  have hts := atoms_spec (ws := wsX10_home) B.pre
  have hown : s.vm.findClass RX10 = some m.cls := findClass_of_methodNamed B.named
  have hlocks := B.notSynchronized
  have hin10 : ∀ w ∈ wsX100, w ∈ wsX10_home := fun w h => List.mem_cons_of_mem _ (List.mem_append_right _ h)
  subst hsz
  have hD := hD0.self (sz := s.heap.size)
  clear hD0
  generalize hAe : va_A (zc_10 a1 k1 s1) s.heap.size = A at hD ⊢
  have hA : ∀ q : Nat, s.heap.size ≤ q → A q := fun q h => by rw [← hAe]; exact Or.inr h
  have hS : va_S A s.heap s.heap [] := va_S.rf
  generalize hQe : MQ below _ args s 0 0 A = Q
  rw [show entryFrame m args 2 = F0 m 0 ((lg_sl ([.ref (a1 0)]) ++ List.replicate (2 - (lg_sl ([.ref (a1 0)])).length) Slot.unset).toArray) [] from by rw [hav]; exact lg_entry_eq m _ _]
  have hl := lv_entry ([.ref (a1 0)]) (n := 2) (Nat.le_of_ble_eq_true rfl)
  generalize (lg_sl ([.ref (a1 0)]) ++ List.replicate (2 - (lg_sl ([.ref (a1 0)])).length) Slot.unset).toArray = ls at hl ⊢
  have hl : lv_has ls 2 [(0, .ref (a1 0))] := hl
  unfold rr_X10_home at hR
  refine lv_aload_n hx hb dX10_home_0 rfl (lv_at hl 0 rfl) ?_
  refine va_get (D := (dC, dI)) (ci := 10) (v := .int s1.2.1.2.2) (C := RX10) (T := TX10) (N := 35) hx hb hts hin10 hown hK hP 0 rfl rfl 9 (by decide) (hts (.fieldLink RX10 135 "OldestCoinsModel" "errands" "I") (List.mem_of_getElem? (i := 1) rfl)) (fun _ h9 => h9) rfl dX10_home_1 ?_
  refine lv_istore_n (lv' := [(1, .int s1.2.1.2.2), (0, .ref (a1 0))]) hx hb dX10_home_4 rfl hl (by decide) rfl (fun ls1 hl1 => ?_)
  refine lv_aload_n hx hb dX10_home_5 rfl (lv_at hl1 1 rfl) ?_
  refine lv_iconst (v := (0 : Int32)) hx hb dX10_home_6 (by decide) ?_
  refine va_put (D := (dC, dI)) (ci := 10) (v := .int (0 : Int32)) (ty := .int) (C := RX10) (T := TX10) (N := 35) hx hb hts hin10 tyX10 tyX10_ok nmX10 hown hK hP hD hS 0 rfl rfl 9 (by decide) (hts (.fieldLink RX10 135 "OldestCoinsModel" "errands" "I") (List.mem_of_getElem? (i := 1) rfl)) (fun _ h9 => h9) rfl (by decide +kernel) rfl rfl (Nat.le_of_ble_eq_true rfl) dX10_home_7 (fun H2 locs2 hP2 hD2 hS2 => ?_)
  have hP2 : va_P (dC, dI) vwCl (zc_10 a1 k1 (s1.1, (s1.2.1.1, s1.2.1.2.1, (0 : Int32)), s1.2.2)) H2 := hP2
  have hD2 : va_D A (zc_10 a1 k1 (s1.1, (s1.2.1.1, s1.2.1.2.1, (0 : Int32)), s1.2.2)) := hD2
  clear hP hD hS
  refine lv_iload_n hx hb dX10_home_10 rfl (lv_at hl1 0 rfl) ?_
  subst hQe
  exact W.iret (v := s1.2.1.2.2) hx hb hr (fun t ht hW => ⟨⟨s1.2.1.2.2, (s1.1, (s1.2.1.1, s1.2.1.2.1, (0 : Int32)), s1.2.2), rfl, (Option.some.inj hR).symm, by rw [ht]; exact hP2, va_K.moved hW.alike hK, hD2⟩, hS2.F ht⟩) hS2.2.2 dX10_home_11
def rr_X10_errand (fu : Nat) (x1 : Int32) (x2 : Int32) (s1 : ZT_10) : Option (Int32 × ZT_10) := (rr_X10_isShop fu x1).bind (fun q1 => (if q1 = (0 : Int32) then some ((-1 : Int32), s1) else (rr_X10_isSum fu x2).bind (fun q3 => (if q3 = (0 : Int32) then some ((-1 : Int32), s1) else (if s1.2.1.2.2 = (6 : Int32) then some ((-3 : Int32), s1) else ck_ s1.2.1.2.2 6 (ck_ s1.2.1.2.2 6 (lt_ (α := Int32) (s1.2.1.2.2 + (1 : Int32)) (fun z8 => some ((z8 - (1 : Int32)), (s1.1, ((upd s1.2.1.1 s1.2.1.2.2.toNatClampNeg x1), (upd s1.2.1.2.1 s1.2.1.2.2.toNatClampNeg x2), z8), s1.2.2))))))))))
set_option maxHeartbeats 4000000 in
set_option maxRecDepth 100000 in
theorem cc_X10_errand (l : Launch) (dC : Nat → ClassId) (dI : Nat → Nat → Nat) (fu : Nat) (a1 : Nat → Nat) (k1 : Nat → ClassId) (sz : Nat) (x1 : Int32) (x2 : Int32) (s1 : ZT_10) (res : Int32 × ZT_10) (hR : rr_X10_errand fu x1 x2 s1 = some res) : Met l yX10_errand wsX10_errand ({ frames := 2, cells := 0, slots := 0, locals := 45 } : Room) (PcF [.ref (a1 0), .int x1, .int x2] sz (dC, dI) (zc_10 a1 k1 s1) (zt_10 k1)) (va_Qi (fun (r : Int32) (u : ZT_10) => res = (r, u)) (fun u t => at3_ (dC, dI) (zc_10 a1 k1 u) (zt_10 k1) (va_A (zc_10 a1 k1 s1) sz) t) (va_A (zc_10 a1 k1 s1) sz)) 0 0 (va_A (zc_10 a1 k1 s1) sz) := by
  refine Met.ofW (cc := cX10_errand) (maxL := 3) (ret := (some .int)) (by decide) rfl ?_
  intro p e s m args below meth c s₁ B hml hv
  obtain ⟨hav, hsz, hP, hK, hD0⟩ := hv
  have hx := B.exec
  have hb := B.bytes
  have hr := B.returns
  have hts := atoms_spec (ws := wsX10_errand) B.pre
  have hown : s.vm.findClass RX10 = some m.cls := findClass_of_methodNamed B.named
  have hlocks := B.notSynchronized
  have hin10 : ∀ w ∈ wsX100, w ∈ wsX10_errand := fun w h => List.mem_cons_of_mem _ (List.mem_append_right _ h)
  subst hsz
  have hD := hD0.self (sz := s.heap.size)
  clear hD0
  generalize hAe : va_A (zc_10 a1 k1 s1) s.heap.size = A at hD ⊢
  have hA : ∀ q : Nat, s.heap.size ≤ q → A q := fun q h => by rw [← hAe]; exact Or.inr h
  have hS : va_S A s.heap s.heap [] := va_S.rf
  generalize hQe : MQ below _ args s 0 0 A = Q
  rw [show entryFrame m args 3 = F0 m 0 ((lg_sl ([.ref (a1 0), .int x1, .int x2]) ++ List.replicate (3 - (lg_sl ([.ref (a1 0), .int x1, .int x2])).length) Slot.unset).toArray) [] from by rw [hav]; exact lg_entry_eq m _ _]
  have hl := lv_entry ([.ref (a1 0), .int x1, .int x2]) (n := 3) (Nat.le_of_ble_eq_true rfl)
  generalize (lg_sl ([.ref (a1 0), .int x1, .int x2]) ++ List.replicate (3 - (lg_sl ([.ref (a1 0), .int x1, .int x2])).length) Slot.unset).toArray = ls at hl ⊢
  have hl : lv_has ls 3 [(0, .ref (a1 0)), (1, .int x1), (2, .int x2)] := hl
  unfold rr_X10_errand at hR
  refine lv_iload_n hx hb dX10_errand_0 rfl (lv_at hl 1 rfl) ?_
  have hR0 := ob_ok hR
  clear hR
  obtain ⟨q1, hq1, hR⟩ := hR0
  refine va_calli (va_runS (As := [.int x1]) (rest := []) ⟨hx, hb, hml, hown, hts⟩ (cc_X10_isShop l dC dI fu s.heap.size x1 q1 hq1) (va_cwS 1 hts gX10_errand_X10_isShop rfl rfl rfl (by decide +kernel) ⟨Nat.le_of_ble_eq_true rfl, Nat.le_of_ble_eq_true rfl⟩) (pf_s (nil_K hK) nil_P (nil_D (A := A))) rfl rfl hl.1 rfl (lv_room (Nat.le_of_ble_eq_true rfl)) dX10_errand_1 ⟨Nat.le_refl _, Nat.le_refl _⟩) hS (fun q _ h => (fr_none hS hA) q h) (fr_none hS hA) (fun r1 v1 t1 H1 locs1 ht1 hvm1 hw1 hB1 hz1 hk1 hS1 => ?_)
  subst hw1
  have hP1 := jn_none hP hk1
  have hD1 := hD
  have hP1 : va_P (dC, dI) vwCl (zc_10 a1 k1 s1) H1 := hP1
  have hD1 : va_D A (zc_10 a1 k1 s1) := hD1
  clear hP hD hS hB1 hk1 hvm1 hz1 ht1
  refine lv_if_eq (tgt := 14) hx hb dX10_errand_4 (by decide) (fun c2 => ?_) (fun c2 => ?_)
  · replace hR := ifp_ hR c2
    refine lv_iconst (v := (-1 : Int32)) hx hb dX10_errand_14 (by decide) ?_
    subst hQe
    exact W.iret (v := (-1 : Int32)) hx hb hr (fun t ht hW => ⟨⟨(-1 : Int32), s1, rfl, (Option.some.inj hR).symm, by rw [ht]; exact hP1, va_K.moved hW.alike hK, hD1⟩, hS1.F ht⟩) hS1.2.2 dX10_errand_15
  · replace hR := ifn_ hR c2
    refine lv_iload_n hx hb dX10_errand_7 rfl (lv_at hl 2 rfl) ?_
    have hR0 := ob_ok hR
    clear hR
    obtain ⟨q3, hq3, hR⟩ := hR0
    refine va_calli (va_runS (As := [.int x2]) (rest := []) ⟨hx, hb, hml, hown, hts⟩ (cc_X10_isSum l dC dI fu H1.size x2 q3 hq3) (va_cwS 1 hts gX10_errand_X10_isSum rfl rfl rfl (by decide +kernel) ⟨Nat.le_of_ble_eq_true rfl, Nat.le_of_ble_eq_true rfl⟩) (pf_s (nil_K hK) nil_P (nil_D (A := A))) rfl rfl hl.1 rfl (lv_room (Nat.le_of_ble_eq_true rfl)) dX10_errand_8 ⟨Nat.le_refl _, Nat.le_refl _⟩) hS1 (fun q _ h => (fr_none hS1 hA) q h) (fr_none hS1 hA) (fun r3 v3 t3 H3 locs3 ht3 hvm3 hw3 hB3 hz3 hk3 hS3 => ?_)
    subst hw3
    have hP3 := jn_none hP1 hk3
    have hD3 := hD1
    have hP3 : va_P (dC, dI) vwCl (zc_10 a1 k1 s1) H3 := hP3
    have hD3 : va_D A (zc_10 a1 k1 s1) := hD3
    clear hP1 hD1 hS1 hB3 hk3 hvm3 hz3 ht3
    refine lv_if_ne (tgt := 16) hx hb dX10_errand_11 (by decide) (fun c4 => ?_) (fun c4 => ?_)
    · replace hR := ifn_ hR c4
      refine lv_aload_n hx hb dX10_errand_16 rfl (lv_at hl 0 rfl) ?_
      refine va_get (D := (dC, dI)) (ci := 10) (v := .int s1.2.1.2.2) (C := RX10) (T := TX10) (N := 35) hx hb hts hin10 hown hK hP3 0 rfl rfl 9 (by decide) (hts (.fieldLink RX10 135 "OldestCoinsModel" "errands" "I") (List.mem_of_getElem? (i := 1) rfl)) (fun _ h9 => h9) rfl dX10_errand_17 ?_
      refine lv_bipush (v := (6 : Int32)) hx hb dX10_errand_20 (by decide) ?_
      refine lv_icmp_ne (tgt := 28) hx hb dX10_errand_22 (by decide) (fun c5 => ?_) (fun c5 => ?_)
      · replace hR := ifn_ hR c5
        refine lv_aload_n hx hb dX10_errand_28 rfl (lv_at hl 0 rfl) ?_
        refine va_get (D := (dC, dI)) (ci := 10) (v := .ref (a1 6)) (C := RX10) (T := TX10) (N := 35) hx hb hts hin10 hown hK hP3 0 rfl rfl 7 (by decide) (hts (.fieldLink RX10 25 "OldestCoinsModel" "shops" "[I") (List.mem_of_getElem? (i := 2) rfl)) (fun _ h9 => h9) rfl dX10_errand_29 ?_
        refine lv_aload_n hx hb dX10_errand_32 rfl (lv_at hl 0 rfl) ?_
        refine va_get (D := (dC, dI)) (ci := 10) (v := .int s1.2.1.2.2) (C := RX10) (T := TX10) (N := 35) hx hb hts hin10 hown hK hP3 0 rfl rfl 9 (by decide) (hts (.fieldLink RX10 135 "OldestCoinsModel" "errands" "I") (List.mem_of_getElem? (i := 1) rfl)) (fun _ h9 => h9) rfl dX10_errand_33 ?_
        refine lv_iload_n hx hb dX10_errand_36 rfl (lv_at hl 1 rfl) ?_
        have i6 := (ck_ok hR).1
        replace hR := (ck_ok hR).2
        refine va_iast (f := s1.2.1.1) hx hb hK hP3 hD3 hS3 6 5 rfl rfl i6 dX10_errand_37 (fun H6 locs6 hP6 hD6 hS6 => ?_)
        have hP6 : va_P (dC, dI) vwCl (zc_10 a1 k1 (s1.1, ((upd s1.2.1.1 s1.2.1.2.2.toNatClampNeg x1), s1.2.1.2), s1.2.2)) H6 := hP6
        have hD6 : va_D A (zc_10 a1 k1 (s1.1, ((upd s1.2.1.1 s1.2.1.2.2.toNatClampNeg x1), s1.2.1.2), s1.2.2)) := hD6
        clear hP3 hD3 hS3
        refine lv_aload_n hx hb dX10_errand_38 rfl (lv_at hl 0 rfl) ?_
        refine va_get (D := (dC, dI)) (ci := 10) (v := .ref (a1 7)) (C := RX10) (T := TX10) (N := 35) hx hb hts hin10 hown hK hP6 0 rfl rfl 8 (by decide) (hts (.fieldLink RX10 28 "OldestCoinsModel" "sums" "[I") (List.mem_of_getElem? (i := 3) rfl)) (fun _ h9 => h9) rfl dX10_errand_39 ?_
        refine lv_aload_n hx hb dX10_errand_42 rfl (lv_at hl 0 rfl) ?_
        refine va_get (D := (dC, dI)) (ci := 10) (v := .int s1.2.1.2.2) (C := RX10) (T := TX10) (N := 35) hx hb hts hin10 hown hK hP6 0 rfl rfl 9 (by decide) (hts (.fieldLink RX10 135 "OldestCoinsModel" "errands" "I") (List.mem_of_getElem? (i := 1) rfl)) (fun _ h9 => h9) rfl dX10_errand_43 ?_
        refine lv_iload_n hx hb dX10_errand_46 rfl (lv_at hl 2 rfl) ?_
        have i7 := (ck_ok hR).1
        replace hR := (ck_ok hR).2
        refine va_iast (f := s1.2.1.2.1) hx hb hK hP6 hD6 hS6 7 6 rfl rfl i7 dX10_errand_47 (fun H7 locs7 hP7 hD7 hS7 => ?_)
        have hP7 : va_P (dC, dI) vwCl (zc_10 a1 k1 (s1.1, ((upd s1.2.1.1 s1.2.1.2.2.toNatClampNeg x1), (upd s1.2.1.2.1 s1.2.1.2.2.toNatClampNeg x2), s1.2.1.2.2), s1.2.2)) H7 := hP7
        have hD7 : va_D A (zc_10 a1 k1 (s1.1, ((upd s1.2.1.1 s1.2.1.2.2.toNatClampNeg x1), (upd s1.2.1.2.1 s1.2.1.2.2.toNatClampNeg x2), s1.2.1.2.2), s1.2.2)) := hD7
        clear hP6 hD6 hS6
        refine lv_aload_n hx hb dX10_errand_48 rfl (lv_at hl 0 rfl) ?_
        refine lv_dup hx hb dX10_errand_49 rfl ?_
        refine va_get (D := (dC, dI)) (ci := 10) (v := .int s1.2.1.2.2) (C := RX10) (T := TX10) (N := 35) hx hb hts hin10 hown hK hP7 0 rfl rfl 9 (by decide) (hts (.fieldLink RX10 135 "OldestCoinsModel" "errands" "I") (List.mem_of_getElem? (i := 1) rfl)) (fun _ h9 => h9) rfl dX10_errand_50 ?_
        refine lv_iconst (v := (1 : Int32)) hx hb dX10_errand_53 (by decide) ?_
        refine lv_iadd hx hb dX10_errand_54 ?_
        refine lv_topi (fun z8 ez8 => ?_)
        replace hR := lt_ok hR ez8
        refine va_put (D := (dC, dI)) (ci := 10) (v := .int z8) (ty := .int) (C := RX10) (T := TX10) (N := 35) hx hb hts hin10 tyX10 tyX10_ok nmX10 hown hK hP7 hD7 hS7 0 rfl rfl 9 (by decide) (hts (.fieldLink RX10 135 "OldestCoinsModel" "errands" "I") (List.mem_of_getElem? (i := 1) rfl)) (fun _ h9 => h9) rfl (by decide +kernel) rfl rfl (Nat.le_of_ble_eq_true rfl) dX10_errand_55 (fun H9 locs9 hP9 hD9 hS9 => ?_)
        have hP9 : va_P (dC, dI) vwCl (zc_10 a1 k1 (s1.1, ((upd s1.2.1.1 s1.2.1.2.2.toNatClampNeg x1), (upd s1.2.1.2.1 s1.2.1.2.2.toNatClampNeg x2), z8), s1.2.2)) H9 := hP9
        have hD9 : va_D A (zc_10 a1 k1 (s1.1, ((upd s1.2.1.1 s1.2.1.2.2.toNatClampNeg x1), (upd s1.2.1.2.1 s1.2.1.2.2.toNatClampNeg x2), z8), s1.2.2)) := hD9
        clear hP7 hD7 hS7
        refine lv_aload_n hx hb dX10_errand_58 rfl (lv_at hl 0 rfl) ?_
        refine va_get (D := (dC, dI)) (ci := 10) (v := .int z8) (C := RX10) (T := TX10) (N := 35) hx hb hts hin10 hown hK hP9 0 rfl rfl 9 (by decide) (hts (.fieldLink RX10 135 "OldestCoinsModel" "errands" "I") (List.mem_of_getElem? (i := 1) rfl)) (fun _ h9 => h9) rfl dX10_errand_59 ?_
        refine lv_iconst (v := (1 : Int32)) hx hb dX10_errand_62 (by decide) ?_
        refine lv_isub hx hb dX10_errand_63 ?_
        subst hQe
        exact W.iret (v := (z8 - (1 : Int32))) hx hb hr (fun t ht hW => ⟨⟨(z8 - (1 : Int32)), (s1.1, ((upd s1.2.1.1 s1.2.1.2.2.toNatClampNeg x1), (upd s1.2.1.2.1 s1.2.1.2.2.toNatClampNeg x2), z8), s1.2.2), rfl, (Option.some.inj hR).symm, by rw [ht]; exact hP9, va_K.moved hW.alike hK, hD9⟩, hS9.F ht⟩) hS9.2.2 dX10_errand_64
      · replace hR := ifp_ hR c5
        refine lv_bipush (v := (-3 : Int32)) hx hb dX10_errand_25 (by decide) ?_
        subst hQe
        exact W.iret (v := (-3 : Int32)) hx hb hr (fun t ht hW => ⟨⟨(-3 : Int32), s1, rfl, (Option.some.inj hR).symm, by rw [ht]; exact hP3, va_K.moved hW.alike hK, hD3⟩, hS3.F ht⟩) hS3.2.2 dX10_errand_27
    · replace hR := ifp_ hR c4
      refine lv_iconst (v := (-1 : Int32)) hx hb dX10_errand_14 (by decide) ?_
      subst hQe
      exact W.iret (v := (-1 : Int32)) hx hb hr (fun t ht hW => ⟨⟨(-1 : Int32), s1, rfl, (Option.some.inj hR).symm, by rw [ht]; exact hP3, va_K.moved hW.alike hK, hD3⟩, hS3.F ht⟩) hS3.2.2 dX10_errand_15
def rr_X10_isEven (fu : Nat) (x1 : Int32) (x2 : Int32) (x3 : Int32) (s1 : ZT_10) : Option (Int32 × ZT_10) := (rr_X10_findBill fu x1 x2 x3 s1).bind (fun q1 => (if q1.1 = (0 : Int32) then some ((0 : Int32), q1.2) else (if q1.2.2.2.2.2.2.1.2.2.2.1 = (0 : Int32) then some ((1 : Int32), q1.2) else some ((0 : Int32), q1.2))))
set_option maxHeartbeats 4000000 in
set_option maxRecDepth 100000 in
theorem cc_X10_isEven (l : Launch) (dC : Nat → ClassId) (dI : Nat → Nat → Nat) (fu : Nat) (a1 : Nat → Nat) (k1 : Nat → ClassId) (sz : Nat) (x1 : Int32) (x2 : Int32) (x3 : Int32) (s1 : ZT_10) (res : Int32 × ZT_10) (hR : rr_X10_isEven fu x1 x2 x3 s1 = some res) : Met l yX10_isEven wsX10_isEven ({ frames := 5, cells := 0, slots := 0, locals := 115 } : Room) (PcF [.ref (a1 0), .int x1, .int x2, .int x3] sz (dC, dI) (zc_10 a1 k1 s1) (zt_10 k1)) (va_Qi (fun (r : Int32) (u : ZT_10) => res = (r, u)) (fun u t => at3_ (dC, dI) (zc_10 a1 k1 u) (zt_10 k1) (va_A (zc_10 a1 k1 s1) sz) t) (va_A (zc_10 a1 k1 s1) sz)) 0 0 (va_A (zc_10 a1 k1 s1) sz) := by
  refine Met.ofW (cc := cX10_isEven) (maxL := 4) (ret := (some .boolean)) (by decide) rfl ?_
  intro p e s m args below meth c s₁ B hml hv
  obtain ⟨hav, hsz, hP, hK, hD0⟩ := hv
  have hx := B.exec
  have hb := B.bytes
  have hr := B.returns
  have hts := atoms_spec (ws := wsX10_isEven) B.pre
  have hown : s.vm.findClass RX10 = some m.cls := findClass_of_methodNamed B.named
  have hlocks := B.notSynchronized
  have hin10 : ∀ w ∈ wsX100, w ∈ wsX10_isEven := fun w h => List.mem_cons_of_mem _ (List.mem_append_right _ h)
  subst hsz
  have hD := hD0.self (sz := s.heap.size)
  clear hD0
  generalize hAe : va_A (zc_10 a1 k1 s1) s.heap.size = A at hD ⊢
  have hA : ∀ q : Nat, s.heap.size ≤ q → A q := fun q h => by rw [← hAe]; exact Or.inr h
  have hS : va_S A s.heap s.heap [] := va_S.rf
  generalize hQe : MQ below _ args s 0 0 A = Q
  rw [show entryFrame m args 4 = F0 m 0 ((lg_sl ([.ref (a1 0), .int x1, .int x2, .int x3]) ++ List.replicate (4 - (lg_sl ([.ref (a1 0), .int x1, .int x2, .int x3])).length) Slot.unset).toArray) [] from by rw [hav]; exact lg_entry_eq m _ _]
  have hl := lv_entry ([.ref (a1 0), .int x1, .int x2, .int x3]) (n := 4) (Nat.le_of_ble_eq_true rfl)
  generalize (lg_sl ([.ref (a1 0), .int x1, .int x2, .int x3]) ++ List.replicate (4 - (lg_sl ([.ref (a1 0), .int x1, .int x2, .int x3])).length) Slot.unset).toArray = ls at hl ⊢
  have hl : lv_has ls 4 [(0, .ref (a1 0)), (1, .int x1), (2, .int x2), (3, .int x3)] := hl
  unfold rr_X10_isEven at hR
  refine lv_aload_n hx hb dX10_isEven_0 rfl (lv_at hl 0 rfl) ?_
  refine lv_iload_n hx hb dX10_isEven_1 rfl (lv_at hl 1 rfl) ?_
  refine lv_iload_n hx hb dX10_isEven_2 rfl (lv_at hl 2 rfl) ?_
  refine lv_iload_n hx hb dX10_isEven_3 rfl (lv_at hl 3 rfl) ?_
  have hR0 := ob_ok hR
  clear hR
  obtain ⟨q1, hq1, hR⟩ := hR0
  refine va_calli (va_runV (As := [.int x1, .int x2, .int x3]) (rest := []) ⟨hx, hb, hml, hown, hts⟩ (cc_X10_findBill l dC dI fu a1 k1 s.heap.size x1 x2 x3 s1 q1 hq1) (cwV 3 hts gX10_isEven_X10_findBill rfl rfl rfl (by decide +kernel) ⟨Nat.le_of_ble_eq_true rfl, Nat.le_of_ble_eq_true rfl⟩) (pf_v hK hP hD 10 0 rfl rfl rfl) rfl rfl hl.1 rfl (lv_room (Nat.le_of_ble_eq_true rfl)) dX10_isEven_4 ⟨Nat.le_refl _, Nat.le_refl _⟩) hS (fun q _ h => (fr_all hD hS hA) q h) (fr_all hD hS hA) (fun r1 v1 t1 H1 locs1 ht1 hvm1 hw1 hB1 hz1 hk1 hS1 => ?_)
  obtain rfl : r1 = q1.1 := (congrArg Prod.fst hw1).symm
  obtain rfl : v1 = q1.2 := (congrArg Prod.snd hw1).symm
  obtain ⟨hP1, hD1⟩ := jn_all hD hS hA ht1 hB1
  have hP1 : va_P (dC, dI) vwCl (zc_10 a1 k1 q1.2) H1 := hP1
  have hD1 : va_D A (zc_10 a1 k1 q1.2) := hD1
  clear hP hD hS hB1 hk1 hvm1 hz1 ht1
  refine lv_if_eq (tgt := 21) hx hb dX10_isEven_7 (by decide) (fun c2 => ?_) (fun c2 => ?_)
  · replace hR := ifp_ hR c2
    refine lv_iconst (v := (0 : Int32)) hx hb dX10_isEven_21 (by decide) ?_
    subst hQe
    exact W.zret (ty := .boolean) (v := (0 : Int32)) hx hb hr rfl (fun t ht hW => ⟨⟨(0 : Int32), q1.2, rfl, (Option.some.inj hR).symm, by rw [ht]; exact hP1, va_K.moved hW.alike hK, hD1⟩, hS1.F ht⟩) hS1.2.2 dX10_isEven_22
  · replace hR := ifn_ hR c2
    refine lv_aload_n hx hb dX10_isEven_10 rfl (lv_at hl 0 rfl) ?_
    refine va_get (D := (dC, dI)) (ci := 10) (v := .int q1.2.2.2.2.2.2.1.2.2.2.1) (C := RX10) (T := TX10) (N := 35) hx hb hts hin10 hown hK hP1 0 rfl rfl 22 (by decide) (hts (.fieldLink RX10 199 "OldestCoinsModel" "due" "I") (List.mem_of_getElem? (i := 1) rfl)) (fun _ h9 => h9) rfl dX10_isEven_11 ?_
    refine lv_if_ne (tgt := 21) hx hb dX10_isEven_14 (by decide) (fun c3 => ?_) (fun c3 => ?_)
    · replace hR := ifn_ hR c3
      refine lv_iconst (v := (0 : Int32)) hx hb dX10_isEven_21 (by decide) ?_
      subst hQe
      exact W.zret (ty := .boolean) (v := (0 : Int32)) hx hb hr rfl (fun t ht hW => ⟨⟨(0 : Int32), q1.2, rfl, (Option.some.inj hR).symm, by rw [ht]; exact hP1, va_K.moved hW.alike hK, hD1⟩, hS1.F ht⟩) hS1.2.2 dX10_isEven_22
    · replace hR := ifp_ hR c3
      refine lv_iconst (v := (1 : Int32)) hx hb dX10_isEven_17 (by decide) ?_
      refine lv_goto (tgt := 22) hx hb dX10_isEven_18 (by decide) ?_
      subst hQe
      exact W.zret (ty := .boolean) (v := (1 : Int32)) hx hb hr rfl (fun t ht hW => ⟨⟨(1 : Int32), q1.2, rfl, (Option.some.inj hR).symm, by rw [ht]; exact hP1, va_K.moved hW.alike hK, hD1⟩, hS1.F ht⟩) hS1.2.2 dX10_isEven_22
def rr_X10_least_73 (fu : Nat) (rec39 : Int32 → Int32 → Int32 → Int32 → Int32 → ZT_10 → Option (Int32 × ZT_10)) (y1 : Int32) (y2 : Int32) (y3 : Int32) (y4 : Int32) (y5 : Int32) (w0 : Int32) (u1 : ZT_10) : Option (Int32 × ZT_10) := (rr_X10_bringBack fu u1).bind (fun q15 => (if w0 = (0 : Int32) then lt_ (α := Int32) (y5 + (1 : Int32)) (fun z17 => rec39 y1 y2 y3 y4 z17 q15) else some (y5, q15)))
def rr_X10_least_72 (fu : Nat) (rec39 : Int32 → Int32 → Int32 → Int32 → Int32 → ZT_10 → Option (Int32 × ZT_10)) (y1 : Int32) (y2 : Int32) (y3 : Int32) (y4 : Int32) (y5 : Int32) (u1 : ZT_10) : Option (Int32 × ZT_10) := rr_X10_least_73 fu rec39 y1 y2 y3 y4 y5 (0 : Int32) u1
def rr_X10_least_39_b (fu : Nat) (rec39 : Int32 → Int32 → Int32 → Int32 → Int32 → ZT_10 → Option (Int32 × ZT_10)) (y1 : Int32) (y2 : Int32) (y3 : Int32) (y4 : Int32) (y5 : Int32) (u1 : ZT_10) : Option (Int32 × ZT_10) := (if (100 : Int32) ≤ y5 then some ((-4 : Int32), u1) else (rr_X10_doBill fu y1 y2 y5 u1).bind (fun q10 => (if q10.1 = (0 : Int32) then rr_X10_least_72 fu rec39 y1 y2 y3 y4 y5 q10.2 else (rr_X10_isEven fu y1 y3 y4 q10.2).bind (fun q12 => (if q12.1 = (0 : Int32) then rr_X10_least_72 fu rec39 y1 y2 y3 y4 y5 q12.2 else rr_X10_least_73 fu rec39 y1 y2 y3 y4 y5 (1 : Int32) q12.2)))))
def rr_X10_least_39 (fu : Nat) (n : Nat) : Int32 → Int32 → Int32 → Int32 → Int32 → ZT_10 → Option (Int32 × ZT_10) := lp_ (fun _ _ _ _ _ _ => none) (rr_X10_least_39_b fu) n
def rr_X10_least (fu : Nat) (x1 : Int32) (x2 : Int32) (x3 : Int32) (x4 : Int32) (s1 : ZT_10) : Option (Int32 × ZT_10) := (rr_X10_isBill fu x1 x2 x4).bind (fun q1 => (if q1 = (0 : Int32) then some ((-1 : Int32), s1) else (rr_X10_isShop fu x3).bind (fun q3 => (if q3 = (0 : Int32) then some ((-1 : Int32), s1) else (rr_X10_isEven fu x1 x3 x4 s1).bind (fun q5 => (if q5.1 = (0 : Int32) then (rr_X10_keep fu q5.2).bind (fun q7 => rr_X10_least_39 fu fu x1 x2 x3 x4 (1 : Int32) q7) else some ((0 : Int32), q5.2)))))))
set_option maxHeartbeats 4000000 in
set_option maxRecDepth 100000 in
theorem cc_X10_least (l : Launch) (dC : Nat → ClassId) (dI : Nat → Nat → Nat) (fu : Nat) (a1 : Nat → Nat) (k1 : Nat → ClassId) (sz : Nat) (x1 : Int32) (x2 : Int32) (x3 : Int32) (x4 : Int32) (s1 : ZT_10) (res : Int32 × ZT_10) (hR : rr_X10_least fu x1 x2 x3 x4 s1 = some res) : Met l yX10_least wsX10_least ({ frames := 6, cells := 0, slots := 0, locals := 139 } : Room) (PcF [.ref (a1 0), .int x1, .int x2, .int x3, .int x4] sz (dC, dI) (zc_10 a1 k1 s1) (zt_10 k1)) (va_Qi (fun (r : Int32) (u : ZT_10) => res = (r, u)) (fun u t => at3_ (dC, dI) (zc_10 a1 k1 u) (zt_10 k1) (va_A (zc_10 a1 k1 s1) sz) t) (va_A (zc_10 a1 k1 s1) sz)) 0 0 (va_A (zc_10 a1 k1 s1) sz) := by
  refine Met.ofW (cc := cX10_least) (maxL := 7) (ret := (some .int)) (by decide) rfl ?_
  intro p e s m args below meth c s₁ B hml hv
  obtain ⟨hav, hsz, hP, hK, hD0⟩ := hv
  have hx := B.exec
  have hb := B.bytes
  have hr := B.returns
  have hts := atoms_spec (ws := wsX10_least) B.pre
  have hown : s.vm.findClass RX10 = some m.cls := findClass_of_methodNamed B.named
  have hlocks := B.notSynchronized
  subst hsz
  have hD := hD0.self (sz := s.heap.size)
  clear hD0
  generalize hAe : va_A (zc_10 a1 k1 s1) s.heap.size = A at hD ⊢
  have hA : ∀ q : Nat, s.heap.size ≤ q → A q := fun q h => by rw [← hAe]; exact Or.inr h
  have hS : va_S A s.heap s.heap [] := va_S.rf
  generalize hQe : MQ below _ args s 0 0 A = Q
  rw [show entryFrame m args 7 = F0 m 0 ((lg_sl ([.ref (a1 0), .int x1, .int x2, .int x3, .int x4]) ++ List.replicate (7 - (lg_sl ([.ref (a1 0), .int x1, .int x2, .int x3, .int x4])).length) Slot.unset).toArray) [] from by rw [hav]; exact lg_entry_eq m _ _]
  have hl := lv_entry ([.ref (a1 0), .int x1, .int x2, .int x3, .int x4]) (n := 7) (Nat.le_of_ble_eq_true rfl)
  generalize (lg_sl ([.ref (a1 0), .int x1, .int x2, .int x3, .int x4]) ++ List.replicate (7 - (lg_sl ([.ref (a1 0), .int x1, .int x2, .int x3, .int x4])).length) Slot.unset).toArray = ls at hl ⊢
  have hl : lv_has ls 7 [(0, .ref (a1 0)), (1, .int x1), (2, .int x2), (3, .int x3), (4, .int x4)] := hl
  have hB73 : ∀ (rec39 : Int32 → Int32 → Int32 → Int32 → Int32 → ZT_10 → Option (Int32 × ZT_10)) (hrec39 : ∀ (y1 : Int32) (y2 : Int32) (y3 : Int32) (y4 : Int32) (y5 : Int32) (u1 : ZT_10) (H : Heap) (locs : List Loc) (ls : Array Slot), va_P (dC, dI) vwCl (zc_10 a1 k1 u1) H → va_D A (zc_10 a1 k1 u1) → va_S A s.heap H locs → lv_has ls 7 [(0, .ref (a1 0)), (1, .int y1), (2, .int y2), (3, .int y3), (4, .int y4), (5, .int y5)] → rec39 y1 y2 y3 y4 y5 u1 = some res → W p l e ({ frames := 6, cells := 0, slots := 0, locals := 139 } : Room) s m args below meth c H locs 0 0 Q (F0 m 39 ls [])), ∀ (y1 : Int32) (y2 : Int32) (y3 : Int32) (y4 : Int32) (y5 : Int32) (w0 : Int32) (u1 : ZT_10) (H : Heap) (locs : List Loc) (ls : Array Slot), va_P (dC, dI) vwCl (zc_10 a1 k1 u1) H → va_D A (zc_10 a1 k1 u1) → va_S A s.heap H locs → lv_has ls 7 [(0, .ref (a1 0)), (1, .int y1), (2, .int y2), (3, .int y3), (4, .int y4), (5, .int y5)] → rr_X10_least_73 fu rec39 y1 y2 y3 y4 y5 w0 u1 = some res → W p l e ({ frames := 6, cells := 0, slots := 0, locals := 139 } : Room) s m args below meth c H locs 0 0 Q (F0 m 73 ls [.int w0]) := by
    intro rec39 hrec39 y1 y2 y3 y4 y5 w0 u1 H locs ls hP hD hS hl hR
    unfold rr_X10_least_73 at hR
    refine lv_istore (lv' := [(6, .int w0), (0, .ref (a1 0)), (1, .int y1), (2, .int y2), (3, .int y3), (4, .int y4), (5, .int y5)]) hx hb dX10_least_73 hl (by decide) rfl (fun ls14 hl14 => ?_)
    refine lv_aload_n hx hb dX10_least_75 rfl (lv_at hl14 1 rfl) ?_
    have hR0 := ob_ok hR
    clear hR
    obtain ⟨q15, hq15, hR⟩ := hR0
    refine va_callv (va_runV (As := []) (rest := []) ⟨hx, hb, hml, hown, hts⟩ (cc_X10_bringBack l dC dI fu a1 k1 H.size u1 q15 hq15) (cwV 0 hts gX10_least_X10_bringBack rfl rfl rfl (by decide +kernel) ⟨Nat.le_of_ble_eq_true rfl, Nat.le_of_ble_eq_true rfl⟩) (pf_v hK hP hD 10 0 rfl rfl rfl) rfl rfl hl14.1 rfl (lv_room (Nat.le_of_ble_eq_true rfl)) dX10_least_76 ⟨Nat.le_refl _, Nat.le_refl _⟩) hS (fun q _ h => (fr_all hD hS hA) q h) (fr_all hD hS hA) (fun v15 t15 H15 locs15 ht15 hvm15 hw15 hB15 hz15 hk15 hS15 => ?_)
    subst hw15
    obtain ⟨hP15, hD15⟩ := jn_all hD hS hA ht15 hB15
    have hP15 : va_P (dC, dI) vwCl (zc_10 a1 k1 q15) H15 := hP15
    have hD15 : va_D A (zc_10 a1 k1 q15) := hD15
    clear hP hD hS hB15 hk15 hvm15 hz15 ht15
    refine lv_iload hx hb dX10_least_79 (lv_at hl14 0 rfl) ?_
    refine lv_if_eq (tgt := 87) hx hb dX10_least_81 (by decide) (fun c16 => ?_) (fun c16 => ?_)
    · replace hR := ifp_ hR c16
      obtain ⟨z17, ez17⟩ : ∃ y : Int32, y = (y5 + (1 : Int32)) := ⟨_, rfl⟩
      replace hR := lt_ok hR ez17
      refine lv_iinc (v := z17) (lv' := [(5, .int z17), (6, .int w0), (0, .ref (a1 0)), (1, .int y1), (2, .int y2), (3, .int y3), (4, .int y4)]) hx hb dX10_least_87 hl14 (k := 6) rfl (by rw [ez17]; rfl) (by decide) rfl (fun ls17 hl17 => ?_)
      refine lv_goto (tgt := 39) hx hb dX10_least_90 (by decide) ?_
      exact hrec39 y1 y2 y3 y4 z17 q15 H15 locs15 ls17 hP15 hD15 hS15 (lv_sub hl17 [2, 3, 4, 5, 6, 0] rfl) hR
    · replace hR := ifn_ hR c16
      refine lv_iload hx hb dX10_least_84 (lv_at hl14 6 rfl) ?_
      subst hQe
      exact W.iret (v := y5) hx hb hr (fun t ht hW => ⟨⟨y5, q15, rfl, (Option.some.inj hR).symm, by rw [ht]; exact hP15, va_K.moved hW.alike hK, hD15⟩, hS15.F ht⟩) hS15.2.2 dX10_least_86
  have hB72 : ∀ (rec39 : Int32 → Int32 → Int32 → Int32 → Int32 → ZT_10 → Option (Int32 × ZT_10)) (hrec39 : ∀ (y1 : Int32) (y2 : Int32) (y3 : Int32) (y4 : Int32) (y5 : Int32) (u1 : ZT_10) (H : Heap) (locs : List Loc) (ls : Array Slot), va_P (dC, dI) vwCl (zc_10 a1 k1 u1) H → va_D A (zc_10 a1 k1 u1) → va_S A s.heap H locs → lv_has ls 7 [(0, .ref (a1 0)), (1, .int y1), (2, .int y2), (3, .int y3), (4, .int y4), (5, .int y5)] → rec39 y1 y2 y3 y4 y5 u1 = some res → W p l e ({ frames := 6, cells := 0, slots := 0, locals := 139 } : Room) s m args below meth c H locs 0 0 Q (F0 m 39 ls [])), ∀ (y1 : Int32) (y2 : Int32) (y3 : Int32) (y4 : Int32) (y5 : Int32) (u1 : ZT_10) (H : Heap) (locs : List Loc) (ls : Array Slot), va_P (dC, dI) vwCl (zc_10 a1 k1 u1) H → va_D A (zc_10 a1 k1 u1) → va_S A s.heap H locs → lv_has ls 7 [(0, .ref (a1 0)), (1, .int y1), (2, .int y2), (3, .int y3), (4, .int y4), (5, .int y5)] → rr_X10_least_72 fu rec39 y1 y2 y3 y4 y5 u1 = some res → W p l e ({ frames := 6, cells := 0, slots := 0, locals := 139 } : Room) s m args below meth c H locs 0 0 Q (F0 m 72 ls []) := by
    intro rec39 hrec39 y1 y2 y3 y4 y5 u1 H locs ls hP hD hS hl hR
    unfold rr_X10_least_72 at hR
    refine lv_iconst (v := (0 : Int32)) hx hb dX10_least_72 (by decide) ?_
    exact hB73 rec39 hrec39 y1 y2 y3 y4 y5 (0 : Int32) u1 H locs ls hP hD hS (lv_sub hl [0, 1, 2, 3, 4, 5] rfl) hR
  have hB39 : ∀ (n : Nat), ∀ (y1 : Int32) (y2 : Int32) (y3 : Int32) (y4 : Int32) (y5 : Int32) (u1 : ZT_10) (H : Heap) (locs : List Loc) (ls : Array Slot), va_P (dC, dI) vwCl (zc_10 a1 k1 u1) H → va_D A (zc_10 a1 k1 u1) → va_S A s.heap H locs → lv_has ls 7 [(0, .ref (a1 0)), (1, .int y1), (2, .int y2), (3, .int y3), (4, .int y4), (5, .int y5)] → rr_X10_least_39 fu n y1 y2 y3 y4 y5 u1 = some res → W p l e ({ frames := 6, cells := 0, slots := 0, locals := 139 } : Room) s m args below meth c H locs 0 0 Q (F0 m 39 ls []) := by
    intro  n
    induction n with
    | zero => intro y1 y2 y3 y4 y5 u1 H locs ls hP hD hS hl hR; exact absurd hR (by intro h; cases h)
    | succ n ih =>
      intro y1 y2 y3 y4 y5 u1 H locs ls hP hD hS hl hR
      replace hR : rr_X10_least_39_b fu (rr_X10_least_39 fu n) y1 y2 y3 y4 y5 u1 = some res := hR
      unfold rr_X10_least_39_b at hR
      refine lv_iload hx hb dX10_least_39 (lv_at hl 5 rfl) ?_
      refine lv_bipush (v := (100 : Int32)) hx hb dX10_least_41 (by decide) ?_
      refine lv_icmp_ge (tgt := 93) hx hb dX10_least_43 (by decide) (fun c9 => ?_) (fun c9 => ?_)
      · replace hR := ifp_ hR c9
        refine lv_bipush (v := (-4 : Int32)) hx hb dX10_least_93 (by decide) ?_
        subst hQe
        exact W.iret (v := (-4 : Int32)) hx hb hr (fun t ht hW => ⟨⟨(-4 : Int32), u1, rfl, (Option.some.inj hR).symm, by rw [ht]; exact hP, va_K.moved hW.alike hK, hD⟩, hS.F ht⟩) hS.2.2 dX10_least_95
      · replace hR := ifn_ hR c9
        refine lv_aload_n hx hb dX10_least_46 rfl (lv_at hl 0 rfl) ?_
        refine lv_iload_n hx hb dX10_least_47 rfl (lv_at hl 1 rfl) ?_
        refine lv_iload_n hx hb dX10_least_48 rfl (lv_at hl 2 rfl) ?_
        refine lv_iload hx hb dX10_least_49 (lv_at hl 5 rfl) ?_
        have hR0 := ob_ok hR
        clear hR
        obtain ⟨q10, hq10, hR⟩ := hR0
        refine va_calli (va_runV (As := [.int y1, .int y2, .int y5]) (rest := []) ⟨hx, hb, hml, hown, hts⟩ (cc_X10_doBill l dC dI fu a1 k1 H.size y1 y2 y5 u1 q10 hq10) (cwV 3 hts gX10_least_X10_doBill rfl rfl rfl (by decide +kernel) ⟨Nat.le_of_ble_eq_true rfl, Nat.le_of_ble_eq_true rfl⟩) (pf_v hK hP hD 10 0 rfl rfl rfl) rfl rfl hl.1 rfl (lv_room (Nat.le_of_ble_eq_true rfl)) dX10_least_51 ⟨Nat.le_refl _, Nat.le_refl _⟩) hS (fun q _ h => (fr_all hD hS hA) q h) (fr_all hD hS hA) (fun r10 v10 t10 H10 locs10 ht10 hvm10 hw10 hB10 hz10 hk10 hS10 => ?_)
        obtain rfl : r10 = q10.1 := (congrArg Prod.fst hw10).symm
        obtain rfl : v10 = q10.2 := (congrArg Prod.snd hw10).symm
        obtain ⟨hP10, hD10⟩ := jn_all hD hS hA ht10 hB10
        have hP10 : va_P (dC, dI) vwCl (zc_10 a1 k1 q10.2) H10 := hP10
        have hD10 : va_D A (zc_10 a1 k1 q10.2) := hD10
        clear hP hD hS hB10 hk10 hvm10 hz10 ht10
        refine lv_if_eq (tgt := 72) hx hb dX10_least_54 (by decide) (fun c11 => ?_) (fun c11 => ?_)
        · replace hR := ifp_ hR c11
          exact hB72 (rr_X10_least_39 fu n) ih y1 y2 y3 y4 y5 q10.2 H10 locs10 ls hP10 hD10 hS10 (lv_sub hl [0, 1, 2, 3, 4, 5] rfl) hR
        · replace hR := ifn_ hR c11
          refine lv_aload_n hx hb dX10_least_57 rfl (lv_at hl 0 rfl) ?_
          refine lv_iload_n hx hb dX10_least_58 rfl (lv_at hl 1 rfl) ?_
          refine lv_iload_n hx hb dX10_least_59 rfl (lv_at hl 3 rfl) ?_
          refine lv_iload hx hb dX10_least_60 (lv_at hl 4 rfl) ?_
          have hR0 := ob_ok hR
          clear hR
          obtain ⟨q12, hq12, hR⟩ := hR0
          refine va_calli (va_runV (As := [.int y1, .int y3, .int y4]) (rest := []) ⟨hx, hb, hml, hown, hts⟩ (cc_X10_isEven l dC dI fu a1 k1 H10.size y1 y3 y4 q10.2 q12 hq12) (cwV 3 hts gX10_least_X10_isEven rfl rfl rfl (by decide +kernel) ⟨Nat.le_of_ble_eq_true rfl, Nat.le_of_ble_eq_true rfl⟩) (pf_v hK hP10 hD10 10 0 rfl rfl rfl) rfl rfl hl.1 rfl (lv_room (Nat.le_of_ble_eq_true rfl)) dX10_least_62 ⟨Nat.le_refl _, Nat.le_refl _⟩) hS10 (fun q _ h => (fr_all hD10 hS10 hA) q h) (fr_all hD10 hS10 hA) (fun r12 v12 t12 H12 locs12 ht12 hvm12 hw12 hB12 hz12 hk12 hS12 => ?_)
          obtain rfl : r12 = q12.1 := (congrArg Prod.fst hw12).symm
          obtain rfl : v12 = q12.2 := (congrArg Prod.snd hw12).symm
          obtain ⟨hP12, hD12⟩ := jn_all hD10 hS10 hA ht12 hB12
          have hP12 : va_P (dC, dI) vwCl (zc_10 a1 k1 q12.2) H12 := hP12
          have hD12 : va_D A (zc_10 a1 k1 q12.2) := hD12
          clear hP10 hD10 hS10 hB12 hk12 hvm12 hz12 ht12
          refine lv_if_eq (tgt := 72) hx hb dX10_least_65 (by decide) (fun c13 => ?_) (fun c13 => ?_)
          · replace hR := ifp_ hR c13
            exact hB72 (rr_X10_least_39 fu n) ih y1 y2 y3 y4 y5 q12.2 H12 locs12 ls hP12 hD12 hS12 (lv_sub hl [0, 1, 2, 3, 4, 5] rfl) hR
          · replace hR := ifn_ hR c13
            refine lv_iconst (v := (1 : Int32)) hx hb dX10_least_68 (by decide) ?_
            refine lv_goto (tgt := 73) hx hb dX10_least_69 (by decide) ?_
            exact hB73 (rr_X10_least_39 fu n) ih y1 y2 y3 y4 y5 (1 : Int32) q12.2 H12 locs12 ls hP12 hD12 hS12 (lv_sub hl [0, 1, 2, 3, 4, 5] rfl) hR
  unfold rr_X10_least at hR
  refine lv_iload_n hx hb dX10_least_0 rfl (lv_at hl 1 rfl) ?_
  refine lv_iload_n hx hb dX10_least_1 rfl (lv_at hl 2 rfl) ?_
  refine lv_iload hx hb dX10_least_2 (lv_at hl 4 rfl) ?_
  have hR0 := ob_ok hR
  clear hR
  obtain ⟨q1, hq1, hR⟩ := hR0
  refine va_calli (va_runS (As := [.int x1, .int x2, .int x4]) (rest := []) ⟨hx, hb, hml, hown, hts⟩ (cc_X10_isBill l dC dI fu s.heap.size x1 x2 x4 q1 hq1) (va_cwS 3 hts gX10_least_X10_isBill rfl rfl rfl (by decide +kernel) ⟨Nat.le_of_ble_eq_true rfl, Nat.le_of_ble_eq_true rfl⟩) (pf_s (nil_K hK) nil_P (nil_D (A := A))) rfl rfl hl.1 rfl (lv_room (Nat.le_of_ble_eq_true rfl)) dX10_least_4 ⟨Nat.le_refl _, Nat.le_refl _⟩) hS (fun q _ h => (fr_none hS hA) q h) (fr_none hS hA) (fun r1 v1 t1 H1 locs1 ht1 hvm1 hw1 hB1 hz1 hk1 hS1 => ?_)
  subst hw1
  have hP1 := jn_none hP hk1
  have hD1 := hD
  have hP1 : va_P (dC, dI) vwCl (zc_10 a1 k1 s1) H1 := hP1
  have hD1 : va_D A (zc_10 a1 k1 s1) := hD1
  clear hP hD hS hB1 hk1 hvm1 hz1 ht1
  refine lv_if_eq (tgt := 17) hx hb dX10_least_7 (by decide) (fun c2 => ?_) (fun c2 => ?_)
  · replace hR := ifp_ hR c2
    refine lv_iconst (v := (-1 : Int32)) hx hb dX10_least_17 (by decide) ?_
    subst hQe
    exact W.iret (v := (-1 : Int32)) hx hb hr (fun t ht hW => ⟨⟨(-1 : Int32), s1, rfl, (Option.some.inj hR).symm, by rw [ht]; exact hP1, va_K.moved hW.alike hK, hD1⟩, hS1.F ht⟩) hS1.2.2 dX10_least_18
  · replace hR := ifn_ hR c2
    refine lv_iload_n hx hb dX10_least_10 rfl (lv_at hl 3 rfl) ?_
    have hR0 := ob_ok hR
    clear hR
    obtain ⟨q3, hq3, hR⟩ := hR0
    refine va_calli (va_runS (As := [.int x3]) (rest := []) ⟨hx, hb, hml, hown, hts⟩ (cc_X10_isShop l dC dI fu H1.size x3 q3 hq3) (va_cwS 1 hts gX10_least_X10_isShop rfl rfl rfl (by decide +kernel) ⟨Nat.le_of_ble_eq_true rfl, Nat.le_of_ble_eq_true rfl⟩) (pf_s (nil_K hK) nil_P (nil_D (A := A))) rfl rfl hl.1 rfl (lv_room (Nat.le_of_ble_eq_true rfl)) dX10_least_11 ⟨Nat.le_refl _, Nat.le_refl _⟩) hS1 (fun q _ h => (fr_none hS1 hA) q h) (fr_none hS1 hA) (fun r3 v3 t3 H3 locs3 ht3 hvm3 hw3 hB3 hz3 hk3 hS3 => ?_)
    subst hw3
    have hP3 := jn_none hP1 hk3
    have hD3 := hD1
    have hP3 : va_P (dC, dI) vwCl (zc_10 a1 k1 s1) H3 := hP3
    have hD3 : va_D A (zc_10 a1 k1 s1) := hD3
    clear hP1 hD1 hS1 hB3 hk3 hvm3 hz3 ht3
    refine lv_if_ne (tgt := 19) hx hb dX10_least_14 (by decide) (fun c4 => ?_) (fun c4 => ?_)
    · replace hR := ifn_ hR c4
      refine lv_aload_n hx hb dX10_least_19 rfl (lv_at hl 0 rfl) ?_
      refine lv_iload_n hx hb dX10_least_20 rfl (lv_at hl 1 rfl) ?_
      refine lv_iload_n hx hb dX10_least_21 rfl (lv_at hl 3 rfl) ?_
      refine lv_iload hx hb dX10_least_22 (lv_at hl 4 rfl) ?_
      have hR0 := ob_ok hR
      clear hR
      obtain ⟨q5, hq5, hR⟩ := hR0
      refine va_calli (va_runV (As := [.int x1, .int x3, .int x4]) (rest := []) ⟨hx, hb, hml, hown, hts⟩ (cc_X10_isEven l dC dI fu a1 k1 H3.size x1 x3 x4 s1 q5 hq5) (cwV 3 hts gX10_least_X10_isEven rfl rfl rfl (by decide +kernel) ⟨Nat.le_of_ble_eq_true rfl, Nat.le_of_ble_eq_true rfl⟩) (pf_v hK hP3 hD3 10 0 rfl rfl rfl) rfl rfl hl.1 rfl (lv_room (Nat.le_of_ble_eq_true rfl)) dX10_least_24 ⟨Nat.le_refl _, Nat.le_refl _⟩) hS3 (fun q _ h => (fr_all hD3 hS3 hA) q h) (fr_all hD3 hS3 hA) (fun r5 v5 t5 H5 locs5 ht5 hvm5 hw5 hB5 hz5 hk5 hS5 => ?_)
      obtain rfl : r5 = q5.1 := (congrArg Prod.fst hw5).symm
      obtain rfl : v5 = q5.2 := (congrArg Prod.snd hw5).symm
      obtain ⟨hP5, hD5⟩ := jn_all hD3 hS3 hA ht5 hB5
      have hP5 : va_P (dC, dI) vwCl (zc_10 a1 k1 q5.2) H5 := hP5
      have hD5 : va_D A (zc_10 a1 k1 q5.2) := hD5
      clear hP3 hD3 hS3 hB5 hk5 hvm5 hz5 ht5
      refine lv_if_eq (tgt := 32) hx hb dX10_least_27 (by decide) (fun c6 => ?_) (fun c6 => ?_)
      · replace hR := ifp_ hR c6
        refine lv_aload_n hx hb dX10_least_32 rfl (lv_at hl 0 rfl) ?_
        have hR0 := ob_ok hR
        clear hR
        obtain ⟨q7, hq7, hR⟩ := hR0
        refine va_callv (va_runV (As := []) (rest := []) ⟨hx, hb, hml, hown, hts⟩ (cc_X10_keep l dC dI fu a1 k1 H5.size q5.2 q7 hq7) (cwV 0 hts gX10_least_X10_keep rfl rfl rfl (by decide +kernel) ⟨Nat.le_of_ble_eq_true rfl, Nat.le_of_ble_eq_true rfl⟩) (pf_v hK hP5 hD5 10 0 rfl rfl rfl) rfl rfl hl.1 rfl (lv_room (Nat.le_of_ble_eq_true rfl)) dX10_least_33 ⟨Nat.le_refl _, Nat.le_refl _⟩) hS5 (fun q _ h => (fr_all hD5 hS5 hA) q h) (fr_all hD5 hS5 hA) (fun v7 t7 H7 locs7 ht7 hvm7 hw7 hB7 hz7 hk7 hS7 => ?_)
        subst hw7
        obtain ⟨hP7, hD7⟩ := jn_all hD5 hS5 hA ht7 hB7
        have hP7 : va_P (dC, dI) vwCl (zc_10 a1 k1 q7) H7 := hP7
        have hD7 : va_D A (zc_10 a1 k1 q7) := hD7
        clear hP5 hD5 hS5 hB7 hk7 hvm7 hz7 ht7
        refine lv_iconst (v := (1 : Int32)) hx hb dX10_least_36 (by decide) ?_
        refine lv_istore (lv' := [(5, .int (1 : Int32)), (0, .ref (a1 0)), (1, .int x1), (2, .int x2), (3, .int x3), (4, .int x4)]) hx hb dX10_least_37 hl (by decide) rfl (fun ls8 hl8 => ?_)
        exact hB39 fu x1 x2 x3 x4 (1 : Int32) q7 H7 locs7 ls8 hP7 hD7 hS7 (lv_sub hl8 [1, 2, 3, 4, 5, 0] rfl) hR
      · replace hR := ifn_ hR c6
        refine lv_iconst (v := (0 : Int32)) hx hb dX10_least_30 (by decide) ?_
        subst hQe
        exact W.iret (v := (0 : Int32)) hx hb hr (fun t ht hW => ⟨⟨(0 : Int32), q5.2, rfl, (Option.some.inj hR).symm, by rw [ht]; exact hP5, va_K.moved hW.alike hK, hD5⟩, hS5.F ht⟩) hS5.2.2 dX10_least_31
    · replace hR := ifp_ hR c4
      refine lv_iconst (v := (-1 : Int32)) hx hb dX10_least_17 (by decide) ?_
      subst hQe
      exact W.iret (v := (-1 : Int32)) hx hb hr (fun t ht hW => ⟨⟨(-1 : Int32), s1, rfl, (Option.some.inj hR).symm, by rw [ht]; exact hP3, va_K.moved hW.alike hK, hD3⟩, hS3.F ht⟩) hS3.2.2 dX10_least_18
def rr_X10_even_76 (fu : Nat) (rec31 : Int32 → Int32 → Int32 → Int32 → ZT_10 → Option (Int32 × ZT_10)) (y2 : Int32) (y3 : Int32) (y4 : Int32) (y5 : Int32) (u1 : ZT_10) : Option (Int32 × ZT_10) := lt_ (α := Int32) (y5 + (1 : Int32)) (fun z17 => rec31 y2 y3 y4 z17 u1)
def rr_X10_even_31_b (fu : Nat) (rec31 : Int32 → Int32 → Int32 → Int32 → ZT_10 → Option (Int32 × ZT_10)) (y2 : Int32) (y3 : Int32) (y4 : Int32) (y5 : Int32) (u1 : ZT_10) : Option (Int32 × ZT_10) := (if u1.2.2.2.1.2 ≤ y5 then (if (0 : Int32) ≤ y2 then some ((-4 : Int32), u1) else some (y3, u1)) else ck_ y5 40 (ck_ (u1.2.2.2.1.1 y5.toNatClampNeg) 40 (lt_ (α := Int32) (y4 + (u1.1.1 (u1.2.2.2.1.1 y5.toNatClampNeg).toNatClampNeg)) (fun z12 => (if (999 : Int32) < z12 then rr_X10_even_76 fu rec31 y2 y3 z12 y5 u1 else (if y3 = y2 then some (z12, u1) else lt_ (α := Int32) (y3 + (1 : Int32)) (fun z16 => rr_X10_even_76 fu rec31 y2 z16 z12 y5 u1)))))))
def rr_X10_even_31 (fu : Nat) (n : Nat) : Int32 → Int32 → Int32 → Int32 → ZT_10 → Option (Int32 × ZT_10) := lp_ (fun _ _ _ _ _ => none) (rr_X10_even_31_b fu) n
def rr_X10_even (fu : Nat) (x1 : Int32) (x2 : Int32) (s1 : ZT_10) : Option (Int32 × ZT_10) := (rr_X10_isPurse fu x1).bind (fun q1 => (if q1 = (0 : Int32) then some ((-1 : Int32), s1) else (if (-1 : Int32) ≤ x2 then (rr_X10_findRow fu x1 s1.1.2.2.2.2.2.2 s1).bind (fun q4 => rr_X10_even_31 fu fu x2 (0 : Int32) (0 : Int32) (0 : Int32) q4) else some ((-1 : Int32), s1))))
set_option maxHeartbeats 4000000 in
set_option maxRecDepth 100000 in
theorem cc_X10_even (l : Launch) (dC : Nat → ClassId) (dI : Nat → Nat → Nat) (fu : Nat) (a1 : Nat → Nat) (k1 : Nat → ClassId) (sz : Nat) (x1 : Int32) (x2 : Int32) (s1 : ZT_10) (res : Int32 × ZT_10) (hR : rr_X10_even fu x1 x2 s1 = some res) : Met l yX10_even wsX10_even ({ frames := 4, cells := 0, slots := 0, locals := 91 } : Room) (PcF [.ref (a1 0), .int x1, .int x2] sz (dC, dI) (zc_10 a1 k1 s1) (zt_10 k1)) (va_Qi (fun (r : Int32) (u : ZT_10) => res = (r, u)) (fun u t => at3_ (dC, dI) (zc_10 a1 k1 u) (zt_10 k1) (va_A (zc_10 a1 k1 s1) sz) t) (va_A (zc_10 a1 k1 s1) sz)) 0 0 (va_A (zc_10 a1 k1 s1) sz) := by
  refine Met.ofW (cc := cX10_even) (maxL := 6) (ret := (some .int)) (by decide) rfl ?_
  intro p e s m args below meth c s₁ B hml hv
  obtain ⟨hav, hsz, hP, hK, hD0⟩ := hv
  have hx := B.exec
  have hb := B.bytes
  have hr := B.returns
  have hts := atoms_spec (ws := wsX10_even) B.pre
  have hown : s.vm.findClass RX10 = some m.cls := findClass_of_methodNamed B.named
  have hlocks := B.notSynchronized
  have hin10 : ∀ w ∈ wsX100, w ∈ wsX10_even := fun w h => List.mem_cons_of_mem _ (List.mem_append_right _ h)
  subst hsz
  have hD := hD0.self (sz := s.heap.size)
  clear hD0
  generalize hAe : va_A (zc_10 a1 k1 s1) s.heap.size = A at hD ⊢
  have hA : ∀ q : Nat, s.heap.size ≤ q → A q := fun q h => by rw [← hAe]; exact Or.inr h
  have hS : va_S A s.heap s.heap [] := va_S.rf
  generalize hQe : MQ below _ args s 0 0 A = Q
  rw [show entryFrame m args 6 = F0 m 0 ((lg_sl ([.ref (a1 0), .int x1, .int x2]) ++ List.replicate (6 - (lg_sl ([.ref (a1 0), .int x1, .int x2])).length) Slot.unset).toArray) [] from by rw [hav]; exact lg_entry_eq m _ _]
  have hl := lv_entry ([.ref (a1 0), .int x1, .int x2]) (n := 6) (Nat.le_of_ble_eq_true rfl)
  generalize (lg_sl ([.ref (a1 0), .int x1, .int x2]) ++ List.replicate (6 - (lg_sl ([.ref (a1 0), .int x1, .int x2])).length) Slot.unset).toArray = ls at hl ⊢
  have hl : lv_has ls 6 [(0, .ref (a1 0)), (1, .int x1), (2, .int x2)] := hl
  have hB76 : ∀ (rec31 : Int32 → Int32 → Int32 → Int32 → ZT_10 → Option (Int32 × ZT_10)) (hrec31 : ∀ (y2 : Int32) (y3 : Int32) (y4 : Int32) (y5 : Int32) (u1 : ZT_10) (H : Heap) (locs : List Loc) (ls : Array Slot), va_P (dC, dI) vwCl (zc_10 a1 k1 u1) H → va_D A (zc_10 a1 k1 u1) → va_S A s.heap H locs → lv_has ls 6 [(0, .ref (a1 0)), (2, .int y2), (3, .int y3), (4, .int y4), (5, .int y5)] → rec31 y2 y3 y4 y5 u1 = some res → W p l e ({ frames := 4, cells := 0, slots := 0, locals := 91 } : Room) s m args below meth c H locs 0 0 Q (F0 m 31 ls [])), ∀ (y2 : Int32) (y3 : Int32) (y4 : Int32) (y5 : Int32) (u1 : ZT_10) (H : Heap) (locs : List Loc) (ls : Array Slot), va_P (dC, dI) vwCl (zc_10 a1 k1 u1) H → va_D A (zc_10 a1 k1 u1) → va_S A s.heap H locs → lv_has ls 6 [(0, .ref (a1 0)), (2, .int y2), (3, .int y3), (4, .int y4), (5, .int y5)] → rr_X10_even_76 fu rec31 y2 y3 y4 y5 u1 = some res → W p l e ({ frames := 4, cells := 0, slots := 0, locals := 91 } : Room) s m args below meth c H locs 0 0 Q (F0 m 76 ls []) := by
    intro rec31 hrec31 y2 y3 y4 y5 u1 H locs ls hP hD hS hl hR
    unfold rr_X10_even_76 at hR
    obtain ⟨z17, ez17⟩ : ∃ y : Int32, y = (y5 + (1 : Int32)) := ⟨_, rfl⟩
    replace hR := lt_ok hR ez17
    refine lv_iinc (v := z17) (lv' := [(5, .int z17), (0, .ref (a1 0)), (2, .int y2), (3, .int y3), (4, .int y4)]) hx hb dX10_even_76 hl (k := 4) rfl (by rw [ez17]; rfl) (by decide) rfl (fun ls17 hl17 => ?_)
    refine lv_goto (tgt := 31) hx hb dX10_even_79 (by decide) ?_
    exact hrec31 y2 y3 y4 z17 u1 H locs ls17 hP hD hS (lv_sub hl17 [1, 2, 3, 4, 0] rfl) hR
  have hB31 : ∀ (n : Nat), ∀ (y2 : Int32) (y3 : Int32) (y4 : Int32) (y5 : Int32) (u1 : ZT_10) (H : Heap) (locs : List Loc) (ls : Array Slot), va_P (dC, dI) vwCl (zc_10 a1 k1 u1) H → va_D A (zc_10 a1 k1 u1) → va_S A s.heap H locs → lv_has ls 6 [(0, .ref (a1 0)), (2, .int y2), (3, .int y3), (4, .int y4), (5, .int y5)] → rr_X10_even_31 fu n y2 y3 y4 y5 u1 = some res → W p l e ({ frames := 4, cells := 0, slots := 0, locals := 91 } : Room) s m args below meth c H locs 0 0 Q (F0 m 31 ls []) := by
    intro  n
    induction n with
    | zero => intro y2 y3 y4 y5 u1 H locs ls hP hD hS hl hR; exact absurd hR (by intro h; cases h)
    | succ n ih =>
      intro y2 y3 y4 y5 u1 H locs ls hP hD hS hl hR
      replace hR : rr_X10_even_31_b fu (rr_X10_even_31 fu n) y2 y3 y4 y5 u1 = some res := hR
      unfold rr_X10_even_31_b at hR
      refine lv_iload hx hb dX10_even_31 (lv_at hl 4 rfl) ?_
      refine lv_aload_n hx hb dX10_even_33 rfl (lv_at hl 0 rfl) ?_
      refine va_get (D := (dC, dI)) (ci := 10) (v := .int u1.2.2.2.1.2) (C := RX10) (T := TX10) (N := 35) hx hb hts hin10 hown hK hP 0 rfl rfl 13 (by decide) (hts (.fieldLink RX10 114 "OldestCoinsModel" "rowSize" "I") (List.mem_of_getElem? (i := 2) rfl)) (fun _ h9 => h9) rfl dX10_even_34 ?_
      refine lv_icmp_ge (tgt := 82) hx hb dX10_even_37 (by decide) (fun c8 => ?_) (fun c8 => ?_)
      · replace hR := ifp_ hR c8
        refine lv_iload_n hx hb dX10_even_82 rfl (lv_at hl 1 rfl) ?_
        refine lv_if_ge (tgt := 90) hx hb dX10_even_83 (by decide) (fun c9 => ?_) (fun c9 => ?_)
        · replace hR := ifp_ hR c9
          refine lv_bipush (v := (-4 : Int32)) hx hb dX10_even_90 (by decide) ?_
          subst hQe
          exact W.iret (v := (-4 : Int32)) hx hb hr (fun t ht hW => ⟨⟨(-4 : Int32), u1, rfl, (Option.some.inj hR).symm, by rw [ht]; exact hP, va_K.moved hW.alike hK, hD⟩, hS.F ht⟩) hS.2.2 dX10_even_92
        · replace hR := ifn_ hR c9
          refine lv_iload_n hx hb dX10_even_86 rfl (lv_at hl 2 rfl) ?_
          refine lv_goto (tgt := 92) hx hb dX10_even_87 (by decide) ?_
          subst hQe
          exact W.iret (v := y3) hx hb hr (fun t ht hW => ⟨⟨y3, u1, rfl, (Option.some.inj hR).symm, by rw [ht]; exact hP, va_K.moved hW.alike hK, hD⟩, hS.F ht⟩) hS.2.2 dX10_even_92
      · replace hR := ifn_ hR c8
        refine lv_iload hx hb dX10_even_40 (lv_at hl 3 rfl) ?_
        refine lv_aload_n hx hb dX10_even_42 rfl (lv_at hl 0 rfl) ?_
        refine va_get (D := (dC, dI)) (ci := 10) (v := .ref (a1 1)) (C := RX10) (T := TX10) (N := 35) hx hb hts hin10 hown hK hP 0 rfl rfl 0 (by decide) (hts (.fieldLink RX10 7 "OldestCoinsModel" "worths" "[I") (List.mem_of_getElem? (i := 3) rfl)) (fun _ h9 => h9) rfl dX10_even_43 ?_
        refine lv_aload_n hx hb dX10_even_46 rfl (lv_at hl 0 rfl) ?_
        refine va_get (D := (dC, dI)) (ci := 10) (v := .ref (a1 9)) (C := RX10) (T := TX10) (N := 35) hx hb hts hin10 hown hK hP 0 rfl rfl 12 (by decide) (hts (.fieldLink RX10 34 "OldestCoinsModel" "row" "[I") (List.mem_of_getElem? (i := 4) rfl)) (fun _ h9 => h9) rfl dX10_even_47 ?_
        refine lv_iload hx hb dX10_even_50 (lv_at hl 4 rfl) ?_
        have i10 := (ck_ok hR).1
        replace hR := (ck_ok hR).2
        refine va_iald (f := u1.2.2.2.1.1) hx hb hK hP 9 8 rfl rfl i10 dX10_even_52 ?_
        have i11 := (ck_ok hR).1
        replace hR := (ck_ok hR).2
        refine va_iald (f := u1.1.1) hx hb hK hP 1 0 rfl rfl i11 dX10_even_53 ?_
        refine lv_iadd hx hb dX10_even_54 ?_
        refine lv_topi (fun z12 ez12 => ?_)
        replace hR := lt_ok hR ez12
        refine lv_istore (lv' := [(4, .int z12), (0, .ref (a1 0)), (2, .int y2), (3, .int y3), (5, .int y5)]) hx hb dX10_even_55 hl (by decide) rfl (fun ls13 hl13 => ?_)
        refine lv_iload hx hb dX10_even_57 (lv_at hl13 0 rfl) ?_
        refine lv_sipush (v := (999 : Int32)) hx hb dX10_even_59 (by decide) ?_
        refine lv_icmp_gt (tgt := 76) hx hb dX10_even_62 (by decide) (fun c14 => ?_) (fun c14 => ?_)
        · replace hR := ifp_ hR c14
          exact hB76 (rr_X10_even_31 fu n) ih y2 y3 z12 y5 u1 H locs ls13 hP hD hS (lv_sub hl13 [1, 2, 3, 0, 4] rfl) hR
        · replace hR := ifn_ hR c14
          refine lv_iload_n hx hb dX10_even_65 rfl (lv_at hl13 3 rfl) ?_
          refine lv_iload_n hx hb dX10_even_66 rfl (lv_at hl13 2 rfl) ?_
          refine lv_icmp_ne (tgt := 73) hx hb dX10_even_67 (by decide) (fun c15 => ?_) (fun c15 => ?_)
          · replace hR := ifn_ hR c15
            obtain ⟨z16, ez16⟩ : ∃ y : Int32, y = (y3 + (1 : Int32)) := ⟨_, rfl⟩
            replace hR := lt_ok hR ez16
            refine lv_iinc (v := z16) (lv' := [(3, .int z16), (4, .int z12), (0, .ref (a1 0)), (2, .int y2), (5, .int y5)]) hx hb dX10_even_73 hl13 (k := 3) rfl (by rw [ez16]; rfl) (by decide) rfl (fun ls16 hl16 => ?_)
            exact hB76 (rr_X10_even_31 fu n) ih y2 z16 z12 y5 u1 H locs ls16 hP hD hS (lv_sub hl16 [2, 3, 0, 1, 4] rfl) hR
          · replace hR := ifp_ hR c15
            refine lv_iload hx hb dX10_even_70 (lv_at hl13 0 rfl) ?_
            subst hQe
            exact W.iret (v := z12) hx hb hr (fun t ht hW => ⟨⟨z12, u1, rfl, (Option.some.inj hR).symm, by rw [ht]; exact hP, va_K.moved hW.alike hK, hD⟩, hS.F ht⟩) hS.2.2 dX10_even_72
  unfold rr_X10_even at hR
  refine lv_iload_n hx hb dX10_even_0 rfl (lv_at hl 1 rfl) ?_
  have hR0 := ob_ok hR
  clear hR
  obtain ⟨q1, hq1, hR⟩ := hR0
  refine va_calli (va_runS (As := [.int x1]) (rest := []) ⟨hx, hb, hml, hown, hts⟩ (cc_X10_isPurse l dC dI fu s.heap.size x1 q1 hq1) (va_cwS 1 hts gX10_even_X10_isPurse rfl rfl rfl (by decide +kernel) ⟨Nat.le_of_ble_eq_true rfl, Nat.le_of_ble_eq_true rfl⟩) (pf_s (nil_K hK) nil_P (nil_D (A := A))) rfl rfl hl.1 rfl (lv_room (Nat.le_of_ble_eq_true rfl)) dX10_even_1 ⟨Nat.le_refl _, Nat.le_refl _⟩) hS (fun q _ h => (fr_none hS hA) q h) (fr_none hS hA) (fun r1 v1 t1 H1 locs1 ht1 hvm1 hw1 hB1 hz1 hk1 hS1 => ?_)
  subst hw1
  have hP1 := jn_none hP hk1
  have hD1 := hD
  have hP1 : va_P (dC, dI) vwCl (zc_10 a1 k1 s1) H1 := hP1
  have hD1 : va_D A (zc_10 a1 k1 s1) := hD1
  clear hP hD hS hB1 hk1 hvm1 hz1 ht1
  refine lv_if_eq (tgt := 12) hx hb dX10_even_4 (by decide) (fun c2 => ?_) (fun c2 => ?_)
  · replace hR := ifp_ hR c2
    refine lv_iconst (v := (-1 : Int32)) hx hb dX10_even_12 (by decide) ?_
    subst hQe
    exact W.iret (v := (-1 : Int32)) hx hb hr (fun t ht hW => ⟨⟨(-1 : Int32), s1, rfl, (Option.some.inj hR).symm, by rw [ht]; exact hP1, va_K.moved hW.alike hK, hD1⟩, hS1.F ht⟩) hS1.2.2 dX10_even_13
  · replace hR := ifn_ hR c2
    refine lv_iload_n hx hb dX10_even_7 rfl (lv_at hl 2 rfl) ?_
    refine lv_iconst (v := (-1 : Int32)) hx hb dX10_even_8 (by decide) ?_
    refine lv_icmp_ge (tgt := 14) hx hb dX10_even_9 (by decide) (fun c3 => ?_) (fun c3 => ?_)
    · replace hR := ifp_ hR c3
      refine lv_aload_n hx hb dX10_even_14 rfl (lv_at hl 0 rfl) ?_
      refine lv_iload_n hx hb dX10_even_15 rfl (lv_at hl 1 rfl) ?_
      refine lv_aload_n hx hb dX10_even_16 rfl (lv_at hl 0 rfl) ?_
      refine va_get (D := (dC, dI)) (ci := 10) (v := .int s1.1.2.2.2.2.2.2) (C := RX10) (T := TX10) (N := 35) hx hb hts hin10 hown hK hP1 0 rfl rfl 6 (by decide) (hts (.fieldLink RX10 111 "OldestCoinsModel" "law" "I") (List.mem_of_getElem? (i := 1) rfl)) (fun _ h9 => h9) rfl dX10_even_17 ?_
      have hR0 := ob_ok hR
      clear hR
      obtain ⟨q4, hq4, hR⟩ := hR0
      refine va_callv (va_runV (As := [.int x1, .int s1.1.2.2.2.2.2.2]) (rest := []) ⟨hx, hb, hml, hown, hts⟩ (cc_X10_findRow l dC dI fu a1 k1 H1.size x1 s1.1.2.2.2.2.2.2 s1 q4 hq4) (cwV 2 hts gX10_even_X10_findRow rfl rfl rfl (by decide +kernel) ⟨Nat.le_of_ble_eq_true rfl, Nat.le_of_ble_eq_true rfl⟩) (pf_v hK hP1 hD1 10 0 rfl rfl rfl) rfl rfl hl.1 rfl (lv_room (Nat.le_of_ble_eq_true rfl)) dX10_even_20 ⟨Nat.le_refl _, Nat.le_refl _⟩) hS1 (fun q _ h => (fr_all hD1 hS1 hA) q h) (fr_all hD1 hS1 hA) (fun v4 t4 H4 locs4 ht4 hvm4 hw4 hB4 hz4 hk4 hS4 => ?_)
      subst hw4
      obtain ⟨hP4, hD4⟩ := jn_all hD1 hS1 hA ht4 hB4
      have hP4 : va_P (dC, dI) vwCl (zc_10 a1 k1 q4) H4 := hP4
      have hD4 : va_D A (zc_10 a1 k1 q4) := hD4
      clear hP1 hD1 hS1 hB4 hk4 hvm4 hz4 ht4
      refine lv_iconst (v := (0 : Int32)) hx hb dX10_even_23 (by decide) ?_
      refine lv_istore_n (lv' := [(3, .int (0 : Int32)), (0, .ref (a1 0)), (1, .int x1), (2, .int x2)]) hx hb dX10_even_24 rfl hl (by decide) rfl (fun ls5 hl5 => ?_)
      refine lv_iconst (v := (0 : Int32)) hx hb dX10_even_25 (by decide) ?_
      refine lv_istore (lv' := [(4, .int (0 : Int32)), (3, .int (0 : Int32)), (0, .ref (a1 0)), (1, .int x1), (2, .int x2)]) hx hb dX10_even_26 hl5 (by decide) rfl (fun ls6 hl6 => ?_)
      refine lv_iconst (v := (0 : Int32)) hx hb dX10_even_28 (by decide) ?_
      refine lv_istore (lv' := [(5, .int (0 : Int32)), (4, .int (0 : Int32)), (3, .int (0 : Int32)), (0, .ref (a1 0)), (1, .int x1), (2, .int x2)]) hx hb dX10_even_29 hl6 (by decide) rfl (fun ls7 hl7 => ?_)
      exact hB31 fu x2 (0 : Int32) (0 : Int32) (0 : Int32) q4 H4 locs4 ls7 hP4 hD4 hS4 (lv_sub hl7 [3, 5, 2, 1, 0] rfl) hR
    · replace hR := ifn_ hR c3
      refine lv_iconst (v := (-1 : Int32)) hx hb dX10_even_12 (by decide) ?_
      subst hQe
      exact W.iret (v := (-1 : Int32)) hx hb hr (fun t ht hW => ⟨⟨(-1 : Int32), s1, rfl, (Option.some.inj hR).symm, by rw [ht]; exact hP1, va_K.moved hW.alike hK, hD1⟩, hS1.F ht⟩) hS1.2.2 dX10_even_13
def rr_X10_ones_4_b (fu : Nat) (rec4 : Int32 → Int64 → Option (Int32)) (y2 : Int32) (y3 : Int64) : Option (Int32) := (if (lg_cmp y3 (0 : Int64)) = (0 : Int32) then some y2 else lt_ (α := Int32) (y2 + (1 : Int32)) (fun z4 => lt_ (α := Int64) (y3 &&& (y3 - (1 : Int64))) (fun z5 => rec4 z4 z5)))
def rr_X10_ones_4 (fu : Nat) (n : Nat) : Int32 → Int64 → Option (Int32) := lp_ (fun _ _ => none) (rr_X10_ones_4_b fu) n
def rr_X10_ones (fu : Nat) (x0 : Int64) : Option (Int32) := rr_X10_ones_4 fu fu (0 : Int32) x0
set_option maxHeartbeats 4000000 in
set_option maxRecDepth 100000 in
theorem cc_X10_ones (l : Launch) (dC : Nat → ClassId) (dI : Nat → Nat → Nat) (fu : Nat) (sz : Nat) (x0 : Int64) (res : Int32) (hR : rr_X10_ones fu x0 = some res) : Met l yX10_ones wsX10_ones ({ frames := 0, cells := 0, slots := 0, locals := 0 } : Room) (PcF [.long x0] sz (dC, dI) (([] : va_W)) ([])) (va_Qi (fun (r : Int32) (u : Unit) => res = r) (fun u t => at3_ (dC, dI) (([] : va_W)) ([]) (va_A (([] : va_W)) sz) t) (va_A (([] : va_W)) sz)) 0 0 (va_A (([] : va_W)) sz) := by
  refine Met.ofW (cc := cX10_ones) (maxL := 5) (ret := (some .int)) (by decide) rfl ?_
  intro p e s m args below meth c s₁ B hml hv
  obtain ⟨hav, hsz, hP, hK, hD0⟩ := hv
  have hx := B.exec
  have hb := B.bytes
  have hr := B.returns
  have hts := atoms_spec (ws := wsX10_ones) B.pre
  have hown : s.vm.findClass RX10 = some m.cls := findClass_of_methodNamed B.named
  have hlocks := B.notSynchronized
  subst hsz
  have hD := hD0.self (sz := s.heap.size)
  clear hD0
  generalize hAe : va_A (([] : va_W)) s.heap.size = A at hD ⊢
  have hA : ∀ q : Nat, s.heap.size ≤ q → A q := fun q h => by rw [← hAe]; exact Or.inr h
  have hS : va_S A s.heap s.heap [] := va_S.rf
  generalize hQe : MQ below _ args s 0 0 A = Q
  rw [show entryFrame m args 5 = F0 m 0 ((lg_sl ([.long x0]) ++ List.replicate (5 - (lg_sl ([.long x0])).length) Slot.unset).toArray) [] from by rw [hav]; exact lg_entry_eq m _ _]
  have hl := lv_entry ([.long x0]) (n := 5) (Nat.le_of_ble_eq_true rfl)
  generalize (lg_sl ([.long x0]) ++ List.replicate (5 - (lg_sl ([.long x0])).length) Slot.unset).toArray = ls at hl ⊢
  have hl : lv_has ls 5 [(0, .long x0)] := hl
  have hB4 : ∀ (n : Nat), ∀ (y2 : Int32) (y3 : Int64) (H : Heap) (locs : List Loc) (ls : Array Slot), va_P (dC, dI) vwCl (([] : va_W)) H → va_D A (([] : va_W)) → va_S A s.heap H locs → lv_has ls 5 [(2, .int y2), (3, .long y3)] → rr_X10_ones_4 fu n y2 y3 = some res → W p l e ({ frames := 0, cells := 0, slots := 0, locals := 0 } : Room) s m args below meth c H locs 0 0 Q (F0 m 4 ls []) := by
    intro  n
    induction n with
    | zero => intro y2 y3 H locs ls hP hD hS hl hR; exact absurd hR (by intro h; cases h)
    | succ n ih =>
      intro y2 y3 H locs ls hP hD hS hl hR
      replace hR : rr_X10_ones_4_b fu (rr_X10_ones_4 fu n) y2 y3 = some res := hR
      unfold rr_X10_ones_4_b at hR
      refine lv_lload_n hx hb dX10_ones_4 rfl (lv_at hl 1 rfl) ?_
      refine lv_lconst (v := (0 : Int64)) hx hb dX10_ones_5 (by decide) ?_
      refine W.lcmp hx hb dX10_ones_6 ?_
      refine lv_if_eq (tgt := 22) hx hb dX10_ones_7 (by decide) (fun c3 => ?_) (fun c3 => ?_)
      · replace hR := ifp_ hR c3
        refine lv_iload_n hx hb dX10_ones_22 rfl (lv_at hl 0 rfl) ?_
        subst hQe
        exact W.iret (v := y2) hx hb hr (fun t ht hW => ⟨⟨y2, (), rfl, (Option.some.inj hR).symm, by rw [ht]; exact hP, va_K.moved hW.alike hK, hD⟩, hS.F ht⟩) hS.2.2 dX10_ones_23
      · replace hR := ifn_ hR c3
        obtain ⟨z4, ez4⟩ : ∃ y : Int32, y = (y2 + (1 : Int32)) := ⟨_, rfl⟩
        replace hR := lt_ok hR ez4
        refine lv_iinc (v := z4) (lv' := [(2, .int z4), (3, .long y3)]) hx hb dX10_ones_10 hl (k := 0) rfl (by rw [ez4]; rfl) (by decide) rfl (fun ls4 hl4 => ?_)
        refine lv_lload_n hx hb dX10_ones_13 rfl (lv_at hl4 1 rfl) ?_
        refine lv_lload_n hx hb dX10_ones_14 rfl (lv_at hl4 1 rfl) ?_
        refine lv_lconst (v := (1 : Int64)) hx hb dX10_ones_15 (by decide) ?_
        refine lv_lsub hx hb dX10_ones_16 ?_
        refine lv_land hx hb dX10_ones_17 ?_
        refine lv_topl (fun z5 ez5 => ?_)
        replace hR := lt_ok hR ez5
        refine lv_lstore_n (lv' := [(3, .long z5), (2, .int z4)]) hx hb dX10_ones_18 rfl hl4 (by decide) rfl (fun ls6 hl6 => ?_)
        refine lv_goto (tgt := 4) hx hb dX10_ones_19 (by decide) ?_
        exact ih z4 z5 H locs ls6 hP hD hS (lv_sub hl6 [1, 0] rfl) hR
  unfold rr_X10_ones at hR
  refine lv_iconst (v := (0 : Int32)) hx hb dX10_ones_0 (by decide) ?_
  refine lv_istore_n (lv' := [(2, .int (0 : Int32)), (0, .long x0)]) hx hb dX10_ones_1 rfl hl (by decide) rfl (fun ls1 hl1 => ?_)
  refine lv_lload_n hx hb dX10_ones_2 rfl (lv_at hl1 1 rfl) ?_
  refine lv_lstore_n (lv' := [(3, .long x0), (2, .int (0 : Int32)), (0, .long x0)]) hx hb dX10_ones_3 rfl hl1 (by decide) rfl (fun ls2 hl2 => ?_)
  exact hB4 fu (0 : Int32) x0 s.heap [] ls2 hP hD hS (lv_sub hl2 [1, 0] rfl) hR
def rr_X10_would (fu : Nat) (x1 : Int32) (x2 : Int32) (x3 : Int32) (x4 : Int32) (s1 : ZT_10) : Option (Int32 × ZT_10) := (rr_X10_isBill fu x1 x2 x3).bind (fun q1 => (if q1 = (0 : Int32) then some ((-1 : Int32), s1) else (rr_X10_in fu x4.toInt64 (0 : Int64) (3 : Int64)).bind (fun q3 => (if q3 = (0 : Int32) then some ((-1 : Int32), s1) else (rr_X10_findBill fu x1 x2 x3 s1).bind (fun q5 => (if q5.1 = (0 : Int32) then some ((-2 : Int32), q5.2) else (if x4 = (0 : Int32) then (rr_X10_ones fu q5.2.2.2.2.2.2.1.1).bind (fun q11 => some (q11, q5.2)) else (if x4 = (1 : Int32) then some (q5.2.2.2.2.2.2.1.2.2.1, q5.2) else (if x4 = (2 : Int32) then (rr_X10_ones fu q5.2.2.2.2.2.2.1.2.1).bind (fun q10 => some (q10, q5.2)) else some (q5.2.2.2.2.2.2.1.2.2.2.2, q5.2))))))))))
set_option maxHeartbeats 4000000 in
set_option maxRecDepth 100000 in
theorem cc_X10_would (l : Launch) (dC : Nat → ClassId) (dI : Nat → Nat → Nat) (fu : Nat) (a1 : Nat → Nat) (k1 : Nat → ClassId) (sz : Nat) (x1 : Int32) (x2 : Int32) (x3 : Int32) (x4 : Int32) (s1 : ZT_10) (res : Int32 × ZT_10) (hR : rr_X10_would fu x1 x2 x3 x4 s1 = some res) : Met l yX10_would wsX10_would ({ frames := 5, cells := 0, slots := 0, locals := 115 } : Room) (PcF [.ref (a1 0), .int x1, .int x2, .int x3, .int x4] sz (dC, dI) (zc_10 a1 k1 s1) (zt_10 k1)) (va_Qi (fun (r : Int32) (u : ZT_10) => res = (r, u)) (fun u t => at3_ (dC, dI) (zc_10 a1 k1 u) (zt_10 k1) (va_A (zc_10 a1 k1 s1) sz) t) (va_A (zc_10 a1 k1 s1) sz)) 0 0 (va_A (zc_10 a1 k1 s1) sz) := by
  refine Met.ofW (cc := cX10_would) (maxL := 5) (ret := (some .int)) (by decide) rfl ?_
  intro p e s m args below meth c s₁ B hml hv
  obtain ⟨hav, hsz, hP, hK, hD0⟩ := hv
  have hx := B.exec
  have hb := B.bytes
  have hr := B.returns
  have hts := atoms_spec (ws := wsX10_would) B.pre
  have hown : s.vm.findClass RX10 = some m.cls := findClass_of_methodNamed B.named
  have hlocks := B.notSynchronized
  have hin10 : ∀ w ∈ wsX100, w ∈ wsX10_would := fun w h => List.mem_cons_of_mem _ (List.mem_append_right _ h)
  subst hsz
  have hD := hD0.self (sz := s.heap.size)
  clear hD0
  generalize hAe : va_A (zc_10 a1 k1 s1) s.heap.size = A at hD ⊢
  have hA : ∀ q : Nat, s.heap.size ≤ q → A q := fun q h => by rw [← hAe]; exact Or.inr h
  have hS : va_S A s.heap s.heap [] := va_S.rf
  generalize hQe : MQ below _ args s 0 0 A = Q
  rw [show entryFrame m args 5 = F0 m 0 ((lg_sl ([.ref (a1 0), .int x1, .int x2, .int x3, .int x4]) ++ List.replicate (5 - (lg_sl ([.ref (a1 0), .int x1, .int x2, .int x3, .int x4])).length) Slot.unset).toArray) [] from by rw [hav]; exact lg_entry_eq m _ _]
  have hl := lv_entry ([.ref (a1 0), .int x1, .int x2, .int x3, .int x4]) (n := 5) (Nat.le_of_ble_eq_true rfl)
  generalize (lg_sl ([.ref (a1 0), .int x1, .int x2, .int x3, .int x4]) ++ List.replicate (5 - (lg_sl ([.ref (a1 0), .int x1, .int x2, .int x3, .int x4])).length) Slot.unset).toArray = ls at hl ⊢
  have hl : lv_has ls 5 [(0, .ref (a1 0)), (1, .int x1), (2, .int x2), (3, .int x3), (4, .int x4)] := hl
  unfold rr_X10_would at hR
  refine lv_iload_n hx hb dX10_would_0 rfl (lv_at hl 1 rfl) ?_
  refine lv_iload_n hx hb dX10_would_1 rfl (lv_at hl 2 rfl) ?_
  refine lv_iload_n hx hb dX10_would_2 rfl (lv_at hl 3 rfl) ?_
  have hR0 := ob_ok hR
  clear hR
  obtain ⟨q1, hq1, hR⟩ := hR0
  refine va_calli (va_runS (As := [.int x1, .int x2, .int x3]) (rest := []) ⟨hx, hb, hml, hown, hts⟩ (cc_X10_isBill l dC dI fu s.heap.size x1 x2 x3 q1 hq1) (va_cwS 3 hts gX10_would_X10_isBill rfl rfl rfl (by decide +kernel) ⟨Nat.le_of_ble_eq_true rfl, Nat.le_of_ble_eq_true rfl⟩) (pf_s (nil_K hK) nil_P (nil_D (A := A))) rfl rfl hl.1 rfl (lv_room (Nat.le_of_ble_eq_true rfl)) dX10_would_3 ⟨Nat.le_refl _, Nat.le_refl _⟩) hS (fun q _ h => (fr_none hS hA) q h) (fr_none hS hA) (fun r1 v1 t1 H1 locs1 ht1 hvm1 hw1 hB1 hz1 hk1 hS1 => ?_)
  subst hw1
  have hP1 := jn_none hP hk1
  have hD1 := hD
  have hP1 : va_P (dC, dI) vwCl (zc_10 a1 k1 s1) H1 := hP1
  have hD1 : va_D A (zc_10 a1 k1 s1) := hD1
  clear hP hD hS hB1 hk1 hvm1 hz1 ht1
  refine lv_if_eq (tgt := 22) hx hb dX10_would_6 (by decide) (fun c2 => ?_) (fun c2 => ?_)
  · replace hR := ifp_ hR c2
    refine lv_iconst (v := (-1 : Int32)) hx hb dX10_would_22 (by decide) ?_
    subst hQe
    exact W.iret (v := (-1 : Int32)) hx hb hr (fun t ht hW => ⟨⟨(-1 : Int32), s1, rfl, (Option.some.inj hR).symm, by rw [ht]; exact hP1, va_K.moved hW.alike hK, hD1⟩, hS1.F ht⟩) hS1.2.2 dX10_would_23
  · replace hR := ifn_ hR c2
    refine lv_iload hx hb dX10_would_9 (lv_at hl 4 rfl) ?_
    refine lv_i2l (v := x4.toInt64) hx hb dX10_would_11 rfl ?_
    refine lv_lconst (v := (0 : Int64)) hx hb dX10_would_12 (by decide) ?_
    refine lv_ldc2 (v := (3 : Int64)) hx hb hown (hts (.constantLong RX10 84 (3)) (List.mem_of_getElem? (i := 1) rfl)) dX10_would_13 ?_
    have hR0 := ob_ok hR
    clear hR
    obtain ⟨q3, hq3, hR⟩ := hR0
    refine va_calli (va_runS (As := [.long x4.toInt64, .long (0 : Int64), .long (3 : Int64)]) (rest := []) ⟨hx, hb, hml, hown, hts⟩ (cc_X10_in l dC dI fu H1.size x4.toInt64 (0 : Int64) (3 : Int64) q3 hq3) (va_cwS 3 hts gX10_would_X10_in rfl rfl rfl (by decide +kernel) ⟨Nat.le_of_ble_eq_true rfl, Nat.le_of_ble_eq_true rfl⟩) (pf_s (nil_K hK) nil_P (nil_D (A := A))) rfl rfl hl.1 rfl (lv_room (Nat.le_of_ble_eq_true rfl)) dX10_would_16 ⟨Nat.le_refl _, Nat.le_refl _⟩) hS1 (fun q _ h => (fr_none hS1 hA) q h) (fr_none hS1 hA) (fun r3 v3 t3 H3 locs3 ht3 hvm3 hw3 hB3 hz3 hk3 hS3 => ?_)
    subst hw3
    have hP3 := jn_none hP1 hk3
    have hD3 := hD1
    have hP3 : va_P (dC, dI) vwCl (zc_10 a1 k1 s1) H3 := hP3
    have hD3 : va_D A (zc_10 a1 k1 s1) := hD3
    clear hP1 hD1 hS1 hB3 hk3 hvm3 hz3 ht3
    refine lv_if_ne (tgt := 24) hx hb dX10_would_19 (by decide) (fun c4 => ?_) (fun c4 => ?_)
    · replace hR := ifn_ hR c4
      refine lv_aload_n hx hb dX10_would_24 rfl (lv_at hl 0 rfl) ?_
      refine lv_iload_n hx hb dX10_would_25 rfl (lv_at hl 1 rfl) ?_
      refine lv_iload_n hx hb dX10_would_26 rfl (lv_at hl 2 rfl) ?_
      refine lv_iload_n hx hb dX10_would_27 rfl (lv_at hl 3 rfl) ?_
      have hR0 := ob_ok hR
      clear hR
      obtain ⟨q5, hq5, hR⟩ := hR0
      refine va_calli (va_runV (As := [.int x1, .int x2, .int x3]) (rest := []) ⟨hx, hb, hml, hown, hts⟩ (cc_X10_findBill l dC dI fu a1 k1 H3.size x1 x2 x3 s1 q5 hq5) (cwV 3 hts gX10_would_X10_findBill rfl rfl rfl (by decide +kernel) ⟨Nat.le_of_ble_eq_true rfl, Nat.le_of_ble_eq_true rfl⟩) (pf_v hK hP3 hD3 10 0 rfl rfl rfl) rfl rfl hl.1 rfl (lv_room (Nat.le_of_ble_eq_true rfl)) dX10_would_28 ⟨Nat.le_refl _, Nat.le_refl _⟩) hS3 (fun q _ h => (fr_all hD3 hS3 hA) q h) (fr_all hD3 hS3 hA) (fun r5 v5 t5 H5 locs5 ht5 hvm5 hw5 hB5 hz5 hk5 hS5 => ?_)
      obtain rfl : r5 = q5.1 := (congrArg Prod.fst hw5).symm
      obtain rfl : v5 = q5.2 := (congrArg Prod.snd hw5).symm
      obtain ⟨hP5, hD5⟩ := jn_all hD3 hS3 hA ht5 hB5
      have hP5 : va_P (dC, dI) vwCl (zc_10 a1 k1 q5.2) H5 := hP5
      have hD5 : va_D A (zc_10 a1 k1 q5.2) := hD5
      clear hP3 hD3 hS3 hB5 hk5 hvm5 hz5 ht5
      refine lv_if_ne (tgt := 37) hx hb dX10_would_31 (by decide) (fun c6 => ?_) (fun c6 => ?_)
      · replace hR := ifn_ hR c6
        refine lv_iload hx hb dX10_would_37 (lv_at hl 4 rfl) ?_
        refine lv_if_ne (tgt := 52) hx hb dX10_would_39 (by decide) (fun c7 => ?_) (fun c7 => ?_)
        · replace hR := ifn_ hR c7
          refine lv_iload hx hb dX10_would_52 (lv_at hl 4 rfl) ?_
          refine lv_iconst (v := (1 : Int32)) hx hb dX10_would_54 (by decide) ?_
          refine lv_icmp_ne (tgt := 65) hx hb dX10_would_55 (by decide) (fun c8 => ?_) (fun c8 => ?_)
          · replace hR := ifn_ hR c8
            refine lv_iload hx hb dX10_would_65 (lv_at hl 4 rfl) ?_
            refine lv_iconst (v := (2 : Int32)) hx hb dX10_would_67 (by decide) ?_
            refine lv_icmp_ne (tgt := 81) hx hb dX10_would_68 (by decide) (fun c9 => ?_) (fun c9 => ?_)
            · replace hR := ifn_ hR c9
              refine lv_aload_n hx hb dX10_would_81 rfl (lv_at hl 0 rfl) ?_
              refine va_get (D := (dC, dI)) (ci := 10) (v := .int q5.2.2.2.2.2.2.1.2.2.2.2) (C := RX10) (T := TX10) (N := 35) hx hb hts hin10 hown hK hP5 0 rfl rfl 23 (by decide) (hts (.fieldLink RX10 202 "OldestCoinsModel" "left" "I") (List.mem_of_getElem? (i := 5) rfl)) (fun _ h9 => h9) rfl dX10_would_82 ?_
              subst hQe
              exact W.iret (v := q5.2.2.2.2.2.2.1.2.2.2.2) hx hb hr (fun t ht hW => ⟨⟨q5.2.2.2.2.2.2.1.2.2.2.2, q5.2, rfl, (Option.some.inj hR).symm, by rw [ht]; exact hP5, va_K.moved hW.alike hK, hD5⟩, hS5.F ht⟩) hS5.2.2 dX10_would_85
            · replace hR := ifp_ hR c9
              refine lv_aload_n hx hb dX10_would_71 rfl (lv_at hl 0 rfl) ?_
              refine va_get (D := (dC, dI)) (ci := 10) (v := .long q5.2.2.2.2.2.2.1.2.1) (C := RX10) (T := TX10) (N := 35) hx hb hts hin10 hown hK hP5 0 rfl rfl 20 (by decide) (hts (.fieldLink RX10 189 "OldestCoinsModel" "given" "J") (List.mem_of_getElem? (i := 4) rfl)) (fun _ h9 => h9) rfl dX10_would_72 ?_
              have hR0 := ob_ok hR
              clear hR
              obtain ⟨q10, hq10, hR⟩ := hR0
              refine va_calli (va_runS (As := [.long q5.2.2.2.2.2.2.1.2.1]) (rest := []) ⟨hx, hb, hml, hown, hts⟩ (cc_X10_ones l dC dI fu H5.size q5.2.2.2.2.2.2.1.2.1 q10 hq10) (va_cwS 1 hts gX10_would_X10_ones rfl rfl rfl (by decide +kernel) ⟨Nat.le_of_ble_eq_true rfl, Nat.le_of_ble_eq_true rfl⟩) (pf_s (nil_K hK) nil_P (nil_D (A := A))) rfl rfl hl.1 rfl (lv_room (Nat.le_of_ble_eq_true rfl)) dX10_would_75 ⟨Nat.le_refl _, Nat.le_refl _⟩) hS5 (fun q _ h => (fr_none hS5 hA) q h) (fr_none hS5 hA) (fun r10 v10 t10 H10 locs10 ht10 hvm10 hw10 hB10 hz10 hk10 hS10 => ?_)
              subst hw10
              have hP10 := jn_none hP5 hk10
              have hD10 := hD5
              have hP10 : va_P (dC, dI) vwCl (zc_10 a1 k1 q5.2) H10 := hP10
              have hD10 : va_D A (zc_10 a1 k1 q5.2) := hD10
              clear hP5 hD5 hS5 hB10 hk10 hvm10 hz10 ht10
              refine lv_goto (tgt := 85) hx hb dX10_would_78 (by decide) ?_
              subst hQe
              exact W.iret (v := q10) hx hb hr (fun t ht hW => ⟨⟨q10, q5.2, rfl, (Option.some.inj hR).symm, by rw [ht]; exact hP10, va_K.moved hW.alike hK, hD10⟩, hS10.F ht⟩) hS10.2.2 dX10_would_85
          · replace hR := ifp_ hR c8
            refine lv_aload_n hx hb dX10_would_58 rfl (lv_at hl 0 rfl) ?_
            refine va_get (D := (dC, dI)) (ci := 10) (v := .int q5.2.2.2.2.2.2.1.2.2.1) (C := RX10) (T := TX10) (N := 35) hx hb hts hin10 hown hK hP5 0 rfl rfl 21 (by decide) (hts (.fieldLink RX10 192 "OldestCoinsModel" "paidWorth" "I") (List.mem_of_getElem? (i := 3) rfl)) (fun _ h9 => h9) rfl dX10_would_59 ?_
            refine lv_goto (tgt := 85) hx hb dX10_would_62 (by decide) ?_
            subst hQe
            exact W.iret (v := q5.2.2.2.2.2.2.1.2.2.1) hx hb hr (fun t ht hW => ⟨⟨q5.2.2.2.2.2.2.1.2.2.1, q5.2, rfl, (Option.some.inj hR).symm, by rw [ht]; exact hP5, va_K.moved hW.alike hK, hD5⟩, hS5.F ht⟩) hS5.2.2 dX10_would_85
        · replace hR := ifp_ hR c7
          refine lv_aload_n hx hb dX10_would_42 rfl (lv_at hl 0 rfl) ?_
          refine va_get (D := (dC, dI)) (ci := 10) (v := .long q5.2.2.2.2.2.2.1.1) (C := RX10) (T := TX10) (N := 35) hx hb hts hin10 hown hK hP5 0 rfl rfl 19 (by decide) (hts (.fieldLink RX10 185 "OldestCoinsModel" "paid" "J") (List.mem_of_getElem? (i := 2) rfl)) (fun _ h9 => h9) rfl dX10_would_43 ?_
          have hR0 := ob_ok hR
          clear hR
          obtain ⟨q11, hq11, hR⟩ := hR0
          refine va_calli (va_runS (As := [.long q5.2.2.2.2.2.2.1.1]) (rest := []) ⟨hx, hb, hml, hown, hts⟩ (cc_X10_ones l dC dI fu H5.size q5.2.2.2.2.2.2.1.1 q11 hq11) (va_cwS 1 hts gX10_would_X10_ones rfl rfl rfl (by decide +kernel) ⟨Nat.le_of_ble_eq_true rfl, Nat.le_of_ble_eq_true rfl⟩) (pf_s (nil_K hK) nil_P (nil_D (A := A))) rfl rfl hl.1 rfl (lv_room (Nat.le_of_ble_eq_true rfl)) dX10_would_46 ⟨Nat.le_refl _, Nat.le_refl _⟩) hS5 (fun q _ h => (fr_none hS5 hA) q h) (fr_none hS5 hA) (fun r11 v11 t11 H11 locs11 ht11 hvm11 hw11 hB11 hz11 hk11 hS11 => ?_)
          subst hw11
          have hP11 := jn_none hP5 hk11
          have hD11 := hD5
          have hP11 : va_P (dC, dI) vwCl (zc_10 a1 k1 q5.2) H11 := hP11
          have hD11 : va_D A (zc_10 a1 k1 q5.2) := hD11
          clear hP5 hD5 hS5 hB11 hk11 hvm11 hz11 ht11
          refine lv_goto (tgt := 85) hx hb dX10_would_49 (by decide) ?_
          subst hQe
          exact W.iret (v := q11) hx hb hr (fun t ht hW => ⟨⟨q11, q5.2, rfl, (Option.some.inj hR).symm, by rw [ht]; exact hP11, va_K.moved hW.alike hK, hD11⟩, hS11.F ht⟩) hS11.2.2 dX10_would_85
      · replace hR := ifp_ hR c6
        refine lv_bipush (v := (-2 : Int32)) hx hb dX10_would_34 (by decide) ?_
        subst hQe
        exact W.iret (v := (-2 : Int32)) hx hb hr (fun t ht hW => ⟨⟨(-2 : Int32), q5.2, rfl, (Option.some.inj hR).symm, by rw [ht]; exact hP5, va_K.moved hW.alike hK, hD5⟩, hS5.F ht⟩) hS5.2.2 dX10_would_36
    · replace hR := ifp_ hR c4
      refine lv_iconst (v := (-1 : Int32)) hx hb dX10_would_22 (by decide) ?_
      subst hQe
      exact W.iret (v := (-1 : Int32)) hx hb hr (fun t ht hW => ⟨⟨(-1 : Int32), s1, rfl, (Option.some.inj hR).symm, by rw [ht]; exact hP3, va_K.moved hW.alike hK, hD3⟩, hS3.F ht⟩) hS3.2.2 dX10_would_23
def rr_X10_bill (fu : Nat) (x1 : Int32) (x2 : Int32) (x3 : Int32) (s1 : ZT_10) : Option (Int32 × ZT_10) := (rr_X10_isBill fu x1 x2 x3).bind (fun q1 => (if q1 = (0 : Int32) then some ((-1 : Int32), s1) else (rr_X10_doBill fu x1 x2 x3 s1).bind (fun q3 => (if q3.1 = (0 : Int32) then some ((-2 : Int32), q3.2) else some ((q3.2.2.2.2.2.2.1.2.2.2.1 - q3.2.2.2.2.2.2.1.2.2.2.2), q3.2)))))
set_option maxHeartbeats 4000000 in
set_option maxRecDepth 100000 in
theorem cc_X10_bill (l : Launch) (dC : Nat → ClassId) (dI : Nat → Nat → Nat) (fu : Nat) (a1 : Nat → Nat) (k1 : Nat → ClassId) (sz : Nat) (x1 : Int32) (x2 : Int32) (x3 : Int32) (s1 : ZT_10) (res : Int32 × ZT_10) (hR : rr_X10_bill fu x1 x2 x3 s1 = some res) : Met l yX10_bill wsX10_bill ({ frames := 6, cells := 0, slots := 0, locals := 139 } : Room) (PcF [.ref (a1 0), .int x1, .int x2, .int x3] sz (dC, dI) (zc_10 a1 k1 s1) (zt_10 k1)) (va_Qi (fun (r : Int32) (u : ZT_10) => res = (r, u)) (fun u t => at3_ (dC, dI) (zc_10 a1 k1 u) (zt_10 k1) (va_A (zc_10 a1 k1 s1) sz) t) (va_A (zc_10 a1 k1 s1) sz)) 0 0 (va_A (zc_10 a1 k1 s1) sz) := by
  refine Met.ofW (cc := cX10_bill) (maxL := 4) (ret := (some .int)) (by decide) rfl ?_
  intro p e s m args below meth c s₁ B hml hv
  obtain ⟨hav, hsz, hP, hK, hD0⟩ := hv
  have hx := B.exec
  have hb := B.bytes
  have hr := B.returns
  have hts := atoms_spec (ws := wsX10_bill) B.pre
  have hown : s.vm.findClass RX10 = some m.cls := findClass_of_methodNamed B.named
  have hlocks := B.notSynchronized
  have hin10 : ∀ w ∈ wsX100, w ∈ wsX10_bill := fun w h => List.mem_cons_of_mem _ (List.mem_append_right _ h)
  subst hsz
  have hD := hD0.self (sz := s.heap.size)
  clear hD0
  generalize hAe : va_A (zc_10 a1 k1 s1) s.heap.size = A at hD ⊢
  have hA : ∀ q : Nat, s.heap.size ≤ q → A q := fun q h => by rw [← hAe]; exact Or.inr h
  have hS : va_S A s.heap s.heap [] := va_S.rf
  generalize hQe : MQ below _ args s 0 0 A = Q
  rw [show entryFrame m args 4 = F0 m 0 ((lg_sl ([.ref (a1 0), .int x1, .int x2, .int x3]) ++ List.replicate (4 - (lg_sl ([.ref (a1 0), .int x1, .int x2, .int x3])).length) Slot.unset).toArray) [] from by rw [hav]; exact lg_entry_eq m _ _]
  have hl := lv_entry ([.ref (a1 0), .int x1, .int x2, .int x3]) (n := 4) (Nat.le_of_ble_eq_true rfl)
  generalize (lg_sl ([.ref (a1 0), .int x1, .int x2, .int x3]) ++ List.replicate (4 - (lg_sl ([.ref (a1 0), .int x1, .int x2, .int x3])).length) Slot.unset).toArray = ls at hl ⊢
  have hl : lv_has ls 4 [(0, .ref (a1 0)), (1, .int x1), (2, .int x2), (3, .int x3)] := hl
  unfold rr_X10_bill at hR
  refine lv_iload_n hx hb dX10_bill_0 rfl (lv_at hl 1 rfl) ?_
  refine lv_iload_n hx hb dX10_bill_1 rfl (lv_at hl 2 rfl) ?_
  refine lv_iload_n hx hb dX10_bill_2 rfl (lv_at hl 3 rfl) ?_
  have hR0 := ob_ok hR
  clear hR
  obtain ⟨q1, hq1, hR⟩ := hR0
  refine va_calli (va_runS (As := [.int x1, .int x2, .int x3]) (rest := []) ⟨hx, hb, hml, hown, hts⟩ (cc_X10_isBill l dC dI fu s.heap.size x1 x2 x3 q1 hq1) (va_cwS 3 hts gX10_bill_X10_isBill rfl rfl rfl (by decide +kernel) ⟨Nat.le_of_ble_eq_true rfl, Nat.le_of_ble_eq_true rfl⟩) (pf_s (nil_K hK) nil_P (nil_D (A := A))) rfl rfl hl.1 rfl (lv_room (Nat.le_of_ble_eq_true rfl)) dX10_bill_3 ⟨Nat.le_refl _, Nat.le_refl _⟩) hS (fun q _ h => (fr_none hS hA) q h) (fr_none hS hA) (fun r1 v1 t1 H1 locs1 ht1 hvm1 hw1 hB1 hz1 hk1 hS1 => ?_)
  subst hw1
  have hP1 := jn_none hP hk1
  have hD1 := hD
  have hP1 : va_P (dC, dI) vwCl (zc_10 a1 k1 s1) H1 := hP1
  have hD1 : va_D A (zc_10 a1 k1 s1) := hD1
  clear hP hD hS hB1 hk1 hvm1 hz1 ht1
  refine lv_if_ne (tgt := 11) hx hb dX10_bill_6 (by decide) (fun c2 => ?_) (fun c2 => ?_)
  · replace hR := ifn_ hR c2
    refine lv_aload_n hx hb dX10_bill_11 rfl (lv_at hl 0 rfl) ?_
    refine lv_iload_n hx hb dX10_bill_12 rfl (lv_at hl 1 rfl) ?_
    refine lv_iload_n hx hb dX10_bill_13 rfl (lv_at hl 2 rfl) ?_
    refine lv_iload_n hx hb dX10_bill_14 rfl (lv_at hl 3 rfl) ?_
    have hR0 := ob_ok hR
    clear hR
    obtain ⟨q3, hq3, hR⟩ := hR0
    refine va_calli (va_runV (As := [.int x1, .int x2, .int x3]) (rest := []) ⟨hx, hb, hml, hown, hts⟩ (cc_X10_doBill l dC dI fu a1 k1 H1.size x1 x2 x3 s1 q3 hq3) (cwV 3 hts gX10_bill_X10_doBill rfl rfl rfl (by decide +kernel) ⟨Nat.le_of_ble_eq_true rfl, Nat.le_of_ble_eq_true rfl⟩) (pf_v hK hP1 hD1 10 0 rfl rfl rfl) rfl rfl hl.1 rfl (lv_room (Nat.le_of_ble_eq_true rfl)) dX10_bill_15 ⟨Nat.le_refl _, Nat.le_refl _⟩) hS1 (fun q _ h => (fr_all hD1 hS1 hA) q h) (fr_all hD1 hS1 hA) (fun r3 v3 t3 H3 locs3 ht3 hvm3 hw3 hB3 hz3 hk3 hS3 => ?_)
    obtain rfl : r3 = q3.1 := (congrArg Prod.fst hw3).symm
    obtain rfl : v3 = q3.2 := (congrArg Prod.snd hw3).symm
    obtain ⟨hP3, hD3⟩ := jn_all hD1 hS1 hA ht3 hB3
    have hP3 : va_P (dC, dI) vwCl (zc_10 a1 k1 q3.2) H3 := hP3
    have hD3 : va_D A (zc_10 a1 k1 q3.2) := hD3
    clear hP1 hD1 hS1 hB3 hk3 hvm3 hz3 ht3
    refine lv_if_eq (tgt := 33) hx hb dX10_bill_18 (by decide) (fun c4 => ?_) (fun c4 => ?_)
    · replace hR := ifp_ hR c4
      refine lv_bipush (v := (-2 : Int32)) hx hb dX10_bill_33 (by decide) ?_
      subst hQe
      exact W.iret (v := (-2 : Int32)) hx hb hr (fun t ht hW => ⟨⟨(-2 : Int32), q3.2, rfl, (Option.some.inj hR).symm, by rw [ht]; exact hP3, va_K.moved hW.alike hK, hD3⟩, hS3.F ht⟩) hS3.2.2 dX10_bill_35
    · replace hR := ifn_ hR c4
      refine lv_aload_n hx hb dX10_bill_21 rfl (lv_at hl 0 rfl) ?_
      refine va_get (D := (dC, dI)) (ci := 10) (v := .int q3.2.2.2.2.2.2.1.2.2.2.1) (C := RX10) (T := TX10) (N := 35) hx hb hts hin10 hown hK hP3 0 rfl rfl 22 (by decide) (hts (.fieldLink RX10 199 "OldestCoinsModel" "due" "I") (List.mem_of_getElem? (i := 1) rfl)) (fun _ h9 => h9) rfl dX10_bill_22 ?_
      refine lv_aload_n hx hb dX10_bill_25 rfl (lv_at hl 0 rfl) ?_
      refine va_get (D := (dC, dI)) (ci := 10) (v := .int q3.2.2.2.2.2.2.1.2.2.2.2) (C := RX10) (T := TX10) (N := 35) hx hb hts hin10 hown hK hP3 0 rfl rfl 23 (by decide) (hts (.fieldLink RX10 202 "OldestCoinsModel" "left" "I") (List.mem_of_getElem? (i := 2) rfl)) (fun _ h9 => h9) rfl dX10_bill_26 ?_
      refine lv_isub hx hb dX10_bill_29 ?_
      refine lv_goto (tgt := 35) hx hb dX10_bill_30 (by decide) ?_
      subst hQe
      exact W.iret (v := (q3.2.2.2.2.2.2.1.2.2.2.1 - q3.2.2.2.2.2.2.1.2.2.2.2)) hx hb hr (fun t ht hW => ⟨⟨(q3.2.2.2.2.2.2.1.2.2.2.1 - q3.2.2.2.2.2.2.1.2.2.2.2), q3.2, rfl, (Option.some.inj hR).symm, by rw [ht]; exact hP3, va_K.moved hW.alike hK, hD3⟩, hS3.F ht⟩) hS3.2.2 dX10_bill_35
  · replace hR := ifp_ hR c2
    refine lv_iconst (v := (-1 : Int32)) hx hb dX10_bill_9 (by decide) ?_
    subst hQe
    exact W.iret (v := (-1 : Int32)) hx hb hr (fun t ht hW => ⟨⟨(-1 : Int32), s1, rfl, (Option.some.inj hR).symm, by rw [ht]; exact hP1, va_K.moved hW.alike hK, hD1⟩, hS1.F ht⟩) hS1.2.2 dX10_bill_10
def rr_X10_count_4_b (fu : Nat) (s1 : ZT_10) (rec4 : Int32 → Int32 → Int32 → Option (Int32)) (y1 : Int32) (y2 : Int32) (y3 : Int32) : Option (Int32) := (if s1.1.2.2.2.2.2.1 ≤ y3 then (if y1 = (0 : Int32) then some s1.1.2.2.2.2.2.1 else (if y1 = (1 : Int32) then some y2 else (if y1 = (2 : Int32) then some s1.2.2.1.2 else (if y1 = (3 : Int32) then some s1.2.1.2.2 else some (-1 : Int32))))) else ck_ y3 40 (lt_ (α := Int32) (y2 + (s1.1.1 y3.toNatClampNeg)) (fun z9 => lt_ (α := Int32) (y3 + (1 : Int32)) (fun z11 => rec4 y1 z9 z11))))
def rr_X10_count_4 (fu : Nat) (s1 : ZT_10) (n : Nat) : Int32 → Int32 → Int32 → Option (Int32) := lp_ (fun _ _ _ => none) (rr_X10_count_4_b fu s1) n
def rr_X10_count (fu : Nat) (x1 : Int32) (s1 : ZT_10) : Option (Int32) := rr_X10_count_4 fu s1 fu x1 (0 : Int32) (0 : Int32)
set_option maxHeartbeats 4000000 in
set_option maxRecDepth 100000 in
theorem cc_X10_count (l : Launch) (dC : Nat → ClassId) (dI : Nat → Nat → Nat) (fu : Nat) (a1 : Nat → Nat) (k1 : Nat → ClassId) (sz : Nat) (x1 : Int32) (s1 : ZT_10) (res : Int32) (hR : rr_X10_count fu x1 s1 = some res) : Met l yX10_count wsX10_count ({ frames := 0, cells := 0, slots := 0, locals := 0 } : Room) (PcF [.ref (a1 0), .int x1] sz (dC, dI) (zc_10 a1 k1 s1) (zt_10 k1)) (va_Qi (fun (r : Int32) (u : Unit) => res = r) (fun u t => at3_ (dC, dI) (zc_10 a1 k1 s1) (zt_10 k1) (va_A (zc_10 a1 k1 s1) sz) t) (va_A (zc_10 a1 k1 s1) sz)) 0 0 (va_A (zc_10 a1 k1 s1) sz) := by
  refine Met.ofW (cc := cX10_count) (maxL := 4) (ret := (some .int)) (by decide) rfl ?_
  intro p e s m args below meth c s₁ B hml hv
  obtain ⟨hav, hsz, hP, hK, hD0⟩ := hv
  have hx := B.exec
  have hb := B.bytes
  have hr := B.returns
  have hts := atoms_spec (ws := wsX10_count) B.pre
  have hown : s.vm.findClass RX10 = some m.cls := findClass_of_methodNamed B.named
  have hlocks := B.notSynchronized
  have hin10 : ∀ w ∈ wsX100, w ∈ wsX10_count := fun w h => List.mem_cons_of_mem _ (List.mem_append_right _ h)
  subst hsz
  have hD := hD0.self (sz := s.heap.size)
  clear hD0
  generalize hAe : va_A (zc_10 a1 k1 s1) s.heap.size = A at hD ⊢
  have hA : ∀ q : Nat, s.heap.size ≤ q → A q := fun q h => by rw [← hAe]; exact Or.inr h
  have hS : va_S A s.heap s.heap [] := va_S.rf
  generalize hQe : MQ below _ args s 0 0 A = Q
  rw [show entryFrame m args 4 = F0 m 0 ((lg_sl ([.ref (a1 0), .int x1]) ++ List.replicate (4 - (lg_sl ([.ref (a1 0), .int x1])).length) Slot.unset).toArray) [] from by rw [hav]; exact lg_entry_eq m _ _]
  have hl := lv_entry ([.ref (a1 0), .int x1]) (n := 4) (Nat.le_of_ble_eq_true rfl)
  generalize (lg_sl ([.ref (a1 0), .int x1]) ++ List.replicate (4 - (lg_sl ([.ref (a1 0), .int x1])).length) Slot.unset).toArray = ls at hl ⊢
  have hl : lv_has ls 4 [(0, .ref (a1 0)), (1, .int x1)] := hl
  have hB4 : ∀ (n : Nat), ∀ (y1 : Int32) (y2 : Int32) (y3 : Int32) (H : Heap) (locs : List Loc) (ls : Array Slot), va_P (dC, dI) vwCl (zc_10 a1 k1 s1) H → va_D A (zc_10 a1 k1 s1) → va_S A s.heap H locs → lv_has ls 4 [(0, .ref (a1 0)), (1, .int y1), (2, .int y2), (3, .int y3)] → rr_X10_count_4 fu s1 n y1 y2 y3 = some res → W p l e ({ frames := 0, cells := 0, slots := 0, locals := 0 } : Room) s m args below meth c H locs 0 0 Q (F0 m 4 ls []) := by
    intro  n
    induction n with
    | zero => intro y1 y2 y3 H locs ls hP hD hS hl hR; exact absurd hR (by intro h; cases h)
    | succ n ih =>
      intro y1 y2 y3 H locs ls hP hD hS hl hR
      replace hR : rr_X10_count_4_b fu s1 (rr_X10_count_4 fu s1 n) y1 y2 y3 = some res := hR
      unfold rr_X10_count_4_b at hR
      refine lv_iload_n hx hb dX10_count_4 rfl (lv_at hl 3 rfl) ?_
      refine lv_aload_n hx hb dX10_count_5 rfl (lv_at hl 0 rfl) ?_
      refine va_get (D := (dC, dI)) (ci := 10) (v := .int s1.1.2.2.2.2.2.1) (C := RX10) (T := TX10) (N := 35) hx hb hts hin10 hown hK hP 0 rfl rfl 5 (by decide) (hts (.fieldLink RX10 74 "OldestCoinsModel" "many" "I") (List.mem_of_getElem? (i := 1) rfl)) (fun _ h9 => h9) rfl dX10_count_6 ?_
      refine lv_icmp_ge (tgt := 27) hx hb dX10_count_9 (by decide) (fun c3 => ?_) (fun c3 => ?_)
      · replace hR := ifp_ hR c3
        refine lv_iload_n hx hb dX10_count_27 rfl (lv_at hl 1 rfl) ?_
        refine lv_if_ne (tgt := 38) hx hb dX10_count_28 (by decide) (fun c4 => ?_) (fun c4 => ?_)
        · replace hR := ifn_ hR c4
          refine lv_iload_n hx hb dX10_count_38 rfl (lv_at hl 1 rfl) ?_
          refine lv_iconst (v := (1 : Int32)) hx hb dX10_count_39 (by decide) ?_
          refine lv_icmp_ne (tgt := 47) hx hb dX10_count_40 (by decide) (fun c5 => ?_) (fun c5 => ?_)
          · replace hR := ifn_ hR c5
            refine lv_iload_n hx hb dX10_count_47 rfl (lv_at hl 1 rfl) ?_
            refine lv_iconst (v := (2 : Int32)) hx hb dX10_count_48 (by decide) ?_
            refine lv_icmp_ne (tgt := 59) hx hb dX10_count_49 (by decide) (fun c6 => ?_) (fun c6 => ?_)
            · replace hR := ifn_ hR c6
              refine lv_iload_n hx hb dX10_count_59 rfl (lv_at hl 1 rfl) ?_
              refine lv_iconst (v := (3 : Int32)) hx hb dX10_count_60 (by decide) ?_
              refine lv_icmp_ne (tgt := 71) hx hb dX10_count_61 (by decide) (fun c7 => ?_) (fun c7 => ?_)
              · replace hR := ifn_ hR c7
                refine lv_iconst (v := (-1 : Int32)) hx hb dX10_count_71 (by decide) ?_
                subst hQe
                exact W.iret (v := (-1 : Int32)) hx hb hr (fun t ht hW => ⟨⟨(-1 : Int32), (), rfl, (Option.some.inj hR).symm, by rw [ht]; exact hP, va_K.moved hW.alike hK, hD⟩, hS.F ht⟩) hS.2.2 dX10_count_72
              · replace hR := ifp_ hR c7
                refine lv_aload_n hx hb dX10_count_64 rfl (lv_at hl 0 rfl) ?_
                refine va_get (D := (dC, dI)) (ci := 10) (v := .int s1.2.1.2.2) (C := RX10) (T := TX10) (N := 35) hx hb hts hin10 hown hK hP 0 rfl rfl 9 (by decide) (hts (.fieldLink RX10 135 "OldestCoinsModel" "errands" "I") (List.mem_of_getElem? (i := 4) rfl)) (fun _ h9 => h9) rfl dX10_count_65 ?_
                refine lv_goto (tgt := 72) hx hb dX10_count_68 (by decide) ?_
                subst hQe
                exact W.iret (v := s1.2.1.2.2) hx hb hr (fun t ht hW => ⟨⟨s1.2.1.2.2, (), rfl, (Option.some.inj hR).symm, by rw [ht]; exact hP, va_K.moved hW.alike hK, hD⟩, hS.F ht⟩) hS.2.2 dX10_count_72
            · replace hR := ifp_ hR c6
              refine lv_aload_n hx hb dX10_count_52 rfl (lv_at hl 0 rfl) ?_
              refine va_get (D := (dC, dI)) (ci := 10) (v := .int s1.2.2.1.2) (C := RX10) (T := TX10) (N := 35) hx hb hts hin10 hown hK hP 0 rfl rfl 11 (by decide) (hts (.fieldLink RX10 132 "OldestCoinsModel" "billMany" "I") (List.mem_of_getElem? (i := 3) rfl)) (fun _ h9 => h9) rfl dX10_count_53 ?_
              refine lv_goto (tgt := 72) hx hb dX10_count_56 (by decide) ?_
              subst hQe
              exact W.iret (v := s1.2.2.1.2) hx hb hr (fun t ht hW => ⟨⟨s1.2.2.1.2, (), rfl, (Option.some.inj hR).symm, by rw [ht]; exact hP, va_K.moved hW.alike hK, hD⟩, hS.F ht⟩) hS.2.2 dX10_count_72
          · replace hR := ifp_ hR c5
            refine lv_iload_n hx hb dX10_count_43 rfl (lv_at hl 2 rfl) ?_
            refine lv_goto (tgt := 72) hx hb dX10_count_44 (by decide) ?_
            subst hQe
            exact W.iret (v := y2) hx hb hr (fun t ht hW => ⟨⟨y2, (), rfl, (Option.some.inj hR).symm, by rw [ht]; exact hP, va_K.moved hW.alike hK, hD⟩, hS.F ht⟩) hS.2.2 dX10_count_72
        · replace hR := ifp_ hR c4
          refine lv_aload_n hx hb dX10_count_31 rfl (lv_at hl 0 rfl) ?_
          refine va_get (D := (dC, dI)) (ci := 10) (v := .int s1.1.2.2.2.2.2.1) (C := RX10) (T := TX10) (N := 35) hx hb hts hin10 hown hK hP 0 rfl rfl 5 (by decide) (hts (.fieldLink RX10 74 "OldestCoinsModel" "many" "I") (List.mem_of_getElem? (i := 1) rfl)) (fun _ h9 => h9) rfl dX10_count_32 ?_
          refine lv_goto (tgt := 72) hx hb dX10_count_35 (by decide) ?_
          subst hQe
          exact W.iret (v := s1.1.2.2.2.2.2.1) hx hb hr (fun t ht hW => ⟨⟨s1.1.2.2.2.2.2.1, (), rfl, (Option.some.inj hR).symm, by rw [ht]; exact hP, va_K.moved hW.alike hK, hD⟩, hS.F ht⟩) hS.2.2 dX10_count_72
      · replace hR := ifn_ hR c3
        refine lv_iload_n hx hb dX10_count_12 rfl (lv_at hl 2 rfl) ?_
        refine lv_aload_n hx hb dX10_count_13 rfl (lv_at hl 0 rfl) ?_
        refine va_get (D := (dC, dI)) (ci := 10) (v := .ref (a1 1)) (C := RX10) (T := TX10) (N := 35) hx hb hts hin10 hown hK hP 0 rfl rfl 0 (by decide) (hts (.fieldLink RX10 7 "OldestCoinsModel" "worths" "[I") (List.mem_of_getElem? (i := 2) rfl)) (fun _ h9 => h9) rfl dX10_count_14 ?_
        refine lv_iload_n hx hb dX10_count_17 rfl (lv_at hl 3 rfl) ?_
        have i8 := (ck_ok hR).1
        replace hR := (ck_ok hR).2
        refine va_iald (f := s1.1.1) hx hb hK hP 1 0 rfl rfl i8 dX10_count_18 ?_
        refine lv_iadd hx hb dX10_count_19 ?_
        refine lv_topi (fun z9 ez9 => ?_)
        replace hR := lt_ok hR ez9
        refine lv_istore_n (lv' := [(2, .int z9), (0, .ref (a1 0)), (1, .int y1), (3, .int y3)]) hx hb dX10_count_20 rfl hl (by decide) rfl (fun ls10 hl10 => ?_)
        obtain ⟨z11, ez11⟩ : ∃ y : Int32, y = (y3 + (1 : Int32)) := ⟨_, rfl⟩
        replace hR := lt_ok hR ez11
        refine lv_iinc (v := z11) (lv' := [(3, .int z11), (2, .int z9), (0, .ref (a1 0)), (1, .int y1)]) hx hb dX10_count_21 hl10 (k := 3) rfl (by rw [ez11]; rfl) (by decide) rfl (fun ls11 hl11 => ?_)
        refine lv_goto (tgt := 4) hx hb dX10_count_24 (by decide) ?_
        exact ih y1 z9 z11 H locs ls11 hP hD hS (lv_sub hl11 [2, 3, 1, 0] rfl) hR
  unfold rr_X10_count at hR
  refine lv_iconst (v := (0 : Int32)) hx hb dX10_count_0 (by decide) ?_
  refine lv_istore_n (lv' := [(2, .int (0 : Int32)), (0, .ref (a1 0)), (1, .int x1)]) hx hb dX10_count_1 rfl hl (by decide) rfl (fun ls1 hl1 => ?_)
  refine lv_iconst (v := (0 : Int32)) hx hb dX10_count_2 (by decide) ?_
  refine lv_istore_n (lv' := [(3, .int (0 : Int32)), (2, .int (0 : Int32)), (0, .ref (a1 0)), (1, .int x1)]) hx hb dX10_count_3 rfl hl1 (by decide) rfl (fun ls2 hl2 => ?_)
  exact hB4 fu x1 (0 : Int32) (0 : Int32) s.heap [] ls2 hP hD hS (lv_sub hl2 [2, 3, 1, 0] rfl) hR
