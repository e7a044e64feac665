def rr_X0_copyFrom_7_b (fu : Nat) (n1 : Nat) (n2 : Nat) (s2 : ZT_0) (rec7 : Int32 → ZT_0 → Option (ZT_0)) (y2 : Int32) (u1 : ZT_0) : Option (ZT_0) := (if s2.1 ≤ y2 then some u1 else ck_ y2 n2 (ck_ y2 n2 (ck_ y2 n2 ((rr_X0_add fu n1 (s2.2.1 y2.toNatClampNeg) (s2.2.2.1 y2.toNatClampNeg) (s2.2.2.2 y2.toNatClampNeg) u1).bind (fun q7 => lt_ (α := Int32) (y2 + (1 : Int32)) (fun z8 => rec7 z8 q7))))))
def rr_X0_copyFrom_7 (fu : Nat) (n1 : Nat) (n2 : Nat) (s2 : ZT_0) (n : Nat) : Int32 → ZT_0 → Option (ZT_0) := lp_ (fun _ _ => none) (rr_X0_copyFrom_7_b fu n1 n2 s2) n
def rr_X0_copyFrom (fu : Nat) (n1 : Nat) (n2 : Nat) (s1 : ZT_0) (s2 : ZT_0) : Option (ZT_0) := rr_X0_copyFrom_7 fu n1 n2 s2 fu (0 : Int32) ((0 : Int32), s1.2)
set_option maxRecDepth 100000 in
theorem sb_0_0__0c0 (a1 : Nat → Nat) (a2 : Nat → Nat) (k1 : Nat → ClassId) (k2 : Nat → ClassId) (n1 : Nat) (n2 : Nat) (s1 : ZT_0) (s2 : ZT_0) : List.Perm (zc_0 a1 k1 n1 s1 ++ zc_0 a2 k2 n2 s2) ((zc_0 a1 k1 n1 s1) ++ (([] : va_W) ++ zc_0 a2 k2 n2 s2)) := (pu_l (zc_0 a2 k2 n2 s2) (pu_1 (zc_0 a1 k1 n1 s1)))
set_option maxRecDepth 100000 in
theorem jo_0_0__0c0__0 (a1 : Nat → Nat) (a2 : Nat → Nat) (k1 : Nat → ClassId) (k2 : Nat → ClassId) (n1 : Nat) (n2 : Nat) (s1 : ZT_0) (s2 : ZT_0) (u1 : ZT_0) : List.Perm (zc_0 a1 k1 n1 u1 ++ zc_0 a2 k2 n2 s2) ((zc_0 a1 k1 n1 u1) ++ (([] : va_W) ++ zc_0 a2 k2 n2 s2)) := (pu_l (zc_0 a2 k2 n2 s2) (pu_1 (zc_0 a1 k1 n1 u1)))
set_option maxHeartbeats 4000000 in
set_option maxRecDepth 100000 in
theorem cc_X0_copyFrom (l : Launch) (dC : Nat → ClassId) (dI : Nat → Nat → Nat) (fu : Nat) (a1 : Nat → Nat) (a2 : Nat → Nat) (k1 : Nat → ClassId) (k2 : Nat → ClassId) (n1 : Nat) (n2 : Nat) (sz : Nat) (s1 : ZT_0) (s2 : ZT_0) (res : ZT_0) (hR : rr_X0_copyFrom fu n1 n2 s1 s2 = some res) : Met l yX0_copyFrom wsX0_copyFrom ({ frames := 1, cells := 0, slots := 0, locals := 23 } : Room) (PcF [.ref (a1 0), .ref (a2 0)] sz (dC, dI) (zc_0 a1 k1 n1 s1 ++ zc_0 a2 k2 n2 s2) (zt_0 k1 ++ zt_0 k2)) (va_Qv (fun u : ZT_0 => res = u) (fun u t => at3_ (dC, dI) (zc_0 a1 k1 n1 u ++ zc_0 a2 k2 n2 s2) (zt_0 k1 ++ zt_0 k2) (va_A (zc_0 a1 k1 n1 s1 ++ zc_0 a2 k2 n2 s2) sz) t) (va_A (zc_0 a1 k1 n1 s1 ++ zc_0 a2 k2 n2 s2) sz)) 0 0 (va_A (zc_0 a1 k1 n1 s1 ++ zc_0 a2 k2 n2 s2) sz) := by
  refine Met.ofW (cc := cX0_copyFrom) (maxL := 3) (ret := none) (by decide) rfl ?_
  intro p e s m args below meth c s₁ B hml hv
  obtain ⟨hav, hsz, hP, hK, hD0⟩ := hv
  have hx := B.exec
  have hb := B.bytes
  have hr := B.returns
  have hts := atoms_spec (ws := wsX0_copyFrom) B.pre
  have hown : s.vm.findClass RX0 = some m.cls := findClass_of_methodNamed B.named
  have hlocks := B.notSynchronized
  have hin0 : ∀ w ∈ wsX00, w ∈ wsX0_copyFrom := fun w h => List.mem_cons_of_mem _ (List.mem_append_right _ h)
  subst hsz
  have hD := hD0.self (sz := s.heap.size)
  clear hD0
  generalize hAe : va_A (zc_0 a1 k1 n1 s1 ++ zc_0 a2 k2 n2 s2) s.heap.size = A at hD ⊢
  have hA : ∀ q : Nat, s.heap.size ≤ q → A q := fun q h => by rw [← hAe]; exact Or.inr h
  have hS : va_S A s.heap s.heap [] := va_S.rf
  generalize hQe : MQ below _ args s 0 0 A = Q
  rw [show entryFrame m args 3 = F0 m 0 ((lg_sl ([.ref (a1 0), .ref (a2 0)]) ++ List.replicate (3 - (lg_sl ([.ref (a1 0), .ref (a2 0)])).length) Slot.unset).toArray) [] from by rw [hav]; exact lg_entry_eq m _ _]
  have hl := lv_entry ([.ref (a1 0), .ref (a2 0)]) (n := 3) (Nat.le_of_ble_eq_true rfl)
  generalize (lg_sl ([.ref (a1 0), .ref (a2 0)]) ++ List.replicate (3 - (lg_sl ([.ref (a1 0), .ref (a2 0)])).length) Slot.unset).toArray = ls at hl ⊢
  have hl : lv_has ls 3 [(0, .ref (a1 0)), (1, .ref (a2 0))] := hl
  have hB7 : ∀ (n : Nat), ∀ (y2 : Int32) (u1 : ZT_0) (H : Heap) (locs : List Loc) (ls : Array Slot), va_P (dC, dI) vwCl (zc_0 a1 k1 n1 u1 ++ zc_0 a2 k2 n2 s2) H → va_D A (zc_0 a1 k1 n1 u1 ++ zc_0 a2 k2 n2 s2) → va_S A s.heap H locs → lv_has ls 3 [(0, .ref (a1 0)), (1, .ref (a2 0)), (2, .int y2)] → rr_X0_copyFrom_7 fu n1 n2 s2 n y2 u1 = some res → W p l e ({ frames := 1, cells := 0, slots := 0, locals := 23 } : Room) s m args below meth c H locs 0 0 Q (F0 m 7 ls []) := by
    intro  n
    induction n with
    | zero => intro y2 u1 H locs ls hP hD hS hl hR; exact absurd hR (by intro h; cases h)
    | succ n ih =>
      intro y2 u1 H locs ls hP hD hS hl hR
      replace hR : rr_X0_copyFrom_7_b fu n1 n2 s2 (rr_X0_copyFrom_7 fu n1 n2 s2 n) y2 u1 = some res := hR
      unfold rr_X0_copyFrom_7_b at hR
      refine lv_iload_n hx hb dX0_copyFrom_7 rfl (lv_at hl 2 rfl) ?_
      refine lv_aload_n hx hb dX0_copyFrom_8 rfl (lv_at hl 1 rfl) ?_
      refine va_get (D := (dC, dI)) (ci := 0) (v := .int s2.1) (C := RX0) (T := TX0) (N := 4) hx hb hts hin0 hown hK hP 4 rfl rfl 0 (by decide) (hts (.fieldLink RX0 19 "OldestCoins$Bills" "size" "I") (List.mem_of_getElem? (i := 1) rfl)) (fun _ h9 => h9) rfl dX0_copyFrom_9 ?_
      refine lv_icmp_ge (tgt := 43) hx hb dX0_copyFrom_12 (by decide) (fun c3 => ?_) (fun c3 => ?_)
      · replace hR := ifp_ hR c3
        subst hQe
        exact W.vret hx hb hr (fun t ht hW => ⟨⟨u1, rfl, (Option.some.inj hR).symm, by rw [ht]; exact hP, va_K.moved hW.alike hK, hD⟩, hS.F ht⟩) hS.2.2 dX0_copyFrom_43
      · replace hR := ifn_ hR c3
        refine lv_aload_n hx hb dX0_copyFrom_15 rfl (lv_at hl 0 rfl) ?_
        refine lv_aload_n hx hb dX0_copyFrom_16 rfl (lv_at hl 1 rfl) ?_
        refine va_get (D := (dC, dI)) (ci := 0) (v := .ref (a2 1)) (C := RX0) (T := TX0) (N := 4) hx hb hts hin0 hown hK hP 4 rfl rfl 1 (by decide) (hts (.fieldLink RX0 7 "OldestCoins$Bills" "purse" "[I") (List.mem_of_getElem? (i := 2) rfl)) (fun _ h9 => h9) rfl dX0_copyFrom_17 ?_
        refine lv_iload_n hx hb dX0_copyFrom_20 rfl (lv_at hl 2 rfl) ?_
        have i4 := (ck_ok hR).1
        replace hR := (ck_ok hR).2
        refine va_iald (f := s2.2.1) hx hb hK hP 5 3 rfl rfl i4 dX0_copyFrom_21 ?_
        refine lv_aload_n hx hb dX0_copyFrom_22 rfl (lv_at hl 1 rfl) ?_
        refine va_get (D := (dC, dI)) (ci := 0) (v := .ref (a2 2)) (C := RX0) (T := TX0) (N := 4) hx hb hts hin0 hown hK hP 4 rfl rfl 2 (by decide) (hts (.fieldLink RX0 13 "OldestCoins$Bills" "shop" "[I") (List.mem_of_getElem? (i := 3) rfl)) (fun _ h9 => h9) rfl dX0_copyFrom_23 ?_
        refine lv_iload_n hx hb dX0_copyFrom_26 rfl (lv_at hl 2 rfl) ?_
        have i5 := (ck_ok hR).1
        replace hR := (ck_ok hR).2
        refine va_iald (f := s2.2.2.1) hx hb hK hP 6 4 rfl rfl i5 dX0_copyFrom_27 ?_
        refine lv_aload_n hx hb dX0_copyFrom_28 rfl (lv_at hl 1 rfl) ?_
        refine va_get (D := (dC, dI)) (ci := 0) (v := .ref (a2 3)) (C := RX0) (T := TX0) (N := 4) hx hb hts hin0 hown hK hP 4 rfl rfl 3 (by decide) (hts (.fieldLink RX0 16 "OldestCoins$Bills" "sum" "[I") (List.mem_of_getElem? (i := 4) rfl)) (fun _ h9 => h9) rfl dX0_copyFrom_29 ?_
        refine lv_iload_n hx hb dX0_copyFrom_32 rfl (lv_at hl 2 rfl) ?_
        have i6 := (ck_ok hR).1
        replace hR := (ck_ok hR).2
        refine va_iald (f := s2.2.2.2) hx hb hK hP 7 5 rfl rfl i6 dX0_copyFrom_33 ?_
        have hR0 := ob_ok hR
        clear hR
        obtain ⟨q7, hq7, hR⟩ := hR0
        refine va_callv (va_runV (As := [.int (s2.2.1 y2.toNatClampNeg), .int (s2.2.2.1 y2.toNatClampNeg), .int (s2.2.2.2 y2.toNatClampNeg)]) (rest := []) ⟨hx, hb, hml, hown, hts⟩ (cc_X0_add l dC dI fu a1 k1 n1 H.size (s2.2.1 y2.toNatClampNeg) (s2.2.2.1 y2.toNatClampNeg) (s2.2.2.2 y2.toNatClampNeg) u1 q7 hq7) (cwV 3 hts gX0_copyFrom_X0_add rfl rfl rfl (by decide +kernel) ⟨Nat.le_of_ble_eq_true rfl, Nat.le_of_ble_eq_true rfl⟩) (pf_v (hK.sub (tys' := zt_0 k1) [0, 1, 2] rfl) (sub_P (sb_0_0__0c0 a1 a2 k1 k2 n1 n2 u1 s2) hP) (sub_D (sb_0_0__0c0 a1 a2 k1 k2 n1 n2 u1 s2) hD) 0 0 rfl rfl rfl) rfl rfl hl.1 rfl (lv_room (Nat.le_of_ble_eq_true rfl)) dX0_copyFrom_34 ⟨Nat.le_refl _, Nat.le_refl _⟩) hS (fun q _ h => (sub_F (sb_0_0__0c0 a1 a2 k1 k2 n1 n2 u1 s2) hD hS hA) q h) (sub_F (sb_0_0__0c0 a1 a2 k1 k2 n1 n2 u1 s2) hD hS hA) (fun v7 t7 H7 locs7 ht7 hvm7 hw7 hB7 hz7 hk7 hS7 => ?_)
        subst hw7
        obtain ⟨hP7, hD7⟩ := jn_sub (sb_0_0__0c0 a1 a2 k1 k2 n1 n2 u1 s2) (jo_0_0__0c0__0 a1 a2 k1 k2 n1 n2 u1 s2 q7) rfl hP hD hk7 ht7 hB7
        have hP7 : va_P (dC, dI) vwCl (zc_0 a1 k1 n1 q7 ++ zc_0 a2 k2 n2 s2) H7 := hP7
        have hD7 : va_D A (zc_0 a1 k1 n1 q7 ++ zc_0 a2 k2 n2 s2) := hD7
        clear hP hD hS hB7 hk7 hvm7 hz7 ht7
        obtain ⟨z8, ez8⟩ : ∃ y : Int32, y = (y2 + (1 : Int32)) := ⟨_, rfl⟩
        replace hR := lt_ok hR ez8
        refine lv_iinc (v := z8) (lv' := [(2, .int z8), (0, .ref (a1 0)), (1, .ref (a2 0))]) hx hb dX0_copyFrom_37 hl (k := 2) rfl (by rw [ez8]; rfl) (by decide) rfl (fun ls8 hl8 => ?_)
        refine lv_goto (tgt := 7) hx hb dX0_copyFrom_40 (by decide) ?_
        exact ih z8 q7 H7 locs7 ls8 hP7 hD7 hS7 (lv_sub hl8 [1, 2, 0] rfl) hR
  unfold rr_X0_copyFrom at hR
  refine lv_aload_n hx hb dX0_copyFrom_0 rfl (lv_at hl 0 rfl) ?_
  refine lv_iconst (v := (0 : Int32)) hx hb dX0_copyFrom_1 (by decide) ?_
  refine va_put (D := (dC, dI)) (ci := 0) (v := .int (0 : Int32)) (ty := .int) (C := RX0) (T := TX0) (N := 4) hx hb hts hin0 tyX0 tyX0_ok nmX0 hown hK hP hD hS 0 rfl rfl 0 (by decide) (hts (.fieldLink RX0 19 "OldestCoins$Bills" "size" "I") (List.mem_of_getElem? (i := 1) rfl)) (fun _ h9 => h9) rfl (by decide +kernel) rfl rfl (Nat.le_of_ble_eq_true rfl) dX0_copyFrom_2 (fun H1 locs1 hP1 hD1 hS1 => ?_)
  have hP1 : va_P (dC, dI) vwCl (zc_0 a1 k1 n1 ((0 : Int32), s1.2) ++ zc_0 a2 k2 n2 s2) H1 := hP1
  have hD1 : va_D A (zc_0 a1 k1 n1 ((0 : Int32), s1.2) ++ zc_0 a2 k2 n2 s2) := hD1
  clear hP hD hS
  refine lv_iconst (v := (0 : Int32)) hx hb dX0_copyFrom_5 (by decide) ?_
  refine lv_istore_n (lv' := [(2, .int (0 : Int32)), (0, .ref (a1 0)), (1, .ref (a2 0))]) hx hb dX0_copyFrom_6 rfl hl (by decide) rfl (fun ls2 hl2 => ?_)
  exact hB7 fu (0 : Int32) ((0 : Int32), s1.2) H1 locs1 ls2 hP1 hD1 hS1 (lv_sub hl2 [1, 2, 0] rfl) hR
def rr_X2_add (fu : Nat) (n1 : Nat) (x1 : Int32) (x2 : Int32) (x3 : Int32) (x4 : Int32) (x5 : Int32) (s1 : ZT_2) : Option (ZT_2) := (if s1.1 < (Int32.ofNat n1) then ck_ s1.1 n1 (ck_ s1.1 n1 (ck_ s1.1 n1 (ck_ s1.1 n1 (ck_ s1.1 n1 (lt_ (α := Int32) (s1.1 + (1 : Int32)) (fun z7 => some (z7, (upd s1.2.1 s1.1.toNatClampNeg x1), (upd s1.2.2.1 s1.1.toNatClampNeg x2), (upd s1.2.2.2.1 s1.1.toNatClampNeg x3), (upd s1.2.2.2.2.1 s1.1.toNatClampNeg x4), (upd s1.2.2.2.2.2 s1.1.toNatClampNeg x5)))))))) else some s1)
set_option maxHeartbeats 4000000 in
set_option maxRecDepth 100000 in
theorem cc_X2_add (l : Launch) (dC : Nat → ClassId) (dI : Nat → Nat → Nat) (fu : Nat) (a1 : Nat → Nat) (k1 : Nat → ClassId) (n1 : Nat) (sz : Nat) (x1 : Int32) (x2 : Int32) (x3 : Int32) (x4 : Int32) (x5 : Int32) (s1 : ZT_2) (res : ZT_2) (hR : rr_X2_add fu n1 x1 x2 x3 x4 x5 s1 = some res) : Met l yX2_add wsX2_add ({ frames := 0, cells := 0, slots := 0, locals := 0 } : Room) (PcF [.ref (a1 0), .int x1, .int x2, .int x3, .int x4, .int x5] sz (dC, dI) (zc_2 a1 k1 n1 s1) (zt_2 k1)) (va_Qv (fun u : ZT_2 => res = u) (fun u t => at3_ (dC, dI) (zc_2 a1 k1 n1 u) (zt_2 k1) (va_A (zc_2 a1 k1 n1 s1) sz) t) (va_A (zc_2 a1 k1 n1 s1) sz)) 0 0 (va_A (zc_2 a1 k1 n1 s1) sz) := by
  refine Met.ofW (cc := cX2_add) (maxL := 6) (ret := none) (by decide) rfl ?_
  intro p e s m args below meth c s₁ B hml hv
  obtain ⟨hav, hsz, hP, hK, hD0⟩ := hv
  have hx := B.exec
  have hb := B.bytes
  have hr := B.returns
  have hts := atoms_spec (ws := wsX2_add) B.pre
  have hown : s.vm.findClass RX2 = some m.cls := findClass_of_methodNamed B.named
  have hlocks := B.notSynchronized
  have hin2 : ∀ w ∈ wsX20, w ∈ wsX2_add := fun w h => List.mem_cons_of_mem _ (List.mem_append_right _ h)
  subst hsz
  have hD := hD0.self (sz := s.heap.size)
  clear hD0
  generalize hAe : va_A (zc_2 a1 k1 n1 s1) s.heap.size = A at hD ⊢
  have hA : ∀ q : Nat, s.heap.size ≤ q → A q := fun q h => by rw [← hAe]; exact Or.inr h
  have hS : va_S A s.heap s.heap [] := va_S.rf
  generalize hQe : MQ below _ args s 0 0 A = Q
  rw [show entryFrame m args 6 = F0 m 0 ((lg_sl ([.ref (a1 0), .int x1, .int x2, .int x3, .int x4, .int x5]) ++ List.replicate (6 - (lg_sl ([.ref (a1 0), .int x1, .int x2, .int x3, .int x4, .int x5])).length) Slot.unset).toArray) [] from by rw [hav]; exact lg_entry_eq m _ _]
  have hl := lv_entry ([.ref (a1 0), .int x1, .int x2, .int x3, .int x4, .int x5]) (n := 6) (Nat.le_of_ble_eq_true rfl)
  generalize (lg_sl ([.ref (a1 0), .int x1, .int x2, .int x3, .int x4, .int x5]) ++ List.replicate (6 - (lg_sl ([.ref (a1 0), .int x1, .int x2, .int x3, .int x4, .int x5])).length) Slot.unset).toArray = ls at hl ⊢
  have hl : lv_has ls 6 [(0, .ref (a1 0)), (1, .int x1), (2, .int x2), (3, .int x3), (4, .int x4), (5, .int x5)] := hl
  unfold rr_X2_add at hR
  refine lv_aload_n hx hb dX2_add_0 rfl (lv_at hl 0 rfl) ?_
  refine va_get (D := (dC, dI)) (ci := 2) (v := .int s1.1) (C := RX2) (T := TX2) (N := 6) hx hb hts hin2 hown hK hP 0 rfl rfl 0 (by decide) (hts (.fieldLink RX2 27 "OldestCoins$Coins" "size" "I") (List.mem_of_getElem? (i := 1) rfl)) (fun _ h9 => h9) rfl dX2_add_1 ?_
  refine lv_aload_n hx hb dX2_add_4 rfl (lv_at hl 0 rfl) ?_
  refine va_get (D := (dC, dI)) (ci := 2) (v := .ref (a1 1)) (C := RX2) (T := TX2) (N := 6) hx hb hts hin2 hown hK hP 0 rfl rfl 1 (by decide) (hts (.fieldLink RX2 9 "OldestCoins$Coins" "holder" "[I") (List.mem_of_getElem? (i := 2) rfl)) (fun _ h9 => h9) rfl dX2_add_5 ?_
  refine va_alen (v := (Int32.ofNat n1)) hx hb hK hP 1 0 rfl rfl rfl dX2_add_8 ?_
  refine lv_icmp_lt (tgt := 13) hx hb dX2_add_9 (by decide) (fun c1 => ?_) (fun c1 => ?_)
  · replace hR := ifp_ hR c1
    refine lv_aload_n hx hb dX2_add_13 rfl (lv_at hl 0 rfl) ?_
    refine va_get (D := (dC, dI)) (ci := 2) (v := .ref (a1 1)) (C := RX2) (T := TX2) (N := 6) hx hb hts hin2 hown hK hP 0 rfl rfl 1 (by decide) (hts (.fieldLink RX2 9 "OldestCoins$Coins" "holder" "[I") (List.mem_of_getElem? (i := 2) rfl)) (fun _ h9 => h9) rfl dX2_add_14 ?_
    refine lv_aload_n hx hb dX2_add_17 rfl (lv_at hl 0 rfl) ?_
    refine va_get (D := (dC, dI)) (ci := 2) (v := .int s1.1) (C := RX2) (T := TX2) (N := 6) hx hb hts hin2 hown hK hP 0 rfl rfl 0 (by decide) (hts (.fieldLink RX2 27 "OldestCoins$Coins" "size" "I") (List.mem_of_getElem? (i := 1) rfl)) (fun _ h9 => h9) rfl dX2_add_18 ?_
    refine lv_iload_n hx hb dX2_add_21 rfl (lv_at hl 1 rfl) ?_
    have i2 := (ck_ok hR).1
    replace hR := (ck_ok hR).2
    refine va_iast (f := s1.2.1) hx hb hK hP hD hS 1 0 rfl rfl i2 dX2_add_22 (fun H2 locs2 hP2 hD2 hS2 => ?_)
    have hP2 : va_P (dC, dI) vwCl (zc_2 a1 k1 n1 (s1.1, (upd s1.2.1 s1.1.toNatClampNeg x1), s1.2.2)) H2 := hP2
    have hD2 : va_D A (zc_2 a1 k1 n1 (s1.1, (upd s1.2.1 s1.1.toNatClampNeg x1), s1.2.2)) := hD2
    clear hP hD hS
    refine lv_aload_n hx hb dX2_add_23 rfl (lv_at hl 0 rfl) ?_
    refine va_get (D := (dC, dI)) (ci := 2) (v := .ref (a1 2)) (C := RX2) (T := TX2) (N := 6) hx hb hts hin2 hown hK hP2 0 rfl rfl 2 (by decide) (hts (.fieldLink RX2 15 "OldestCoins$Coins" "worth" "[I") (List.mem_of_getElem? (i := 3) rfl)) (fun _ h9 => h9) rfl dX2_add_24 ?_
    refine lv_aload_n hx hb dX2_add_27 rfl (lv_at hl 0 rfl) ?_
    refine va_get (D := (dC, dI)) (ci := 2) (v := .int s1.1) (C := RX2) (T := TX2) (N := 6) hx hb hts hin2 hown hK hP2 0 rfl rfl 0 (by decide) (hts (.fieldLink RX2 27 "OldestCoins$Coins" "size" "I") (List.mem_of_getElem? (i := 1) rfl)) (fun _ h9 => h9) rfl dX2_add_28 ?_
    refine lv_iload_n hx hb dX2_add_31 rfl (lv_at hl 2 rfl) ?_
    have i3 := (ck_ok hR).1
    replace hR := (ck_ok hR).2
    refine va_iast (f := s1.2.2.1) hx hb hK hP2 hD2 hS2 2 1 rfl rfl i3 dX2_add_32 (fun H3 locs3 hP3 hD3 hS3 => ?_)
    have hP3 : va_P (dC, dI) vwCl (zc_2 a1 k1 n1 (s1.1, (upd s1.2.1 s1.1.toNatClampNeg x1), (upd s1.2.2.1 s1.1.toNatClampNeg x2), s1.2.2.2)) H3 := hP3
    have hD3 : va_D A (zc_2 a1 k1 n1 (s1.1, (upd s1.2.1 s1.1.toNatClampNeg x1), (upd s1.2.2.1 s1.1.toNatClampNeg x2), s1.2.2.2)) := hD3
    clear hP2 hD2 hS2
    refine lv_aload_n hx hb dX2_add_33 rfl (lv_at hl 0 rfl) ?_
    refine va_get (D := (dC, dI)) (ci := 2) (v := .ref (a1 3)) (C := RX2) (T := TX2) (N := 6) hx hb hts hin2 hown hK hP3 0 rfl rfl 3 (by decide) (hts (.fieldLink RX2 18 "OldestCoins$Coins" "year" "[I") (List.mem_of_getElem? (i := 4) rfl)) (fun _ h9 => h9) rfl dX2_add_34 ?_
    refine lv_aload_n hx hb dX2_add_37 rfl (lv_at hl 0 rfl) ?_
    refine va_get (D := (dC, dI)) (ci := 2) (v := .int s1.1) (C := RX2) (T := TX2) (N := 6) hx hb hts hin2 hown hK hP3 0 rfl rfl 0 (by decide) (hts (.fieldLink RX2 27 "OldestCoins$Coins" "size" "I") (List.mem_of_getElem? (i := 1) rfl)) (fun _ h9 => h9) rfl dX2_add_38 ?_
    refine lv_iload_n hx hb dX2_add_41 rfl (lv_at hl 3 rfl) ?_
    have i4 := (ck_ok hR).1
    replace hR := (ck_ok hR).2
    refine va_iast (f := s1.2.2.2.1) hx hb hK hP3 hD3 hS3 3 2 rfl rfl i4 dX2_add_42 (fun H4 locs4 hP4 hD4 hS4 => ?_)
    have hP4 : va_P (dC, dI) vwCl (zc_2 a1 k1 n1 (s1.1, (upd s1.2.1 s1.1.toNatClampNeg x1), (upd s1.2.2.1 s1.1.toNatClampNeg x2), (upd s1.2.2.2.1 s1.1.toNatClampNeg x3), s1.2.2.2.2)) H4 := hP4
    have hD4 : va_D A (zc_2 a1 k1 n1 (s1.1, (upd s1.2.1 s1.1.toNatClampNeg x1), (upd s1.2.2.1 s1.1.toNatClampNeg x2), (upd s1.2.2.2.1 s1.1.toNatClampNeg x3), s1.2.2.2.2)) := hD4
    clear hP3 hD3 hS3
    refine lv_aload_n hx hb dX2_add_43 rfl (lv_at hl 0 rfl) ?_
    refine va_get (D := (dC, dI)) (ci := 2) (v := .ref (a1 4)) (C := RX2) (T := TX2) (N := 6) hx hb hts hin2 hown hK hP4 0 rfl rfl 4 (by decide) (hts (.fieldLink RX2 21 "OldestCoins$Coins" "stamp" "[I") (List.mem_of_getElem? (i := 5) rfl)) (fun _ h9 => h9) rfl dX2_add_44 ?_
    refine lv_aload_n hx hb dX2_add_47 rfl (lv_at hl 0 rfl) ?_
    refine va_get (D := (dC, dI)) (ci := 2) (v := .int s1.1) (C := RX2) (T := TX2) (N := 6) hx hb hts hin2 hown hK hP4 0 rfl rfl 0 (by decide) (hts (.fieldLink RX2 27 "OldestCoins$Coins" "size" "I") (List.mem_of_getElem? (i := 1) rfl)) (fun _ h9 => h9) rfl dX2_add_48 ?_
    refine lv_iload hx hb dX2_add_51 (lv_at hl 4 rfl) ?_
    have i5 := (ck_ok hR).1
    replace hR := (ck_ok hR).2
    refine va_iast (f := s1.2.2.2.2.1) hx hb hK hP4 hD4 hS4 4 3 rfl rfl i5 dX2_add_53 (fun H5 locs5 hP5 hD5 hS5 => ?_)
    have hP5 : va_P (dC, dI) vwCl (zc_2 a1 k1 n1 (s1.1, (upd s1.2.1 s1.1.toNatClampNeg x1), (upd s1.2.2.1 s1.1.toNatClampNeg x2), (upd s1.2.2.2.1 s1.1.toNatClampNeg x3), (upd s1.2.2.2.2.1 s1.1.toNatClampNeg x4), s1.2.2.2.2.2)) H5 := hP5
    have hD5 : va_D A (zc_2 a1 k1 n1 (s1.1, (upd s1.2.1 s1.1.toNatClampNeg x1), (upd s1.2.2.1 s1.1.toNatClampNeg x2), (upd s1.2.2.2.1 s1.1.toNatClampNeg x3), (upd s1.2.2.2.2.1 s1.1.toNatClampNeg x4), s1.2.2.2.2.2)) := hD5
    clear hP4 hD4 hS4
    refine lv_aload_n hx hb dX2_add_54 rfl (lv_at hl 0 rfl) ?_
    refine va_get (D := (dC, dI)) (ci := 2) (v := .ref (a1 5)) (C := RX2) (T := TX2) (N := 6) hx hb hts hin2 hown hK hP5 0 rfl rfl 5 (by decide) (hts (.fieldLink RX2 24 "OldestCoins$Coins" "kind" "[I") (List.mem_of_getElem? (i := 6) rfl)) (fun _ h9 => h9) rfl dX2_add_55 ?_
    refine lv_aload_n hx hb dX2_add_58 rfl (lv_at hl 0 rfl) ?_
    refine va_get (D := (dC, dI)) (ci := 2) (v := .int s1.1) (C := RX2) (T := TX2) (N := 6) hx hb hts hin2 hown hK hP5 0 rfl rfl 0 (by decide) (hts (.fieldLink RX2 27 "OldestCoins$Coins" "size" "I") (List.mem_of_getElem? (i := 1) rfl)) (fun _ h9 => h9) rfl dX2_add_59 ?_
    refine lv_iload hx hb dX2_add_62 (lv_at hl 5 rfl) ?_
    have i6 := (ck_ok hR).1
    replace hR := (ck_ok hR).2
    refine va_iast (f := s1.2.2.2.2.2) hx hb hK hP5 hD5 hS5 5 4 rfl rfl i6 dX2_add_64 (fun H6 locs6 hP6 hD6 hS6 => ?_)
    have hP6 : va_P (dC, dI) vwCl (zc_2 a1 k1 n1 (s1.1, (upd s1.2.1 s1.1.toNatClampNeg x1), (upd s1.2.2.1 s1.1.toNatClampNeg x2), (upd s1.2.2.2.1 s1.1.toNatClampNeg x3), (upd s1.2.2.2.2.1 s1.1.toNatClampNeg x4), (upd s1.2.2.2.2.2 s1.1.toNatClampNeg x5))) H6 := hP6
    have hD6 : va_D A (zc_2 a1 k1 n1 (s1.1, (upd s1.2.1 s1.1.toNatClampNeg x1), (upd s1.2.2.1 s1.1.toNatClampNeg x2), (upd s1.2.2.2.1 s1.1.toNatClampNeg x3), (upd s1.2.2.2.2.1 s1.1.toNatClampNeg x4), (upd s1.2.2.2.2.2 s1.1.toNatClampNeg x5))) := hD6
    clear hP5 hD5 hS5
    refine lv_aload_n hx hb dX2_add_65 rfl (lv_at hl 0 rfl) ?_
    refine lv_dup hx hb dX2_add_66 rfl ?_
    refine va_get (D := (dC, dI)) (ci := 2) (v := .int s1.1) (C := RX2) (T := TX2) (N := 6) hx hb hts hin2 hown hK hP6 0 rfl rfl 0 (by decide) (hts (.fieldLink RX2 27 "OldestCoins$Coins" "size" "I") (List.mem_of_getElem? (i := 1) rfl)) (fun _ h9 => h9) rfl dX2_add_67 ?_
    refine lv_iconst (v := (1 : Int32)) hx hb dX2_add_70 (by decide) ?_
    refine lv_iadd hx hb dX2_add_71 ?_
    refine lv_topi (fun z7 ez7 => ?_)
    replace hR := lt_ok hR ez7
    refine va_put (D := (dC, dI)) (ci := 2) (v := .int z7) (ty := .int) (C := RX2) (T := TX2) (N := 6) hx hb hts hin2 tyX2 tyX2_ok nmX2 hown hK hP6 hD6 hS6 0 rfl rfl 0 (by decide) (hts (.fieldLink RX2 27 "OldestCoins$Coins" "size" "I") (List.mem_of_getElem? (i := 1) rfl)) (fun _ h9 => h9) rfl (by decide +kernel) rfl rfl (Nat.le_of_ble_eq_true rfl) dX2_add_72 (fun H8 locs8 hP8 hD8 hS8 => ?_)
    have hP8 : va_P (dC, dI) vwCl (zc_2 a1 k1 n1 (z7, (upd s1.2.1 s1.1.toNatClampNeg x1), (upd s1.2.2.1 s1.1.toNatClampNeg x2), (upd s1.2.2.2.1 s1.1.toNatClampNeg x3), (upd s1.2.2.2.2.1 s1.1.toNatClampNeg x4), (upd s1.2.2.2.2.2 s1.1.toNatClampNeg x5))) H8 := hP8
    have hD8 : va_D A (zc_2 a1 k1 n1 (z7, (upd s1.2.1 s1.1.toNatClampNeg x1), (upd s1.2.2.1 s1.1.toNatClampNeg x2), (upd s1.2.2.2.1 s1.1.toNatClampNeg x3), (upd s1.2.2.2.2.1 s1.1.toNatClampNeg x4), (upd s1.2.2.2.2.2 s1.1.toNatClampNeg x5))) := hD8
    clear hP6 hD6 hS6
    subst hQe
    exact W.vret hx hb hr (fun t ht hW => ⟨⟨(z7, (upd s1.2.1 s1.1.toNatClampNeg x1), (upd s1.2.2.1 s1.1.toNatClampNeg x2), (upd s1.2.2.2.1 s1.1.toNatClampNeg x3), (upd s1.2.2.2.2.1 s1.1.toNatClampNeg x4), (upd s1.2.2.2.2.2 s1.1.toNatClampNeg x5)), rfl, (Option.some.inj hR).symm, by rw [ht]; exact hP8, va_K.moved hW.alike hK, hD8⟩, hS8.F ht⟩) hS8.2.2 dX2_add_75
  · replace hR := ifn_ hR c1
    subst hQe
    exact W.vret hx hb hr (fun t ht hW => ⟨⟨s1, rfl, (Option.some.inj hR).symm, by rw [ht]; exact hP, va_K.moved hW.alike hK, hD⟩, hS.F ht⟩) hS.2.2 dX2_add_12
def rr_X2_addAll_2_b (fu : Nat) (n1 : Nat) (n2 : Nat) (s2 : ZT_2) (rec2 : Int32 → ZT_2 → Option (ZT_2)) (y2 : Int32) (u1 : ZT_2) : Option (ZT_2) := (if s2.1 ≤ y2 then some u1 else ck_ y2 n2 (ck_ y2 n2 (ck_ y2 n2 (ck_ y2 n2 (ck_ y2 n2 ((rr_X2_add fu n1 (s2.2.1 y2.toNatClampNeg) (s2.2.2.1 y2.toNatClampNeg) (s2.2.2.2.1 y2.toNatClampNeg) (s2.2.2.2.2.1 y2.toNatClampNeg) (s2.2.2.2.2.2 y2.toNatClampNeg) u1).bind (fun q8 => lt_ (α := Int32) (y2 + (1 : Int32)) (fun z9 => rec2 z9 q8))))))))
def rr_X2_addAll_2 (fu : Nat) (n1 : Nat) (n2 : Nat) (s2 : ZT_2) (n : Nat) : Int32 → ZT_2 → Option (ZT_2) := lp_ (fun _ _ => none) (rr_X2_addAll_2_b fu n1 n2 s2) n
def rr_X2_addAll (fu : Nat) (n1 : Nat) (n2 : Nat) (s1 : ZT_2) (s2 : ZT_2) : Option (ZT_2) := rr_X2_addAll_2 fu n1 n2 s2 fu (0 : Int32) s1
set_option maxRecDepth 100000 in
theorem sb_2_2__0c0 (a1 : Nat → Nat) (a2 : Nat → Nat) (k1 : Nat → ClassId) (k2 : Nat → ClassId) (n1 : Nat) (n2 : Nat) (s1 : ZT_2) (s2 : ZT_2) : List.Perm (zc_2 a1 k1 n1 s1 ++ zc_2 a2 k2 n2 s2) ((zc_2 a1 k1 n1 s1) ++ (([] : va_W) ++ zc_2 a2 k2 n2 s2)) := (pu_l (zc_2 a2 k2 n2 s2) (pu_1 (zc_2 a1 k1 n1 s1)))
set_option maxRecDepth 100000 in
theorem jo_2_2__0c0__0 (a1 : Nat → Nat) (a2 : Nat → Nat) (k1 : Nat → ClassId) (k2 : Nat → ClassId) (n1 : Nat) (n2 : Nat) (s1 : ZT_2) (s2 : ZT_2) (u1 : ZT_2) : List.Perm (zc_2 a1 k1 n1 u1 ++ zc_2 a2 k2 n2 s2) ((zc_2 a1 k1 n1 u1) ++ (([] : va_W) ++ zc_2 a2 k2 n2 s2)) := (pu_l (zc_2 a2 k2 n2 s2) (pu_1 (zc_2 a1 k1 n1 u1)))
set_option maxHeartbeats 4000000 in
set_option maxRecDepth 100000 in
theorem cc_X2_addAll (l : Launch) (dC : Nat → ClassId) (dI : Nat → Nat → Nat) (fu : Nat) (a1 : Nat → Nat) (a2 : Nat → Nat) (k1 : Nat → ClassId) (k2 : Nat → ClassId) (n1 : Nat) (n2 : Nat) (sz : Nat) (s1 : ZT_2) (s2 : ZT_2) (res : ZT_2) (hR : rr_X2_addAll fu n1 n2 s1 s2 = some res) : Met l yX2_addAll wsX2_addAll ({ frames := 1, cells := 0, slots := 0, locals := 25 } : Room) (PcF [.ref (a1 0), .ref (a2 0)] sz (dC, dI) (zc_2 a1 k1 n1 s1 ++ zc_2 a2 k2 n2 s2) (zt_2 k1 ++ zt_2 k2)) (va_Qv (fun u : ZT_2 => res = u) (fun u t => at3_ (dC, dI) (zc_2 a1 k1 n1 u ++ zc_2 a2 k2 n2 s2) (zt_2 k1 ++ zt_2 k2) (va_A (zc_2 a1 k1 n1 s1 ++ zc_2 a2 k2 n2 s2) sz) t) (va_A (zc_2 a1 k1 n1 s1 ++ zc_2 a2 k2 n2 s2) sz)) 0 0 (va_A (zc_2 a1 k1 n1 s1 ++ zc_2 a2 k2 n2 s2) sz) := by
  refine Met.ofW (cc := cX2_addAll) (maxL := 3) (ret := none) (by decide) rfl ?_
  intro p e s m args below meth c s₁ B hml hv
  obtain ⟨hav, hsz, hP, hK, hD0⟩ := hv
  have hx := B.exec
  have hb := B.bytes
  have hr := B.returns
  have hts := atoms_spec (ws := wsX2_addAll) B.pre
  have hown : s.vm.findClass RX2 = some m.cls := findClass_of_methodNamed B.named
  have hlocks := B.notSynchronized
  have hin2 : ∀ w ∈ wsX20, w ∈ wsX2_addAll := fun w h => List.mem_cons_of_mem _ (List.mem_append_right _ h)
  subst hsz
  have hD := hD0.self (sz := s.heap.size)
  clear hD0
  generalize hAe : va_A (zc_2 a1 k1 n1 s1 ++ zc_2 a2 k2 n2 s2) s.heap.size = A at hD ⊢
  have hA : ∀ q : Nat, s.heap.size ≤ q → A q := fun q h => by rw [← hAe]; exact Or.inr h
  have hS : va_S A s.heap s.heap [] := va_S.rf
  generalize hQe : MQ below _ args s 0 0 A = Q
  rw [show entryFrame m args 3 = F0 m 0 ((lg_sl ([.ref (a1 0), .ref (a2 0)]) ++ List.replicate (3 - (lg_sl ([.ref (a1 0), .ref (a2 0)])).length) Slot.unset).toArray) [] from by rw [hav]; exact lg_entry_eq m _ _]
  have hl := lv_entry ([.ref (a1 0), .ref (a2 0)]) (n := 3) (Nat.le_of_ble_eq_true rfl)
  generalize (lg_sl ([.ref (a1 0), .ref (a2 0)]) ++ List.replicate (3 - (lg_sl ([.ref (a1 0), .ref (a2 0)])).length) Slot.unset).toArray = ls at hl ⊢
  have hl : lv_has ls 3 [(0, .ref (a1 0)), (1, .ref (a2 0))] := hl
  have hB2 : ∀ (n : Nat), ∀ (y2 : Int32) (u1 : ZT_2) (H : Heap) (locs : List Loc) (ls : Array Slot), va_P (dC, dI) vwCl (zc_2 a1 k1 n1 u1 ++ zc_2 a2 k2 n2 s2) H → va_D A (zc_2 a1 k1 n1 u1 ++ zc_2 a2 k2 n2 s2) → va_S A s.heap H locs → lv_has ls 3 [(0, .ref (a1 0)), (1, .ref (a2 0)), (2, .int y2)] → rr_X2_addAll_2 fu n1 n2 s2 n y2 u1 = some res → W p l e ({ frames := 1, cells := 0, slots := 0, locals := 25 } : Room) s m args below meth c H locs 0 0 Q (F0 m 2 ls []) := by
    intro  n
    induction n with
    | zero => intro y2 u1 H locs ls hP hD hS hl hR; exact absurd hR (by intro h; cases h)
    | succ n ih =>
      intro y2 u1 H locs ls hP hD hS hl hR
      replace hR : rr_X2_addAll_2_b fu n1 n2 s2 (rr_X2_addAll_2 fu n1 n2 s2 n) y2 u1 = some res := hR
      unfold rr_X2_addAll_2_b at hR
      refine lv_iload_n hx hb dX2_addAll_2 rfl (lv_at hl 2 rfl) ?_
      refine lv_aload_n hx hb dX2_addAll_3 rfl (lv_at hl 1 rfl) ?_
      refine va_get (D := (dC, dI)) (ci := 2) (v := .int s2.1) (C := RX2) (T := TX2) (N := 6) hx hb hts hin2 hown hK hP 6 rfl rfl 0 (by decide) (hts (.fieldLink RX2 27 "OldestCoins$Coins" "size" "I") (List.mem_of_getElem? (i := 1) rfl)) (fun _ h9 => h9) rfl dX2_addAll_4 ?_
      refine lv_icmp_ge (tgt := 50) hx hb dX2_addAll_7 (by decide) (fun c2 => ?_) (fun c2 => ?_)
      · replace hR := ifp_ hR c2
        subst hQe
        exact W.vret hx hb hr (fun t ht hW => ⟨⟨u1, rfl, (Option.some.inj hR).symm, by rw [ht]; exact hP, va_K.moved hW.alike hK, hD⟩, hS.F ht⟩) hS.2.2 dX2_addAll_50
      · replace hR := ifn_ hR c2
        refine lv_aload_n hx hb dX2_addAll_10 rfl (lv_at hl 0 rfl) ?_
        refine lv_aload_n hx hb dX2_addAll_11 rfl (lv_at hl 1 rfl) ?_
        refine va_get (D := (dC, dI)) (ci := 2) (v := .ref (a2 1)) (C := RX2) (T := TX2) (N := 6) hx hb hts hin2 hown hK hP 6 rfl rfl 1 (by decide) (hts (.fieldLink RX2 9 "OldestCoins$Coins" "holder" "[I") (List.mem_of_getElem? (i := 2) rfl)) (fun _ h9 => h9) rfl dX2_addAll_12 ?_
        refine lv_iload_n hx hb dX2_addAll_15 rfl (lv_at hl 2 rfl) ?_
        have i3 := (ck_ok hR).1
        replace hR := (ck_ok hR).2
        refine va_iald (f := s2.2.1) hx hb hK hP 7 5 rfl rfl i3 dX2_addAll_16 ?_
        refine lv_aload_n hx hb dX2_addAll_17 rfl (lv_at hl 1 rfl) ?_
        refine va_get (D := (dC, dI)) (ci := 2) (v := .ref (a2 2)) (C := RX2) (T := TX2) (N := 6) hx hb hts hin2 hown hK hP 6 rfl rfl 2 (by decide) (hts (.fieldLink RX2 15 "OldestCoins$Coins" "worth" "[I") (List.mem_of_getElem? (i := 3) rfl)) (fun _ h9 => h9) rfl dX2_addAll_18 ?_
        refine lv_iload_n hx hb dX2_addAll_21 rfl (lv_at hl 2 rfl) ?_
        have i4 := (ck_ok hR).1
        replace hR := (ck_ok hR).2
        refine va_iald (f := s2.2.2.1) hx hb hK hP 8 6 rfl rfl i4 dX2_addAll_22 ?_
        refine lv_aload_n hx hb dX2_addAll_23 rfl (lv_at hl 1 rfl) ?_
        refine va_get (D := (dC, dI)) (ci := 2) (v := .ref (a2 3)) (C := RX2) (T := TX2) (N := 6) hx hb hts hin2 hown hK hP 6 rfl rfl 3 (by decide) (hts (.fieldLink RX2 18 "OldestCoins$Coins" "year" "[I") (List.mem_of_getElem? (i := 4) rfl)) (fun _ h9 => h9) rfl dX2_addAll_24 ?_
        refine lv_iload_n hx hb dX2_addAll_27 rfl (lv_at hl 2 rfl) ?_
        have i5 := (ck_ok hR).1
        replace hR := (ck_ok hR).2
        refine va_iald (f := s2.2.2.2.1) hx hb hK hP 9 7 rfl rfl i5 dX2_addAll_28 ?_
        refine lv_aload_n hx hb dX2_addAll_29 rfl (lv_at hl 1 rfl) ?_
        refine va_get (D := (dC, dI)) (ci := 2) (v := .ref (a2 4)) (C := RX2) (T := TX2) (N := 6) hx hb hts hin2 hown hK hP 6 rfl rfl 4 (by decide) (hts (.fieldLink RX2 21 "OldestCoins$Coins" "stamp" "[I") (List.mem_of_getElem? (i := 5) rfl)) (fun _ h9 => h9) rfl dX2_addAll_30 ?_
        refine lv_iload_n hx hb dX2_addAll_33 rfl (lv_at hl 2 rfl) ?_
        have i6 := (ck_ok hR).1
        replace hR := (ck_ok hR).2
        refine va_iald (f := s2.2.2.2.2.1) hx hb hK hP 10 8 rfl rfl i6 dX2_addAll_34 ?_
        refine lv_aload_n hx hb dX2_addAll_35 rfl (lv_at hl 1 rfl) ?_
        refine va_get (D := (dC, dI)) (ci := 2) (v := .ref (a2 5)) (C := RX2) (T := TX2) (N := 6) hx hb hts hin2 hown hK hP 6 rfl rfl 5 (by decide) (hts (.fieldLink RX2 24 "OldestCoins$Coins" "kind" "[I") (List.mem_of_getElem? (i := 6) rfl)) (fun _ h9 => h9) rfl dX2_addAll_36 ?_
        refine lv_iload_n hx hb dX2_addAll_39 rfl (lv_at hl 2 rfl) ?_
        have i7 := (ck_ok hR).1
        replace hR := (ck_ok hR).2
        refine va_iald (f := s2.2.2.2.2.2) hx hb hK hP 11 9 rfl rfl i7 dX2_addAll_40 ?_
        have hR0 := ob_ok hR
        clear hR
        obtain ⟨q8, hq8, hR⟩ := hR0
        refine va_callv (va_runV (As := [.int (s2.2.1 y2.toNatClampNeg), .int (s2.2.2.1 y2.toNatClampNeg), .int (s2.2.2.2.1 y2.toNatClampNeg), .int (s2.2.2.2.2.1 y2.toNatClampNeg), .int (s2.2.2.2.2.2 y2.toNatClampNeg)]) (rest := []) ⟨hx, hb, hml, hown, hts⟩ (cc_X2_add l dC dI fu a1 k1 n1 H.size (s2.2.1 y2.toNatClampNeg) (s2.2.2.1 y2.toNatClampNeg) (s2.2.2.2.1 y2.toNatClampNeg) (s2.2.2.2.2.1 y2.toNatClampNeg) (s2.2.2.2.2.2 y2.toNatClampNeg) u1 q8 hq8) (cwV 5 hts gX2_addAll_X2_add rfl rfl rfl (by decide +kernel) ⟨Nat.le_of_ble_eq_true rfl, Nat.le_of_ble_eq_true rfl⟩) (pf_v (hK.sub (tys' := zt_2 k1) [0, 1, 2, 3, 4] rfl) (sub_P (sb_2_2__0c0 a1 a2 k1 k2 n1 n2 u1 s2) hP) (sub_D (sb_2_2__0c0 a1 a2 k1 k2 n1 n2 u1 s2) hD) 2 0 rfl rfl rfl) rfl rfl hl.1 rfl (lv_room (Nat.le_of_ble_eq_true rfl)) dX2_addAll_41 ⟨Nat.le_refl _, Nat.le_refl _⟩) hS (fun q _ h => (sub_F (sb_2_2__0c0 a1 a2 k1 k2 n1 n2 u1 s2) hD hS hA) q h) (sub_F (sb_2_2__0c0 a1 a2 k1 k2 n1 n2 u1 s2) hD hS hA) (fun v8 t8 H8 locs8 ht8 hvm8 hw8 hB8 hz8 hk8 hS8 => ?_)
        subst hw8
        obtain ⟨hP8, hD8⟩ := jn_sub (sb_2_2__0c0 a1 a2 k1 k2 n1 n2 u1 s2) (jo_2_2__0c0__0 a1 a2 k1 k2 n1 n2 u1 s2 q8) rfl hP hD hk8 ht8 hB8
        have hP8 : va_P (dC, dI) vwCl (zc_2 a1 k1 n1 q8 ++ zc_2 a2 k2 n2 s2) H8 := hP8
        have hD8 : va_D A (zc_2 a1 k1 n1 q8 ++ zc_2 a2 k2 n2 s2) := hD8
        clear hP hD hS hB8 hk8 hvm8 hz8 ht8
        obtain ⟨z9, ez9⟩ : ∃ y : Int32, y = (y2 + (1 : Int32)) := ⟨_, rfl⟩
        replace hR := lt_ok hR ez9
        refine lv_iinc (v := z9) (lv' := [(2, .int z9), (0, .ref (a1 0)), (1, .ref (a2 0))]) hx hb dX2_addAll_44 hl (k := 2) rfl (by rw [ez9]; rfl) (by decide) rfl (fun ls9 hl9 => ?_)
        refine lv_goto (tgt := 2) hx hb dX2_addAll_47 (by decide) ?_
        exact ih z9 q8 H8 locs8 ls9 hP8 hD8 hS8 (lv_sub hl9 [1, 2, 0] rfl) hR
  unfold rr_X2_addAll at hR
  refine lv_iconst (v := (0 : Int32)) hx hb dX2_addAll_0 (by decide) ?_
  refine lv_istore_n (lv' := [(2, .int (0 : Int32)), (0, .ref (a1 0)), (1, .ref (a2 0))]) hx hb dX2_addAll_1 rfl hl (by decide) rfl (fun ls1 hl1 => ?_)
  exact hB2 fu (0 : Int32) s1 s.heap [] ls1 hP hD hS (lv_sub hl1 [1, 2, 0] rfl) hR
def rr_X2_copyFrom (fu : Nat) (n1 : Nat) (n2 : Nat) (s1 : ZT_2) (s2 : ZT_2) : Option (ZT_2) := (rr_X2_addAll fu n1 n2 ((0 : Int32), s1.2) s2).bind (fun q2 => some q2)
set_option maxHeartbeats 4000000 in
set_option maxRecDepth 100000 in
theorem cc_X2_copyFrom (l : Launch) (dC : Nat → ClassId) (dI : Nat → Nat → Nat) (fu : Nat) (a1 : Nat → Nat) (a2 : Nat → Nat) (k1 : Nat → ClassId) (k2 : Nat → ClassId) (n1 : Nat) (n2 : Nat) (sz : Nat) (s1 : ZT_2) (s2 : ZT_2) (res : ZT_2) (hR : rr_X2_copyFrom fu n1 n2 s1 s2 = some res) : Met l yX2_copyFrom wsX2_copyFrom ({ frames := 2, cells := 0, slots := 0, locals := 47 } : Room) (PcF [.ref (a1 0), .ref (a2 0)] sz (dC, dI) (zc_2 a1 k1 n1 s1 ++ zc_2 a2 k2 n2 s2) (zt_2 k1 ++ zt_2 k2)) (va_Qv (fun u : ZT_2 => res = u) (fun u t => at3_ (dC, dI) (zc_2 a1 k1 n1 u ++ zc_2 a2 k2 n2 s2) (zt_2 k1 ++ zt_2 k2) (va_A (zc_2 a1 k1 n1 s1 ++ zc_2 a2 k2 n2 s2) sz) t) (va_A (zc_2 a1 k1 n1 s1 ++ zc_2 a2 k2 n2 s2) sz)) 0 0 (va_A (zc_2 a1 k1 n1 s1 ++ zc_2 a2 k2 n2 s2) sz) := by
  refine Met.ofW (cc := cX2_copyFrom) (maxL := 2) (ret := none) (by decide) rfl ?_
  intro p e s m args below meth c s₁ B hml hv
  obtain ⟨hav, hsz, hP, hK, hD0⟩ := hv
  have hx := B.exec
  have hb := B.bytes
  have hr := B.returns
  have hts := atoms_spec (ws := wsX2_copyFrom) B.pre
  have hown : s.vm.findClass RX2 = some m.cls := findClass_of_methodNamed B.named
  have hlocks := B.notSynchronized
  have hin2 : ∀ w ∈ wsX20, w ∈ wsX2_copyFrom := fun w h => List.mem_cons_of_mem _ (List.mem_append_right _ h)
  subst hsz
  have hD := hD0.self (sz := s.heap.size)
  clear hD0
  generalize hAe : va_A (zc_2 a1 k1 n1 s1 ++ zc_2 a2 k2 n2 s2) s.heap.size = A at hD ⊢
  have hA : ∀ q : Nat, s.heap.size ≤ q → A q := fun q h => by rw [← hAe]; exact Or.inr h
  have hS : va_S A s.heap s.heap [] := va_S.rf
  generalize hQe : MQ below _ args s 0 0 A = Q
  rw [show entryFrame m args 2 = F0 m 0 ((lg_sl ([.ref (a1 0), .ref (a2 0)]) ++ List.replicate (2 - (lg_sl ([.ref (a1 0), .ref (a2 0)])).length) Slot.unset).toArray) [] from by rw [hav]; exact lg_entry_eq m _ _]
  have hl := lv_entry ([.ref (a1 0), .ref (a2 0)]) (n := 2) (Nat.le_of_ble_eq_true rfl)
  generalize (lg_sl ([.ref (a1 0), .ref (a2 0)]) ++ List.replicate (2 - (lg_sl ([.ref (a1 0), .ref (a2 0)])).length) Slot.unset).toArray = ls at hl ⊢
  have hl : lv_has ls 2 [(0, .ref (a1 0)), (1, .ref (a2 0))] := hl
  unfold rr_X2_copyFrom at hR
  refine lv_aload_n hx hb dX2_copyFrom_0 rfl (lv_at hl 0 rfl) ?_
  refine lv_iconst (v := (0 : Int32)) hx hb dX2_copyFrom_1 (by decide) ?_
  refine va_put (D := (dC, dI)) (ci := 2) (v := .int (0 : Int32)) (ty := .int) (C := RX2) (T := TX2) (N := 6) hx hb hts hin2 tyX2 tyX2_ok nmX2 hown hK hP hD hS 0 rfl rfl 0 (by decide) (hts (.fieldLink RX2 27 "OldestCoins$Coins" "size" "I") (List.mem_of_getElem? (i := 1) rfl)) (fun _ h9 => h9) rfl (by decide +kernel) rfl rfl (Nat.le_of_ble_eq_true rfl) dX2_copyFrom_2 (fun H1 locs1 hP1 hD1 hS1 => ?_)
  have hP1 : va_P (dC, dI) vwCl (zc_2 a1 k1 n1 ((0 : Int32), s1.2) ++ zc_2 a2 k2 n2 s2) H1 := hP1
  have hD1 : va_D A (zc_2 a1 k1 n1 ((0 : Int32), s1.2) ++ zc_2 a2 k2 n2 s2) := hD1
  clear hP hD hS
  refine lv_aload_n hx hb dX2_copyFrom_5 rfl (lv_at hl 0 rfl) ?_
  refine lv_aload_n hx hb dX2_copyFrom_6 rfl (lv_at hl 1 rfl) ?_
  have hR0 := ob_ok hR
  clear hR
  obtain ⟨q2, hq2, hR⟩ := hR0
  refine va_callv (va_runV (As := [.ref (a2 0)]) (rest := []) ⟨hx, hb, hml, hown, hts⟩ (cc_X2_addAll l dC dI fu a1 a2 k1 k2 n1 n2 H1.size ((0 : Int32), s1.2) s2 q2 hq2) (cwV 1 hts gX2_copyFrom_X2_addAll rfl rfl rfl (by decide +kernel) ⟨Nat.le_of_ble_eq_true rfl, Nat.le_of_ble_eq_true rfl⟩) (pf_v hK hP1 hD1 2 0 rfl rfl rfl) rfl rfl hl.1 rfl (lv_room (Nat.le_of_ble_eq_true rfl)) dX2_copyFrom_7 ⟨Nat.le_refl _, Nat.le_refl _⟩) hS1 (fun q _ h => (fr_all hD1 hS1 hA) q h) (fr_all hD1 hS1 hA) (fun v2 t2 H2 locs2 ht2 hvm2 hw2 hB2 hz2 hk2 hS2 => ?_)
  subst hw2
  obtain ⟨hP2, hD2⟩ := jn_all hD1 hS1 hA ht2 hB2
  have hP2 : va_P (dC, dI) vwCl (zc_2 a1 k1 n1 q2 ++ zc_2 a2 k2 n2 s2) H2 := hP2
  have hD2 : va_D A (zc_2 a1 k1 n1 q2 ++ zc_2 a2 k2 n2 s2) := hD2
  clear hP1 hD1 hS1 hB2 hk2 hvm2 hz2 ht2
  subst hQe
  exact W.vret hx hb hr (fun t ht hW => ⟨⟨q2, rfl, (Option.some.inj hR).symm, by rw [ht]; exact hP2, va_K.moved hW.alike hK, hD2⟩, hS2.F ht⟩) hS2.2.2 dX2_copyFrom_10
def rr_X8_copyFrom (fu : Nat) (s1 : ZT_8) (s2 : ZT_8) : Option (ZT_8) := (rr_X2_copyFrom fu 40 40 s1.2.1 s2.2.1).bind (fun q2 => (rr_X0_copyFrom fu 24 24 s1.2.2.1 s2.2.2.1).bind (fun q3 => (rr_X0_copyFrom fu 6 6 s1.2.2.2 s2.2.2.2).bind (fun q4 => some (s2.1, q2, q3, q4))))
set_option maxRecDepth 100000 in
theorem sb_8_8__0c1_1c1 (a1 : Nat → Nat) (a2 : Nat → Nat) (k1 : Nat → ClassId) (k2 : Nat → ClassId) (s1 : ZT_8) (s2 : ZT_8) : List.Perm (zc_8 a1 k1 s1 ++ zc_8 a2 k2 s2) ((zc_2 (sh_ a1 1) (sh_ k1 1) 40 s1.2.1 ++ zc_2 (sh_ a2 1) (sh_ k2 1) 40 s2.2.1) ++ (([(a1 0, .inr (8, [.int s1.1, .ref (a1 1), .ref (a1 7), .ref (a1 11)]))] ++ (([] : va_W) ++ (zc_0 (sh_ a1 7) (sh_ k1 7) 24 s1.2.2.1 ++ zc_0 (sh_ a1 11) (sh_ k1 11) 6 s1.2.2.2))) ++ ([(a2 0, .inr (8, [.int s2.1, .ref (a2 1), .ref (a2 7), .ref (a2 11)]))] ++ (([] : va_W) ++ (zc_0 (sh_ a2 7) (sh_ k2 7) 24 s2.2.2.1 ++ zc_0 (sh_ a2 11) (sh_ k2 11) 6 s2.2.2.2))))) := (pu_2 (pu_l (zc_8 a2 k2 s2) (pu_r ([(a1 0, .inr (8, [.int s1.1, .ref (a1 1), .ref (a1 7), .ref (a1 11)]))]) (pu_l ((zc_0 (sh_ a1 7) (sh_ k1 7) 24 s1.2.2.1 ++ zc_0 (sh_ a1 11) (sh_ k1 11) 6 s1.2.2.2)) (pu_1 (zc_2 (sh_ a1 1) (sh_ k1 1) 40 s1.2.1))))) (pu_r (([(a1 0, .inr (8, [.int s1.1, .ref (a1 1), .ref (a1 7), .ref (a1 11)]))] ++ (([] : va_W) ++ (zc_0 (sh_ a1 7) (sh_ k1 7) 24 s1.2.2.1 ++ zc_0 (sh_ a1 11) (sh_ k1 11) 6 s1.2.2.2)))) (pu_r ([(a2 0, .inr (8, [.int s2.1, .ref (a2 1), .ref (a2 7), .ref (a2 11)]))]) (pu_l ((zc_0 (sh_ a2 7) (sh_ k2 7) 24 s2.2.2.1 ++ zc_0 (sh_ a2 11) (sh_ k2 11) 6 s2.2.2.2)) (pu_1 (zc_2 (sh_ a2 1) (sh_ k2 1) 40 s2.2.1))))))
set_option maxRecDepth 100000 in
theorem jo_8_8__0c1_1c1__0 (a1 : Nat → Nat) (a2 : Nat → Nat) (k1 : Nat → ClassId) (k2 : Nat → ClassId) (s1 : ZT_8) (s2 : ZT_8) (u1 : ZT_2) : List.Perm (zc_8 a1 k1 (s1.1, u1, s1.2.2) ++ zc_8 a2 k2 s2) ((zc_2 (sh_ a1 1) (sh_ k1 1) 40 u1 ++ zc_2 (sh_ a2 1) (sh_ k2 1) 40 s2.2.1) ++ (([(a1 0, .inr (8, [.int s1.1, .ref (a1 1), .ref (a1 7), .ref (a1 11)]))] ++ (([] : va_W) ++ (zc_0 (sh_ a1 7) (sh_ k1 7) 24 s1.2.2.1 ++ zc_0 (sh_ a1 11) (sh_ k1 11) 6 s1.2.2.2))) ++ ([(a2 0, .inr (8, [.int s2.1, .ref (a2 1), .ref (a2 7), .ref (a2 11)]))] ++ (([] : va_W) ++ (zc_0 (sh_ a2 7) (sh_ k2 7) 24 s2.2.2.1 ++ zc_0 (sh_ a2 11) (sh_ k2 11) 6 s2.2.2.2))))) := (pu_2 (pu_l (zc_8 a2 k2 s2) (pu_r ([(a1 0, .inr (8, [.int s1.1, .ref (a1 1), .ref (a1 7), .ref (a1 11)]))]) (pu_l ((zc_0 (sh_ a1 7) (sh_ k1 7) 24 s1.2.2.1 ++ zc_0 (sh_ a1 11) (sh_ k1 11) 6 s1.2.2.2)) (pu_1 (zc_2 (sh_ a1 1) (sh_ k1 1) 40 u1))))) (pu_r (([(a1 0, .inr (8, [.int s1.1, .ref (a1 1), .ref (a1 7), .ref (a1 11)]))] ++ (([] : va_W) ++ (zc_0 (sh_ a1 7) (sh_ k1 7) 24 s1.2.2.1 ++ zc_0 (sh_ a1 11) (sh_ k1 11) 6 s1.2.2.2)))) (pu_r ([(a2 0, .inr (8, [.int s2.1, .ref (a2 1), .ref (a2 7), .ref (a2 11)]))]) (pu_l ((zc_0 (sh_ a2 7) (sh_ k2 7) 24 s2.2.2.1 ++ zc_0 (sh_ a2 11) (sh_ k2 11) 6 s2.2.2.2)) (pu_1 (zc_2 (sh_ a2 1) (sh_ k2 1) 40 s2.2.1))))))
set_option maxRecDepth 100000 in
theorem sb_8_8__0c7_1c7 (a1 : Nat → Nat) (a2 : Nat → Nat) (k1 : Nat → ClassId) (k2 : Nat → ClassId) (s1 : ZT_8) (s2 : ZT_8) : List.Perm (zc_8 a1 k1 s1 ++ zc_8 a2 k2 s2) ((zc_0 (sh_ a1 7) (sh_ k1 7) 24 s1.2.2.1 ++ zc_0 (sh_ a2 7) (sh_ k2 7) 24 s2.2.2.1) ++ (([(a1 0, .inr (8, [.int s1.1, .ref (a1 1), .ref (a1 7), .ref (a1 11)]))] ++ (zc_2 (sh_ a1 1) (sh_ k1 1) 40 s1.2.1 ++ (([] : va_W) ++ zc_0 (sh_ a1 11) (sh_ k1 11) 6 s1.2.2.2))) ++ ([(a2 0, .inr (8, [.int s2.1, .ref (a2 1), .ref (a2 7), .ref (a2 11)]))] ++ (zc_2 (sh_ a2 1) (sh_ k2 1) 40 s2.2.1 ++ (([] : va_W) ++ zc_0 (sh_ a2 11) (sh_ k2 11) 6 s2.2.2.2))))) := (pu_2 (pu_l (zc_8 a2 k2 s2) (pu_r ([(a1 0, .inr (8, [.int s1.1, .ref (a1 1), .ref (a1 7), .ref (a1 11)]))]) (pu_r (zc_2 (sh_ a1 1) (sh_ k1 1) 40 s1.2.1) (pu_l (zc_0 (sh_ a1 11) (sh_ k1 11) 6 s1.2.2.2) (pu_1 (zc_0 (sh_ a1 7) (sh_ k1 7) 24 s1.2.2.1)))))) (pu_r (([(a1 0, .inr (8, [.int s1.1, .ref (a1 1), .ref (a1 7), .ref (a1 11)]))] ++ (zc_2 (sh_ a1 1) (sh_ k1 1) 40 s1.2.1 ++ (([] : va_W) ++ zc_0 (sh_ a1 11) (sh_ k1 11) 6 s1.2.2.2)))) (pu_r ([(a2 0, .inr (8, [.int s2.1, .ref (a2 1), .ref (a2 7), .ref (a2 11)]))]) (pu_r (zc_2 (sh_ a2 1) (sh_ k2 1) 40 s2.2.1) (pu_l (zc_0 (sh_ a2 11) (sh_ k2 11) 6 s2.2.2.2) (pu_1 (zc_0 (sh_ a2 7) (sh_ k2 7) 24 s2.2.2.1)))))))
set_option maxRecDepth 100000 in
theorem jo_8_8__0c7_1c7__0 (a1 : Nat → Nat) (a2 : Nat → Nat) (k1 : Nat → ClassId) (k2 : Nat → ClassId) (s1 : ZT_8) (s2 : ZT_8) (u1 : ZT_0) : List.Perm (zc_8 a1 k1 (s1.1, s1.2.1, u1, s1.2.2.2) ++ zc_8 a2 k2 s2) ((zc_0 (sh_ a1 7) (sh_ k1 7) 24 u1 ++ zc_0 (sh_ a2 7) (sh_ k2 7) 24 s2.2.2.1) ++ (([(a1 0, .inr (8, [.int s1.1, .ref (a1 1), .ref (a1 7), .ref (a1 11)]))] ++ (zc_2 (sh_ a1 1) (sh_ k1 1) 40 s1.2.1 ++ (([] : va_W) ++ zc_0 (sh_ a1 11) (sh_ k1 11) 6 s1.2.2.2))) ++ ([(a2 0, .inr (8, [.int s2.1, .ref (a2 1), .ref (a2 7), .ref (a2 11)]))] ++ (zc_2 (sh_ a2 1) (sh_ k2 1) 40 s2.2.1 ++ (([] : va_W) ++ zc_0 (sh_ a2 11) (sh_ k2 11) 6 s2.2.2.2))))) := (pu_2 (pu_l (zc_8 a2 k2 s2) (pu_r ([(a1 0, .inr (8, [.int s1.1, .ref (a1 1), .ref (a1 7), .ref (a1 11)]))]) (pu_r (zc_2 (sh_ a1 1) (sh_ k1 1) 40 s1.2.1) (pu_l (zc_0 (sh_ a1 11) (sh_ k1 11) 6 s1.2.2.2) (pu_1 (zc_0 (sh_ a1 7) (sh_ k1 7) 24 u1)))))) (pu_r (([(a1 0, .inr (8, [.int s1.1, .ref (a1 1), .ref (a1 7), .ref (a1 11)]))] ++ (zc_2 (sh_ a1 1) (sh_ k1 1) 40 s1.2.1 ++ (([] : va_W) ++ zc_0 (sh_ a1 11) (sh_ k1 11) 6 s1.2.2.2)))) (pu_r ([(a2 0, .inr (8, [.int s2.1, .ref (a2 1), .ref (a2 7), .ref (a2 11)]))]) (pu_r (zc_2 (sh_ a2 1) (sh_ k2 1) 40 s2.2.1) (pu_l (zc_0 (sh_ a2 11) (sh_ k2 11) 6 s2.2.2.2) (pu_1 (zc_0 (sh_ a2 7) (sh_ k2 7) 24 s2.2.2.1)))))))
set_option maxRecDepth 100000 in
theorem sb_8_8__0c11_1c11 (a1 : Nat → Nat) (a2 : Nat → Nat) (k1 : Nat → ClassId) (k2 : Nat → ClassId) (s1 : ZT_8) (s2 : ZT_8) : List.Perm (zc_8 a1 k1 s1 ++ zc_8 a2 k2 s2) ((zc_0 (sh_ a1 11) (sh_ k1 11) 6 s1.2.2.2 ++ zc_0 (sh_ a2 11) (sh_ k2 11) 6 s2.2.2.2) ++ (([(a1 0, .inr (8, [.int s1.1, .ref (a1 1), .ref (a1 7), .ref (a1 11)]))] ++ (zc_2 (sh_ a1 1) (sh_ k1 1) 40 s1.2.1 ++ (zc_0 (sh_ a1 7) (sh_ k1 7) 24 s1.2.2.1 ++ ([] : va_W)))) ++ ([(a2 0, .inr (8, [.int s2.1, .ref (a2 1), .ref (a2 7), .ref (a2 11)]))] ++ (zc_2 (sh_ a2 1) (sh_ k2 1) 40 s2.2.1 ++ (zc_0 (sh_ a2 7) (sh_ k2 7) 24 s2.2.2.1 ++ ([] : va_W)))))) := (pu_2 (pu_l (zc_8 a2 k2 s2) (pu_r ([(a1 0, .inr (8, [.int s1.1, .ref (a1 1), .ref (a1 7), .ref (a1 11)]))]) (pu_r (zc_2 (sh_ a1 1) (sh_ k1 1) 40 s1.2.1) (pu_r (zc_0 (sh_ a1 7) (sh_ k1 7) 24 s1.2.2.1) (pu_1 (zc_0 (sh_ a1 11) (sh_ k1 11) 6 s1.2.2.2)))))) (pu_r (([(a1 0, .inr (8, [.int s1.1, .ref (a1 1), .ref (a1 7), .ref (a1 11)]))] ++ (zc_2 (sh_ a1 1) (sh_ k1 1) 40 s1.2.1 ++ (zc_0 (sh_ a1 7) (sh_ k1 7) 24 s1.2.2.1 ++ ([] : va_W))))) (pu_r ([(a2 0, .inr (8, [.int s2.1, .ref (a2 1), .ref (a2 7), .ref (a2 11)]))]) (pu_r (zc_2 (sh_ a2 1) (sh_ k2 1) 40 s2.2.1) (pu_r (zc_0 (sh_ a2 7) (sh_ k2 7) 24 s2.2.2.1) (pu_1 (zc_0 (sh_ a2 11) (sh_ k2 11) 6 s2.2.2.2)))))))
set_option maxRecDepth 100000 in
theorem jo_8_8__0c11_1c11__0 (a1 : Nat → Nat) (a2 : Nat → Nat) (k1 : Nat → ClassId) (k2 : Nat → ClassId) (s1 : ZT_8) (s2 : ZT_8) (u1 : ZT_0) : List.Perm (zc_8 a1 k1 (s1.1, s1.2.1, s1.2.2.1, u1) ++ zc_8 a2 k2 s2) ((zc_0 (sh_ a1 11) (sh_ k1 11) 6 u1 ++ zc_0 (sh_ a2 11) (sh_ k2 11) 6 s2.2.2.2) ++ (([(a1 0, .inr (8, [.int s1.1, .ref (a1 1), .ref (a1 7), .ref (a1 11)]))] ++ (zc_2 (sh_ a1 1) (sh_ k1 1) 40 s1.2.1 ++ (zc_0 (sh_ a1 7) (sh_ k1 7) 24 s1.2.2.1 ++ ([] : va_W)))) ++ ([(a2 0, .inr (8, [.int s2.1, .ref (a2 1), .ref (a2 7), .ref (a2 11)]))] ++ (zc_2 (sh_ a2 1) (sh_ k2 1) 40 s2.2.1 ++ (zc_0 (sh_ a2 7) (sh_ k2 7) 24 s2.2.2.1 ++ ([] : va_W)))))) := (pu_2 (pu_l (zc_8 a2 k2 s2) (pu_r ([(a1 0, .inr (8, [.int s1.1, .ref (a1 1), .ref (a1 7), .ref (a1 11)]))]) (pu_r (zc_2 (sh_ a1 1) (sh_ k1 1) 40 s1.2.1) (pu_r (zc_0 (sh_ a1 7) (sh_ k1 7) 24 s1.2.2.1) (pu_1 (zc_0 (sh_ a1 11) (sh_ k1 11) 6 u1)))))) (pu_r (([(a1 0, .inr (8, [.int s1.1, .ref (a1 1), .ref (a1 7), .ref (a1 11)]))] ++ (zc_2 (sh_ a1 1) (sh_ k1 1) 40 s1.2.1 ++ (zc_0 (sh_ a1 7) (sh_ k1 7) 24 s1.2.2.1 ++ ([] : va_W))))) (pu_r ([(a2 0, .inr (8, [.int s2.1, .ref (a2 1), .ref (a2 7), .ref (a2 11)]))]) (pu_r (zc_2 (sh_ a2 1) (sh_ k2 1) 40 s2.2.1) (pu_r (zc_0 (sh_ a2 7) (sh_ k2 7) 24 s2.2.2.1) (pu_1 (zc_0 (sh_ a2 11) (sh_ k2 11) 6 s2.2.2.2)))))))
set_option maxHeartbeats 4000000 in
set_option maxRecDepth 100000 in
theorem cc_X8_copyFrom (l : Launch) (dC : Nat → ClassId) (dI : Nat → Nat → Nat) (fu : Nat) (a1 : Nat → Nat) (a2 : Nat → Nat) (k1 : Nat → ClassId) (k2 : Nat → ClassId) (sz : Nat) (s1 : ZT_8) (s2 : ZT_8) (res : ZT_8) (hR : rr_X8_copyFrom fu s1 s2 = some res) : Met l yX8_copyFrom wsX8_copyFrom ({ frames := 3, cells := 0, slots := 0, locals := 68 } : Room) (PcF [.ref (a1 0), .ref (a2 0)] sz (dC, dI) (zc_8 a1 k1 s1 ++ zc_8 a2 k2 s2) (zt_8 k1 ++ zt_8 k2)) (va_Qv (fun u : ZT_8 => res = u) (fun u t => at3_ (dC, dI) (zc_8 a1 k1 u ++ zc_8 a2 k2 s2) (zt_8 k1 ++ zt_8 k2) (va_A (zc_8 a1 k1 s1 ++ zc_8 a2 k2 s2) sz) t) (va_A (zc_8 a1 k1 s1 ++ zc_8 a2 k2 s2) sz)) 0 0 (va_A (zc_8 a1 k1 s1 ++ zc_8 a2 k2 s2) sz) := by
  refine Met.ofW (cc := cX8_copyFrom) (maxL := 2) (ret := none) (by decide) rfl ?_
  intro p e s m args below meth c s₁ B hml hv
  obtain ⟨hav, hsz, hP, hK, hD0⟩ := hv
  have hx := B.exec
  have hb := B.bytes
  have hr := B.returns
  have hts := atoms_spec (ws := wsX8_copyFrom) B.pre
  have hown : s.vm.findClass RX8 = some m.cls := findClass_of_methodNamed B.named
  have hlocks := B.notSynchronized
  have hin8 : ∀ w ∈ wsX80, w ∈ wsX8_copyFrom := fun w h => List.mem_cons_of_mem _ (List.mem_append_left _ (List.mem_append_left _ (List.mem_append_right _ h)))
  subst hsz
  have hD := hD0.self (sz := s.heap.size)
  clear hD0
  generalize hAe : va_A (zc_8 a1 k1 s1 ++ zc_8 a2 k2 s2) s.heap.size = A at hD ⊢
  have hA : ∀ q : Nat, s.heap.size ≤ q → A q := fun q h => by rw [← hAe]; exact Or.inr h
  have hS : va_S A s.heap s.heap [] := va_S.rf
  generalize hQe : MQ below _ args s 0 0 A = Q
  rw [show entryFrame m args 2 = F0 m 0 ((lg_sl ([.ref (a1 0), .ref (a2 0)]) ++ List.replicate (2 - (lg_sl ([.ref (a1 0), .ref (a2 0)])).length) Slot.unset).toArray) [] from by rw [hav]; exact lg_entry_eq m _ _]
  have hl := lv_entry ([.ref (a1 0), .ref (a2 0)]) (n := 2) (Nat.le_of_ble_eq_true rfl)
  generalize (lg_sl ([.ref (a1 0), .ref (a2 0)]) ++ List.replicate (2 - (lg_sl ([.ref (a1 0), .ref (a2 0)])).length) Slot.unset).toArray = ls at hl ⊢
  have hl : lv_has ls 2 [(0, .ref (a1 0)), (1, .ref (a2 0))] := hl
  unfold rr_X8_copyFrom at hR
  refine lv_aload_n hx hb dX8_copyFrom_0 rfl (lv_at hl 0 rfl) ?_
  refine lv_aload_n hx hb dX8_copyFrom_1 rfl (lv_at hl 1 rfl) ?_
  refine va_get (D := (dC, dI)) (ci := 8) (v := .int s2.1) (C := RX8) (T := TX8) (N := 4) hx hb hts hin8 hown hK hP 15 rfl rfl 0 (by decide) (hts (.fieldLink RX8 30 "OldestCoins$Town" "law" "I") (List.mem_of_getElem? (i := 1) rfl)) (fun _ h9 => h9) rfl dX8_copyFrom_2 ?_
  refine va_put (D := (dC, dI)) (ci := 8) (v := .int s2.1) (ty := .int) (C := RX8) (T := TX8) (N := 4) hx hb hts hin8 tyX8 tyX8_ok nmX8 hown hK hP hD hS 0 rfl rfl 0 (by decide) (hts (.fieldLink RX8 30 "OldestCoins$Town" "law" "I") (List.mem_of_getElem? (i := 1) rfl)) (fun _ h9 => h9) rfl (by decide +kernel) rfl rfl (Nat.le_of_ble_eq_true rfl) dX8_copyFrom_5 (fun H1 locs1 hP1 hD1 hS1 => ?_)
  have hP1 : va_P (dC, dI) vwCl (zc_8 a1 k1 (s2.1, s1.2) ++ zc_8 a2 k2 s2) H1 := hP1
  have hD1 : va_D A (zc_8 a1 k1 (s2.1, s1.2) ++ zc_8 a2 k2 s2) := hD1
  clear hP hD hS
  refine lv_aload_n hx hb dX8_copyFrom_8 rfl (lv_at hl 0 rfl) ?_
  refine va_get (D := (dC, dI)) (ci := 8) (v := .ref (a1 1)) (C := RX8) (T := TX8) (N := 4) hx hb hts hin8 hown hK hP1 0 rfl rfl 1 (by decide) (hts (.fieldLink RX8 14 "OldestCoins$Town" "coins" "LOldestCoins$Coins;") (List.mem_of_getElem? (i := 2) rfl)) (fun _ h9 => h9) rfl dX8_copyFrom_9 ?_
  refine lv_aload_n hx hb dX8_copyFrom_12 rfl (lv_at hl 1 rfl) ?_
  refine va_get (D := (dC, dI)) (ci := 8) (v := .ref (a2 1)) (C := RX8) (T := TX8) (N := 4) hx hb hts hin8 hown hK hP1 15 rfl rfl 1 (by decide) (hts (.fieldLink RX8 14 "OldestCoins$Town" "coins" "LOldestCoins$Coins;") (List.mem_of_getElem? (i := 2) rfl)) (fun _ h9 => h9) rfl dX8_copyFrom_13 ?_
  have hR0 := ob_ok hR
  clear hR
  obtain ⟨q2, hq2, hR⟩ := hR0
  refine va_callv (va_runV (As := [.ref (a2 1)]) (rest := []) ⟨hx, hb, hml, hown, hts⟩ (cc_X2_copyFrom l dC dI fu (sh_ a1 1) (sh_ a2 1) (sh_ k1 1) (sh_ k2 1) 40 40 H1.size s1.2.1 s2.2.1 q2 hq2) (cwV 1 hts gX8_copyFrom_X2_copyFrom rfl rfl rfl (by decide +kernel) ⟨Nat.le_of_ble_eq_true rfl, Nat.le_of_ble_eq_true rfl⟩) (pf_v (hK.sub (tys' := zt_2 (sh_ k1 1) ++ zt_2 (sh_ k2 1)) [0, 1, 2, 3, 4, 11, 12, 13, 14, 15] rfl) (sub_P (sb_8_8__0c1_1c1 a1 a2 k1 k2 (s2.1, s1.2) s2) hP1) (sub_D (sb_8_8__0c1_1c1 a1 a2 k1 k2 (s2.1, s1.2) s2) hD1) 2 0 rfl rfl rfl) rfl rfl hl.1 rfl (lv_room (Nat.le_of_ble_eq_true rfl)) dX8_copyFrom_16 ⟨Nat.le_refl _, Nat.le_refl _⟩) hS1 (fun q _ h => (sub_F (sb_8_8__0c1_1c1 a1 a2 k1 k2 (s2.1, s1.2) s2) hD1 hS1 hA) q h) (sub_F (sb_8_8__0c1_1c1 a1 a2 k1 k2 (s2.1, s1.2) s2) hD1 hS1 hA) (fun v2 t2 H2 locs2 ht2 hvm2 hw2 hB2 hz2 hk2 hS2 => ?_)
  subst hw2
  obtain ⟨hP2, hD2⟩ := jn_sub (sb_8_8__0c1_1c1 a1 a2 k1 k2 (s2.1, s1.2) s2) (jo_8_8__0c1_1c1__0 a1 a2 k1 k2 (s2.1, s1.2) s2 q2) rfl hP1 hD1 hk2 ht2 hB2
  have hP2 : va_P (dC, dI) vwCl (zc_8 a1 k1 (s2.1, q2, s1.2.2) ++ zc_8 a2 k2 s2) H2 := hP2
  have hD2 : va_D A (zc_8 a1 k1 (s2.1, q2, s1.2.2) ++ zc_8 a2 k2 s2) := hD2
  clear hP1 hD1 hS1 hB2 hk2 hvm2 hz2 ht2
  refine lv_aload_n hx hb dX8_copyFrom_19 rfl (lv_at hl 0 rfl) ?_
  refine va_get (D := (dC, dI)) (ci := 8) (v := .ref (a1 7)) (C := RX8) (T := TX8) (N := 4) hx hb hts hin8 hown hK hP2 0 rfl rfl 2 (by decide) (hts (.fieldLink RX8 23 "OldestCoins$Town" "day" "LOldestCoins$Bills;") (List.mem_of_getElem? (i := 3) rfl)) (fun _ h9 => h9) rfl dX8_copyFrom_20 ?_
  refine lv_aload_n hx hb dX8_copyFrom_23 rfl (lv_at hl 1 rfl) ?_
  refine va_get (D := (dC, dI)) (ci := 8) (v := .ref (a2 7)) (C := RX8) (T := TX8) (N := 4) hx hb hts hin8 hown hK hP2 15 rfl rfl 2 (by decide) (hts (.fieldLink RX8 23 "OldestCoins$Town" "day" "LOldestCoins$Bills;") (List.mem_of_getElem? (i := 3) rfl)) (fun _ h9 => h9) rfl dX8_copyFrom_24 ?_
  have hR0 := ob_ok hR
  clear hR
  obtain ⟨q3, hq3, hR⟩ := hR0
  refine va_callv (va_runV (As := [.ref (a2 7)]) (rest := []) ⟨hx, hb, hml, hown, hts⟩ (cc_X0_copyFrom l dC dI fu (sh_ a1 7) (sh_ a2 7) (sh_ k1 7) (sh_ k2 7) 24 24 H2.size s1.2.2.1 s2.2.2.1 q3 hq3) (cwV 1 hts gX8_copyFrom_X0_copyFrom rfl rfl rfl (by decide +kernel) ⟨Nat.le_of_ble_eq_true rfl, Nat.le_of_ble_eq_true rfl⟩) (pf_v (hK.sub (tys' := zt_0 (sh_ k1 7) ++ zt_0 (sh_ k2 7)) [5, 6, 7, 16, 17, 18] rfl) (sub_P (sb_8_8__0c7_1c7 a1 a2 k1 k2 (s2.1, q2, s1.2.2) s2) hP2) (sub_D (sb_8_8__0c7_1c7 a1 a2 k1 k2 (s2.1, q2, s1.2.2) s2) hD2) 0 0 rfl rfl rfl) rfl rfl hl.1 rfl (lv_room (Nat.le_of_ble_eq_true rfl)) dX8_copyFrom_27 ⟨Nat.le_refl _, Nat.le_refl _⟩) hS2 (fun q _ h => (sub_F (sb_8_8__0c7_1c7 a1 a2 k1 k2 (s2.1, q2, s1.2.2) s2) hD2 hS2 hA) q h) (sub_F (sb_8_8__0c7_1c7 a1 a2 k1 k2 (s2.1, q2, s1.2.2) s2) hD2 hS2 hA) (fun v3 t3 H3 locs3 ht3 hvm3 hw3 hB3 hz3 hk3 hS3 => ?_)
  subst hw3
  obtain ⟨hP3, hD3⟩ := jn_sub (sb_8_8__0c7_1c7 a1 a2 k1 k2 (s2.1, q2, s1.2.2) s2) (jo_8_8__0c7_1c7__0 a1 a2 k1 k2 (s2.1, q2, s1.2.2) s2 q3) rfl hP2 hD2 hk3 ht3 hB3
  have hP3 : va_P (dC, dI) vwCl (zc_8 a1 k1 (s2.1, q2, q3, s1.2.2.2) ++ zc_8 a2 k2 s2) H3 := hP3
  have hD3 : va_D A (zc_8 a1 k1 (s2.1, q2, q3, s1.2.2.2) ++ zc_8 a2 k2 s2) := hD3
  clear hP2 hD2 hS2 hB3 hk3 hvm3 hz3 ht3
  refine lv_aload_n hx hb dX8_copyFrom_30 rfl (lv_at hl 0 rfl) ?_
  refine va_get (D := (dC, dI)) (ci := 8) (v := .ref (a1 11)) (C := RX8) (T := TX8) (N := 4) hx hb hts hin8 hown hK hP3 0 rfl rfl 3 (by decide) (hts (.fieldLink RX8 27 "OldestCoins$Town" "errands" "LOldestCoins$Bills;") (List.mem_of_getElem? (i := 4) rfl)) (fun _ h9 => h9) rfl dX8_copyFrom_31 ?_
  refine lv_aload_n hx hb dX8_copyFrom_34 rfl (lv_at hl 1 rfl) ?_
  refine va_get (D := (dC, dI)) (ci := 8) (v := .ref (a2 11)) (C := RX8) (T := TX8) (N := 4) hx hb hts hin8 hown hK hP3 15 rfl rfl 3 (by decide) (hts (.fieldLink RX8 27 "OldestCoins$Town" "errands" "LOldestCoins$Bills;") (List.mem_of_getElem? (i := 4) rfl)) (fun _ h9 => h9) rfl dX8_copyFrom_35 ?_
  have hR0 := ob_ok hR
  clear hR
  obtain ⟨q4, hq4, hR⟩ := hR0
  refine va_callv (va_runV (As := [.ref (a2 11)]) (rest := []) ⟨hx, hb, hml, hown, hts⟩ (cc_X0_copyFrom l dC dI fu (sh_ a1 11) (sh_ a2 11) (sh_ k1 11) (sh_ k2 11) 6 6 H3.size s1.2.2.2 s2.2.2.2 q4 hq4) (cwV 1 hts gX8_copyFrom_X0_copyFrom rfl rfl rfl (by decide +kernel) ⟨Nat.le_of_ble_eq_true rfl, Nat.le_of_ble_eq_true rfl⟩) (pf_v (hK.sub (tys' := zt_0 (sh_ k1 11) ++ zt_0 (sh_ k2 11)) [8, 9, 10, 19, 20, 21] rfl) (sub_P (sb_8_8__0c11_1c11 a1 a2 k1 k2 (s2.1, q2, q3, s1.2.2.2) s2) hP3) (sub_D (sb_8_8__0c11_1c11 a1 a2 k1 k2 (s2.1, q2, q3, s1.2.2.2) s2) hD3) 0 0 rfl rfl rfl) rfl rfl hl.1 rfl (lv_room (Nat.le_of_ble_eq_true rfl)) dX8_copyFrom_38 ⟨Nat.le_refl _, Nat.le_refl _⟩) hS3 (fun q _ h => (sub_F (sb_8_8__0c11_1c11 a1 a2 k1 k2 (s2.1, q2, q3, s1.2.2.2) s2) hD3 hS3 hA) q h) (sub_F (sb_8_8__0c11_1c11 a1 a2 k1 k2 (s2.1, q2, q3, s1.2.2.2) s2) hD3 hS3 hA) (fun v4 t4 H4 locs4 ht4 hvm4 hw4 hB4 hz4 hk4 hS4 => ?_)
  subst hw4
  obtain ⟨hP4, hD4⟩ := jn_sub (sb_8_8__0c11_1c11 a1 a2 k1 k2 (s2.1, q2, q3, s1.2.2.2) s2) (jo_8_8__0c11_1c11__0 a1 a2 k1 k2 (s2.1, q2, q3, s1.2.2.2) s2 q4) rfl hP3 hD3 hk4 ht4 hB4
  have hP4 : va_P (dC, dI) vwCl (zc_8 a1 k1 (s2.1, q2, q3, q4) ++ zc_8 a2 k2 s2) H4 := hP4
  have hD4 : va_D A (zc_8 a1 k1 (s2.1, q2, q3, q4) ++ zc_8 a2 k2 s2) := hD4
  clear hP3 hD3 hS3 hB4 hk4 hvm4 hz4 ht4
  subst hQe
  exact W.vret hx hb hr (fun t ht hW => ⟨⟨(s2.1, q2, q3, q4), rfl, (Option.some.inj hR).symm, by rw [ht]; exact hP4, va_K.moved hW.alike hK, hD4⟩, hS4.F ht⟩) hS4.2.2 dX8_copyFrom_41
def rr_X4_numbersOf_37 (fu : Nat) (s1 : ZT_4) (rec5 : Int64 → Int64 → Int32 → Option (Int64)) (y1 : Int64) (y3 : Int64) (y5 : Int32) : Option (Int64) := lt_ (α := Int32) (y5 + (1 : Int32)) (fun z8 => rec5 y1 y3 z8)
def rr_X4_numbersOf_5_b (fu : Nat) (s1 : ZT_4) (rec5 : Int64 → Int64 → Int32 → Option (Int64)) (y1 : Int64) (y3 : Int64) (y5 : Int32) : Option (Int64) := (if s1.1 ≤ y5 then some y3 else (if (lg_cmp ((y1 >>> (y5.toInt64 &&& 63)) &&& (1 : Int64)) (0 : Int64)) = (0 : Int32) then rr_X4_numbersOf_37 fu s1 rec5 y1 y3 y5 else ck_ y5 64 (lt_ (α := Int64) (y3 ||| ((1 : Int64) <<< ((s1.2.1 y5.toNatClampNeg).toInt64 &&& 63))) (fun z6 => rr_X4_numbersOf_37 fu s1 rec5 y1 z6 y5))))
def rr_X4_numbersOf_5 (fu : Nat) (s1 : ZT_4) (n : Nat) : Int64 → Int64 → Int32 → Option (Int64) := lp_ (fun _ _ _ => none) (rr_X4_numbersOf_5_b fu s1) n
def rr_X4_numbersOf (fu : Nat) (x1 : Int64) (s1 : ZT_4) : Option (Int64) := rr_X4_numbersOf_5 fu s1 fu x1 (0 : Int64) (0 : Int32)
set_option maxHeartbeats 4000000 in
set_option maxRecDepth 100000 in
theorem cc_X4_numbersOf (l : Launch) (dC : Nat → ClassId) (dI : Nat → Nat → Nat) (fu : Nat) (a1 : Nat → Nat) (k1 : Nat → ClassId) (sz : Nat) (x1 : Int64) (s1 : ZT_4) (res : Int64) (hR : rr_X4_numbersOf fu x1 s1 = some res) : Met l yX4_numbersOf wsX4_numbersOf ({ frames := 0, cells := 0, slots := 0, locals := 0 } : Room) (PcF [.ref (a1 0), .long x1] sz (dC, dI) (zc_4 a1 k1 s1) (zt_4 k1)) (va_Ql (fun (r : Int64) (u : Unit) => res = r) (fun u t => at3_ (dC, dI) (zc_4 a1 k1 s1) (zt_4 k1) (va_A (zc_4 a1 k1 s1) sz) t) (va_A (zc_4 a1 k1 s1) sz)) 0 0 (va_A (zc_4 a1 k1 s1) sz) := by
  refine Met.ofW (cc := cX4_numbersOf) (maxL := 6) (ret := (some .long)) (by decide) rfl ?_
  intro p e s m args below meth c s₁ B hml hv
  obtain ⟨hav, hsz, hP, hK, hD0⟩ := hv
  have hx := B.exec
  have hb := B.bytes
  have hr := B.returns
  have hts := atoms_spec (ws := wsX4_numbersOf) B.pre
  have hown : s.vm.findClass RX4 = some m.cls := findClass_of_methodNamed B.named
  have hlocks := B.notSynchronized
  have hin4 : ∀ w ∈ wsX40, w ∈ wsX4_numbersOf := fun w h => List.mem_cons_of_mem _ (List.mem_append_right _ h)
  subst hsz
  have hD := hD0.self (sz := s.heap.size)
  clear hD0
  generalize hAe : va_A (zc_4 a1 k1 s1) s.heap.size = A at hD ⊢
  have hA : ∀ q : Nat, s.heap.size ≤ q → A q := fun q h => by rw [← hAe]; exact Or.inr h
  have hS : va_S A s.heap s.heap [] := va_S.rf
  generalize hQe : MQ below _ args s 0 0 A = Q
  rw [show entryFrame m args 6 = F0 m 0 ((lg_sl ([.ref (a1 0), .long x1]) ++ List.replicate (6 - (lg_sl ([.ref (a1 0), .long x1])).length) Slot.unset).toArray) [] from by rw [hav]; exact lg_entry_eq m _ _]
  have hl := lv_entry ([.ref (a1 0), .long x1]) (n := 6) (Nat.le_of_ble_eq_true rfl)
  generalize (lg_sl ([.ref (a1 0), .long x1]) ++ List.replicate (6 - (lg_sl ([.ref (a1 0), .long x1])).length) Slot.unset).toArray = ls at hl ⊢
  have hl : lv_has ls 6 [(0, .ref (a1 0)), (1, .long x1)] := hl
  have hB37 : ∀ (rec5 : Int64 → Int64 → Int32 → Option (Int64)) (hrec5 : ∀ (y1 : Int64) (y3 : Int64) (y5 : Int32) (H : Heap) (locs : List Loc) (ls : Array Slot), va_P (dC, dI) vwCl (zc_4 a1 k1 s1) H → va_D A (zc_4 a1 k1 s1) → va_S A s.heap H locs → lv_has ls 6 [(0, .ref (a1 0)), (1, .long y1), (3, .long y3), (5, .int y5)] → rec5 y1 y3 y5 = some res → W p l e ({ frames := 0, cells := 0, slots := 0, locals := 0 } : Room) s m args below meth c H locs 0 0 Q (F0 m 5 ls [])), ∀ (y1 : Int64) (y3 : Int64) (y5 : Int32) (H : Heap) (locs : List Loc) (ls : Array Slot), va_P (dC, dI) vwCl (zc_4 a1 k1 s1) H → va_D A (zc_4 a1 k1 s1) → va_S A s.heap H locs → lv_has ls 6 [(0, .ref (a1 0)), (1, .long y1), (3, .long y3), (5, .int y5)] → rr_X4_numbersOf_37 fu s1 rec5 y1 y3 y5 = some res → W p l e ({ frames := 0, cells := 0, slots := 0, locals := 0 } : Room) s m args below meth c H locs 0 0 Q (F0 m 37 ls []) := by
    intro rec5 hrec5 y1 y3 y5 H locs ls hP hD hS hl hR
    unfold rr_X4_numbersOf_37 at hR
    obtain ⟨z8, ez8⟩ : ∃ y : Int32, y = (y5 + (1 : Int32)) := ⟨_, rfl⟩
    replace hR := lt_ok hR ez8
    refine lv_iinc (v := z8) (lv' := [(5, .int z8), (0, .ref (a1 0)), (1, .long y1), (3, .long y3)]) hx hb dX4_numbersOf_37 hl (k := 3) rfl (by rw [ez8]; rfl) (by decide) rfl (fun ls8 hl8 => ?_)
    refine lv_goto (tgt := 5) hx hb dX4_numbersOf_40 (by decide) ?_
    exact hrec5 y1 y3 z8 H locs ls8 hP hD hS (lv_sub hl8 [1, 2, 3, 0] rfl) hR
  have hB5 : ∀ (n : Nat), ∀ (y1 : Int64) (y3 : Int64) (y5 : Int32) (H : Heap) (locs : List Loc) (ls : Array Slot), va_P (dC, dI) vwCl (zc_4 a1 k1 s1) H → va_D A (zc_4 a1 k1 s1) → va_S A s.heap H locs → lv_has ls 6 [(0, .ref (a1 0)), (1, .long y1), (3, .long y3), (5, .int y5)] → rr_X4_numbersOf_5 fu s1 n y1 y3 y5 = some res → W p l e ({ frames := 0, cells := 0, slots := 0, locals := 0 } : Room) s m args below meth c H locs 0 0 Q (F0 m 5 ls []) := by
    intro  n
    induction n with
    | zero => intro y1 y3 y5 H locs ls hP hD hS hl hR; exact absurd hR (by intro h; cases h)
    | succ n ih =>
      intro y1 y3 y5 H locs ls hP hD hS hl hR
      replace hR : rr_X4_numbersOf_5_b fu s1 (rr_X4_numbersOf_5 fu s1 n) y1 y3 y5 = some res := hR
      unfold rr_X4_numbersOf_5_b at hR
      refine lv_iload hx hb dX4_numbersOf_5 (lv_at hl 3 rfl) ?_
      refine lv_aload_n hx hb dX4_numbersOf_7 rfl (lv_at hl 0 rfl) ?_
      refine va_get (D := (dC, dI)) (ci := 4) (v := .int s1.1) (C := RX4) (T := TX4) (N := 6) hx hb hts hin4 hown hK hP 0 rfl rfl 0 (by decide) (hts (.fieldLink RX4 28 "OldestCoins$Ranks" "size" "I") (List.mem_of_getElem? (i := 1) rfl)) (fun _ h9 => h9) rfl dX4_numbersOf_8 ?_
      refine lv_icmp_ge (tgt := 43) hx hb dX4_numbersOf_11 (by decide) (fun c3 => ?_) (fun c3 => ?_)
      · replace hR := ifp_ hR c3
        refine lv_lload_n hx hb dX4_numbersOf_43 rfl (lv_at hl 2 rfl) ?_
        subst hQe
        exact W.lret (v := y3) hx hb hr (fun t ht hW => ⟨⟨y3, (), rfl, (Option.some.inj hR).symm, by rw [ht]; exact hP, va_K.moved hW.alike hK, hD⟩, hS.F ht⟩) hS.2.2 dX4_numbersOf_44
      · replace hR := ifn_ hR c3
        refine lv_lload_n hx hb dX4_numbersOf_14 rfl (lv_at hl 1 rfl) ?_
        refine lv_iload hx hb dX4_numbersOf_15 (lv_at hl 3 rfl) ?_
        refine lv_lshr (v := (y1 >>> (y5.toInt64 &&& 63))) hx hb dX4_numbersOf_17 rfl ?_
        refine lv_lconst (v := (1 : Int64)) hx hb dX4_numbersOf_18 (by decide) ?_
        refine lv_land hx hb dX4_numbersOf_19 ?_
        refine lv_lconst (v := (0 : Int64)) hx hb dX4_numbersOf_20 (by decide) ?_
        refine W.lcmp hx hb dX4_numbersOf_21 ?_
        refine lv_if_eq (tgt := 37) hx hb dX4_numbersOf_22 (by decide) (fun c4 => ?_) (fun c4 => ?_)
        · replace hR := ifp_ hR c4
          exact hB37 (rr_X4_numbersOf_5 fu s1 n) ih y1 y3 y5 H locs ls hP hD hS (lv_sub hl [0, 1, 2, 3] rfl) hR
        · replace hR := ifn_ hR c4
          refine lv_lload_n hx hb dX4_numbersOf_25 rfl (lv_at hl 2 rfl) ?_
          refine lv_lconst (v := (1 : Int64)) hx hb dX4_numbersOf_26 (by decide) ?_
          refine lv_aload_n hx hb dX4_numbersOf_27 rfl (lv_at hl 0 rfl) ?_
          refine va_get (D := (dC, dI)) (ci := 4) (v := .ref (a1 1)) (C := RX4) (T := TX4) (N := 6) hx hb hts hin4 hown hK hP 0 rfl rfl 1 (by decide) (hts (.fieldLink RX4 9 "OldestCoins$Ranks" "coinAt" "[I") (List.mem_of_getElem? (i := 2) rfl)) (fun _ h9 => h9) rfl dX4_numbersOf_28 ?_
          refine lv_iload hx hb dX4_numbersOf_31 (lv_at hl 3 rfl) ?_
          have i5 := (ck_ok hR).1
          replace hR := (ck_ok hR).2
          refine va_iald (f := s1.2.1) hx hb hK hP 1 0 rfl rfl i5 dX4_numbersOf_33 ?_
          refine lv_lshl (v := ((1 : Int64) <<< ((s1.2.1 y5.toNatClampNeg).toInt64 &&& 63))) hx hb dX4_numbersOf_34 rfl ?_
          refine lv_lor hx hb dX4_numbersOf_35 ?_
          refine lv_topl (fun z6 ez6 => ?_)
          replace hR := lt_ok hR ez6
          refine lv_lstore_n (lv' := [(3, .long z6), (0, .ref (a1 0)), (1, .long y1), (5, .int y5)]) hx hb dX4_numbersOf_36 rfl hl (by decide) rfl (fun ls7 hl7 => ?_)
          exact hB37 (rr_X4_numbersOf_5 fu s1 n) ih y1 z6 y5 H locs ls7 hP hD hS (lv_sub hl7 [1, 2, 0, 3] rfl) hR
  unfold rr_X4_numbersOf at hR
  refine lv_lconst (v := (0 : Int64)) hx hb dX4_numbersOf_0 (by decide) ?_
  refine lv_lstore_n (lv' := [(3, .long (0 : Int64)), (0, .ref (a1 0)), (1, .long x1)]) hx hb dX4_numbersOf_1 rfl hl (by decide) rfl (fun ls1 hl1 => ?_)
  refine lv_iconst (v := (0 : Int32)) hx hb dX4_numbersOf_2 (by decide) ?_
  refine lv_istore (lv' := [(5, .int (0 : Int32)), (3, .long (0 : Int64)), (0, .ref (a1 0)), (1, .long x1)]) hx hb dX4_numbersOf_3 hl1 (by decide) rfl (fun ls2 hl2 => ?_)
  exact hB5 fu x1 (0 : Int64) (0 : Int32) s.heap [] ls2 hP hD hS (lv_sub hl2 [2, 3, 1, 0] rfl) hR
def rr_X4_nextBack (fu : Nat) (x1 : Int64) (s1 : ZT_4) : Option (Int32) := (rr_J13_numberOfLeadingZeros_95d88 fu x1).bind (fun q1 => lt_ (α := Int32) (((63 : Int32) - q1) &&& (63 : Int32)) (fun z2 => ck_ z2 64 ((rr_J13_numberOfTrailingZeros_95d88 fu (x1 &&& (s1.2.2.2.2.2 z2.toNatClampNeg))).bind (fun q5 => some (q5 &&& (63 : Int32))))))
set_option maxHeartbeats 4000000 in
set_option maxRecDepth 100000 in
theorem cc_X4_nextBack (l : Launch) (dC : Nat → ClassId) (dI : Nat → Nat → Nat) (fu : Nat) (a1 : Nat → Nat) (k1 : Nat → ClassId) (sz : Nat) (x1 : Int64) (s1 : ZT_4) (res : Int32) (hR : rr_X4_nextBack fu x1 s1 = some res) : Met l yX4_nextBack wsX4_nextBack ({ frames := 2, cells := 0, slots := 0, locals := 43 } : Room) (PcF [.ref (a1 0), .long x1] sz (dC, dI) (zc_4 a1 k1 s1) (zt_4 k1)) (va_Qi (fun (r : Int32) (u : Unit) => res = r) (fun u t => at3_ (dC, dI) (zc_4 a1 k1 s1) (zt_4 k1) (va_A (zc_4 a1 k1 s1) sz) t) (va_A (zc_4 a1 k1 s1) sz)) 0 0 (va_A (zc_4 a1 k1 s1) sz) := by
  refine Met.ofW (cc := cX4_nextBack) (maxL := 4) (ret := (some .int)) (by decide) rfl ?_
  intro p e s m args below meth c s₁ B hml hv
  obtain ⟨hav, hsz, hP, hK, hD0⟩ := hv
  have hx := B.exec
  have hb := B.bytes
  have hr := B.returns
  have hts := atoms_spec (ws := wsX4_nextBack) B.pre
  have hown : s.vm.findClass RX4 = some m.cls := findClass_of_methodNamed B.named
  have hlocks := B.notSynchronized
  have hin4 : ∀ w ∈ wsX40, w ∈ wsX4_nextBack := fun w h => List.mem_cons_of_mem _ (List.mem_append_right _ h)
  subst hsz
  have hD := hD0.self (sz := s.heap.size)
  clear hD0
  generalize hAe : va_A (zc_4 a1 k1 s1) s.heap.size = A at hD ⊢
  have hA : ∀ q : Nat, s.heap.size ≤ q → A q := fun q h => by rw [← hAe]; exact Or.inr h
  have hS : va_S A s.heap s.heap [] := va_S.rf
  generalize hQe : MQ below _ args s 0 0 A = Q
  rw [show entryFrame m args 4 = F0 m 0 ((lg_sl ([.ref (a1 0), .long x1]) ++ List.replicate (4 - (lg_sl ([.ref (a1 0), .long x1])).length) Slot.unset).toArray) [] from by rw [hav]; exact lg_entry_eq m _ _]
  have hl := lv_entry ([.ref (a1 0), .long x1]) (n := 4) (Nat.le_of_ble_eq_true rfl)
  generalize (lg_sl ([.ref (a1 0), .long x1]) ++ List.replicate (4 - (lg_sl ([.ref (a1 0), .long x1])).length) Slot.unset).toArray = ls at hl ⊢
  have hl : lv_has ls 4 [(0, .ref (a1 0)), (1, .long x1)] := hl
  unfold rr_X4_nextBack at hR
  refine lv_bipush (v := (63 : Int32)) hx hb dX4_nextBack_0 (by decide) ?_
  refine lv_lload_n hx hb dX4_nextBack_2 rfl (lv_at hl 1 rfl) ?_
  have hR0 := ob_ok hR
  clear hR
  obtain ⟨q1, hq1, hR⟩ := hR0
  refine va_calli (va_runS (As := [.long x1]) (rest := [.int (63 : Int32)]) ⟨hx, hb, hml, hown, hts⟩ (cc_J13_numberOfLeadingZeros_95d88 l dC dI fu s.heap.size x1 q1 hq1) (va_cwS 1 hts gX4_nextBack_J13_numberOfLeadingZeros_95d88 rfl rfl rfl (by decide +kernel) ⟨Nat.le_of_ble_eq_true rfl, Nat.le_of_ble_eq_true rfl⟩) (pf_s (nil_K hK) nil_P (nil_D (A := A))) rfl rfl hl.1 rfl (lv_room (Nat.le_of_ble_eq_true rfl)) dX4_nextBack_3 ⟨Nat.le_refl _, Nat.le_refl _⟩) hS (fun q _ h => (fr_none hS hA) q h) (fr_none hS hA) (fun r1 v1 t1 H1 locs1 ht1 hvm1 hw1 hB1 hz1 hk1 hS1 => ?_)
  subst hw1
  have hP1 := jn_none hP hk1
  have hD1 := hD
  have hP1 : va_P (dC, dI) vwCl (zc_4 a1 k1 s1) H1 := hP1
  have hD1 : va_D A (zc_4 a1 k1 s1) := hD1
  clear hP hD hS hB1 hk1 hvm1 hz1 ht1
  refine lv_isub hx hb dX4_nextBack_6 ?_
  refine lv_bipush (v := (63 : Int32)) hx hb dX4_nextBack_7 (by decide) ?_
  refine lv_iand hx hb dX4_nextBack_9 ?_
  refine lv_topi (fun z2 ez2 => ?_)
  replace hR := lt_ok hR ez2
  refine lv_istore_n (lv' := [(3, .int z2), (0, .ref (a1 0)), (1, .long x1)]) hx hb dX4_nextBack_10 rfl hl (by decide) rfl (fun ls3 hl3 => ?_)
  refine lv_lload_n hx hb dX4_nextBack_11 rfl (lv_at hl3 2 rfl) ?_
  refine lv_aload_n hx hb dX4_nextBack_12 rfl (lv_at hl3 1 rfl) ?_
  refine va_get (D := (dC, dI)) (ci := 4) (v := .ref (a1 5)) (C := RX4) (T := TX4) (N := 6) hx hb hts hin4 hown hK hP1 0 rfl rfl 5 (by decide) (hts (.fieldLink RX4 24 "OldestCoins$Ranks" "alike" "[J") (List.mem_of_getElem? (i := 1) rfl)) (fun _ h9 => h9) rfl dX4_nextBack_13 ?_
  refine lv_iload_n hx hb dX4_nextBack_16 rfl (lv_at hl3 0 rfl) ?_
  have i4 := (ck_ok hR).1
  replace hR := (ck_ok hR).2
  refine va_lald (f := s1.2.2.2.2.2) hx hb hK hP1 5 4 rfl rfl i4 dX4_nextBack_17 ?_
  refine lv_land hx hb dX4_nextBack_18 ?_
  have hR0 := ob_ok hR
  clear hR
  obtain ⟨q5, hq5, hR⟩ := hR0
  refine va_calli (va_runS (As := [.long (x1 &&& (s1.2.2.2.2.2 z2.toNatClampNeg))]) (rest := []) ⟨hx, hb, hml, hown, hts⟩ (cc_J13_numberOfTrailingZeros_95d88 l dC dI fu H1.size (x1 &&& (s1.2.2.2.2.2 z2.toNatClampNeg)) q5 hq5) (va_cwS 1 hts gX4_nextBack_J13_numberOfTrailingZeros_95d88 rfl rfl rfl (by decide +kernel) ⟨Nat.le_of_ble_eq_true rfl, Nat.le_of_ble_eq_true rfl⟩) (pf_s (nil_K hK) nil_P (nil_D (A := A))) rfl rfl hl3.1 rfl (lv_room (Nat.le_of_ble_eq_true rfl)) dX4_nextBack_19 ⟨Nat.le_refl _, Nat.le_refl _⟩) hS1 (fun q _ h => (fr_none hS1 hA) q h) (fr_none hS1 hA) (fun r5 v5 t5 H5 locs5 ht5 hvm5 hw5 hB5 hz5 hk5 hS5 => ?_)
  subst hw5
  have hP5 := jn_none hP1 hk5
  have hD5 := hD1
  have hP5 : va_P (dC, dI) vwCl (zc_4 a1 k1 s1) H5 := hP5
  have hD5 : va_D A (zc_4 a1 k1 s1) := hD5
  clear hP1 hD1 hS1 hB5 hk5 hvm5 hz5 ht5
  refine lv_bipush (v := (63 : Int32)) hx hb dX4_nextBack_22 (by decide) ?_
  refine lv_iand hx hb dX4_nextBack_24 ?_
  subst hQe
  exact W.iret (v := (q5 &&& (63 : Int32))) hx hb hr (fun t ht hW => ⟨⟨(q5 &&& (63 : Int32)), (), rfl, (Option.some.inj hR).symm, by rw [ht]; exact hP5, va_K.moved hW.alike hK, hD5⟩, hS5.F ht⟩) hS5.2.2 dX4_nextBack_25
def rr_X1_giveBack_100 (fu : Nat) (s2 : ZT_4) (rec19 : Int64 → Int32 → ZT_1 → Option (ZT_1)) (y4 : Int64) (y6 : Int32) (u1 : ZT_1) : Option (ZT_1) := lt_ (α := Int32) (y6 + (1 : Int32)) (fun z19 => rec19 y4 z19 u1)
def rr_X1_giveBack_19_b (fu : Nat) (s2 : ZT_4) (rec19 : Int64 → Int32 → ZT_1 → Option (ZT_1)) (y4 : Int64) (y6 : Int32) (u1 : ZT_1) : Option (ZT_1) := (if (40 : Int32) ≤ y6 then some u1 else (if (lg_cmp y4 (0 : Int64)) = (0 : Int32) then some u1 else (if u1.2.2.2.2 ≤ (0 : Int32) then some u1 else (rr_X4_nextBack fu y4 s2).bind (fun q8 => lt_ (α := Int64) (y4 ^^^ ((1 : Int64) <<< (q8.toInt64 &&& 63))) (fun z10 => ck_ q8 64 ((if u1.2.2.2.2 < (s2.2.2.1 q8.toNatClampNeg) then rr_X1_giveBack_100 fu s2 rec19 z10 y6 u1 else ck_ q8 64 (lt_ (α := Int32) (u1.2.2.2.2 - (s2.2.2.1 q8.toNatClampNeg)) (fun z15 => lt_ (α := Int64) (u1.2.2.1 ||| ((1 : Int64) <<< (q8.toInt64 &&& 63))) (fun z17 => rr_X1_giveBack_100 fu s2 rec19 z10 y6 (u1.1, u1.2.1, z17, u1.2.2.2.1, z15)))))))))))
def rr_X1_giveBack_19 (fu : Nat) (s2 : ZT_4) (n : Nat) : Int64 → Int32 → ZT_1 → Option (ZT_1) := lp_ (fun _ _ _ => none) (rr_X1_giveBack_19_b fu s2) n
def rr_X1_giveBack (fu : Nat) (x2 : Int64) (s1 : ZT_1) (s2 : ZT_4) : Option (ZT_1) := rr_X1_giveBack_19 fu s2 fu x2 (0 : Int32) (s1.1, s1.2.1, (0 : Int64), s1.2.2.2.1, s1.2.2.2.1)
set_option maxRecDepth 100000 in
theorem sb_1_4__1c0 (a1 : Nat → Nat) (a2 : Nat → Nat) (k1 : Nat → ClassId) (k2 : Nat → ClassId) (s1 : ZT_1) (s2 : ZT_4) : List.Perm (zc_1 a1 k1 s1 ++ zc_4 a2 k2 s2) ((zc_4 a2 k2 s2) ++ (zc_1 a1 k1 s1 ++ ([] : va_W))) := (pu_r (zc_1 a1 k1 s1) (pu_1 (zc_4 a2 k2 s2)))
set_option maxRecDepth 100000 in
theorem jo_1_4__1c0__ (a1 : Nat → Nat) (a2 : Nat → Nat) (k1 : Nat → ClassId) (k2 : Nat → ClassId) (s1 : ZT_1) (s2 : ZT_4) : List.Perm (zc_1 a1 k1 s1 ++ zc_4 a2 k2 s2) ((zc_4 a2 k2 s2) ++ (zc_1 a1 k1 s1 ++ ([] : va_W))) := (pu_r (zc_1 a1 k1 s1) (pu_1 (zc_4 a2 k2 s2)))
set_option maxHeartbeats 4000000 in
set_option maxRecDepth 100000 in
theorem cc_X1_giveBack (l : Launch) (dC : Nat → ClassId) (dI : Nat → Nat → Nat) (fu : Nat) (a1 : Nat → Nat) (a2 : Nat → Nat) (k1 : Nat → ClassId) (k2 : Nat → ClassId) (sz : Nat) (x2 : Int64) (s1 : ZT_1) (s2 : ZT_4) (res : ZT_1) (hR : rr_X1_giveBack fu x2 s1 s2 = some res) : Met l yX1_giveBack wsX1_giveBack ({ frames := 3, cells := 0, slots := 0, locals := 66 } : Room) (PcF [.ref (a1 0), .ref (a2 0), .long x2] sz (dC, dI) (zc_1 a1 k1 s1 ++ zc_4 a2 k2 s2) (zt_1 k1 ++ zt_4 k2)) (va_Qv (fun u : ZT_1 => res = u) (fun u t => at3_ (dC, dI) (zc_1 a1 k1 u ++ zc_4 a2 k2 s2) (zt_1 k1 ++ zt_4 k2) (va_A (zc_1 a1 k1 s1 ++ zc_4 a2 k2 s2) sz) t) (va_A (zc_1 a1 k1 s1 ++ zc_4 a2 k2 s2) sz)) 0 0 (va_A (zc_1 a1 k1 s1 ++ zc_4 a2 k2 s2) sz) := by
  refine Met.ofW (cc := cX1_giveBack) (maxL := 8) (ret := none) (by decide) rfl ?_
  intro p e s m args below meth c s₁ B hml hv
  obtain ⟨hav, hsz, hP, hK, hD0⟩ := hv
  have hx := B.exec
  have hb := B.bytes
  have hr := B.returns
  have hts := atoms_spec (ws := wsX1_giveBack) B.pre
  have hown : s.vm.findClass RX1 = some m.cls := findClass_of_methodNamed B.named
  have hlocks := B.notSynchronized
  have hin1 : ∀ w ∈ wsX10, w ∈ wsX1_giveBack := fun w h => List.mem_cons_of_mem _ (List.mem_append_left _ (List.mem_append_right _ h))
  have hin4 : ∀ w ∈ wsX40, w ∈ wsX1_giveBack := fun w h => List.mem_cons_of_mem _ (List.mem_append_right _ h)
  subst hsz
  have hD := hD0.self (sz := s.heap.size)
  clear hD0
  generalize hAe : va_A (zc_1 a1 k1 s1 ++ zc_4 a2 k2 s2) s.heap.size = A at hD ⊢
  have hA : ∀ q : Nat, s.heap.size ≤ q → A q := fun q h => by rw [← hAe]; exact Or.inr h
  have hS : va_S A s.heap s.heap [] := va_S.rf
  generalize hQe : MQ below _ args s 0 0 A = Q
  rw [show entryFrame m args 8 = F0 m 0 ((lg_sl ([.ref (a1 0), .ref (a2 0), .long x2]) ++ List.replicate (8 - (lg_sl ([.ref (a1 0), .ref (a2 0), .long x2])).length) Slot.unset).toArray) [] from by rw [hav]; exact lg_entry_eq m _ _]
  have hl := lv_entry ([.ref (a1 0), .ref (a2 0), .long x2]) (n := 8) (Nat.le_of_ble_eq_true rfl)
  generalize (lg_sl ([.ref (a1 0), .ref (a2 0), .long x2]) ++ List.replicate (8 - (lg_sl ([.ref (a1 0), .ref (a2 0), .long x2])).length) Slot.unset).toArray = ls at hl ⊢
  have hl : lv_has ls 8 [(0, .ref (a1 0)), (1, .ref (a2 0)), (2, .long x2)] := hl
  have hB100 : ∀ (rec19 : Int64 → Int32 → ZT_1 → Option (ZT_1)) (hrec19 : ∀ (y4 : Int64) (y6 : Int32) (u1 : ZT_1) (H : Heap) (locs : List Loc) (ls : Array Slot), va_P (dC, dI) vwCl (zc_1 a1 k1 u1 ++ zc_4 a2 k2 s2) H → va_D A (zc_1 a1 k1 u1 ++ zc_4 a2 k2 s2) → va_S A s.heap H locs → lv_has ls 8 [(0, .ref (a1 0)), (1, .ref (a2 0)), (4, .long y4), (6, .int y6)] → rec19 y4 y6 u1 = some res → W p l e ({ frames := 3, cells := 0, slots := 0, locals := 66 } : Room) s m args below meth c H locs 0 0 Q (F0 m 19 ls [])), ∀ (y4 : Int64) (y6 : Int32) (u1 : ZT_1) (H : Heap) (locs : List Loc) (ls : Array Slot), va_P (dC, dI) vwCl (zc_1 a1 k1 u1 ++ zc_4 a2 k2 s2) H → va_D A (zc_1 a1 k1 u1 ++ zc_4 a2 k2 s2) → va_S A s.heap H locs → lv_has ls 8 [(0, .ref (a1 0)), (1, .ref (a2 0)), (4, .long y4), (6, .int y6)] → rr_X1_giveBack_100 fu s2 rec19 y4 y6 u1 = some res → W p l e ({ frames := 3, cells := 0, slots := 0, locals := 66 } : Room) s m args below meth c H locs 0 0 Q (F0 m 100 ls []) := by
    intro rec19 hrec19 y4 y6 u1 H locs ls hP hD hS hl hR
    unfold rr_X1_giveBack_100 at hR
    obtain ⟨z19, ez19⟩ : ∃ y : Int32, y = (y6 + (1 : Int32)) := ⟨_, rfl⟩
    replace hR := lt_ok hR ez19
    refine lv_iinc (v := z19) (lv' := [(6, .int z19), (0, .ref (a1 0)), (1, .ref (a2 0)), (4, .long y4)]) hx hb dX1_giveBack_100 hl (k := 3) rfl (by rw [ez19]; rfl) (by decide) rfl (fun ls19 hl19 => ?_)
    refine lv_goto (tgt := 19) hx hb dX1_giveBack_103 (by decide) ?_
    exact hrec19 y4 z19 u1 H locs ls19 hP hD hS (lv_sub hl19 [1, 2, 3, 0] rfl) hR
  have hB19 : ∀ (n : Nat), ∀ (y4 : Int64) (y6 : Int32) (u1 : ZT_1) (H : Heap) (locs : List Loc) (ls : Array Slot), va_P (dC, dI) vwCl (zc_1 a1 k1 u1 ++ zc_4 a2 k2 s2) H → va_D A (zc_1 a1 k1 u1 ++ zc_4 a2 k2 s2) → va_S A s.heap H locs → lv_has ls 8 [(0, .ref (a1 0)), (1, .ref (a2 0)), (4, .long y4), (6, .int y6)] → rr_X1_giveBack_19 fu s2 n y4 y6 u1 = some res → W p l e ({ frames := 3, cells := 0, slots := 0, locals := 66 } : Room) s m args below meth c H locs 0 0 Q (F0 m 19 ls []) := by
    intro  n
    induction n with
    | zero => intro y4 y6 u1 H locs ls hP hD hS hl hR; exact absurd hR (by intro h; cases h)
    | succ n ih =>
      intro y4 y6 u1 H locs ls hP hD hS hl hR
      replace hR : rr_X1_giveBack_19_b fu s2 (rr_X1_giveBack_19 fu s2 n) y4 y6 u1 = some res := hR
      unfold rr_X1_giveBack_19_b at hR
      refine lv_iload hx hb dX1_giveBack_19 (lv_at hl 3 rfl) ?_
      refine lv_bipush (v := (40 : Int32)) hx hb dX1_giveBack_21 (by decide) ?_
      refine lv_icmp_ge (tgt := 106) hx hb dX1_giveBack_23 (by decide) (fun c5 => ?_) (fun c5 => ?_)
      · replace hR := ifp_ hR c5
        subst hQe
        exact W.vret hx hb hr (fun t ht hW => ⟨⟨u1, rfl, (Option.some.inj hR).symm, by rw [ht]; exact hP, va_K.moved hW.alike hK, hD⟩, hS.F ht⟩) hS.2.2 dX1_giveBack_106
      · replace hR := ifn_ hR c5
        refine lv_lload hx hb dX1_giveBack_26 (lv_at hl 2 rfl) ?_
        refine lv_lconst (v := (0 : Int64)) hx hb dX1_giveBack_28 (by decide) ?_
        refine W.lcmp hx hb dX1_giveBack_29 ?_
        refine lv_if_eq (tgt := 106) hx hb dX1_giveBack_30 (by decide) (fun c6 => ?_) (fun c6 => ?_)
        · replace hR := ifp_ hR c6
          subst hQe
          exact W.vret hx hb hr (fun t ht hW => ⟨⟨u1, rfl, (Option.some.inj hR).symm, by rw [ht]; exact hP, va_K.moved hW.alike hK, hD⟩, hS.F ht⟩) hS.2.2 dX1_giveBack_106
        · replace hR := ifn_ hR c6
          refine lv_aload_n hx hb dX1_giveBack_33 rfl (lv_at hl 0 rfl) ?_
          refine va_get (D := (dC, dI)) (ci := 1) (v := .int u1.2.2.2.2) (C := RX1) (T := TX1) (N := 5) hx hb hts hin1 hown hK hP 0 rfl rfl 4 (by decide) (hts (.fieldLink RX1 61 "OldestCoins$Board" "lacking" "I") (List.mem_of_getElem? (i := 3) rfl)) (fun _ h9 => h9) rfl dX1_giveBack_34 ?_
          refine lv_if_le (tgt := 106) hx hb dX1_giveBack_37 (by decide) (fun c7 => ?_) (fun c7 => ?_)
          · replace hR := ifp_ hR c7
            subst hQe
            exact W.vret hx hb hr (fun t ht hW => ⟨⟨u1, rfl, (Option.some.inj hR).symm, by rw [ht]; exact hP, va_K.moved hW.alike hK, hD⟩, hS.F ht⟩) hS.2.2 dX1_giveBack_106
          · replace hR := ifn_ hR c7
            refine lv_aload_n hx hb dX1_giveBack_40 rfl (lv_at hl 1 rfl) ?_
            refine lv_lload hx hb dX1_giveBack_41 (lv_at hl 2 rfl) ?_
            have hR0 := ob_ok hR
            clear hR
            obtain ⟨q8, hq8, hR⟩ := hR0
            refine va_calli (va_runV (As := [.long y4]) (rest := []) ⟨hx, hb, hml, hown, hts⟩ (cc_X4_nextBack l dC dI fu a2 k2 H.size y4 s2 q8 hq8) (cwV 1 hts gX1_giveBack_X4_nextBack rfl rfl rfl (by decide +kernel) ⟨Nat.le_of_ble_eq_true rfl, Nat.le_of_ble_eq_true rfl⟩) (pf_v (hK.sub (tys' := zt_4 k2) [1, 2, 3, 4, 5] rfl) (sub_P (sb_1_4__1c0 a1 a2 k1 k2 u1 s2) hP) (sub_D (sb_1_4__1c0 a1 a2 k1 k2 u1 s2) hD) 4 0 rfl rfl rfl) rfl rfl hl.1 rfl (lv_room (Nat.le_of_ble_eq_true rfl)) dX1_giveBack_43 ⟨Nat.le_refl _, Nat.le_refl _⟩) hS (fun q _ h => (sub_F (sb_1_4__1c0 a1 a2 k1 k2 u1 s2) hD hS hA) q h) (sub_F (sb_1_4__1c0 a1 a2 k1 k2 u1 s2) hD hS hA) (fun r8 v8 t8 H8 locs8 ht8 hvm8 hw8 hB8 hz8 hk8 hS8 => ?_)
            subst hw8
            obtain ⟨hP8, hD8⟩ := jn_sub (sb_1_4__1c0 a1 a2 k1 k2 u1 s2) (jo_1_4__1c0__ a1 a2 k1 k2 u1 s2 ) rfl hP hD hk8 ht8 hB8
            have hP8 : va_P (dC, dI) vwCl (zc_1 a1 k1 u1 ++ zc_4 a2 k2 s2) H8 := hP8
            have hD8 : va_D A (zc_1 a1 k1 u1 ++ zc_4 a2 k2 s2) := hD8
            clear hP hD hS hB8 hk8 hvm8 hz8 ht8
            refine lv_istore (lv' := [(7, .int q8), (0, .ref (a1 0)), (1, .ref (a2 0)), (4, .long y4), (6, .int y6)]) hx hb dX1_giveBack_46 hl (by decide) rfl (fun ls9 hl9 => ?_)
            refine lv_lload hx hb dX1_giveBack_48 (lv_at hl9 3 rfl) ?_
            refine lv_lconst (v := (1 : Int64)) hx hb dX1_giveBack_50 (by decide) ?_
            refine lv_iload hx hb dX1_giveBack_51 (lv_at hl9 0 rfl) ?_
            refine lv_lshl (v := ((1 : Int64) <<< (q8.toInt64 &&& 63))) hx hb dX1_giveBack_53 rfl ?_
            refine lv_lxor hx hb dX1_giveBack_54 ?_
            refine lv_topl (fun z10 ez10 => ?_)
            replace hR := lt_ok hR ez10
            refine lv_lstore (lv' := [(4, .long z10), (7, .int q8), (0, .ref (a1 0)), (1, .ref (a2 0)), (6, .int y6)]) hx hb dX1_giveBack_55 hl9 (by decide) rfl (fun ls11 hl11 => ?_)
            refine lv_aload_n hx hb dX1_giveBack_57 rfl (lv_at hl11 3 rfl) ?_
            refine va_get (D := (dC, dI)) (ci := 4) (v := .ref (a2 2)) (C := RX4) (T := TX4) (N := 6) hx hb hts hin4 hown hK hP8 2 rfl rfl 2 (by decide) (hts (.fieldLink RX1 58 "OldestCoins$Ranks" "worthAt" "[I") (List.mem_of_getElem? (i := 4) rfl)) (fun _ h9 => h9) rfl dX1_giveBack_58 ?_
            refine lv_iload hx hb dX1_giveBack_61 (lv_at hl11 1 rfl) ?_
            have i12 := (ck_ok hR).1
            replace hR := (ck_ok hR).2
            refine va_iald (f := s2.2.2.1) hx hb hK hP8 4 2 rfl rfl i12 dX1_giveBack_63 ?_
            refine lv_aload_n hx hb dX1_giveBack_64 rfl (lv_at hl11 2 rfl) ?_
            refine va_get (D := (dC, dI)) (ci := 1) (v := .int u1.2.2.2.2) (C := RX1) (T := TX1) (N := 5) hx hb hts hin1 hown hK hP8 0 rfl rfl 4 (by decide) (hts (.fieldLink RX1 61 "OldestCoins$Board" "lacking" "I") (List.mem_of_getElem? (i := 3) rfl)) (fun _ h9 => h9) rfl dX1_giveBack_65 ?_
            refine lv_icmp_gt (tgt := 100) hx hb dX1_giveBack_68 (by decide) (fun c13 => ?_) (fun c13 => ?_)
            · replace hR := ifp_ hR c13
              exact hB100 (rr_X1_giveBack_19 fu s2 n) ih z10 y6 u1 H8 locs8 ls11 hP8 hD8 hS8 (lv_sub hl11 [2, 3, 0, 4] rfl) hR
            · replace hR := ifn_ hR c13
              refine lv_aload_n hx hb dX1_giveBack_71 rfl (lv_at hl11 2 rfl) ?_
              refine lv_dup hx hb dX1_giveBack_72 rfl ?_
              refine va_get (D := (dC, dI)) (ci := 1) (v := .int u1.2.2.2.2) (C := RX1) (T := TX1) (N := 5) hx hb hts hin1 hown hK hP8 0 rfl rfl 4 (by decide) (hts (.fieldLink RX1 61 "OldestCoins$Board" "lacking" "I") (List.mem_of_getElem? (i := 3) rfl)) (fun _ h9 => h9) rfl dX1_giveBack_73 ?_
              refine lv_aload_n hx hb dX1_giveBack_76 rfl (lv_at hl11 3 rfl) ?_
              refine va_get (D := (dC, dI)) (ci := 4) (v := .ref (a2 2)) (C := RX4) (T := TX4) (N := 6) hx hb hts hin4 hown hK hP8 2 rfl rfl 2 (by decide) (hts (.fieldLink RX1 58 "OldestCoins$Ranks" "worthAt" "[I") (List.mem_of_getElem? (i := 4) rfl)) (fun _ h9 => h9) rfl dX1_giveBack_77 ?_
              refine lv_iload hx hb dX1_giveBack_80 (lv_at hl11 1 rfl) ?_
              have i14 := (ck_ok hR).1
              replace hR := (ck_ok hR).2
              refine va_iald (f := s2.2.2.1) hx hb hK hP8 4 2 rfl rfl i14 dX1_giveBack_82 ?_
              refine lv_isub hx hb dX1_giveBack_83 ?_
              refine lv_topi (fun z15 ez15 => ?_)
              replace hR := lt_ok hR ez15
              refine va_put (D := (dC, dI)) (ci := 1) (v := .int z15) (ty := .int) (C := RX1) (T := TX1) (N := 5) hx hb hts hin1 tyX1 tyX1_ok nmX1 hown hK hP8 hD8 hS8 0 rfl rfl 4 (by decide) (hts (.fieldLink RX1 61 "OldestCoins$Board" "lacking" "I") (List.mem_of_getElem? (i := 3) rfl)) (fun _ h9 => h9) rfl (by decide +kernel) rfl rfl (Nat.le_of_ble_eq_true rfl) dX1_giveBack_84 (fun H16 locs16 hP16 hD16 hS16 => ?_)
              have hP16 : va_P (dC, dI) vwCl (zc_1 a1 k1 (u1.1, u1.2.1, u1.2.2.1, u1.2.2.2.1, z15) ++ zc_4 a2 k2 s2) H16 := hP16
              have hD16 : va_D A (zc_1 a1 k1 (u1.1, u1.2.1, u1.2.2.1, u1.2.2.2.1, z15) ++ zc_4 a2 k2 s2) := hD16
              clear hP8 hD8 hS8
              refine lv_aload_n hx hb dX1_giveBack_87 rfl (lv_at hl11 2 rfl) ?_
              refine lv_dup hx hb dX1_giveBack_88 rfl ?_
              refine va_get (D := (dC, dI)) (ci := 1) (v := .long u1.2.2.1) (C := RX1) (T := TX1) (N := 5) hx hb hts hin1 hown hK hP16 0 rfl rfl 2 (by decide) (hts (.fieldLink RX1 47 "OldestCoins$Board" "given" "J") (List.mem_of_getElem? (i := 1) rfl)) (fun _ h9 => h9) rfl dX1_giveBack_89 ?_
              refine lv_lconst (v := (1 : Int64)) hx hb dX1_giveBack_92 (by decide) ?_
              refine lv_iload hx hb dX1_giveBack_93 (lv_at hl11 1 rfl) ?_
              refine lv_lshl (v := ((1 : Int64) <<< (q8.toInt64 &&& 63))) hx hb dX1_giveBack_95 rfl ?_
              refine lv_lor hx hb dX1_giveBack_96 ?_
              refine lv_topl (fun z17 ez17 => ?_)
              replace hR := lt_ok hR ez17
              refine va_put (D := (dC, dI)) (ci := 1) (v := .long z17) (ty := .long) (C := RX1) (T := TX1) (N := 5) hx hb hts hin1 tyX1 tyX1_ok nmX1 hown hK hP16 hD16 hS16 0 rfl rfl 2 (by decide) (hts (.fieldLink RX1 47 "OldestCoins$Board" "given" "J") (List.mem_of_getElem? (i := 1) rfl)) (fun _ h9 => h9) rfl (by decide +kernel) rfl rfl (Nat.le_of_ble_eq_true rfl) dX1_giveBack_97 (fun H18 locs18 hP18 hD18 hS18 => ?_)
              have hP18 : va_P (dC, dI) vwCl (zc_1 a1 k1 (u1.1, u1.2.1, z17, u1.2.2.2.1, z15) ++ zc_4 a2 k2 s2) H18 := hP18
              have hD18 : va_D A (zc_1 a1 k1 (u1.1, u1.2.1, z17, u1.2.2.2.1, z15) ++ zc_4 a2 k2 s2) := hD18
              clear hP16 hD16 hS16
              exact hB100 (rr_X1_giveBack_19 fu s2 n) ih z10 y6 (u1.1, u1.2.1, z17, u1.2.2.2.1, z15) H18 locs18 ls11 hP18 hD18 hS18 (lv_sub hl11 [2, 3, 0, 4] rfl) hR
  unfold rr_X1_giveBack at hR
  refine lv_lload_n hx hb dX1_giveBack_0 rfl (lv_at hl 2 rfl) ?_
  refine lv_lstore (lv' := [(4, .long x2), (0, .ref (a1 0)), (1, .ref (a2 0)), (2, .long x2)]) hx hb dX1_giveBack_1 hl (by decide) rfl (fun ls1 hl1 => ?_)
  refine lv_aload_n hx hb dX1_giveBack_3 rfl (lv_at hl1 1 rfl) ?_
  refine lv_lconst (v := (0 : Int64)) hx hb dX1_giveBack_4 (by decide) ?_
  refine va_put (D := (dC, dI)) (ci := 1) (v := .long (0 : Int64)) (ty := .long) (C := RX1) (T := TX1) (N := 5) hx hb hts hin1 tyX1 tyX1_ok nmX1 hown hK hP hD hS 0 rfl rfl 2 (by decide) (hts (.fieldLink RX1 47 "OldestCoins$Board" "given" "J") (List.mem_of_getElem? (i := 1) rfl)) (fun _ h9 => h9) rfl (by decide +kernel) rfl rfl (Nat.le_of_ble_eq_true rfl) dX1_giveBack_5 (fun H2 locs2 hP2 hD2 hS2 => ?_)
  have hP2 : va_P (dC, dI) vwCl (zc_1 a1 k1 (s1.1, s1.2.1, (0 : Int64), s1.2.2.2) ++ zc_4 a2 k2 s2) H2 := hP2
  have hD2 : va_D A (zc_1 a1 k1 (s1.1, s1.2.1, (0 : Int64), s1.2.2.2) ++ zc_4 a2 k2 s2) := hD2
  clear hP hD hS
  refine lv_aload_n hx hb dX1_giveBack_8 rfl (lv_at hl1 1 rfl) ?_
  refine lv_aload_n hx hb dX1_giveBack_9 rfl (lv_at hl1 1 rfl) ?_
  refine va_get (D := (dC, dI)) (ci := 1) (v := .int s1.2.2.2.1) (C := RX1) (T := TX1) (N := 5) hx hb hts hin1 hown hK hP2 0 rfl rfl 3 (by decide) (hts (.fieldLink RX1 36 "OldestCoins$Board" "due" "I") (List.mem_of_getElem? (i := 2) rfl)) (fun _ h9 => h9) rfl dX1_giveBack_10 ?_
  refine va_put (D := (dC, dI)) (ci := 1) (v := .int s1.2.2.2.1) (ty := .int) (C := RX1) (T := TX1) (N := 5) hx hb hts hin1 tyX1 tyX1_ok nmX1 hown hK hP2 hD2 hS2 0 rfl rfl 4 (by decide) (hts (.fieldLink RX1 61 "OldestCoins$Board" "lacking" "I") (List.mem_of_getElem? (i := 3) rfl)) (fun _ h9 => h9) rfl (by decide +kernel) rfl rfl (Nat.le_of_ble_eq_true rfl) dX1_giveBack_13 (fun H3 locs3 hP3 hD3 hS3 => ?_)
  have hP3 : va_P (dC, dI) vwCl (zc_1 a1 k1 (s1.1, s1.2.1, (0 : Int64), s1.2.2.2.1, s1.2.2.2.1) ++ zc_4 a2 k2 s2) H3 := hP3
  have hD3 : va_D A (zc_1 a1 k1 (s1.1, s1.2.1, (0 : Int64), s1.2.2.2.1, s1.2.2.2.1) ++ zc_4 a2 k2 s2) := hD3
  clear hP2 hD2 hS2
  refine lv_iconst (v := (0 : Int32)) hx hb dX1_giveBack_16 (by decide) ?_
  refine lv_istore (lv' := [(6, .int (0 : Int32)), (4, .long x2), (0, .ref (a1 0)), (1, .ref (a2 0)), (2, .long x2)]) hx hb dX1_giveBack_17 hl1 (by decide) rfl (fun ls4 hl4 => ?_)
  exact hB19 fu x2 (0 : Int32) (s1.1, s1.2.1, (0 : Int64), s1.2.2.2.1, s1.2.2.2.1) H3 locs3 ls4 hP3 hD3 hS3 (lv_sub hl4 [2, 3, 1, 0] rfl) hR
def rr_X1_takeOut_65 (fu : Nat) (s2 : ZT_4) (y2 : Int64) (y5 : Int64) (y7 : Int32) (u1 : ZT_1) : Option (Int32 × ZT_1) := lt_ (α := Int64) (y2 &&& (y5 ^^^ (-1 : Int64))) (fun z15 => some (y7, (u1.1, z15, u1.2.2)))
def rr_X1_takeOut_9_b (fu : Nat) (s2 : ZT_4) (rec9 : Int64 → Int32 → Int64 → Int32 → Int32 → ZT_1 → Option (Int32 × ZT_1)) (y2 : Int64) (y4 : Int32) (y5 : Int64) (y7 : Int32) (y8 : Int32) (u1 : ZT_1) : Option (Int32 × ZT_1) := (if (40 : Int32) ≤ y8 then rr_X1_takeOut_65 fu s2 y2 y5 y7 u1 else (if (lg_cmp y5 (0 : Int64)) = (0 : Int32) then rr_X1_takeOut_65 fu s2 y2 y5 y7 u1 else (if y4 ≤ y7 then rr_X1_takeOut_65 fu s2 y2 y5 y7 u1 else (rr_X4_nextPaid fu y5 s2).bind (fun q7 => lt_ (α := Int64) (y5 ^^^ ((1 : Int64) <<< (q7.toInt64 &&& 63))) (fun z9 => ck_ q7 64 (lt_ (α := Int32) (y7 + (s2.2.2.1 q7.toNatClampNeg)) (fun z12 => lt_ (α := Int32) (y8 + (1 : Int32)) (fun z14 => rec9 y2 y4 z9 z12 z14 u1))))))))
def rr_X1_takeOut_9 (fu : Nat) (s2 : ZT_4) (n : Nat) : Int64 → Int32 → Int64 → Int32 → Int32 → ZT_1 → Option (Int32 × ZT_1) := lp_ (fun _ _ _ _ _ _ => none) (rr_X1_takeOut_9_b fu s2) n
def rr_X1_takeOut (fu : Nat) (x2 : Int64) (x4 : Int32) (s1 : ZT_1) (s2 : ZT_4) : Option (Int32 × ZT_1) := rr_X1_takeOut_9 fu s2 fu x2 x4 x2 (0 : Int32) (0 : Int32) s1
set_option maxHeartbeats 4000000 in
set_option maxRecDepth 100000 in
theorem cc_X1_takeOut (l : Launch) (dC : Nat → ClassId) (dI : Nat → Nat → Nat) (fu : Nat) (a1 : Nat → Nat) (a2 : Nat → Nat) (k1 : Nat → ClassId) (k2 : Nat → ClassId) (sz : Nat) (x2 : Int64) (x4 : Int32) (s1 : ZT_1) (s2 : ZT_4) (res : Int32 × ZT_1) (hR : rr_X1_takeOut fu x2 x4 s1 s2 = some res) : Met l yX1_takeOut wsX1_takeOut ({ frames := 3, cells := 0, slots := 0, locals := 65 } : Room) (PcF [.ref (a1 0), .ref (a2 0), .long x2, .int x4] sz (dC, dI) (zc_1 a1 k1 s1 ++ zc_4 a2 k2 s2) (zt_1 k1 ++ zt_4 k2)) (va_Qi (fun (r : Int32) (u : ZT_1) => res = (r, u)) (fun u t => at3_ (dC, dI) (zc_1 a1 k1 u ++ zc_4 a2 k2 s2) (zt_1 k1 ++ zt_4 k2) (va_A (zc_1 a1 k1 s1 ++ zc_4 a2 k2 s2) sz) t) (va_A (zc_1 a1 k1 s1 ++ zc_4 a2 k2 s2) sz)) 0 0 (va_A (zc_1 a1 k1 s1 ++ zc_4 a2 k2 s2) sz) := by
  refine Met.ofW (cc := cX1_takeOut) (maxL := 10) (ret := (some .int)) (by decide) rfl ?_
  intro p e s m args below meth c s₁ B hml hv
  obtain ⟨hav, hsz, hP, hK, hD0⟩ := hv
  have hx := B.exec
  have hb := B.bytes
  have hr := B.returns
  have hts := atoms_spec (ws := wsX1_takeOut) B.pre
  have hown : s.vm.findClass RX1 = some m.cls := findClass_of_methodNamed B.named
  have hlocks := B.notSynchronized
  have hin1 : ∀ w ∈ wsX10, w ∈ wsX1_takeOut := fun w h => List.mem_cons_of_mem _ (List.mem_append_right _ h)
  have hin4 : ∀ w ∈ wsX40, w ∈ wsX1_takeOut := fun w h => List.mem_cons_of_mem _ (List.mem_append_left _ (List.mem_append_right _ h))
  subst hsz
  have hD := hD0.self (sz := s.heap.size)
  clear hD0
  generalize hAe : va_A (zc_1 a1 k1 s1 ++ zc_4 a2 k2 s2) s.heap.size = A at hD ⊢
  have hA : ∀ q : Nat, s.heap.size ≤ q → A q := fun q h => by rw [← hAe]; exact Or.inr h
  have hS : va_S A s.heap s.heap [] := va_S.rf
  generalize hQe : MQ below _ args s 0 0 A = Q
  rw [show entryFrame m args 10 = F0 m 0 ((lg_sl ([.ref (a1 0), .ref (a2 0), .long x2, .int x4]) ++ List.replicate (10 - (lg_sl ([.ref (a1 0), .ref (a2 0), .long x2, .int x4])).length) Slot.unset).toArray) [] from by rw [hav]; exact lg_entry_eq m _ _]
  have hl := lv_entry ([.ref (a1 0), .ref (a2 0), .long x2, .int x4]) (n := 10) (Nat.le_of_ble_eq_true rfl)
  generalize (lg_sl ([.ref (a1 0), .ref (a2 0), .long x2, .int x4]) ++ List.replicate (10 - (lg_sl ([.ref (a1 0), .ref (a2 0), .long x2, .int x4])).length) Slot.unset).toArray = ls at hl ⊢
  have hl : lv_has ls 10 [(0, .ref (a1 0)), (1, .ref (a2 0)), (2, .long x2), (4, .int x4)] := hl
  have hB65 : ∀ (y2 : Int64) (y5 : Int64) (y7 : Int32) (u1 : ZT_1) (H : Heap) (locs : List Loc) (ls : Array Slot), va_P (dC, dI) vwCl (zc_1 a1 k1 u1 ++ zc_4 a2 k2 s2) H → va_D A (zc_1 a1 k1 u1 ++ zc_4 a2 k2 s2) → va_S A s.heap H locs → lv_has ls 10 [(0, .ref (a1 0)), (2, .long y2), (5, .long y5), (7, .int y7)] → rr_X1_takeOut_65 fu s2 y2 y5 y7 u1 = some res → W p l e ({ frames := 3, cells := 0, slots := 0, locals := 65 } : Room) s m args below meth c H locs 0 0 Q (F0 m 65 ls []) := by
    intro  y2 y5 y7 u1 H locs ls hP hD hS hl hR
    unfold rr_X1_takeOut_65 at hR
    refine lv_aload_n hx hb dX1_takeOut_65 rfl (lv_at hl 0 rfl) ?_
    refine lv_lload_n hx hb dX1_takeOut_66 rfl (lv_at hl 1 rfl) ?_
    refine lv_lload hx hb dX1_takeOut_67 (lv_at hl 2 rfl) ?_
    refine lv_ldc2 (v := (-1 : Int64)) hx hb hown (hts (.constantLong RX1 30 (-1)) (List.mem_of_getElem? (i := 2) rfl)) dX1_takeOut_69 ?_
    refine lv_lxor hx hb dX1_takeOut_72 ?_
    refine lv_land hx hb dX1_takeOut_73 ?_
    refine lv_topl (fun z15 ez15 => ?_)
    replace hR := lt_ok hR ez15
    refine va_put (D := (dC, dI)) (ci := 1) (v := .long z15) (ty := .long) (C := RX1) (T := TX1) (N := 5) hx hb hts hin1 tyX1 tyX1_ok nmX1 hown hK hP hD hS 0 rfl rfl 1 (by decide) (hts (.fieldLink RX1 43 "OldestCoins$Board" "paid" "J") (List.mem_of_getElem? (i := 3) rfl)) (fun _ h9 => h9) rfl (by decide +kernel) rfl rfl (Nat.le_of_ble_eq_true rfl) dX1_takeOut_74 (fun H16 locs16 hP16 hD16 hS16 => ?_)
    have hP16 : va_P (dC, dI) vwCl (zc_1 a1 k1 (u1.1, z15, u1.2.2) ++ zc_4 a2 k2 s2) H16 := hP16
    have hD16 : va_D A (zc_1 a1 k1 (u1.1, z15, u1.2.2) ++ zc_4 a2 k2 s2) := hD16
    clear hP hD hS
    refine lv_iload hx hb dX1_takeOut_77 (lv_at hl 3 rfl) ?_
    subst hQe
    exact W.iret (v := y7) hx hb hr (fun t ht hW => ⟨⟨y7, (u1.1, z15, u1.2.2), rfl, (Option.some.inj hR).symm, by rw [ht]; exact hP16, va_K.moved hW.alike hK, hD16⟩, hS16.F ht⟩) hS16.2.2 dX1_takeOut_79
  have hB9 : ∀ (n : Nat), ∀ (y2 : Int64) (y4 : Int32) (y5 : Int64) (y7 : Int32) (y8 : Int32) (u1 : ZT_1) (H : Heap) (locs : List Loc) (ls : Array Slot), va_P (dC, dI) vwCl (zc_1 a1 k1 u1 ++ zc_4 a2 k2 s2) H → va_D A (zc_1 a1 k1 u1 ++ zc_4 a2 k2 s2) → va_S A s.heap H locs → lv_has ls 10 [(0, .ref (a1 0)), (1, .ref (a2 0)), (2, .long y2), (4, .int y4), (5, .long y5), (7, .int y7), (8, .int y8)] → rr_X1_takeOut_9 fu s2 n y2 y4 y5 y7 y8 u1 = some res → W p l e ({ frames := 3, cells := 0, slots := 0, locals := 65 } : Room) s m args below meth c H locs 0 0 Q (F0 m 9 ls []) := by
    intro  n
    induction n with
    | zero => intro y2 y4 y5 y7 y8 u1 H locs ls hP hD hS hl hR; exact absurd hR (by intro h; cases h)
    | succ n ih =>
      intro y2 y4 y5 y7 y8 u1 H locs ls hP hD hS hl hR
      replace hR : rr_X1_takeOut_9_b fu s2 (rr_X1_takeOut_9 fu s2 n) y2 y4 y5 y7 y8 u1 = some res := hR
      unfold rr_X1_takeOut_9_b at hR
      refine lv_iload hx hb dX1_takeOut_9 (lv_at hl 6 rfl) ?_
      refine lv_bipush (v := (40 : Int32)) hx hb dX1_takeOut_11 (by decide) ?_
      refine lv_icmp_ge (tgt := 65) hx hb dX1_takeOut_13 (by decide) (fun c4 => ?_) (fun c4 => ?_)
      · replace hR := ifp_ hR c4
        exact hB65 y2 y5 y7 u1 H locs ls hP hD hS (lv_sub hl [0, 2, 4, 5] rfl) hR
      · replace hR := ifn_ hR c4
        refine lv_lload hx hb dX1_takeOut_16 (lv_at hl 4 rfl) ?_
        refine lv_lconst (v := (0 : Int64)) hx hb dX1_takeOut_18 (by decide) ?_
        refine W.lcmp hx hb dX1_takeOut_19 ?_
        refine lv_if_eq (tgt := 65) hx hb dX1_takeOut_20 (by decide) (fun c5 => ?_) (fun c5 => ?_)
        · replace hR := ifp_ hR c5
          exact hB65 y2 y5 y7 u1 H locs ls hP hD hS (lv_sub hl [0, 2, 4, 5] rfl) hR
        · replace hR := ifn_ hR c5
          refine lv_iload hx hb dX1_takeOut_23 (lv_at hl 5 rfl) ?_
          refine lv_iload hx hb dX1_takeOut_25 (lv_at hl 3 rfl) ?_
          refine lv_icmp_ge (tgt := 65) hx hb dX1_takeOut_27 (by decide) (fun c6 => ?_) (fun c6 => ?_)
          · replace hR := ifp_ hR c6
            exact hB65 y2 y5 y7 u1 H locs ls hP hD hS (lv_sub hl [0, 2, 4, 5] rfl) hR
          · replace hR := ifn_ hR c6
            refine lv_aload_n hx hb dX1_takeOut_30 rfl (lv_at hl 1 rfl) ?_
            refine lv_lload hx hb dX1_takeOut_31 (lv_at hl 4 rfl) ?_
            have hR0 := ob_ok hR
            clear hR
            obtain ⟨q7, hq7, hR⟩ := hR0
            refine va_calli (va_runV (As := [.long y5]) (rest := []) ⟨hx, hb, hml, hown, hts⟩ (cc_X4_nextPaid l dC dI fu a2 k2 H.size y5 s2 q7 hq7) (cwV 1 hts gX1_takeOut_X4_nextPaid rfl rfl rfl (by decide +kernel) ⟨Nat.le_of_ble_eq_true rfl, Nat.le_of_ble_eq_true rfl⟩) (pf_v (hK.sub (tys' := zt_4 k2) [1, 2, 3, 4, 5] rfl) (sub_P (sb_1_4__1c0 a1 a2 k1 k2 u1 s2) hP) (sub_D (sb_1_4__1c0 a1 a2 k1 k2 u1 s2) hD) 4 0 rfl rfl rfl) rfl rfl hl.1 rfl (lv_room (Nat.le_of_ble_eq_true rfl)) dX1_takeOut_33 ⟨Nat.le_refl _, Nat.le_refl _⟩) hS (fun q _ h => (sub_F (sb_1_4__1c0 a1 a2 k1 k2 u1 s2) hD hS hA) q h) (sub_F (sb_1_4__1c0 a1 a2 k1 k2 u1 s2) hD hS hA) (fun r7 v7 t7 H7 locs7 ht7 hvm7 hw7 hB7 hz7 hk7 hS7 => ?_)
            subst hw7
            obtain ⟨hP7, hD7⟩ := jn_sub (sb_1_4__1c0 a1 a2 k1 k2 u1 s2) (jo_1_4__1c0__ a1 a2 k1 k2 u1 s2 ) rfl hP hD hk7 ht7 hB7
            have hP7 : va_P (dC, dI) vwCl (zc_1 a1 k1 u1 ++ zc_4 a2 k2 s2) H7 := hP7
            have hD7 : va_D A (zc_1 a1 k1 u1 ++ zc_4 a2 k2 s2) := hD7
            clear hP hD hS hB7 hk7 hvm7 hz7 ht7
            refine lv_istore (lv' := [(9, .int q7), (0, .ref (a1 0)), (1, .ref (a2 0)), (2, .long y2), (4, .int y4), (5, .long y5), (7, .int y7), (8, .int y8)]) hx hb dX1_takeOut_36 hl (by decide) rfl (fun ls8 hl8 => ?_)
            refine lv_lload hx hb dX1_takeOut_38 (lv_at hl8 5 rfl) ?_
            refine lv_lconst (v := (1 : Int64)) hx hb dX1_takeOut_40 (by decide) ?_
            refine lv_iload hx hb dX1_takeOut_41 (lv_at hl8 0 rfl) ?_
            refine lv_lshl (v := ((1 : Int64) <<< (q7.toInt64 &&& 63))) hx hb dX1_takeOut_43 rfl ?_
            refine lv_lxor hx hb dX1_takeOut_44 ?_
            refine lv_topl (fun z9 ez9 => ?_)
            replace hR := lt_ok hR ez9
            refine lv_lstore (lv' := [(5, .long z9), (9, .int q7), (0, .ref (a1 0)), (1, .ref (a2 0)), (2, .long y2), (4, .int y4), (7, .int y7), (8, .int y8)]) hx hb dX1_takeOut_45 hl8 (by decide) rfl (fun ls10 hl10 => ?_)
            refine lv_iload hx hb dX1_takeOut_47 (lv_at hl10 6 rfl) ?_
            refine lv_aload_n hx hb dX1_takeOut_49 rfl (lv_at hl10 3 rfl) ?_
            refine va_get (D := (dC, dI)) (ci := 4) (v := .ref (a2 2)) (C := RX4) (T := TX4) (N := 6) hx hb hts hin4 hown hK hP7 2 rfl rfl 2 (by decide) (hts (.fieldLink RX1 58 "OldestCoins$Ranks" "worthAt" "[I") (List.mem_of_getElem? (i := 1) rfl)) (fun _ h9 => h9) rfl dX1_takeOut_50 ?_
            refine lv_iload hx hb dX1_takeOut_53 (lv_at hl10 1 rfl) ?_
            have i11 := (ck_ok hR).1
            replace hR := (ck_ok hR).2
            refine va_iald (f := s2.2.2.1) hx hb hK hP7 4 2 rfl rfl i11 dX1_takeOut_55 ?_
            refine lv_iadd hx hb dX1_takeOut_56 ?_
            refine lv_topi (fun z12 ez12 => ?_)
            replace hR := lt_ok hR ez12
            refine lv_istore (lv' := [(7, .int z12), (5, .long z9), (9, .int q7), (0, .ref (a1 0)), (1, .ref (a2 0)), (2, .long y2), (4, .int y4), (8, .int y8)]) hx hb dX1_takeOut_57 hl10 (by decide) rfl (fun ls13 hl13 => ?_)
            obtain ⟨z14, ez14⟩ : ∃ y : Int32, y = (y8 + (1 : Int32)) := ⟨_, rfl⟩
            replace hR := lt_ok hR ez14
            refine lv_iinc (v := z14) (lv' := [(8, .int z14), (7, .int z12), (5, .long z9), (9, .int q7), (0, .ref (a1 0)), (1, .ref (a2 0)), (2, .long y2), (4, .int y4)]) hx hb dX1_takeOut_59 hl13 (k := 7) rfl (by rw [ez14]; rfl) (by decide) rfl (fun ls14 hl14 => ?_)
            refine lv_goto (tgt := 9) hx hb dX1_takeOut_62 (by decide) ?_
            exact ih y2 y4 z9 z12 z14 u1 H7 locs7 ls14 hP7 hD7 hS7 (lv_sub hl14 [4, 5, 6, 7, 2, 1, 0] rfl) hR
  unfold rr_X1_takeOut at hR
  refine lv_lload_n hx hb dX1_takeOut_0 rfl (lv_at hl 2 rfl) ?_
  refine lv_lstore (lv' := [(5, .long x2), (0, .ref (a1 0)), (1, .ref (a2 0)), (2, .long x2), (4, .int x4)]) hx hb dX1_takeOut_1 hl (by decide) rfl (fun ls1 hl1 => ?_)
  refine lv_iconst (v := (0 : Int32)) hx hb dX1_takeOut_3 (by decide) ?_
  refine lv_istore (lv' := [(7, .int (0 : Int32)), (5, .long x2), (0, .ref (a1 0)), (1, .ref (a2 0)), (2, .long x2), (4, .int x4)]) hx hb dX1_takeOut_4 hl1 (by decide) rfl (fun ls2 hl2 => ?_)
  refine lv_iconst (v := (0 : Int32)) hx hb dX1_takeOut_6 (by decide) ?_
  refine lv_istore (lv' := [(8, .int (0 : Int32)), (7, .int (0 : Int32)), (5, .long x2), (0, .ref (a1 0)), (1, .ref (a2 0)), (2, .long x2), (4, .int x4)]) hx hb dX1_takeOut_7 hl2 (by decide) rfl (fun ls3 hl3 => ?_)
  exact hB9 fu x2 x4 x2 (0 : Int32) (0 : Int32) s1 s.heap [] ls3 hP hD hS (lv_sub hl3 [3, 4, 5, 6, 2, 1, 0] rfl) hR
def rr_X1_meets (fu : Nat) (x2 : Int32) (x3 : Int32) (x4 : Int32) (s1 : ZT_1) (s2 : ZT_4) : Option (Int32 × ZT_1) := ck_ x2 8 ((rr_X1_takeOut fu (s1.1 x2.toNatClampNeg) x4 s1 s2).bind (fun q2 => (if x4 ≤ q2.1 then lt_ (α := Int32) (q2.1 - x4) (fun z5 => ck_ x3 8 ((rr_X1_giveBack fu (q2.2.1 x3.toNatClampNeg) (q2.2.1, q2.2.2.1, q2.2.2.2.1, z5, q2.2.2.2.2.2) s2).bind (fun q8 => ck_ x2 8 (lt_ (α := Int64) (((q8.1 x2.toNatClampNeg) &&& (q8.2.1 ^^^ (-1 : Int64))) ||| q8.2.2.1) (fun z10 => ck_ x2 8 (ck_ x3 8 (lt_ (α := Int64) ((((vp_updL q8.1 x2.toNatClampNeg z10) x3.toNatClampNeg) &&& (q8.2.2.1 ^^^ (-1 : Int64))) ||| q8.2.1) (fun z13 => ck_ x3 8 (some ((1 : Int32), ((vp_updL (vp_updL q8.1 x2.toNatClampNeg z10) x3.toNatClampNeg z13), q8.2))))))))))) else some ((0 : Int32), q2.2))))
set_option maxHeartbeats 4000000 in
set_option maxRecDepth 100000 in
theorem cc_X1_meets (l : Launch) (dC : Nat → ClassId) (dI : Nat → Nat → Nat) (fu : Nat) (a1 : Nat → Nat) (a2 : Nat → Nat) (k1 : Nat → ClassId) (k2 : Nat → ClassId) (sz : Nat) (x2 : Int32) (x3 : Int32) (x4 : Int32) (s1 : ZT_1) (s2 : ZT_4) (res : Int32 × ZT_1) (hR : rr_X1_meets fu x2 x3 x4 s1 s2 = some res) : Met l yX1_meets wsX1_meets ({ frames := 4, cells := 0, slots := 0, locals := 94 } : Room) (PcF [.ref (a1 0), .ref (a2 0), .int x2, .int x3, .int x4] sz (dC, dI) (zc_1 a1 k1 s1 ++ zc_4 a2 k2 s2) (zt_1 k1 ++ zt_4 k2)) (va_Qi (fun (r : Int32) (u : ZT_1) => res = (r, u)) (fun u t => at3_ (dC, dI) (zc_1 a1 k1 u ++ zc_4 a2 k2 s2) (zt_1 k1 ++ zt_4 k2) (va_A (zc_1 a1 k1 s1 ++ zc_4 a2 k2 s2) sz) t) (va_A (zc_1 a1 k1 s1 ++ zc_4 a2 k2 s2) sz)) 0 0 (va_A (zc_1 a1 k1 s1 ++ zc_4 a2 k2 s2) sz) := by
  refine Met.ofW (cc := cX1_meets) (maxL := 6) (ret := (some .boolean)) (by decide) rfl ?_
  intro p e s m args below meth c s₁ B hml hv
  obtain ⟨hav, hsz, hP, hK, hD0⟩ := hv
  have hx := B.exec
  have hb := B.bytes
  have hr := B.returns
  have hts := atoms_spec (ws := wsX1_meets) B.pre
  have hown : s.vm.findClass RX1 = some m.cls := findClass_of_methodNamed B.named
  have hlocks := B.notSynchronized
  have hin1 : ∀ w ∈ wsX10, w ∈ wsX1_meets := fun w h => List.mem_cons_of_mem _ (List.mem_append_left _ (List.mem_append_right _ h))
  subst hsz
  have hD := hD0.self (sz := s.heap.size)
  clear hD0
  generalize hAe : va_A (zc_1 a1 k1 s1 ++ zc_4 a2 k2 s2) s.heap.size = A at hD ⊢
  have hA : ∀ q : Nat, s.heap.size ≤ q → A q := fun q h => by rw [← hAe]; exact Or.inr h
  have hS : va_S A s.heap s.heap [] := va_S.rf
  generalize hQe : MQ below _ args s 0 0 A = Q
  rw [show entryFrame m args 6 = F0 m 0 ((lg_sl ([.ref (a1 0), .ref (a2 0), .int x2, .int x3, .int x4]) ++ List.replicate (6 - (lg_sl ([.ref (a1 0), .ref (a2 0), .int x2, .int x3, .int x4])).length) Slot.unset).toArray) [] from by rw [hav]; exact lg_entry_eq m _ _]
  have hl := lv_entry ([.ref (a1 0), .ref (a2 0), .int x2, .int x3, .int x4]) (n := 6) (Nat.le_of_ble_eq_true rfl)
  generalize (lg_sl ([.ref (a1 0), .ref (a2 0), .int x2, .int x3, .int x4]) ++ List.replicate (6 - (lg_sl ([.ref (a1 0), .ref (a2 0), .int x2, .int x3, .int x4])).length) Slot.unset).toArray = ls at hl ⊢
  have hl : lv_has ls 6 [(0, .ref (a1 0)), (1, .ref (a2 0)), (2, .int x2), (3, .int x3), (4, .int x4)] := hl
  unfold rr_X1_meets at hR
  refine lv_aload_n hx hb dX1_meets_0 rfl (lv_at hl 0 rfl) ?_
  refine lv_aload_n hx hb dX1_meets_1 rfl (lv_at hl 1 rfl) ?_
  refine lv_aload_n hx hb dX1_meets_2 rfl (lv_at hl 0 rfl) ?_
  refine va_get (D := (dC, dI)) (ci := 1) (v := .ref (a1 1)) (C := RX1) (T := TX1) (N := 5) hx hb hts hin1 hown hK hP 0 rfl rfl 0 (by decide) (hts (.fieldLink RX1 9 "OldestCoins$Board" "had" "[J") (List.mem_of_getElem? (i := 1) rfl)) (fun _ h9 => h9) rfl dX1_meets_3 ?_
  refine lv_iload_n hx hb dX1_meets_6 rfl (lv_at hl 2 rfl) ?_
  have i1 := (ck_ok hR).1
  replace hR := (ck_ok hR).2
  refine va_lald (f := s1.1) hx hb hK hP 1 0 rfl rfl i1 dX1_meets_7 ?_
  refine lv_iload hx hb dX1_meets_8 (lv_at hl 4 rfl) ?_
  have hR0 := ob_ok hR
  clear hR
  obtain ⟨q2, hq2, hR⟩ := hR0
  refine va_calli (va_runV (As := [.ref (a2 0), .long (s1.1 x2.toNatClampNeg), .int x4]) (rest := []) ⟨hx, hb, hml, hown, hts⟩ (cc_X1_takeOut l dC dI fu a1 a2 k1 k2 s.heap.size (s1.1 x2.toNatClampNeg) x4 s1 s2 q2 hq2) (cwV 3 hts gX1_meets_X1_takeOut rfl rfl rfl (by decide +kernel) ⟨Nat.le_of_ble_eq_true rfl, Nat.le_of_ble_eq_true rfl⟩) (pf_v hK hP hD 1 0 rfl rfl rfl) rfl rfl hl.1 rfl (lv_room (Nat.le_of_ble_eq_true rfl)) dX1_meets_10 ⟨Nat.le_refl _, Nat.le_refl _⟩) hS (fun q _ h => (fr_all hD hS hA) q h) (fr_all hD hS hA) (fun r2 v2 t2 H2 locs2 ht2 hvm2 hw2 hB2 hz2 hk2 hS2 => ?_)
  obtain rfl : r2 = q2.1 := (congrArg Prod.fst hw2).symm
  obtain rfl : v2 = q2.2 := (congrArg Prod.snd hw2).symm
  obtain ⟨hP2, hD2⟩ := jn_all hD hS hA ht2 hB2
  have hP2 : va_P (dC, dI) vwCl (zc_1 a1 k1 q2.2 ++ zc_4 a2 k2 s2) H2 := hP2
  have hD2 : va_D A (zc_1 a1 k1 q2.2 ++ zc_4 a2 k2 s2) := hD2
  clear hP hD hS hB2 hk2 hvm2 hz2 ht2
  refine lv_istore (lv' := [(5, .int q2.1), (0, .ref (a1 0)), (1, .ref (a2 0)), (2, .int x2), (3, .int x3), (4, .int x4)]) hx hb dX1_meets_13 hl (by decide) rfl (fun ls3 hl3 => ?_)
  refine lv_iload hx hb dX1_meets_15 (lv_at hl3 0 rfl) ?_
  refine lv_iload hx hb dX1_meets_17 (lv_at hl3 5 rfl) ?_
  refine lv_icmp_ge (tgt := 24) hx hb dX1_meets_19 (by decide) (fun c4 => ?_) (fun c4 => ?_)
  · replace hR := ifp_ hR c4
    refine lv_aload_n hx hb dX1_meets_24 rfl (lv_at hl3 1 rfl) ?_
    refine lv_iload hx hb dX1_meets_25 (lv_at hl3 0 rfl) ?_
    refine lv_iload hx hb dX1_meets_27 (lv_at hl3 5 rfl) ?_
    refine lv_isub hx hb dX1_meets_29 ?_
    refine lv_topi (fun z5 ez5 => ?_)
    replace hR := lt_ok hR ez5
    refine va_put (D := (dC, dI)) (ci := 1) (v := .int z5) (ty := .int) (C := RX1) (T := TX1) (N := 5) hx hb hts hin1 tyX1 tyX1_ok nmX1 hown hK hP2 hD2 hS2 0 rfl rfl 3 (by decide) (hts (.fieldLink RX1 36 "OldestCoins$Board" "due" "I") (List.mem_of_getElem? (i := 2) rfl)) (fun _ h9 => h9) rfl (by decide +kernel) rfl rfl (Nat.le_of_ble_eq_true rfl) dX1_meets_30 (fun H6 locs6 hP6 hD6 hS6 => ?_)
    have hP6 : va_P (dC, dI) vwCl (zc_1 a1 k1 (q2.2.1, q2.2.2.1, q2.2.2.2.1, z5, q2.2.2.2.2.2) ++ zc_4 a2 k2 s2) H6 := hP6
    have hD6 : va_D A (zc_1 a1 k1 (q2.2.1, q2.2.2.1, q2.2.2.2.1, z5, q2.2.2.2.2.2) ++ zc_4 a2 k2 s2) := hD6
    clear hP2 hD2 hS2
    refine lv_aload_n hx hb dX1_meets_33 rfl (lv_at hl3 1 rfl) ?_
    refine lv_aload_n hx hb dX1_meets_34 rfl (lv_at hl3 2 rfl) ?_
    refine lv_aload_n hx hb dX1_meets_35 rfl (lv_at hl3 1 rfl) ?_
    refine va_get (D := (dC, dI)) (ci := 1) (v := .ref (a1 1)) (C := RX1) (T := TX1) (N := 5) hx hb hts hin1 hown hK hP6 0 rfl rfl 0 (by decide) (hts (.fieldLink RX1 9 "OldestCoins$Board" "had" "[J") (List.mem_of_getElem? (i := 1) rfl)) (fun _ h9 => h9) rfl dX1_meets_36 ?_
    refine lv_iload_n hx hb dX1_meets_39 rfl (lv_at hl3 4 rfl) ?_
    have i7 := (ck_ok hR).1
    replace hR := (ck_ok hR).2
    refine va_lald (f := q2.2.1) hx hb hK hP6 1 0 rfl rfl i7 dX1_meets_40 ?_
    have hR0 := ob_ok hR
    clear hR
    obtain ⟨q8, hq8, hR⟩ := hR0
    refine va_callv (va_runV (As := [.ref (a2 0), .long (q2.2.1 x3.toNatClampNeg)]) (rest := []) ⟨hx, hb, hml, hown, hts⟩ (cc_X1_giveBack l dC dI fu a1 a2 k1 k2 H6.size (q2.2.1 x3.toNatClampNeg) (q2.2.1, q2.2.2.1, q2.2.2.2.1, z5, q2.2.2.2.2.2) s2 q8 hq8) (cwV 2 hts gX1_meets_X1_giveBack rfl rfl rfl (by decide +kernel) ⟨Nat.le_of_ble_eq_true rfl, Nat.le_of_ble_eq_true rfl⟩) (pf_v hK hP6 hD6 1 0 rfl rfl rfl) rfl rfl hl3.1 rfl (lv_room (Nat.le_of_ble_eq_true rfl)) dX1_meets_41 ⟨Nat.le_refl _, Nat.le_refl _⟩) hS6 (fun q _ h => (fr_all hD6 hS6 hA) q h) (fr_all hD6 hS6 hA) (fun v8 t8 H8 locs8 ht8 hvm8 hw8 hB8 hz8 hk8 hS8 => ?_)
    subst hw8
    obtain ⟨hP8, hD8⟩ := jn_all hD6 hS6 hA ht8 hB8
    have hP8 : va_P (dC, dI) vwCl (zc_1 a1 k1 q8 ++ zc_4 a2 k2 s2) H8 := hP8
    have hD8 : va_D A (zc_1 a1 k1 q8 ++ zc_4 a2 k2 s2) := hD8
    clear hP6 hD6 hS6 hB8 hk8 hvm8 hz8 ht8
    refine lv_aload_n hx hb dX1_meets_44 rfl (lv_at hl3 1 rfl) ?_
    refine va_get (D := (dC, dI)) (ci := 1) (v := .ref (a1 1)) (C := RX1) (T := TX1) (N := 5) hx hb hts hin1 hown hK hP8 0 rfl rfl 0 (by decide) (hts (.fieldLink RX1 9 "OldestCoins$Board" "had" "[J") (List.mem_of_getElem? (i := 1) rfl)) (fun _ h9 => h9) rfl dX1_meets_45 ?_
    refine lv_iload_n hx hb dX1_meets_48 rfl (lv_at hl3 3 rfl) ?_
    refine lv_aload_n hx hb dX1_meets_49 rfl (lv_at hl3 1 rfl) ?_
    refine va_get (D := (dC, dI)) (ci := 1) (v := .ref (a1 1)) (C := RX1) (T := TX1) (N := 5) hx hb hts hin1 hown hK hP8 0 rfl rfl 0 (by decide) (hts (.fieldLink RX1 9 "OldestCoins$Board" "had" "[J") (List.mem_of_getElem? (i := 1) rfl)) (fun _ h9 => h9) rfl dX1_meets_50 ?_
    refine lv_iload_n hx hb dX1_meets_53 rfl (lv_at hl3 3 rfl) ?_
    have i9 := (ck_ok hR).1
    replace hR := (ck_ok hR).2
    refine va_lald (f := q8.1) hx hb hK hP8 1 0 rfl rfl i9 dX1_meets_54 ?_
    refine lv_aload_n hx hb dX1_meets_55 rfl (lv_at hl3 1 rfl) ?_
    refine va_get (D := (dC, dI)) (ci := 1) (v := .long q8.2.1) (C := RX1) (T := TX1) (N := 5) hx hb hts hin1 hown hK hP8 0 rfl rfl 1 (by decide) (hts (.fieldLink RX1 43 "OldestCoins$Board" "paid" "J") (List.mem_of_getElem? (i := 3) rfl)) (fun _ h9 => h9) rfl dX1_meets_56 ?_
    refine lv_ldc2 (v := (-1 : Int64)) hx hb hown (hts (.constantLong RX1 30 (-1)) (List.mem_of_getElem? (i := 4) rfl)) dX1_meets_59 ?_
    refine lv_lxor hx hb dX1_meets_62 ?_
    refine lv_land hx hb dX1_meets_63 ?_
    refine lv_aload_n hx hb dX1_meets_64 rfl (lv_at hl3 1 rfl) ?_
    refine va_get (D := (dC, dI)) (ci := 1) (v := .long q8.2.2.1) (C := RX1) (T := TX1) (N := 5) hx hb hts hin1 hown hK hP8 0 rfl rfl 2 (by decide) (hts (.fieldLink RX1 47 "OldestCoins$Board" "given" "J") (List.mem_of_getElem? (i := 5) rfl)) (fun _ h9 => h9) rfl dX1_meets_65 ?_
    refine lv_lor hx hb dX1_meets_68 ?_
    refine lv_topl (fun z10 ez10 => ?_)
    replace hR := lt_ok hR ez10
    have i11 := (ck_ok hR).1
    replace hR := (ck_ok hR).2
    refine va_last (f := q8.1) hx hb hK hP8 hD8 hS8 1 0 rfl rfl i11 dX1_meets_69 (fun H11 locs11 hP11 hD11 hS11 => ?_)
    have hP11 : va_P (dC, dI) vwCl (zc_1 a1 k1 ((vp_updL q8.1 x2.toNatClampNeg z10), q8.2) ++ zc_4 a2 k2 s2) H11 := hP11
    have hD11 : va_D A (zc_1 a1 k1 ((vp_updL q8.1 x2.toNatClampNeg z10), q8.2) ++ zc_4 a2 k2 s2) := hD11
    clear hP8 hD8 hS8
    refine lv_aload_n hx hb dX1_meets_70 rfl (lv_at hl3 1 rfl) ?_
    refine va_get (D := (dC, dI)) (ci := 1) (v := .ref (a1 1)) (C := RX1) (T := TX1) (N := 5) hx hb hts hin1 hown hK hP11 0 rfl rfl 0 (by decide) (hts (.fieldLink RX1 9 "OldestCoins$Board" "had" "[J") (List.mem_of_getElem? (i := 1) rfl)) (fun _ h9 => h9) rfl dX1_meets_71 ?_
    refine lv_iload_n hx hb dX1_meets_74 rfl (lv_at hl3 4 rfl) ?_
    refine lv_aload_n hx hb dX1_meets_75 rfl (lv_at hl3 1 rfl) ?_
    refine va_get (D := (dC, dI)) (ci := 1) (v := .ref (a1 1)) (C := RX1) (T := TX1) (N := 5) hx hb hts hin1 hown hK hP11 0 rfl rfl 0 (by decide) (hts (.fieldLink RX1 9 "OldestCoins$Board" "had" "[J") (List.mem_of_getElem? (i := 1) rfl)) (fun _ h9 => h9) rfl dX1_meets_76 ?_
    refine lv_iload_n hx hb dX1_meets_79 rfl (lv_at hl3 4 rfl) ?_
    have i12 := (ck_ok hR).1
    replace hR := (ck_ok hR).2
    refine va_lald (f := (vp_updL q8.1 x2.toNatClampNeg z10)) hx hb hK hP11 1 0 rfl rfl i12 dX1_meets_80 ?_
    refine lv_aload_n hx hb dX1_meets_81 rfl (lv_at hl3 1 rfl) ?_
    refine va_get (D := (dC, dI)) (ci := 1) (v := .long q8.2.2.1) (C := RX1) (T := TX1) (N := 5) hx hb hts hin1 hown hK hP11 0 rfl rfl 2 (by decide) (hts (.fieldLink RX1 47 "OldestCoins$Board" "given" "J") (List.mem_of_getElem? (i := 5) rfl)) (fun _ h9 => h9) rfl dX1_meets_82 ?_
    refine lv_ldc2 (v := (-1 : Int64)) hx hb hown (hts (.constantLong RX1 30 (-1)) (List.mem_of_getElem? (i := 4) rfl)) dX1_meets_85 ?_
    refine lv_lxor hx hb dX1_meets_88 ?_
    refine lv_land hx hb dX1_meets_89 ?_
    refine lv_aload_n hx hb dX1_meets_90 rfl (lv_at hl3 1 rfl) ?_
    refine va_get (D := (dC, dI)) (ci := 1) (v := .long q8.2.1) (C := RX1) (T := TX1) (N := 5) hx hb hts hin1 hown hK hP11 0 rfl rfl 1 (by decide) (hts (.fieldLink RX1 43 "OldestCoins$Board" "paid" "J") (List.mem_of_getElem? (i := 3) rfl)) (fun _ h9 => h9) rfl dX1_meets_91 ?_
    refine lv_lor hx hb dX1_meets_94 ?_
    refine lv_topl (fun z13 ez13 => ?_)
    replace hR := lt_ok hR ez13
    have i14 := (ck_ok hR).1
    replace hR := (ck_ok hR).2
    refine va_last (f := (vp_updL q8.1 x2.toNatClampNeg z10)) hx hb hK hP11 hD11 hS11 1 0 rfl rfl i14 dX1_meets_95 (fun H14 locs14 hP14 hD14 hS14 => ?_)
    have hP14 : va_P (dC, dI) vwCl (zc_1 a1 k1 ((vp_updL (vp_updL q8.1 x2.toNatClampNeg z10) x3.toNatClampNeg z13), q8.2) ++ zc_4 a2 k2 s2) H14 := hP14
    have hD14 : va_D A (zc_1 a1 k1 ((vp_updL (vp_updL q8.1 x2.toNatClampNeg z10) x3.toNatClampNeg z13), q8.2) ++ zc_4 a2 k2 s2) := hD14
    clear hP11 hD11 hS11
    refine lv_iconst (v := (1 : Int32)) hx hb dX1_meets_96 (by decide) ?_
    subst hQe
    exact W.zret (ty := .boolean) (v := (1 : Int32)) hx hb hr rfl (fun t ht hW => ⟨⟨(1 : Int32), ((vp_updL (vp_updL q8.1 x2.toNatClampNeg z10) x3.toNatClampNeg z13), q8.2), rfl, (Option.some.inj hR).symm, by rw [ht]; exact hP14, va_K.moved hW.alike hK, hD14⟩, hS14.F ht⟩) hS14.2.2 dX1_meets_97
  · replace hR := ifn_ hR c4
    refine lv_iconst (v := (0 : Int32)) hx hb dX1_meets_22 (by decide) ?_
    subst hQe
    exact W.zret (ty := .boolean) (v := (0 : Int32)) hx hb hr rfl (fun t ht hW => ⟨⟨(0 : Int32), q2.2, rfl, (Option.some.inj hR).symm, by rw [ht]; exact hP2, va_K.moved hW.alike hK, hD2⟩, hS2.F ht⟩) hS2.2.2 dX1_meets_23
def rr_X4_worthOf_35 (fu : Nat) (s1 : ZT_4) (rec5 : Int64 → Int32 → Int32 → Option (Int32)) (y1 : Int64) (y3 : Int32) (y4 : Int32) : Option (Int32) := lt_ (α := Int32) (y4 + (1 : Int32)) (fun z8 => rec5 y1 y3 z8)
def rr_X4_worthOf_5_b (fu : Nat) (s1 : ZT_4) (rec5 : Int64 → Int32 → Int32 → Option (Int32)) (y1 : Int64) (y3 : Int32) (y4 : Int32) : Option (Int32) := (if s1.1 ≤ y4 then some y3 else (if (lg_cmp ((y1 >>> (y4.toInt64 &&& 63)) &&& (1 : Int64)) (0 : Int64)) = (0 : Int32) then rr_X4_worthOf_35 fu s1 rec5 y1 y3 y4 else ck_ y4 64 (lt_ (α := Int32) (y3 + (s1.2.2.1 y4.toNatClampNeg)) (fun z6 => rr_X4_worthOf_35 fu s1 rec5 y1 z6 y4))))
def rr_X4_worthOf_5 (fu : Nat) (s1 : ZT_4) (n : Nat) : Int64 → Int32 → Int32 → Option (Int32) := lp_ (fun _ _ _ => none) (rr_X4_worthOf_5_b fu s1) n
def rr_X4_worthOf (fu : Nat) (x1 : Int64) (s1 : ZT_4) : Option (Int32) := rr_X4_worthOf_5 fu s1 fu x1 (0 : Int32) (0 : Int32)
set_option maxHeartbeats 4000000 in
set_option maxRecDepth 100000 in
theorem cc_X4_worthOf (l : Launch) (dC : Nat → ClassId) (dI : Nat → Nat → Nat) (fu : Nat) (a1 : Nat → Nat) (k1 : Nat → ClassId) (sz : Nat) (x1 : Int64) (s1 : ZT_4) (res : Int32) (hR : rr_X4_worthOf fu x1 s1 = some res) : Met l yX4_worthOf wsX4_worthOf ({ frames := 0, cells := 0, slots := 0, locals := 0 } : Room) (PcF [.ref (a1 0), .long x1] sz (dC, dI) (zc_4 a1 k1 s1) (zt_4 k1)) (va_Qi (fun (r : Int32) (u : Unit) => res = r) (fun u t => at3_ (dC, dI) (zc_4 a1 k1 s1) (zt_4 k1) (va_A (zc_4 a1 k1 s1) sz) t) (va_A (zc_4 a1 k1 s1) sz)) 0 0 (va_A (zc_4 a1 k1 s1) sz) := by
  refine Met.ofW (cc := cX4_worthOf) (maxL := 5) (ret := (some .int)) (by decide) rfl ?_
  intro p e s m args below meth c s₁ B hml hv
  obtain ⟨hav, hsz, hP, hK, hD0⟩ := hv
  have hx := B.exec
  have hb := B.bytes
  have hr := B.returns
  have hts := atoms_spec (ws := wsX4_worthOf) B.pre
  have hown : s.vm.findClass RX4 = some m.cls := findClass_of_methodNamed B.named
  have hlocks := B.notSynchronized
  have hin4 : ∀ w ∈ wsX40, w ∈ wsX4_worthOf := fun w h => List.mem_cons_of_mem _ (List.mem_append_right _ h)
  subst hsz
  have hD := hD0.self (sz := s.heap.size)
  clear hD0
  generalize hAe : va_A (zc_4 a1 k1 s1) s.heap.size = A at hD ⊢
  have hA : ∀ q : Nat, s.heap.size ≤ q → A q := fun q h => by rw [← hAe]; exact Or.inr h
  have hS : va_S A s.heap s.heap [] := va_S.rf
  generalize hQe : MQ below _ args s 0 0 A = Q
  rw [show entryFrame m args 5 = F0 m 0 ((lg_sl ([.ref (a1 0), .long x1]) ++ List.replicate (5 - (lg_sl ([.ref (a1 0), .long x1])).length) Slot.unset).toArray) [] from by rw [hav]; exact lg_entry_eq m _ _]
  have hl := lv_entry ([.ref (a1 0), .long x1]) (n := 5) (Nat.le_of_ble_eq_true rfl)
  generalize (lg_sl ([.ref (a1 0), .long x1]) ++ List.replicate (5 - (lg_sl ([.ref (a1 0), .long x1])).length) Slot.unset).toArray = ls at hl ⊢
  have hl : lv_has ls 5 [(0, .ref (a1 0)), (1, .long x1)] := hl
  have hB35 : ∀ (rec5 : Int64 → Int32 → Int32 → Option (Int32)) (hrec5 : ∀ (y1 : Int64) (y3 : Int32) (y4 : Int32) (H : Heap) (locs : List Loc) (ls : Array Slot), va_P (dC, dI) vwCl (zc_4 a1 k1 s1) H → va_D A (zc_4 a1 k1 s1) → va_S A s.heap H locs → lv_has ls 5 [(0, .ref (a1 0)), (1, .long y1), (3, .int y3), (4, .int y4)] → rec5 y1 y3 y4 = some res → W p l e ({ frames := 0, cells := 0, slots := 0, locals := 0 } : Room) s m args below meth c H locs 0 0 Q (F0 m 5 ls [])), ∀ (y1 : Int64) (y3 : Int32) (y4 : Int32) (H : Heap) (locs : List Loc) (ls : Array Slot), va_P (dC, dI) vwCl (zc_4 a1 k1 s1) H → va_D A (zc_4 a1 k1 s1) → va_S A s.heap H locs → lv_has ls 5 [(0, .ref (a1 0)), (1, .long y1), (3, .int y3), (4, .int y4)] → rr_X4_worthOf_35 fu s1 rec5 y1 y3 y4 = some res → W p l e ({ frames := 0, cells := 0, slots := 0, locals := 0 } : Room) s m args below meth c H locs 0 0 Q (F0 m 35 ls []) := by
    intro rec5 hrec5 y1 y3 y4 H locs ls hP hD hS hl hR
    unfold rr_X4_worthOf_35 at hR
    obtain ⟨z8, ez8⟩ : ∃ y : Int32, y = (y4 + (1 : Int32)) := ⟨_, rfl⟩
    replace hR := lt_ok hR ez8
    refine lv_iinc (v := z8) (lv' := [(4, .int z8), (0, .ref (a1 0)), (1, .long y1), (3, .int y3)]) hx hb dX4_worthOf_35 hl (k := 3) rfl (by rw [ez8]; rfl) (by decide) rfl (fun ls8 hl8 => ?_)
    refine lv_goto (tgt := 5) hx hb dX4_worthOf_38 (by decide) ?_
    exact hrec5 y1 y3 z8 H locs ls8 hP hD hS (lv_sub hl8 [1, 2, 3, 0] rfl) hR
  have hB5 : ∀ (n : Nat), ∀ (y1 : Int64) (y3 : Int32) (y4 : Int32) (H : Heap) (locs : List Loc) (ls : Array Slot), va_P (dC, dI) vwCl (zc_4 a1 k1 s1) H → va_D A (zc_4 a1 k1 s1) → va_S A s.heap H locs → lv_has ls 5 [(0, .ref (a1 0)), (1, .long y1), (3, .int y3), (4, .int y4)] → rr_X4_worthOf_5 fu s1 n y1 y3 y4 = some res → W p l e ({ frames := 0, cells := 0, slots := 0, locals := 0 } : Room) s m args below meth c H locs 0 0 Q (F0 m 5 ls []) := by
    intro  n
    induction n with
    | zero => intro y1 y3 y4 H locs ls hP hD hS hl hR; exact absurd hR (by intro h; cases h)
    | succ n ih =>
      intro y1 y3 y4 H locs ls hP hD hS hl hR
      replace hR : rr_X4_worthOf_5_b fu s1 (rr_X4_worthOf_5 fu s1 n) y1 y3 y4 = some res := hR
      unfold rr_X4_worthOf_5_b at hR
      refine lv_iload hx hb dX4_worthOf_5 (lv_at hl 3 rfl) ?_
      refine lv_aload_n hx hb dX4_worthOf_7 rfl (lv_at hl 0 rfl) ?_
      refine va_get (D := (dC, dI)) (ci := 4) (v := .int s1.1) (C := RX4) (T := TX4) (N := 6) hx hb hts hin4 hown hK hP 0 rfl rfl 0 (by decide) (hts (.fieldLink RX4 28 "OldestCoins$Ranks" "size" "I") (List.mem_of_getElem? (i := 1) rfl)) (fun _ h9 => h9) rfl dX4_worthOf_8 ?_
      refine lv_icmp_ge (tgt := 41) hx hb dX4_worthOf_11 (by decide) (fun c3 => ?_) (fun c3 => ?_)
      · replace hR := ifp_ hR c3
        refine lv_iload_n hx hb dX4_worthOf_41 rfl (lv_at hl 2 rfl) ?_
        subst hQe
        exact W.iret (v := y3) hx hb hr (fun t ht hW => ⟨⟨y3, (), rfl, (Option.some.inj hR).symm, by rw [ht]; exact hP, va_K.moved hW.alike hK, hD⟩, hS.F ht⟩) hS.2.2 dX4_worthOf_42
      · replace hR := ifn_ hR c3
        refine lv_lload_n hx hb dX4_worthOf_14 rfl (lv_at hl 1 rfl) ?_
        refine lv_iload hx hb dX4_worthOf_15 (lv_at hl 3 rfl) ?_
        refine lv_lshr (v := (y1 >>> (y4.toInt64 &&& 63))) hx hb dX4_worthOf_17 rfl ?_
        refine lv_lconst (v := (1 : Int64)) hx hb dX4_worthOf_18 (by decide) ?_
        refine lv_land hx hb dX4_worthOf_19 ?_
        refine lv_lconst (v := (0 : Int64)) hx hb dX4_worthOf_20 (by decide) ?_
        refine W.lcmp hx hb dX4_worthOf_21 ?_
        refine lv_if_eq (tgt := 35) hx hb dX4_worthOf_22 (by decide) (fun c4 => ?_) (fun c4 => ?_)
        · replace hR := ifp_ hR c4
          exact hB35 (rr_X4_worthOf_5 fu s1 n) ih y1 y3 y4 H locs ls hP hD hS (lv_sub hl [0, 1, 2, 3] rfl) hR
        · replace hR := ifn_ hR c4
          refine lv_iload_n hx hb dX4_worthOf_25 rfl (lv_at hl 2 rfl) ?_
          refine lv_aload_n hx hb dX4_worthOf_26 rfl (lv_at hl 0 rfl) ?_
          refine va_get (D := (dC, dI)) (ci := 4) (v := .ref (a1 2)) (C := RX4) (T := TX4) (N := 6) hx hb hts hin4 hown hK hP 0 rfl rfl 2 (by decide) (hts (.fieldLink RX4 15 "OldestCoins$Ranks" "worthAt" "[I") (List.mem_of_getElem? (i := 2) rfl)) (fun _ h9 => h9) rfl dX4_worthOf_27 ?_
          refine lv_iload hx hb dX4_worthOf_30 (lv_at hl 3 rfl) ?_
          have i5 := (ck_ok hR).1
          replace hR := (ck_ok hR).2
          refine va_iald (f := s1.2.2.1) hx hb hK hP 2 1 rfl rfl i5 dX4_worthOf_32 ?_
          refine lv_iadd hx hb dX4_worthOf_33 ?_
          refine lv_topi (fun z6 ez6 => ?_)
          replace hR := lt_ok hR ez6
          refine lv_istore_n (lv' := [(3, .int z6), (0, .ref (a1 0)), (1, .long y1), (4, .int y4)]) hx hb dX4_worthOf_34 rfl hl (by decide) rfl (fun ls7 hl7 => ?_)
          exact hB35 (rr_X4_worthOf_5 fu s1 n) ih y1 z6 y4 H locs ls7 hP hD hS (lv_sub hl7 [1, 2, 0, 3] rfl) hR
  unfold rr_X4_worthOf at hR
  refine lv_iconst (v := (0 : Int32)) hx hb dX4_worthOf_0 (by decide) ?_
  refine lv_istore_n (lv' := [(3, .int (0 : Int32)), (0, .ref (a1 0)), (1, .long x1)]) hx hb dX4_worthOf_1 rfl hl (by decide) rfl (fun ls1 hl1 => ?_)
  refine lv_iconst (v := (0 : Int32)) hx hb dX4_worthOf_2 (by decide) ?_
  refine lv_istore (lv' := [(4, .int (0 : Int32)), (3, .int (0 : Int32)), (0, .ref (a1 0)), (1, .long x1)]) hx hb dX4_worthOf_3 hl1 (by decide) rfl (fun ls2 hl2 => ?_)
  exact hB5 fu x1 (0 : Int32) (0 : Int32) s.heap [] ls2 hP hD hS (lv_sub hl2 [2, 3, 1, 0] rfl) hR
def rr_X1_holderAt_2_b (fu : Nat) (s1 : ZT_1) (rec2 : Int32 → Int32 → Option (Int32)) (y1 : Int32) (y2 : Int32) : Option (Int32) := (if (7 : Int32) ≤ y2 then some y2 else ck_ y2 8 ((if (lg_cmp (((s1.1 y2.toNatClampNeg) >>> (y1.toInt64 &&& 63)) &&& (1 : Int64)) (0 : Int64)) = (0 : Int32) then lt_ (α := Int32) (y2 + (1 : Int32)) (fun z5 => rec2 y1 z5) else some y2)))
def rr_X1_holderAt_2 (fu : Nat) (s1 : ZT_1) (n : Nat) : Int32 → Int32 → Option (Int32) := lp_ (fun _ _ => none) (rr_X1_holderAt_2_b fu s1) n
def rr_X1_holderAt (fu : Nat) (x1 : Int32) (s1 : ZT_1) : Option (Int32) := rr_X1_holderAt_2 fu s1 fu x1 (0 : Int32)
set_option maxHeartbeats 4000000 in
set_option maxRecDepth 100000 in
theorem cc_X1_holderAt (l : Launch) (dC : Nat → ClassId) (dI : Nat → Nat → Nat) (fu : Nat) (a1 : Nat → Nat) (k1 : Nat → ClassId) (sz : Nat) (x1 : Int32) (s1 : ZT_1) (res : Int32) (hR : rr_X1_holderAt fu x1 s1 = some res) : Met l yX1_holderAt wsX1_holderAt ({ frames := 0, cells := 0, slots := 0, locals := 0 } : Room) (PcF [.ref (a1 0), .int x1] sz (dC, dI) (zc_1 a1 k1 s1) (zt_1 k1)) (va_Qi (fun (r : Int32) (u : Unit) => res = r) (fun u t => at3_ (dC, dI) (zc_1 a1 k1 s1) (zt_1 k1) (va_A (zc_1 a1 k1 s1) sz) t) (va_A (zc_1 a1 k1 s1) sz)) 0 0 (va_A (zc_1 a1 k1 s1) sz) := by
  refine Met.ofW (cc := cX1_holderAt) (maxL := 3) (ret := (some .int)) (by decide) rfl ?_
  intro p e s m args below meth c s₁ B hml hv
  obtain ⟨hav, hsz, hP, hK, hD0⟩ := hv
  have hx := B.exec
  have hb := B.bytes
  have hr := B.returns
  have hts := atoms_spec (ws := wsX1_holderAt) B.pre
  have hown : s.vm.findClass RX1 = some m.cls := findClass_of_methodNamed B.named
  have hlocks := B.notSynchronized
  have hin1 : ∀ w ∈ wsX10, w ∈ wsX1_holderAt := fun w h => List.mem_cons_of_mem _ (List.mem_append_right _ h)
  subst hsz
  have hD := hD0.self (sz := s.heap.size)
  clear hD0
  generalize hAe : va_A (zc_1 a1 k1 s1) s.heap.size = A at hD ⊢
  have hA : ∀ q : Nat, s.heap.size ≤ q → A q := fun q h => by rw [← hAe]; exact Or.inr h
  have hS : va_S A s.heap s.heap [] := va_S.rf
  generalize hQe : MQ below _ args s 0 0 A = Q
  rw [show entryFrame m args 3 = F0 m 0 ((lg_sl ([.ref (a1 0), .int x1]) ++ List.replicate (3 - (lg_sl ([.ref (a1 0), .int x1])).length) Slot.unset).toArray) [] from by rw [hav]; exact lg_entry_eq m _ _]
  have hl := lv_entry ([.ref (a1 0), .int x1]) (n := 3) (Nat.le_of_ble_eq_true rfl)
  generalize (lg_sl ([.ref (a1 0), .int x1]) ++ List.replicate (3 - (lg_sl ([.ref (a1 0), .int x1])).length) Slot.unset).toArray = ls at hl ⊢
  have hl : lv_has ls 3 [(0, .ref (a1 0)), (1, .int x1)] := hl
  have hB2 : ∀ (n : Nat), ∀ (y1 : Int32) (y2 : Int32) (H : Heap) (locs : List Loc) (ls : Array Slot), va_P (dC, dI) vwCl (zc_1 a1 k1 s1) H → va_D A (zc_1 a1 k1 s1) → va_S A s.heap H locs → lv_has ls 3 [(0, .ref (a1 0)), (1, .int y1), (2, .int y2)] → rr_X1_holderAt_2 fu s1 n y1 y2 = some res → W p l e ({ frames := 0, cells := 0, slots := 0, locals := 0 } : Room) s m args below meth c H locs 0 0 Q (F0 m 2 ls []) := by
    intro  n
    induction n with
    | zero => intro y1 y2 H locs ls hP hD hS hl hR; exact absurd hR (by intro h; cases h)
    | succ n ih =>
      intro y1 y2 H locs ls hP hD hS hl hR
      replace hR : rr_X1_holderAt_2_b fu s1 (rr_X1_holderAt_2 fu s1 n) y1 y2 = some res := hR
      unfold rr_X1_holderAt_2_b at hR
      refine lv_iload_n hx hb dX1_holderAt_2 rfl (lv_at hl 2 rfl) ?_
      refine lv_bipush (v := (7 : Int32)) hx hb dX1_holderAt_3 (by decide) ?_
      refine lv_icmp_ge (tgt := 29) hx hb dX1_holderAt_5 (by decide) (fun c2 => ?_) (fun c2 => ?_)
      · replace hR := ifp_ hR c2
        refine lv_iload_n hx hb dX1_holderAt_29 rfl (lv_at hl 2 rfl) ?_
        subst hQe
        exact W.iret (v := y2) hx hb hr (fun t ht hW => ⟨⟨y2, (), rfl, (Option.some.inj hR).symm, by rw [ht]; exact hP, va_K.moved hW.alike hK, hD⟩, hS.F ht⟩) hS.2.2 dX1_holderAt_30
      · replace hR := ifn_ hR c2
        refine lv_aload_n hx hb dX1_holderAt_8 rfl (lv_at hl 0 rfl) ?_
        refine va_get (D := (dC, dI)) (ci := 1) (v := .ref (a1 1)) (C := RX1) (T := TX1) (N := 5) hx hb hts hin1 hown hK hP 0 rfl rfl 0 (by decide) (hts (.fieldLink RX1 9 "OldestCoins$Board" "had" "[J") (List.mem_of_getElem? (i := 1) rfl)) (fun _ h9 => h9) rfl dX1_holderAt_9 ?_
        refine lv_iload_n hx hb dX1_holderAt_12 rfl (lv_at hl 2 rfl) ?_
        have i3 := (ck_ok hR).1
        replace hR := (ck_ok hR).2
        refine va_lald (f := s1.1) hx hb hK hP 1 0 rfl rfl i3 dX1_holderAt_13 ?_
        refine lv_iload_n hx hb dX1_holderAt_14 rfl (lv_at hl 1 rfl) ?_
        refine lv_lshr (v := ((s1.1 y2.toNatClampNeg) >>> (y1.toInt64 &&& 63))) hx hb dX1_holderAt_15 rfl ?_
        refine lv_lconst (v := (1 : Int64)) hx hb dX1_holderAt_16 (by decide) ?_
        refine lv_land hx hb dX1_holderAt_17 ?_
        refine lv_lconst (v := (0 : Int64)) hx hb dX1_holderAt_18 (by decide) ?_
        refine W.lcmp hx hb dX1_holderAt_19 ?_
        refine lv_if_ne (tgt := 29) hx hb dX1_holderAt_20 (by decide) (fun c4 => ?_) (fun c4 => ?_)
        · replace hR := ifn_ hR c4
          refine lv_iload_n hx hb dX1_holderAt_29 rfl (lv_at hl 2 rfl) ?_
          subst hQe
          exact W.iret (v := y2) hx hb hr (fun t ht hW => ⟨⟨y2, (), rfl, (Option.some.inj hR).symm, by rw [ht]; exact hP, va_K.moved hW.alike hK, hD⟩, hS.F ht⟩) hS.2.2 dX1_holderAt_30
        · replace hR := ifp_ hR c4
          obtain ⟨z5, ez5⟩ : ∃ y : Int32, y = (y2 + (1 : Int32)) := ⟨_, rfl⟩
          replace hR := lt_ok hR ez5
          refine lv_iinc (v := z5) (lv' := [(2, .int z5), (0, .ref (a1 0)), (1, .int y1)]) hx hb dX1_holderAt_23 hl (k := 2) rfl (by rw [ez5]; rfl) (by decide) rfl (fun ls5 hl5 => ?_)
          refine lv_goto (tgt := 2) hx hb dX1_holderAt_26 (by decide) ?_
          exact ih y1 z5 H locs ls5 hP hD hS (lv_sub hl5 [1, 2, 0] rfl) hR
  unfold rr_X1_holderAt at hR
  refine lv_iconst (v := (0 : Int32)) hx hb dX1_holderAt_0 (by decide) ?_
  refine lv_istore_n (lv' := [(2, .int (0 : Int32)), (0, .ref (a1 0)), (1, .int x1)]) hx hb dX1_holderAt_1 rfl hl (by decide) rfl (fun ls1 hl1 => ?_)
  exact hB2 fu x1 (0 : Int32) s.heap [] ls1 hP hD hS (lv_sub hl1 [1, 2, 0] rfl) hR
def rr_X1_copyFrom_2_b (fu : Nat) (s2 : ZT_1) (rec2 : Int32 → ZT_1 → Option (ZT_1)) (y2 : Int32) (u1 : ZT_1) : Option (ZT_1) := (if (8 : Int32) ≤ y2 then some u1 else ck_ y2 8 (lt_ (α := Int64) (s2.1 y2.toNatClampNeg) (fun z4 => ck_ y2 8 (lt_ (α := Int32) (y2 + (1 : Int32)) (fun z6 => rec2 z6 ((vp_updL u1.1 y2.toNatClampNeg z4), u1.2))))))
def rr_X1_copyFrom_2 (fu : Nat) (s2 : ZT_1) (n : Nat) : Int32 → ZT_1 → Option (ZT_1) := lp_ (fun _ _ => none) (rr_X1_copyFrom_2_b fu s2) n
def rr_X1_copyFrom (fu : Nat) (s1 : ZT_1) (s2 : ZT_1) : Option (ZT_1) := rr_X1_copyFrom_2 fu s2 fu (0 : Int32) s1
set_option maxHeartbeats 4000000 in
set_option maxRecDepth 100000 in
theorem cc_X1_copyFrom (l : Launch) (dC : Nat → ClassId) (dI : Nat → Nat → Nat) (fu : Nat) (a1 : Nat → Nat) (a2 : Nat → Nat) (k1 : Nat → ClassId) (k2 : Nat → ClassId) (sz : Nat) (s1 : ZT_1) (s2 : ZT_1) (res : ZT_1) (hR : rr_X1_copyFrom fu s1 s2 = some res) : Met l yX1_copyFrom wsX1_copyFrom ({ frames := 0, cells := 0, slots := 0, locals := 0 } : Room) (PcF [.ref (a1 0), .ref (a2 0)] sz (dC, dI) (zc_1 a1 k1 s1 ++ zc_1 a2 k2 s2) (zt_1 k1 ++ zt_1 k2)) (va_Qv (fun u : ZT_1 => res = u) (fun u t => at3_ (dC, dI) (zc_1 a1 k1 u ++ zc_1 a2 k2 s2) (zt_1 k1 ++ zt_1 k2) (va_A (zc_1 a1 k1 s1 ++ zc_1 a2 k2 s2) sz) t) (va_A (zc_1 a1 k1 s1 ++ zc_1 a2 k2 s2) sz)) 0 0 (va_A (zc_1 a1 k1 s1 ++ zc_1 a2 k2 s2) sz) := by
  refine Met.ofW (cc := cX1_copyFrom) (maxL := 3) (ret := none) (by decide) rfl ?_
  intro p e s m args below meth c s₁ B hml hv
  obtain ⟨hav, hsz, hP, hK, hD0⟩ := hv
  have hx := B.exec
  have hb := B.bytes
  have hr := B.returns
  have hts := atoms_spec (ws := wsX1_copyFrom) B.pre
  have hown : s.vm.findClass RX1 = some m.cls := findClass_of_methodNamed B.named
  have hlocks := B.notSynchronized
  have hin1 : ∀ w ∈ wsX10, w ∈ wsX1_copyFrom := fun w h => List.mem_cons_of_mem _ (List.mem_append_right _ h)
  subst hsz
  have hD := hD0.self (sz := s.heap.size)
  clear hD0
  generalize hAe : va_A (zc_1 a1 k1 s1 ++ zc_1 a2 k2 s2) s.heap.size = A at hD ⊢
  have hA : ∀ q : Nat, s.heap.size ≤ q → A q := fun q h => by rw [← hAe]; exact Or.inr h
  have hS : va_S A s.heap s.heap [] := va_S.rf
  generalize hQe : MQ below _ args s 0 0 A = Q
  rw [show entryFrame m args 3 = F0 m 0 ((lg_sl ([.ref (a1 0), .ref (a2 0)]) ++ List.replicate (3 - (lg_sl ([.ref (a1 0), .ref (a2 0)])).length) Slot.unset).toArray) [] from by rw [hav]; exact lg_entry_eq m _ _]
  have hl := lv_entry ([.ref (a1 0), .ref (a2 0)]) (n := 3) (Nat.le_of_ble_eq_true rfl)
  generalize (lg_sl ([.ref (a1 0), .ref (a2 0)]) ++ List.replicate (3 - (lg_sl ([.ref (a1 0), .ref (a2 0)])).length) Slot.unset).toArray = ls at hl ⊢
  have hl : lv_has ls 3 [(0, .ref (a1 0)), (1, .ref (a2 0))] := hl
  have hB2 : ∀ (n : Nat), ∀ (y2 : Int32) (u1 : ZT_1) (H : Heap) (locs : List Loc) (ls : Array Slot), va_P (dC, dI) vwCl (zc_1 a1 k1 u1 ++ zc_1 a2 k2 s2) H → va_D A (zc_1 a1 k1 u1 ++ zc_1 a2 k2 s2) → va_S A s.heap H locs → lv_has ls 3 [(0, .ref (a1 0)), (1, .ref (a2 0)), (2, .int y2)] → rr_X1_copyFrom_2 fu s2 n y2 u1 = some res → W p l e ({ frames := 0, cells := 0, slots := 0, locals := 0 } : Room) s m args below meth c H locs 0 0 Q (F0 m 2 ls []) := by
    intro  n
    induction n with
    | zero => intro y2 u1 H locs ls hP hD hS hl hR; exact absurd hR (by intro h; cases h)
    | succ n ih =>
      intro y2 u1 H locs ls hP hD hS hl hR
      replace hR : rr_X1_copyFrom_2_b fu s2 (rr_X1_copyFrom_2 fu s2 n) y2 u1 = some res := hR
      unfold rr_X1_copyFrom_2_b at hR
      refine lv_iload_n hx hb dX1_copyFrom_2 rfl (lv_at hl 2 rfl) ?_
      refine lv_bipush (v := (8 : Int32)) hx hb dX1_copyFrom_3 (by decide) ?_
      refine lv_icmp_ge (tgt := 26) hx hb dX1_copyFrom_5 (by decide) (fun c2 => ?_) (fun c2 => ?_)
      · replace hR := ifp_ hR c2
        subst hQe
        exact W.vret hx hb hr (fun t ht hW => ⟨⟨u1, rfl, (Option.some.inj hR).symm, by rw [ht]; exact hP, va_K.moved hW.alike hK, hD⟩, hS.F ht⟩) hS.2.2 dX1_copyFrom_26
      · replace hR := ifn_ hR c2
        refine lv_aload_n hx hb dX1_copyFrom_8 rfl (lv_at hl 0 rfl) ?_
        refine va_get (D := (dC, dI)) (ci := 1) (v := .ref (a1 1)) (C := RX1) (T := TX1) (N := 5) hx hb hts hin1 hown hK hP 0 rfl rfl 0 (by decide) (hts (.fieldLink RX1 9 "OldestCoins$Board" "had" "[J") (List.mem_of_getElem? (i := 1) rfl)) (fun _ h9 => h9) rfl dX1_copyFrom_9 ?_
        refine lv_iload_n hx hb dX1_copyFrom_12 rfl (lv_at hl 2 rfl) ?_
        refine lv_aload_n hx hb dX1_copyFrom_13 rfl (lv_at hl 1 rfl) ?_
        refine va_get (D := (dC, dI)) (ci := 1) (v := .ref (a2 1)) (C := RX1) (T := TX1) (N := 5) hx hb hts hin1 hown hK hP 2 rfl rfl 0 (by decide) (hts (.fieldLink RX1 9 "OldestCoins$Board" "had" "[J") (List.mem_of_getElem? (i := 1) rfl)) (fun _ h9 => h9) rfl dX1_copyFrom_14 ?_
        refine lv_iload_n hx hb dX1_copyFrom_17 rfl (lv_at hl 2 rfl) ?_
        have i3 := (ck_ok hR).1
        replace hR := (ck_ok hR).2
        refine va_lald (f := s2.1) hx hb hK hP 3 1 rfl rfl i3 dX1_copyFrom_18 ?_
        refine lv_topl (fun z4 ez4 => ?_)
        replace hR := lt_ok hR ez4
        have i5 := (ck_ok hR).1
        replace hR := (ck_ok hR).2
        refine va_last (f := u1.1) hx hb hK hP hD hS 1 0 rfl rfl i5 dX1_copyFrom_19 (fun H5 locs5 hP5 hD5 hS5 => ?_)
        have hP5 : va_P (dC, dI) vwCl (zc_1 a1 k1 ((vp_updL u1.1 y2.toNatClampNeg z4), u1.2) ++ zc_1 a2 k2 s2) H5 := hP5
        have hD5 : va_D A (zc_1 a1 k1 ((vp_updL u1.1 y2.toNatClampNeg z4), u1.2) ++ zc_1 a2 k2 s2) := hD5
        clear hP hD hS
        obtain ⟨z6, ez6⟩ : ∃ y : Int32, y = (y2 + (1 : Int32)) := ⟨_, rfl⟩
        replace hR := lt_ok hR ez6
        refine lv_iinc (v := z6) (lv' := [(2, .int z6), (0, .ref (a1 0)), (1, .ref (a2 0))]) hx hb dX1_copyFrom_20 hl (k := 2) rfl (by rw [ez6]; rfl) (by decide) rfl (fun ls6 hl6 => ?_)
        refine lv_goto (tgt := 2) hx hb dX1_copyFrom_23 (by decide) ?_
        exact ih z6 ((vp_updL u1.1 y2.toNatClampNeg z4), u1.2) H5 locs5 ls6 hP5 hD5 hS5 (lv_sub hl6 [1, 2, 0] rfl) hR
  unfold rr_X1_copyFrom at hR
  refine lv_iconst (v := (0 : Int32)) hx hb dX1_copyFrom_0 (by decide) ?_
  refine lv_istore_n (lv' := [(2, .int (0 : Int32)), (0, .ref (a1 0)), (1, .ref (a2 0))]) hx hb dX1_copyFrom_1 rfl hl (by decide) rfl (fun ls1 hl1 => ?_)
  exact hB2 fu (0 : Int32) s1 s.heap [] ls1 hP hD hS (lv_sub hl1 [1, 2, 0] rfl) hR
def rr_X1_meetsEvenly (fu : Nat) (x2 : Int32) (x3 : Int32) (x4 : Int32) (s1 : ZT_1) (s2 : ZT_4) : Option (Int32 × ZT_1) := (rr_X1_meets fu x2 x3 x4 s1 s2).bind (fun q1 => (if q1.1 = (0 : Int32) then some ((0 : Int32), q1.2) else (if q1.2.2.2.2.1 = (0 : Int32) then some ((1 : Int32), q1.2) else some ((0 : Int32), q1.2))))
set_option maxHeartbeats 4000000 in
set_option maxRecDepth 100000 in
theorem cc_X1_meetsEvenly (l : Launch) (dC : Nat → ClassId) (dI : Nat → Nat → Nat) (fu : Nat) (a1 : Nat → Nat) (a2 : Nat → Nat) (k1 : Nat → ClassId) (k2 : Nat → ClassId) (sz : Nat) (x2 : Int32) (x3 : Int32) (x4 : Int32) (s1 : ZT_1) (s2 : ZT_4) (res : Int32 × ZT_1) (hR : rr_X1_meetsEvenly fu x2 x3 x4 s1 s2 = some res) : Met l yX1_meetsEvenly wsX1_meetsEvenly ({ frames := 5, cells := 0, slots := 0, locals := 119 } : Room) (PcF [.ref (a1 0), .ref (a2 0), .int x2, .int x3, .int x4] sz (dC, dI) (zc_1 a1 k1 s1 ++ zc_4 a2 k2 s2) (zt_1 k1 ++ zt_4 k2)) (va_Qi (fun (r : Int32) (u : ZT_1) => res = (r, u)) (fun u t => at3_ (dC, dI) (zc_1 a1 k1 u ++ zc_4 a2 k2 s2) (zt_1 k1 ++ zt_4 k2) (va_A (zc_1 a1 k1 s1 ++ zc_4 a2 k2 s2) sz) t) (va_A (zc_1 a1 k1 s1 ++ zc_4 a2 k2 s2) sz)) 0 0 (va_A (zc_1 a1 k1 s1 ++ zc_4 a2 k2 s2) sz) := by
  refine Met.ofW (cc := cX1_meetsEvenly) (maxL := 5) (ret := (some .boolean)) (by decide) rfl ?_
  intro p e s m args below meth c s₁ B hml hv
  obtain ⟨hav, hsz, hP, hK, hD0⟩ := hv
  have hx := B.exec
  have hb := B.bytes
  have hr := B.returns
  have hts := atoms_spec (ws := wsX1_meetsEvenly) B.pre
  have hown : s.vm.findClass RX1 = some m.cls := findClass_of_methodNamed B.named
  have hlocks := B.notSynchronized
  have hin1 : ∀ w ∈ wsX10, w ∈ wsX1_meetsEvenly := fun w h => List.mem_cons_of_mem _ (List.mem_append_left _ (List.mem_append_right _ h))
  subst hsz
  have hD := hD0.self (sz := s.heap.size)
  clear hD0
  generalize hAe : va_A (zc_1 a1 k1 s1 ++ zc_4 a2 k2 s2) s.heap.size = A at hD ⊢
  have hA : ∀ q : Nat, s.heap.size ≤ q → A q := fun q h => by rw [← hAe]; exact Or.inr h
  have hS : va_S A s.heap s.heap [] := va_S.rf
  generalize hQe : MQ below _ args s 0 0 A = Q
  rw [show entryFrame m args 5 = F0 m 0 ((lg_sl ([.ref (a1 0), .ref (a2 0), .int x2, .int x3, .int x4]) ++ List.replicate (5 - (lg_sl ([.ref (a1 0), .ref (a2 0), .int x2, .int x3, .int x4])).length) Slot.unset).toArray) [] from by rw [hav]; exact lg_entry_eq m _ _]
  have hl := lv_entry ([.ref (a1 0), .ref (a2 0), .int x2, .int x3, .int x4]) (n := 5) (Nat.le_of_ble_eq_true rfl)
  generalize (lg_sl ([.ref (a1 0), .ref (a2 0), .int x2, .int x3, .int x4]) ++ List.replicate (5 - (lg_sl ([.ref (a1 0), .ref (a2 0), .int x2, .int x3, .int x4])).length) Slot.unset).toArray = ls at hl ⊢
  have hl : lv_has ls 5 [(0, .ref (a1 0)), (1, .ref (a2 0)), (2, .int x2), (3, .int x3), (4, .int x4)] := hl
  unfold rr_X1_meetsEvenly at hR
  refine lv_aload_n hx hb dX1_meetsEvenly_0 rfl (lv_at hl 0 rfl) ?_
  refine lv_aload_n hx hb dX1_meetsEvenly_1 rfl (lv_at hl 1 rfl) ?_
  refine lv_iload_n hx hb dX1_meetsEvenly_2 rfl (lv_at hl 2 rfl) ?_
  refine lv_iload_n hx hb dX1_meetsEvenly_3 rfl (lv_at hl 3 rfl) ?_
  refine lv_iload hx hb dX1_meetsEvenly_4 (lv_at hl 4 rfl) ?_
  have hR0 := ob_ok hR
  clear hR
  obtain ⟨q1, hq1, hR⟩ := hR0
  refine va_calli (va_runV (As := [.ref (a2 0), .int x2, .int x3, .int x4]) (rest := []) ⟨hx, hb, hml, hown, hts⟩ (cc_X1_meets l dC dI fu a1 a2 k1 k2 s.heap.size x2 x3 x4 s1 s2 q1 hq1) (cwV 4 hts gX1_meetsEvenly_X1_meets rfl rfl rfl (by decide +kernel) ⟨Nat.le_of_ble_eq_true rfl, Nat.le_of_ble_eq_true rfl⟩) (pf_v hK hP hD 1 0 rfl rfl rfl) rfl rfl hl.1 rfl (lv_room (Nat.le_of_ble_eq_true rfl)) dX1_meetsEvenly_6 ⟨Nat.le_refl _, Nat.le_refl _⟩) hS (fun q _ h => (fr_all hD hS hA) q h) (fr_all hD hS hA) (fun r1 v1 t1 H1 locs1 ht1 hvm1 hw1 hB1 hz1 hk1 hS1 => ?_)
  obtain rfl : r1 = q1.1 := (congrArg Prod.fst hw1).symm
  obtain rfl : v1 = q1.2 := (congrArg Prod.snd hw1).symm
  obtain ⟨hP1, hD1⟩ := jn_all hD hS hA ht1 hB1
  have hP1 : va_P (dC, dI) vwCl (zc_1 a1 k1 q1.2 ++ zc_4 a2 k2 s2) H1 := hP1
  have hD1 : va_D A (zc_1 a1 k1 q1.2 ++ zc_4 a2 k2 s2) := hD1
  clear hP hD hS hB1 hk1 hvm1 hz1 ht1
  refine lv_if_eq (tgt := 23) hx hb dX1_meetsEvenly_9 (by decide) (fun c2 => ?_) (fun c2 => ?_)
  · replace hR := ifp_ hR c2
    refine lv_iconst (v := (0 : Int32)) hx hb dX1_meetsEvenly_23 (by decide) ?_
    subst hQe
    exact W.zret (ty := .boolean) (v := (0 : Int32)) hx hb hr rfl (fun t ht hW => ⟨⟨(0 : Int32), q1.2, rfl, (Option.some.inj hR).symm, by rw [ht]; exact hP1, va_K.moved hW.alike hK, hD1⟩, hS1.F ht⟩) hS1.2.2 dX1_meetsEvenly_24
  · replace hR := ifn_ hR c2
    refine lv_aload_n hx hb dX1_meetsEvenly_12 rfl (lv_at hl 0 rfl) ?_
    refine va_get (D := (dC, dI)) (ci := 1) (v := .int q1.2.2.2.2.1) (C := RX1) (T := TX1) (N := 5) hx hb hts hin1 hown hK hP1 0 rfl rfl 3 (by decide) (hts (.fieldLink RX1 36 "OldestCoins$Board" "due" "I") (List.mem_of_getElem? (i := 1) rfl)) (fun _ h9 => h9) rfl dX1_meetsEvenly_13 ?_
    refine lv_if_ne (tgt := 23) hx hb dX1_meetsEvenly_16 (by decide) (fun c3 => ?_) (fun c3 => ?_)
    · replace hR := ifn_ hR c3
      refine lv_iconst (v := (0 : Int32)) hx hb dX1_meetsEvenly_23 (by decide) ?_
      subst hQe
      exact W.zret (ty := .boolean) (v := (0 : Int32)) hx hb hr rfl (fun t ht hW => ⟨⟨(0 : Int32), q1.2, rfl, (Option.some.inj hR).symm, by rw [ht]; exact hP1, va_K.moved hW.alike hK, hD1⟩, hS1.F ht⟩) hS1.2.2 dX1_meetsEvenly_24
    · replace hR := ifp_ hR c3
      refine lv_iconst (v := (1 : Int32)) hx hb dX1_meetsEvenly_19 (by decide) ?_
      refine lv_goto (tgt := 24) hx hb dX1_meetsEvenly_20 (by decide) ?_
      subst hQe
      exact W.zret (ty := .boolean) (v := (1 : Int32)) hx hb hr rfl (fun t ht hW => ⟨⟨(1 : Int32), q1.2, rfl, (Option.some.inj hR).symm, by rw [ht]; exact hP1, va_K.moved hW.alike hK, hD1⟩, hS1.F ht⟩) hS1.2.2 dX1_meetsEvenly_24
def rr_X1_move (fu : Nat) (x1 : Int32) (x2 : Int32) (x3 : Int32) (s1 : ZT_1) : Option (ZT_1) := ck_ x2 8 (lt_ (α := Int64) ((s1.1 x2.toNatClampNeg) &&& (((1 : Int64) <<< (x1.toInt64 &&& 63)) ^^^ (-1 : Int64))) (fun z2 => ck_ x2 8 (ck_ x3 8 (lt_ (α := Int64) (((vp_updL s1.1 x2.toNatClampNeg z2) x3.toNatClampNeg) ||| ((1 : Int64) <<< (x1.toInt64 &&& 63))) (fun z5 => ck_ x3 8 (some ((vp_updL (vp_updL s1.1 x2.toNatClampNeg z2) x3.toNatClampNeg z5), s1.2)))))))
set_option maxHeartbeats 4000000 in
set_option maxRecDepth 100000 in
theorem cc_X1_move (l : Launch) (dC : Nat → ClassId) (dI : Nat → Nat → Nat) (fu : Nat) (a1 : Nat → Nat) (k1 : Nat → ClassId) (sz : Nat) (x1 : Int32) (x2 : Int32) (x3 : Int32) (s1 : ZT_1) (res : ZT_1) (hR : rr_X1_move fu x1 x2 x3 s1 = some res) : Met l yX1_move wsX1_move ({ frames := 0, cells := 0, slots := 0, locals := 0 } : Room) (PcF [.ref (a1 0), .int x1, .int x2, .int x3] sz (dC, dI) (zc_1 a1 k1 s1) (zt_1 k1)) (va_Qv (fun u : ZT_1 => res = u) (fun u t => at3_ (dC, dI) (zc_1 a1 k1 u) (zt_1 k1) (va_A (zc_1 a1 k1 s1) sz) t) (va_A (zc_1 a1 k1 s1) sz)) 0 0 (va_A (zc_1 a1 k1 s1) sz) := by
  refine Met.ofW (cc := cX1_move) (maxL := 4) (ret := none) (by decide) rfl ?_
  intro p e s m args below meth c s₁ B hml hv
  obtain ⟨hav, hsz, hP, hK, hD0⟩ := hv
  have hx := B.exec
  have hb := B.bytes
  have hr := B.returns
  have hts := atoms_spec (ws := wsX1_move) B.pre
  have hown : s.vm.findClass RX1 = some m.cls := findClass_of_methodNamed B.named
  have hlocks := B.notSynchronized
  have hin1 : ∀ w ∈ wsX10, w ∈ wsX1_move := fun w h => List.mem_cons_of_mem _ (List.mem_append_right _ h)
  subst hsz
  have hD := hD0.self (sz := s.heap.size)
  clear hD0
  generalize hAe : va_A (zc_1 a1 k1 s1) s.heap.size = A at hD ⊢
  have hA : ∀ q : Nat, s.heap.size ≤ q → A q := fun q h => by rw [← hAe]; exact Or.inr h
  have hS : va_S A s.heap s.heap [] := va_S.rf
  generalize hQe : MQ below _ args s 0 0 A = Q
  rw [show entryFrame m args 4 = F0 m 0 ((lg_sl ([.ref (a1 0), .int x1, .int x2, .int x3]) ++ List.replicate (4 - (lg_sl ([.ref (a1 0), .int x1, .int x2, .int x3])).length) Slot.unset).toArray) [] from by rw [hav]; exact lg_entry_eq m _ _]
  have hl := lv_entry ([.ref (a1 0), .int x1, .int x2, .int x3]) (n := 4) (Nat.le_of_ble_eq_true rfl)
  generalize (lg_sl ([.ref (a1 0), .int x1, .int x2, .int x3]) ++ List.replicate (4 - (lg_sl ([.ref (a1 0), .int x1, .int x2, .int x3])).length) Slot.unset).toArray = ls at hl ⊢
  have hl : lv_has ls 4 [(0, .ref (a1 0)), (1, .int x1), (2, .int x2), (3, .int x3)] := hl
  unfold rr_X1_move at hR
  refine lv_aload_n hx hb dX1_move_0 rfl (lv_at hl 0 rfl) ?_
  refine va_get (D := (dC, dI)) (ci := 1) (v := .ref (a1 1)) (C := RX1) (T := TX1) (N := 5) hx hb hts hin1 hown hK hP 0 rfl rfl 0 (by decide) (hts (.fieldLink RX1 9 "OldestCoins$Board" "had" "[J") (List.mem_of_getElem? (i := 1) rfl)) (fun _ h9 => h9) rfl dX1_move_1 ?_
  refine lv_iload_n hx hb dX1_move_4 rfl (lv_at hl 2 rfl) ?_
  refine lv_dup2_11 hx hb dX1_move_5 rfl rfl ?_
  have i1 := (ck_ok hR).1
  replace hR := (ck_ok hR).2
  refine va_lald (f := s1.1) hx hb hK hP 1 0 rfl rfl i1 dX1_move_6 ?_
  refine lv_lconst (v := (1 : Int64)) hx hb dX1_move_7 (by decide) ?_
  refine lv_iload_n hx hb dX1_move_8 rfl (lv_at hl 1 rfl) ?_
  refine lv_lshl (v := ((1 : Int64) <<< (x1.toInt64 &&& 63))) hx hb dX1_move_9 rfl ?_
  refine lv_ldc2 (v := (-1 : Int64)) hx hb hown (hts (.constantLong RX1 30 (-1)) (List.mem_of_getElem? (i := 2) rfl)) dX1_move_10 ?_
  refine lv_lxor hx hb dX1_move_13 ?_
  refine lv_land hx hb dX1_move_14 ?_
  refine lv_topl (fun z2 ez2 => ?_)
  replace hR := lt_ok hR ez2
  have i3 := (ck_ok hR).1
  replace hR := (ck_ok hR).2
  refine va_last (f := s1.1) hx hb hK hP hD hS 1 0 rfl rfl i3 dX1_move_15 (fun H3 locs3 hP3 hD3 hS3 => ?_)
  have hP3 : va_P (dC, dI) vwCl (zc_1 a1 k1 ((vp_updL s1.1 x2.toNatClampNeg z2), s1.2)) H3 := hP3
  have hD3 : va_D A (zc_1 a1 k1 ((vp_updL s1.1 x2.toNatClampNeg z2), s1.2)) := hD3
  clear hP hD hS
  refine lv_aload_n hx hb dX1_move_16 rfl (lv_at hl 0 rfl) ?_
  refine va_get (D := (dC, dI)) (ci := 1) (v := .ref (a1 1)) (C := RX1) (T := TX1) (N := 5) hx hb hts hin1 hown hK hP3 0 rfl rfl 0 (by decide) (hts (.fieldLink RX1 9 "OldestCoins$Board" "had" "[J") (List.mem_of_getElem? (i := 1) rfl)) (fun _ h9 => h9) rfl dX1_move_17 ?_
  refine lv_iload_n hx hb dX1_move_20 rfl (lv_at hl 3 rfl) ?_
  refine lv_dup2_11 hx hb dX1_move_21 rfl rfl ?_
  have i4 := (ck_ok hR).1
  replace hR := (ck_ok hR).2
  refine va_lald (f := (vp_updL s1.1 x2.toNatClampNeg z2)) hx hb hK hP3 1 0 rfl rfl i4 dX1_move_22 ?_
  refine lv_lconst (v := (1 : Int64)) hx hb dX1_move_23 (by decide) ?_
  refine lv_iload_n hx hb dX1_move_24 rfl (lv_at hl 1 rfl) ?_
  refine lv_lshl (v := ((1 : Int64) <<< (x1.toInt64 &&& 63))) hx hb dX1_move_25 rfl ?_
  refine lv_lor hx hb dX1_move_26 ?_
  refine lv_topl (fun z5 ez5 => ?_)
  replace hR := lt_ok hR ez5
  have i6 := (ck_ok hR).1
  replace hR := (ck_ok hR).2
  refine va_last (f := (vp_updL s1.1 x2.toNatClampNeg z2)) hx hb hK hP3 hD3 hS3 1 0 rfl rfl i6 dX1_move_27 (fun H6 locs6 hP6 hD6 hS6 => ?_)
  have hP6 : va_P (dC, dI) vwCl (zc_1 a1 k1 ((vp_updL (vp_updL s1.1 x2.toNatClampNeg z2) x3.toNatClampNeg z5), s1.2)) H6 := hP6
  have hD6 : va_D A (zc_1 a1 k1 ((vp_updL (vp_updL s1.1 x2.toNatClampNeg z2) x3.toNatClampNeg z5), s1.2)) := hD6
  clear hP3 hD3 hS3
  subst hQe
  exact W.vret hx hb hr (fun t ht hW => ⟨⟨((vp_updL (vp_updL s1.1 x2.toNatClampNeg z2) x3.toNatClampNeg z5), s1.2), rfl, (Option.some.inj hR).symm, by rw [ht]; exact hP6, va_K.moved hW.alike hK, hD6⟩, hS6.F ht⟩) hS6.2.2 dX1_move_28
def rr_X7_begin (fu : Nat) (x1 : Int32) (x2 : Int64) (x4 : Int32) (x5 : Int32) (x6 : Int32) (s1 : ZT_7) : Option (ZT_7) := some (x1, x5, x6, s1.2.2.2.1, s1.2.2.2.2.1, x2, x4)
set_option maxHeartbeats 4000000 in
set_option maxRecDepth 100000 in
theorem cc_X7_begin (l : Launch) (dC : Nat → ClassId) (dI : Nat → Nat → Nat) (fu : Nat) (a1 : Nat → Nat) (k1 : Nat → ClassId) (sz : Nat) (x1 : Int32) (x2 : Int64) (x4 : Int32) (x5 : Int32) (x6 : Int32) (s1 : ZT_7) (res : ZT_7) (hR : rr_X7_begin fu x1 x2 x4 x5 x6 s1 = some res) : Met l yX7_begin wsX7_begin ({ frames := 0, cells := 0, slots := 0, locals := 0 } : Room) (PcF [.ref (a1 0), .int x1, .long x2, .int x4, .int x5, .int x6] sz (dC, dI) (zc_7 a1 k1 s1) (zt_7 k1)) (va_Qv (fun u : ZT_7 => res = u) (fun u t => at3_ (dC, dI) (zc_7 a1 k1 u) (zt_7 k1) (va_A (zc_7 a1 k1 s1) sz) t) (va_A (zc_7 a1 k1 s1) sz)) 0 0 (va_A (zc_7 a1 k1 s1) sz) := by
  refine Met.ofW (cc := cX7_begin) (maxL := 7) (ret := none) (by decide) rfl ?_
  intro p e s m args below meth c s₁ B hml hv
  obtain ⟨hav, hsz, hP, hK, hD0⟩ := hv
  have hx := B.exec
  have hb := B.bytes
  have hr := B.returns
  have hts := atoms_spec (ws := wsX7_begin) B.pre
  have hown : s.vm.findClass RX7 = some m.cls := findClass_of_methodNamed B.named
  have hlocks := B.notSynchronized
  have hin7 : ∀ w ∈ wsX70, w ∈ wsX7_begin := fun w h => List.mem_cons_of_mem _ (List.mem_append_right _ h)
  subst hsz
  have hD := hD0.self (sz := s.heap.size)
  clear hD0
  generalize hAe : va_A (zc_7 a1 k1 s1) s.heap.size = A at hD ⊢
  have hA : ∀ q : Nat, s.heap.size ≤ q → A q := fun q h => by rw [← hAe]; exact Or.inr h
  have hS : va_S A s.heap s.heap [] := va_S.rf
  generalize hQe : MQ below _ args s 0 0 A = Q
  rw [show entryFrame m args 7 = F0 m 0 ((lg_sl ([.ref (a1 0), .int x1, .long x2, .int x4, .int x5, .int x6]) ++ List.replicate (7 - (lg_sl ([.ref (a1 0), .int x1, .long x2, .int x4, .int x5, .int x6])).length) Slot.unset).toArray) [] from by rw [hav]; exact lg_entry_eq m _ _]
  have hl := lv_entry ([.ref (a1 0), .int x1, .long x2, .int x4, .int x5, .int x6]) (n := 7) (Nat.le_of_ble_eq_true rfl)
  generalize (lg_sl ([.ref (a1 0), .int x1, .long x2, .int x4, .int x5, .int x6]) ++ List.replicate (7 - (lg_sl ([.ref (a1 0), .int x1, .long x2, .int x4, .int x5, .int x6])).length) Slot.unset).toArray = ls at hl ⊢
  have hl : lv_has ls 7 [(0, .ref (a1 0)), (1, .int x1), (2, .long x2), (4, .int x4), (5, .int x5), (6, .int x6)] := hl
  unfold rr_X7_begin at hR
  refine lv_aload_n hx hb dX7_begin_0 rfl (lv_at hl 0 rfl) ?_
  refine lv_iload_n hx hb dX7_begin_1 rfl (lv_at hl 1 rfl) ?_
  refine va_put (D := (dC, dI)) (ci := 7) (v := .int x1) (ty := .int) (C := RX7) (T := TX7) (N := 7) hx hb hts hin7 tyX7 tyX7_ok nmX7 hown hK hP hD hS 0 rfl rfl 0 (by decide) (hts (.fieldLink RX7 18 "OldestCoins$Tour" "purse" "I") (List.mem_of_getElem? (i := 1) rfl)) (fun _ h9 => h9) rfl (by decide +kernel) rfl rfl (Nat.le_of_ble_eq_true rfl) dX7_begin_2 (fun H1 locs1 hP1 hD1 hS1 => ?_)
  have hP1 : va_P (dC, dI) vwCl (zc_7 a1 k1 (x1, s1.2)) H1 := hP1
  have hD1 : va_D A (zc_7 a1 k1 (x1, s1.2)) := hD1
  clear hP hD hS
  refine lv_aload_n hx hb dX7_begin_5 rfl (lv_at hl 0 rfl) ?_
  refine lv_lload_n hx hb dX7_begin_6 rfl (lv_at hl 2 rfl) ?_
  refine va_put (D := (dC, dI)) (ci := 7) (v := .long x2) (ty := .long) (C := RX7) (T := TX7) (N := 7) hx hb hts hin7 tyX7 tyX7_ok nmX7 hown hK hP1 hD1 hS1 0 rfl rfl 5 (by decide) (hts (.fieldLink RX7 22 "OldestCoins$Tour" "wanted" "J") (List.mem_of_getElem? (i := 2) rfl)) (fun _ h9 => h9) rfl (by decide +kernel) rfl rfl (Nat.le_of_ble_eq_true rfl) dX7_begin_7 (fun H2 locs2 hP2 hD2 hS2 => ?_)
  have hP2 : va_P (dC, dI) vwCl (zc_7 a1 k1 (x1, s1.2.1, s1.2.2.1, s1.2.2.2.1, s1.2.2.2.2.1, x2, s1.2.2.2.2.2.2)) H2 := hP2
  have hD2 : va_D A (zc_7 a1 k1 (x1, s1.2.1, s1.2.2.1, s1.2.2.2.1, s1.2.2.2.2.1, x2, s1.2.2.2.2.2.2)) := hD2
  clear hP1 hD1 hS1
  refine lv_aload_n hx hb dX7_begin_10 rfl (lv_at hl 0 rfl) ?_
  refine lv_iload hx hb dX7_begin_11 (lv_at hl 3 rfl) ?_
  refine va_put (D := (dC, dI)) (ci := 7) (v := .int x4) (ty := .int) (C := RX7) (T := TX7) (N := 7) hx hb hts hin7 tyX7 tyX7_ok nmX7 hown hK hP2 hD2 hS2 0 rfl rfl 6 (by decide) (hts (.fieldLink RX7 26 "OldestCoins$Tour" "till" "I") (List.mem_of_getElem? (i := 3) rfl)) (fun _ h9 => h9) rfl (by decide +kernel) rfl rfl (Nat.le_of_ble_eq_true rfl) dX7_begin_13 (fun H3 locs3 hP3 hD3 hS3 => ?_)
  have hP3 : va_P (dC, dI) vwCl (zc_7 a1 k1 (x1, s1.2.1, s1.2.2.1, s1.2.2.2.1, s1.2.2.2.2.1, x2, x4)) H3 := hP3
  have hD3 : va_D A (zc_7 a1 k1 (x1, s1.2.1, s1.2.2.1, s1.2.2.2.1, s1.2.2.2.2.1, x2, x4)) := hD3
  clear hP2 hD2 hS2
  refine lv_aload_n hx hb dX7_begin_16 rfl (lv_at hl 0 rfl) ?_
  refine lv_iload hx hb dX7_begin_17 (lv_at hl 4 rfl) ?_
  refine va_put (D := (dC, dI)) (ci := 7) (v := .int x5) (ty := .int) (C := RX7) (T := TX7) (N := 7) hx hb hts hin7 tyX7 tyX7_ok nmX7 hown hK hP3 hD3 hS3 0 rfl rfl 1 (by decide) (hts (.fieldLink RX7 29 "OldestCoins$Tour" "best" "I") (List.mem_of_getElem? (i := 4) rfl)) (fun _ h9 => h9) rfl (by decide +kernel) rfl rfl (Nat.le_of_ble_eq_true rfl) dX7_begin_19 (fun H4 locs4 hP4 hD4 hS4 => ?_)
  have hP4 : va_P (dC, dI) vwCl (zc_7 a1 k1 (x1, x5, s1.2.2.1, s1.2.2.2.1, s1.2.2.2.2.1, x2, x4)) H4 := hP4
  have hD4 : va_D A (zc_7 a1 k1 (x1, x5, s1.2.2.1, s1.2.2.2.1, s1.2.2.2.2.1, x2, x4)) := hD4
  clear hP3 hD3 hS3
  refine lv_aload_n hx hb dX7_begin_22 rfl (lv_at hl 0 rfl) ?_
  refine lv_iload hx hb dX7_begin_23 (lv_at hl 5 rfl) ?_
  refine va_put (D := (dC, dI)) (ci := 7) (v := .int x6) (ty := .int) (C := RX7) (T := TX7) (N := 7) hx hb hts hin7 tyX7 tyX7_ok nmX7 hown hK hP4 hD4 hS4 0 rfl rfl 2 (by decide) (hts (.fieldLink RX7 32 "OldestCoins$Tour" "enough" "I") (List.mem_of_getElem? (i := 5) rfl)) (fun _ h9 => h9) rfl (by decide +kernel) rfl rfl (Nat.le_of_ble_eq_true rfl) dX7_begin_25 (fun H5 locs5 hP5 hD5 hS5 => ?_)
  have hP5 : va_P (dC, dI) vwCl (zc_7 a1 k1 (x1, x5, x6, s1.2.2.2.1, s1.2.2.2.2.1, x2, x4)) H5 := hP5
  have hD5 : va_D A (zc_7 a1 k1 (x1, x5, x6, s1.2.2.2.1, s1.2.2.2.2.1, x2, x4)) := hD5
  clear hP4 hD4 hS4
  subst hQe
  exact W.vret hx hb hr (fun t ht hW => ⟨⟨(x1, x5, x6, s1.2.2.2.1, s1.2.2.2.2.1, x2, x4), rfl, (Option.some.inj hR).symm, by rw [ht]; exact hP5, va_K.moved hW.alike hK, hD5⟩, hS5.F ht⟩) hS5.2.2 dX7_begin_28
