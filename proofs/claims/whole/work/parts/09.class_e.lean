def rr_X9_runDay_t_15_b (fu : Nat) (rec6 : Int32 → Int32 → Int32 → ZT_9 → Option (Int32 × ZT_9)) (rec15 : Int32 → Int32 → Int32 → Int32 → ZT_9 → Option (Int32 × ZT_9)) (y3 : Int32) (y4 : Int32) (y5 : Int32) (y6 : Int32) (u1 : ZT_9) : Option (Int32 × ZT_9) := (if u1.1.2.2.1.1 ≤ y6 then lt_ (α := Int32) (y5 + (1 : Int32)) (fun z6 => rec6 y3 y4 z6 u1) else (rr_X9_runBill_t fu y6 u1).bind (fun q7 => (if q7.1 = (0 : Int32) then some (y4, q7.2) else lt_ (α := Int32) (y4 + (1 : Int32)) (fun z9 => lt_ (α := Int32) (y6 + (1 : Int32)) (fun z10 => rec15 y3 z9 y5 z10 q7.2)))))
def rr_X9_runDay_t_15 (fu : Nat) (rec6 : Int32 → Int32 → Int32 → ZT_9 → Option (Int32 × ZT_9)) (n : Nat) : Int32 → Int32 → Int32 → Int32 → ZT_9 → Option (Int32 × ZT_9) := lp_ (fun _ _ _ _ _ => none) (rr_X9_runDay_t_15_b fu rec6) n
def rr_X9_runDay_t_6_b (fu : Nat) (rec6 : Int32 → Int32 → Int32 → ZT_9 → Option (Int32 × ZT_9)) (y3 : Int32) (y4 : Int32) (y5 : Int32) (u1 : ZT_9) : Option (Int32 × ZT_9) := (if y3 ≤ y5 then some (y4, u1) else rr_X9_runDay_t_15 fu rec6 fu y3 y4 y5 (0 : Int32) u1)
def rr_X9_runDay_t_6 (fu : Nat) (n : Nat) : Int32 → Int32 → Int32 → ZT_9 → Option (Int32 × ZT_9) := lp_ (fun _ _ _ _ => none) (rr_X9_runDay_t_6_b fu) n
def rr_X9_runDay_t (fu : Nat) (x3 : Int32) (s1 : ZT_9) : Option (Int32 × ZT_9) := rr_X9_runDay_t_6 fu fu x3 (0 : Int32) (0 : Int32) s1
set_option maxHeartbeats 4000000 in
set_option maxRecDepth 100000 in
theorem cc_X9_runDay_t (l : Launch) (dC : Nat → ClassId) (dI : Nat → Nat → Nat) (fu : Nat) (a1 : Nat → Nat) (k1 : Nat → ClassId) (sz : Nat) (x3 : Int32) (s1 : ZT_9) (res : Int32 × ZT_9) (hR : rr_X9_runDay_t fu x3 s1 = some res) : Met l yX9_runDay wsX9_runDay ({ frames := 6, cells := 0, slots := 0, locals := 142 } : Room) (PcF [.ref (a1 0), .ref (a1 45), .ref (a1 37), .int x3] sz (dC, dI) (zc_9 a1 k1 s1) (zt_9 k1)) (va_Qi (fun (r : Int32) (u : ZT_9) => res = (r, u)) (fun u t => at3_ (dC, dI) (zc_9 a1 k1 u) (zt_9 k1) (va_A (zc_9 a1 k1 s1) sz) t) (va_A (zc_9 a1 k1 s1) sz)) 0 0 (va_A (zc_9 a1 k1 s1) sz) := by
  refine Met.ofW (cc := cX9_runDay) (maxL := 7) (ret := (some .int)) (by decide) rfl ?_
  intro p e s m args below meth c s₁ B hml hv
  obtain ⟨hav, hsz, hP, hK, hD0⟩ := hv
  have hx := B.exec
  have hb := B.bytes
  have hr := B.returns
  have hts := atoms_spec (ws := wsX9_runDay) B.pre
  have hown : s.vm.findClass RX9 = some m.cls := findClass_of_methodNamed B.named
  have hlocks := B.notSynchronized
  have hin0 : ∀ w ∈ wsX00, w ∈ wsX9_runDay := fun w h => List.mem_cons_of_mem _ (List.mem_append_left _ (List.mem_append_left _ (List.mem_append_right _ h)))
  have hin8 : ∀ w ∈ wsX80, w ∈ wsX9_runDay := fun w h => List.mem_cons_of_mem _ (List.mem_append_left _ (List.mem_append_left _ (List.mem_append_left _ (List.mem_append_right _ h))))
  have hin9 : ∀ w ∈ wsX90, w ∈ wsX9_runDay := fun w h => List.mem_cons_of_mem _ (List.mem_append_left _ (List.mem_append_left _ (List.mem_append_left _ (List.mem_append_left _ (List.mem_append_right _ h)))))
  subst hsz
  have hD := hD0.self (sz := s.heap.size)
  clear hD0
  generalize hAe : va_A (zc_9 a1 k1 s1) s.heap.size = A at hD ⊢
  have hA : ∀ q : Nat, s.heap.size ≤ q → A q := fun q h => by rw [← hAe]; exact Or.inr h
  have hS : va_S A s.heap s.heap [] := va_S.rf
  generalize hQe : MQ below _ args s 0 0 A = Q
  rw [show entryFrame m args 7 = F0 m 0 ((lg_sl ([.ref (a1 0), .ref (a1 45), .ref (a1 37), .int x3]) ++ List.replicate (7 - (lg_sl ([.ref (a1 0), .ref (a1 45), .ref (a1 37), .int x3])).length) Slot.unset).toArray) [] from by rw [hav]; exact lg_entry_eq m _ _]
  have hl := lv_entry ([.ref (a1 0), .ref (a1 45), .ref (a1 37), .int x3]) (n := 7) (Nat.le_of_ble_eq_true rfl)
  generalize (lg_sl ([.ref (a1 0), .ref (a1 45), .ref (a1 37), .int x3]) ++ List.replicate (7 - (lg_sl ([.ref (a1 0), .ref (a1 45), .ref (a1 37), .int x3])).length) Slot.unset).toArray = ls at hl ⊢
  have hl : lv_has ls 7 [(0, .ref (a1 0)), (1, .ref (a1 45)), (2, .ref (a1 37)), (3, .int x3)] := hl
  have hB15 : ∀ (rec6 : Int32 → Int32 → Int32 → ZT_9 → Option (Int32 × ZT_9)) (hrec6 : ∀ (y3 : Int32) (y4 : Int32) (y5 : Int32) (u1 : ZT_9) (H : Heap) (locs : List Loc) (ls : Array Slot), va_P (dC, dI) vwCl (zc_9 a1 k1 u1) H → va_D A (zc_9 a1 k1 u1) → va_S A s.heap H locs → lv_has ls 7 [(0, .ref (a1 0)), (1, .ref (a1 45)), (2, .ref (a1 37)), (3, .int y3), (4, .int y4), (5, .int y5)] → rec6 y3 y4 y5 u1 = some res → W p l e ({ frames := 6, cells := 0, slots := 0, locals := 142 } : Room) s m args below meth c H locs 0 0 Q (F0 m 6 ls [])), ∀ (n : Nat), ∀ (y3 : Int32) (y4 : Int32) (y5 : Int32) (y6 : Int32) (u1 : ZT_9) (H : Heap) (locs : List Loc) (ls : Array Slot), va_P (dC, dI) vwCl (zc_9 a1 k1 u1) H → va_D A (zc_9 a1 k1 u1) → va_S A s.heap H locs → lv_has ls 7 [(0, .ref (a1 0)), (1, .ref (a1 45)), (2, .ref (a1 37)), (3, .int y3), (4, .int y4), (5, .int y5), (6, .int y6)] → rr_X9_runDay_t_15 fu rec6 n y3 y4 y5 y6 u1 = some res → W p l e ({ frames := 6, cells := 0, slots := 0, locals := 142 } : Room) s m args below meth c H locs 0 0 Q (F0 m 15 ls []) := by
    intro rec6 hrec6 n
    induction n with
    | zero => intro y3 y4 y5 y6 u1 H locs ls hP hD hS hl hR; exact absurd hR (by intro h; cases h)
    | succ n ih =>
      intro y3 y4 y5 y6 u1 H locs ls hP hD hS hl hR
      replace hR : rr_X9_runDay_t_15_b fu rec6 (rr_X9_runDay_t_15 fu rec6 n) y3 y4 y5 y6 u1 = some res := hR
      unfold rr_X9_runDay_t_15_b at hR
      refine lv_iload hx hb dX9_runDay_15 (lv_at hl 6 rfl) ?_
      refine lv_aload_n hx hb dX9_runDay_17 rfl (lv_at hl 0 rfl) ?_
      refine va_get (D := (dC, dI)) (ci := 9) (v := .ref (a1 1)) (C := RX9) (T := TX9) (N := 14) hx hb hts hin9 hown hK hP 0 rfl rfl 0 (by decide) (hts (.fieldLink RX9 10 "OldestCoins" "town" "LOldestCoins$Town;") (List.mem_of_getElem? (i := 1) rfl)) (fun _ h9 => h9) rfl dX9_runDay_18 ?_
      refine va_get (D := (dC, dI)) (ci := 8) (v := .ref (a1 8)) (C := RX8) (T := TX8) (N := 4) hx hb hts hin8 hown hK hP 1 rfl rfl 2 (by decide) (hts (.fieldLink RX9 187 "OldestCoins$Town" "day" "LOldestCoins$Bills;") (List.mem_of_getElem? (i := 2) rfl)) (fun _ h9 => h9) rfl dX9_runDay_21 ?_
      refine va_get (D := (dC, dI)) (ci := 0) (v := .int u1.1.2.2.1.1) (C := RX0) (T := TX0) (N := 4) hx hb hts hin0 hown hK hP 8 rfl rfl 0 (by decide) (hts (.fieldLink RX9 193 "OldestCoins$Bills" "size" "I") (List.mem_of_getElem? (i := 3) rfl)) (fun _ h9 => h9) rfl dX9_runDay_24 ?_
      refine lv_icmp_ge (tgt := 53) hx hb dX9_runDay_27 (by decide) (fun c5 => ?_) (fun c5 => ?_)
      · replace hR := ifp_ hR c5
        obtain ⟨z6, ez6⟩ : ∃ y : Int32, y = (y5 + (1 : Int32)) := ⟨_, rfl⟩
        replace hR := lt_ok hR ez6
        refine lv_iinc (v := z6) (lv' := [(5, .int z6), (0, .ref (a1 0)), (1, .ref (a1 45)), (2, .ref (a1 37)), (3, .int y3), (4, .int y4), (6, .int y6)]) hx hb dX9_runDay_53 hl (k := 5) rfl (by rw [ez6]; rfl) (by decide) rfl (fun ls6 hl6 => ?_)
        refine lv_goto (tgt := 6) hx hb dX9_runDay_56 (by decide) ?_
        exact hrec6 y3 y4 z6 u1 H locs ls6 hP hD hS (lv_sub hl6 [1, 2, 3, 4, 5, 0] rfl) hR
      · replace hR := ifn_ hR c5
        refine lv_aload_n hx hb dX9_runDay_30 rfl (lv_at hl 0 rfl) ?_
        refine lv_aload_n hx hb dX9_runDay_31 rfl (lv_at hl 1 rfl) ?_
        refine lv_aload_n hx hb dX9_runDay_32 rfl (lv_at hl 2 rfl) ?_
        refine lv_iload hx hb dX9_runDay_33 (lv_at hl 6 rfl) ?_
        have hR0 := ob_ok hR
        clear hR
        obtain ⟨q7, hq7, hR⟩ := hR0
        refine va_calli (va_runV (As := [.ref (a1 45), .ref (a1 37), .int y6]) (rest := []) ⟨hx, hb, hml, hown, hts⟩ (cc_X9_runBill_t l dC dI fu a1 k1 H.size y6 u1 q7 hq7) (cwV 3 hts gX9_runDay_X9_runBill rfl rfl rfl (by decide +kernel) ⟨Nat.le_of_ble_eq_true rfl, Nat.le_of_ble_eq_true rfl⟩) (pf_v hK hP hD 9 0 rfl rfl rfl) rfl rfl hl.1 rfl (lv_room (Nat.le_of_ble_eq_true rfl)) dX9_runDay_35 ⟨Nat.le_refl _, Nat.le_refl _⟩) hS (fun q _ h => (fr_all hD hS hA) q h) (fr_all hD hS hA) (fun r7 v7 t7 H7 locs7 ht7 hvm7 hw7 hB7 hz7 hk7 hS7 => ?_)
        obtain rfl : r7 = q7.1 := (congrArg Prod.fst hw7).symm
        obtain rfl : v7 = q7.2 := (congrArg Prod.snd hw7).symm
        obtain ⟨hP7, hD7⟩ := jn_all hD hS hA ht7 hB7
        have hP7 : va_P (dC, dI) vwCl (zc_9 a1 k1 q7.2) H7 := hP7
        have hD7 : va_D A (zc_9 a1 k1 q7.2) := hD7
        clear hP hD hS hB7 hk7 hvm7 hz7 ht7
        refine lv_if_ne (tgt := 44) hx hb dX9_runDay_38 (by decide) (fun c8 => ?_) (fun c8 => ?_)
        · replace hR := ifn_ hR c8
          obtain ⟨z9, ez9⟩ : ∃ y : Int32, y = (y4 + (1 : Int32)) := ⟨_, rfl⟩
          replace hR := lt_ok hR ez9
          refine lv_iinc (v := z9) (lv' := [(4, .int z9), (0, .ref (a1 0)), (1, .ref (a1 45)), (2, .ref (a1 37)), (3, .int y3), (5, .int y5), (6, .int y6)]) hx hb dX9_runDay_44 hl (k := 4) rfl (by rw [ez9]; rfl) (by decide) rfl (fun ls9 hl9 => ?_)
          obtain ⟨z10, ez10⟩ : ∃ y : Int32, y = (y6 + (1 : Int32)) := ⟨_, rfl⟩
          replace hR := lt_ok hR ez10
          refine lv_iinc (v := z10) (lv' := [(6, .int z10), (4, .int z9), (0, .ref (a1 0)), (1, .ref (a1 45)), (2, .ref (a1 37)), (3, .int y3), (5, .int y5)]) hx hb dX9_runDay_47 hl9 (k := 6) rfl (by rw [ez10]; rfl) (by decide) rfl (fun ls10 hl10 => ?_)
          refine lv_goto (tgt := 15) hx hb dX9_runDay_50 (by decide) ?_
          exact ih y3 z9 y5 z10 q7.2 H7 locs7 ls10 hP7 hD7 hS7 (lv_sub hl10 [2, 3, 4, 5, 1, 6, 0] rfl) hR
        · replace hR := ifp_ hR c8
          refine lv_iload hx hb dX9_runDay_41 (lv_at hl 4 rfl) ?_
          subst hQe
          exact W.iret (v := y4) hx hb hr (fun t ht hW => ⟨⟨y4, q7.2, rfl, (Option.some.inj hR).symm, by rw [ht]; exact hP7, va_K.moved hW.alike hK, hD7⟩, hS7.F ht⟩) hS7.2.2 dX9_runDay_43
  have hB6 : ∀ (n : Nat), ∀ (y3 : Int32) (y4 : Int32) (y5 : Int32) (u1 : ZT_9) (H : Heap) (locs : List Loc) (ls : Array Slot), va_P (dC, dI) vwCl (zc_9 a1 k1 u1) H → va_D A (zc_9 a1 k1 u1) → va_S A s.heap H locs → lv_has ls 7 [(0, .ref (a1 0)), (1, .ref (a1 45)), (2, .ref (a1 37)), (3, .int y3), (4, .int y4), (5, .int y5)] → rr_X9_runDay_t_6 fu n y3 y4 y5 u1 = some res → W p l e ({ frames := 6, cells := 0, slots := 0, locals := 142 } : Room) s m args below meth c H locs 0 0 Q (F0 m 6 ls []) := by
    intro  n
    induction n with
    | zero => intro y3 y4 y5 u1 H locs ls hP hD hS hl hR; exact absurd hR (by intro h; cases h)
    | succ n ih =>
      intro y3 y4 y5 u1 H locs ls hP hD hS hl hR
      replace hR : rr_X9_runDay_t_6_b fu (rr_X9_runDay_t_6 fu n) y3 y4 y5 u1 = some res := hR
      unfold rr_X9_runDay_t_6_b at hR
      refine lv_iload hx hb dX9_runDay_6 (lv_at hl 5 rfl) ?_
      refine lv_iload_n hx hb dX9_runDay_8 rfl (lv_at hl 3 rfl) ?_
      refine lv_icmp_ge (tgt := 59) hx hb dX9_runDay_9 (by decide) (fun c3 => ?_) (fun c3 => ?_)
      · replace hR := ifp_ hR c3
        refine lv_iload hx hb dX9_runDay_59 (lv_at hl 4 rfl) ?_
        subst hQe
        exact W.iret (v := y4) hx hb hr (fun t ht hW => ⟨⟨y4, u1, rfl, (Option.some.inj hR).symm, by rw [ht]; exact hP, va_K.moved hW.alike hK, hD⟩, hS.F ht⟩) hS.2.2 dX9_runDay_61
      · replace hR := ifn_ hR c3
        refine lv_iconst (v := (0 : Int32)) hx hb dX9_runDay_12 (by decide) ?_
        refine lv_istore (lv' := [(6, .int (0 : Int32)), (0, .ref (a1 0)), (1, .ref (a1 45)), (2, .ref (a1 37)), (3, .int y3), (4, .int y4), (5, .int y5)]) hx hb dX9_runDay_13 hl (by decide) rfl (fun ls4 hl4 => ?_)
        exact hB15 (rr_X9_runDay_t_6 fu n) ih fu y3 y4 y5 (0 : Int32) u1 H locs ls4 hP hD hS (lv_sub hl4 [1, 2, 3, 4, 5, 6, 0] rfl) hR
  unfold rr_X9_runDay_t at hR
  refine lv_iconst (v := (0 : Int32)) hx hb dX9_runDay_0 (by decide) ?_
  refine lv_istore (lv' := [(4, .int (0 : Int32)), (0, .ref (a1 0)), (1, .ref (a1 45)), (2, .ref (a1 37)), (3, .int x3)]) hx hb dX9_runDay_1 hl (by decide) rfl (fun ls1 hl1 => ?_)
  refine lv_iconst (v := (0 : Int32)) hx hb dX9_runDay_3 (by decide) ?_
  refine lv_istore (lv' := [(5, .int (0 : Int32)), (4, .int (0 : Int32)), (0, .ref (a1 0)), (1, .ref (a1 45)), (2, .ref (a1 37)), (3, .int x3)]) hx hb dX9_runDay_4 hl1 (by decide) rfl (fun ls2 hl2 => ?_)
  exact hB6 fu x3 (0 : Int32) (0 : Int32) s1 s.heap [] ls2 hP hD hS (lv_sub hl2 [2, 3, 4, 5, 1, 0] rfl) hR
def rr_X9_gain (fu : Nat) (x1 : Int32) (x2 : Int32) (x3 : Int32) (s1 : ZT_9) : Option (Int32 × ZT_9) := (rr_X9_isPurse fu x1).bind (fun q1 => (if q1 = (0 : Int32) then some ((-100001 : Int32), s1) else (rr_X9_isCoin fu x2 s1).bind (fun q3 => (if q3 = (0 : Int32) then some ((-100001 : Int32), s1) else (rr_X9_isYear fu x3).bind (fun q5 => (if q5 = (0 : Int32) then some ((-100001 : Int32), s1) else (rr_X9_layOut fu s1).bind (fun q7 => (rr_X9_layOutForged fu x2 x3 q7).bind (fun q8 => (rr_X9_runDay_b fu (1 : Int32) q8).bind (fun q9 => (rr_X9_runDay_t fu (1 : Int32) q9.2).bind (fun q10 => ck_ x1 8 ((rr_X4_worthOf fu (q10.2.2.2.2.2.2.2.2.1.1 x1.toNatClampNeg) q10.2.2.2.2.2.2.1).bind (fun q12 => ck_ x1 8 ((rr_X4_worthOf fu (q10.2.2.2.2.2.2.2.1.1 x1.toNatClampNeg) q10.2.2.2.2.1).bind (fun q14 => some ((q12 - q14), q10.2)))))))))))))))
set_option maxHeartbeats 4000000 in
set_option maxRecDepth 100000 in
theorem cc_X9_gain (l : Launch) (dC : Nat → ClassId) (dI : Nat → Nat → Nat) (fu : Nat) (a1 : Nat → Nat) (k1 : Nat → ClassId) (sz : Nat) (x1 : Int32) (x2 : Int32) (x3 : Int32) (s1 : ZT_9) (res : Int32 × ZT_9) (hR : rr_X9_gain fu x1 x2 x3 s1 = some res) : Met l yX9_gain wsX9_gain ({ frames := 7, cells := 0, slots := 0, locals := 168 } : Room) (PcF [.ref (a1 0), .int x1, .int x2, .int x3] sz (dC, dI) (zc_9 a1 k1 s1) (zt_9 k1)) (va_Qi (fun (r : Int32) (u : ZT_9) => res = (r, u)) (fun u t => at3_ (dC, dI) (zc_9 a1 k1 u) (zt_9 k1) (va_A (zc_9 a1 k1 s1) sz) t) (va_A (zc_9 a1 k1 s1) sz)) 0 0 (va_A (zc_9 a1 k1 s1) sz) := by
  refine Met.ofW (cc := cX9_gain) (maxL := 4) (ret := (some .int)) (by decide) rfl ?_
  intro p e s m args below meth c s₁ B hml hv
  obtain ⟨hav, hsz, hP, hK, hD0⟩ := hv
  have hx := B.exec
  have hb := B.bytes
  have hr := B.returns
  have hts := atoms_spec (ws := wsX9_gain) B.pre
  have hown : s.vm.findClass RX9 = some m.cls := findClass_of_methodNamed B.named
  have hlocks := B.notSynchronized
  have hin1 : ∀ w ∈ wsX10, w ∈ wsX9_gain := fun w h => List.mem_cons_of_mem _ (List.mem_append_left _ (List.mem_append_left _ (List.mem_append_left _ (List.mem_append_left _ (List.mem_append_right _ h)))))
  have hin9 : ∀ w ∈ wsX90, w ∈ wsX9_gain := fun w h => List.mem_cons_of_mem _ (List.mem_append_left _ (List.mem_append_left _ (List.mem_append_left _ (List.mem_append_left _ (List.mem_append_left _ (List.mem_append_right _ h))))))
  subst hsz
  have hD := hD0.self (sz := s.heap.size)
  clear hD0
  generalize hAe : va_A (zc_9 a1 k1 s1) s.heap.size = A at hD ⊢
  have hA : ∀ q : Nat, s.heap.size ≤ q → A q := fun q h => by rw [← hAe]; exact Or.inr h
  have hS : va_S A s.heap s.heap [] := va_S.rf
  generalize hQe : MQ below _ args s 0 0 A = Q
  rw [show entryFrame m args 4 = F0 m 0 ((lg_sl ([.ref (a1 0), .int x1, .int x2, .int x3]) ++ List.replicate (4 - (lg_sl ([.ref (a1 0), .int x1, .int x2, .int x3])).length) Slot.unset).toArray) [] from by rw [hav]; exact lg_entry_eq m _ _]
  have hl := lv_entry ([.ref (a1 0), .int x1, .int x2, .int x3]) (n := 4) (Nat.le_of_ble_eq_true rfl)
  generalize (lg_sl ([.ref (a1 0), .int x1, .int x2, .int x3]) ++ List.replicate (4 - (lg_sl ([.ref (a1 0), .int x1, .int x2, .int x3])).length) Slot.unset).toArray = ls at hl ⊢
  have hl : lv_has ls 4 [(0, .ref (a1 0)), (1, .int x1), (2, .int x2), (3, .int x3)] := hl
  unfold rr_X9_gain at hR
  refine lv_iload_n hx hb dX9_gain_0 rfl (lv_at hl 1 rfl) ?_
  have hR0 := ob_ok hR
  clear hR
  obtain ⟨q1, hq1, hR⟩ := hR0
  refine va_calli (va_runS (As := [.int x1]) (rest := []) ⟨hx, hb, hml, hown, hts⟩ (cc_X9_isPurse l dC dI fu s.heap.size x1 q1 hq1) (va_cwS 1 hts gX9_gain_X9_isPurse rfl rfl rfl (by decide +kernel) ⟨Nat.le_of_ble_eq_true rfl, Nat.le_of_ble_eq_true rfl⟩) (pf_s (nil_K hK) nil_P (nil_D (A := A))) rfl rfl hl.1 rfl (lv_room (Nat.le_of_ble_eq_true rfl)) dX9_gain_1 ⟨Nat.le_refl _, Nat.le_refl _⟩) hS (fun q _ h => (fr_none hS hA) q h) (fr_none hS hA) (fun r1 v1 t1 H1 locs1 ht1 hvm1 hw1 hB1 hz1 hk1 hS1 => ?_)
  subst hw1
  have hP1 := jn_none hP hk1
  have hD1 := hD
  have hP1 : va_P (dC, dI) vwCl (zc_9 a1 k1 s1) H1 := hP1
  have hD1 : va_D A (zc_9 a1 k1 s1) := hD1
  clear hP hD hS hB1 hk1 hvm1 hz1 ht1
  refine lv_if_eq (tgt := 22) hx hb dX9_gain_4 (by decide) (fun c2 => ?_) (fun c2 => ?_)
  · replace hR := ifp_ hR c2
    refine lv_ldcw (v := (-100001 : Int32)) hx hb hown (hts (.constant RX9 271 (-100001)) (List.mem_of_getElem? (i := 1) rfl)) dX9_gain_22 ?_
    subst hQe
    exact W.iret (v := (-100001 : Int32)) hx hb hr (fun t ht hW => ⟨⟨(-100001 : Int32), s1, rfl, (Option.some.inj hR).symm, by rw [ht]; exact hP1, va_K.moved hW.alike hK, hD1⟩, hS1.F ht⟩) hS1.2.2 dX9_gain_25
  · replace hR := ifn_ hR c2
    refine lv_aload_n hx hb dX9_gain_7 rfl (lv_at hl 0 rfl) ?_
    refine lv_iload_n hx hb dX9_gain_8 rfl (lv_at hl 2 rfl) ?_
    have hR0 := ob_ok hR
    clear hR
    obtain ⟨q3, hq3, hR⟩ := hR0
    refine va_calli (va_runV (As := [.int x2]) (rest := []) ⟨hx, hb, hml, hown, hts⟩ (cc_X9_isCoin l dC dI fu a1 k1 H1.size x2 s1 q3 hq3) (cwV 1 hts gX9_gain_X9_isCoin rfl rfl rfl (by decide +kernel) ⟨Nat.le_of_ble_eq_true rfl, Nat.le_of_ble_eq_true rfl⟩) (pf_v hK hP1 hD1 9 0 rfl rfl rfl) rfl rfl hl.1 rfl (lv_room (Nat.le_of_ble_eq_true rfl)) dX9_gain_9 ⟨Nat.le_refl _, Nat.le_refl _⟩) hS1 (fun q _ h => (fr_all hD1 hS1 hA) q h) (fr_all hD1 hS1 hA) (fun r3 v3 t3 H3 locs3 ht3 hvm3 hw3 hB3 hz3 hk3 hS3 => ?_)
    subst hw3
    obtain ⟨hP3, hD3⟩ := jn_all hD1 hS1 hA ht3 hB3
    have hP3 : va_P (dC, dI) vwCl (zc_9 a1 k1 s1) H3 := hP3
    have hD3 : va_D A (zc_9 a1 k1 s1) := hD3
    clear hP1 hD1 hS1 hB3 hk3 hvm3 hz3 ht3
    refine lv_if_eq (tgt := 22) hx hb dX9_gain_12 (by decide) (fun c4 => ?_) (fun c4 => ?_)
    · replace hR := ifp_ hR c4
      refine lv_ldcw (v := (-100001 : Int32)) hx hb hown (hts (.constant RX9 271 (-100001)) (List.mem_of_getElem? (i := 1) rfl)) dX9_gain_22 ?_
      subst hQe
      exact W.iret (v := (-100001 : Int32)) hx hb hr (fun t ht hW => ⟨⟨(-100001 : Int32), s1, rfl, (Option.some.inj hR).symm, by rw [ht]; exact hP3, va_K.moved hW.alike hK, hD3⟩, hS3.F ht⟩) hS3.2.2 dX9_gain_25
    · replace hR := ifn_ hR c4
      refine lv_iload_n hx hb dX9_gain_15 rfl (lv_at hl 3 rfl) ?_
      have hR0 := ob_ok hR
      clear hR
      obtain ⟨q5, hq5, hR⟩ := hR0
      refine va_calli (va_runS (As := [.int x3]) (rest := []) ⟨hx, hb, hml, hown, hts⟩ (cc_X9_isYear l dC dI fu H3.size x3 q5 hq5) (va_cwS 1 hts gX9_gain_X9_isYear rfl rfl rfl (by decide +kernel) ⟨Nat.le_of_ble_eq_true rfl, Nat.le_of_ble_eq_true rfl⟩) (pf_s (nil_K hK) nil_P (nil_D (A := A))) rfl rfl hl.1 rfl (lv_room (Nat.le_of_ble_eq_true rfl)) dX9_gain_16 ⟨Nat.le_refl _, Nat.le_refl _⟩) hS3 (fun q _ h => (fr_none hS3 hA) q h) (fr_none hS3 hA) (fun r5 v5 t5 H5 locs5 ht5 hvm5 hw5 hB5 hz5 hk5 hS5 => ?_)
      subst hw5
      have hP5 := jn_none hP3 hk5
      have hD5 := hD3
      have hP5 : va_P (dC, dI) vwCl (zc_9 a1 k1 s1) H5 := hP5
      have hD5 : va_D A (zc_9 a1 k1 s1) := hD5
      clear hP3 hD3 hS3 hB5 hk5 hvm5 hz5 ht5
      refine lv_if_ne (tgt := 26) hx hb dX9_gain_19 (by decide) (fun c6 => ?_) (fun c6 => ?_)
      · replace hR := ifn_ hR c6
        refine lv_aload_n hx hb dX9_gain_26 rfl (lv_at hl 0 rfl) ?_
        have hR0 := ob_ok hR
        clear hR
        obtain ⟨q7, hq7, hR⟩ := hR0
        refine va_callv (va_runV (As := []) (rest := []) ⟨hx, hb, hml, hown, hts⟩ (cc_X9_layOut l dC dI fu a1 k1 H5.size s1 q7 hq7) (cwV 0 hts gX9_gain_X9_layOut rfl rfl rfl (by decide +kernel) ⟨Nat.le_of_ble_eq_true rfl, Nat.le_of_ble_eq_true rfl⟩) (pf_v hK hP5 hD5 9 0 rfl rfl rfl) rfl rfl hl.1 rfl (lv_room (Nat.le_of_ble_eq_true rfl)) dX9_gain_27 ⟨Nat.le_refl _, Nat.le_refl _⟩) hS5 (fun q _ h => (fr_all hD5 hS5 hA) q h) (fr_all hD5 hS5 hA) (fun v7 t7 H7 locs7 ht7 hvm7 hw7 hB7 hz7 hk7 hS7 => ?_)
        subst hw7
        obtain ⟨hP7, hD7⟩ := jn_all hD5 hS5 hA ht7 hB7
        have hP7 : va_P (dC, dI) vwCl (zc_9 a1 k1 q7) H7 := hP7
        have hD7 : va_D A (zc_9 a1 k1 q7) := hD7
        clear hP5 hD5 hS5 hB7 hk7 hvm7 hz7 ht7
        refine lv_aload_n hx hb dX9_gain_30 rfl (lv_at hl 0 rfl) ?_
        refine lv_iload_n hx hb dX9_gain_31 rfl (lv_at hl 2 rfl) ?_
        refine lv_iload_n hx hb dX9_gain_32 rfl (lv_at hl 3 rfl) ?_
        have hR0 := ob_ok hR
        clear hR
        obtain ⟨q8, hq8, hR⟩ := hR0
        refine va_callv (va_runV (As := [.int x2, .int x3]) (rest := []) ⟨hx, hb, hml, hown, hts⟩ (cc_X9_layOutForged l dC dI fu a1 k1 H7.size x2 x3 q7 q8 hq8) (cwV 2 hts gX9_gain_X9_layOutForged rfl rfl rfl (by decide +kernel) ⟨Nat.le_of_ble_eq_true rfl, Nat.le_of_ble_eq_true rfl⟩) (pf_v hK hP7 hD7 9 0 rfl rfl rfl) rfl rfl hl.1 rfl (lv_room (Nat.le_of_ble_eq_true rfl)) dX9_gain_33 ⟨Nat.le_refl _, Nat.le_refl _⟩) hS7 (fun q _ h => (fr_all hD7 hS7 hA) q h) (fr_all hD7 hS7 hA) (fun v8 t8 H8 locs8 ht8 hvm8 hw8 hB8 hz8 hk8 hS8 => ?_)
        subst hw8
        obtain ⟨hP8, hD8⟩ := jn_all hD7 hS7 hA ht8 hB8
        have hP8 : va_P (dC, dI) vwCl (zc_9 a1 k1 q8) H8 := hP8
        have hD8 : va_D A (zc_9 a1 k1 q8) := hD8
        clear hP7 hD7 hS7 hB8 hk8 hvm8 hz8 ht8
        refine lv_aload_n hx hb dX9_gain_36 rfl (lv_at hl 0 rfl) ?_
        refine lv_aload_n hx hb dX9_gain_37 rfl (lv_at hl 0 rfl) ?_
        refine va_get (D := (dC, dI)) (ci := 9) (v := .ref (a1 43)) (C := RX9) (T := TX9) (N := 14) hx hb hts hin9 hown hK hP8 0 rfl rfl 6 (by decide) (hts (.fieldLink RX9 36 "OldestCoins" "board" "LOldestCoins$Board;") (List.mem_of_getElem? (i := 2) rfl)) (fun _ h9 => h9) rfl dX9_gain_38 ?_
        refine lv_aload_n hx hb dX9_gain_41 rfl (lv_at hl 0 rfl) ?_
        refine va_get (D := (dC, dI)) (ci := 9) (v := .ref (a1 31)) (C := RX9) (T := TX9) (N := 14) hx hb hts hin9 hown hK hP8 0 rfl rfl 3 (by decide) (hts (.fieldLink RX9 22 "OldestCoins" "ranks" "LOldestCoins$Ranks;") (List.mem_of_getElem? (i := 3) rfl)) (fun _ h9 => h9) rfl dX9_gain_42 ?_
        refine lv_iconst (v := (1 : Int32)) hx hb dX9_gain_45 (by decide) ?_
        have hR0 := ob_ok hR
        clear hR
        obtain ⟨q9, hq9, hR⟩ := hR0
        refine va_calli (va_runV (As := [.ref (a1 43), .ref (a1 31), .int (1 : Int32)]) (rest := []) ⟨hx, hb, hml, hown, hts⟩ (cc_X9_runDay_b l dC dI fu a1 k1 H8.size (1 : Int32) q8 q9 hq9) (cwV 3 hts gX9_gain_X9_runDay rfl rfl rfl (by decide +kernel) ⟨Nat.le_of_ble_eq_true rfl, Nat.le_of_ble_eq_true rfl⟩) (pf_v hK hP8 hD8 9 0 rfl rfl rfl) rfl rfl hl.1 rfl (lv_room (Nat.le_of_ble_eq_true rfl)) dX9_gain_46 ⟨Nat.le_refl _, Nat.le_refl _⟩) hS8 (fun q _ h => (fr_all hD8 hS8 hA) q h) (fr_all hD8 hS8 hA) (fun r9 v9 t9 H9 locs9 ht9 hvm9 hw9 hB9 hz9 hk9 hS9 => ?_)
        obtain rfl : r9 = q9.1 := (congrArg Prod.fst hw9).symm
        obtain rfl : v9 = q9.2 := (congrArg Prod.snd hw9).symm
        obtain ⟨hP9, hD9⟩ := jn_all hD8 hS8 hA ht9 hB9
        have hP9 : va_P (dC, dI) vwCl (zc_9 a1 k1 q9.2) H9 := hP9
        have hD9 : va_D A (zc_9 a1 k1 q9.2) := hD9
        clear hP8 hD8 hS8 hB9 hk9 hvm9 hz9 ht9
        refine lv_pop hx hb dX9_gain_49 rfl ?_
        refine lv_aload_n hx hb dX9_gain_50 rfl (lv_at hl 0 rfl) ?_
        refine lv_aload_n hx hb dX9_gain_51 rfl (lv_at hl 0 rfl) ?_
        refine va_get (D := (dC, dI)) (ci := 9) (v := .ref (a1 45)) (C := RX9) (T := TX9) (N := 14) hx hb hts hin9 hown hK hP9 0 rfl rfl 7 (by decide) (hts (.fieldLink RX9 40 "OldestCoins" "trial" "LOldestCoins$Board;") (List.mem_of_getElem? (i := 4) rfl)) (fun _ h9 => h9) rfl dX9_gain_52 ?_
        refine lv_aload_n hx hb dX9_gain_55 rfl (lv_at hl 0 rfl) ?_
        refine va_get (D := (dC, dI)) (ci := 9) (v := .ref (a1 37)) (C := RX9) (T := TX9) (N := 14) hx hb hts hin9 hown hK hP9 0 rfl rfl 5 (by decide) (hts (.fieldLink RX9 30 "OldestCoins" "forgedRanks" "LOldestCoins$Ranks;") (List.mem_of_getElem? (i := 5) rfl)) (fun _ h9 => h9) rfl dX9_gain_56 ?_
        refine lv_iconst (v := (1 : Int32)) hx hb dX9_gain_59 (by decide) ?_
        have hR0 := ob_ok hR
        clear hR
        obtain ⟨q10, hq10, hR⟩ := hR0
        refine va_calli (va_runV (As := [.ref (a1 45), .ref (a1 37), .int (1 : Int32)]) (rest := []) ⟨hx, hb, hml, hown, hts⟩ (cc_X9_runDay_t l dC dI fu a1 k1 H9.size (1 : Int32) q9.2 q10 hq10) (cwV 3 hts gX9_gain_X9_runDay rfl rfl rfl (by decide +kernel) ⟨Nat.le_of_ble_eq_true rfl, Nat.le_of_ble_eq_true rfl⟩) (pf_v hK hP9 hD9 9 0 rfl rfl rfl) rfl rfl hl.1 rfl (lv_room (Nat.le_of_ble_eq_true rfl)) dX9_gain_60 ⟨Nat.le_refl _, Nat.le_refl _⟩) hS9 (fun q _ h => (fr_all hD9 hS9 hA) q h) (fr_all hD9 hS9 hA) (fun r10 v10 t10 H10 locs10 ht10 hvm10 hw10 hB10 hz10 hk10 hS10 => ?_)
        obtain rfl : r10 = q10.1 := (congrArg Prod.fst hw10).symm
        obtain rfl : v10 = q10.2 := (congrArg Prod.snd hw10).symm
        obtain ⟨hP10, hD10⟩ := jn_all hD9 hS9 hA ht10 hB10
        have hP10 : va_P (dC, dI) vwCl (zc_9 a1 k1 q10.2) H10 := hP10
        have hD10 : va_D A (zc_9 a1 k1 q10.2) := hD10
        clear hP9 hD9 hS9 hB10 hk10 hvm10 hz10 ht10
        refine lv_pop hx hb dX9_gain_63 rfl ?_
        refine lv_aload_n hx hb dX9_gain_64 rfl (lv_at hl 0 rfl) ?_
        refine va_get (D := (dC, dI)) (ci := 9) (v := .ref (a1 37)) (C := RX9) (T := TX9) (N := 14) hx hb hts hin9 hown hK hP10 0 rfl rfl 5 (by decide) (hts (.fieldLink RX9 30 "OldestCoins" "forgedRanks" "LOldestCoins$Ranks;") (List.mem_of_getElem? (i := 5) rfl)) (fun _ h9 => h9) rfl dX9_gain_65 ?_
        refine lv_aload_n hx hb dX9_gain_68 rfl (lv_at hl 0 rfl) ?_
        refine va_get (D := (dC, dI)) (ci := 9) (v := .ref (a1 45)) (C := RX9) (T := TX9) (N := 14) hx hb hts hin9 hown hK hP10 0 rfl rfl 7 (by decide) (hts (.fieldLink RX9 40 "OldestCoins" "trial" "LOldestCoins$Board;") (List.mem_of_getElem? (i := 4) rfl)) (fun _ h9 => h9) rfl dX9_gain_69 ?_
        refine va_get (D := (dC, dI)) (ci := 1) (v := .ref (a1 46)) (C := RX1) (T := TX1) (N := 5) hx hb hts hin1 hown hK hP10 45 rfl rfl 0 (by decide) (hts (.fieldLink RX9 138 "OldestCoins$Board" "had" "[J") (List.mem_of_getElem? (i := 6) rfl)) (fun _ h9 => h9) rfl dX9_gain_72 ?_
        refine lv_iload_n hx hb dX9_gain_75 rfl (lv_at hl 1 rfl) ?_
        have i11 := (ck_ok hR).1
        replace hR := (ck_ok hR).2
        refine va_lald (f := q10.2.2.2.2.2.2.2.2.1.1) hx hb hK hP10 46 33 rfl rfl i11 dX9_gain_76 ?_
        have hR0 := ob_ok hR
        clear hR
        obtain ⟨q12, hq12, hR⟩ := hR0
        refine va_calli (va_runV (As := [.long (q10.2.2.2.2.2.2.2.2.1.1 x1.toNatClampNeg)]) (rest := []) ⟨hx, hb, hml, hown, hts⟩ (cc_X4_worthOf l dC dI fu (sh_ a1 37) (sh_ k1 37) H10.size (q10.2.2.2.2.2.2.2.2.1.1 x1.toNatClampNeg) q10.2.2.2.2.2.2.1 q12 hq12) (cwV 1 hts gX9_gain_X4_worthOf rfl rfl rfl (by decide +kernel) ⟨Nat.le_of_ble_eq_true rfl, Nat.le_of_ble_eq_true rfl⟩) (pf_v (hK.sub (tys' := zt_4 (sh_ k1 37)) [27, 28, 29, 30, 31] rfl) (sub_P (sb_9__0c37 a1 k1 q10.2) hP10) (sub_D (sb_9__0c37 a1 k1 q10.2) hD10) 4 0 rfl rfl rfl) rfl rfl hl.1 rfl (lv_room (Nat.le_of_ble_eq_true rfl)) dX9_gain_77 ⟨Nat.le_refl _, Nat.le_refl _⟩) hS10 (fun q _ h => (sub_F (sb_9__0c37 a1 k1 q10.2) hD10 hS10 hA) q h) (sub_F (sb_9__0c37 a1 k1 q10.2) hD10 hS10 hA) (fun r12 v12 t12 H12 locs12 ht12 hvm12 hw12 hB12 hz12 hk12 hS12 => ?_)
        subst hw12
        obtain ⟨hP12, hD12⟩ := jn_sub (sb_9__0c37 a1 k1 q10.2) (jo_9__0c37__ a1 k1 q10.2 ) rfl hP10 hD10 hk12 ht12 hB12
        have hP12 : va_P (dC, dI) vwCl (zc_9 a1 k1 q10.2) H12 := hP12
        have hD12 : va_D A (zc_9 a1 k1 q10.2) := hD12
        clear hP10 hD10 hS10 hB12 hk12 hvm12 hz12 ht12
        refine lv_aload_n hx hb dX9_gain_80 rfl (lv_at hl 0 rfl) ?_
        refine va_get (D := (dC, dI)) (ci := 9) (v := .ref (a1 31)) (C := RX9) (T := TX9) (N := 14) hx hb hts hin9 hown hK hP12 0 rfl rfl 3 (by decide) (hts (.fieldLink RX9 22 "OldestCoins" "ranks" "LOldestCoins$Ranks;") (List.mem_of_getElem? (i := 3) rfl)) (fun _ h9 => h9) rfl dX9_gain_81 ?_
        refine lv_aload_n hx hb dX9_gain_84 rfl (lv_at hl 0 rfl) ?_
        refine va_get (D := (dC, dI)) (ci := 9) (v := .ref (a1 43)) (C := RX9) (T := TX9) (N := 14) hx hb hts hin9 hown hK hP12 0 rfl rfl 6 (by decide) (hts (.fieldLink RX9 36 "OldestCoins" "board" "LOldestCoins$Board;") (List.mem_of_getElem? (i := 2) rfl)) (fun _ h9 => h9) rfl dX9_gain_85 ?_
        refine va_get (D := (dC, dI)) (ci := 1) (v := .ref (a1 44)) (C := RX1) (T := TX1) (N := 5) hx hb hts hin1 hown hK hP12 43 rfl rfl 0 (by decide) (hts (.fieldLink RX9 138 "OldestCoins$Board" "had" "[J") (List.mem_of_getElem? (i := 6) rfl)) (fun _ h9 => h9) rfl dX9_gain_88 ?_
        refine lv_iload_n hx hb dX9_gain_91 rfl (lv_at hl 1 rfl) ?_
        have i13 := (ck_ok hR).1
        replace hR := (ck_ok hR).2
        refine va_lald (f := q10.2.2.2.2.2.2.2.1.1) hx hb hK hP12 44 32 rfl rfl i13 dX9_gain_92 ?_
        have hR0 := ob_ok hR
        clear hR
        obtain ⟨q14, hq14, hR⟩ := hR0
        refine va_calli (va_runV (As := [.long (q10.2.2.2.2.2.2.2.1.1 x1.toNatClampNeg)]) (rest := [.int q12]) ⟨hx, hb, hml, hown, hts⟩ (cc_X4_worthOf l dC dI fu (sh_ a1 31) (sh_ k1 31) H12.size (q10.2.2.2.2.2.2.2.1.1 x1.toNatClampNeg) q10.2.2.2.2.1 q14 hq14) (cwV 1 hts gX9_gain_X4_worthOf rfl rfl rfl (by decide +kernel) ⟨Nat.le_of_ble_eq_true rfl, Nat.le_of_ble_eq_true rfl⟩) (pf_v (hK.sub (tys' := zt_4 (sh_ k1 31)) [22, 23, 24, 25, 26] rfl) (sub_P (sb_9__0c31 a1 k1 q10.2) hP12) (sub_D (sb_9__0c31 a1 k1 q10.2) hD12) 4 0 rfl rfl rfl) rfl rfl hl.1 rfl (lv_room (Nat.le_of_ble_eq_true rfl)) dX9_gain_93 ⟨Nat.le_refl _, Nat.le_refl _⟩) hS12 (fun q _ h => (sub_F (sb_9__0c31 a1 k1 q10.2) hD12 hS12 hA) q h) (sub_F (sb_9__0c31 a1 k1 q10.2) hD12 hS12 hA) (fun r14 v14 t14 H14 locs14 ht14 hvm14 hw14 hB14 hz14 hk14 hS14 => ?_)
        subst hw14
        obtain ⟨hP14, hD14⟩ := jn_sub (sb_9__0c31 a1 k1 q10.2) (jo_9__0c31__ a1 k1 q10.2 ) rfl hP12 hD12 hk14 ht14 hB14
        have hP14 : va_P (dC, dI) vwCl (zc_9 a1 k1 q10.2) H14 := hP14
        have hD14 : va_D A (zc_9 a1 k1 q10.2) := hD14
        clear hP12 hD12 hS12 hB14 hk14 hvm14 hz14 ht14
        refine lv_isub hx hb dX9_gain_96 ?_
        subst hQe
        exact W.iret (v := (q12 - q14)) hx hb hr (fun t ht hW => ⟨⟨(q12 - q14), q10.2, rfl, (Option.some.inj hR).symm, by rw [ht]; exact hP14, va_K.moved hW.alike hK, hD14⟩, hS14.F ht⟩) hS14.2.2 dX9_gain_97
      · replace hR := ifp_ hR c6
        refine lv_ldcw (v := (-100001 : Int32)) hx hb hown (hts (.constant RX9 271 (-100001)) (List.mem_of_getElem? (i := 1) rfl)) dX9_gain_22 ?_
        subst hQe
        exact W.iret (v := (-100001 : Int32)) hx hb hr (fun t ht hW => ⟨⟨(-100001 : Int32), s1, rfl, (Option.some.inj hR).symm, by rw [ht]; exact hP5, va_K.moved hW.alike hK, hD5⟩, hS5.F ht⟩) hS5.2.2 dX9_gain_25
def rr_X9_where (fu : Nat) (x1 : Int32) (x2 : Int32) (s1 : ZT_9) : Option (Int32 × ZT_9) := (rr_X9_isCoin fu x1 s1).bind (fun q1 => (if q1 = (0 : Int32) then some ((-1 : Int32), s1) else (rr_X9_isWithin fu x2 (1 : Int32) (50 : Int32)).bind (fun q3 => (if q3 = (0 : Int32) then some ((-1 : Int32), s1) else (rr_X9_layOut fu s1).bind (fun q5 => (rr_X9_runDay_b fu x2 q5).bind (fun q6 => ck_ x1 40 ((rr_X1_holderAt fu (q6.2.2.2.2.1.2.2.2.1 x1.toNatClampNeg) q6.2.2.2.2.2.2.2.1).bind (fun q8 => some (q8, q6.2)))))))))
set_option maxRecDepth 100000 in
theorem sb_9__0c43 (a1 : Nat → Nat) (k1 : Nat → ClassId) (s1 : ZT_9) : List.Perm (zc_9 a1 k1 s1) ((zc_1 (sh_ a1 43) (sh_ k1 43) s1.2.2.2.2.2.2.1) ++ ([(a1 0, .inr (9, [.ref (a1 1), .ref (a1 16), .int s1.2.2.1, .ref (a1 31), .int s1.2.2.2.2.1, .ref (a1 37), .ref (a1 43), .ref (a1 45), .ref (a1 47), .ref (a1 50), .ref (a1 54), .ref (a1 56), .ref (a1 62), .ref (a1 66)]))] ++ (zc_8 (sh_ a1 1) (sh_ k1 1) s1.1 ++ (zc_8 (sh_ a1 16) (sh_ k1 16) s1.2.1 ++ (zc_4 (sh_ a1 31) (sh_ k1 31) s1.2.2.2.1 ++ (zc_4 (sh_ a1 37) (sh_ k1 37) s1.2.2.2.2.2.1 ++ (([] : va_W) ++ (zc_1 (sh_ a1 45) (sh_ k1 45) s1.2.2.2.2.2.2.2.1 ++ (zc_7 (sh_ a1 47) (sh_ k1 47) s1.2.2.2.2.2.2.2.2.1 ++ (zc_3 (sh_ a1 50) (sh_ k1 50) s1.2.2.2.2.2.2.2.2.2.1 ++ (zc_6 (sh_ a1 54) (sh_ k1 54) s1.2.2.2.2.2.2.2.2.2.2.1 ++ (zc_2 (sh_ a1 56) (sh_ k1 56) 10 s1.2.2.2.2.2.2.2.2.2.2.2.1 ++ (zc_0 (sh_ a1 62) (sh_ k1 62) 24 s1.2.2.2.2.2.2.2.2.2.2.2.2.1 ++ zc_5 (sh_ a1 66) (sh_ k1 66) s1.2.2.2.2.2.2.2.2.2.2.2.2.2))))))))))))) := (pu_r ([(a1 0, .inr (9, [.ref (a1 1), .ref (a1 16), .int s1.2.2.1, .ref (a1 31), .int s1.2.2.2.2.1, .ref (a1 37), .ref (a1 43), .ref (a1 45), .ref (a1 47), .ref (a1 50), .ref (a1 54), .ref (a1 56), .ref (a1 62), .ref (a1 66)]))]) (pu_r (zc_8 (sh_ a1 1) (sh_ k1 1) s1.1) (pu_r (zc_8 (sh_ a1 16) (sh_ k1 16) s1.2.1) (pu_r (zc_4 (sh_ a1 31) (sh_ k1 31) s1.2.2.2.1) (pu_r (zc_4 (sh_ a1 37) (sh_ k1 37) s1.2.2.2.2.2.1) (pu_l ((zc_1 (sh_ a1 45) (sh_ k1 45) s1.2.2.2.2.2.2.2.1 ++ (zc_7 (sh_ a1 47) (sh_ k1 47) s1.2.2.2.2.2.2.2.2.1 ++ (zc_3 (sh_ a1 50) (sh_ k1 50) s1.2.2.2.2.2.2.2.2.2.1 ++ (zc_6 (sh_ a1 54) (sh_ k1 54) s1.2.2.2.2.2.2.2.2.2.2.1 ++ (zc_2 (sh_ a1 56) (sh_ k1 56) 10 s1.2.2.2.2.2.2.2.2.2.2.2.1 ++ (zc_0 (sh_ a1 62) (sh_ k1 62) 24 s1.2.2.2.2.2.2.2.2.2.2.2.2.1 ++ zc_5 (sh_ a1 66) (sh_ k1 66) s1.2.2.2.2.2.2.2.2.2.2.2.2.2))))))) (pu_1 (zc_1 (sh_ a1 43) (sh_ k1 43) s1.2.2.2.2.2.2.1))))))))
set_option maxRecDepth 100000 in
theorem jo_9__0c43__ (a1 : Nat → Nat) (k1 : Nat → ClassId) (s1 : ZT_9) : List.Perm (zc_9 a1 k1 s1) ((zc_1 (sh_ a1 43) (sh_ k1 43) s1.2.2.2.2.2.2.1) ++ ([(a1 0, .inr (9, [.ref (a1 1), .ref (a1 16), .int s1.2.2.1, .ref (a1 31), .int s1.2.2.2.2.1, .ref (a1 37), .ref (a1 43), .ref (a1 45), .ref (a1 47), .ref (a1 50), .ref (a1 54), .ref (a1 56), .ref (a1 62), .ref (a1 66)]))] ++ (zc_8 (sh_ a1 1) (sh_ k1 1) s1.1 ++ (zc_8 (sh_ a1 16) (sh_ k1 16) s1.2.1 ++ (zc_4 (sh_ a1 31) (sh_ k1 31) s1.2.2.2.1 ++ (zc_4 (sh_ a1 37) (sh_ k1 37) s1.2.2.2.2.2.1 ++ (([] : va_W) ++ (zc_1 (sh_ a1 45) (sh_ k1 45) s1.2.2.2.2.2.2.2.1 ++ (zc_7 (sh_ a1 47) (sh_ k1 47) s1.2.2.2.2.2.2.2.2.1 ++ (zc_3 (sh_ a1 50) (sh_ k1 50) s1.2.2.2.2.2.2.2.2.2.1 ++ (zc_6 (sh_ a1 54) (sh_ k1 54) s1.2.2.2.2.2.2.2.2.2.2.1 ++ (zc_2 (sh_ a1 56) (sh_ k1 56) 10 s1.2.2.2.2.2.2.2.2.2.2.2.1 ++ (zc_0 (sh_ a1 62) (sh_ k1 62) 24 s1.2.2.2.2.2.2.2.2.2.2.2.2.1 ++ zc_5 (sh_ a1 66) (sh_ k1 66) s1.2.2.2.2.2.2.2.2.2.2.2.2.2))))))))))))) := (pu_r ([(a1 0, .inr (9, [.ref (a1 1), .ref (a1 16), .int s1.2.2.1, .ref (a1 31), .int s1.2.2.2.2.1, .ref (a1 37), .ref (a1 43), .ref (a1 45), .ref (a1 47), .ref (a1 50), .ref (a1 54), .ref (a1 56), .ref (a1 62), .ref (a1 66)]))]) (pu_r (zc_8 (sh_ a1 1) (sh_ k1 1) s1.1) (pu_r (zc_8 (sh_ a1 16) (sh_ k1 16) s1.2.1) (pu_r (zc_4 (sh_ a1 31) (sh_ k1 31) s1.2.2.2.1) (pu_r (zc_4 (sh_ a1 37) (sh_ k1 37) s1.2.2.2.2.2.1) (pu_l ((zc_1 (sh_ a1 45) (sh_ k1 45) s1.2.2.2.2.2.2.2.1 ++ (zc_7 (sh_ a1 47) (sh_ k1 47) s1.2.2.2.2.2.2.2.2.1 ++ (zc_3 (sh_ a1 50) (sh_ k1 50) s1.2.2.2.2.2.2.2.2.2.1 ++ (zc_6 (sh_ a1 54) (sh_ k1 54) s1.2.2.2.2.2.2.2.2.2.2.1 ++ (zc_2 (sh_ a1 56) (sh_ k1 56) 10 s1.2.2.2.2.2.2.2.2.2.2.2.1 ++ (zc_0 (sh_ a1 62) (sh_ k1 62) 24 s1.2.2.2.2.2.2.2.2.2.2.2.2.1 ++ zc_5 (sh_ a1 66) (sh_ k1 66) s1.2.2.2.2.2.2.2.2.2.2.2.2.2))))))) (pu_1 (zc_1 (sh_ a1 43) (sh_ k1 43) s1.2.2.2.2.2.2.1))))))))
set_option maxHeartbeats 4000000 in
set_option maxRecDepth 100000 in
theorem cc_X9_where (l : Launch) (dC : Nat → ClassId) (dI : Nat → Nat → Nat) (fu : Nat) (a1 : Nat → Nat) (k1 : Nat → ClassId) (sz : Nat) (x1 : Int32) (x2 : Int32) (s1 : ZT_9) (res : Int32 × ZT_9) (hR : rr_X9_where fu x1 x2 s1 = some res) : Met l yX9_where wsX9_where ({ frames := 7, cells := 0, slots := 0, locals := 168 } : Room) (PcF [.ref (a1 0), .int x1, .int x2] sz (dC, dI) (zc_9 a1 k1 s1) (zt_9 k1)) (va_Qi (fun (r : Int32) (u : ZT_9) => res = (r, u)) (fun u t => at3_ (dC, dI) (zc_9 a1 k1 u) (zt_9 k1) (va_A (zc_9 a1 k1 s1) sz) t) (va_A (zc_9 a1 k1 s1) sz)) 0 0 (va_A (zc_9 a1 k1 s1) sz) := by
  refine Met.ofW (cc := cX9_where) (maxL := 3) (ret := (some .int)) (by decide) rfl ?_
  intro p e s m args below meth c s₁ B hml hv
  obtain ⟨hav, hsz, hP, hK, hD0⟩ := hv
  have hx := B.exec
  have hb := B.bytes
  have hr := B.returns
  have hts := atoms_spec (ws := wsX9_where) B.pre
  have hown : s.vm.findClass RX9 = some m.cls := findClass_of_methodNamed B.named
  have hlocks := B.notSynchronized
  have hin4 : ∀ w ∈ wsX40, w ∈ wsX9_where := fun w h => List.mem_cons_of_mem _ (List.mem_append_left _ (List.mem_append_left _ (List.mem_append_left _ (List.mem_append_left _ (List.mem_append_right _ h)))))
  have hin9 : ∀ w ∈ wsX90, w ∈ wsX9_where := fun w h => List.mem_cons_of_mem _ (List.mem_append_left _ (List.mem_append_left _ (List.mem_append_left _ (List.mem_append_left _ (List.mem_append_left _ (List.mem_append_right _ h))))))
  subst hsz
  have hD := hD0.self (sz := s.heap.size)
  clear hD0
  generalize hAe : va_A (zc_9 a1 k1 s1) s.heap.size = A at hD ⊢
  have hA : ∀ q : Nat, s.heap.size ≤ q → A q := fun q h => by rw [← hAe]; exact Or.inr h
  have hS : va_S A s.heap s.heap [] := va_S.rf
  generalize hQe : MQ below _ args s 0 0 A = Q
  rw [show entryFrame m args 3 = F0 m 0 ((lg_sl ([.ref (a1 0), .int x1, .int x2]) ++ List.replicate (3 - (lg_sl ([.ref (a1 0), .int x1, .int x2])).length) Slot.unset).toArray) [] from by rw [hav]; exact lg_entry_eq m _ _]
  have hl := lv_entry ([.ref (a1 0), .int x1, .int x2]) (n := 3) (Nat.le_of_ble_eq_true rfl)
  generalize (lg_sl ([.ref (a1 0), .int x1, .int x2]) ++ List.replicate (3 - (lg_sl ([.ref (a1 0), .int x1, .int x2])).length) Slot.unset).toArray = ls at hl ⊢
  have hl : lv_has ls 3 [(0, .ref (a1 0)), (1, .int x1), (2, .int x2)] := hl
  unfold rr_X9_where at hR
  refine lv_aload_n hx hb dX9_where_0 rfl (lv_at hl 0 rfl) ?_
  refine lv_iload_n hx hb dX9_where_1 rfl (lv_at hl 1 rfl) ?_
  have hR0 := ob_ok hR
  clear hR
  obtain ⟨q1, hq1, hR⟩ := hR0
  refine va_calli (va_runV (As := [.int x1]) (rest := []) ⟨hx, hb, hml, hown, hts⟩ (cc_X9_isCoin l dC dI fu a1 k1 s.heap.size x1 s1 q1 hq1) (cwV 1 hts gX9_where_X9_isCoin rfl rfl rfl (by decide +kernel) ⟨Nat.le_of_ble_eq_true rfl, Nat.le_of_ble_eq_true rfl⟩) (pf_v hK hP hD 9 0 rfl rfl rfl) rfl rfl hl.1 rfl (lv_room (Nat.le_of_ble_eq_true rfl)) dX9_where_2 ⟨Nat.le_refl _, Nat.le_refl _⟩) hS (fun q _ h => (fr_all hD hS hA) q h) (fr_all hD hS hA) (fun r1 v1 t1 H1 locs1 ht1 hvm1 hw1 hB1 hz1 hk1 hS1 => ?_)
  subst hw1
  obtain ⟨hP1, hD1⟩ := jn_all hD hS hA ht1 hB1
  have hP1 : va_P (dC, dI) vwCl (zc_9 a1 k1 s1) H1 := hP1
  have hD1 : va_D A (zc_9 a1 k1 s1) := hD1
  clear hP hD hS hB1 hk1 hvm1 hz1 ht1
  refine lv_if_eq (tgt := 18) hx hb dX9_where_5 (by decide) (fun c2 => ?_) (fun c2 => ?_)
  · replace hR := ifp_ hR c2
    refine lv_iconst (v := (-1 : Int32)) hx hb dX9_where_18 (by decide) ?_
    subst hQe
    exact W.iret (v := (-1 : Int32)) hx hb hr (fun t ht hW => ⟨⟨(-1 : Int32), s1, rfl, (Option.some.inj hR).symm, by rw [ht]; exact hP1, va_K.moved hW.alike hK, hD1⟩, hS1.F ht⟩) hS1.2.2 dX9_where_19
  · replace hR := ifn_ hR c2
    refine lv_iload_n hx hb dX9_where_8 rfl (lv_at hl 2 rfl) ?_
    refine lv_iconst (v := (1 : Int32)) hx hb dX9_where_9 (by decide) ?_
    refine lv_bipush (v := (50 : Int32)) hx hb dX9_where_10 (by decide) ?_
    have hR0 := ob_ok hR
    clear hR
    obtain ⟨q3, hq3, hR⟩ := hR0
    refine va_calli (va_runS (As := [.int x2, .int (1 : Int32), .int (50 : Int32)]) (rest := []) ⟨hx, hb, hml, hown, hts⟩ (cc_X9_isWithin l dC dI fu H1.size x2 (1 : Int32) (50 : Int32) q3 hq3) (va_cwS 3 hts gX9_where_X9_isWithin rfl rfl rfl (by decide +kernel) ⟨Nat.le_of_ble_eq_true rfl, Nat.le_of_ble_eq_true rfl⟩) (pf_s (nil_K hK) nil_P (nil_D (A := A))) rfl rfl hl.1 rfl (lv_room (Nat.le_of_ble_eq_true rfl)) dX9_where_12 ⟨Nat.le_refl _, Nat.le_refl _⟩) hS1 (fun q _ h => (fr_none hS1 hA) q h) (fr_none hS1 hA) (fun r3 v3 t3 H3 locs3 ht3 hvm3 hw3 hB3 hz3 hk3 hS3 => ?_)
    subst hw3
    have hP3 := jn_none hP1 hk3
    have hD3 := hD1
    have hP3 : va_P (dC, dI) vwCl (zc_9 a1 k1 s1) H3 := hP3
    have hD3 : va_D A (zc_9 a1 k1 s1) := hD3
    clear hP1 hD1 hS1 hB3 hk3 hvm3 hz3 ht3
    refine lv_if_ne (tgt := 20) hx hb dX9_where_15 (by decide) (fun c4 => ?_) (fun c4 => ?_)
    · replace hR := ifn_ hR c4
      refine lv_aload_n hx hb dX9_where_20 rfl (lv_at hl 0 rfl) ?_
      have hR0 := ob_ok hR
      clear hR
      obtain ⟨q5, hq5, hR⟩ := hR0
      refine va_callv (va_runV (As := []) (rest := []) ⟨hx, hb, hml, hown, hts⟩ (cc_X9_layOut l dC dI fu a1 k1 H3.size s1 q5 hq5) (cwV 0 hts gX9_where_X9_layOut rfl rfl rfl (by decide +kernel) ⟨Nat.le_of_ble_eq_true rfl, Nat.le_of_ble_eq_true rfl⟩) (pf_v hK hP3 hD3 9 0 rfl rfl rfl) rfl rfl hl.1 rfl (lv_room (Nat.le_of_ble_eq_true rfl)) dX9_where_21 ⟨Nat.le_refl _, Nat.le_refl _⟩) hS3 (fun q _ h => (fr_all hD3 hS3 hA) q h) (fr_all hD3 hS3 hA) (fun v5 t5 H5 locs5 ht5 hvm5 hw5 hB5 hz5 hk5 hS5 => ?_)
      subst hw5
      obtain ⟨hP5, hD5⟩ := jn_all hD3 hS3 hA ht5 hB5
      have hP5 : va_P (dC, dI) vwCl (zc_9 a1 k1 q5) H5 := hP5
      have hD5 : va_D A (zc_9 a1 k1 q5) := hD5
      clear hP3 hD3 hS3 hB5 hk5 hvm5 hz5 ht5
      refine lv_aload_n hx hb dX9_where_24 rfl (lv_at hl 0 rfl) ?_
      refine lv_aload_n hx hb dX9_where_25 rfl (lv_at hl 0 rfl) ?_
      refine va_get (D := (dC, dI)) (ci := 9) (v := .ref (a1 43)) (C := RX9) (T := TX9) (N := 14) hx hb hts hin9 hown hK hP5 0 rfl rfl 6 (by decide) (hts (.fieldLink RX9 36 "OldestCoins" "board" "LOldestCoins$Board;") (List.mem_of_getElem? (i := 1) rfl)) (fun _ h9 => h9) rfl dX9_where_26 ?_
      refine lv_aload_n hx hb dX9_where_29 rfl (lv_at hl 0 rfl) ?_
      refine va_get (D := (dC, dI)) (ci := 9) (v := .ref (a1 31)) (C := RX9) (T := TX9) (N := 14) hx hb hts hin9 hown hK hP5 0 rfl rfl 3 (by decide) (hts (.fieldLink RX9 22 "OldestCoins" "ranks" "LOldestCoins$Ranks;") (List.mem_of_getElem? (i := 2) rfl)) (fun _ h9 => h9) rfl dX9_where_30 ?_
      refine lv_iload_n hx hb dX9_where_33 rfl (lv_at hl 2 rfl) ?_
      have hR0 := ob_ok hR
      clear hR
      obtain ⟨q6, hq6, hR⟩ := hR0
      refine va_calli (va_runV (As := [.ref (a1 43), .ref (a1 31), .int x2]) (rest := []) ⟨hx, hb, hml, hown, hts⟩ (cc_X9_runDay_b l dC dI fu a1 k1 H5.size x2 q5 q6 hq6) (cwV 3 hts gX9_where_X9_runDay rfl rfl rfl (by decide +kernel) ⟨Nat.le_of_ble_eq_true rfl, Nat.le_of_ble_eq_true rfl⟩) (pf_v hK hP5 hD5 9 0 rfl rfl rfl) rfl rfl hl.1 rfl (lv_room (Nat.le_of_ble_eq_true rfl)) dX9_where_34 ⟨Nat.le_refl _, Nat.le_refl _⟩) hS5 (fun q _ h => (fr_all hD5 hS5 hA) q h) (fr_all hD5 hS5 hA) (fun r6 v6 t6 H6 locs6 ht6 hvm6 hw6 hB6 hz6 hk6 hS6 => ?_)
      obtain rfl : r6 = q6.1 := (congrArg Prod.fst hw6).symm
      obtain rfl : v6 = q6.2 := (congrArg Prod.snd hw6).symm
      obtain ⟨hP6, hD6⟩ := jn_all hD5 hS5 hA ht6 hB6
      have hP6 : va_P (dC, dI) vwCl (zc_9 a1 k1 q6.2) H6 := hP6
      have hD6 : va_D A (zc_9 a1 k1 q6.2) := hD6
      clear hP5 hD5 hS5 hB6 hk6 hvm6 hz6 ht6
      refine lv_pop hx hb dX9_where_37 rfl ?_
      refine lv_aload_n hx hb dX9_where_38 rfl (lv_at hl 0 rfl) ?_
      refine va_get (D := (dC, dI)) (ci := 9) (v := .ref (a1 43)) (C := RX9) (T := TX9) (N := 14) hx hb hts hin9 hown hK hP6 0 rfl rfl 6 (by decide) (hts (.fieldLink RX9 36 "OldestCoins" "board" "LOldestCoins$Board;") (List.mem_of_getElem? (i := 1) rfl)) (fun _ h9 => h9) rfl dX9_where_39 ?_
      refine lv_aload_n hx hb dX9_where_42 rfl (lv_at hl 0 rfl) ?_
      refine va_get (D := (dC, dI)) (ci := 9) (v := .ref (a1 31)) (C := RX9) (T := TX9) (N := 14) hx hb hts hin9 hown hK hP6 0 rfl rfl 3 (by decide) (hts (.fieldLink RX9 22 "OldestCoins" "ranks" "LOldestCoins$Ranks;") (List.mem_of_getElem? (i := 2) rfl)) (fun _ h9 => h9) rfl dX9_where_43 ?_
      refine va_get (D := (dC, dI)) (ci := 4) (v := .ref (a1 34)) (C := RX4) (T := TX4) (N := 6) hx hb hts hin4 hown hK hP6 31 rfl rfl 3 (by decide) (hts (.fieldLink RX9 258 "OldestCoins$Ranks" "rankOf" "[I") (List.mem_of_getElem? (i := 3) rfl)) (fun _ h9 => h9) rfl dX9_where_46 ?_
      refine lv_iload_n hx hb dX9_where_49 rfl (lv_at hl 1 rfl) ?_
      have i7 := (ck_ok hR).1
      replace hR := (ck_ok hR).2
      refine va_iald (f := q6.2.2.2.2.1.2.2.2.1) hx hb hK hP6 34 24 rfl rfl i7 dX9_where_50 ?_
      have hR0 := ob_ok hR
      clear hR
      obtain ⟨q8, hq8, hR⟩ := hR0
      refine va_calli (va_runV (As := [.int (q6.2.2.2.2.1.2.2.2.1 x1.toNatClampNeg)]) (rest := []) ⟨hx, hb, hml, hown, hts⟩ (cc_X1_holderAt l dC dI fu (sh_ a1 43) (sh_ k1 43) H6.size (q6.2.2.2.2.1.2.2.2.1 x1.toNatClampNeg) q6.2.2.2.2.2.2.2.1 q8 hq8) (cwV 1 hts gX9_where_X1_holderAt rfl rfl rfl (by decide +kernel) ⟨Nat.le_of_ble_eq_true rfl, Nat.le_of_ble_eq_true rfl⟩) (pf_v (hK.sub (tys' := zt_1 (sh_ k1 43)) [32] rfl) (sub_P (sb_9__0c43 a1 k1 q6.2) hP6) (sub_D (sb_9__0c43 a1 k1 q6.2) hD6) 1 0 rfl rfl rfl) rfl rfl hl.1 rfl (lv_room (Nat.le_of_ble_eq_true rfl)) dX9_where_51 ⟨Nat.le_refl _, Nat.le_refl _⟩) hS6 (fun q _ h => (sub_F (sb_9__0c43 a1 k1 q6.2) hD6 hS6 hA) q h) (sub_F (sb_9__0c43 a1 k1 q6.2) hD6 hS6 hA) (fun r8 v8 t8 H8 locs8 ht8 hvm8 hw8 hB8 hz8 hk8 hS8 => ?_)
      subst hw8
      obtain ⟨hP8, hD8⟩ := jn_sub (sb_9__0c43 a1 k1 q6.2) (jo_9__0c43__ a1 k1 q6.2 ) rfl hP6 hD6 hk8 ht8 hB8
      have hP8 : va_P (dC, dI) vwCl (zc_9 a1 k1 q6.2) H8 := hP8
      have hD8 : va_D A (zc_9 a1 k1 q6.2) := hD8
      clear hP6 hD6 hS6 hB8 hk8 hvm8 hz8 ht8
      subst hQe
      exact W.iret (v := q8) hx hb hr (fun t ht hW => ⟨⟨q8, q6.2, rfl, (Option.some.inj hR).symm, by rw [ht]; exact hP8, va_K.moved hW.alike hK, hD8⟩, hS8.F ht⟩) hS8.2.2 dX9_where_54
    · replace hR := ifp_ hR c4
      refine lv_iconst (v := (-1 : Int32)) hx hb dX9_where_18 (by decide) ?_
      subst hQe
      exact W.iret (v := (-1 : Int32)) hx hb hr (fun t ht hW => ⟨⟨(-1 : Int32), s1, rfl, (Option.some.inj hR).symm, by rw [ht]; exact hP3, va_K.moved hW.alike hK, hD3⟩, hS3.F ht⟩) hS3.2.2 dX9_where_19
def rr_X9_takeOver_2_b (fu : Nat) (rec2 : Int32 → ZT_9 → Option (ZT_9)) (y1 : Int32) (u1 : ZT_9) : Option (ZT_9) := (if u1.2.2.2.1.1 ≤ y1 then some u1 else ck_ y1 64 ((rr_X1_holderAt fu y1 u1.2.2.2.2.2.2.1).bind (fun q4 => ck_ (u1.2.2.2.1.2.1 y1.toNatClampNeg) 40 (lt_ (α := Int32) (y1 + (1 : Int32)) (fun z6 => rec2 z6 ((u1.1.1, (u1.1.2.1.1, (upd u1.1.2.1.2.1 (u1.2.2.2.1.2.1 y1.toNatClampNeg).toNatClampNeg q4), u1.1.2.1.2.2), u1.1.2.2), u1.2))))))
def rr_X9_takeOver_2 (fu : Nat) (n : Nat) : Int32 → ZT_9 → Option (ZT_9) := lp_ (fun _ _ => none) (rr_X9_takeOver_2_b fu) n
def rr_X9_takeOver (fu : Nat) (s1 : ZT_9) : Option (ZT_9) := rr_X9_takeOver_2 fu fu (0 : Int32) s1
set_option maxHeartbeats 4000000 in
set_option maxRecDepth 100000 in
theorem cc_X9_takeOver (l : Launch) (dC : Nat → ClassId) (dI : Nat → Nat → Nat) (fu : Nat) (a1 : Nat → Nat) (k1 : Nat → ClassId) (sz : Nat) (s1 : ZT_9) (res : ZT_9) (hR : rr_X9_takeOver fu s1 = some res) : Met l yX9_takeOver wsX9_takeOver ({ frames := 1, cells := 0, slots := 0, locals := 22 } : Room) (PcF [.ref (a1 0)] sz (dC, dI) (zc_9 a1 k1 s1) (zt_9 k1)) (va_Qv (fun u : ZT_9 => res = u) (fun u t => at3_ (dC, dI) (zc_9 a1 k1 u) (zt_9 k1) (va_A (zc_9 a1 k1 s1) sz) t) (va_A (zc_9 a1 k1 s1) sz)) 0 0 (va_A (zc_9 a1 k1 s1) sz) := by
  refine Met.ofW (cc := cX9_takeOver) (maxL := 2) (ret := none) (by decide) rfl ?_
  intro p e s m args below meth c s₁ B hml hv
  obtain ⟨hav, hsz, hP, hK, hD0⟩ := hv
  have hx := B.exec
  have hb := B.bytes
  have hr := B.returns
  have hts := atoms_spec (ws := wsX9_takeOver) B.pre
  have hown : s.vm.findClass RX9 = some m.cls := findClass_of_methodNamed B.named
  have hlocks := B.notSynchronized
  have hin2 : ∀ w ∈ wsX20, w ∈ wsX9_takeOver := fun w h => List.mem_cons_of_mem _ (List.mem_append_left _ (List.mem_append_right _ h))
  have hin4 : ∀ w ∈ wsX40, w ∈ wsX9_takeOver := fun w h => List.mem_cons_of_mem _ (List.mem_append_left _ (List.mem_append_left _ (List.mem_append_left _ (List.mem_append_right _ h))))
  have hin8 : ∀ w ∈ wsX80, w ∈ wsX9_takeOver := fun w h => List.mem_cons_of_mem _ (List.mem_append_left _ (List.mem_append_left _ (List.mem_append_right _ h)))
  have hin9 : ∀ w ∈ wsX90, w ∈ wsX9_takeOver := fun w h => List.mem_cons_of_mem _ (List.mem_append_left _ (List.mem_append_left _ (List.mem_append_left _ (List.mem_append_left _ (List.mem_append_right _ h)))))
  subst hsz
  have hD := hD0.self (sz := s.heap.size)
  clear hD0
  generalize hAe : va_A (zc_9 a1 k1 s1) s.heap.size = A at hD ⊢
  have hA : ∀ q : Nat, s.heap.size ≤ q → A q := fun q h => by rw [← hAe]; exact Or.inr h
  have hS : va_S A s.heap s.heap [] := va_S.rf
  generalize hQe : MQ below _ args s 0 0 A = Q
  rw [show entryFrame m args 2 = F0 m 0 ((lg_sl ([.ref (a1 0)]) ++ List.replicate (2 - (lg_sl ([.ref (a1 0)])).length) Slot.unset).toArray) [] from by rw [hav]; exact lg_entry_eq m _ _]
  have hl := lv_entry ([.ref (a1 0)]) (n := 2) (Nat.le_of_ble_eq_true rfl)
  generalize (lg_sl ([.ref (a1 0)]) ++ List.replicate (2 - (lg_sl ([.ref (a1 0)])).length) Slot.unset).toArray = ls at hl ⊢
  have hl : lv_has ls 2 [(0, .ref (a1 0))] := hl
  have hB2 : ∀ (n : Nat), ∀ (y1 : Int32) (u1 : ZT_9) (H : Heap) (locs : List Loc) (ls : Array Slot), va_P (dC, dI) vwCl (zc_9 a1 k1 u1) H → va_D A (zc_9 a1 k1 u1) → va_S A s.heap H locs → lv_has ls 2 [(0, .ref (a1 0)), (1, .int y1)] → rr_X9_takeOver_2 fu n y1 u1 = some res → W p l e ({ frames := 1, cells := 0, slots := 0, locals := 22 } : Room) s m args below meth c H locs 0 0 Q (F0 m 2 ls []) := by
    intro  n
    induction n with
    | zero => intro y1 u1 H locs ls hP hD hS hl hR; exact absurd hR (by intro h; cases h)
    | succ n ih =>
      intro y1 u1 H locs ls hP hD hS hl hR
      replace hR : rr_X9_takeOver_2_b fu (rr_X9_takeOver_2 fu n) y1 u1 = some res := hR
      unfold rr_X9_takeOver_2_b at hR
      refine lv_iload_n hx hb dX9_takeOver_2 rfl (lv_at hl 1 rfl) ?_
      refine lv_aload_n hx hb dX9_takeOver_3 rfl (lv_at hl 0 rfl) ?_
      refine va_get (D := (dC, dI)) (ci := 9) (v := .ref (a1 31)) (C := RX9) (T := TX9) (N := 14) hx hb hts hin9 hown hK hP 0 rfl rfl 3 (by decide) (hts (.fieldLink RX9 22 "OldestCoins" "ranks" "LOldestCoins$Ranks;") (List.mem_of_getElem? (i := 1) rfl)) (fun _ h9 => h9) rfl dX9_takeOver_4 ?_
      refine va_get (D := (dC, dI)) (ci := 4) (v := .int u1.2.2.2.1.1) (C := RX4) (T := TX4) (N := 6) hx hb hts hin4 hown hK hP 31 rfl rfl 0 (by decide) (hts (.fieldLink RX9 328 "OldestCoins$Ranks" "size" "I") (List.mem_of_getElem? (i := 2) rfl)) (fun _ h9 => h9) rfl dX9_takeOver_7 ?_
      refine lv_icmp_ge (tgt := 47) hx hb dX9_takeOver_10 (by decide) (fun c2 => ?_) (fun c2 => ?_)
      · replace hR := ifp_ hR c2
        subst hQe
        exact W.vret hx hb hr (fun t ht hW => ⟨⟨u1, rfl, (Option.some.inj hR).symm, by rw [ht]; exact hP, va_K.moved hW.alike hK, hD⟩, hS.F ht⟩) hS.2.2 dX9_takeOver_47
      · replace hR := ifn_ hR c2
        refine lv_aload_n hx hb dX9_takeOver_13 rfl (lv_at hl 0 rfl) ?_
        refine va_get (D := (dC, dI)) (ci := 9) (v := .ref (a1 1)) (C := RX9) (T := TX9) (N := 14) hx hb hts hin9 hown hK hP 0 rfl rfl 0 (by decide) (hts (.fieldLink RX9 10 "OldestCoins" "town" "LOldestCoins$Town;") (List.mem_of_getElem? (i := 3) rfl)) (fun _ h9 => h9) rfl dX9_takeOver_14 ?_
        refine va_get (D := (dC, dI)) (ci := 8) (v := .ref (a1 2)) (C := RX8) (T := TX8) (N := 4) hx hb hts hin8 hown hK hP 1 rfl rfl 1 (by decide) (hts (.fieldLink RX9 98 "OldestCoins$Town" "coins" "LOldestCoins$Coins;") (List.mem_of_getElem? (i := 4) rfl)) (fun _ h9 => h9) rfl dX9_takeOver_17 ?_
        refine va_get (D := (dC, dI)) (ci := 2) (v := .ref (a1 3)) (C := RX2) (T := TX2) (N := 6) hx hb hts hin2 hown hK hP 2 rfl rfl 1 (by decide) (hts (.fieldLink RX9 125 "OldestCoins$Coins" "holder" "[I") (List.mem_of_getElem? (i := 5) rfl)) (fun _ h9 => h9) rfl dX9_takeOver_20 ?_
        refine lv_aload_n hx hb dX9_takeOver_23 rfl (lv_at hl 0 rfl) ?_
        refine va_get (D := (dC, dI)) (ci := 9) (v := .ref (a1 31)) (C := RX9) (T := TX9) (N := 14) hx hb hts hin9 hown hK hP 0 rfl rfl 3 (by decide) (hts (.fieldLink RX9 22 "OldestCoins" "ranks" "LOldestCoins$Ranks;") (List.mem_of_getElem? (i := 1) rfl)) (fun _ h9 => h9) rfl dX9_takeOver_24 ?_
        refine va_get (D := (dC, dI)) (ci := 4) (v := .ref (a1 32)) (C := RX4) (T := TX4) (N := 6) hx hb hts hin4 hown hK hP 31 rfl rfl 1 (by decide) (hts (.fieldLink RX9 151 "OldestCoins$Ranks" "coinAt" "[I") (List.mem_of_getElem? (i := 6) rfl)) (fun _ h9 => h9) rfl dX9_takeOver_27 ?_
        refine lv_iload_n hx hb dX9_takeOver_30 rfl (lv_at hl 1 rfl) ?_
        have i3 := (ck_ok hR).1
        replace hR := (ck_ok hR).2
        refine va_iald (f := u1.2.2.2.1.2.1) hx hb hK hP 32 22 rfl rfl i3 dX9_takeOver_31 ?_
        refine lv_aload_n hx hb dX9_takeOver_32 rfl (lv_at hl 0 rfl) ?_
        refine va_get (D := (dC, dI)) (ci := 9) (v := .ref (a1 43)) (C := RX9) (T := TX9) (N := 14) hx hb hts hin9 hown hK hP 0 rfl rfl 6 (by decide) (hts (.fieldLink RX9 36 "OldestCoins" "board" "LOldestCoins$Board;") (List.mem_of_getElem? (i := 7) rfl)) (fun _ h9 => h9) rfl dX9_takeOver_33 ?_
        refine lv_iload_n hx hb dX9_takeOver_36 rfl (lv_at hl 1 rfl) ?_
        have hR0 := ob_ok hR
        clear hR
        obtain ⟨q4, hq4, hR⟩ := hR0
        refine va_calli (va_runV (As := [.int y1]) (rest := [.int (u1.2.2.2.1.2.1 y1.toNatClampNeg), .ref (a1 3)]) ⟨hx, hb, hml, hown, hts⟩ (cc_X1_holderAt l dC dI fu (sh_ a1 43) (sh_ k1 43) H.size y1 u1.2.2.2.2.2.2.1 q4 hq4) (cwV 1 hts gX9_takeOver_X1_holderAt rfl rfl rfl (by decide +kernel) ⟨Nat.le_of_ble_eq_true rfl, Nat.le_of_ble_eq_true rfl⟩) (pf_v (hK.sub (tys' := zt_1 (sh_ k1 43)) [32] rfl) (sub_P (sb_9__0c43 a1 k1 u1) hP) (sub_D (sb_9__0c43 a1 k1 u1) hD) 1 0 rfl rfl rfl) rfl rfl hl.1 rfl (lv_room (Nat.le_of_ble_eq_true rfl)) dX9_takeOver_37 ⟨Nat.le_refl _, Nat.le_refl _⟩) hS (fun q _ h => (sub_F (sb_9__0c43 a1 k1 u1) hD hS hA) q h) (sub_F (sb_9__0c43 a1 k1 u1) hD hS hA) (fun r4 v4 t4 H4 locs4 ht4 hvm4 hw4 hB4 hz4 hk4 hS4 => ?_)
        subst hw4
        obtain ⟨hP4, hD4⟩ := jn_sub (sb_9__0c43 a1 k1 u1) (jo_9__0c43__ a1 k1 u1 ) rfl hP hD hk4 ht4 hB4
        have hP4 : va_P (dC, dI) vwCl (zc_9 a1 k1 u1) H4 := hP4
        have hD4 : va_D A (zc_9 a1 k1 u1) := hD4
        clear hP hD hS hB4 hk4 hvm4 hz4 ht4
        have i5 := (ck_ok hR).1
        replace hR := (ck_ok hR).2
        refine va_iast (f := u1.1.2.1.2.1) hx hb hK hP4 hD4 hS4 3 0 rfl rfl i5 dX9_takeOver_40 (fun H5 locs5 hP5 hD5 hS5 => ?_)
        have hP5 : va_P (dC, dI) vwCl (zc_9 a1 k1 ((u1.1.1, (u1.1.2.1.1, (upd u1.1.2.1.2.1 (u1.2.2.2.1.2.1 y1.toNatClampNeg).toNatClampNeg q4), u1.1.2.1.2.2), u1.1.2.2), u1.2)) H5 := hP5
        have hD5 : va_D A (zc_9 a1 k1 ((u1.1.1, (u1.1.2.1.1, (upd u1.1.2.1.2.1 (u1.2.2.2.1.2.1 y1.toNatClampNeg).toNatClampNeg q4), u1.1.2.1.2.2), u1.1.2.2), u1.2)) := hD5
        clear hP4 hD4 hS4
        obtain ⟨z6, ez6⟩ : ∃ y : Int32, y = (y1 + (1 : Int32)) := ⟨_, rfl⟩
        replace hR := lt_ok hR ez6
        refine lv_iinc (v := z6) (lv' := [(1, .int z6), (0, .ref (a1 0))]) hx hb dX9_takeOver_41 hl (k := 1) rfl (by rw [ez6]; rfl) (by decide) rfl (fun ls6 hl6 => ?_)
        refine lv_goto (tgt := 2) hx hb dX9_takeOver_44 (by decide) ?_
        exact ih z6 ((u1.1.1, (u1.1.2.1.1, (upd u1.1.2.1.2.1 (u1.2.2.2.1.2.1 y1.toNatClampNeg).toNatClampNeg q4), u1.1.2.1.2.2), u1.1.2.2), u1.2) H5 locs5 ls6 hP5 hD5 hS5 (lv_sub hl6 [1, 0] rfl) hR
  unfold rr_X9_takeOver at hR
  refine lv_iconst (v := (0 : Int32)) hx hb dX9_takeOver_0 (by decide) ?_
  refine lv_istore_n (lv' := [(1, .int (0 : Int32)), (0, .ref (a1 0))]) hx hb dX9_takeOver_1 rfl hl (by decide) rfl (fun ls1 hl1 => ?_)
  exact hB2 fu (0 : Int32) s1 s.heap [] ls1 hP hD hS (lv_sub hl1 [1, 0] rfl) hR
def rr_X9_run (fu : Nat) (x1 : Int32) (s1 : ZT_9) : Option (Int32 × ZT_9) := (rr_X9_isWithin fu x1 (1 : Int32) (50 : Int32)).bind (fun q1 => (if q1 = (0 : Int32) then some ((-1 : Int32), s1) else (rr_X9_layOut fu s1).bind (fun q3 => (rr_X9_runDay_b fu x1 q3).bind (fun q4 => (rr_X9_takeOver fu q4.2).bind (fun q6 => some (q4.1, q6))))))
set_option maxHeartbeats 4000000 in
set_option maxRecDepth 100000 in
theorem cc_X9_run (l : Launch) (dC : Nat → ClassId) (dI : Nat → Nat → Nat) (fu : Nat) (a1 : Nat → Nat) (k1 : Nat → ClassId) (sz : Nat) (x1 : Int32) (s1 : ZT_9) (res : Int32 × ZT_9) (hR : rr_X9_run fu x1 s1 = some res) : Met l yX9_run wsX9_run ({ frames := 7, cells := 0, slots := 0, locals := 168 } : Room) (PcF [.ref (a1 0), .int x1] sz (dC, dI) (zc_9 a1 k1 s1) (zt_9 k1)) (va_Qi (fun (r : Int32) (u : ZT_9) => res = (r, u)) (fun u t => at3_ (dC, dI) (zc_9 a1 k1 u) (zt_9 k1) (va_A (zc_9 a1 k1 s1) sz) t) (va_A (zc_9 a1 k1 s1) sz)) 0 0 (va_A (zc_9 a1 k1 s1) sz) := by
  refine Met.ofW (cc := cX9_run) (maxL := 3) (ret := (some .int)) (by decide) rfl ?_
  intro p e s m args below meth c s₁ B hml hv
  obtain ⟨hav, hsz, hP, hK, hD0⟩ := hv
  have hx := B.exec
  have hb := B.bytes
  have hr := B.returns
  have hts := atoms_spec (ws := wsX9_run) B.pre
  have hown : s.vm.findClass RX9 = some m.cls := findClass_of_methodNamed B.named
  have hlocks := B.notSynchronized
  have hin9 : ∀ w ∈ wsX90, w ∈ wsX9_run := fun w h => List.mem_cons_of_mem _ (List.mem_append_left _ (List.mem_append_left _ (List.mem_append_left _ (List.mem_append_left _ (List.mem_append_left _ (List.mem_append_right _ h))))))
  subst hsz
  have hD := hD0.self (sz := s.heap.size)
  clear hD0
  generalize hAe : va_A (zc_9 a1 k1 s1) s.heap.size = A at hD ⊢
  have hA : ∀ q : Nat, s.heap.size ≤ q → A q := fun q h => by rw [← hAe]; exact Or.inr h
  have hS : va_S A s.heap s.heap [] := va_S.rf
  generalize hQe : MQ below _ args s 0 0 A = Q
  rw [show entryFrame m args 3 = F0 m 0 ((lg_sl ([.ref (a1 0), .int x1]) ++ List.replicate (3 - (lg_sl ([.ref (a1 0), .int x1])).length) Slot.unset).toArray) [] from by rw [hav]; exact lg_entry_eq m _ _]
  have hl := lv_entry ([.ref (a1 0), .int x1]) (n := 3) (Nat.le_of_ble_eq_true rfl)
  generalize (lg_sl ([.ref (a1 0), .int x1]) ++ List.replicate (3 - (lg_sl ([.ref (a1 0), .int x1])).length) Slot.unset).toArray = ls at hl ⊢
  have hl : lv_has ls 3 [(0, .ref (a1 0)), (1, .int x1)] := hl
  unfold rr_X9_run at hR
  refine lv_iload_n hx hb dX9_run_0 rfl (lv_at hl 1 rfl) ?_
  refine lv_iconst (v := (1 : Int32)) hx hb dX9_run_1 (by decide) ?_
  refine lv_bipush (v := (50 : Int32)) hx hb dX9_run_2 (by decide) ?_
  have hR0 := ob_ok hR
  clear hR
  obtain ⟨q1, hq1, hR⟩ := hR0
  refine va_calli (va_runS (As := [.int x1, .int (1 : Int32), .int (50 : Int32)]) (rest := []) ⟨hx, hb, hml, hown, hts⟩ (cc_X9_isWithin l dC dI fu s.heap.size x1 (1 : Int32) (50 : Int32) q1 hq1) (va_cwS 3 hts gX9_run_X9_isWithin rfl rfl rfl (by decide +kernel) ⟨Nat.le_of_ble_eq_true rfl, Nat.le_of_ble_eq_true rfl⟩) (pf_s (nil_K hK) nil_P (nil_D (A := A))) rfl rfl hl.1 rfl (lv_room (Nat.le_of_ble_eq_true rfl)) dX9_run_4 ⟨Nat.le_refl _, Nat.le_refl _⟩) hS (fun q _ h => (fr_none hS hA) q h) (fr_none hS hA) (fun r1 v1 t1 H1 locs1 ht1 hvm1 hw1 hB1 hz1 hk1 hS1 => ?_)
  subst hw1
  have hP1 := jn_none hP hk1
  have hD1 := hD
  have hP1 : va_P (dC, dI) vwCl (zc_9 a1 k1 s1) H1 := hP1
  have hD1 : va_D A (zc_9 a1 k1 s1) := hD1
  clear hP hD hS hB1 hk1 hvm1 hz1 ht1
  refine lv_if_ne (tgt := 12) hx hb dX9_run_7 (by decide) (fun c2 => ?_) (fun c2 => ?_)
  · replace hR := ifn_ hR c2
    refine lv_aload_n hx hb dX9_run_12 rfl (lv_at hl 0 rfl) ?_
    have hR0 := ob_ok hR
    clear hR
    obtain ⟨q3, hq3, hR⟩ := hR0
    refine va_callv (va_runV (As := []) (rest := []) ⟨hx, hb, hml, hown, hts⟩ (cc_X9_layOut l dC dI fu a1 k1 H1.size s1 q3 hq3) (cwV 0 hts gX9_run_X9_layOut rfl rfl rfl (by decide +kernel) ⟨Nat.le_of_ble_eq_true rfl, Nat.le_of_ble_eq_true rfl⟩) (pf_v hK hP1 hD1 9 0 rfl rfl rfl) rfl rfl hl.1 rfl (lv_room (Nat.le_of_ble_eq_true rfl)) dX9_run_13 ⟨Nat.le_refl _, Nat.le_refl _⟩) hS1 (fun q _ h => (fr_all hD1 hS1 hA) q h) (fr_all hD1 hS1 hA) (fun v3 t3 H3 locs3 ht3 hvm3 hw3 hB3 hz3 hk3 hS3 => ?_)
    subst hw3
    obtain ⟨hP3, hD3⟩ := jn_all hD1 hS1 hA ht3 hB3
    have hP3 : va_P (dC, dI) vwCl (zc_9 a1 k1 q3) H3 := hP3
    have hD3 : va_D A (zc_9 a1 k1 q3) := hD3
    clear hP1 hD1 hS1 hB3 hk3 hvm3 hz3 ht3
    refine lv_aload_n hx hb dX9_run_16 rfl (lv_at hl 0 rfl) ?_
    refine lv_aload_n hx hb dX9_run_17 rfl (lv_at hl 0 rfl) ?_
    refine va_get (D := (dC, dI)) (ci := 9) (v := .ref (a1 43)) (C := RX9) (T := TX9) (N := 14) hx hb hts hin9 hown hK hP3 0 rfl rfl 6 (by decide) (hts (.fieldLink RX9 36 "OldestCoins" "board" "LOldestCoins$Board;") (List.mem_of_getElem? (i := 1) rfl)) (fun _ h9 => h9) rfl dX9_run_18 ?_
    refine lv_aload_n hx hb dX9_run_21 rfl (lv_at hl 0 rfl) ?_
    refine va_get (D := (dC, dI)) (ci := 9) (v := .ref (a1 31)) (C := RX9) (T := TX9) (N := 14) hx hb hts hin9 hown hK hP3 0 rfl rfl 3 (by decide) (hts (.fieldLink RX9 22 "OldestCoins" "ranks" "LOldestCoins$Ranks;") (List.mem_of_getElem? (i := 2) rfl)) (fun _ h9 => h9) rfl dX9_run_22 ?_
    refine lv_iload_n hx hb dX9_run_25 rfl (lv_at hl 1 rfl) ?_
    have hR0 := ob_ok hR
    clear hR
    obtain ⟨q4, hq4, hR⟩ := hR0
    refine va_calli (va_runV (As := [.ref (a1 43), .ref (a1 31), .int x1]) (rest := []) ⟨hx, hb, hml, hown, hts⟩ (cc_X9_runDay_b l dC dI fu a1 k1 H3.size x1 q3 q4 hq4) (cwV 3 hts gX9_run_X9_runDay rfl rfl rfl (by decide +kernel) ⟨Nat.le_of_ble_eq_true rfl, Nat.le_of_ble_eq_true rfl⟩) (pf_v hK hP3 hD3 9 0 rfl rfl rfl) rfl rfl hl.1 rfl (lv_room (Nat.le_of_ble_eq_true rfl)) dX9_run_26 ⟨Nat.le_refl _, Nat.le_refl _⟩) hS3 (fun q _ h => (fr_all hD3 hS3 hA) q h) (fr_all hD3 hS3 hA) (fun r4 v4 t4 H4 locs4 ht4 hvm4 hw4 hB4 hz4 hk4 hS4 => ?_)
    obtain rfl : r4 = q4.1 := (congrArg Prod.fst hw4).symm
    obtain rfl : v4 = q4.2 := (congrArg Prod.snd hw4).symm
    obtain ⟨hP4, hD4⟩ := jn_all hD3 hS3 hA ht4 hB4
    have hP4 : va_P (dC, dI) vwCl (zc_9 a1 k1 q4.2) H4 := hP4
    have hD4 : va_D A (zc_9 a1 k1 q4.2) := hD4
    clear hP3 hD3 hS3 hB4 hk4 hvm4 hz4 ht4
    refine lv_istore_n (lv' := [(2, .int q4.1), (0, .ref (a1 0)), (1, .int x1)]) hx hb dX9_run_29 rfl hl (by decide) rfl (fun ls5 hl5 => ?_)
    refine lv_aload_n hx hb dX9_run_30 rfl (lv_at hl5 1 rfl) ?_
    have hR0 := ob_ok hR
    clear hR
    obtain ⟨q6, hq6, hR⟩ := hR0
    refine va_callv (va_runV (As := []) (rest := []) ⟨hx, hb, hml, hown, hts⟩ (cc_X9_takeOver l dC dI fu a1 k1 H4.size q4.2 q6 hq6) (cwV 0 hts gX9_run_X9_takeOver rfl rfl rfl (by decide +kernel) ⟨Nat.le_of_ble_eq_true rfl, Nat.le_of_ble_eq_true rfl⟩) (pf_v hK hP4 hD4 9 0 rfl rfl rfl) rfl rfl hl5.1 rfl (lv_room (Nat.le_of_ble_eq_true rfl)) dX9_run_31 ⟨Nat.le_refl _, Nat.le_refl _⟩) hS4 (fun q _ h => (fr_all hD4 hS4 hA) q h) (fr_all hD4 hS4 hA) (fun v6 t6 H6 locs6 ht6 hvm6 hw6 hB6 hz6 hk6 hS6 => ?_)
    subst hw6
    obtain ⟨hP6, hD6⟩ := jn_all hD4 hS4 hA ht6 hB6
    have hP6 : va_P (dC, dI) vwCl (zc_9 a1 k1 q6) H6 := hP6
    have hD6 : va_D A (zc_9 a1 k1 q6) := hD6
    clear hP4 hD4 hS4 hB6 hk6 hvm6 hz6 ht6
    refine lv_iload_n hx hb dX9_run_34 rfl (lv_at hl5 0 rfl) ?_
    subst hQe
    exact W.iret (v := q4.1) hx hb hr (fun t ht hW => ⟨⟨q4.1, q6, rfl, (Option.some.inj hR).symm, by rw [ht]; exact hP6, va_K.moved hW.alike hK, hD6⟩, hS6.F ht⟩) hS6.2.2 dX9_run_35
  · replace hR := ifp_ hR c2
    refine lv_iconst (v := (-1 : Int32)) hx hb dX9_run_10 (by decide) ?_
    subst hQe
    exact W.iret (v := (-1 : Int32)) hx hb hr (fun t ht hW => ⟨⟨(-1 : Int32), s1, rfl, (Option.some.inj hR).symm, by rw [ht]; exact hP1, va_K.moved hW.alike hK, hD1⟩, hS1.F ht⟩) hS1.2.2 dX9_run_11
