def rr_X10_type_75_b (fu : Nat) (rec75 : Int64 → Int32 → ZT_10 → Option (Int32 × ZT_10)) (y1 : Int64) (y4 : Int32) (u1 : ZT_10) : Option (Int32 × ZT_10) := (if y4 < (0 : Int32) then some (u1.2.2.2.2.1.2.1, u1) else lt_ (α := Int32) ((y1 >>> (((8 : Int32) * y4).toInt64 &&& 63)) &&& (255 : Int64)).toInt32 (fun z13 => ck_ u1.2.2.2.2.1.2.1 160 (lt_ (α := Int32) (u1.2.2.2.2.1.2.1 + (1 : Int32)) (fun z15 => lt_ (α := Int32) (y4 + (-1 : Int32)) (fun z17 => rec75 y1 z17 (u1.1, u1.2.1, u1.2.2.1, u1.2.2.2.1, ((upd u1.2.2.2.2.1.1 u1.2.2.2.2.1.2.1.toNatClampNeg z13), z15, u1.2.2.2.2.1.2.2), u1.2.2.2.2.2))))))
def rr_X10_type_75 (fu : Nat) (n : Nat) : Int64 → Int32 → ZT_10 → Option (Int32 × ZT_10) := lp_ (fun _ _ _ => none) (rr_X10_type_75_b fu) n
def rr_X10_type_19_b (fu : Nat) (rec19 : Int64 → Int32 → Int32 → ZT_10 → Option (Int32 × ZT_10)) (y1 : Int64) (y3 : Int32) (y4 : Int32) (u1 : ZT_10) : Option (Int32 × ZT_10) := (if y4 < (0 : Int32) then (if (u1.2.2.2.2.1.2.1 + y3) ≤ (160 : Int32) then lt_ (α := Int32) (y3 - (1 : Int32)) (fun z7 => rr_X10_type_75 fu fu y1 z7 u1) else some ((-3 : Int32), u1)) else (rr_X10_in fu ((y1 >>> (((8 : Int32) * y4).toInt64 &&& 63)) &&& (255 : Int64)) (32 : Int64) (126 : Int64)).bind (fun q9 => (if q9 = (0 : Int32) then some ((-1 : Int32), u1) else lt_ (α := Int32) (y4 + (-1 : Int32)) (fun z11 => rec19 y1 y3 z11 u1))))
def rr_X10_type_19 (fu : Nat) (n : Nat) : Int64 → Int32 → Int32 → ZT_10 → Option (Int32 × ZT_10) := lp_ (fun _ _ _ _ => none) (rr_X10_type_19_b fu) n
def rr_X10_type (fu : Nat) (x1 : Int64) (x3 : Int32) (s1 : ZT_10) : Option (Int32 × ZT_10) := (rr_X10_in fu x3.toInt64 (1 : Int64) (8 : Int64)).bind (fun q1 => (if q1 = (0 : Int32) then some ((-1 : Int32), s1) else lt_ (α := Int32) (x3 - (1 : Int32)) (fun z3 => rr_X10_type_19 fu fu x1 x3 z3 s1)))
set_option maxHeartbeats 4000000 in
set_option maxRecDepth 100000 in
theorem cc_X10_type (l : Launch) (dC : Nat → ClassId) (dI : Nat → Nat → Nat) (fu : Nat) (a1 : Nat → Nat) (k1 : Nat → ClassId) (sz : Nat) (x1 : Int64) (x3 : Int32) (s1 : ZT_10) (res : Int32 × ZT_10) (hR : rr_X10_type fu x1 x3 s1 = some res) : Met l yX10_type wsX10_type ({ frames := 1, cells := 0, slots := 0, locals := 25 } : Room) (PcF [.ref (a1 0), .long x1, .int x3] sz (dC, dI) (zc_10 a1 k1 s1) (zt_10 k1)) (va_Qi (fun (r : Int32) (u : ZT_10) => res = (r, u)) (fun u t => at3_ (dC, dI) (zc_10 a1 k1 u) (zt_10 k1) (va_A (zc_10 a1 k1 s1) sz) t) (va_A (zc_10 a1 k1 s1) sz)) 0 0 (va_A (zc_10 a1 k1 s1) sz) := by
  refine Met.ofW (cc := cX10_type) (maxL := 5) (ret := (some .int)) (by decide) rfl ?_
  intro p e s m args below meth c s₁ B hml hv
  obtain ⟨hav, hsz, hP, hK, hD0⟩ := hv
  have hx := B.exec
  have hb := B.bytes
  have hr := B.returns
  have hts := atoms_spec (ws := wsX10_type) B.pre
  have hown : s.vm.findClass RX10 = some m.cls := findClass_of_methodNamed B.named
  have hlocks := B.notSynchronized
  have hin10 : ∀ w ∈ wsX100, w ∈ wsX10_type := fun w h => List.mem_cons_of_mem _ (List.mem_append_right _ h)
  subst hsz
  have hD := hD0.self (sz := s.heap.size)
  clear hD0
  generalize hAe : va_A (zc_10 a1 k1 s1) s.heap.size = A at hD ⊢
  have hA : ∀ q : Nat, s.heap.size ≤ q → A q := fun q h => by rw [← hAe]; exact Or.inr h
  have hS : va_S A s.heap s.heap [] := va_S.rf
  generalize hQe : MQ below _ args s 0 0 A = Q
  rw [show entryFrame m args 5 = F0 m 0 ((lg_sl ([.ref (a1 0), .long x1, .int x3]) ++ List.replicate (5 - (lg_sl ([.ref (a1 0), .long x1, .int x3])).length) Slot.unset).toArray) [] from by rw [hav]; exact lg_entry_eq m _ _]
  have hl := lv_entry ([.ref (a1 0), .long x1, .int x3]) (n := 5) (Nat.le_of_ble_eq_true rfl)
  generalize (lg_sl ([.ref (a1 0), .long x1, .int x3]) ++ List.replicate (5 - (lg_sl ([.ref (a1 0), .long x1, .int x3])).length) Slot.unset).toArray = ls at hl ⊢
  have hl : lv_has ls 5 [(0, .ref (a1 0)), (1, .long x1), (3, .int x3)] := hl
  have hB75 : ∀ (n : Nat), ∀ (y1 : Int64) (y4 : Int32) (u1 : ZT_10) (H : Heap) (locs : List Loc) (ls : Array Slot), va_P (dC, dI) vwCl (zc_10 a1 k1 u1) H → va_D A (zc_10 a1 k1 u1) → va_S A s.heap H locs → lv_has ls 5 [(0, .ref (a1 0)), (1, .long y1), (4, .int y4)] → rr_X10_type_75 fu n y1 y4 u1 = some res → W p l e ({ frames := 1, cells := 0, slots := 0, locals := 25 } : Room) s m args below meth c H locs 0 0 Q (F0 m 75 ls []) := by
    intro  n
    induction n with
    | zero => intro y1 y4 u1 H locs ls hP hD hS hl hR; exact absurd hR (by intro h; cases h)
    | succ n ih =>
      intro y1 y4 u1 H locs ls hP hD hS hl hR
      replace hR : rr_X10_type_75_b fu (rr_X10_type_75 fu n) y1 y4 u1 = some res := hR
      unfold rr_X10_type_75_b at hR
      refine lv_iload hx hb dX10_type_75 (lv_at hl 2 rfl) ?_
      refine lv_if_lt (tgt := 117) hx hb dX10_type_77 (by decide) (fun c12 => ?_) (fun c12 => ?_)
      · replace hR := ifp_ hR c12
        refine lv_aload_n hx hb dX10_type_117 rfl (lv_at hl 0 rfl) ?_
        refine va_get (D := (dC, dI)) (ci := 10) (v := .int u1.2.2.2.2.1.2.1) (C := RX10) (T := TX10) (N := 35) hx hb hts hin10 hown hK hP 0 rfl rfl 15 (by decide) (hts (.fieldLink RX10 146 "OldestCoinsModel" "taped" "I") (List.mem_of_getElem? (i := 5) rfl)) (fun _ h9 => h9) rfl dX10_type_118 ?_
        subst hQe
        exact W.iret (v := u1.2.2.2.2.1.2.1) hx hb hr (fun t ht hW => ⟨⟨u1.2.2.2.2.1.2.1, u1, rfl, (Option.some.inj hR).symm, by rw [ht]; exact hP, va_K.moved hW.alike hK, hD⟩, hS.F ht⟩) hS.2.2 dX10_type_121
      · replace hR := ifn_ hR c12
        refine lv_aload_n hx hb dX10_type_80 rfl (lv_at hl 0 rfl) ?_
        refine va_get (D := (dC, dI)) (ci := 10) (v := .ref (a1 10)) (C := RX10) (T := TX10) (N := 35) hx hb hts hin10 hown hK hP 0 rfl rfl 14 (by decide) (hts (.fieldLink RX10 37 "OldestCoinsModel" "tape" "[I") (List.mem_of_getElem? (i := 6) rfl)) (fun _ h9 => h9) rfl dX10_type_81 ?_
        refine lv_aload_n hx hb dX10_type_84 rfl (lv_at hl 0 rfl) ?_
        refine va_get (D := (dC, dI)) (ci := 10) (v := .int u1.2.2.2.2.1.2.1) (C := RX10) (T := TX10) (N := 35) hx hb hts hin10 hown hK hP 0 rfl rfl 15 (by decide) (hts (.fieldLink RX10 146 "OldestCoinsModel" "taped" "I") (List.mem_of_getElem? (i := 5) rfl)) (fun _ h9 => h9) rfl dX10_type_85 ?_
        refine lv_lload_n hx hb dX10_type_88 rfl (lv_at hl 1 rfl) ?_
        refine lv_bipush (v := (8 : Int32)) hx hb dX10_type_89 (by decide) ?_
        refine lv_iload hx hb dX10_type_91 (lv_at hl 2 rfl) ?_
        refine lv_imul hx hb dX10_type_93 ?_
        refine lv_lshr (v := (y1 >>> (((8 : Int32) * y4).toInt64 &&& 63))) hx hb dX10_type_94 rfl ?_
        refine lv_ldc2 (v := (255 : Int64)) hx hb hown (hts (.constantLong RX10 140 (255)) (List.mem_of_getElem? (i := 2) rfl)) dX10_type_95 ?_
        refine lv_land hx hb dX10_type_98 ?_
        refine lv_l2i (v := ((y1 >>> (((8 : Int32) * y4).toInt64 &&& 63)) &&& (255 : Int64)).toInt32) hx hb dX10_type_99 rfl ?_
        refine lv_topi (fun z13 ez13 => ?_)
        replace hR := lt_ok hR ez13
        have i14 := (ck_ok hR).1
        replace hR := (ck_ok hR).2
        refine va_iast (f := u1.2.2.2.2.1.1) hx hb hK hP hD hS 10 9 rfl rfl i14 dX10_type_100 (fun H14 locs14 hP14 hD14 hS14 => ?_)
        have hP14 : va_P (dC, dI) vwCl (zc_10 a1 k1 (u1.1, u1.2.1, u1.2.2.1, u1.2.2.2.1, ((upd u1.2.2.2.2.1.1 u1.2.2.2.2.1.2.1.toNatClampNeg z13), u1.2.2.2.2.1.2), u1.2.2.2.2.2)) H14 := hP14
        have hD14 : va_D A (zc_10 a1 k1 (u1.1, u1.2.1, u1.2.2.1, u1.2.2.2.1, ((upd u1.2.2.2.2.1.1 u1.2.2.2.2.1.2.1.toNatClampNeg z13), u1.2.2.2.2.1.2), u1.2.2.2.2.2)) := hD14
        clear hP hD hS
        refine lv_aload_n hx hb dX10_type_101 rfl (lv_at hl 0 rfl) ?_
        refine lv_dup hx hb dX10_type_102 rfl ?_
        refine va_get (D := (dC, dI)) (ci := 10) (v := .int u1.2.2.2.2.1.2.1) (C := RX10) (T := TX10) (N := 35) hx hb hts hin10 hown hK hP14 0 rfl rfl 15 (by decide) (hts (.fieldLink RX10 146 "OldestCoinsModel" "taped" "I") (List.mem_of_getElem? (i := 5) rfl)) (fun _ h9 => h9) rfl dX10_type_103 ?_
        refine lv_iconst (v := (1 : Int32)) hx hb dX10_type_106 (by decide) ?_
        refine lv_iadd hx hb dX10_type_107 ?_
        refine lv_topi (fun z15 ez15 => ?_)
        replace hR := lt_ok hR ez15
        refine va_put (D := (dC, dI)) (ci := 10) (v := .int z15) (ty := .int) (C := RX10) (T := TX10) (N := 35) hx hb hts hin10 tyX10 tyX10_ok nmX10 hown hK hP14 hD14 hS14 0 rfl rfl 15 (by decide) (hts (.fieldLink RX10 146 "OldestCoinsModel" "taped" "I") (List.mem_of_getElem? (i := 5) rfl)) (fun _ h9 => h9) rfl (by decide +kernel) rfl rfl (Nat.le_of_ble_eq_true rfl) dX10_type_108 (fun H16 locs16 hP16 hD16 hS16 => ?_)
        have hP16 : va_P (dC, dI) vwCl (zc_10 a1 k1 (u1.1, u1.2.1, u1.2.2.1, u1.2.2.2.1, ((upd u1.2.2.2.2.1.1 u1.2.2.2.2.1.2.1.toNatClampNeg z13), z15, u1.2.2.2.2.1.2.2), u1.2.2.2.2.2)) H16 := hP16
        have hD16 : va_D A (zc_10 a1 k1 (u1.1, u1.2.1, u1.2.2.1, u1.2.2.2.1, ((upd u1.2.2.2.2.1.1 u1.2.2.2.2.1.2.1.toNatClampNeg z13), z15, u1.2.2.2.2.1.2.2), u1.2.2.2.2.2)) := hD16
        clear hP14 hD14 hS14
        obtain ⟨z17, ez17⟩ : ∃ y : Int32, y = (y4 + (-1 : Int32)) := ⟨_, rfl⟩
        replace hR := lt_ok hR ez17
        refine lv_iinc (v := z17) (lv' := [(4, .int z17), (0, .ref (a1 0)), (1, .long y1)]) hx hb dX10_type_111 hl (k := 2) rfl (by rw [ez17]; rfl) (by decide) rfl (fun ls17 hl17 => ?_)
        refine lv_goto (tgt := 75) hx hb dX10_type_114 (by decide) ?_
        exact ih y1 z17 (u1.1, u1.2.1, u1.2.2.1, u1.2.2.2.1, ((upd u1.2.2.2.2.1.1 u1.2.2.2.2.1.2.1.toNatClampNeg z13), z15, u1.2.2.2.2.1.2.2), u1.2.2.2.2.2) H16 locs16 ls17 hP16 hD16 hS16 (lv_sub hl17 [1, 2, 0] rfl) hR
  have hB19 : ∀ (n : Nat), ∀ (y1 : Int64) (y3 : Int32) (y4 : Int32) (u1 : ZT_10) (H : Heap) (locs : List Loc) (ls : Array Slot), va_P (dC, dI) vwCl (zc_10 a1 k1 u1) H → va_D A (zc_10 a1 k1 u1) → va_S A s.heap H locs → lv_has ls 5 [(0, .ref (a1 0)), (1, .long y1), (3, .int y3), (4, .int y4)] → rr_X10_type_19 fu n y1 y3 y4 u1 = some res → W p l e ({ frames := 1, cells := 0, slots := 0, locals := 25 } : Room) s m args below meth c H locs 0 0 Q (F0 m 19 ls []) := by
    intro  n
    induction n with
    | zero => intro y1 y3 y4 u1 H locs ls hP hD hS hl hR; exact absurd hR (by intro h; cases h)
    | succ n ih =>
      intro y1 y3 y4 u1 H locs ls hP hD hS hl hR
      replace hR : rr_X10_type_19_b fu (rr_X10_type_19 fu n) y1 y3 y4 u1 = some res := hR
      unfold rr_X10_type_19_b at hR
      refine lv_iload hx hb dX10_type_19 (lv_at hl 3 rfl) ?_
      refine lv_if_lt (tgt := 55) hx hb dX10_type_21 (by decide) (fun c5 => ?_) (fun c5 => ?_)
      · replace hR := ifp_ hR c5
        refine lv_aload_n hx hb dX10_type_55 rfl (lv_at hl 0 rfl) ?_
        refine va_get (D := (dC, dI)) (ci := 10) (v := .int u1.2.2.2.2.1.2.1) (C := RX10) (T := TX10) (N := 35) hx hb hts hin10 hown hK hP 0 rfl rfl 15 (by decide) (hts (.fieldLink RX10 146 "OldestCoinsModel" "taped" "I") (List.mem_of_getElem? (i := 5) rfl)) (fun _ h9 => h9) rfl dX10_type_56 ?_
        refine lv_iload_n hx hb dX10_type_59 rfl (lv_at hl 2 rfl) ?_
        refine lv_iadd hx hb dX10_type_60 ?_
        refine lv_sipush (v := (160 : Int32)) hx hb dX10_type_61 (by decide) ?_
        refine lv_icmp_le (tgt := 70) hx hb dX10_type_64 (by decide) (fun c6 => ?_) (fun c6 => ?_)
        · replace hR := ifp_ hR c6
          refine lv_iload_n hx hb dX10_type_70 rfl (lv_at hl 2 rfl) ?_
          refine lv_iconst (v := (1 : Int32)) hx hb dX10_type_71 (by decide) ?_
          refine lv_isub hx hb dX10_type_72 ?_
          refine lv_topi (fun z7 ez7 => ?_)
          replace hR := lt_ok hR ez7
          refine lv_istore (lv' := [(4, .int z7), (0, .ref (a1 0)), (1, .long y1), (3, .int y3)]) hx hb dX10_type_73 hl (by decide) rfl (fun ls8 hl8 => ?_)
          exact hB75 fu y1 z7 u1 H locs ls8 hP hD hS (lv_sub hl8 [1, 2, 0] rfl) hR
        · replace hR := ifn_ hR c6
          refine lv_bipush (v := (-3 : Int32)) hx hb dX10_type_67 (by decide) ?_
          subst hQe
          exact W.iret (v := (-3 : Int32)) hx hb hr (fun t ht hW => ⟨⟨(-3 : Int32), u1, rfl, (Option.some.inj hR).symm, by rw [ht]; exact hP, va_K.moved hW.alike hK, hD⟩, hS.F ht⟩) hS.2.2 dX10_type_69
      · replace hR := ifn_ hR c5
        refine lv_lload_n hx hb dX10_type_24 rfl (lv_at hl 1 rfl) ?_
        refine lv_bipush (v := (8 : Int32)) hx hb dX10_type_25 (by decide) ?_
        refine lv_iload hx hb dX10_type_27 (lv_at hl 3 rfl) ?_
        refine lv_imul hx hb dX10_type_29 ?_
        refine lv_lshr (v := (y1 >>> (((8 : Int32) * y4).toInt64 &&& 63))) hx hb dX10_type_30 rfl ?_
        refine lv_ldc2 (v := (255 : Int64)) hx hb hown (hts (.constantLong RX10 140 (255)) (List.mem_of_getElem? (i := 2) rfl)) dX10_type_31 ?_
        refine lv_land hx hb dX10_type_34 ?_
        refine lv_ldc2 (v := (32 : Int64)) hx hb hown (hts (.constantLong RX10 142 (32)) (List.mem_of_getElem? (i := 3) rfl)) dX10_type_35 ?_
        refine lv_ldc2 (v := (126 : Int64)) hx hb hown (hts (.constantLong RX10 144 (126)) (List.mem_of_getElem? (i := 4) rfl)) dX10_type_38 ?_
        have hR0 := ob_ok hR
        clear hR
        obtain ⟨q9, hq9, hR⟩ := hR0
        refine va_calli (va_runS (As := [.long ((y1 >>> (((8 : Int32) * y4).toInt64 &&& 63)) &&& (255 : Int64)), .long (32 : Int64), .long (126 : Int64)]) (rest := []) ⟨hx, hb, hml, hown, hts⟩ (cc_X10_in l dC dI fu H.size ((y1 >>> (((8 : Int32) * y4).toInt64 &&& 63)) &&& (255 : Int64)) (32 : Int64) (126 : Int64) q9 hq9) (va_cwS 3 hts gX10_type_X10_in rfl rfl rfl (by decide +kernel) ⟨Nat.le_of_ble_eq_true rfl, Nat.le_of_ble_eq_true rfl⟩) (pf_s (nil_K hK) nil_P (nil_D (A := A))) rfl rfl hl.1 rfl (lv_room (Nat.le_of_ble_eq_true rfl)) dX10_type_41 ⟨Nat.le_refl _, Nat.le_refl _⟩) hS (fun q _ h => (fr_none hS hA) q h) (fr_none hS hA) (fun r9 v9 t9 H9 locs9 ht9 hvm9 hw9 hB9 hz9 hk9 hS9 => ?_)
        subst hw9
        have hP9 := jn_none hP hk9
        have hD9 := hD
        have hP9 : va_P (dC, dI) vwCl (zc_10 a1 k1 u1) H9 := hP9
        have hD9 : va_D A (zc_10 a1 k1 u1) := hD9
        clear hP hD hS hB9 hk9 hvm9 hz9 ht9
        refine lv_if_ne (tgt := 49) hx hb dX10_type_44 (by decide) (fun c10 => ?_) (fun c10 => ?_)
        · replace hR := ifn_ hR c10
          obtain ⟨z11, ez11⟩ : ∃ y : Int32, y = (y4 + (-1 : Int32)) := ⟨_, rfl⟩
          replace hR := lt_ok hR ez11
          refine lv_iinc (v := z11) (lv' := [(4, .int z11), (0, .ref (a1 0)), (1, .long y1), (3, .int y3)]) hx hb dX10_type_49 hl (k := 3) rfl (by rw [ez11]; rfl) (by decide) rfl (fun ls11 hl11 => ?_)
          refine lv_goto (tgt := 19) hx hb dX10_type_52 (by decide) ?_
          exact ih y1 y3 z11 u1 H9 locs9 ls11 hP9 hD9 hS9 (lv_sub hl11 [1, 2, 3, 0] rfl) hR
        · replace hR := ifp_ hR c10
          refine lv_iconst (v := (-1 : Int32)) hx hb dX10_type_47 (by decide) ?_
          subst hQe
          exact W.iret (v := (-1 : Int32)) hx hb hr (fun t ht hW => ⟨⟨(-1 : Int32), u1, rfl, (Option.some.inj hR).symm, by rw [ht]; exact hP9, va_K.moved hW.alike hK, hD9⟩, hS9.F ht⟩) hS9.2.2 dX10_type_48
  unfold rr_X10_type at hR
  refine lv_iload_n hx hb dX10_type_0 rfl (lv_at hl 2 rfl) ?_
  refine lv_i2l (v := x3.toInt64) hx hb dX10_type_1 rfl ?_
  refine lv_lconst (v := (1 : Int64)) hx hb dX10_type_2 (by decide) ?_
  refine lv_ldc2 (v := (8 : Int64)) hx hb hown (hts (.constantLong RX10 138 (8)) (List.mem_of_getElem? (i := 1) rfl)) dX10_type_3 ?_
  have hR0 := ob_ok hR
  clear hR
  obtain ⟨q1, hq1, hR⟩ := hR0
  refine va_calli (va_runS (As := [.long x3.toInt64, .long (1 : Int64), .long (8 : Int64)]) (rest := []) ⟨hx, hb, hml, hown, hts⟩ (cc_X10_in l dC dI fu s.heap.size x3.toInt64 (1 : Int64) (8 : Int64) q1 hq1) (va_cwS 3 hts gX10_type_X10_in rfl rfl rfl (by decide +kernel) ⟨Nat.le_of_ble_eq_true rfl, Nat.le_of_ble_eq_true rfl⟩) (pf_s (nil_K hK) nil_P (nil_D (A := A))) rfl rfl hl.1 rfl (lv_room (Nat.le_of_ble_eq_true rfl)) dX10_type_6 ⟨Nat.le_refl _, Nat.le_refl _⟩) hS (fun q _ h => (fr_none hS hA) q h) (fr_none hS hA) (fun r1 v1 t1 H1 locs1 ht1 hvm1 hw1 hB1 hz1 hk1 hS1 => ?_)
  subst hw1
  have hP1 := jn_none hP hk1
  have hD1 := hD
  have hP1 : va_P (dC, dI) vwCl (zc_10 a1 k1 s1) H1 := hP1
  have hD1 : va_D A (zc_10 a1 k1 s1) := hD1
  clear hP hD hS hB1 hk1 hvm1 hz1 ht1
  refine lv_if_ne (tgt := 14) hx hb dX10_type_9 (by decide) (fun c2 => ?_) (fun c2 => ?_)
  · replace hR := ifn_ hR c2
    refine lv_iload_n hx hb dX10_type_14 rfl (lv_at hl 2 rfl) ?_
    refine lv_iconst (v := (1 : Int32)) hx hb dX10_type_15 (by decide) ?_
    refine lv_isub hx hb dX10_type_16 ?_
    refine lv_topi (fun z3 ez3 => ?_)
    replace hR := lt_ok hR ez3
    refine lv_istore (lv' := [(4, .int z3), (0, .ref (a1 0)), (1, .long x1), (3, .int x3)]) hx hb dX10_type_17 hl (by decide) rfl (fun ls4 hl4 => ?_)
    exact hB19 fu x1 x3 z3 s1 H1 locs1 ls4 hP1 hD1 hS1 (lv_sub hl4 [1, 2, 3, 0] rfl) hR
  · replace hR := ifp_ hR c2
    refine lv_iconst (v := (-1 : Int32)) hx hb dX10_type_12 (by decide) ?_
    subst hQe
    exact W.iret (v := (-1 : Int32)) hx hb hr (fun t ht hW => ⟨⟨(-1 : Int32), s1, rfl, (Option.some.inj hR).symm, by rw [ht]; exact hP1, va_K.moved hW.alike hK, hD1⟩, hS1.F ht⟩) hS1.2.2 dX10_type_13
def rr_X10_of_39 (fu : Nat) (y1 : Int32) (y2 : Int32) (w0 : Int32) (w1 : Int32) (u1 : ZT_10) : Option (Int32 × ZT_10) := (rr_X10_findRow fu w1 w0 u1).bind (fun q7 => (if y2 = (0 : Int32) then some (q7.2.2.2.1.2, q7) else (if y2 = (1 : Int32) then (rr_X10_worthOf fu y1 q7).bind (fun q12 => some (q12, q7)) else (if q7.2.2.2.1.2 = (0 : Int32) then some ((-4 : Int32), q7) else ck_ (0 : Int32) 40 (some ((q7.2.2.2.1.1 (0 : Int32).toNatClampNeg), q7))))))
def rr_X10_of (fu : Nat) (x1 : Int32) (x2 : Int32) (s1 : ZT_10) : Option (Int32 × ZT_10) := (rr_X10_isHolder fu x1).bind (fun q1 => (if q1 = (0 : Int32) then some ((-1 : Int32), s1) else (rr_X10_in fu x2.toInt64 (0 : Int64) (3 : Int64)).bind (fun q3 => (if q3 = (0 : Int32) then some ((-1 : Int32), s1) else (if x2 = (3 : Int32) then (rr_X10_backLaw fu s1).bind (fun q6 => rr_X10_of_39 fu x1 x2 q6 x1 s1) else rr_X10_of_39 fu x1 x2 s1.1.2.2.2.2.2.2 x1 s1)))))
set_option maxHeartbeats 4000000 in
set_option maxRecDepth 100000 in
theorem cc_X10_of (l : Launch) (dC : Nat → ClassId) (dI : Nat → Nat → Nat) (fu : Nat) (a1 : Nat → Nat) (k1 : Nat → ClassId) (sz : Nat) (x1 : Int32) (x2 : Int32) (s1 : ZT_10) (res : Int32 × ZT_10) (hR : rr_X10_of fu x1 x2 s1 = some res) : Met l yX10_of wsX10_of ({ frames := 4, cells := 0, slots := 0, locals := 91 } : Room) (PcF [.ref (a1 0), .int x1, .int x2] sz (dC, dI) (zc_10 a1 k1 s1) (zt_10 k1)) (va_Qi (fun (r : Int32) (u : ZT_10) => res = (r, u)) (fun u t => at3_ (dC, dI) (zc_10 a1 k1 u) (zt_10 k1) (va_A (zc_10 a1 k1 s1) sz) t) (va_A (zc_10 a1 k1 s1) sz)) 0 0 (va_A (zc_10 a1 k1 s1) sz) := by
  refine Met.ofW (cc := cX10_of) (maxL := 3) (ret := (some .int)) (by decide) rfl ?_
  intro p e s m args below meth c s₁ B hml hv
  obtain ⟨hav, hsz, hP, hK, hD0⟩ := hv
  have hx := B.exec
  have hb := B.bytes
  have hr := B.returns
  have hts := atoms_spec (ws := wsX10_of) B.pre
  have hown : s.vm.findClass RX10 = some m.cls := findClass_of_methodNamed B.named
  have hlocks := B.notSynchronized
  have hin10 : ∀ w ∈ wsX100, w ∈ wsX10_of := fun w h => List.mem_cons_of_mem _ (List.mem_append_right _ h)
  subst hsz
  have hD := hD0.self (sz := s.heap.size)
  clear hD0
  generalize hAe : va_A (zc_10 a1 k1 s1) s.heap.size = A at hD ⊢
  have hA : ∀ q : Nat, s.heap.size ≤ q → A q := fun q h => by rw [← hAe]; exact Or.inr h
  have hS : va_S A s.heap s.heap [] := va_S.rf
  generalize hQe : MQ below _ args s 0 0 A = Q
  rw [show entryFrame m args 3 = F0 m 0 ((lg_sl ([.ref (a1 0), .int x1, .int x2]) ++ List.replicate (3 - (lg_sl ([.ref (a1 0), .int x1, .int x2])).length) Slot.unset).toArray) [] from by rw [hav]; exact lg_entry_eq m _ _]
  have hl := lv_entry ([.ref (a1 0), .int x1, .int x2]) (n := 3) (Nat.le_of_ble_eq_true rfl)
  generalize (lg_sl ([.ref (a1 0), .int x1, .int x2]) ++ List.replicate (3 - (lg_sl ([.ref (a1 0), .int x1, .int x2])).length) Slot.unset).toArray = ls at hl ⊢
  have hl : lv_has ls 3 [(0, .ref (a1 0)), (1, .int x1), (2, .int x2)] := hl
  have hB39 : ∀ (y1 : Int32) (y2 : Int32) (w0 : Int32) (w1 : Int32) (u1 : ZT_10) (H : Heap) (locs : List Loc) (ls : Array Slot), va_P (dC, dI) vwCl (zc_10 a1 k1 u1) H → va_D A (zc_10 a1 k1 u1) → va_S A s.heap H locs → lv_has ls 3 [(0, .ref (a1 0)), (1, .int y1), (2, .int y2)] → rr_X10_of_39 fu y1 y2 w0 w1 u1 = some res → W p l e ({ frames := 4, cells := 0, slots := 0, locals := 91 } : Room) s m args below meth c H locs 0 0 Q (F0 m 39 ls [.int w0, .int w1, .ref (a1 0)]) := by
    intro  y1 y2 w0 w1 u1 H locs ls hP hD hS hl hR
    unfold rr_X10_of_39 at hR
    have hR0 := ob_ok hR
    clear hR
    obtain ⟨q7, hq7, hR⟩ := hR0
    refine va_callv (va_runV (As := [.int w1, .int w0]) (rest := []) ⟨hx, hb, hml, hown, hts⟩ (cc_X10_findRow l dC dI fu a1 k1 H.size w1 w0 u1 q7 hq7) (cwV 2 hts gX10_of_X10_findRow rfl rfl rfl (by decide +kernel) ⟨Nat.le_of_ble_eq_true rfl, Nat.le_of_ble_eq_true rfl⟩) (pf_v hK hP hD 10 0 rfl rfl rfl) rfl rfl hl.1 rfl (lv_room (Nat.le_of_ble_eq_true rfl)) dX10_of_39 ⟨Nat.le_refl _, Nat.le_refl _⟩) hS (fun q _ h => (fr_all hD hS hA) q h) (fr_all hD hS hA) (fun v7 t7 H7 locs7 ht7 hvm7 hw7 hB7 hz7 hk7 hS7 => ?_)
    subst hw7
    obtain ⟨hP7, hD7⟩ := jn_all hD hS hA ht7 hB7
    have hP7 : va_P (dC, dI) vwCl (zc_10 a1 k1 q7) H7 := hP7
    have hD7 : va_D A (zc_10 a1 k1 q7) := hD7
    clear hP hD hS hB7 hk7 hvm7 hz7 ht7
    refine lv_iload_n hx hb dX10_of_42 rfl (lv_at hl 2 rfl) ?_
    refine lv_if_ne (tgt := 53) hx hb dX10_of_43 (by decide) (fun c8 => ?_) (fun c8 => ?_)
    · replace hR := ifn_ hR c8
      refine lv_iload_n hx hb dX10_of_53 rfl (lv_at hl 2 rfl) ?_
      refine lv_iconst (v := (1 : Int32)) hx hb dX10_of_54 (by decide) ?_
      refine lv_icmp_ne (tgt := 66) hx hb dX10_of_55 (by decide) (fun c9 => ?_) (fun c9 => ?_)
      · replace hR := ifn_ hR c9
        refine lv_aload_n hx hb dX10_of_66 rfl (lv_at hl 0 rfl) ?_
        refine va_get (D := (dC, dI)) (ci := 10) (v := .int q7.2.2.2.1.2) (C := RX10) (T := TX10) (N := 35) hx hb hts hin10 hown hK hP7 0 rfl rfl 13 (by decide) (hts (.fieldLink RX10 114 "OldestCoinsModel" "rowSize" "I") (List.mem_of_getElem? (i := 3) rfl)) (fun _ h9 => h9) rfl dX10_of_67 ?_
        refine lv_if_ne (tgt := 78) hx hb dX10_of_70 (by decide) (fun c10 => ?_) (fun c10 => ?_)
        · replace hR := ifn_ hR c10
          refine lv_aload_n hx hb dX10_of_78 rfl (lv_at hl 0 rfl) ?_
          refine va_get (D := (dC, dI)) (ci := 10) (v := .ref (a1 9)) (C := RX10) (T := TX10) (N := 35) hx hb hts hin10 hown hK hP7 0 rfl rfl 12 (by decide) (hts (.fieldLink RX10 34 "OldestCoinsModel" "row" "[I") (List.mem_of_getElem? (i := 4) rfl)) (fun _ h9 => h9) rfl dX10_of_79 ?_
          refine lv_iconst (v := (0 : Int32)) hx hb dX10_of_82 (by decide) ?_
          have i11 := (ck_ok hR).1
          replace hR := (ck_ok hR).2
          refine va_iald (f := q7.2.2.2.1.1) hx hb hK hP7 9 8 rfl rfl i11 dX10_of_83 ?_
          subst hQe
          exact W.iret (v := (q7.2.2.2.1.1 (0 : Int32).toNatClampNeg)) hx hb hr (fun t ht hW => ⟨⟨(q7.2.2.2.1.1 (0 : Int32).toNatClampNeg), q7, rfl, (Option.some.inj hR).symm, by rw [ht]; exact hP7, va_K.moved hW.alike hK, hD7⟩, hS7.F ht⟩) hS7.2.2 dX10_of_84
        · replace hR := ifp_ hR c10
          refine lv_bipush (v := (-4 : Int32)) hx hb dX10_of_73 (by decide) ?_
          refine lv_goto (tgt := 84) hx hb dX10_of_75 (by decide) ?_
          subst hQe
          exact W.iret (v := (-4 : Int32)) hx hb hr (fun t ht hW => ⟨⟨(-4 : Int32), q7, rfl, (Option.some.inj hR).symm, by rw [ht]; exact hP7, va_K.moved hW.alike hK, hD7⟩, hS7.F ht⟩) hS7.2.2 dX10_of_84
      · replace hR := ifp_ hR c9
        refine lv_aload_n hx hb dX10_of_58 rfl (lv_at hl 0 rfl) ?_
        refine lv_iload_n hx hb dX10_of_59 rfl (lv_at hl 1 rfl) ?_
        have hR0 := ob_ok hR
        clear hR
        obtain ⟨q12, hq12, hR⟩ := hR0
        refine va_calli (va_runV (As := [.int y1]) (rest := []) ⟨hx, hb, hml, hown, hts⟩ (cc_X10_worthOf l dC dI fu a1 k1 H7.size y1 q7 q12 hq12) (cwV 1 hts gX10_of_X10_worthOf rfl rfl rfl (by decide +kernel) ⟨Nat.le_of_ble_eq_true rfl, Nat.le_of_ble_eq_true rfl⟩) (pf_v hK hP7 hD7 10 0 rfl rfl rfl) rfl rfl hl.1 rfl (lv_room (Nat.le_of_ble_eq_true rfl)) dX10_of_60 ⟨Nat.le_refl _, Nat.le_refl _⟩) hS7 (fun q _ h => (fr_all hD7 hS7 hA) q h) (fr_all hD7 hS7 hA) (fun r12 v12 t12 H12 locs12 ht12 hvm12 hw12 hB12 hz12 hk12 hS12 => ?_)
        subst hw12
        obtain ⟨hP12, hD12⟩ := jn_all hD7 hS7 hA ht12 hB12
        have hP12 : va_P (dC, dI) vwCl (zc_10 a1 k1 q7) H12 := hP12
        have hD12 : va_D A (zc_10 a1 k1 q7) := hD12
        clear hP7 hD7 hS7 hB12 hk12 hvm12 hz12 ht12
        refine lv_goto (tgt := 84) hx hb dX10_of_63 (by decide) ?_
        subst hQe
        exact W.iret (v := q12) hx hb hr (fun t ht hW => ⟨⟨q12, q7, rfl, (Option.some.inj hR).symm, by rw [ht]; exact hP12, va_K.moved hW.alike hK, hD12⟩, hS12.F ht⟩) hS12.2.2 dX10_of_84
    · replace hR := ifp_ hR c8
      refine lv_aload_n hx hb dX10_of_46 rfl (lv_at hl 0 rfl) ?_
      refine va_get (D := (dC, dI)) (ci := 10) (v := .int q7.2.2.2.1.2) (C := RX10) (T := TX10) (N := 35) hx hb hts hin10 hown hK hP7 0 rfl rfl 13 (by decide) (hts (.fieldLink RX10 114 "OldestCoinsModel" "rowSize" "I") (List.mem_of_getElem? (i := 3) rfl)) (fun _ h9 => h9) rfl dX10_of_47 ?_
      refine lv_goto (tgt := 84) hx hb dX10_of_50 (by decide) ?_
      subst hQe
      exact W.iret (v := q7.2.2.2.1.2) hx hb hr (fun t ht hW => ⟨⟨q7.2.2.2.1.2, q7, rfl, (Option.some.inj hR).symm, by rw [ht]; exact hP7, va_K.moved hW.alike hK, hD7⟩, hS7.F ht⟩) hS7.2.2 dX10_of_84
  unfold rr_X10_of at hR
  refine lv_iload_n hx hb dX10_of_0 rfl (lv_at hl 1 rfl) ?_
  have hR0 := ob_ok hR
  clear hR
  obtain ⟨q1, hq1, hR⟩ := hR0
  refine va_calli (va_runS (As := [.int x1]) (rest := []) ⟨hx, hb, hml, hown, hts⟩ (cc_X10_isHolder l dC dI fu s.heap.size x1 q1 hq1) (va_cwS 1 hts gX10_of_X10_isHolder rfl rfl rfl (by decide +kernel) ⟨Nat.le_of_ble_eq_true rfl, Nat.le_of_ble_eq_true rfl⟩) (pf_s (nil_K hK) nil_P (nil_D (A := A))) rfl rfl hl.1 rfl (lv_room (Nat.le_of_ble_eq_true rfl)) dX10_of_1 ⟨Nat.le_refl _, Nat.le_refl _⟩) hS (fun q _ h => (fr_none hS hA) q h) (fr_none hS hA) (fun r1 v1 t1 H1 locs1 ht1 hvm1 hw1 hB1 hz1 hk1 hS1 => ?_)
  subst hw1
  have hP1 := jn_none hP hk1
  have hD1 := hD
  have hP1 : va_P (dC, dI) vwCl (zc_10 a1 k1 s1) H1 := hP1
  have hD1 : va_D A (zc_10 a1 k1 s1) := hD1
  clear hP hD hS hB1 hk1 hvm1 hz1 ht1
  refine lv_if_eq (tgt := 19) hx hb dX10_of_4 (by decide) (fun c2 => ?_) (fun c2 => ?_)
  · replace hR := ifp_ hR c2
    refine lv_iconst (v := (-1 : Int32)) hx hb dX10_of_19 (by decide) ?_
    subst hQe
    exact W.iret (v := (-1 : Int32)) hx hb hr (fun t ht hW => ⟨⟨(-1 : Int32), s1, rfl, (Option.some.inj hR).symm, by rw [ht]; exact hP1, va_K.moved hW.alike hK, hD1⟩, hS1.F ht⟩) hS1.2.2 dX10_of_20
  · replace hR := ifn_ hR c2
    refine lv_iload_n hx hb dX10_of_7 rfl (lv_at hl 2 rfl) ?_
    refine lv_i2l (v := x2.toInt64) hx hb dX10_of_8 rfl ?_
    refine lv_lconst (v := (0 : Int64)) hx hb dX10_of_9 (by decide) ?_
    refine lv_ldc2 (v := (3 : Int64)) hx hb hown (hts (.constantLong RX10 84 (3)) (List.mem_of_getElem? (i := 1) rfl)) dX10_of_10 ?_
    have hR0 := ob_ok hR
    clear hR
    obtain ⟨q3, hq3, hR⟩ := hR0
    refine va_calli (va_runS (As := [.long x2.toInt64, .long (0 : Int64), .long (3 : Int64)]) (rest := []) ⟨hx, hb, hml, hown, hts⟩ (cc_X10_in l dC dI fu H1.size x2.toInt64 (0 : Int64) (3 : Int64) q3 hq3) (va_cwS 3 hts gX10_of_X10_in rfl rfl rfl (by decide +kernel) ⟨Nat.le_of_ble_eq_true rfl, Nat.le_of_ble_eq_true rfl⟩) (pf_s (nil_K hK) nil_P (nil_D (A := A))) rfl rfl hl.1 rfl (lv_room (Nat.le_of_ble_eq_true rfl)) dX10_of_13 ⟨Nat.le_refl _, Nat.le_refl _⟩) hS1 (fun q _ h => (fr_none hS1 hA) q h) (fr_none hS1 hA) (fun r3 v3 t3 H3 locs3 ht3 hvm3 hw3 hB3 hz3 hk3 hS3 => ?_)
    subst hw3
    have hP3 := jn_none hP1 hk3
    have hD3 := hD1
    have hP3 : va_P (dC, dI) vwCl (zc_10 a1 k1 s1) H3 := hP3
    have hD3 : va_D A (zc_10 a1 k1 s1) := hD3
    clear hP1 hD1 hS1 hB3 hk3 hvm3 hz3 ht3
    refine lv_if_ne (tgt := 21) hx hb dX10_of_16 (by decide) (fun c4 => ?_) (fun c4 => ?_)
    · replace hR := ifn_ hR c4
      refine lv_aload_n hx hb dX10_of_21 rfl (lv_at hl 0 rfl) ?_
      refine lv_iload_n hx hb dX10_of_22 rfl (lv_at hl 1 rfl) ?_
      refine lv_iload_n hx hb dX10_of_23 rfl (lv_at hl 2 rfl) ?_
      refine lv_iconst (v := (3 : Int32)) hx hb dX10_of_24 (by decide) ?_
      refine lv_icmp_ne (tgt := 35) hx hb dX10_of_25 (by decide) (fun c5 => ?_) (fun c5 => ?_)
      · replace hR := ifn_ hR c5
        refine lv_aload_n hx hb dX10_of_35 rfl (lv_at hl 0 rfl) ?_
        refine va_get (D := (dC, dI)) (ci := 10) (v := .int s1.1.2.2.2.2.2.2) (C := RX10) (T := TX10) (N := 35) hx hb hts hin10 hown hK hP3 0 rfl rfl 6 (by decide) (hts (.fieldLink RX10 111 "OldestCoinsModel" "law" "I") (List.mem_of_getElem? (i := 2) rfl)) (fun _ h9 => h9) rfl dX10_of_36 ?_
        exact hB39 x1 x2 s1.1.2.2.2.2.2.2 x1 s1 H3 locs3 ls hP3 hD3 hS3 (lv_sub hl [0, 1, 2] rfl) hR
      · replace hR := ifp_ hR c5
        refine lv_aload_n hx hb dX10_of_28 rfl (lv_at hl 0 rfl) ?_
        have hR0 := ob_ok hR
        clear hR
        obtain ⟨q6, hq6, hR⟩ := hR0
        refine va_calli (va_runV (As := []) (rest := [.int x1, .ref (a1 0)]) ⟨hx, hb, hml, hown, hts⟩ (cc_X10_backLaw l dC dI fu a1 k1 H3.size s1 q6 hq6) (cwV 0 hts gX10_of_X10_backLaw rfl rfl rfl (by decide +kernel) ⟨Nat.le_of_ble_eq_true rfl, Nat.le_of_ble_eq_true rfl⟩) (pf_v hK hP3 hD3 10 0 rfl rfl rfl) rfl rfl hl.1 rfl (lv_room (Nat.le_of_ble_eq_true rfl)) dX10_of_29 ⟨Nat.le_refl _, Nat.le_refl _⟩) hS3 (fun q _ h => (fr_all hD3 hS3 hA) q h) (fr_all hD3 hS3 hA) (fun r6 v6 t6 H6 locs6 ht6 hvm6 hw6 hB6 hz6 hk6 hS6 => ?_)
        subst hw6
        obtain ⟨hP6, hD6⟩ := jn_all hD3 hS3 hA ht6 hB6
        have hP6 : va_P (dC, dI) vwCl (zc_10 a1 k1 s1) H6 := hP6
        have hD6 : va_D A (zc_10 a1 k1 s1) := hD6
        clear hP3 hD3 hS3 hB6 hk6 hvm6 hz6 ht6
        refine lv_goto (tgt := 39) hx hb dX10_of_32 (by decide) ?_
        exact hB39 x1 x2 q6 x1 s1 H6 locs6 ls hP6 hD6 hS6 (lv_sub hl [0, 1, 2] rfl) hR
    · replace hR := ifp_ hR c4
      refine lv_iconst (v := (-1 : Int32)) hx hb dX10_of_19 (by decide) ?_
      subst hQe
      exact W.iret (v := (-1 : Int32)) hx hb hr (fun t ht hW => ⟨⟨(-1 : Int32), s1, rfl, (Option.some.inj hR).symm, by rw [ht]; exact hP3, va_K.moved hW.alike hK, hD3⟩, hS3.F ht⟩) hS3.2.2 dX10_of_20
def rr_X10_rule (fu : Nat) (x1 : Int32) (s1 : ZT_10) : Option (Int32 × ZT_10) := (rr_X10_in fu x1.toInt64 (0 : Int64) (3 : Int64)).bind (fun q1 => (if q1 = (0 : Int32) then some ((-1 : Int32), s1) else some (s1.1.2.2.2.2.2.2, ((s1.1.1, s1.1.2.1, s1.1.2.2.1, s1.1.2.2.2.1, s1.1.2.2.2.2.1, s1.1.2.2.2.2.2.1, x1), s1.2))))
set_option maxHeartbeats 4000000 in
set_option maxRecDepth 100000 in
theorem cc_X10_rule (l : Launch) (dC : Nat → ClassId) (dI : Nat → Nat → Nat) (fu : Nat) (a1 : Nat → Nat) (k1 : Nat → ClassId) (sz : Nat) (x1 : Int32) (s1 : ZT_10) (res : Int32 × ZT_10) (hR : rr_X10_rule fu x1 s1 = some res) : Met l yX10_rule wsX10_rule ({ frames := 1, cells := 0, slots := 0, locals := 25 } : Room) (PcF [.ref (a1 0), .int x1] sz (dC, dI) (zc_10 a1 k1 s1) (zt_10 k1)) (va_Qi (fun (r : Int32) (u : ZT_10) => res = (r, u)) (fun u t => at3_ (dC, dI) (zc_10 a1 k1 u) (zt_10 k1) (va_A (zc_10 a1 k1 s1) sz) t) (va_A (zc_10 a1 k1 s1) sz)) 0 0 (va_A (zc_10 a1 k1 s1) sz) := by
  refine Met.ofW (cc := cX10_rule) (maxL := 3) (ret := (some .int)) (by decide) rfl ?_
  intro p e s m args below meth c s₁ B hml hv
  obtain ⟨hav, hsz, hP, hK, hD0⟩ := hv
  have hx := B.exec
  have hb := B.bytes
  have hr := B.returns
  have hts := atoms_spec (ws := wsX10_rule) B.pre
  have hown : s.vm.findClass RX10 = some m.cls := findClass_of_methodNamed B.named
  have hlocks := B.notSynchronized
  have hin10 : ∀ w ∈ wsX100, w ∈ wsX10_rule := fun w h => List.mem_cons_of_mem _ (List.mem_append_right _ h)
  subst hsz
  have hD := hD0.self (sz := s.heap.size)
  clear hD0
  generalize hAe : va_A (zc_10 a1 k1 s1) s.heap.size = A at hD ⊢
  have hA : ∀ q : Nat, s.heap.size ≤ q → A q := fun q h => by rw [← hAe]; exact Or.inr h
  have hS : va_S A s.heap s.heap [] := va_S.rf
  generalize hQe : MQ below _ args s 0 0 A = Q
  rw [show entryFrame m args 3 = F0 m 0 ((lg_sl ([.ref (a1 0), .int x1]) ++ List.replicate (3 - (lg_sl ([.ref (a1 0), .int x1])).length) Slot.unset).toArray) [] from by rw [hav]; exact lg_entry_eq m _ _]
  have hl := lv_entry ([.ref (a1 0), .int x1]) (n := 3) (Nat.le_of_ble_eq_true rfl)
  generalize (lg_sl ([.ref (a1 0), .int x1]) ++ List.replicate (3 - (lg_sl ([.ref (a1 0), .int x1])).length) Slot.unset).toArray = ls at hl ⊢
  have hl : lv_has ls 3 [(0, .ref (a1 0)), (1, .int x1)] := hl
  unfold rr_X10_rule at hR
  refine lv_iload_n hx hb dX10_rule_0 rfl (lv_at hl 1 rfl) ?_
  refine lv_i2l (v := x1.toInt64) hx hb dX10_rule_1 rfl ?_
  refine lv_lconst (v := (0 : Int64)) hx hb dX10_rule_2 (by decide) ?_
  refine lv_ldc2 (v := (3 : Int64)) hx hb hown (hts (.constantLong RX10 84 (3)) (List.mem_of_getElem? (i := 1) rfl)) dX10_rule_3 ?_
  have hR0 := ob_ok hR
  clear hR
  obtain ⟨q1, hq1, hR⟩ := hR0
  refine va_calli (va_runS (As := [.long x1.toInt64, .long (0 : Int64), .long (3 : Int64)]) (rest := []) ⟨hx, hb, hml, hown, hts⟩ (cc_X10_in l dC dI fu s.heap.size x1.toInt64 (0 : Int64) (3 : Int64) q1 hq1) (va_cwS 3 hts gX10_rule_X10_in rfl rfl rfl (by decide +kernel) ⟨Nat.le_of_ble_eq_true rfl, Nat.le_of_ble_eq_true rfl⟩) (pf_s (nil_K hK) nil_P (nil_D (A := A))) rfl rfl hl.1 rfl (lv_room (Nat.le_of_ble_eq_true rfl)) dX10_rule_6 ⟨Nat.le_refl _, Nat.le_refl _⟩) hS (fun q _ h => (fr_none hS hA) q h) (fr_none hS hA) (fun r1 v1 t1 H1 locs1 ht1 hvm1 hw1 hB1 hz1 hk1 hS1 => ?_)
  subst hw1
  have hP1 := jn_none hP hk1
  have hD1 := hD
  have hP1 : va_P (dC, dI) vwCl (zc_10 a1 k1 s1) H1 := hP1
  have hD1 : va_D A (zc_10 a1 k1 s1) := hD1
  clear hP hD hS hB1 hk1 hvm1 hz1 ht1
  refine lv_if_ne (tgt := 14) hx hb dX10_rule_9 (by decide) (fun c2 => ?_) (fun c2 => ?_)
  · replace hR := ifn_ hR c2
    refine lv_aload_n hx hb dX10_rule_14 rfl (lv_at hl 0 rfl) ?_
    refine va_get (D := (dC, dI)) (ci := 10) (v := .int s1.1.2.2.2.2.2.2) (C := RX10) (T := TX10) (N := 35) hx hb hts hin10 hown hK hP1 0 rfl rfl 6 (by decide) (hts (.fieldLink RX10 111 "OldestCoinsModel" "law" "I") (List.mem_of_getElem? (i := 2) rfl)) (fun _ h9 => h9) rfl dX10_rule_15 ?_
    refine lv_istore_n (lv' := [(2, .int s1.1.2.2.2.2.2.2), (0, .ref (a1 0)), (1, .int x1)]) hx hb dX10_rule_18 rfl hl (by decide) rfl (fun ls3 hl3 => ?_)
    refine lv_aload_n hx hb dX10_rule_19 rfl (lv_at hl3 1 rfl) ?_
    refine lv_iload_n hx hb dX10_rule_20 rfl (lv_at hl3 2 rfl) ?_
    refine va_put (D := (dC, dI)) (ci := 10) (v := .int x1) (ty := .int) (C := RX10) (T := TX10) (N := 35) hx hb hts hin10 tyX10 tyX10_ok nmX10 hown hK hP1 hD1 hS1 0 rfl rfl 6 (by decide) (hts (.fieldLink RX10 111 "OldestCoinsModel" "law" "I") (List.mem_of_getElem? (i := 2) rfl)) (fun _ h9 => h9) rfl (by decide +kernel) rfl rfl (Nat.le_of_ble_eq_true rfl) dX10_rule_21 (fun H4 locs4 hP4 hD4 hS4 => ?_)
    have hP4 : va_P (dC, dI) vwCl (zc_10 a1 k1 ((s1.1.1, s1.1.2.1, s1.1.2.2.1, s1.1.2.2.2.1, s1.1.2.2.2.2.1, s1.1.2.2.2.2.2.1, x1), s1.2)) H4 := hP4
    have hD4 : va_D A (zc_10 a1 k1 ((s1.1.1, s1.1.2.1, s1.1.2.2.1, s1.1.2.2.2.1, s1.1.2.2.2.2.1, s1.1.2.2.2.2.2.1, x1), s1.2)) := hD4
    clear hP1 hD1 hS1
    refine lv_iload_n hx hb dX10_rule_24 rfl (lv_at hl3 0 rfl) ?_
    subst hQe
    exact W.iret (v := s1.1.2.2.2.2.2.2) hx hb hr (fun t ht hW => ⟨⟨s1.1.2.2.2.2.2.2, ((s1.1.1, s1.1.2.1, s1.1.2.2.1, s1.1.2.2.2.1, s1.1.2.2.2.2.1, s1.1.2.2.2.2.2.1, x1), s1.2), rfl, (Option.some.inj hR).symm, by rw [ht]; exact hP4, va_K.moved hW.alike hK, hD4⟩, hS4.F ht⟩) hS4.2.2 dX10_rule_25
  · replace hR := ifp_ hR c2
    refine lv_iconst (v := (-1 : Int32)) hx hb dX10_rule_12 (by decide) ?_
    subst hQe
    exact W.iret (v := (-1 : Int32)) hx hb hr (fun t ht hW => ⟨⟨(-1 : Int32), s1, rfl, (Option.some.inj hR).symm, by rw [ht]; exact hP1, va_K.moved hW.alike hK, hD1⟩, hS1.F ht⟩) hS1.2.2 dX10_rule_13
def rr_X10_older (fu : Nat) (x1 : Int32) (x2 : Int32) (s1 : ZT_10) : Option (Int32) := (rr_X10_isCoin fu x1 s1).bind (fun q1 => (if q1 = (0 : Int32) then some (-1 : Int32) else (rr_X10_isCoin fu x2 s1).bind (fun q3 => (if q3 = (0 : Int32) then some (-1 : Int32) else (if x1 = x2 then some (-1 : Int32) else (rr_X10_isOlder fu x1 x2 s1).bind (fun q6 => (if q6 = (0 : Int32) then some x2 else some x1)))))))
set_option maxHeartbeats 4000000 in
set_option maxRecDepth 100000 in
theorem cc_X10_older (l : Launch) (dC : Nat → ClassId) (dI : Nat → Nat → Nat) (fu : Nat) (a1 : Nat → Nat) (k1 : Nat → ClassId) (sz : Nat) (x1 : Int32) (x2 : Int32) (s1 : ZT_10) (res : Int32) (hR : rr_X10_older fu x1 x2 s1 = some res) : Met l yX10_older wsX10_older ({ frames := 2, cells := 0, slots := 0, locals := 46 } : Room) (PcF [.ref (a1 0), .int x1, .int x2] sz (dC, dI) (zc_10 a1 k1 s1) (zt_10 k1)) (va_Qi (fun (r : Int32) (u : Unit) => res = r) (fun u t => at3_ (dC, dI) (zc_10 a1 k1 s1) (zt_10 k1) (va_A (zc_10 a1 k1 s1) sz) t) (va_A (zc_10 a1 k1 s1) sz)) 0 0 (va_A (zc_10 a1 k1 s1) sz) := by
  refine Met.ofW (cc := cX10_older) (maxL := 3) (ret := (some .int)) (by decide) rfl ?_
  intro p e s m args below meth c s₁ B hml hv
  obtain ⟨hav, hsz, hP, hK, hD0⟩ := hv
  have hx := B.exec
  have hb := B.bytes
  have hr := B.returns
  have hts := atoms_spec (ws := wsX10_older) B.pre
  have hown : s.vm.findClass RX10 = some m.cls := findClass_of_methodNamed B.named
  have hlocks := B.notSynchronized
  subst hsz
  have hD := hD0.self (sz := s.heap.size)
  clear hD0
  generalize hAe : va_A (zc_10 a1 k1 s1) s.heap.size = A at hD ⊢
  have hA : ∀ q : Nat, s.heap.size ≤ q → A q := fun q h => by rw [← hAe]; exact Or.inr h
  have hS : va_S A s.heap s.heap [] := va_S.rf
  generalize hQe : MQ below _ args s 0 0 A = Q
  rw [show entryFrame m args 3 = F0 m 0 ((lg_sl ([.ref (a1 0), .int x1, .int x2]) ++ List.replicate (3 - (lg_sl ([.ref (a1 0), .int x1, .int x2])).length) Slot.unset).toArray) [] from by rw [hav]; exact lg_entry_eq m _ _]
  have hl := lv_entry ([.ref (a1 0), .int x1, .int x2]) (n := 3) (Nat.le_of_ble_eq_true rfl)
  generalize (lg_sl ([.ref (a1 0), .int x1, .int x2]) ++ List.replicate (3 - (lg_sl ([.ref (a1 0), .int x1, .int x2])).length) Slot.unset).toArray = ls at hl ⊢
  have hl : lv_has ls 3 [(0, .ref (a1 0)), (1, .int x1), (2, .int x2)] := hl
  unfold rr_X10_older at hR
  refine lv_aload_n hx hb dX10_older_0 rfl (lv_at hl 0 rfl) ?_
  refine lv_iload_n hx hb dX10_older_1 rfl (lv_at hl 1 rfl) ?_
  have hR0 := ob_ok hR
  clear hR
  obtain ⟨q1, hq1, hR⟩ := hR0
  refine va_calli (va_runV (As := [.int x1]) (rest := []) ⟨hx, hb, hml, hown, hts⟩ (cc_X10_isCoin l dC dI fu a1 k1 s.heap.size x1 s1 q1 hq1) (cwV 1 hts gX10_older_X10_isCoin rfl rfl rfl (by decide +kernel) ⟨Nat.le_of_ble_eq_true rfl, Nat.le_of_ble_eq_true rfl⟩) (pf_v hK hP hD 10 0 rfl rfl rfl) rfl rfl hl.1 rfl (lv_room (Nat.le_of_ble_eq_true rfl)) dX10_older_2 ⟨Nat.le_refl _, Nat.le_refl _⟩) hS (fun q _ h => (fr_all hD hS hA) q h) (fr_all hD hS hA) (fun r1 v1 t1 H1 locs1 ht1 hvm1 hw1 hB1 hz1 hk1 hS1 => ?_)
  subst hw1
  obtain ⟨hP1, hD1⟩ := jn_all hD hS hA ht1 hB1
  have hP1 : va_P (dC, dI) vwCl (zc_10 a1 k1 s1) H1 := hP1
  have hD1 : va_D A (zc_10 a1 k1 s1) := hD1
  clear hP hD hS hB1 hk1 hvm1 hz1 ht1
  refine lv_if_eq (tgt := 21) hx hb dX10_older_5 (by decide) (fun c2 => ?_) (fun c2 => ?_)
  · replace hR := ifp_ hR c2
    refine lv_iconst (v := (-1 : Int32)) hx hb dX10_older_21 (by decide) ?_
    refine lv_goto (tgt := 39) hx hb dX10_older_22 (by decide) ?_
    subst hQe
    exact W.iret (v := (-1 : Int32)) hx hb hr (fun t ht hW => ⟨⟨(-1 : Int32), (), rfl, (Option.some.inj hR).symm, by rw [ht]; exact hP1, va_K.moved hW.alike hK, hD1⟩, hS1.F ht⟩) hS1.2.2 dX10_older_39
  · replace hR := ifn_ hR c2
    refine lv_aload_n hx hb dX10_older_8 rfl (lv_at hl 0 rfl) ?_
    refine lv_iload_n hx hb dX10_older_9 rfl (lv_at hl 2 rfl) ?_
    have hR0 := ob_ok hR
    clear hR
    obtain ⟨q3, hq3, hR⟩ := hR0
    refine va_calli (va_runV (As := [.int x2]) (rest := []) ⟨hx, hb, hml, hown, hts⟩ (cc_X10_isCoin l dC dI fu a1 k1 H1.size x2 s1 q3 hq3) (cwV 1 hts gX10_older_X10_isCoin rfl rfl rfl (by decide +kernel) ⟨Nat.le_of_ble_eq_true rfl, Nat.le_of_ble_eq_true rfl⟩) (pf_v hK hP1 hD1 10 0 rfl rfl rfl) rfl rfl hl.1 rfl (lv_room (Nat.le_of_ble_eq_true rfl)) dX10_older_10 ⟨Nat.le_refl _, Nat.le_refl _⟩) hS1 (fun q _ h => (fr_all hD1 hS1 hA) q h) (fr_all hD1 hS1 hA) (fun r3 v3 t3 H3 locs3 ht3 hvm3 hw3 hB3 hz3 hk3 hS3 => ?_)
    subst hw3
    obtain ⟨hP3, hD3⟩ := jn_all hD1 hS1 hA ht3 hB3
    have hP3 : va_P (dC, dI) vwCl (zc_10 a1 k1 s1) H3 := hP3
    have hD3 : va_D A (zc_10 a1 k1 s1) := hD3
    clear hP1 hD1 hS1 hB3 hk3 hvm3 hz3 ht3
    refine lv_if_eq (tgt := 21) hx hb dX10_older_13 (by decide) (fun c4 => ?_) (fun c4 => ?_)
    · replace hR := ifp_ hR c4
      refine lv_iconst (v := (-1 : Int32)) hx hb dX10_older_21 (by decide) ?_
      refine lv_goto (tgt := 39) hx hb dX10_older_22 (by decide) ?_
      subst hQe
      exact W.iret (v := (-1 : Int32)) hx hb hr (fun t ht hW => ⟨⟨(-1 : Int32), (), rfl, (Option.some.inj hR).symm, by rw [ht]; exact hP3, va_K.moved hW.alike hK, hD3⟩, hS3.F ht⟩) hS3.2.2 dX10_older_39
    · replace hR := ifn_ hR c4
      refine lv_iload_n hx hb dX10_older_16 rfl (lv_at hl 1 rfl) ?_
      refine lv_iload_n hx hb dX10_older_17 rfl (lv_at hl 2 rfl) ?_
      refine lv_icmp_ne (tgt := 25) hx hb dX10_older_18 (by decide) (fun c5 => ?_) (fun c5 => ?_)
      · replace hR := ifn_ hR c5
        refine lv_aload_n hx hb dX10_older_25 rfl (lv_at hl 0 rfl) ?_
        refine lv_iload_n hx hb dX10_older_26 rfl (lv_at hl 1 rfl) ?_
        refine lv_iload_n hx hb dX10_older_27 rfl (lv_at hl 2 rfl) ?_
        have hR0 := ob_ok hR
        clear hR
        obtain ⟨q6, hq6, hR⟩ := hR0
        refine va_calli (va_runV (As := [.int x1, .int x2]) (rest := []) ⟨hx, hb, hml, hown, hts⟩ (cc_X10_isOlder l dC dI fu a1 k1 H3.size x1 x2 s1 q6 hq6) (cwV 2 hts gX10_older_X10_isOlder rfl rfl rfl (by decide +kernel) ⟨Nat.le_of_ble_eq_true rfl, Nat.le_of_ble_eq_true rfl⟩) (pf_v hK hP3 hD3 10 0 rfl rfl rfl) rfl rfl hl.1 rfl (lv_room (Nat.le_of_ble_eq_true rfl)) dX10_older_28 ⟨Nat.le_refl _, Nat.le_refl _⟩) hS3 (fun q _ h => (fr_all hD3 hS3 hA) q h) (fr_all hD3 hS3 hA) (fun r6 v6 t6 H6 locs6 ht6 hvm6 hw6 hB6 hz6 hk6 hS6 => ?_)
        subst hw6
        obtain ⟨hP6, hD6⟩ := jn_all hD3 hS3 hA ht6 hB6
        have hP6 : va_P (dC, dI) vwCl (zc_10 a1 k1 s1) H6 := hP6
        have hD6 : va_D A (zc_10 a1 k1 s1) := hD6
        clear hP3 hD3 hS3 hB6 hk6 hvm6 hz6 ht6
        refine lv_if_eq (tgt := 38) hx hb dX10_older_31 (by decide) (fun c7 => ?_) (fun c7 => ?_)
        · replace hR := ifp_ hR c7
          refine lv_iload_n hx hb dX10_older_38 rfl (lv_at hl 2 rfl) ?_
          subst hQe
          exact W.iret (v := x2) hx hb hr (fun t ht hW => ⟨⟨x2, (), rfl, (Option.some.inj hR).symm, by rw [ht]; exact hP6, va_K.moved hW.alike hK, hD6⟩, hS6.F ht⟩) hS6.2.2 dX10_older_39
        · replace hR := ifn_ hR c7
          refine lv_iload_n hx hb dX10_older_34 rfl (lv_at hl 1 rfl) ?_
          refine lv_goto (tgt := 39) hx hb dX10_older_35 (by decide) ?_
          subst hQe
          exact W.iret (v := x1) hx hb hr (fun t ht hW => ⟨⟨x1, (), rfl, (Option.some.inj hR).symm, by rw [ht]; exact hP6, va_K.moved hW.alike hK, hD6⟩, hS6.F ht⟩) hS6.2.2 dX10_older_39
      · replace hR := ifp_ hR c5
        refine lv_iconst (v := (-1 : Int32)) hx hb dX10_older_21 (by decide) ?_
        refine lv_goto (tgt := 39) hx hb dX10_older_22 (by decide) ?_
        subst hQe
        exact W.iret (v := (-1 : Int32)) hx hb hr (fun t ht hW => ⟨⟨(-1 : Int32), (), rfl, (Option.some.inj hR).symm, by rw [ht]; exact hP3, va_K.moved hW.alike hK, hD3⟩, hS3.F ht⟩) hS3.2.2 dX10_older_39
def rr_X10_give (fu : Nat) (x1 : Int32) (x2 : Int32) (s1 : ZT_10) : Option (Int32 × ZT_10) := (rr_X10_isCoin fu x1 s1).bind (fun q1 => (if q1 = (0 : Int32) then some ((-1 : Int32), s1) else (rr_X10_isHolder fu x2).bind (fun q3 => (if q3 = (0 : Int32) then some ((-1 : Int32), s1) else ck_ x1 40 (lt_ (α := Int32) (s1.1.2.2.2.2.1 x1.toNatClampNeg) (fun z6 => ck_ x1 40 (some (z6, ((s1.1.1, s1.1.2.1, s1.1.2.2.1, s1.1.2.2.2.1, (upd s1.1.2.2.2.2.1 x1.toNatClampNeg x2), s1.1.2.2.2.2.2), s1.2)))))))))
set_option maxHeartbeats 4000000 in
set_option maxRecDepth 100000 in
theorem cc_X10_give (l : Launch) (dC : Nat → ClassId) (dI : Nat → Nat → Nat) (fu : Nat) (a1 : Nat → Nat) (k1 : Nat → ClassId) (sz : Nat) (x1 : Int32) (x2 : Int32) (s1 : ZT_10) (res : Int32 × ZT_10) (hR : rr_X10_give fu x1 x2 s1 = some res) : Met l yX10_give wsX10_give ({ frames := 2, cells := 0, slots := 0, locals := 46 } : Room) (PcF [.ref (a1 0), .int x1, .int x2] sz (dC, dI) (zc_10 a1 k1 s1) (zt_10 k1)) (va_Qi (fun (r : Int32) (u : ZT_10) => res = (r, u)) (fun u t => at3_ (dC, dI) (zc_10 a1 k1 u) (zt_10 k1) (va_A (zc_10 a1 k1 s1) sz) t) (va_A (zc_10 a1 k1 s1) sz)) 0 0 (va_A (zc_10 a1 k1 s1) sz) := by
  refine Met.ofW (cc := cX10_give) (maxL := 4) (ret := (some .int)) (by decide) rfl ?_
  intro p e s m args below meth c s₁ B hml hv
  obtain ⟨hav, hsz, hP, hK, hD0⟩ := hv
  have hx := B.exec
  have hb := B.bytes
  have hr := B.returns
  have hts := atoms_spec (ws := wsX10_give) B.pre
  have hown : s.vm.findClass RX10 = some m.cls := findClass_of_methodNamed B.named
  have hlocks := B.notSynchronized
  have hin10 : ∀ w ∈ wsX100, w ∈ wsX10_give := fun w h => List.mem_cons_of_mem _ (List.mem_append_right _ h)
  subst hsz
  have hD := hD0.self (sz := s.heap.size)
  clear hD0
  generalize hAe : va_A (zc_10 a1 k1 s1) s.heap.size = A at hD ⊢
  have hA : ∀ q : Nat, s.heap.size ≤ q → A q := fun q h => by rw [← hAe]; exact Or.inr h
  have hS : va_S A s.heap s.heap [] := va_S.rf
  generalize hQe : MQ below _ args s 0 0 A = Q
  rw [show entryFrame m args 4 = F0 m 0 ((lg_sl ([.ref (a1 0), .int x1, .int x2]) ++ List.replicate (4 - (lg_sl ([.ref (a1 0), .int x1, .int x2])).length) Slot.unset).toArray) [] from by rw [hav]; exact lg_entry_eq m _ _]
  have hl := lv_entry ([.ref (a1 0), .int x1, .int x2]) (n := 4) (Nat.le_of_ble_eq_true rfl)
  generalize (lg_sl ([.ref (a1 0), .int x1, .int x2]) ++ List.replicate (4 - (lg_sl ([.ref (a1 0), .int x1, .int x2])).length) Slot.unset).toArray = ls at hl ⊢
  have hl : lv_has ls 4 [(0, .ref (a1 0)), (1, .int x1), (2, .int x2)] := hl
  unfold rr_X10_give at hR
  refine lv_aload_n hx hb dX10_give_0 rfl (lv_at hl 0 rfl) ?_
  refine lv_iload_n hx hb dX10_give_1 rfl (lv_at hl 1 rfl) ?_
  have hR0 := ob_ok hR
  clear hR
  obtain ⟨q1, hq1, hR⟩ := hR0
  refine va_calli (va_runV (As := [.int x1]) (rest := []) ⟨hx, hb, hml, hown, hts⟩ (cc_X10_isCoin l dC dI fu a1 k1 s.heap.size x1 s1 q1 hq1) (cwV 1 hts gX10_give_X10_isCoin rfl rfl rfl (by decide +kernel) ⟨Nat.le_of_ble_eq_true rfl, Nat.le_of_ble_eq_true rfl⟩) (pf_v hK hP hD 10 0 rfl rfl rfl) rfl rfl hl.1 rfl (lv_room (Nat.le_of_ble_eq_true rfl)) dX10_give_2 ⟨Nat.le_refl _, Nat.le_refl _⟩) hS (fun q _ h => (fr_all hD hS hA) q h) (fr_all hD hS hA) (fun r1 v1 t1 H1 locs1 ht1 hvm1 hw1 hB1 hz1 hk1 hS1 => ?_)
  subst hw1
  obtain ⟨hP1, hD1⟩ := jn_all hD hS hA ht1 hB1
  have hP1 : va_P (dC, dI) vwCl (zc_10 a1 k1 s1) H1 := hP1
  have hD1 : va_D A (zc_10 a1 k1 s1) := hD1
  clear hP hD hS hB1 hk1 hvm1 hz1 ht1
  refine lv_if_eq (tgt := 15) hx hb dX10_give_5 (by decide) (fun c2 => ?_) (fun c2 => ?_)
  · replace hR := ifp_ hR c2
    refine lv_iconst (v := (-1 : Int32)) hx hb dX10_give_15 (by decide) ?_
    subst hQe
    exact W.iret (v := (-1 : Int32)) hx hb hr (fun t ht hW => ⟨⟨(-1 : Int32), s1, rfl, (Option.some.inj hR).symm, by rw [ht]; exact hP1, va_K.moved hW.alike hK, hD1⟩, hS1.F ht⟩) hS1.2.2 dX10_give_16
  · replace hR := ifn_ hR c2
    refine lv_iload_n hx hb dX10_give_8 rfl (lv_at hl 2 rfl) ?_
    have hR0 := ob_ok hR
    clear hR
    obtain ⟨q3, hq3, hR⟩ := hR0
    refine va_calli (va_runS (As := [.int x2]) (rest := []) ⟨hx, hb, hml, hown, hts⟩ (cc_X10_isHolder l dC dI fu H1.size x2 q3 hq3) (va_cwS 1 hts gX10_give_X10_isHolder rfl rfl rfl (by decide +kernel) ⟨Nat.le_of_ble_eq_true rfl, Nat.le_of_ble_eq_true rfl⟩) (pf_s (nil_K hK) nil_P (nil_D (A := A))) rfl rfl hl.1 rfl (lv_room (Nat.le_of_ble_eq_true rfl)) dX10_give_9 ⟨Nat.le_refl _, Nat.le_refl _⟩) hS1 (fun q _ h => (fr_none hS1 hA) q h) (fr_none hS1 hA) (fun r3 v3 t3 H3 locs3 ht3 hvm3 hw3 hB3 hz3 hk3 hS3 => ?_)
    subst hw3
    have hP3 := jn_none hP1 hk3
    have hD3 := hD1
    have hP3 : va_P (dC, dI) vwCl (zc_10 a1 k1 s1) H3 := hP3
    have hD3 : va_D A (zc_10 a1 k1 s1) := hD3
    clear hP1 hD1 hS1 hB3 hk3 hvm3 hz3 ht3
    refine lv_if_ne (tgt := 17) hx hb dX10_give_12 (by decide) (fun c4 => ?_) (fun c4 => ?_)
    · replace hR := ifn_ hR c4
      refine lv_aload_n hx hb dX10_give_17 rfl (lv_at hl 0 rfl) ?_
      refine va_get (D := (dC, dI)) (ci := 10) (v := .ref (a1 5)) (C := RX10) (T := TX10) (N := 35) hx hb hts hin10 hown hK hP3 0 rfl rfl 4 (by decide) (hts (.fieldLink RX10 22 "OldestCoinsModel" "whose" "[I") (List.mem_of_getElem? (i := 1) rfl)) (fun _ h9 => h9) rfl dX10_give_18 ?_
      refine lv_iload_n hx hb dX10_give_21 rfl (lv_at hl 1 rfl) ?_
      have i5 := (ck_ok hR).1
      replace hR := (ck_ok hR).2
      refine va_iald (f := s1.1.2.2.2.2.1) hx hb hK hP3 5 4 rfl rfl i5 dX10_give_22 ?_
      refine lv_topi (fun z6 ez6 => ?_)
      replace hR := lt_ok hR ez6
      refine lv_istore_n (lv' := [(3, .int z6), (0, .ref (a1 0)), (1, .int x1), (2, .int x2)]) hx hb dX10_give_23 rfl hl (by decide) rfl (fun ls7 hl7 => ?_)
      refine lv_aload_n hx hb dX10_give_24 rfl (lv_at hl7 1 rfl) ?_
      refine va_get (D := (dC, dI)) (ci := 10) (v := .ref (a1 5)) (C := RX10) (T := TX10) (N := 35) hx hb hts hin10 hown hK hP3 0 rfl rfl 4 (by decide) (hts (.fieldLink RX10 22 "OldestCoinsModel" "whose" "[I") (List.mem_of_getElem? (i := 1) rfl)) (fun _ h9 => h9) rfl dX10_give_25 ?_
      refine lv_iload_n hx hb dX10_give_28 rfl (lv_at hl7 2 rfl) ?_
      refine lv_iload_n hx hb dX10_give_29 rfl (lv_at hl7 3 rfl) ?_
      have i8 := (ck_ok hR).1
      replace hR := (ck_ok hR).2
      refine va_iast (f := s1.1.2.2.2.2.1) hx hb hK hP3 hD3 hS3 5 4 rfl rfl i8 dX10_give_30 (fun H8 locs8 hP8 hD8 hS8 => ?_)
      have hP8 : va_P (dC, dI) vwCl (zc_10 a1 k1 ((s1.1.1, s1.1.2.1, s1.1.2.2.1, s1.1.2.2.2.1, (upd s1.1.2.2.2.2.1 x1.toNatClampNeg x2), s1.1.2.2.2.2.2), s1.2)) H8 := hP8
      have hD8 : va_D A (zc_10 a1 k1 ((s1.1.1, s1.1.2.1, s1.1.2.2.1, s1.1.2.2.2.1, (upd s1.1.2.2.2.2.1 x1.toNatClampNeg x2), s1.1.2.2.2.2.2), s1.2)) := hD8
      clear hP3 hD3 hS3
      refine lv_iload_n hx hb dX10_give_31 rfl (lv_at hl7 0 rfl) ?_
      subst hQe
      exact W.iret (v := z6) hx hb hr (fun t ht hW => ⟨⟨z6, ((s1.1.1, s1.1.2.1, s1.1.2.2.1, s1.1.2.2.2.1, (upd s1.1.2.2.2.2.1 x1.toNatClampNeg x2), s1.1.2.2.2.2.2), s1.2), rfl, (Option.some.inj hR).symm, by rw [ht]; exact hP8, va_K.moved hW.alike hK, hD8⟩, hS8.F ht⟩) hS8.2.2 dX10_give_32
    · replace hR := ifp_ hR c4
      refine lv_iconst (v := (-1 : Int32)) hx hb dX10_give_15 (by decide) ?_
      subst hQe
      exact W.iret (v := (-1 : Int32)) hx hb hr (fun t ht hW => ⟨⟨(-1 : Int32), s1, rfl, (Option.some.inj hR).symm, by rw [ht]; exact hP3, va_K.moved hW.alike hK, hD3⟩, hS3.F ht⟩) hS3.2.2 dX10_give_16
def rr_X10_told (fu : Nat) (x1 : Int32) (x2 : Int32) (s1 : ZT_10) : Option (Int32) := (rr_X10_isCoin fu x1 s1).bind (fun q1 => (if q1 = (0 : Int32) then some (-1 : Int32) else (rr_X10_in fu x2.toInt64 (0 : Int64) (4 : Int64)).bind (fun q3 => (if q3 = (0 : Int32) then some (-1 : Int32) else (if x2 = (0 : Int32) then ck_ x1 40 (some (s1.1.1 x1.toNatClampNeg)) else (if x2 = (1 : Int32) then ck_ x1 40 (some (s1.1.2.1 x1.toNatClampNeg)) else (if x2 = (2 : Int32) then ck_ x1 40 (some (s1.1.2.2.1 x1.toNatClampNeg)) else (if x2 = (3 : Int32) then ck_ x1 40 (some (s1.1.2.2.2.1 x1.toNatClampNeg)) else ck_ x1 40 (some (s1.1.2.2.2.2.1 x1.toNatClampNeg))))))))))
set_option maxHeartbeats 4000000 in
set_option maxRecDepth 100000 in
theorem cc_X10_told (l : Launch) (dC : Nat → ClassId) (dI : Nat → Nat → Nat) (fu : Nat) (a1 : Nat → Nat) (k1 : Nat → ClassId) (sz : Nat) (x1 : Int32) (x2 : Int32) (s1 : ZT_10) (res : Int32) (hR : rr_X10_told fu x1 x2 s1 = some res) : Met l yX10_told wsX10_told ({ frames := 2, cells := 0, slots := 0, locals := 46 } : Room) (PcF [.ref (a1 0), .int x1, .int x2] sz (dC, dI) (zc_10 a1 k1 s1) (zt_10 k1)) (va_Qi (fun (r : Int32) (u : Unit) => res = r) (fun u t => at3_ (dC, dI) (zc_10 a1 k1 s1) (zt_10 k1) (va_A (zc_10 a1 k1 s1) sz) t) (va_A (zc_10 a1 k1 s1) sz)) 0 0 (va_A (zc_10 a1 k1 s1) sz) := by
  refine Met.ofW (cc := cX10_told) (maxL := 3) (ret := (some .int)) (by decide) rfl ?_
  intro p e s m args below meth c s₁ B hml hv
  obtain ⟨hav, hsz, hP, hK, hD0⟩ := hv
  have hx := B.exec
  have hb := B.bytes
  have hr := B.returns
  have hts := atoms_spec (ws := wsX10_told) B.pre
  have hown : s.vm.findClass RX10 = some m.cls := findClass_of_methodNamed B.named
  have hlocks := B.notSynchronized
  have hin10 : ∀ w ∈ wsX100, w ∈ wsX10_told := fun w h => List.mem_cons_of_mem _ (List.mem_append_right _ h)
  subst hsz
  have hD := hD0.self (sz := s.heap.size)
  clear hD0
  generalize hAe : va_A (zc_10 a1 k1 s1) s.heap.size = A at hD ⊢
  have hA : ∀ q : Nat, s.heap.size ≤ q → A q := fun q h => by rw [← hAe]; exact Or.inr h
  have hS : va_S A s.heap s.heap [] := va_S.rf
  generalize hQe : MQ below _ args s 0 0 A = Q
  rw [show entryFrame m args 3 = F0 m 0 ((lg_sl ([.ref (a1 0), .int x1, .int x2]) ++ List.replicate (3 - (lg_sl ([.ref (a1 0), .int x1, .int x2])).length) Slot.unset).toArray) [] from by rw [hav]; exact lg_entry_eq m _ _]
  have hl := lv_entry ([.ref (a1 0), .int x1, .int x2]) (n := 3) (Nat.le_of_ble_eq_true rfl)
  generalize (lg_sl ([.ref (a1 0), .int x1, .int x2]) ++ List.replicate (3 - (lg_sl ([.ref (a1 0), .int x1, .int x2])).length) Slot.unset).toArray = ls at hl ⊢
  have hl : lv_has ls 3 [(0, .ref (a1 0)), (1, .int x1), (2, .int x2)] := hl
  unfold rr_X10_told at hR
  refine lv_aload_n hx hb dX10_told_0 rfl (lv_at hl 0 rfl) ?_
  refine lv_iload_n hx hb dX10_told_1 rfl (lv_at hl 1 rfl) ?_
  have hR0 := ob_ok hR
  clear hR
  obtain ⟨q1, hq1, hR⟩ := hR0
  refine va_calli (va_runV (As := [.int x1]) (rest := []) ⟨hx, hb, hml, hown, hts⟩ (cc_X10_isCoin l dC dI fu a1 k1 s.heap.size x1 s1 q1 hq1) (cwV 1 hts gX10_told_X10_isCoin rfl rfl rfl (by decide +kernel) ⟨Nat.le_of_ble_eq_true rfl, Nat.le_of_ble_eq_true rfl⟩) (pf_v hK hP hD 10 0 rfl rfl rfl) rfl rfl hl.1 rfl (lv_room (Nat.le_of_ble_eq_true rfl)) dX10_told_2 ⟨Nat.le_refl _, Nat.le_refl _⟩) hS (fun q _ h => (fr_all hD hS hA) q h) (fr_all hD hS hA) (fun r1 v1 t1 H1 locs1 ht1 hvm1 hw1 hB1 hz1 hk1 hS1 => ?_)
  subst hw1
  obtain ⟨hP1, hD1⟩ := jn_all hD hS hA ht1 hB1
  have hP1 : va_P (dC, dI) vwCl (zc_10 a1 k1 s1) H1 := hP1
  have hD1 : va_D A (zc_10 a1 k1 s1) := hD1
  clear hP hD hS hB1 hk1 hvm1 hz1 ht1
  refine lv_if_eq (tgt := 20) hx hb dX10_told_5 (by decide) (fun c2 => ?_) (fun c2 => ?_)
  · replace hR := ifp_ hR c2
    refine lv_iconst (v := (-1 : Int32)) hx hb dX10_told_20 (by decide) ?_
    subst hQe
    exact W.iret (v := (-1 : Int32)) hx hb hr (fun t ht hW => ⟨⟨(-1 : Int32), (), rfl, (Option.some.inj hR).symm, by rw [ht]; exact hP1, va_K.moved hW.alike hK, hD1⟩, hS1.F ht⟩) hS1.2.2 dX10_told_21
  · replace hR := ifn_ hR c2
    refine lv_iload_n hx hb dX10_told_8 rfl (lv_at hl 2 rfl) ?_
    refine lv_i2l (v := x2.toInt64) hx hb dX10_told_9 rfl ?_
    refine lv_lconst (v := (0 : Int64)) hx hb dX10_told_10 (by decide) ?_
    refine lv_ldc2 (v := (4 : Int64)) hx hb hown (hts (.constantLong RX10 86 (4)) (List.mem_of_getElem? (i := 1) rfl)) dX10_told_11 ?_
    have hR0 := ob_ok hR
    clear hR
    obtain ⟨q3, hq3, hR⟩ := hR0
    refine va_calli (va_runS (As := [.long x2.toInt64, .long (0 : Int64), .long (4 : Int64)]) (rest := []) ⟨hx, hb, hml, hown, hts⟩ (cc_X10_in l dC dI fu H1.size x2.toInt64 (0 : Int64) (4 : Int64) q3 hq3) (va_cwS 3 hts gX10_told_X10_in rfl rfl rfl (by decide +kernel) ⟨Nat.le_of_ble_eq_true rfl, Nat.le_of_ble_eq_true rfl⟩) (pf_s (nil_K hK) nil_P (nil_D (A := A))) rfl rfl hl.1 rfl (lv_room (Nat.le_of_ble_eq_true rfl)) dX10_told_14 ⟨Nat.le_refl _, Nat.le_refl _⟩) hS1 (fun q _ h => (fr_none hS1 hA) q h) (fr_none hS1 hA) (fun r3 v3 t3 H3 locs3 ht3 hvm3 hw3 hB3 hz3 hk3 hS3 => ?_)
    subst hw3
    have hP3 := jn_none hP1 hk3
    have hD3 := hD1
    have hP3 : va_P (dC, dI) vwCl (zc_10 a1 k1 s1) H3 := hP3
    have hD3 : va_D A (zc_10 a1 k1 s1) := hD3
    clear hP1 hD1 hS1 hB3 hk3 hvm3 hz3 ht3
    refine lv_if_ne (tgt := 22) hx hb dX10_told_17 (by decide) (fun c4 => ?_) (fun c4 => ?_)
    · replace hR := ifn_ hR c4
      refine lv_iload_n hx hb dX10_told_22 rfl (lv_at hl 2 rfl) ?_
      refine lv_if_ne (tgt := 35) hx hb dX10_told_23 (by decide) (fun c5 => ?_) (fun c5 => ?_)
      · replace hR := ifn_ hR c5
        refine lv_iload_n hx hb dX10_told_35 rfl (lv_at hl 2 rfl) ?_
        refine lv_iconst (v := (1 : Int32)) hx hb dX10_told_36 (by decide) ?_
        refine lv_icmp_ne (tgt := 49) hx hb dX10_told_37 (by decide) (fun c6 => ?_) (fun c6 => ?_)
        · replace hR := ifn_ hR c6
          refine lv_iload_n hx hb dX10_told_49 rfl (lv_at hl 2 rfl) ?_
          refine lv_iconst (v := (2 : Int32)) hx hb dX10_told_50 (by decide) ?_
          refine lv_icmp_ne (tgt := 63) hx hb dX10_told_51 (by decide) (fun c7 => ?_) (fun c7 => ?_)
          · replace hR := ifn_ hR c7
            refine lv_iload_n hx hb dX10_told_63 rfl (lv_at hl 2 rfl) ?_
            refine lv_iconst (v := (3 : Int32)) hx hb dX10_told_64 (by decide) ?_
            refine lv_icmp_ne (tgt := 77) hx hb dX10_told_65 (by decide) (fun c8 => ?_) (fun c8 => ?_)
            · replace hR := ifn_ hR c8
              refine lv_aload_n hx hb dX10_told_77 rfl (lv_at hl 0 rfl) ?_
              refine va_get (D := (dC, dI)) (ci := 10) (v := .ref (a1 5)) (C := RX10) (T := TX10) (N := 35) hx hb hts hin10 hown hK hP3 0 rfl rfl 4 (by decide) (hts (.fieldLink RX10 22 "OldestCoinsModel" "whose" "[I") (List.mem_of_getElem? (i := 6) rfl)) (fun _ h9 => h9) rfl dX10_told_78 ?_
              refine lv_iload_n hx hb dX10_told_81 rfl (lv_at hl 1 rfl) ?_
              have i9 := (ck_ok hR).1
              replace hR := (ck_ok hR).2
              refine va_iald (f := s1.1.2.2.2.2.1) hx hb hK hP3 5 4 rfl rfl i9 dX10_told_82 ?_
              subst hQe
              exact W.iret (v := (s1.1.2.2.2.2.1 x1.toNatClampNeg)) hx hb hr (fun t ht hW => ⟨⟨(s1.1.2.2.2.2.1 x1.toNatClampNeg), (), rfl, (Option.some.inj hR).symm, by rw [ht]; exact hP3, va_K.moved hW.alike hK, hD3⟩, hS3.F ht⟩) hS3.2.2 dX10_told_83
            · replace hR := ifp_ hR c8
              refine lv_aload_n hx hb dX10_told_68 rfl (lv_at hl 0 rfl) ?_
              refine va_get (D := (dC, dI)) (ci := 10) (v := .ref (a1 4)) (C := RX10) (T := TX10) (N := 35) hx hb hts hin10 hown hK hP3 0 rfl rfl 3 (by decide) (hts (.fieldLink RX10 19 "OldestCoinsModel" "kinds" "[I") (List.mem_of_getElem? (i := 5) rfl)) (fun _ h9 => h9) rfl dX10_told_69 ?_
              refine lv_iload_n hx hb dX10_told_72 rfl (lv_at hl 1 rfl) ?_
              have i10 := (ck_ok hR).1
              replace hR := (ck_ok hR).2
              refine va_iald (f := s1.1.2.2.2.1) hx hb hK hP3 4 3 rfl rfl i10 dX10_told_73 ?_
              refine lv_goto (tgt := 83) hx hb dX10_told_74 (by decide) ?_
              subst hQe
              exact W.iret (v := (s1.1.2.2.2.1 x1.toNatClampNeg)) hx hb hr (fun t ht hW => ⟨⟨(s1.1.2.2.2.1 x1.toNatClampNeg), (), rfl, (Option.some.inj hR).symm, by rw [ht]; exact hP3, va_K.moved hW.alike hK, hD3⟩, hS3.F ht⟩) hS3.2.2 dX10_told_83
          · replace hR := ifp_ hR c7
            refine lv_aload_n hx hb dX10_told_54 rfl (lv_at hl 0 rfl) ?_
            refine va_get (D := (dC, dI)) (ci := 10) (v := .ref (a1 3)) (C := RX10) (T := TX10) (N := 35) hx hb hts hin10 hown hK hP3 0 rfl rfl 2 (by decide) (hts (.fieldLink RX10 16 "OldestCoinsModel" "stamps" "[I") (List.mem_of_getElem? (i := 4) rfl)) (fun _ h9 => h9) rfl dX10_told_55 ?_
            refine lv_iload_n hx hb dX10_told_58 rfl (lv_at hl 1 rfl) ?_
            have i11 := (ck_ok hR).1
            replace hR := (ck_ok hR).2
            refine va_iald (f := s1.1.2.2.1) hx hb hK hP3 3 2 rfl rfl i11 dX10_told_59 ?_
            refine lv_goto (tgt := 83) hx hb dX10_told_60 (by decide) ?_
            subst hQe
            exact W.iret (v := (s1.1.2.2.1 x1.toNatClampNeg)) hx hb hr (fun t ht hW => ⟨⟨(s1.1.2.2.1 x1.toNatClampNeg), (), rfl, (Option.some.inj hR).symm, by rw [ht]; exact hP3, va_K.moved hW.alike hK, hD3⟩, hS3.F ht⟩) hS3.2.2 dX10_told_83
        · replace hR := ifp_ hR c6
          refine lv_aload_n hx hb dX10_told_40 rfl (lv_at hl 0 rfl) ?_
          refine va_get (D := (dC, dI)) (ci := 10) (v := .ref (a1 2)) (C := RX10) (T := TX10) (N := 35) hx hb hts hin10 hown hK hP3 0 rfl rfl 1 (by decide) (hts (.fieldLink RX10 13 "OldestCoinsModel" "years" "[I") (List.mem_of_getElem? (i := 3) rfl)) (fun _ h9 => h9) rfl dX10_told_41 ?_
          refine lv_iload_n hx hb dX10_told_44 rfl (lv_at hl 1 rfl) ?_
          have i12 := (ck_ok hR).1
          replace hR := (ck_ok hR).2
          refine va_iald (f := s1.1.2.1) hx hb hK hP3 2 1 rfl rfl i12 dX10_told_45 ?_
          refine lv_goto (tgt := 83) hx hb dX10_told_46 (by decide) ?_
          subst hQe
          exact W.iret (v := (s1.1.2.1 x1.toNatClampNeg)) hx hb hr (fun t ht hW => ⟨⟨(s1.1.2.1 x1.toNatClampNeg), (), rfl, (Option.some.inj hR).symm, by rw [ht]; exact hP3, va_K.moved hW.alike hK, hD3⟩, hS3.F ht⟩) hS3.2.2 dX10_told_83
      · replace hR := ifp_ hR c5
        refine lv_aload_n hx hb dX10_told_26 rfl (lv_at hl 0 rfl) ?_
        refine va_get (D := (dC, dI)) (ci := 10) (v := .ref (a1 1)) (C := RX10) (T := TX10) (N := 35) hx hb hts hin10 hown hK hP3 0 rfl rfl 0 (by decide) (hts (.fieldLink RX10 7 "OldestCoinsModel" "worths" "[I") (List.mem_of_getElem? (i := 2) rfl)) (fun _ h9 => h9) rfl dX10_told_27 ?_
        refine lv_iload_n hx hb dX10_told_30 rfl (lv_at hl 1 rfl) ?_
        have i13 := (ck_ok hR).1
        replace hR := (ck_ok hR).2
        refine va_iald (f := s1.1.1) hx hb hK hP3 1 0 rfl rfl i13 dX10_told_31 ?_
        refine lv_goto (tgt := 83) hx hb dX10_told_32 (by decide) ?_
        subst hQe
        exact W.iret (v := (s1.1.1 x1.toNatClampNeg)) hx hb hr (fun t ht hW => ⟨⟨(s1.1.1 x1.toNatClampNeg), (), rfl, (Option.some.inj hR).symm, by rw [ht]; exact hP3, va_K.moved hW.alike hK, hD3⟩, hS3.F ht⟩) hS3.2.2 dX10_told_83
    · replace hR := ifp_ hR c4
      refine lv_iconst (v := (-1 : Int32)) hx hb dX10_told_20 (by decide) ?_
      subst hQe
      exact W.iret (v := (-1 : Int32)) hx hb hr (fun t ht hW => ⟨⟨(-1 : Int32), (), rfl, (Option.some.inj hR).symm, by rw [ht]; exact hP3, va_K.moved hW.alike hK, hD3⟩, hS3.F ht⟩) hS3.2.2 dX10_told_21
def rr_X10_stamp (fu : Nat) (x1 : Int32) (x2 : Int32) (s1 : ZT_10) : Option (Int32 × ZT_10) := (rr_X10_isCoin fu x1 s1).bind (fun q1 => (if q1 = (0 : Int32) then some ((-1 : Int32), s1) else (rr_X10_in fu x2.toInt64 (0 : Int64) (99 : Int64)).bind (fun q3 => (if q3 = (0 : Int32) then some ((-1 : Int32), s1) else ck_ x1 40 (lt_ (α := Int32) (s1.1.2.2.1 x1.toNatClampNeg) (fun z6 => ck_ x1 40 (some (z6, ((s1.1.1, s1.1.2.1, (upd s1.1.2.2.1 x1.toNatClampNeg x2), s1.1.2.2.2), s1.2)))))))))
set_option maxHeartbeats 4000000 in
set_option maxRecDepth 100000 in
theorem cc_X10_stamp (l : Launch) (dC : Nat → ClassId) (dI : Nat → Nat → Nat) (fu : Nat) (a1 : Nat → Nat) (k1 : Nat → ClassId) (sz : Nat) (x1 : Int32) (x2 : Int32) (s1 : ZT_10) (res : Int32 × ZT_10) (hR : rr_X10_stamp fu x1 x2 s1 = some res) : Met l yX10_stamp wsX10_stamp ({ frames := 2, cells := 0, slots := 0, locals := 46 } : Room) (PcF [.ref (a1 0), .int x1, .int x2] sz (dC, dI) (zc_10 a1 k1 s1) (zt_10 k1)) (va_Qi (fun (r : Int32) (u : ZT_10) => res = (r, u)) (fun u t => at3_ (dC, dI) (zc_10 a1 k1 u) (zt_10 k1) (va_A (zc_10 a1 k1 s1) sz) t) (va_A (zc_10 a1 k1 s1) sz)) 0 0 (va_A (zc_10 a1 k1 s1) sz) := by
  refine Met.ofW (cc := cX10_stamp) (maxL := 4) (ret := (some .int)) (by decide) rfl ?_
  intro p e s m args below meth c s₁ B hml hv
  obtain ⟨hav, hsz, hP, hK, hD0⟩ := hv
  have hx := B.exec
  have hb := B.bytes
  have hr := B.returns
  have hts := atoms_spec (ws := wsX10_stamp) B.pre
  have hown : s.vm.findClass RX10 = some m.cls := findClass_of_methodNamed B.named
  have hlocks := B.notSynchronized
  have hin10 : ∀ w ∈ wsX100, w ∈ wsX10_stamp := fun w h => List.mem_cons_of_mem _ (List.mem_append_right _ h)
  subst hsz
  have hD := hD0.self (sz := s.heap.size)
  clear hD0
  generalize hAe : va_A (zc_10 a1 k1 s1) s.heap.size = A at hD ⊢
  have hA : ∀ q : Nat, s.heap.size ≤ q → A q := fun q h => by rw [← hAe]; exact Or.inr h
  have hS : va_S A s.heap s.heap [] := va_S.rf
  generalize hQe : MQ below _ args s 0 0 A = Q
  rw [show entryFrame m args 4 = F0 m 0 ((lg_sl ([.ref (a1 0), .int x1, .int x2]) ++ List.replicate (4 - (lg_sl ([.ref (a1 0), .int x1, .int x2])).length) Slot.unset).toArray) [] from by rw [hav]; exact lg_entry_eq m _ _]
  have hl := lv_entry ([.ref (a1 0), .int x1, .int x2]) (n := 4) (Nat.le_of_ble_eq_true rfl)
  generalize (lg_sl ([.ref (a1 0), .int x1, .int x2]) ++ List.replicate (4 - (lg_sl ([.ref (a1 0), .int x1, .int x2])).length) Slot.unset).toArray = ls at hl ⊢
  have hl : lv_has ls 4 [(0, .ref (a1 0)), (1, .int x1), (2, .int x2)] := hl
  unfold rr_X10_stamp at hR
  refine lv_aload_n hx hb dX10_stamp_0 rfl (lv_at hl 0 rfl) ?_
  refine lv_iload_n hx hb dX10_stamp_1 rfl (lv_at hl 1 rfl) ?_
  have hR0 := ob_ok hR
  clear hR
  obtain ⟨q1, hq1, hR⟩ := hR0
  refine va_calli (va_runV (As := [.int x1]) (rest := []) ⟨hx, hb, hml, hown, hts⟩ (cc_X10_isCoin l dC dI fu a1 k1 s.heap.size x1 s1 q1 hq1) (cwV 1 hts gX10_stamp_X10_isCoin rfl rfl rfl (by decide +kernel) ⟨Nat.le_of_ble_eq_true rfl, Nat.le_of_ble_eq_true rfl⟩) (pf_v hK hP hD 10 0 rfl rfl rfl) rfl rfl hl.1 rfl (lv_room (Nat.le_of_ble_eq_true rfl)) dX10_stamp_2 ⟨Nat.le_refl _, Nat.le_refl _⟩) hS (fun q _ h => (fr_all hD hS hA) q h) (fr_all hD hS hA) (fun r1 v1 t1 H1 locs1 ht1 hvm1 hw1 hB1 hz1 hk1 hS1 => ?_)
  subst hw1
  obtain ⟨hP1, hD1⟩ := jn_all hD hS hA ht1 hB1
  have hP1 : va_P (dC, dI) vwCl (zc_10 a1 k1 s1) H1 := hP1
  have hD1 : va_D A (zc_10 a1 k1 s1) := hD1
  clear hP hD hS hB1 hk1 hvm1 hz1 ht1
  refine lv_if_eq (tgt := 20) hx hb dX10_stamp_5 (by decide) (fun c2 => ?_) (fun c2 => ?_)
  · replace hR := ifp_ hR c2
    refine lv_iconst (v := (-1 : Int32)) hx hb dX10_stamp_20 (by decide) ?_
    subst hQe
    exact W.iret (v := (-1 : Int32)) hx hb hr (fun t ht hW => ⟨⟨(-1 : Int32), s1, rfl, (Option.some.inj hR).symm, by rw [ht]; exact hP1, va_K.moved hW.alike hK, hD1⟩, hS1.F ht⟩) hS1.2.2 dX10_stamp_21
  · replace hR := ifn_ hR c2
    refine lv_iload_n hx hb dX10_stamp_8 rfl (lv_at hl 2 rfl) ?_
    refine lv_i2l (v := x2.toInt64) hx hb dX10_stamp_9 rfl ?_
    refine lv_lconst (v := (0 : Int64)) hx hb dX10_stamp_10 (by decide) ?_
    refine lv_ldc2 (v := (99 : Int64)) hx hb hown (hts (.constantLong RX10 94 (99)) (List.mem_of_getElem? (i := 1) rfl)) dX10_stamp_11 ?_
    have hR0 := ob_ok hR
    clear hR
    obtain ⟨q3, hq3, hR⟩ := hR0
    refine va_calli (va_runS (As := [.long x2.toInt64, .long (0 : Int64), .long (99 : Int64)]) (rest := []) ⟨hx, hb, hml, hown, hts⟩ (cc_X10_in l dC dI fu H1.size x2.toInt64 (0 : Int64) (99 : Int64) q3 hq3) (va_cwS 3 hts gX10_stamp_X10_in rfl rfl rfl (by decide +kernel) ⟨Nat.le_of_ble_eq_true rfl, Nat.le_of_ble_eq_true rfl⟩) (pf_s (nil_K hK) nil_P (nil_D (A := A))) rfl rfl hl.1 rfl (lv_room (Nat.le_of_ble_eq_true rfl)) dX10_stamp_14 ⟨Nat.le_refl _, Nat.le_refl _⟩) hS1 (fun q _ h => (fr_none hS1 hA) q h) (fr_none hS1 hA) (fun r3 v3 t3 H3 locs3 ht3 hvm3 hw3 hB3 hz3 hk3 hS3 => ?_)
    subst hw3
    have hP3 := jn_none hP1 hk3
    have hD3 := hD1
    have hP3 : va_P (dC, dI) vwCl (zc_10 a1 k1 s1) H3 := hP3
    have hD3 : va_D A (zc_10 a1 k1 s1) := hD3
    clear hP1 hD1 hS1 hB3 hk3 hvm3 hz3 ht3
    refine lv_if_ne (tgt := 22) hx hb dX10_stamp_17 (by decide) (fun c4 => ?_) (fun c4 => ?_)
    · replace hR := ifn_ hR c4
      refine lv_aload_n hx hb dX10_stamp_22 rfl (lv_at hl 0 rfl) ?_
      refine va_get (D := (dC, dI)) (ci := 10) (v := .ref (a1 3)) (C := RX10) (T := TX10) (N := 35) hx hb hts hin10 hown hK hP3 0 rfl rfl 2 (by decide) (hts (.fieldLink RX10 16 "OldestCoinsModel" "stamps" "[I") (List.mem_of_getElem? (i := 2) rfl)) (fun _ h9 => h9) rfl dX10_stamp_23 ?_
      refine lv_iload_n hx hb dX10_stamp_26 rfl (lv_at hl 1 rfl) ?_
      have i5 := (ck_ok hR).1
      replace hR := (ck_ok hR).2
      refine va_iald (f := s1.1.2.2.1) hx hb hK hP3 3 2 rfl rfl i5 dX10_stamp_27 ?_
      refine lv_topi (fun z6 ez6 => ?_)
      replace hR := lt_ok hR ez6
      refine lv_istore_n (lv' := [(3, .int z6), (0, .ref (a1 0)), (1, .int x1), (2, .int x2)]) hx hb dX10_stamp_28 rfl hl (by decide) rfl (fun ls7 hl7 => ?_)
      refine lv_aload_n hx hb dX10_stamp_29 rfl (lv_at hl7 1 rfl) ?_
      refine va_get (D := (dC, dI)) (ci := 10) (v := .ref (a1 3)) (C := RX10) (T := TX10) (N := 35) hx hb hts hin10 hown hK hP3 0 rfl rfl 2 (by decide) (hts (.fieldLink RX10 16 "OldestCoinsModel" "stamps" "[I") (List.mem_of_getElem? (i := 2) rfl)) (fun _ h9 => h9) rfl dX10_stamp_30 ?_
      refine lv_iload_n hx hb dX10_stamp_33 rfl (lv_at hl7 2 rfl) ?_
      refine lv_iload_n hx hb dX10_stamp_34 rfl (lv_at hl7 3 rfl) ?_
      have i8 := (ck_ok hR).1
      replace hR := (ck_ok hR).2
      refine va_iast (f := s1.1.2.2.1) hx hb hK hP3 hD3 hS3 3 2 rfl rfl i8 dX10_stamp_35 (fun H8 locs8 hP8 hD8 hS8 => ?_)
      have hP8 : va_P (dC, dI) vwCl (zc_10 a1 k1 ((s1.1.1, s1.1.2.1, (upd s1.1.2.2.1 x1.toNatClampNeg x2), s1.1.2.2.2), s1.2)) H8 := hP8
      have hD8 : va_D A (zc_10 a1 k1 ((s1.1.1, s1.1.2.1, (upd s1.1.2.2.1 x1.toNatClampNeg x2), s1.1.2.2.2), s1.2)) := hD8
      clear hP3 hD3 hS3
      refine lv_iload_n hx hb dX10_stamp_36 rfl (lv_at hl7 0 rfl) ?_
      subst hQe
      exact W.iret (v := z6) hx hb hr (fun t ht hW => ⟨⟨z6, ((s1.1.1, s1.1.2.1, (upd s1.1.2.2.1 x1.toNatClampNeg x2), s1.1.2.2.2), s1.2), rfl, (Option.some.inj hR).symm, by rw [ht]; exact hP8, va_K.moved hW.alike hK, hD8⟩, hS8.F ht⟩) hS8.2.2 dX10_stamp_37
    · replace hR := ifp_ hR c4
      refine lv_iconst (v := (-1 : Int32)) hx hb dX10_stamp_20 (by decide) ?_
      subst hQe
      exact W.iret (v := (-1 : Int32)) hx hb hr (fun t ht hW => ⟨⟨(-1 : Int32), s1, rfl, (Option.some.inj hR).symm, by rw [ht]; exact hP3, va_K.moved hW.alike hK, hD3⟩, hS3.F ht⟩) hS3.2.2 dX10_stamp_21
def rr_X10_coin (fu : Nat) (x1 : Int32) (x2 : Int32) (x3 : Int32) (x4 : Int32) (s1 : ZT_10) : Option (Int32 × ZT_10) := (rr_X10_isHolder fu x1).bind (fun q1 => (if q1 = (0 : Int32) then some ((-1 : Int32), s1) else (rr_X10_in fu x2.toInt64 (1 : Int64) (99 : Int64)).bind (fun q3 => (if q3 = (0 : Int32) then some ((-1 : Int32), s1) else (rr_X10_in fu x3.toInt64 (0 : Int64) (99 : Int64)).bind (fun q5 => (if q5 = (0 : Int32) then some ((-1 : Int32), s1) else (rr_X10_in fu x4.toInt64 (0 : Int64) (3 : Int64)).bind (fun q7 => (if q7 = (0 : Int32) then some ((-1 : Int32), s1) else (if s1.1.2.2.2.2.2.1 = (40 : Int32) then some ((-3 : Int32), s1) else (rr_X10_add fu x1 x2 x3 x3 x4 s1).bind (fun q10 => some ((q10.1.2.2.2.2.2.1 - (1 : Int32)), q10)))))))))))
set_option maxHeartbeats 4000000 in
set_option maxRecDepth 100000 in
theorem cc_X10_coin (l : Launch) (dC : Nat → ClassId) (dI : Nat → Nat → Nat) (fu : Nat) (a1 : Nat → Nat) (k1 : Nat → ClassId) (sz : Nat) (x1 : Int32) (x2 : Int32) (x3 : Int32) (x4 : Int32) (s1 : ZT_10) (res : Int32 × ZT_10) (hR : rr_X10_coin fu x1 x2 x3 x4 s1 = some res) : Met l yX10_coin wsX10_coin ({ frames := 2, cells := 0, slots := 0, locals := 45 } : Room) (PcF [.ref (a1 0), .int x1, .int x2, .int x3, .int x4] sz (dC, dI) (zc_10 a1 k1 s1) (zt_10 k1)) (va_Qi (fun (r : Int32) (u : ZT_10) => res = (r, u)) (fun u t => at3_ (dC, dI) (zc_10 a1 k1 u) (zt_10 k1) (va_A (zc_10 a1 k1 s1) sz) t) (va_A (zc_10 a1 k1 s1) sz)) 0 0 (va_A (zc_10 a1 k1 s1) sz) := by
  refine Met.ofW (cc := cX10_coin) (maxL := 5) (ret := (some .int)) (by decide) rfl ?_
  intro p e s m args below meth c s₁ B hml hv
  obtain ⟨hav, hsz, hP, hK, hD0⟩ := hv
  have hx := B.exec
  have hb := B.bytes
  have hr := B.returns
  have hts := atoms_spec (ws := wsX10_coin) B.pre
  have hown : s.vm.findClass RX10 = some m.cls := findClass_of_methodNamed B.named
  have hlocks := B.notSynchronized
  have hin10 : ∀ w ∈ wsX100, w ∈ wsX10_coin := fun w h => List.mem_cons_of_mem _ (List.mem_append_right _ h)
  subst hsz
  have hD := hD0.self (sz := s.heap.size)
  clear hD0
  generalize hAe : va_A (zc_10 a1 k1 s1) s.heap.size = A at hD ⊢
  have hA : ∀ q : Nat, s.heap.size ≤ q → A q := fun q h => by rw [← hAe]; exact Or.inr h
  have hS : va_S A s.heap s.heap [] := va_S.rf
  generalize hQe : MQ below _ args s 0 0 A = Q
  rw [show entryFrame m args 5 = F0 m 0 ((lg_sl ([.ref (a1 0), .int x1, .int x2, .int x3, .int x4]) ++ List.replicate (5 - (lg_sl ([.ref (a1 0), .int x1, .int x2, .int x3, .int x4])).length) Slot.unset).toArray) [] from by rw [hav]; exact lg_entry_eq m _ _]
  have hl := lv_entry ([.ref (a1 0), .int x1, .int x2, .int x3, .int x4]) (n := 5) (Nat.le_of_ble_eq_true rfl)
  generalize (lg_sl ([.ref (a1 0), .int x1, .int x2, .int x3, .int x4]) ++ List.replicate (5 - (lg_sl ([.ref (a1 0), .int x1, .int x2, .int x3, .int x4])).length) Slot.unset).toArray = ls at hl ⊢
  have hl : lv_has ls 5 [(0, .ref (a1 0)), (1, .int x1), (2, .int x2), (3, .int x3), (4, .int x4)] := hl
  unfold rr_X10_coin at hR
  refine lv_iload_n hx hb dX10_coin_0 rfl (lv_at hl 1 rfl) ?_
  have hR0 := ob_ok hR
  clear hR
  obtain ⟨q1, hq1, hR⟩ := hR0
  refine va_calli (va_runS (As := [.int x1]) (rest := []) ⟨hx, hb, hml, hown, hts⟩ (cc_X10_isHolder l dC dI fu s.heap.size x1 q1 hq1) (va_cwS 1 hts gX10_coin_X10_isHolder rfl rfl rfl (by decide +kernel) ⟨Nat.le_of_ble_eq_true rfl, Nat.le_of_ble_eq_true rfl⟩) (pf_s (nil_K hK) nil_P (nil_D (A := A))) rfl rfl hl.1 rfl (lv_room (Nat.le_of_ble_eq_true rfl)) dX10_coin_1 ⟨Nat.le_refl _, Nat.le_refl _⟩) hS (fun q _ h => (fr_none hS hA) q h) (fr_none hS hA) (fun r1 v1 t1 H1 locs1 ht1 hvm1 hw1 hB1 hz1 hk1 hS1 => ?_)
  subst hw1
  have hP1 := jn_none hP hk1
  have hD1 := hD
  have hP1 : va_P (dC, dI) vwCl (zc_10 a1 k1 s1) H1 := hP1
  have hD1 : va_D A (zc_10 a1 k1 s1) := hD1
  clear hP hD hS hB1 hk1 hvm1 hz1 ht1
  refine lv_if_eq (tgt := 44) hx hb dX10_coin_4 (by decide) (fun c2 => ?_) (fun c2 => ?_)
  · replace hR := ifp_ hR c2
    refine lv_iconst (v := (-1 : Int32)) hx hb dX10_coin_44 (by decide) ?_
    subst hQe
    exact W.iret (v := (-1 : Int32)) hx hb hr (fun t ht hW => ⟨⟨(-1 : Int32), s1, rfl, (Option.some.inj hR).symm, by rw [ht]; exact hP1, va_K.moved hW.alike hK, hD1⟩, hS1.F ht⟩) hS1.2.2 dX10_coin_45
  · replace hR := ifn_ hR c2
    refine lv_iload_n hx hb dX10_coin_7 rfl (lv_at hl 2 rfl) ?_
    refine lv_i2l (v := x2.toInt64) hx hb dX10_coin_8 rfl ?_
    refine lv_lconst (v := (1 : Int64)) hx hb dX10_coin_9 (by decide) ?_
    refine lv_ldc2 (v := (99 : Int64)) hx hb hown (hts (.constantLong RX10 94 (99)) (List.mem_of_getElem? (i := 1) rfl)) dX10_coin_10 ?_
    have hR0 := ob_ok hR
    clear hR
    obtain ⟨q3, hq3, hR⟩ := hR0
    refine va_calli (va_runS (As := [.long x2.toInt64, .long (1 : Int64), .long (99 : Int64)]) (rest := []) ⟨hx, hb, hml, hown, hts⟩ (cc_X10_in l dC dI fu H1.size x2.toInt64 (1 : Int64) (99 : Int64) q3 hq3) (va_cwS 3 hts gX10_coin_X10_in rfl rfl rfl (by decide +kernel) ⟨Nat.le_of_ble_eq_true rfl, Nat.le_of_ble_eq_true rfl⟩) (pf_s (nil_K hK) nil_P (nil_D (A := A))) rfl rfl hl.1 rfl (lv_room (Nat.le_of_ble_eq_true rfl)) dX10_coin_13 ⟨Nat.le_refl _, Nat.le_refl _⟩) hS1 (fun q _ h => (fr_none hS1 hA) q h) (fr_none hS1 hA) (fun r3 v3 t3 H3 locs3 ht3 hvm3 hw3 hB3 hz3 hk3 hS3 => ?_)
    subst hw3
    have hP3 := jn_none hP1 hk3
    have hD3 := hD1
    have hP3 : va_P (dC, dI) vwCl (zc_10 a1 k1 s1) H3 := hP3
    have hD3 : va_D A (zc_10 a1 k1 s1) := hD3
    clear hP1 hD1 hS1 hB3 hk3 hvm3 hz3 ht3
    refine lv_if_eq (tgt := 44) hx hb dX10_coin_16 (by decide) (fun c4 => ?_) (fun c4 => ?_)
    · replace hR := ifp_ hR c4
      refine lv_iconst (v := (-1 : Int32)) hx hb dX10_coin_44 (by decide) ?_
      subst hQe
      exact W.iret (v := (-1 : Int32)) hx hb hr (fun t ht hW => ⟨⟨(-1 : Int32), s1, rfl, (Option.some.inj hR).symm, by rw [ht]; exact hP3, va_K.moved hW.alike hK, hD3⟩, hS3.F ht⟩) hS3.2.2 dX10_coin_45
    · replace hR := ifn_ hR c4
      refine lv_iload_n hx hb dX10_coin_19 rfl (lv_at hl 3 rfl) ?_
      refine lv_i2l (v := x3.toInt64) hx hb dX10_coin_20 rfl ?_
      refine lv_lconst (v := (0 : Int64)) hx hb dX10_coin_21 (by decide) ?_
      refine lv_ldc2 (v := (99 : Int64)) hx hb hown (hts (.constantLong RX10 94 (99)) (List.mem_of_getElem? (i := 1) rfl)) dX10_coin_22 ?_
      have hR0 := ob_ok hR
      clear hR
      obtain ⟨q5, hq5, hR⟩ := hR0
      refine va_calli (va_runS (As := [.long x3.toInt64, .long (0 : Int64), .long (99 : Int64)]) (rest := []) ⟨hx, hb, hml, hown, hts⟩ (cc_X10_in l dC dI fu H3.size x3.toInt64 (0 : Int64) (99 : Int64) q5 hq5) (va_cwS 3 hts gX10_coin_X10_in rfl rfl rfl (by decide +kernel) ⟨Nat.le_of_ble_eq_true rfl, Nat.le_of_ble_eq_true rfl⟩) (pf_s (nil_K hK) nil_P (nil_D (A := A))) rfl rfl hl.1 rfl (lv_room (Nat.le_of_ble_eq_true rfl)) dX10_coin_25 ⟨Nat.le_refl _, Nat.le_refl _⟩) hS3 (fun q _ h => (fr_none hS3 hA) q h) (fr_none hS3 hA) (fun r5 v5 t5 H5 locs5 ht5 hvm5 hw5 hB5 hz5 hk5 hS5 => ?_)
      subst hw5
      have hP5 := jn_none hP3 hk5
      have hD5 := hD3
      have hP5 : va_P (dC, dI) vwCl (zc_10 a1 k1 s1) H5 := hP5
      have hD5 : va_D A (zc_10 a1 k1 s1) := hD5
      clear hP3 hD3 hS3 hB5 hk5 hvm5 hz5 ht5
      refine lv_if_eq (tgt := 44) hx hb dX10_coin_28 (by decide) (fun c6 => ?_) (fun c6 => ?_)
      · replace hR := ifp_ hR c6
        refine lv_iconst (v := (-1 : Int32)) hx hb dX10_coin_44 (by decide) ?_
        subst hQe
        exact W.iret (v := (-1 : Int32)) hx hb hr (fun t ht hW => ⟨⟨(-1 : Int32), s1, rfl, (Option.some.inj hR).symm, by rw [ht]; exact hP5, va_K.moved hW.alike hK, hD5⟩, hS5.F ht⟩) hS5.2.2 dX10_coin_45
      · replace hR := ifn_ hR c6
        refine lv_iload hx hb dX10_coin_31 (lv_at hl 4 rfl) ?_
        refine lv_i2l (v := x4.toInt64) hx hb dX10_coin_33 rfl ?_
        refine lv_lconst (v := (0 : Int64)) hx hb dX10_coin_34 (by decide) ?_
        refine lv_ldc2 (v := (3 : Int64)) hx hb hown (hts (.constantLong RX10 84 (3)) (List.mem_of_getElem? (i := 2) rfl)) dX10_coin_35 ?_
        have hR0 := ob_ok hR
        clear hR
        obtain ⟨q7, hq7, hR⟩ := hR0
        refine va_calli (va_runS (As := [.long x4.toInt64, .long (0 : Int64), .long (3 : Int64)]) (rest := []) ⟨hx, hb, hml, hown, hts⟩ (cc_X10_in l dC dI fu H5.size x4.toInt64 (0 : Int64) (3 : Int64) q7 hq7) (va_cwS 3 hts gX10_coin_X10_in rfl rfl rfl (by decide +kernel) ⟨Nat.le_of_ble_eq_true rfl, Nat.le_of_ble_eq_true rfl⟩) (pf_s (nil_K hK) nil_P (nil_D (A := A))) rfl rfl hl.1 rfl (lv_room (Nat.le_of_ble_eq_true rfl)) dX10_coin_38 ⟨Nat.le_refl _, Nat.le_refl _⟩) hS5 (fun q _ h => (fr_none hS5 hA) q h) (fr_none hS5 hA) (fun r7 v7 t7 H7 locs7 ht7 hvm7 hw7 hB7 hz7 hk7 hS7 => ?_)
        subst hw7
        have hP7 := jn_none hP5 hk7
        have hD7 := hD5
        have hP7 : va_P (dC, dI) vwCl (zc_10 a1 k1 s1) H7 := hP7
        have hD7 : va_D A (zc_10 a1 k1 s1) := hD7
        clear hP5 hD5 hS5 hB7 hk7 hvm7 hz7 ht7
        refine lv_if_ne (tgt := 46) hx hb dX10_coin_41 (by decide) (fun c8 => ?_) (fun c8 => ?_)
        · replace hR := ifn_ hR c8
          refine lv_aload_n hx hb dX10_coin_46 rfl (lv_at hl 0 rfl) ?_
          refine va_get (D := (dC, dI)) (ci := 10) (v := .int s1.1.2.2.2.2.2.1) (C := RX10) (T := TX10) (N := 35) hx hb hts hin10 hown hK hP7 0 rfl rfl 5 (by decide) (hts (.fieldLink RX10 74 "OldestCoinsModel" "many" "I") (List.mem_of_getElem? (i := 3) rfl)) (fun _ h9 => h9) rfl dX10_coin_47 ?_
          refine lv_bipush (v := (40 : Int32)) hx hb dX10_coin_50 (by decide) ?_
          refine lv_icmp_ne (tgt := 58) hx hb dX10_coin_52 (by decide) (fun c9 => ?_) (fun c9 => ?_)
          · replace hR := ifn_ hR c9
            refine lv_aload_n hx hb dX10_coin_58 rfl (lv_at hl 0 rfl) ?_
            refine lv_iload_n hx hb dX10_coin_59 rfl (lv_at hl 1 rfl) ?_
            refine lv_iload_n hx hb dX10_coin_60 rfl (lv_at hl 2 rfl) ?_
            refine lv_iload_n hx hb dX10_coin_61 rfl (lv_at hl 3 rfl) ?_
            refine lv_iload_n hx hb dX10_coin_62 rfl (lv_at hl 3 rfl) ?_
            refine lv_iload hx hb dX10_coin_63 (lv_at hl 4 rfl) ?_
            have hR0 := ob_ok hR
            clear hR
            obtain ⟨q10, hq10, hR⟩ := hR0
            refine va_callv (va_runV (As := [.int x1, .int x2, .int x3, .int x3, .int x4]) (rest := []) ⟨hx, hb, hml, hown, hts⟩ (cc_X10_add l dC dI fu a1 k1 H7.size x1 x2 x3 x3 x4 s1 q10 hq10) (cwV 5 hts gX10_coin_X10_add rfl rfl rfl (by decide +kernel) ⟨Nat.le_of_ble_eq_true rfl, Nat.le_of_ble_eq_true rfl⟩) (pf_v hK hP7 hD7 10 0 rfl rfl rfl) rfl rfl hl.1 rfl (lv_room (Nat.le_of_ble_eq_true rfl)) dX10_coin_65 ⟨Nat.le_refl _, Nat.le_refl _⟩) hS7 (fun q _ h => (fr_all hD7 hS7 hA) q h) (fr_all hD7 hS7 hA) (fun v10 t10 H10 locs10 ht10 hvm10 hw10 hB10 hz10 hk10 hS10 => ?_)
            subst hw10
            obtain ⟨hP10, hD10⟩ := jn_all hD7 hS7 hA ht10 hB10
            have hP10 : va_P (dC, dI) vwCl (zc_10 a1 k1 q10) H10 := hP10
            have hD10 : va_D A (zc_10 a1 k1 q10) := hD10
            clear hP7 hD7 hS7 hB10 hk10 hvm10 hz10 ht10
            refine lv_aload_n hx hb dX10_coin_68 rfl (lv_at hl 0 rfl) ?_
            refine va_get (D := (dC, dI)) (ci := 10) (v := .int q10.1.2.2.2.2.2.1) (C := RX10) (T := TX10) (N := 35) hx hb hts hin10 hown hK hP10 0 rfl rfl 5 (by decide) (hts (.fieldLink RX10 74 "OldestCoinsModel" "many" "I") (List.mem_of_getElem? (i := 3) rfl)) (fun _ h9 => h9) rfl dX10_coin_69 ?_
            refine lv_iconst (v := (1 : Int32)) hx hb dX10_coin_72 (by decide) ?_
            refine lv_isub hx hb dX10_coin_73 ?_
            subst hQe
            exact W.iret (v := (q10.1.2.2.2.2.2.1 - (1 : Int32))) hx hb hr (fun t ht hW => ⟨⟨(q10.1.2.2.2.2.2.1 - (1 : Int32)), q10, rfl, (Option.some.inj hR).symm, by rw [ht]; exact hP10, va_K.moved hW.alike hK, hD10⟩, hS10.F ht⟩) hS10.2.2 dX10_coin_74
          · replace hR := ifp_ hR c9
            refine lv_bipush (v := (-3 : Int32)) hx hb dX10_coin_55 (by decide) ?_
            subst hQe
            exact W.iret (v := (-3 : Int32)) hx hb hr (fun t ht hW => ⟨⟨(-3 : Int32), s1, rfl, (Option.some.inj hR).symm, by rw [ht]; exact hP7, va_K.moved hW.alike hK, hD7⟩, hS7.F ht⟩) hS7.2.2 dX10_coin_57
        · replace hR := ifp_ hR c8
          refine lv_iconst (v := (-1 : Int32)) hx hb dX10_coin_44 (by decide) ?_
          subst hQe
          exact W.iret (v := (-1 : Int32)) hx hb hr (fun t ht hW => ⟨⟨(-1 : Int32), s1, rfl, (Option.some.inj hR).symm, by rw [ht]; exact hP7, va_K.moved hW.alike hK, hD7⟩, hS7.F ht⟩) hS7.2.2 dX10_coin_45
