def rr_X10_nextByte_38 (fu : Nat) (u1 : ZT_10) : Option (Int32 × ZT_10) := (if u1.2.2.2.2.1.2.1 ≤ u1.2.2.2.2.1.2.2.1 then some ((-1 : Int32), u1) else ck_ u1.2.2.2.2.1.2.2.1 160 (some ((u1.2.2.2.2.1.1 u1.2.2.2.2.1.2.2.1.toNatClampNeg), u1)))
def rr_X10_nextByte_0_b (fu : Nat) (rec0 : ZT_10 → Option (Int32 × ZT_10)) (u1 : ZT_10) : Option (Int32 × ZT_10) := (if u1.2.2.2.2.1.2.1 ≤ u1.2.2.2.2.1.2.2.1 then rr_X10_nextByte_38 fu u1 else ck_ u1.2.2.2.2.1.2.2.1 160 ((if (u1.2.2.2.2.1.1 u1.2.2.2.2.1.2.2.1.toNatClampNeg) = (32 : Int32) then lt_ (α := Int32) (u1.2.2.2.2.1.2.2.1 + (1 : Int32)) (fun z4 => rec0 (u1.1, u1.2.1, u1.2.2.1, u1.2.2.2.1, (u1.2.2.2.2.1.1, u1.2.2.2.2.1.2.1, z4, u1.2.2.2.2.1.2.2.2), u1.2.2.2.2.2)) else rr_X10_nextByte_38 fu u1)))
def rr_X10_nextByte_0 (fu : Nat) (n : Nat) : ZT_10 → Option (Int32 × ZT_10) := lp_ (fun _ => none) (rr_X10_nextByte_0_b fu) n
def rr_X10_nextByte (fu : Nat) (s1 : ZT_10) : Option (Int32 × ZT_10) := rr_X10_nextByte_0 fu fu s1
set_option maxHeartbeats 4000000 in
set_option maxRecDepth 100000 in
theorem cc_X10_nextByte (l : Launch) (dC : Nat → ClassId) (dI : Nat → Nat → Nat) (fu : Nat) (a1 : Nat → Nat) (k1 : Nat → ClassId) (sz : Nat) (s1 : ZT_10) (res : Int32 × ZT_10) (hR : rr_X10_nextByte fu s1 = some res) : Met l yX10_nextByte wsX10_nextByte ({ frames := 0, cells := 0, slots := 0, locals := 0 } : Room) (PcF [.ref (a1 0)] sz (dC, dI) (zc_10 a1 k1 s1) (zt_10 k1)) (va_Qi (fun (r : Int32) (u : ZT_10) => res = (r, u)) (fun u t => at3_ (dC, dI) (zc_10 a1 k1 u) (zt_10 k1) (va_A (zc_10 a1 k1 s1) sz) t) (va_A (zc_10 a1 k1 s1) sz)) 0 0 (va_A (zc_10 a1 k1 s1) sz) := by
  refine Met.ofW (cc := cX10_nextByte) (maxL := 1) (ret := (some .int)) (by decide) rfl ?_
  intro p e s m args below meth c s₁ B hml hv
  obtain ⟨hav, hsz, hP, hK, hD0⟩ := hv
  have hx := B.exec
  have hb := B.bytes
  have hr := B.returns
  have hts := atoms_spec (ws := wsX10_nextByte) B.pre
  have hown : s.vm.findClass RX10 = some m.cls := findClass_of_methodNamed B.named
  have hlocks := B.notSynchronized
  have hin10 : ∀ w ∈ wsX100, w ∈ wsX10_nextByte := fun w h => List.mem_cons_of_mem _ (List.mem_append_right _ h)
  subst hsz
  have hD := hD0.self (sz := s.heap.size)
  clear hD0
  generalize hAe : va_A (zc_10 a1 k1 s1) s.heap.size = A at hD ⊢
  have hA : ∀ q : Nat, s.heap.size ≤ q → A q := fun q h => by rw [← hAe]; exact Or.inr h
  have hS : va_S A s.heap s.heap [] := va_S.rf
  generalize hQe : MQ below _ args s 0 0 A = Q
  rw [show entryFrame m args 1 = F0 m 0 ((lg_sl ([.ref (a1 0)]) ++ List.replicate (1 - (lg_sl ([.ref (a1 0)])).length) Slot.unset).toArray) [] from by rw [hav]; exact lg_entry_eq m _ _]
  have hl := lv_entry ([.ref (a1 0)]) (n := 1) (Nat.le_of_ble_eq_true rfl)
  generalize (lg_sl ([.ref (a1 0)]) ++ List.replicate (1 - (lg_sl ([.ref (a1 0)])).length) Slot.unset).toArray = ls at hl ⊢
  have hl : lv_has ls 1 [(0, .ref (a1 0))] := hl
  have hB38 : ∀ (u1 : ZT_10) (H : Heap) (locs : List Loc) (ls : Array Slot), va_P (dC, dI) vwCl (zc_10 a1 k1 u1) H → va_D A (zc_10 a1 k1 u1) → va_S A s.heap H locs → lv_has ls 1 [(0, .ref (a1 0))] → rr_X10_nextByte_38 fu u1 = some res → W p l e ({ frames := 0, cells := 0, slots := 0, locals := 0 } : Room) s m args below meth c H locs 0 0 Q (F0 m 38 ls []) := by
    intro  u1 H locs ls hP hD hS hl hR
    unfold rr_X10_nextByte_38 at hR
    refine lv_aload_n hx hb dX10_nextByte_38 rfl (lv_at hl 0 rfl) ?_
    refine va_get (D := (dC, dI)) (ci := 10) (v := .int u1.2.2.2.2.1.2.2.1) (C := RX10) (T := TX10) (N := 35) hx hb hts hin10 hown hK hP 0 rfl rfl 16 (by decide) (hts (.fieldLink RX10 149 "OldestCoinsModel" "place" "I") (List.mem_of_getElem? (i := 1) rfl)) (fun _ h9 => h9) rfl dX10_nextByte_39 ?_
    refine lv_aload_n hx hb dX10_nextByte_42 rfl (lv_at hl 0 rfl) ?_
    refine va_get (D := (dC, dI)) (ci := 10) (v := .int u1.2.2.2.2.1.2.1) (C := RX10) (T := TX10) (N := 35) hx hb hts hin10 hown hK hP 0 rfl rfl 15 (by decide) (hts (.fieldLink RX10 146 "OldestCoinsModel" "taped" "I") (List.mem_of_getElem? (i := 2) rfl)) (fun _ h9 => h9) rfl dX10_nextByte_43 ?_
    refine lv_icmp_ge (tgt := 61) hx hb dX10_nextByte_46 (by decide) (fun c6 => ?_) (fun c6 => ?_)
    · replace hR := ifp_ hR c6
      refine lv_iconst (v := (-1 : Int32)) hx hb dX10_nextByte_61 (by decide) ?_
      subst hQe
      exact W.iret (v := (-1 : Int32)) hx hb hr (fun t ht hW => ⟨⟨(-1 : Int32), u1, rfl, (Option.some.inj hR).symm, by rw [ht]; exact hP, va_K.moved hW.alike hK, hD⟩, hS.F ht⟩) hS.2.2 dX10_nextByte_62
    · replace hR := ifn_ hR c6
      refine lv_aload_n hx hb dX10_nextByte_49 rfl (lv_at hl 0 rfl) ?_
      refine va_get (D := (dC, dI)) (ci := 10) (v := .ref (a1 10)) (C := RX10) (T := TX10) (N := 35) hx hb hts hin10 hown hK hP 0 rfl rfl 14 (by decide) (hts (.fieldLink RX10 37 "OldestCoinsModel" "tape" "[I") (List.mem_of_getElem? (i := 3) rfl)) (fun _ h9 => h9) rfl dX10_nextByte_50 ?_
      refine lv_aload_n hx hb dX10_nextByte_53 rfl (lv_at hl 0 rfl) ?_
      refine va_get (D := (dC, dI)) (ci := 10) (v := .int u1.2.2.2.2.1.2.2.1) (C := RX10) (T := TX10) (N := 35) hx hb hts hin10 hown hK hP 0 rfl rfl 16 (by decide) (hts (.fieldLink RX10 149 "OldestCoinsModel" "place" "I") (List.mem_of_getElem? (i := 1) rfl)) (fun _ h9 => h9) rfl dX10_nextByte_54 ?_
      have i7 := (ck_ok hR).1
      replace hR := (ck_ok hR).2
      refine va_iald (f := u1.2.2.2.2.1.1) hx hb hK hP 10 9 rfl rfl i7 dX10_nextByte_57 ?_
      refine lv_goto (tgt := 62) hx hb dX10_nextByte_58 (by decide) ?_
      subst hQe
      exact W.iret (v := (u1.2.2.2.2.1.1 u1.2.2.2.2.1.2.2.1.toNatClampNeg)) hx hb hr (fun t ht hW => ⟨⟨(u1.2.2.2.2.1.1 u1.2.2.2.2.1.2.2.1.toNatClampNeg), u1, rfl, (Option.some.inj hR).symm, by rw [ht]; exact hP, va_K.moved hW.alike hK, hD⟩, hS.F ht⟩) hS.2.2 dX10_nextByte_62
  have hB0 : ∀ (n : Nat), ∀ (u1 : ZT_10) (H : Heap) (locs : List Loc) (ls : Array Slot), va_P (dC, dI) vwCl (zc_10 a1 k1 u1) H → va_D A (zc_10 a1 k1 u1) → va_S A s.heap H locs → lv_has ls 1 [(0, .ref (a1 0))] → rr_X10_nextByte_0 fu n u1 = some res → W p l e ({ frames := 0, cells := 0, slots := 0, locals := 0 } : Room) s m args below meth c H locs 0 0 Q (F0 m 0 ls []) := by
    intro  n
    induction n with
    | zero => intro u1 H locs ls hP hD hS hl hR; exact absurd hR (by intro h; cases h)
    | succ n ih =>
      intro u1 H locs ls hP hD hS hl hR
      replace hR : rr_X10_nextByte_0_b fu (rr_X10_nextByte_0 fu n) u1 = some res := hR
      unfold rr_X10_nextByte_0_b at hR
      refine lv_aload_n hx hb dX10_nextByte_0 rfl (lv_at hl 0 rfl) ?_
      refine va_get (D := (dC, dI)) (ci := 10) (v := .int u1.2.2.2.2.1.2.2.1) (C := RX10) (T := TX10) (N := 35) hx hb hts hin10 hown hK hP 0 rfl rfl 16 (by decide) (hts (.fieldLink RX10 149 "OldestCoinsModel" "place" "I") (List.mem_of_getElem? (i := 1) rfl)) (fun _ h9 => h9) rfl dX10_nextByte_1 ?_
      refine lv_aload_n hx hb dX10_nextByte_4 rfl (lv_at hl 0 rfl) ?_
      refine va_get (D := (dC, dI)) (ci := 10) (v := .int u1.2.2.2.2.1.2.1) (C := RX10) (T := TX10) (N := 35) hx hb hts hin10 hown hK hP 0 rfl rfl 15 (by decide) (hts (.fieldLink RX10 146 "OldestCoinsModel" "taped" "I") (List.mem_of_getElem? (i := 2) rfl)) (fun _ h9 => h9) rfl dX10_nextByte_5 ?_
      refine lv_icmp_ge (tgt := 38) hx hb dX10_nextByte_8 (by decide) (fun c1 => ?_) (fun c1 => ?_)
      · replace hR := ifp_ hR c1
        exact hB38 u1 H locs ls hP hD hS (lv_sub hl [0] rfl) hR
      · replace hR := ifn_ hR c1
        refine lv_aload_n hx hb dX10_nextByte_11 rfl (lv_at hl 0 rfl) ?_
        refine va_get (D := (dC, dI)) (ci := 10) (v := .ref (a1 10)) (C := RX10) (T := TX10) (N := 35) hx hb hts hin10 hown hK hP 0 rfl rfl 14 (by decide) (hts (.fieldLink RX10 37 "OldestCoinsModel" "tape" "[I") (List.mem_of_getElem? (i := 3) rfl)) (fun _ h9 => h9) rfl dX10_nextByte_12 ?_
        refine lv_aload_n hx hb dX10_nextByte_15 rfl (lv_at hl 0 rfl) ?_
        refine va_get (D := (dC, dI)) (ci := 10) (v := .int u1.2.2.2.2.1.2.2.1) (C := RX10) (T := TX10) (N := 35) hx hb hts hin10 hown hK hP 0 rfl rfl 16 (by decide) (hts (.fieldLink RX10 149 "OldestCoinsModel" "place" "I") (List.mem_of_getElem? (i := 1) rfl)) (fun _ h9 => h9) rfl dX10_nextByte_16 ?_
        have i2 := (ck_ok hR).1
        replace hR := (ck_ok hR).2
        refine va_iald (f := u1.2.2.2.2.1.1) hx hb hK hP 10 9 rfl rfl i2 dX10_nextByte_19 ?_
        refine lv_bipush (v := (32 : Int32)) hx hb dX10_nextByte_20 (by decide) ?_
        refine lv_icmp_ne (tgt := 38) hx hb dX10_nextByte_22 (by decide) (fun c3 => ?_) (fun c3 => ?_)
        · replace hR := ifn_ hR c3
          exact hB38 u1 H locs ls hP hD hS (lv_sub hl [0] rfl) hR
        · replace hR := ifp_ hR c3
          refine lv_aload_n hx hb dX10_nextByte_25 rfl (lv_at hl 0 rfl) ?_
          refine lv_dup hx hb dX10_nextByte_26 rfl ?_
          refine va_get (D := (dC, dI)) (ci := 10) (v := .int u1.2.2.2.2.1.2.2.1) (C := RX10) (T := TX10) (N := 35) hx hb hts hin10 hown hK hP 0 rfl rfl 16 (by decide) (hts (.fieldLink RX10 149 "OldestCoinsModel" "place" "I") (List.mem_of_getElem? (i := 1) rfl)) (fun _ h9 => h9) rfl dX10_nextByte_27 ?_
          refine lv_iconst (v := (1 : Int32)) hx hb dX10_nextByte_30 (by decide) ?_
          refine lv_iadd hx hb dX10_nextByte_31 ?_
          refine lv_topi (fun z4 ez4 => ?_)
          replace hR := lt_ok hR ez4
          refine va_put (D := (dC, dI)) (ci := 10) (v := .int z4) (ty := .int) (C := RX10) (T := TX10) (N := 35) hx hb hts hin10 tyX10 tyX10_ok nmX10 hown hK hP hD hS 0 rfl rfl 16 (by decide) (hts (.fieldLink RX10 149 "OldestCoinsModel" "place" "I") (List.mem_of_getElem? (i := 1) rfl)) (fun _ h9 => h9) rfl (by decide +kernel) rfl rfl (Nat.le_of_ble_eq_true rfl) dX10_nextByte_32 (fun H5 locs5 hP5 hD5 hS5 => ?_)
          have hP5 : va_P (dC, dI) vwCl (zc_10 a1 k1 (u1.1, u1.2.1, u1.2.2.1, u1.2.2.2.1, (u1.2.2.2.2.1.1, u1.2.2.2.2.1.2.1, z4, u1.2.2.2.2.1.2.2.2), u1.2.2.2.2.2)) H5 := hP5
          have hD5 : va_D A (zc_10 a1 k1 (u1.1, u1.2.1, u1.2.2.1, u1.2.2.2.1, (u1.2.2.2.2.1.1, u1.2.2.2.2.1.2.1, z4, u1.2.2.2.2.1.2.2.2), u1.2.2.2.2.2)) := hD5
          clear hP hD hS
          refine lv_goto (tgt := 0) hx hb dX10_nextByte_35 (by decide) ?_
          exact ih (u1.1, u1.2.1, u1.2.2.1, u1.2.2.2.1, (u1.2.2.2.2.1.1, u1.2.2.2.2.1.2.1, z4, u1.2.2.2.2.1.2.2.2), u1.2.2.2.2.2) H5 locs5 ls hP5 hD5 hS5 (lv_sub hl [0] rfl) hR
  unfold rr_X10_nextByte at hR
  exact hB0 fu s1 s.heap [] ls hP hD hS (lv_sub hl [0] rfl) hR
def rr_X10_readNumber_92 (fu : Nat) (y1 : Int32) (y2 : Int32) (y3 : Int32) (y4 : Int32) (u1 : ZT_10) : Option (Int32 × ZT_10) := (if u1.2.2.2.2.1.2.2.1 = y3 then some ((-1 : Int32), u1) else (rr_X10_in fu y4.toInt64 y1.toInt64 y2.toInt64).bind (fun q11 => (if q11 = (0 : Int32) then some ((-1 : Int32), (u1.1, u1.2.1, u1.2.2.1, u1.2.2.2.1, (u1.2.2.2.2.1.1, u1.2.2.2.2.1.2.1, y3, u1.2.2.2.2.1.2.2.2), u1.2.2.2.2.2)) else some (y4, u1))))
def rr_X10_readNumber_77 (fu : Nat) (rec13 : Int32 → Int32 → Int32 → Int32 → ZT_10 → Option (Int32 × ZT_10)) (y1 : Int32) (y2 : Int32) (y3 : Int32) (w0 : Int32) (u1 : ZT_10) : Option (Int32 × ZT_10) := lt_ (α := Int32) (u1.2.2.2.2.1.2.2.1 + (1 : Int32)) (fun z15 => rec13 y1 y2 y3 w0 (u1.1, u1.2.1, u1.2.2.1, u1.2.2.2.1, (u1.2.2.2.2.1.1, u1.2.2.2.2.1.2.1, z15, u1.2.2.2.2.1.2.2.2), u1.2.2.2.2.2))
def rr_X10_readNumber_13_b (fu : Nat) (rec13 : Int32 → Int32 → Int32 → Int32 → ZT_10 → Option (Int32 × ZT_10)) (y1 : Int32) (y2 : Int32) (y3 : Int32) (y4 : Int32) (u1 : ZT_10) : Option (Int32 × ZT_10) := (if u1.2.2.2.2.1.2.1 ≤ u1.2.2.2.2.1.2.2.1 then rr_X10_readNumber_92 fu y1 y2 y3 y4 u1 else ck_ u1.2.2.2.2.1.2.2.1 160 ((rr_X10_in fu (u1.2.2.2.2.1.1 u1.2.2.2.2.1.2.2.1.toNatClampNeg).toInt64 (48 : Int64) (57 : Int64)).bind (fun q6 => (if q6 = (0 : Int32) then rr_X10_readNumber_92 fu y1 y2 y3 y4 u1 else (if y4 ≤ (9999 : Int32) then ck_ u1.2.2.2.2.1.2.2.1 160 (rr_X10_readNumber_77 fu rec13 y1 y2 y3 ((((10 : Int32) * y4) + (u1.2.2.2.2.1.1 u1.2.2.2.2.1.2.2.1.toNatClampNeg)) - (48 : Int32)) u1) else rr_X10_readNumber_77 fu rec13 y1 y2 y3 y4 u1)))))
def rr_X10_readNumber_13 (fu : Nat) (n : Nat) : Int32 → Int32 → Int32 → Int32 → ZT_10 → Option (Int32 × ZT_10) := lp_ (fun _ _ _ _ _ => none) (rr_X10_readNumber_13_b fu) n
def rr_X10_readNumber (fu : Nat) (x1 : Int32) (x2 : Int32) (s1 : ZT_10) : Option (Int32 × ZT_10) := (rr_X10_nextByte fu s1).bind (fun q1 => rr_X10_readNumber_13 fu fu x1 x2 q1.2.2.2.2.2.1.2.2.1 (0 : Int32) q1.2)
set_option maxHeartbeats 4000000 in
set_option maxRecDepth 100000 in
theorem cc_X10_readNumber (l : Launch) (dC : Nat → ClassId) (dI : Nat → Nat → Nat) (fu : Nat) (a1 : Nat → Nat) (k1 : Nat → ClassId) (sz : Nat) (x1 : Int32) (x2 : Int32) (s1 : ZT_10) (res : Int32 × ZT_10) (hR : rr_X10_readNumber fu x1 x2 s1 = some res) : Met l yX10_readNumber wsX10_readNumber ({ frames := 1, cells := 0, slots := 0, locals := 25 } : Room) (PcF [.ref (a1 0), .int x1, .int x2] sz (dC, dI) (zc_10 a1 k1 s1) (zt_10 k1)) (va_Qi (fun (r : Int32) (u : ZT_10) => res = (r, u)) (fun u t => at3_ (dC, dI) (zc_10 a1 k1 u) (zt_10 k1) (va_A (zc_10 a1 k1 s1) sz) t) (va_A (zc_10 a1 k1 s1) sz)) 0 0 (va_A (zc_10 a1 k1 s1) sz) := by
  refine Met.ofW (cc := cX10_readNumber) (maxL := 5) (ret := (some .int)) (by decide) rfl ?_
  intro p e s m args below meth c s₁ B hml hv
  obtain ⟨hav, hsz, hP, hK, hD0⟩ := hv
  have hx := B.exec
  have hb := B.bytes
  have hr := B.returns
  have hts := atoms_spec (ws := wsX10_readNumber) B.pre
  have hown : s.vm.findClass RX10 = some m.cls := findClass_of_methodNamed B.named
  have hlocks := B.notSynchronized
  have hin10 : ∀ w ∈ wsX100, w ∈ wsX10_readNumber := fun w h => List.mem_cons_of_mem _ (List.mem_append_right _ h)
  subst hsz
  have hD := hD0.self (sz := s.heap.size)
  clear hD0
  generalize hAe : va_A (zc_10 a1 k1 s1) s.heap.size = A at hD ⊢
  have hA : ∀ q : Nat, s.heap.size ≤ q → A q := fun q h => by rw [← hAe]; exact Or.inr h
  have hS : va_S A s.heap s.heap [] := va_S.rf
  generalize hQe : MQ below _ args s 0 0 A = Q
  rw [show entryFrame m args 5 = F0 m 0 ((lg_sl ([.ref (a1 0), .int x1, .int x2]) ++ List.replicate (5 - (lg_sl ([.ref (a1 0), .int x1, .int x2])).length) Slot.unset).toArray) [] from by rw [hav]; exact lg_entry_eq m _ _]
  have hl := lv_entry ([.ref (a1 0), .int x1, .int x2]) (n := 5) (Nat.le_of_ble_eq_true rfl)
  generalize (lg_sl ([.ref (a1 0), .int x1, .int x2]) ++ List.replicate (5 - (lg_sl ([.ref (a1 0), .int x1, .int x2])).length) Slot.unset).toArray = ls at hl ⊢
  have hl : lv_has ls 5 [(0, .ref (a1 0)), (1, .int x1), (2, .int x2)] := hl
  have hB92 : ∀ (y1 : Int32) (y2 : Int32) (y3 : Int32) (y4 : Int32) (u1 : ZT_10) (H : Heap) (locs : List Loc) (ls : Array Slot), va_P (dC, dI) vwCl (zc_10 a1 k1 u1) H → va_D A (zc_10 a1 k1 u1) → va_S A s.heap H locs → lv_has ls 5 [(0, .ref (a1 0)), (1, .int y1), (2, .int y2), (3, .int y3), (4, .int y4)] → rr_X10_readNumber_92 fu y1 y2 y3 y4 u1 = some res → W p l e ({ frames := 1, cells := 0, slots := 0, locals := 25 } : Room) s m args below meth c H locs 0 0 Q (F0 m 92 ls []) := by
    intro  y1 y2 y3 y4 u1 H locs ls hP hD hS hl hR
    unfold rr_X10_readNumber_92 at hR
    refine lv_aload_n hx hb dX10_readNumber_92 rfl (lv_at hl 0 rfl) ?_
    refine va_get (D := (dC, dI)) (ci := 10) (v := .int u1.2.2.2.2.1.2.2.1) (C := RX10) (T := TX10) (N := 35) hx hb hts hin10 hown hK hP 0 rfl rfl 16 (by decide) (hts (.fieldLink RX10 149 "OldestCoinsModel" "place" "I") (List.mem_of_getElem? (i := 1) rfl)) (fun _ h9 => h9) rfl dX10_readNumber_93 ?_
    refine lv_iload_n hx hb dX10_readNumber_96 rfl (lv_at hl 3 rfl) ?_
    refine lv_icmp_ne (tgt := 102) hx hb dX10_readNumber_97 (by decide) (fun c10 => ?_) (fun c10 => ?_)
    · replace hR := ifn_ hR c10
      refine lv_iload hx hb dX10_readNumber_102 (lv_at hl 4 rfl) ?_
      refine lv_i2l (v := y4.toInt64) hx hb dX10_readNumber_104 rfl ?_
      refine lv_iload_n hx hb dX10_readNumber_105 rfl (lv_at hl 1 rfl) ?_
      refine lv_i2l (v := y1.toInt64) hx hb dX10_readNumber_106 rfl ?_
      refine lv_iload_n hx hb dX10_readNumber_107 rfl (lv_at hl 2 rfl) ?_
      refine lv_i2l (v := y2.toInt64) hx hb dX10_readNumber_108 rfl ?_
      have hR0 := ob_ok hR
      clear hR
      obtain ⟨q11, hq11, hR⟩ := hR0
      refine va_calli (va_runS (As := [.long y4.toInt64, .long y1.toInt64, .long y2.toInt64]) (rest := []) ⟨hx, hb, hml, hown, hts⟩ (cc_X10_in l dC dI fu H.size y4.toInt64 y1.toInt64 y2.toInt64 q11 hq11) (va_cwS 3 hts gX10_readNumber_X10_in rfl rfl rfl (by decide +kernel) ⟨Nat.le_of_ble_eq_true rfl, Nat.le_of_ble_eq_true rfl⟩) (pf_s (nil_K hK) nil_P (nil_D (A := A))) rfl rfl hl.1 rfl (lv_room (Nat.le_of_ble_eq_true rfl)) dX10_readNumber_109 ⟨Nat.le_refl _, Nat.le_refl _⟩) hS (fun q _ h => (fr_none hS hA) q h) (fr_none hS hA) (fun r11 v11 t11 H11 locs11 ht11 hvm11 hw11 hB11 hz11 hk11 hS11 => ?_)
      subst hw11
      have hP11 := jn_none hP hk11
      have hD11 := hD
      have hP11 : va_P (dC, dI) vwCl (zc_10 a1 k1 u1) H11 := hP11
      have hD11 : va_D A (zc_10 a1 k1 u1) := hD11
      clear hP hD hS hB11 hk11 hvm11 hz11 ht11
      refine lv_if_ne (tgt := 122) hx hb dX10_readNumber_112 (by decide) (fun c12 => ?_) (fun c12 => ?_)
      · replace hR := ifn_ hR c12
        refine lv_iload hx hb dX10_readNumber_122 (lv_at hl 4 rfl) ?_
        subst hQe
        exact W.iret (v := y4) hx hb hr (fun t ht hW => ⟨⟨y4, u1, rfl, (Option.some.inj hR).symm, by rw [ht]; exact hP11, va_K.moved hW.alike hK, hD11⟩, hS11.F ht⟩) hS11.2.2 dX10_readNumber_124
      · replace hR := ifp_ hR c12
        refine lv_aload_n hx hb dX10_readNumber_115 rfl (lv_at hl 0 rfl) ?_
        refine lv_iload_n hx hb dX10_readNumber_116 rfl (lv_at hl 3 rfl) ?_
        refine va_put (D := (dC, dI)) (ci := 10) (v := .int y3) (ty := .int) (C := RX10) (T := TX10) (N := 35) hx hb hts hin10 tyX10 tyX10_ok nmX10 hown hK hP11 hD11 hS11 0 rfl rfl 16 (by decide) (hts (.fieldLink RX10 149 "OldestCoinsModel" "place" "I") (List.mem_of_getElem? (i := 1) rfl)) (fun _ h9 => h9) rfl (by decide +kernel) rfl rfl (Nat.le_of_ble_eq_true rfl) dX10_readNumber_117 (fun H13 locs13 hP13 hD13 hS13 => ?_)
        have hP13 : va_P (dC, dI) vwCl (zc_10 a1 k1 (u1.1, u1.2.1, u1.2.2.1, u1.2.2.2.1, (u1.2.2.2.2.1.1, u1.2.2.2.2.1.2.1, y3, u1.2.2.2.2.1.2.2.2), u1.2.2.2.2.2)) H13 := hP13
        have hD13 : va_D A (zc_10 a1 k1 (u1.1, u1.2.1, u1.2.2.1, u1.2.2.2.1, (u1.2.2.2.2.1.1, u1.2.2.2.2.1.2.1, y3, u1.2.2.2.2.1.2.2.2), u1.2.2.2.2.2)) := hD13
        clear hP11 hD11 hS11
        refine lv_iconst (v := (-1 : Int32)) hx hb dX10_readNumber_120 (by decide) ?_
        subst hQe
        exact W.iret (v := (-1 : Int32)) hx hb hr (fun t ht hW => ⟨⟨(-1 : Int32), (u1.1, u1.2.1, u1.2.2.1, u1.2.2.2.1, (u1.2.2.2.2.1.1, u1.2.2.2.2.1.2.1, y3, u1.2.2.2.2.1.2.2.2), u1.2.2.2.2.2), rfl, (Option.some.inj hR).symm, by rw [ht]; exact hP13, va_K.moved hW.alike hK, hD13⟩, hS13.F ht⟩) hS13.2.2 dX10_readNumber_121
    · replace hR := ifp_ hR c10
      refine lv_iconst (v := (-1 : Int32)) hx hb dX10_readNumber_100 (by decide) ?_
      subst hQe
      exact W.iret (v := (-1 : Int32)) hx hb hr (fun t ht hW => ⟨⟨(-1 : Int32), u1, rfl, (Option.some.inj hR).symm, by rw [ht]; exact hP, va_K.moved hW.alike hK, hD⟩, hS.F ht⟩) hS.2.2 dX10_readNumber_101
  have hB77 : ∀ (rec13 : Int32 → Int32 → Int32 → Int32 → ZT_10 → Option (Int32 × ZT_10)) (hrec13 : ∀ (y1 : Int32) (y2 : Int32) (y3 : Int32) (y4 : Int32) (u1 : ZT_10) (H : Heap) (locs : List Loc) (ls : Array Slot), va_P (dC, dI) vwCl (zc_10 a1 k1 u1) H → va_D A (zc_10 a1 k1 u1) → va_S A s.heap H locs → lv_has ls 5 [(0, .ref (a1 0)), (1, .int y1), (2, .int y2), (3, .int y3), (4, .int y4)] → rec13 y1 y2 y3 y4 u1 = some res → W p l e ({ frames := 1, cells := 0, slots := 0, locals := 25 } : Room) s m args below meth c H locs 0 0 Q (F0 m 13 ls [])), ∀ (y1 : Int32) (y2 : Int32) (y3 : Int32) (w0 : Int32) (u1 : ZT_10) (H : Heap) (locs : List Loc) (ls : Array Slot), va_P (dC, dI) vwCl (zc_10 a1 k1 u1) H → va_D A (zc_10 a1 k1 u1) → va_S A s.heap H locs → lv_has ls 5 [(0, .ref (a1 0)), (1, .int y1), (2, .int y2), (3, .int y3)] → rr_X10_readNumber_77 fu rec13 y1 y2 y3 w0 u1 = some res → W p l e ({ frames := 1, cells := 0, slots := 0, locals := 25 } : Room) s m args below meth c H locs 0 0 Q (F0 m 77 ls [.int w0]) := by
    intro rec13 hrec13 y1 y2 y3 w0 u1 H locs ls hP hD hS hl hR
    unfold rr_X10_readNumber_77 at hR
    refine lv_istore (lv' := [(4, .int w0), (0, .ref (a1 0)), (1, .int y1), (2, .int y2), (3, .int y3)]) hx hb dX10_readNumber_77 hl (by decide) rfl (fun ls14 hl14 => ?_)
    refine lv_aload_n hx hb dX10_readNumber_79 rfl (lv_at hl14 1 rfl) ?_
    refine lv_dup hx hb dX10_readNumber_80 rfl ?_
    refine va_get (D := (dC, dI)) (ci := 10) (v := .int u1.2.2.2.2.1.2.2.1) (C := RX10) (T := TX10) (N := 35) hx hb hts hin10 hown hK hP 0 rfl rfl 16 (by decide) (hts (.fieldLink RX10 149 "OldestCoinsModel" "place" "I") (List.mem_of_getElem? (i := 1) rfl)) (fun _ h9 => h9) rfl dX10_readNumber_81 ?_
    refine lv_iconst (v := (1 : Int32)) hx hb dX10_readNumber_84 (by decide) ?_
    refine lv_iadd hx hb dX10_readNumber_85 ?_
    refine lv_topi (fun z15 ez15 => ?_)
    replace hR := lt_ok hR ez15
    refine va_put (D := (dC, dI)) (ci := 10) (v := .int z15) (ty := .int) (C := RX10) (T := TX10) (N := 35) hx hb hts hin10 tyX10 tyX10_ok nmX10 hown hK hP hD hS 0 rfl rfl 16 (by decide) (hts (.fieldLink RX10 149 "OldestCoinsModel" "place" "I") (List.mem_of_getElem? (i := 1) rfl)) (fun _ h9 => h9) rfl (by decide +kernel) rfl rfl (Nat.le_of_ble_eq_true rfl) dX10_readNumber_86 (fun H16 locs16 hP16 hD16 hS16 => ?_)
    have hP16 : va_P (dC, dI) vwCl (zc_10 a1 k1 (u1.1, u1.2.1, u1.2.2.1, u1.2.2.2.1, (u1.2.2.2.2.1.1, u1.2.2.2.2.1.2.1, z15, u1.2.2.2.2.1.2.2.2), u1.2.2.2.2.2)) H16 := hP16
    have hD16 : va_D A (zc_10 a1 k1 (u1.1, u1.2.1, u1.2.2.1, u1.2.2.2.1, (u1.2.2.2.2.1.1, u1.2.2.2.2.1.2.1, z15, u1.2.2.2.2.1.2.2.2), u1.2.2.2.2.2)) := hD16
    clear hP hD hS
    refine lv_goto (tgt := 13) hx hb dX10_readNumber_89 (by decide) ?_
    exact hrec13 y1 y2 y3 w0 (u1.1, u1.2.1, u1.2.2.1, u1.2.2.2.1, (u1.2.2.2.2.1.1, u1.2.2.2.2.1.2.1, z15, u1.2.2.2.2.1.2.2.2), u1.2.2.2.2.2) H16 locs16 ls14 hP16 hD16 hS16 (lv_sub hl14 [1, 2, 3, 4, 0] rfl) hR
  have hB13 : ∀ (n : Nat), ∀ (y1 : Int32) (y2 : Int32) (y3 : Int32) (y4 : Int32) (u1 : ZT_10) (H : Heap) (locs : List Loc) (ls : Array Slot), va_P (dC, dI) vwCl (zc_10 a1 k1 u1) H → va_D A (zc_10 a1 k1 u1) → va_S A s.heap H locs → lv_has ls 5 [(0, .ref (a1 0)), (1, .int y1), (2, .int y2), (3, .int y3), (4, .int y4)] → rr_X10_readNumber_13 fu n y1 y2 y3 y4 u1 = some res → W p l e ({ frames := 1, cells := 0, slots := 0, locals := 25 } : Room) s m args below meth c H locs 0 0 Q (F0 m 13 ls []) := by
    intro  n
    induction n with
    | zero => intro y1 y2 y3 y4 u1 H locs ls hP hD hS hl hR; exact absurd hR (by intro h; cases h)
    | succ n ih =>
      intro y1 y2 y3 y4 u1 H locs ls hP hD hS hl hR
      replace hR : rr_X10_readNumber_13_b fu (rr_X10_readNumber_13 fu n) y1 y2 y3 y4 u1 = some res := hR
      unfold rr_X10_readNumber_13_b at hR
      refine lv_aload_n hx hb dX10_readNumber_13 rfl (lv_at hl 0 rfl) ?_
      refine va_get (D := (dC, dI)) (ci := 10) (v := .int u1.2.2.2.2.1.2.2.1) (C := RX10) (T := TX10) (N := 35) hx hb hts hin10 hown hK hP 0 rfl rfl 16 (by decide) (hts (.fieldLink RX10 149 "OldestCoinsModel" "place" "I") (List.mem_of_getElem? (i := 1) rfl)) (fun _ h9 => h9) rfl dX10_readNumber_14 ?_
      refine lv_aload_n hx hb dX10_readNumber_17 rfl (lv_at hl 0 rfl) ?_
      refine va_get (D := (dC, dI)) (ci := 10) (v := .int u1.2.2.2.2.1.2.1) (C := RX10) (T := TX10) (N := 35) hx hb hts hin10 hown hK hP 0 rfl rfl 15 (by decide) (hts (.fieldLink RX10 146 "OldestCoinsModel" "taped" "I") (List.mem_of_getElem? (i := 2) rfl)) (fun _ h9 => h9) rfl dX10_readNumber_18 ?_
      refine lv_icmp_ge (tgt := 92) hx hb dX10_readNumber_21 (by decide) (fun c4 => ?_) (fun c4 => ?_)
      · replace hR := ifp_ hR c4
        exact hB92 y1 y2 y3 y4 u1 H locs ls hP hD hS (lv_sub hl [0, 1, 2, 3, 4] rfl) hR
      · replace hR := ifn_ hR c4
        refine lv_aload_n hx hb dX10_readNumber_24 rfl (lv_at hl 0 rfl) ?_
        refine va_get (D := (dC, dI)) (ci := 10) (v := .ref (a1 10)) (C := RX10) (T := TX10) (N := 35) hx hb hts hin10 hown hK hP 0 rfl rfl 14 (by decide) (hts (.fieldLink RX10 37 "OldestCoinsModel" "tape" "[I") (List.mem_of_getElem? (i := 3) rfl)) (fun _ h9 => h9) rfl dX10_readNumber_25 ?_
        refine lv_aload_n hx hb dX10_readNumber_28 rfl (lv_at hl 0 rfl) ?_
        refine va_get (D := (dC, dI)) (ci := 10) (v := .int u1.2.2.2.2.1.2.2.1) (C := RX10) (T := TX10) (N := 35) hx hb hts hin10 hown hK hP 0 rfl rfl 16 (by decide) (hts (.fieldLink RX10 149 "OldestCoinsModel" "place" "I") (List.mem_of_getElem? (i := 1) rfl)) (fun _ h9 => h9) rfl dX10_readNumber_29 ?_
        have i5 := (ck_ok hR).1
        replace hR := (ck_ok hR).2
        refine va_iald (f := u1.2.2.2.2.1.1) hx hb hK hP 10 9 rfl rfl i5 dX10_readNumber_32 ?_
        refine lv_i2l (v := (u1.2.2.2.2.1.1 u1.2.2.2.2.1.2.2.1.toNatClampNeg).toInt64) hx hb dX10_readNumber_33 rfl ?_
        refine lv_ldc2 (v := (48 : Int64)) hx hb hown (hts (.constantLong RX10 155 (48)) (List.mem_of_getElem? (i := 4) rfl)) dX10_readNumber_34 ?_
        refine lv_ldc2 (v := (57 : Int64)) hx hb hown (hts (.constantLong RX10 157 (57)) (List.mem_of_getElem? (i := 5) rfl)) dX10_readNumber_37 ?_
        have hR0 := ob_ok hR
        clear hR
        obtain ⟨q6, hq6, hR⟩ := hR0
        refine va_calli (va_runS (As := [.long (u1.2.2.2.2.1.1 u1.2.2.2.2.1.2.2.1.toNatClampNeg).toInt64, .long (48 : Int64), .long (57 : Int64)]) (rest := []) ⟨hx, hb, hml, hown, hts⟩ (cc_X10_in l dC dI fu H.size (u1.2.2.2.2.1.1 u1.2.2.2.2.1.2.2.1.toNatClampNeg).toInt64 (48 : Int64) (57 : Int64) q6 hq6) (va_cwS 3 hts gX10_readNumber_X10_in rfl rfl rfl (by decide +kernel) ⟨Nat.le_of_ble_eq_true rfl, Nat.le_of_ble_eq_true rfl⟩) (pf_s (nil_K hK) nil_P (nil_D (A := A))) rfl rfl hl.1 rfl (lv_room (Nat.le_of_ble_eq_true rfl)) dX10_readNumber_40 ⟨Nat.le_refl _, Nat.le_refl _⟩) hS (fun q _ h => (fr_none hS hA) q h) (fr_none hS hA) (fun r6 v6 t6 H6 locs6 ht6 hvm6 hw6 hB6 hz6 hk6 hS6 => ?_)
        subst hw6
        have hP6 := jn_none hP hk6
        have hD6 := hD
        have hP6 : va_P (dC, dI) vwCl (zc_10 a1 k1 u1) H6 := hP6
        have hD6 : va_D A (zc_10 a1 k1 u1) := hD6
        clear hP hD hS hB6 hk6 hvm6 hz6 ht6
        refine lv_if_eq (tgt := 92) hx hb dX10_readNumber_43 (by decide) (fun c7 => ?_) (fun c7 => ?_)
        · replace hR := ifp_ hR c7
          exact hB92 y1 y2 y3 y4 u1 H6 locs6 ls hP6 hD6 hS6 (lv_sub hl [0, 1, 2, 3, 4] rfl) hR
        · replace hR := ifn_ hR c7
          refine lv_iload hx hb dX10_readNumber_46 (lv_at hl 4 rfl) ?_
          refine lv_sipush (v := (9999 : Int32)) hx hb dX10_readNumber_48 (by decide) ?_
          refine lv_icmp_le (tgt := 59) hx hb dX10_readNumber_51 (by decide) (fun c8 => ?_) (fun c8 => ?_)
          · replace hR := ifp_ hR c8
            refine lv_bipush (v := (10 : Int32)) hx hb dX10_readNumber_59 (by decide) ?_
            refine lv_iload hx hb dX10_readNumber_61 (lv_at hl 4 rfl) ?_
            refine lv_imul hx hb dX10_readNumber_63 ?_
            refine lv_aload_n hx hb dX10_readNumber_64 rfl (lv_at hl 0 rfl) ?_
            refine va_get (D := (dC, dI)) (ci := 10) (v := .ref (a1 10)) (C := RX10) (T := TX10) (N := 35) hx hb hts hin10 hown hK hP6 0 rfl rfl 14 (by decide) (hts (.fieldLink RX10 37 "OldestCoinsModel" "tape" "[I") (List.mem_of_getElem? (i := 3) rfl)) (fun _ h9 => h9) rfl dX10_readNumber_65 ?_
            refine lv_aload_n hx hb dX10_readNumber_68 rfl (lv_at hl 0 rfl) ?_
            refine va_get (D := (dC, dI)) (ci := 10) (v := .int u1.2.2.2.2.1.2.2.1) (C := RX10) (T := TX10) (N := 35) hx hb hts hin10 hown hK hP6 0 rfl rfl 16 (by decide) (hts (.fieldLink RX10 149 "OldestCoinsModel" "place" "I") (List.mem_of_getElem? (i := 1) rfl)) (fun _ h9 => h9) rfl dX10_readNumber_69 ?_
            have i9 := (ck_ok hR).1
            replace hR := (ck_ok hR).2
            refine va_iald (f := u1.2.2.2.2.1.1) hx hb hK hP6 10 9 rfl rfl i9 dX10_readNumber_72 ?_
            refine lv_iadd hx hb dX10_readNumber_73 ?_
            refine lv_bipush (v := (48 : Int32)) hx hb dX10_readNumber_74 (by decide) ?_
            refine lv_isub hx hb dX10_readNumber_76 ?_
            exact hB77 (rr_X10_readNumber_13 fu n) ih y1 y2 y3 ((((10 : Int32) * y4) + (u1.2.2.2.2.1.1 u1.2.2.2.2.1.2.2.1.toNatClampNeg)) - (48 : Int32)) u1 H6 locs6 ls hP6 hD6 hS6 (lv_sub hl [0, 1, 2, 3] rfl) hR
          · replace hR := ifn_ hR c8
            refine lv_iload hx hb dX10_readNumber_54 (lv_at hl 4 rfl) ?_
            refine lv_goto (tgt := 77) hx hb dX10_readNumber_56 (by decide) ?_
            exact hB77 (rr_X10_readNumber_13 fu n) ih y1 y2 y3 y4 u1 H6 locs6 ls hP6 hD6 hS6 (lv_sub hl [0, 1, 2, 3] rfl) hR
  unfold rr_X10_readNumber at hR
  refine lv_aload_n hx hb dX10_readNumber_0 rfl (lv_at hl 0 rfl) ?_
  have hR0 := ob_ok hR
  clear hR
  obtain ⟨q1, hq1, hR⟩ := hR0
  refine va_calli (va_runV (As := []) (rest := []) ⟨hx, hb, hml, hown, hts⟩ (cc_X10_nextByte l dC dI fu a1 k1 s.heap.size s1 q1 hq1) (cwV 0 hts gX10_readNumber_X10_nextByte rfl rfl rfl (by decide +kernel) ⟨Nat.le_of_ble_eq_true rfl, Nat.le_of_ble_eq_true rfl⟩) (pf_v hK hP hD 10 0 rfl rfl rfl) rfl rfl hl.1 rfl (lv_room (Nat.le_of_ble_eq_true rfl)) dX10_readNumber_1 ⟨Nat.le_refl _, Nat.le_refl _⟩) hS (fun q _ h => (fr_all hD hS hA) q h) (fr_all hD hS hA) (fun r1 v1 t1 H1 locs1 ht1 hvm1 hw1 hB1 hz1 hk1 hS1 => ?_)
  obtain rfl : r1 = q1.1 := (congrArg Prod.fst hw1).symm
  obtain rfl : v1 = q1.2 := (congrArg Prod.snd hw1).symm
  obtain ⟨hP1, hD1⟩ := jn_all hD hS hA ht1 hB1
  have hP1 : va_P (dC, dI) vwCl (zc_10 a1 k1 q1.2) H1 := hP1
  have hD1 : va_D A (zc_10 a1 k1 q1.2) := hD1
  clear hP hD hS hB1 hk1 hvm1 hz1 ht1
  refine lv_pop hx hb dX10_readNumber_4 rfl ?_
  refine lv_aload_n hx hb dX10_readNumber_5 rfl (lv_at hl 0 rfl) ?_
  refine va_get (D := (dC, dI)) (ci := 10) (v := .int q1.2.2.2.2.2.1.2.2.1) (C := RX10) (T := TX10) (N := 35) hx hb hts hin10 hown hK hP1 0 rfl rfl 16 (by decide) (hts (.fieldLink RX10 149 "OldestCoinsModel" "place" "I") (List.mem_of_getElem? (i := 1) rfl)) (fun _ h9 => h9) rfl dX10_readNumber_6 ?_
  refine lv_istore_n (lv' := [(3, .int q1.2.2.2.2.2.1.2.2.1), (0, .ref (a1 0)), (1, .int x1), (2, .int x2)]) hx hb dX10_readNumber_9 rfl hl (by decide) rfl (fun ls2 hl2 => ?_)
  refine lv_iconst (v := (0 : Int32)) hx hb dX10_readNumber_10 (by decide) ?_
  refine lv_istore (lv' := [(4, .int (0 : Int32)), (3, .int q1.2.2.2.2.2.1.2.2.1), (0, .ref (a1 0)), (1, .int x1), (2, .int x2)]) hx hb dX10_readNumber_11 hl2 (by decide) rfl (fun ls3 hl3 => ?_)
  exact hB13 fu x1 x2 q1.2.2.2.2.2.1.2.2.1 (0 : Int32) q1.2 H1 locs1 ls3 hP1 hD1 hS1 (lv_sub hl3 [2, 3, 4, 1, 0] rfl) hR
def rr_X10_takes_28 (fu : Nat) (y2 : Int32) (w0 : Int32) (w1 : Int32) (u1 : ZT_10) : Option (Int32 × ZT_10) := lt_ (α := Int32) (w1 + w0) (fun z5 => zk_ y2 (some (y2, (u1.1, u1.2.1, u1.2.2.1, u1.2.2.2.1, (u1.2.2.2.2.1.1, u1.2.2.2.2.1.2.1, z5, u1.2.2.2.2.1.2.2.2), u1.2.2.2.2.2))))
def rr_X10_takes_13 (fu : Nat) (w0 : Int32) (u1 : ZT_10) : Option (Int32 × ZT_10) := (if w0 = (0 : Int32) then rr_X10_takes_28 fu w0 (0 : Int32) u1.2.2.2.2.1.2.2.1 u1 else rr_X10_takes_28 fu w0 (1 : Int32) u1.2.2.2.2.1.2.2.1 u1)
def rr_X10_takes (fu : Nat) (x1 : Int32) (s1 : ZT_10) : Option (Int32 × ZT_10) := (rr_X10_nextByte fu s1).bind (fun q1 => (if q1.1 = x1 then rr_X10_takes_13 fu (1 : Int32) q1.2 else rr_X10_takes_13 fu (0 : Int32) q1.2))
set_option maxHeartbeats 4000000 in
set_option maxRecDepth 100000 in
theorem cc_X10_takes (l : Launch) (dC : Nat → ClassId) (dI : Nat → Nat → Nat) (fu : Nat) (a1 : Nat → Nat) (k1 : Nat → ClassId) (sz : Nat) (x1 : Int32) (s1 : ZT_10) (res : Int32 × ZT_10) (hR : rr_X10_takes fu x1 s1 = some res) : Met l yX10_takes wsX10_takes ({ frames := 1, cells := 0, slots := 0, locals := 20 } : Room) (PcF [.ref (a1 0), .int x1] sz (dC, dI) (zc_10 a1 k1 s1) (zt_10 k1)) (va_Qi (fun (r : Int32) (u : ZT_10) => res = (r, u)) (fun u t => at3_ (dC, dI) (zc_10 a1 k1 u) (zt_10 k1) (va_A (zc_10 a1 k1 s1) sz) t) (va_A (zc_10 a1 k1 s1) sz)) 0 0 (va_A (zc_10 a1 k1 s1) sz) := by
  refine Met.ofW (cc := cX10_takes) (maxL := 3) (ret := (some .boolean)) (by decide) rfl ?_
  intro p e s m args below meth c s₁ B hml hv
  obtain ⟨hav, hsz, hP, hK, hD0⟩ := hv
  have hx := B.exec
  have hb := B.bytes
  have hr := B.returns
  have hts := atoms_spec (ws := wsX10_takes) B.pre
  have hown : s.vm.findClass RX10 = some m.cls := findClass_of_methodNamed B.named
  have hlocks := B.notSynchronized
  have hin10 : ∀ w ∈ wsX100, w ∈ wsX10_takes := fun w h => List.mem_cons_of_mem _ (List.mem_append_right _ h)
  subst hsz
  have hD := hD0.self (sz := s.heap.size)
  clear hD0
  generalize hAe : va_A (zc_10 a1 k1 s1) s.heap.size = A at hD ⊢
  have hA : ∀ q : Nat, s.heap.size ≤ q → A q := fun q h => by rw [← hAe]; exact Or.inr h
  have hS : va_S A s.heap s.heap [] := va_S.rf
  generalize hQe : MQ below _ args s 0 0 A = Q
  rw [show entryFrame m args 3 = F0 m 0 ((lg_sl ([.ref (a1 0), .int x1]) ++ List.replicate (3 - (lg_sl ([.ref (a1 0), .int x1])).length) Slot.unset).toArray) [] from by rw [hav]; exact lg_entry_eq m _ _]
  have hl := lv_entry ([.ref (a1 0), .int x1]) (n := 3) (Nat.le_of_ble_eq_true rfl)
  generalize (lg_sl ([.ref (a1 0), .int x1]) ++ List.replicate (3 - (lg_sl ([.ref (a1 0), .int x1])).length) Slot.unset).toArray = ls at hl ⊢
  have hl : lv_has ls 3 [(0, .ref (a1 0)), (1, .int x1)] := hl
  have hB28 : ∀ (y2 : Int32) (w0 : Int32) (w1 : Int32) (u1 : ZT_10) (H : Heap) (locs : List Loc) (ls : Array Slot), va_P (dC, dI) vwCl (zc_10 a1 k1 u1) H → va_D A (zc_10 a1 k1 u1) → va_S A s.heap H locs → lv_has ls 3 [(2, .int y2)] → rr_X10_takes_28 fu y2 w0 w1 u1 = some res → W p l e ({ frames := 1, cells := 0, slots := 0, locals := 20 } : Room) s m args below meth c H locs 0 0 Q (F0 m 28 ls [.int w0, .int w1, .ref (a1 0)]) := by
    intro  y2 w0 w1 u1 H locs ls hP hD hS hl hR
    unfold rr_X10_takes_28 at hR
    refine lv_iadd hx hb dX10_takes_28 ?_
    refine lv_topi (fun z5 ez5 => ?_)
    replace hR := lt_ok hR ez5
    refine va_put (D := (dC, dI)) (ci := 10) (v := .int z5) (ty := .int) (C := RX10) (T := TX10) (N := 35) hx hb hts hin10 tyX10 tyX10_ok nmX10 hown hK hP hD hS 0 rfl rfl 16 (by decide) (hts (.fieldLink RX10 149 "OldestCoinsModel" "place" "I") (List.mem_of_getElem? (i := 1) rfl)) (fun _ h9 => h9) rfl (by decide +kernel) rfl rfl (Nat.le_of_ble_eq_true rfl) dX10_takes_29 (fun H6 locs6 hP6 hD6 hS6 => ?_)
    have hP6 : va_P (dC, dI) vwCl (zc_10 a1 k1 (u1.1, u1.2.1, u1.2.2.1, u1.2.2.2.1, (u1.2.2.2.2.1.1, u1.2.2.2.2.1.2.1, z5, u1.2.2.2.2.1.2.2.2), u1.2.2.2.2.2)) H6 := hP6
    have hD6 : va_D A (zc_10 a1 k1 (u1.1, u1.2.1, u1.2.2.1, u1.2.2.2.1, (u1.2.2.2.2.1.1, u1.2.2.2.2.1.2.1, z5, u1.2.2.2.2.1.2.2.2), u1.2.2.2.2.2)) := hD6
    clear hP hD hS
    refine lv_iload_n hx hb dX10_takes_32 rfl (lv_at hl 0 rfl) ?_
    have z7 := (zk_ok hR).1
    replace hR := (zk_ok hR).2
    subst hQe
    exact W.zret (ty := .boolean) (v := y2) hx hb hr (zk_nar z7) (fun t ht hW => ⟨⟨y2, (u1.1, u1.2.1, u1.2.2.1, u1.2.2.2.1, (u1.2.2.2.2.1.1, u1.2.2.2.2.1.2.1, z5, u1.2.2.2.2.1.2.2.2), u1.2.2.2.2.2), rfl, (Option.some.inj hR).symm, by rw [ht]; exact hP6, va_K.moved hW.alike hK, hD6⟩, hS6.F ht⟩) hS6.2.2 dX10_takes_33
  have hB13 : ∀ (w0 : Int32) (u1 : ZT_10) (H : Heap) (locs : List Loc) (ls : Array Slot), va_P (dC, dI) vwCl (zc_10 a1 k1 u1) H → va_D A (zc_10 a1 k1 u1) → va_S A s.heap H locs → lv_has ls 3 [(0, .ref (a1 0))] → rr_X10_takes_13 fu w0 u1 = some res → W p l e ({ frames := 1, cells := 0, slots := 0, locals := 20 } : Room) s m args below meth c H locs 0 0 Q (F0 m 13 ls [.int w0]) := by
    intro  w0 u1 H locs ls hP hD hS hl hR
    unfold rr_X10_takes_13 at hR
    refine lv_istore_n (lv' := [(2, .int w0), (0, .ref (a1 0))]) hx hb dX10_takes_13 rfl hl (by decide) rfl (fun ls3 hl3 => ?_)
    refine lv_aload_n hx hb dX10_takes_14 rfl (lv_at hl3 1 rfl) ?_
    refine lv_dup hx hb dX10_takes_15 rfl ?_
    refine va_get (D := (dC, dI)) (ci := 10) (v := .int u1.2.2.2.2.1.2.2.1) (C := RX10) (T := TX10) (N := 35) hx hb hts hin10 hown hK hP 0 rfl rfl 16 (by decide) (hts (.fieldLink RX10 149 "OldestCoinsModel" "place" "I") (List.mem_of_getElem? (i := 1) rfl)) (fun _ h9 => h9) rfl dX10_takes_16 ?_
    refine lv_iload_n hx hb dX10_takes_19 rfl (lv_at hl3 0 rfl) ?_
    refine lv_if_eq (tgt := 27) hx hb dX10_takes_20 (by decide) (fun c4 => ?_) (fun c4 => ?_)
    · replace hR := ifp_ hR c4
      refine lv_iconst (v := (0 : Int32)) hx hb dX10_takes_27 (by decide) ?_
      exact hB28 w0 (0 : Int32) u1.2.2.2.2.1.2.2.1 u1 H locs ls3 hP hD hS (lv_sub hl3 [0] rfl) hR
    · replace hR := ifn_ hR c4
      refine lv_iconst (v := (1 : Int32)) hx hb dX10_takes_23 (by decide) ?_
      refine lv_goto (tgt := 28) hx hb dX10_takes_24 (by decide) ?_
      exact hB28 w0 (1 : Int32) u1.2.2.2.2.1.2.2.1 u1 H locs ls3 hP hD hS (lv_sub hl3 [0] rfl) hR
  unfold rr_X10_takes at hR
  refine lv_aload_n hx hb dX10_takes_0 rfl (lv_at hl 0 rfl) ?_
  have hR0 := ob_ok hR
  clear hR
  obtain ⟨q1, hq1, hR⟩ := hR0
  refine va_calli (va_runV (As := []) (rest := []) ⟨hx, hb, hml, hown, hts⟩ (cc_X10_nextByte l dC dI fu a1 k1 s.heap.size s1 q1 hq1) (cwV 0 hts gX10_takes_X10_nextByte rfl rfl rfl (by decide +kernel) ⟨Nat.le_of_ble_eq_true rfl, Nat.le_of_ble_eq_true rfl⟩) (pf_v hK hP hD 10 0 rfl rfl rfl) rfl rfl hl.1 rfl (lv_room (Nat.le_of_ble_eq_true rfl)) dX10_takes_1 ⟨Nat.le_refl _, Nat.le_refl _⟩) hS (fun q _ h => (fr_all hD hS hA) q h) (fr_all hD hS hA) (fun r1 v1 t1 H1 locs1 ht1 hvm1 hw1 hB1 hz1 hk1 hS1 => ?_)
  obtain rfl : r1 = q1.1 := (congrArg Prod.fst hw1).symm
  obtain rfl : v1 = q1.2 := (congrArg Prod.snd hw1).symm
  obtain ⟨hP1, hD1⟩ := jn_all hD hS hA ht1 hB1
  have hP1 : va_P (dC, dI) vwCl (zc_10 a1 k1 q1.2) H1 := hP1
  have hD1 : va_D A (zc_10 a1 k1 q1.2) := hD1
  clear hP hD hS hB1 hk1 hvm1 hz1 ht1
  refine lv_iload_n hx hb dX10_takes_4 rfl (lv_at hl 1 rfl) ?_
  refine lv_icmp_ne (tgt := 12) hx hb dX10_takes_5 (by decide) (fun c2 => ?_) (fun c2 => ?_)
  · replace hR := ifn_ hR c2
    refine lv_iconst (v := (0 : Int32)) hx hb dX10_takes_12 (by decide) ?_
    exact hB13 (0 : Int32) q1.2 H1 locs1 ls hP1 hD1 hS1 (lv_sub hl [0] rfl) hR
  · replace hR := ifp_ hR c2
    refine lv_iconst (v := (1 : Int32)) hx hb dX10_takes_8 (by decide) ?_
    refine lv_goto (tgt := 13) hx hb dX10_takes_9 (by decide) ?_
    exact hB13 (1 : Int32) q1.2 H1 locs1 ls hP1 hD1 hS1 (lv_sub hl [0] rfl) hR
def rr_X10_readBill (fu : Nat) (x1 : Int32) (s1 : ZT_10) : Option (Int32 × ZT_10) := (rr_X10_nextByte fu s1).bind (fun q1 => lt_ (α := Int32) (q1.1 - (48 : Int32)) (fun z2 => (rr_X10_isPurse fu z2).bind (fun q4 => (if q4 = (0 : Int32) then some ((0 : Int32), q1.2) else lt_ (α := Int32) (q1.2.2.2.2.2.1.2.2.1 + (1 : Int32)) (fun z6 => (rr_X10_takes fu (62 : Int32) (q1.2.1, q1.2.2.1, q1.2.2.2.1, q1.2.2.2.2.1, (q1.2.2.2.2.2.1.1, q1.2.2.2.2.2.1.2.1, z6, q1.2.2.2.2.2.1.2.2.2), q1.2.2.2.2.2.2)).bind (fun q8 => (if q8.1 = (0 : Int32) then some ((0 : Int32), q8.2) else (rr_X10_nextByte fu q8.2).bind (fun q10 => lt_ (α := Int32) (q10.1 - (48 : Int32)) (fun z11 => (rr_X10_isShop fu z11).bind (fun q13 => (if q13 = (0 : Int32) then some ((0 : Int32), q10.2) else lt_ (α := Int32) (q10.2.2.2.2.2.1.2.2.1 + (1 : Int32)) (fun z15 => (rr_X10_takes fu (58 : Int32) (q10.2.1, q10.2.2.1, q10.2.2.2.1, q10.2.2.2.2.1, (q10.2.2.2.2.2.1.1, q10.2.2.2.2.2.1.2.1, z15, q10.2.2.2.2.2.1.2.2.2), q10.2.2.2.2.2.2)).bind (fun q17 => (if q17.1 = (0 : Int32) then some ((0 : Int32), q17.2) else ck_ x1 72 (ck_ (x1 + (1 : Int32)) 72 ((rr_X10_readNumber fu (1 : Int32) (999 : Int32) (q17.2.1, q17.2.2.1, q17.2.2.2.1, q17.2.2.2.2.1, (q17.2.2.2.2.2.1.1, q17.2.2.2.2.2.1.2.1, q17.2.2.2.2.2.1.2.2.1, q17.2.2.2.2.2.1.2.2.2.1, (upd (upd q17.2.2.2.2.2.1.2.2.2.2 x1.toNatClampNeg z2) (x1 + (1 : Int32)).toNatClampNeg z11)), q17.2.2.2.2.2.2)).bind (fun q21 => ck_ (x1 + (2 : Int32)) 72 (ck_ (x1 + (2 : Int32)) 72 ((if ((upd q21.2.2.2.2.2.1.2.2.2.2 (x1 + (2 : Int32)).toNatClampNeg q21.1) (x1 + (2 : Int32)).toNatClampNeg) < (0 : Int32) then some ((0 : Int32), (q21.2.1, q21.2.2.1, q21.2.2.2.1, q21.2.2.2.2.1, (q21.2.2.2.2.2.1.1, q21.2.2.2.2.2.1.2.1, q21.2.2.2.2.2.1.2.2.1, q21.2.2.2.2.2.1.2.2.2.1, (upd q21.2.2.2.2.2.1.2.2.2.2 (x1 + (2 : Int32)).toNatClampNeg q21.1)), q21.2.2.2.2.2.2)) else some ((1 : Int32), (q21.2.1, q21.2.2.1, q21.2.2.2.1, q21.2.2.2.2.1, (q21.2.2.2.2.2.1.1, q21.2.2.2.2.2.1.2.1, q21.2.2.2.2.2.1.2.2.1, q21.2.2.2.2.2.1.2.2.2.1, (upd q21.2.2.2.2.2.1.2.2.2.2 (x1 + (2 : Int32)).toNatClampNeg q21.1)), q21.2.2.2.2.2.2))))))))))))))))))))))
set_option maxHeartbeats 4000000 in
set_option maxRecDepth 100000 in
theorem cc_X10_readBill (l : Launch) (dC : Nat → ClassId) (dI : Nat → Nat → Nat) (fu : Nat) (a1 : Nat → Nat) (k1 : Nat → ClassId) (sz : Nat) (x1 : Int32) (s1 : ZT_10) (res : Int32 × ZT_10) (hR : rr_X10_readBill fu x1 s1 = some res) : Met l yX10_readBill wsX10_readBill ({ frames := 2, cells := 0, slots := 0, locals := 49 } : Room) (PcF [.ref (a1 0), .int x1] sz (dC, dI) (zc_10 a1 k1 s1) (zt_10 k1)) (va_Qi (fun (r : Int32) (u : ZT_10) => res = (r, u)) (fun u t => at3_ (dC, dI) (zc_10 a1 k1 u) (zt_10 k1) (va_A (zc_10 a1 k1 s1) sz) t) (va_A (zc_10 a1 k1 s1) sz)) 0 0 (va_A (zc_10 a1 k1 s1) sz) := by
  refine Met.ofW (cc := cX10_readBill) (maxL := 4) (ret := (some .boolean)) (by decide) rfl ?_
  intro p e s m args below meth c s₁ B hml hv
  obtain ⟨hav, hsz, hP, hK, hD0⟩ := hv
  have hx := B.exec
  have hb := B.bytes
  have hr := B.returns
  have hts := atoms_spec (ws := wsX10_readBill) B.pre
  have hown : s.vm.findClass RX10 = some m.cls := findClass_of_methodNamed B.named
  have hlocks := B.notSynchronized
  have hin10 : ∀ w ∈ wsX100, w ∈ wsX10_readBill := fun w h => List.mem_cons_of_mem _ (List.mem_append_right _ h)
  subst hsz
  have hD := hD0.self (sz := s.heap.size)
  clear hD0
  generalize hAe : va_A (zc_10 a1 k1 s1) s.heap.size = A at hD ⊢
  have hA : ∀ q : Nat, s.heap.size ≤ q → A q := fun q h => by rw [← hAe]; exact Or.inr h
  have hS : va_S A s.heap s.heap [] := va_S.rf
  generalize hQe : MQ below _ args s 0 0 A = Q
  rw [show entryFrame m args 4 = F0 m 0 ((lg_sl ([.ref (a1 0), .int x1]) ++ List.replicate (4 - (lg_sl ([.ref (a1 0), .int x1])).length) Slot.unset).toArray) [] from by rw [hav]; exact lg_entry_eq m _ _]
  have hl := lv_entry ([.ref (a1 0), .int x1]) (n := 4) (Nat.le_of_ble_eq_true rfl)
  generalize (lg_sl ([.ref (a1 0), .int x1]) ++ List.replicate (4 - (lg_sl ([.ref (a1 0), .int x1])).length) Slot.unset).toArray = ls at hl ⊢
  have hl : lv_has ls 4 [(0, .ref (a1 0)), (1, .int x1)] := hl
  unfold rr_X10_readBill at hR
  refine lv_aload_n hx hb dX10_readBill_0 rfl (lv_at hl 0 rfl) ?_
  have hR0 := ob_ok hR
  clear hR
  obtain ⟨q1, hq1, hR⟩ := hR0
  refine va_calli (va_runV (As := []) (rest := []) ⟨hx, hb, hml, hown, hts⟩ (cc_X10_nextByte l dC dI fu a1 k1 s.heap.size s1 q1 hq1) (cwV 0 hts gX10_readBill_X10_nextByte rfl rfl rfl (by decide +kernel) ⟨Nat.le_of_ble_eq_true rfl, Nat.le_of_ble_eq_true rfl⟩) (pf_v hK hP hD 10 0 rfl rfl rfl) rfl rfl hl.1 rfl (lv_room (Nat.le_of_ble_eq_true rfl)) dX10_readBill_1 ⟨Nat.le_refl _, Nat.le_refl _⟩) hS (fun q _ h => (fr_all hD hS hA) q h) (fr_all hD hS hA) (fun r1 v1 t1 H1 locs1 ht1 hvm1 hw1 hB1 hz1 hk1 hS1 => ?_)
  obtain rfl : r1 = q1.1 := (congrArg Prod.fst hw1).symm
  obtain rfl : v1 = q1.2 := (congrArg Prod.snd hw1).symm
  obtain ⟨hP1, hD1⟩ := jn_all hD hS hA ht1 hB1
  have hP1 : va_P (dC, dI) vwCl (zc_10 a1 k1 q1.2) H1 := hP1
  have hD1 : va_D A (zc_10 a1 k1 q1.2) := hD1
  clear hP hD hS hB1 hk1 hvm1 hz1 ht1
  refine lv_bipush (v := (48 : Int32)) hx hb dX10_readBill_4 (by decide) ?_
  refine lv_isub hx hb dX10_readBill_6 ?_
  refine lv_topi (fun z2 ez2 => ?_)
  replace hR := lt_ok hR ez2
  refine lv_istore_n (lv' := [(2, .int z2), (0, .ref (a1 0)), (1, .int x1)]) hx hb dX10_readBill_7 rfl hl (by decide) rfl (fun ls3 hl3 => ?_)
  refine lv_iload_n hx hb dX10_readBill_8 rfl (lv_at hl3 0 rfl) ?_
  have hR0 := ob_ok hR
  clear hR
  obtain ⟨q4, hq4, hR⟩ := hR0
  refine va_calli (va_runS (As := [.int z2]) (rest := []) ⟨hx, hb, hml, hown, hts⟩ (cc_X10_isPurse l dC dI fu H1.size z2 q4 hq4) (va_cwS 1 hts gX10_readBill_X10_isPurse rfl rfl rfl (by decide +kernel) ⟨Nat.le_of_ble_eq_true rfl, Nat.le_of_ble_eq_true rfl⟩) (pf_s (nil_K hK) nil_P (nil_D (A := A))) rfl rfl hl3.1 rfl (lv_room (Nat.le_of_ble_eq_true rfl)) dX10_readBill_9 ⟨Nat.le_refl _, Nat.le_refl _⟩) hS1 (fun q _ h => (fr_none hS1 hA) q h) (fr_none hS1 hA) (fun r4 v4 t4 H4 locs4 ht4 hvm4 hw4 hB4 hz4 hk4 hS4 => ?_)
  subst hw4
  have hP4 := jn_none hP1 hk4
  have hD4 := hD1
  have hP4 : va_P (dC, dI) vwCl (zc_10 a1 k1 q1.2) H4 := hP4
  have hD4 : va_D A (zc_10 a1 k1 q1.2) := hD4
  clear hP1 hD1 hS1 hB4 hk4 hvm4 hz4 ht4
  refine lv_if_ne (tgt := 17) hx hb dX10_readBill_12 (by decide) (fun c5 => ?_) (fun c5 => ?_)
  · replace hR := ifn_ hR c5
    refine lv_aload_n hx hb dX10_readBill_17 rfl (lv_at hl3 1 rfl) ?_
    refine lv_dup hx hb dX10_readBill_18 rfl ?_
    refine va_get (D := (dC, dI)) (ci := 10) (v := .int q1.2.2.2.2.2.1.2.2.1) (C := RX10) (T := TX10) (N := 35) hx hb hts hin10 hown hK hP4 0 rfl rfl 16 (by decide) (hts (.fieldLink RX10 149 "OldestCoinsModel" "place" "I") (List.mem_of_getElem? (i := 1) rfl)) (fun _ h9 => h9) rfl dX10_readBill_19 ?_
    refine lv_iconst (v := (1 : Int32)) hx hb dX10_readBill_22 (by decide) ?_
    refine lv_iadd hx hb dX10_readBill_23 ?_
    refine lv_topi (fun z6 ez6 => ?_)
    replace hR := lt_ok hR ez6
    refine va_put (D := (dC, dI)) (ci := 10) (v := .int z6) (ty := .int) (C := RX10) (T := TX10) (N := 35) hx hb hts hin10 tyX10 tyX10_ok nmX10 hown hK hP4 hD4 hS4 0 rfl rfl 16 (by decide) (hts (.fieldLink RX10 149 "OldestCoinsModel" "place" "I") (List.mem_of_getElem? (i := 1) rfl)) (fun _ h9 => h9) rfl (by decide +kernel) rfl rfl (Nat.le_of_ble_eq_true rfl) dX10_readBill_24 (fun H7 locs7 hP7 hD7 hS7 => ?_)
    have hP7 : va_P (dC, dI) vwCl (zc_10 a1 k1 (q1.2.1, q1.2.2.1, q1.2.2.2.1, q1.2.2.2.2.1, (q1.2.2.2.2.2.1.1, q1.2.2.2.2.2.1.2.1, z6, q1.2.2.2.2.2.1.2.2.2), q1.2.2.2.2.2.2)) H7 := hP7
    have hD7 : va_D A (zc_10 a1 k1 (q1.2.1, q1.2.2.1, q1.2.2.2.1, q1.2.2.2.2.1, (q1.2.2.2.2.2.1.1, q1.2.2.2.2.2.1.2.1, z6, q1.2.2.2.2.2.1.2.2.2), q1.2.2.2.2.2.2)) := hD7
    clear hP4 hD4 hS4
    refine lv_aload_n hx hb dX10_readBill_27 rfl (lv_at hl3 1 rfl) ?_
    refine lv_bipush (v := (62 : Int32)) hx hb dX10_readBill_28 (by decide) ?_
    have hR0 := ob_ok hR
    clear hR
    obtain ⟨q8, hq8, hR⟩ := hR0
    refine va_calli (va_runV (As := [.int (62 : Int32)]) (rest := []) ⟨hx, hb, hml, hown, hts⟩ (cc_X10_takes l dC dI fu a1 k1 H7.size (62 : Int32) (q1.2.1, q1.2.2.1, q1.2.2.2.1, q1.2.2.2.2.1, (q1.2.2.2.2.2.1.1, q1.2.2.2.2.2.1.2.1, z6, q1.2.2.2.2.2.1.2.2.2), q1.2.2.2.2.2.2) q8 hq8) (cwV 1 hts gX10_readBill_X10_takes rfl rfl rfl (by decide +kernel) ⟨Nat.le_of_ble_eq_true rfl, Nat.le_of_ble_eq_true rfl⟩) (pf_v hK hP7 hD7 10 0 rfl rfl rfl) rfl rfl hl3.1 rfl (lv_room (Nat.le_of_ble_eq_true rfl)) dX10_readBill_30 ⟨Nat.le_refl _, Nat.le_refl _⟩) hS7 (fun q _ h => (fr_all hD7 hS7 hA) q h) (fr_all hD7 hS7 hA) (fun r8 v8 t8 H8 locs8 ht8 hvm8 hw8 hB8 hz8 hk8 hS8 => ?_)
    obtain rfl : r8 = q8.1 := (congrArg Prod.fst hw8).symm
    obtain rfl : v8 = q8.2 := (congrArg Prod.snd hw8).symm
    obtain ⟨hP8, hD8⟩ := jn_all hD7 hS7 hA ht8 hB8
    have hP8 : va_P (dC, dI) vwCl (zc_10 a1 k1 q8.2) H8 := hP8
    have hD8 : va_D A (zc_10 a1 k1 q8.2) := hD8
    clear hP7 hD7 hS7 hB8 hk8 hvm8 hz8 ht8
    refine lv_if_ne (tgt := 38) hx hb dX10_readBill_33 (by decide) (fun c9 => ?_) (fun c9 => ?_)
    · replace hR := ifn_ hR c9
      refine lv_aload_n hx hb dX10_readBill_38 rfl (lv_at hl3 1 rfl) ?_
      have hR0 := ob_ok hR
      clear hR
      obtain ⟨q10, hq10, hR⟩ := hR0
      refine va_calli (va_runV (As := []) (rest := []) ⟨hx, hb, hml, hown, hts⟩ (cc_X10_nextByte l dC dI fu a1 k1 H8.size q8.2 q10 hq10) (cwV 0 hts gX10_readBill_X10_nextByte rfl rfl rfl (by decide +kernel) ⟨Nat.le_of_ble_eq_true rfl, Nat.le_of_ble_eq_true rfl⟩) (pf_v hK hP8 hD8 10 0 rfl rfl rfl) rfl rfl hl3.1 rfl (lv_room (Nat.le_of_ble_eq_true rfl)) dX10_readBill_39 ⟨Nat.le_refl _, Nat.le_refl _⟩) hS8 (fun q _ h => (fr_all hD8 hS8 hA) q h) (fr_all hD8 hS8 hA) (fun r10 v10 t10 H10 locs10 ht10 hvm10 hw10 hB10 hz10 hk10 hS10 => ?_)
      obtain rfl : r10 = q10.1 := (congrArg Prod.fst hw10).symm
      obtain rfl : v10 = q10.2 := (congrArg Prod.snd hw10).symm
      obtain ⟨hP10, hD10⟩ := jn_all hD8 hS8 hA ht10 hB10
      have hP10 : va_P (dC, dI) vwCl (zc_10 a1 k1 q10.2) H10 := hP10
      have hD10 : va_D A (zc_10 a1 k1 q10.2) := hD10
      clear hP8 hD8 hS8 hB10 hk10 hvm10 hz10 ht10
      refine lv_bipush (v := (48 : Int32)) hx hb dX10_readBill_42 (by decide) ?_
      refine lv_isub hx hb dX10_readBill_44 ?_
      refine lv_topi (fun z11 ez11 => ?_)
      replace hR := lt_ok hR ez11
      refine lv_istore_n (lv' := [(3, .int z11), (2, .int z2), (0, .ref (a1 0)), (1, .int x1)]) hx hb dX10_readBill_45 rfl hl3 (by decide) rfl (fun ls12 hl12 => ?_)
      refine lv_iload_n hx hb dX10_readBill_46 rfl (lv_at hl12 0 rfl) ?_
      have hR0 := ob_ok hR
      clear hR
      obtain ⟨q13, hq13, hR⟩ := hR0
      refine va_calli (va_runS (As := [.int z11]) (rest := []) ⟨hx, hb, hml, hown, hts⟩ (cc_X10_isShop l dC dI fu H10.size z11 q13 hq13) (va_cwS 1 hts gX10_readBill_X10_isShop rfl rfl rfl (by decide +kernel) ⟨Nat.le_of_ble_eq_true rfl, Nat.le_of_ble_eq_true rfl⟩) (pf_s (nil_K hK) nil_P (nil_D (A := A))) rfl rfl hl12.1 rfl (lv_room (Nat.le_of_ble_eq_true rfl)) dX10_readBill_47 ⟨Nat.le_refl _, Nat.le_refl _⟩) hS10 (fun q _ h => (fr_none hS10 hA) q h) (fr_none hS10 hA) (fun r13 v13 t13 H13 locs13 ht13 hvm13 hw13 hB13 hz13 hk13 hS13 => ?_)
      subst hw13
      have hP13 := jn_none hP10 hk13
      have hD13 := hD10
      have hP13 : va_P (dC, dI) vwCl (zc_10 a1 k1 q10.2) H13 := hP13
      have hD13 : va_D A (zc_10 a1 k1 q10.2) := hD13
      clear hP10 hD10 hS10 hB13 hk13 hvm13 hz13 ht13
      refine lv_if_ne (tgt := 55) hx hb dX10_readBill_50 (by decide) (fun c14 => ?_) (fun c14 => ?_)
      · replace hR := ifn_ hR c14
        refine lv_aload_n hx hb dX10_readBill_55 rfl (lv_at hl12 2 rfl) ?_
        refine lv_dup hx hb dX10_readBill_56 rfl ?_
        refine va_get (D := (dC, dI)) (ci := 10) (v := .int q10.2.2.2.2.2.1.2.2.1) (C := RX10) (T := TX10) (N := 35) hx hb hts hin10 hown hK hP13 0 rfl rfl 16 (by decide) (hts (.fieldLink RX10 149 "OldestCoinsModel" "place" "I") (List.mem_of_getElem? (i := 1) rfl)) (fun _ h9 => h9) rfl dX10_readBill_57 ?_
        refine lv_iconst (v := (1 : Int32)) hx hb dX10_readBill_60 (by decide) ?_
        refine lv_iadd hx hb dX10_readBill_61 ?_
        refine lv_topi (fun z15 ez15 => ?_)
        replace hR := lt_ok hR ez15
        refine va_put (D := (dC, dI)) (ci := 10) (v := .int z15) (ty := .int) (C := RX10) (T := TX10) (N := 35) hx hb hts hin10 tyX10 tyX10_ok nmX10 hown hK hP13 hD13 hS13 0 rfl rfl 16 (by decide) (hts (.fieldLink RX10 149 "OldestCoinsModel" "place" "I") (List.mem_of_getElem? (i := 1) rfl)) (fun _ h9 => h9) rfl (by decide +kernel) rfl rfl (Nat.le_of_ble_eq_true rfl) dX10_readBill_62 (fun H16 locs16 hP16 hD16 hS16 => ?_)
        have hP16 : va_P (dC, dI) vwCl (zc_10 a1 k1 (q10.2.1, q10.2.2.1, q10.2.2.2.1, q10.2.2.2.2.1, (q10.2.2.2.2.2.1.1, q10.2.2.2.2.2.1.2.1, z15, q10.2.2.2.2.2.1.2.2.2), q10.2.2.2.2.2.2)) H16 := hP16
        have hD16 : va_D A (zc_10 a1 k1 (q10.2.1, q10.2.2.1, q10.2.2.2.1, q10.2.2.2.2.1, (q10.2.2.2.2.2.1.1, q10.2.2.2.2.2.1.2.1, z15, q10.2.2.2.2.2.1.2.2.2), q10.2.2.2.2.2.2)) := hD16
        clear hP13 hD13 hS13
        refine lv_aload_n hx hb dX10_readBill_65 rfl (lv_at hl12 2 rfl) ?_
        refine lv_bipush (v := (58 : Int32)) hx hb dX10_readBill_66 (by decide) ?_
        have hR0 := ob_ok hR
        clear hR
        obtain ⟨q17, hq17, hR⟩ := hR0
        refine va_calli (va_runV (As := [.int (58 : Int32)]) (rest := []) ⟨hx, hb, hml, hown, hts⟩ (cc_X10_takes l dC dI fu a1 k1 H16.size (58 : Int32) (q10.2.1, q10.2.2.1, q10.2.2.2.1, q10.2.2.2.2.1, (q10.2.2.2.2.2.1.1, q10.2.2.2.2.2.1.2.1, z15, q10.2.2.2.2.2.1.2.2.2), q10.2.2.2.2.2.2) q17 hq17) (cwV 1 hts gX10_readBill_X10_takes rfl rfl rfl (by decide +kernel) ⟨Nat.le_of_ble_eq_true rfl, Nat.le_of_ble_eq_true rfl⟩) (pf_v hK hP16 hD16 10 0 rfl rfl rfl) rfl rfl hl12.1 rfl (lv_room (Nat.le_of_ble_eq_true rfl)) dX10_readBill_68 ⟨Nat.le_refl _, Nat.le_refl _⟩) hS16 (fun q _ h => (fr_all hD16 hS16 hA) q h) (fr_all hD16 hS16 hA) (fun r17 v17 t17 H17 locs17 ht17 hvm17 hw17 hB17 hz17 hk17 hS17 => ?_)
        obtain rfl : r17 = q17.1 := (congrArg Prod.fst hw17).symm
        obtain rfl : v17 = q17.2 := (congrArg Prod.snd hw17).symm
        obtain ⟨hP17, hD17⟩ := jn_all hD16 hS16 hA ht17 hB17
        have hP17 : va_P (dC, dI) vwCl (zc_10 a1 k1 q17.2) H17 := hP17
        have hD17 : va_D A (zc_10 a1 k1 q17.2) := hD17
        clear hP16 hD16 hS16 hB17 hk17 hvm17 hz17 ht17
        refine lv_if_ne (tgt := 76) hx hb dX10_readBill_71 (by decide) (fun c18 => ?_) (fun c18 => ?_)
        · replace hR := ifn_ hR c18
          refine lv_aload_n hx hb dX10_readBill_76 rfl (lv_at hl12 2 rfl) ?_
          refine va_get (D := (dC, dI)) (ci := 10) (v := .ref (a1 11)) (C := RX10) (T := TX10) (N := 35) hx hb hts hin10 hown hK hP17 0 rfl rfl 18 (by decide) (hts (.fieldLink RX10 40 "OldestCoinsModel" "read" "[I") (List.mem_of_getElem? (i := 2) rfl)) (fun _ h9 => h9) rfl dX10_readBill_77 ?_
          refine lv_iload_n hx hb dX10_readBill_80 rfl (lv_at hl12 3 rfl) ?_
          refine lv_iload_n hx hb dX10_readBill_81 rfl (lv_at hl12 1 rfl) ?_
          have i19 := (ck_ok hR).1
          replace hR := (ck_ok hR).2
          refine va_iast (f := q17.2.2.2.2.2.1.2.2.2.2) hx hb hK hP17 hD17 hS17 11 10 rfl rfl i19 dX10_readBill_82 (fun H19 locs19 hP19 hD19 hS19 => ?_)
          have hP19 : va_P (dC, dI) vwCl (zc_10 a1 k1 (q17.2.1, q17.2.2.1, q17.2.2.2.1, q17.2.2.2.2.1, (q17.2.2.2.2.2.1.1, q17.2.2.2.2.2.1.2.1, q17.2.2.2.2.2.1.2.2.1, q17.2.2.2.2.2.1.2.2.2.1, (upd q17.2.2.2.2.2.1.2.2.2.2 x1.toNatClampNeg z2)), q17.2.2.2.2.2.2)) H19 := hP19
          have hD19 : va_D A (zc_10 a1 k1 (q17.2.1, q17.2.2.1, q17.2.2.2.1, q17.2.2.2.2.1, (q17.2.2.2.2.2.1.1, q17.2.2.2.2.2.1.2.1, q17.2.2.2.2.2.1.2.2.1, q17.2.2.2.2.2.1.2.2.2.1, (upd q17.2.2.2.2.2.1.2.2.2.2 x1.toNatClampNeg z2)), q17.2.2.2.2.2.2)) := hD19
          clear hP17 hD17 hS17
          refine lv_aload_n hx hb dX10_readBill_83 rfl (lv_at hl12 2 rfl) ?_
          refine va_get (D := (dC, dI)) (ci := 10) (v := .ref (a1 11)) (C := RX10) (T := TX10) (N := 35) hx hb hts hin10 hown hK hP19 0 rfl rfl 18 (by decide) (hts (.fieldLink RX10 40 "OldestCoinsModel" "read" "[I") (List.mem_of_getElem? (i := 2) rfl)) (fun _ h9 => h9) rfl dX10_readBill_84 ?_
          refine lv_iload_n hx hb dX10_readBill_87 rfl (lv_at hl12 3 rfl) ?_
          refine lv_iconst (v := (1 : Int32)) hx hb dX10_readBill_88 (by decide) ?_
          refine lv_iadd hx hb dX10_readBill_89 ?_
          refine lv_iload_n hx hb dX10_readBill_90 rfl (lv_at hl12 0 rfl) ?_
          have i20 := (ck_ok hR).1
          replace hR := (ck_ok hR).2
          refine va_iast (f := (upd q17.2.2.2.2.2.1.2.2.2.2 x1.toNatClampNeg z2)) hx hb hK hP19 hD19 hS19 11 10 rfl rfl i20 dX10_readBill_91 (fun H20 locs20 hP20 hD20 hS20 => ?_)
          have hP20 : va_P (dC, dI) vwCl (zc_10 a1 k1 (q17.2.1, q17.2.2.1, q17.2.2.2.1, q17.2.2.2.2.1, (q17.2.2.2.2.2.1.1, q17.2.2.2.2.2.1.2.1, q17.2.2.2.2.2.1.2.2.1, q17.2.2.2.2.2.1.2.2.2.1, (upd (upd q17.2.2.2.2.2.1.2.2.2.2 x1.toNatClampNeg z2) (x1 + (1 : Int32)).toNatClampNeg z11)), q17.2.2.2.2.2.2)) H20 := hP20
          have hD20 : va_D A (zc_10 a1 k1 (q17.2.1, q17.2.2.1, q17.2.2.2.1, q17.2.2.2.2.1, (q17.2.2.2.2.2.1.1, q17.2.2.2.2.2.1.2.1, q17.2.2.2.2.2.1.2.2.1, q17.2.2.2.2.2.1.2.2.2.1, (upd (upd q17.2.2.2.2.2.1.2.2.2.2 x1.toNatClampNeg z2) (x1 + (1 : Int32)).toNatClampNeg z11)), q17.2.2.2.2.2.2)) := hD20
          clear hP19 hD19 hS19
          refine lv_aload_n hx hb dX10_readBill_92 rfl (lv_at hl12 2 rfl) ?_
          refine va_get (D := (dC, dI)) (ci := 10) (v := .ref (a1 11)) (C := RX10) (T := TX10) (N := 35) hx hb hts hin10 hown hK hP20 0 rfl rfl 18 (by decide) (hts (.fieldLink RX10 40 "OldestCoinsModel" "read" "[I") (List.mem_of_getElem? (i := 2) rfl)) (fun _ h9 => h9) rfl dX10_readBill_93 ?_
          refine lv_iload_n hx hb dX10_readBill_96 rfl (lv_at hl12 3 rfl) ?_
          refine lv_iconst (v := (2 : Int32)) hx hb dX10_readBill_97 (by decide) ?_
          refine lv_iadd hx hb dX10_readBill_98 ?_
          refine lv_aload_n hx hb dX10_readBill_99 rfl (lv_at hl12 2 rfl) ?_
          refine lv_iconst (v := (1 : Int32)) hx hb dX10_readBill_100 (by decide) ?_
          refine lv_sipush (v := (999 : Int32)) hx hb dX10_readBill_101 (by decide) ?_
          have hR0 := ob_ok hR
          clear hR
          obtain ⟨q21, hq21, hR⟩ := hR0
          refine va_calli (va_runV (As := [.int (1 : Int32), .int (999 : Int32)]) (rest := [.int (x1 + (2 : Int32)), .ref (a1 11)]) ⟨hx, hb, hml, hown, hts⟩ (cc_X10_readNumber l dC dI fu a1 k1 H20.size (1 : Int32) (999 : Int32) (q17.2.1, q17.2.2.1, q17.2.2.2.1, q17.2.2.2.2.1, (q17.2.2.2.2.2.1.1, q17.2.2.2.2.2.1.2.1, q17.2.2.2.2.2.1.2.2.1, q17.2.2.2.2.2.1.2.2.2.1, (upd (upd q17.2.2.2.2.2.1.2.2.2.2 x1.toNatClampNeg z2) (x1 + (1 : Int32)).toNatClampNeg z11)), q17.2.2.2.2.2.2) q21 hq21) (cwV 2 hts gX10_readBill_X10_readNumber rfl rfl rfl (by decide +kernel) ⟨Nat.le_of_ble_eq_true rfl, Nat.le_of_ble_eq_true rfl⟩) (pf_v hK hP20 hD20 10 0 rfl rfl rfl) rfl rfl hl12.1 rfl (lv_room (Nat.le_of_ble_eq_true rfl)) dX10_readBill_104 ⟨Nat.le_refl _, Nat.le_refl _⟩) hS20 (fun q _ h => (fr_all hD20 hS20 hA) q h) (fr_all hD20 hS20 hA) (fun r21 v21 t21 H21 locs21 ht21 hvm21 hw21 hB21 hz21 hk21 hS21 => ?_)
          obtain rfl : r21 = q21.1 := (congrArg Prod.fst hw21).symm
          obtain rfl : v21 = q21.2 := (congrArg Prod.snd hw21).symm
          obtain ⟨hP21, hD21⟩ := jn_all hD20 hS20 hA ht21 hB21
          have hP21 : va_P (dC, dI) vwCl (zc_10 a1 k1 q21.2) H21 := hP21
          have hD21 : va_D A (zc_10 a1 k1 q21.2) := hD21
          clear hP20 hD20 hS20 hB21 hk21 hvm21 hz21 ht21
          have i22 := (ck_ok hR).1
          replace hR := (ck_ok hR).2
          refine va_iast (f := q21.2.2.2.2.2.1.2.2.2.2) hx hb hK hP21 hD21 hS21 11 10 rfl rfl i22 dX10_readBill_107 (fun H22 locs22 hP22 hD22 hS22 => ?_)
          have hP22 : va_P (dC, dI) vwCl (zc_10 a1 k1 (q21.2.1, q21.2.2.1, q21.2.2.2.1, q21.2.2.2.2.1, (q21.2.2.2.2.2.1.1, q21.2.2.2.2.2.1.2.1, q21.2.2.2.2.2.1.2.2.1, q21.2.2.2.2.2.1.2.2.2.1, (upd q21.2.2.2.2.2.1.2.2.2.2 (x1 + (2 : Int32)).toNatClampNeg q21.1)), q21.2.2.2.2.2.2)) H22 := hP22
          have hD22 : va_D A (zc_10 a1 k1 (q21.2.1, q21.2.2.1, q21.2.2.2.1, q21.2.2.2.2.1, (q21.2.2.2.2.2.1.1, q21.2.2.2.2.2.1.2.1, q21.2.2.2.2.2.1.2.2.1, q21.2.2.2.2.2.1.2.2.2.1, (upd q21.2.2.2.2.2.1.2.2.2.2 (x1 + (2 : Int32)).toNatClampNeg q21.1)), q21.2.2.2.2.2.2)) := hD22
          clear hP21 hD21 hS21
          refine lv_aload_n hx hb dX10_readBill_108 rfl (lv_at hl12 2 rfl) ?_
          refine va_get (D := (dC, dI)) (ci := 10) (v := .ref (a1 11)) (C := RX10) (T := TX10) (N := 35) hx hb hts hin10 hown hK hP22 0 rfl rfl 18 (by decide) (hts (.fieldLink RX10 40 "OldestCoinsModel" "read" "[I") (List.mem_of_getElem? (i := 2) rfl)) (fun _ h9 => h9) rfl dX10_readBill_109 ?_
          refine lv_iload_n hx hb dX10_readBill_112 rfl (lv_at hl12 3 rfl) ?_
          refine lv_iconst (v := (2 : Int32)) hx hb dX10_readBill_113 (by decide) ?_
          refine lv_iadd hx hb dX10_readBill_114 ?_
          have i23 := (ck_ok hR).1
          replace hR := (ck_ok hR).2
          refine va_iald (f := (upd q21.2.2.2.2.2.1.2.2.2.2 (x1 + (2 : Int32)).toNatClampNeg q21.1)) hx hb hK hP22 11 10 rfl rfl i23 dX10_readBill_115 ?_
          refine lv_if_lt (tgt := 123) hx hb dX10_readBill_116 (by decide) (fun c24 => ?_) (fun c24 => ?_)
          · replace hR := ifp_ hR c24
            refine lv_iconst (v := (0 : Int32)) hx hb dX10_readBill_123 (by decide) ?_
            subst hQe
            exact W.zret (ty := .boolean) (v := (0 : Int32)) hx hb hr rfl (fun t ht hW => ⟨⟨(0 : Int32), (q21.2.1, q21.2.2.1, q21.2.2.2.1, q21.2.2.2.2.1, (q21.2.2.2.2.2.1.1, q21.2.2.2.2.2.1.2.1, q21.2.2.2.2.2.1.2.2.1, q21.2.2.2.2.2.1.2.2.2.1, (upd q21.2.2.2.2.2.1.2.2.2.2 (x1 + (2 : Int32)).toNatClampNeg q21.1)), q21.2.2.2.2.2.2), rfl, (Option.some.inj hR).symm, by rw [ht]; exact hP22, va_K.moved hW.alike hK, hD22⟩, hS22.F ht⟩) hS22.2.2 dX10_readBill_124
          · replace hR := ifn_ hR c24
            refine lv_iconst (v := (1 : Int32)) hx hb dX10_readBill_119 (by decide) ?_
            refine lv_goto (tgt := 124) hx hb dX10_readBill_120 (by decide) ?_
            subst hQe
            exact W.zret (ty := .boolean) (v := (1 : Int32)) hx hb hr rfl (fun t ht hW => ⟨⟨(1 : Int32), (q21.2.1, q21.2.2.1, q21.2.2.2.1, q21.2.2.2.2.1, (q21.2.2.2.2.2.1.1, q21.2.2.2.2.2.1.2.1, q21.2.2.2.2.2.1.2.2.1, q21.2.2.2.2.2.1.2.2.2.1, (upd q21.2.2.2.2.2.1.2.2.2.2 (x1 + (2 : Int32)).toNatClampNeg q21.1)), q21.2.2.2.2.2.2), rfl, (Option.some.inj hR).symm, by rw [ht]; exact hP22, va_K.moved hW.alike hK, hD22⟩, hS22.F ht⟩) hS22.2.2 dX10_readBill_124
        · replace hR := ifp_ hR c18
          refine lv_iconst (v := (0 : Int32)) hx hb dX10_readBill_74 (by decide) ?_
          subst hQe
          exact W.zret (ty := .boolean) (v := (0 : Int32)) hx hb hr rfl (fun t ht hW => ⟨⟨(0 : Int32), q17.2, rfl, (Option.some.inj hR).symm, by rw [ht]; exact hP17, va_K.moved hW.alike hK, hD17⟩, hS17.F ht⟩) hS17.2.2 dX10_readBill_75
      · replace hR := ifp_ hR c14
        refine lv_iconst (v := (0 : Int32)) hx hb dX10_readBill_53 (by decide) ?_
        subst hQe
        exact W.zret (ty := .boolean) (v := (0 : Int32)) hx hb hr rfl (fun t ht hW => ⟨⟨(0 : Int32), q10.2, rfl, (Option.some.inj hR).symm, by rw [ht]; exact hP13, va_K.moved hW.alike hK, hD13⟩, hS13.F ht⟩) hS13.2.2 dX10_readBill_54
    · replace hR := ifp_ hR c9
      refine lv_iconst (v := (0 : Int32)) hx hb dX10_readBill_36 (by decide) ?_
      subst hQe
      exact W.zret (ty := .boolean) (v := (0 : Int32)) hx hb hr rfl (fun t ht hW => ⟨⟨(0 : Int32), q8.2, rfl, (Option.some.inj hR).symm, by rw [ht]; exact hP8, va_K.moved hW.alike hK, hD8⟩, hS8.F ht⟩) hS8.2.2 dX10_readBill_37
  · replace hR := ifp_ hR c5
    refine lv_iconst (v := (0 : Int32)) hx hb dX10_readBill_15 (by decide) ?_
    subst hQe
    exact W.zret (ty := .boolean) (v := (0 : Int32)) hx hb hr rfl (fun t ht hW => ⟨⟨(0 : Int32), q1.2, rfl, (Option.some.inj hR).symm, by rw [ht]; exact hP4, va_K.moved hW.alike hK, hD4⟩, hS4.F ht⟩) hS4.2.2 dX10_readBill_16
def rr_X10_readCoin_161 (fu : Nat) (y1 : Int32) (u1 : ZT_10) : Option (Int32 × ZT_10) := ck_ (y1 + (2 : Int32)) 72 ((if (u1.2.2.2.2.1.2.2.2.2 (y1 + (2 : Int32)).toNatClampNeg) < (0 : Int32) then some ((0 : Int32), u1) else some ((1 : Int32), u1)))
def rr_X10_readCoin (fu : Nat) (x1 : Int32) (s1 : ZT_10) : Option (Int32 × ZT_10) := (rr_X10_readNumber fu (1 : Int32) (99 : Int32) s1).bind (fun q1 => ck_ x1 72 (ck_ x1 72 ((if ((upd q1.2.2.2.2.2.1.2.2.2.2 x1.toNatClampNeg q1.1) x1.toNatClampNeg) < (0 : Int32) then some ((0 : Int32), (q1.2.1, q1.2.2.1, q1.2.2.2.1, q1.2.2.2.2.1, (q1.2.2.2.2.2.1.1, q1.2.2.2.2.2.1.2.1, q1.2.2.2.2.2.1.2.2.1, q1.2.2.2.2.2.1.2.2.2.1, (upd q1.2.2.2.2.2.1.2.2.2.2 x1.toNatClampNeg q1.1)), q1.2.2.2.2.2.2)) else (rr_X10_takes fu (121 : Int32) (q1.2.1, q1.2.2.1, q1.2.2.2.1, q1.2.2.2.2.1, (q1.2.2.2.2.2.1.1, q1.2.2.2.2.2.1.2.1, q1.2.2.2.2.2.1.2.2.1, q1.2.2.2.2.2.1.2.2.2.1, (upd q1.2.2.2.2.2.1.2.2.2.2 x1.toNatClampNeg q1.1)), q1.2.2.2.2.2.2)).bind (fun q5 => (if q5.1 = (0 : Int32) then some ((0 : Int32), q5.2) else (rr_X10_readNumber fu (0 : Int32) (99 : Int32) q5.2).bind (fun q7 => ck_ (x1 + (1 : Int32)) 72 (ck_ (x1 + (1 : Int32)) 72 (lt_ (α := Int32) ((upd q7.2.2.2.2.2.1.2.2.2.2 (x1 + (1 : Int32)).toNatClampNeg q7.1) (x1 + (1 : Int32)).toNatClampNeg) (fun z10 => ck_ (x1 + (2 : Int32)) 72 (ck_ (x1 + (3 : Int32)) 72 (ck_ (x1 + (1 : Int32)) 72 ((if (0 : Int32) ≤ ((upd (upd (upd q7.2.2.2.2.2.1.2.2.2.2 (x1 + (1 : Int32)).toNatClampNeg q7.1) (x1 + (2 : Int32)).toNatClampNeg z10) (x1 + (3 : Int32)).toNatClampNeg (0 : Int32)) (x1 + (1 : Int32)).toNatClampNeg) then (rr_X10_takes fu (102 : Int32) (q7.2.1, q7.2.2.1, q7.2.2.2.1, q7.2.2.2.2.1, (q7.2.2.2.2.2.1.1, q7.2.2.2.2.2.1.2.1, q7.2.2.2.2.2.1.2.2.1, q7.2.2.2.2.2.1.2.2.2.1, (upd (upd (upd q7.2.2.2.2.2.1.2.2.2.2 (x1 + (1 : Int32)).toNatClampNeg q7.1) (x1 + (2 : Int32)).toNatClampNeg z10) (x1 + (3 : Int32)).toNatClampNeg (0 : Int32))), q7.2.2.2.2.2.2)).bind (fun q15 => (if q15.1 = (0 : Int32) then (rr_X10_takes fu (119 : Int32) q15.2).bind (fun q17 => (if q17.1 = (0 : Int32) then (rr_X10_takes fu (98 : Int32) q17.2).bind (fun q19 => (if q19.1 = (0 : Int32) then rr_X10_readCoin_161 fu x1 q19.2 else ck_ (x1 + (3 : Int32)) 72 (rr_X10_readCoin_161 fu x1 (q19.2.1, q19.2.2.1, q19.2.2.2.1, q19.2.2.2.2.1, (q19.2.2.2.2.2.1.1, q19.2.2.2.2.2.1.2.1, q19.2.2.2.2.2.1.2.2.1, q19.2.2.2.2.2.1.2.2.2.1, (upd q19.2.2.2.2.2.1.2.2.2.2 (x1 + (3 : Int32)).toNatClampNeg (3 : Int32))), q19.2.2.2.2.2.2)))) else ck_ (x1 + (3 : Int32)) 72 (rr_X10_readCoin_161 fu x1 (q17.2.1, q17.2.2.1, q17.2.2.2.1, q17.2.2.2.2.1, (q17.2.2.2.2.2.1.1, q17.2.2.2.2.2.1.2.1, q17.2.2.2.2.2.1.2.2.1, q17.2.2.2.2.2.1.2.2.2.1, (upd q17.2.2.2.2.2.1.2.2.2.2 (x1 + (3 : Int32)).toNatClampNeg (2 : Int32))), q17.2.2.2.2.2.2)))) else (rr_X10_readNumber fu (0 : Int32) (99 : Int32) q15.2).bind (fun q23 => ck_ (x1 + (2 : Int32)) 72 (ck_ (x1 + (3 : Int32)) 72 (rr_X10_readCoin_161 fu x1 (q23.2.1, q23.2.2.1, q23.2.2.2.1, q23.2.2.2.2.1, (q23.2.2.2.2.2.1.1, q23.2.2.2.2.2.1.2.1, q23.2.2.2.2.2.1.2.2.1, q23.2.2.2.2.2.1.2.2.2.1, (upd (upd q23.2.2.2.2.2.1.2.2.2.2 (x1 + (2 : Int32)).toNatClampNeg q23.1) (x1 + (3 : Int32)).toNatClampNeg (1 : Int32))), q23.2.2.2.2.2.2)))))) else some ((0 : Int32), (q7.2.1, q7.2.2.1, q7.2.2.2.1, q7.2.2.2.2.1, (q7.2.2.2.2.2.1.1, q7.2.2.2.2.2.1.2.1, q7.2.2.2.2.2.1.2.2.1, q7.2.2.2.2.2.1.2.2.2.1, (upd (upd (upd q7.2.2.2.2.2.1.2.2.2.2 (x1 + (1 : Int32)).toNatClampNeg q7.1) (x1 + (2 : Int32)).toNatClampNeg z10) (x1 + (3 : Int32)).toNatClampNeg (0 : Int32))), q7.2.2.2.2.2.2))))))))))))))))
set_option maxHeartbeats 4000000 in
set_option maxRecDepth 100000 in
theorem cc_X10_readCoin (l : Launch) (dC : Nat → ClassId) (dI : Nat → Nat → Nat) (fu : Nat) (a1 : Nat → Nat) (k1 : Nat → ClassId) (sz : Nat) (x1 : Int32) (s1 : ZT_10) (res : Int32 × ZT_10) (hR : rr_X10_readCoin fu x1 s1 = some res) : Met l yX10_readCoin wsX10_readCoin ({ frames := 2, cells := 0, slots := 0, locals := 49 } : Room) (PcF [.ref (a1 0), .int x1] sz (dC, dI) (zc_10 a1 k1 s1) (zt_10 k1)) (va_Qi (fun (r : Int32) (u : ZT_10) => res = (r, u)) (fun u t => at3_ (dC, dI) (zc_10 a1 k1 u) (zt_10 k1) (va_A (zc_10 a1 k1 s1) sz) t) (va_A (zc_10 a1 k1 s1) sz)) 0 0 (va_A (zc_10 a1 k1 s1) sz) := by
  refine Met.ofW (cc := cX10_readCoin) (maxL := 2) (ret := (some .boolean)) (by decide) rfl ?_
  intro p e s m args below meth c s₁ B hml hv
  obtain ⟨hav, hsz, hP, hK, hD0⟩ := hv
  have hx := B.exec
  have hb := B.bytes
  have hr := B.returns
  have hts := atoms_spec (ws := wsX10_readCoin) B.pre
  have hown : s.vm.findClass RX10 = some m.cls := findClass_of_methodNamed B.named
  have hlocks := B.notSynchronized
  have hin10 : ∀ w ∈ wsX100, w ∈ wsX10_readCoin := fun w h => List.mem_cons_of_mem _ (List.mem_append_right _ h)
  subst hsz
  have hD := hD0.self (sz := s.heap.size)
  clear hD0
  generalize hAe : va_A (zc_10 a1 k1 s1) s.heap.size = A at hD ⊢
  have hA : ∀ q : Nat, s.heap.size ≤ q → A q := fun q h => by rw [← hAe]; exact Or.inr h
  have hS : va_S A s.heap s.heap [] := va_S.rf
  generalize hQe : MQ below _ args s 0 0 A = Q
  rw [show entryFrame m args 2 = F0 m 0 ((lg_sl ([.ref (a1 0), .int x1]) ++ List.replicate (2 - (lg_sl ([.ref (a1 0), .int x1])).length) Slot.unset).toArray) [] from by rw [hav]; exact lg_entry_eq m _ _]
  have hl := lv_entry ([.ref (a1 0), .int x1]) (n := 2) (Nat.le_of_ble_eq_true rfl)
  generalize (lg_sl ([.ref (a1 0), .int x1]) ++ List.replicate (2 - (lg_sl ([.ref (a1 0), .int x1])).length) Slot.unset).toArray = ls at hl ⊢
  have hl : lv_has ls 2 [(0, .ref (a1 0)), (1, .int x1)] := hl
  have hB161 : ∀ (y1 : Int32) (u1 : ZT_10) (H : Heap) (locs : List Loc) (ls : Array Slot), va_P (dC, dI) vwCl (zc_10 a1 k1 u1) H → va_D A (zc_10 a1 k1 u1) → va_S A s.heap H locs → lv_has ls 2 [(0, .ref (a1 0)), (1, .int y1)] → rr_X10_readCoin_161 fu y1 u1 = some res → W p l e ({ frames := 2, cells := 0, slots := 0, locals := 49 } : Room) s m args below meth c H locs 0 0 Q (F0 m 161 ls []) := by
    intro  y1 u1 H locs ls hP hD hS hl hR
    unfold rr_X10_readCoin_161 at hR
    refine lv_aload_n hx hb dX10_readCoin_161 rfl (lv_at hl 0 rfl) ?_
    refine va_get (D := (dC, dI)) (ci := 10) (v := .ref (a1 11)) (C := RX10) (T := TX10) (N := 35) hx hb hts hin10 hown hK hP 0 rfl rfl 18 (by decide) (hts (.fieldLink RX10 40 "OldestCoinsModel" "read" "[I") (List.mem_of_getElem? (i := 1) rfl)) (fun _ h9 => h9) rfl dX10_readCoin_162 ?_
    refine lv_iload_n hx hb dX10_readCoin_165 rfl (lv_at hl 1 rfl) ?_
    refine lv_iconst (v := (2 : Int32)) hx hb dX10_readCoin_166 (by decide) ?_
    refine lv_iadd hx hb dX10_readCoin_167 ?_
    have i26 := (ck_ok hR).1
    replace hR := (ck_ok hR).2
    refine va_iald (f := u1.2.2.2.2.1.2.2.2.2) hx hb hK hP 11 10 rfl rfl i26 dX10_readCoin_168 ?_
    refine lv_if_lt (tgt := 176) hx hb dX10_readCoin_169 (by decide) (fun c27 => ?_) (fun c27 => ?_)
    · replace hR := ifp_ hR c27
      refine lv_iconst (v := (0 : Int32)) hx hb dX10_readCoin_176 (by decide) ?_
      subst hQe
      exact W.zret (ty := .boolean) (v := (0 : Int32)) hx hb hr rfl (fun t ht hW => ⟨⟨(0 : Int32), u1, rfl, (Option.some.inj hR).symm, by rw [ht]; exact hP, va_K.moved hW.alike hK, hD⟩, hS.F ht⟩) hS.2.2 dX10_readCoin_177
    · replace hR := ifn_ hR c27
      refine lv_iconst (v := (1 : Int32)) hx hb dX10_readCoin_172 (by decide) ?_
      refine lv_goto (tgt := 177) hx hb dX10_readCoin_173 (by decide) ?_
      subst hQe
      exact W.zret (ty := .boolean) (v := (1 : Int32)) hx hb hr rfl (fun t ht hW => ⟨⟨(1 : Int32), u1, rfl, (Option.some.inj hR).symm, by rw [ht]; exact hP, va_K.moved hW.alike hK, hD⟩, hS.F ht⟩) hS.2.2 dX10_readCoin_177
  unfold rr_X10_readCoin at hR
  refine lv_aload_n hx hb dX10_readCoin_0 rfl (lv_at hl 0 rfl) ?_
  refine va_get (D := (dC, dI)) (ci := 10) (v := .ref (a1 11)) (C := RX10) (T := TX10) (N := 35) hx hb hts hin10 hown hK hP 0 rfl rfl 18 (by decide) (hts (.fieldLink RX10 40 "OldestCoinsModel" "read" "[I") (List.mem_of_getElem? (i := 1) rfl)) (fun _ h9 => h9) rfl dX10_readCoin_1 ?_
  refine lv_iload_n hx hb dX10_readCoin_4 rfl (lv_at hl 1 rfl) ?_
  refine lv_aload_n hx hb dX10_readCoin_5 rfl (lv_at hl 0 rfl) ?_
  refine lv_iconst (v := (1 : Int32)) hx hb dX10_readCoin_6 (by decide) ?_
  refine lv_bipush (v := (99 : Int32)) hx hb dX10_readCoin_7 (by decide) ?_
  have hR0 := ob_ok hR
  clear hR
  obtain ⟨q1, hq1, hR⟩ := hR0
  refine va_calli (va_runV (As := [.int (1 : Int32), .int (99 : Int32)]) (rest := [.int x1, .ref (a1 11)]) ⟨hx, hb, hml, hown, hts⟩ (cc_X10_readNumber l dC dI fu a1 k1 s.heap.size (1 : Int32) (99 : Int32) s1 q1 hq1) (cwV 2 hts gX10_readCoin_X10_readNumber rfl rfl rfl (by decide +kernel) ⟨Nat.le_of_ble_eq_true rfl, Nat.le_of_ble_eq_true rfl⟩) (pf_v hK hP hD 10 0 rfl rfl rfl) rfl rfl hl.1 rfl (lv_room (Nat.le_of_ble_eq_true rfl)) dX10_readCoin_9 ⟨Nat.le_refl _, Nat.le_refl _⟩) hS (fun q _ h => (fr_all hD hS hA) q h) (fr_all hD hS hA) (fun r1 v1 t1 H1 locs1 ht1 hvm1 hw1 hB1 hz1 hk1 hS1 => ?_)
  obtain rfl : r1 = q1.1 := (congrArg Prod.fst hw1).symm
  obtain rfl : v1 = q1.2 := (congrArg Prod.snd hw1).symm
  obtain ⟨hP1, hD1⟩ := jn_all hD hS hA ht1 hB1
  have hP1 : va_P (dC, dI) vwCl (zc_10 a1 k1 q1.2) H1 := hP1
  have hD1 : va_D A (zc_10 a1 k1 q1.2) := hD1
  clear hP hD hS hB1 hk1 hvm1 hz1 ht1
  have i2 := (ck_ok hR).1
  replace hR := (ck_ok hR).2
  refine va_iast (f := q1.2.2.2.2.2.1.2.2.2.2) hx hb hK hP1 hD1 hS1 11 10 rfl rfl i2 dX10_readCoin_12 (fun H2 locs2 hP2 hD2 hS2 => ?_)
  have hP2 : va_P (dC, dI) vwCl (zc_10 a1 k1 (q1.2.1, q1.2.2.1, q1.2.2.2.1, q1.2.2.2.2.1, (q1.2.2.2.2.2.1.1, q1.2.2.2.2.2.1.2.1, q1.2.2.2.2.2.1.2.2.1, q1.2.2.2.2.2.1.2.2.2.1, (upd q1.2.2.2.2.2.1.2.2.2.2 x1.toNatClampNeg q1.1)), q1.2.2.2.2.2.2)) H2 := hP2
  have hD2 : va_D A (zc_10 a1 k1 (q1.2.1, q1.2.2.1, q1.2.2.2.1, q1.2.2.2.2.1, (q1.2.2.2.2.2.1.1, q1.2.2.2.2.2.1.2.1, q1.2.2.2.2.2.1.2.2.1, q1.2.2.2.2.2.1.2.2.2.1, (upd q1.2.2.2.2.2.1.2.2.2.2 x1.toNatClampNeg q1.1)), q1.2.2.2.2.2.2)) := hD2
  clear hP1 hD1 hS1
  refine lv_aload_n hx hb dX10_readCoin_13 rfl (lv_at hl 0 rfl) ?_
  refine va_get (D := (dC, dI)) (ci := 10) (v := .ref (a1 11)) (C := RX10) (T := TX10) (N := 35) hx hb hts hin10 hown hK hP2 0 rfl rfl 18 (by decide) (hts (.fieldLink RX10 40 "OldestCoinsModel" "read" "[I") (List.mem_of_getElem? (i := 1) rfl)) (fun _ h9 => h9) rfl dX10_readCoin_14 ?_
  refine lv_iload_n hx hb dX10_readCoin_17 rfl (lv_at hl 1 rfl) ?_
  have i3 := (ck_ok hR).1
  replace hR := (ck_ok hR).2
  refine va_iald (f := (upd q1.2.2.2.2.2.1.2.2.2.2 x1.toNatClampNeg q1.1)) hx hb hK hP2 11 10 rfl rfl i3 dX10_readCoin_18 ?_
  refine lv_if_lt (tgt := 31) hx hb dX10_readCoin_19 (by decide) (fun c4 => ?_) (fun c4 => ?_)
  · replace hR := ifp_ hR c4
    refine lv_iconst (v := (0 : Int32)) hx hb dX10_readCoin_31 (by decide) ?_
    subst hQe
    exact W.zret (ty := .boolean) (v := (0 : Int32)) hx hb hr rfl (fun t ht hW => ⟨⟨(0 : Int32), (q1.2.1, q1.2.2.1, q1.2.2.2.1, q1.2.2.2.2.1, (q1.2.2.2.2.2.1.1, q1.2.2.2.2.2.1.2.1, q1.2.2.2.2.2.1.2.2.1, q1.2.2.2.2.2.1.2.2.2.1, (upd q1.2.2.2.2.2.1.2.2.2.2 x1.toNatClampNeg q1.1)), q1.2.2.2.2.2.2), rfl, (Option.some.inj hR).symm, by rw [ht]; exact hP2, va_K.moved hW.alike hK, hD2⟩, hS2.F ht⟩) hS2.2.2 dX10_readCoin_32
  · replace hR := ifn_ hR c4
    refine lv_aload_n hx hb dX10_readCoin_22 rfl (lv_at hl 0 rfl) ?_
    refine lv_bipush (v := (121 : Int32)) hx hb dX10_readCoin_23 (by decide) ?_
    have hR0 := ob_ok hR
    clear hR
    obtain ⟨q5, hq5, hR⟩ := hR0
    refine va_calli (va_runV (As := [.int (121 : Int32)]) (rest := []) ⟨hx, hb, hml, hown, hts⟩ (cc_X10_takes l dC dI fu a1 k1 H2.size (121 : Int32) (q1.2.1, q1.2.2.1, q1.2.2.2.1, q1.2.2.2.2.1, (q1.2.2.2.2.2.1.1, q1.2.2.2.2.2.1.2.1, q1.2.2.2.2.2.1.2.2.1, q1.2.2.2.2.2.1.2.2.2.1, (upd q1.2.2.2.2.2.1.2.2.2.2 x1.toNatClampNeg q1.1)), q1.2.2.2.2.2.2) q5 hq5) (cwV 1 hts gX10_readCoin_X10_takes rfl rfl rfl (by decide +kernel) ⟨Nat.le_of_ble_eq_true rfl, Nat.le_of_ble_eq_true rfl⟩) (pf_v hK hP2 hD2 10 0 rfl rfl rfl) rfl rfl hl.1 rfl (lv_room (Nat.le_of_ble_eq_true rfl)) dX10_readCoin_25 ⟨Nat.le_refl _, Nat.le_refl _⟩) hS2 (fun q _ h => (fr_all hD2 hS2 hA) q h) (fr_all hD2 hS2 hA) (fun r5 v5 t5 H5 locs5 ht5 hvm5 hw5 hB5 hz5 hk5 hS5 => ?_)
    obtain rfl : r5 = q5.1 := (congrArg Prod.fst hw5).symm
    obtain rfl : v5 = q5.2 := (congrArg Prod.snd hw5).symm
    obtain ⟨hP5, hD5⟩ := jn_all hD2 hS2 hA ht5 hB5
    have hP5 : va_P (dC, dI) vwCl (zc_10 a1 k1 q5.2) H5 := hP5
    have hD5 : va_D A (zc_10 a1 k1 q5.2) := hD5
    clear hP2 hD2 hS2 hB5 hk5 hvm5 hz5 ht5
    refine lv_if_ne (tgt := 33) hx hb dX10_readCoin_28 (by decide) (fun c6 => ?_) (fun c6 => ?_)
    · replace hR := ifn_ hR c6
      refine lv_aload_n hx hb dX10_readCoin_33 rfl (lv_at hl 0 rfl) ?_
      refine va_get (D := (dC, dI)) (ci := 10) (v := .ref (a1 11)) (C := RX10) (T := TX10) (N := 35) hx hb hts hin10 hown hK hP5 0 rfl rfl 18 (by decide) (hts (.fieldLink RX10 40 "OldestCoinsModel" "read" "[I") (List.mem_of_getElem? (i := 1) rfl)) (fun _ h9 => h9) rfl dX10_readCoin_34 ?_
      refine lv_iload_n hx hb dX10_readCoin_37 rfl (lv_at hl 1 rfl) ?_
      refine lv_iconst (v := (1 : Int32)) hx hb dX10_readCoin_38 (by decide) ?_
      refine lv_iadd hx hb dX10_readCoin_39 ?_
      refine lv_aload_n hx hb dX10_readCoin_40 rfl (lv_at hl 0 rfl) ?_
      refine lv_iconst (v := (0 : Int32)) hx hb dX10_readCoin_41 (by decide) ?_
      refine lv_bipush (v := (99 : Int32)) hx hb dX10_readCoin_42 (by decide) ?_
      have hR0 := ob_ok hR
      clear hR
      obtain ⟨q7, hq7, hR⟩ := hR0
      refine va_calli (va_runV (As := [.int (0 : Int32), .int (99 : Int32)]) (rest := [.int (x1 + (1 : Int32)), .ref (a1 11)]) ⟨hx, hb, hml, hown, hts⟩ (cc_X10_readNumber l dC dI fu a1 k1 H5.size (0 : Int32) (99 : Int32) q5.2 q7 hq7) (cwV 2 hts gX10_readCoin_X10_readNumber rfl rfl rfl (by decide +kernel) ⟨Nat.le_of_ble_eq_true rfl, Nat.le_of_ble_eq_true rfl⟩) (pf_v hK hP5 hD5 10 0 rfl rfl rfl) rfl rfl hl.1 rfl (lv_room (Nat.le_of_ble_eq_true rfl)) dX10_readCoin_44 ⟨Nat.le_refl _, Nat.le_refl _⟩) hS5 (fun q _ h => (fr_all hD5 hS5 hA) q h) (fr_all hD5 hS5 hA) (fun r7 v7 t7 H7 locs7 ht7 hvm7 hw7 hB7 hz7 hk7 hS7 => ?_)
      obtain rfl : r7 = q7.1 := (congrArg Prod.fst hw7).symm
      obtain rfl : v7 = q7.2 := (congrArg Prod.snd hw7).symm
      obtain ⟨hP7, hD7⟩ := jn_all hD5 hS5 hA ht7 hB7
      have hP7 : va_P (dC, dI) vwCl (zc_10 a1 k1 q7.2) H7 := hP7
      have hD7 : va_D A (zc_10 a1 k1 q7.2) := hD7
      clear hP5 hD5 hS5 hB7 hk7 hvm7 hz7 ht7
      have i8 := (ck_ok hR).1
      replace hR := (ck_ok hR).2
      refine va_iast (f := q7.2.2.2.2.2.1.2.2.2.2) hx hb hK hP7 hD7 hS7 11 10 rfl rfl i8 dX10_readCoin_47 (fun H8 locs8 hP8 hD8 hS8 => ?_)
      have hP8 : va_P (dC, dI) vwCl (zc_10 a1 k1 (q7.2.1, q7.2.2.1, q7.2.2.2.1, q7.2.2.2.2.1, (q7.2.2.2.2.2.1.1, q7.2.2.2.2.2.1.2.1, q7.2.2.2.2.2.1.2.2.1, q7.2.2.2.2.2.1.2.2.2.1, (upd q7.2.2.2.2.2.1.2.2.2.2 (x1 + (1 : Int32)).toNatClampNeg q7.1)), q7.2.2.2.2.2.2)) H8 := hP8
      have hD8 : va_D A (zc_10 a1 k1 (q7.2.1, q7.2.2.1, q7.2.2.2.1, q7.2.2.2.2.1, (q7.2.2.2.2.2.1.1, q7.2.2.2.2.2.1.2.1, q7.2.2.2.2.2.1.2.2.1, q7.2.2.2.2.2.1.2.2.2.1, (upd q7.2.2.2.2.2.1.2.2.2.2 (x1 + (1 : Int32)).toNatClampNeg q7.1)), q7.2.2.2.2.2.2)) := hD8
      clear hP7 hD7 hS7
      refine lv_aload_n hx hb dX10_readCoin_48 rfl (lv_at hl 0 rfl) ?_
      refine va_get (D := (dC, dI)) (ci := 10) (v := .ref (a1 11)) (C := RX10) (T := TX10) (N := 35) hx hb hts hin10 hown hK hP8 0 rfl rfl 18 (by decide) (hts (.fieldLink RX10 40 "OldestCoinsModel" "read" "[I") (List.mem_of_getElem? (i := 1) rfl)) (fun _ h9 => h9) rfl dX10_readCoin_49 ?_
      refine lv_iload_n hx hb dX10_readCoin_52 rfl (lv_at hl 1 rfl) ?_
      refine lv_iconst (v := (2 : Int32)) hx hb dX10_readCoin_53 (by decide) ?_
      refine lv_iadd hx hb dX10_readCoin_54 ?_
      refine lv_aload_n hx hb dX10_readCoin_55 rfl (lv_at hl 0 rfl) ?_
      refine va_get (D := (dC, dI)) (ci := 10) (v := .ref (a1 11)) (C := RX10) (T := TX10) (N := 35) hx hb hts hin10 hown hK hP8 0 rfl rfl 18 (by decide) (hts (.fieldLink RX10 40 "OldestCoinsModel" "read" "[I") (List.mem_of_getElem? (i := 1) rfl)) (fun _ h9 => h9) rfl dX10_readCoin_56 ?_
      refine lv_iload_n hx hb dX10_readCoin_59 rfl (lv_at hl 1 rfl) ?_
      refine lv_iconst (v := (1 : Int32)) hx hb dX10_readCoin_60 (by decide) ?_
      refine lv_iadd hx hb dX10_readCoin_61 ?_
      have i9 := (ck_ok hR).1
      replace hR := (ck_ok hR).2
      refine va_iald (f := (upd q7.2.2.2.2.2.1.2.2.2.2 (x1 + (1 : Int32)).toNatClampNeg q7.1)) hx hb hK hP8 11 10 rfl rfl i9 dX10_readCoin_62 ?_
      refine lv_topi (fun z10 ez10 => ?_)
      replace hR := lt_ok hR ez10
      have i11 := (ck_ok hR).1
      replace hR := (ck_ok hR).2
      refine va_iast (f := (upd q7.2.2.2.2.2.1.2.2.2.2 (x1 + (1 : Int32)).toNatClampNeg q7.1)) hx hb hK hP8 hD8 hS8 11 10 rfl rfl i11 dX10_readCoin_63 (fun H11 locs11 hP11 hD11 hS11 => ?_)
      have hP11 : va_P (dC, dI) vwCl (zc_10 a1 k1 (q7.2.1, q7.2.2.1, q7.2.2.2.1, q7.2.2.2.2.1, (q7.2.2.2.2.2.1.1, q7.2.2.2.2.2.1.2.1, q7.2.2.2.2.2.1.2.2.1, q7.2.2.2.2.2.1.2.2.2.1, (upd (upd q7.2.2.2.2.2.1.2.2.2.2 (x1 + (1 : Int32)).toNatClampNeg q7.1) (x1 + (2 : Int32)).toNatClampNeg z10)), q7.2.2.2.2.2.2)) H11 := hP11
      have hD11 : va_D A (zc_10 a1 k1 (q7.2.1, q7.2.2.1, q7.2.2.2.1, q7.2.2.2.2.1, (q7.2.2.2.2.2.1.1, q7.2.2.2.2.2.1.2.1, q7.2.2.2.2.2.1.2.2.1, q7.2.2.2.2.2.1.2.2.2.1, (upd (upd q7.2.2.2.2.2.1.2.2.2.2 (x1 + (1 : Int32)).toNatClampNeg q7.1) (x1 + (2 : Int32)).toNatClampNeg z10)), q7.2.2.2.2.2.2)) := hD11
      clear hP8 hD8 hS8
      refine lv_aload_n hx hb dX10_readCoin_64 rfl (lv_at hl 0 rfl) ?_
      refine va_get (D := (dC, dI)) (ci := 10) (v := .ref (a1 11)) (C := RX10) (T := TX10) (N := 35) hx hb hts hin10 hown hK hP11 0 rfl rfl 18 (by decide) (hts (.fieldLink RX10 40 "OldestCoinsModel" "read" "[I") (List.mem_of_getElem? (i := 1) rfl)) (fun _ h9 => h9) rfl dX10_readCoin_65 ?_
      refine lv_iload_n hx hb dX10_readCoin_68 rfl (lv_at hl 1 rfl) ?_
      refine lv_iconst (v := (3 : Int32)) hx hb dX10_readCoin_69 (by decide) ?_
      refine lv_iadd hx hb dX10_readCoin_70 ?_
      refine lv_iconst (v := (0 : Int32)) hx hb dX10_readCoin_71 (by decide) ?_
      have i12 := (ck_ok hR).1
      replace hR := (ck_ok hR).2
      refine va_iast (f := (upd (upd q7.2.2.2.2.2.1.2.2.2.2 (x1 + (1 : Int32)).toNatClampNeg q7.1) (x1 + (2 : Int32)).toNatClampNeg z10)) hx hb hK hP11 hD11 hS11 11 10 rfl rfl i12 dX10_readCoin_72 (fun H12 locs12 hP12 hD12 hS12 => ?_)
      have hP12 : va_P (dC, dI) vwCl (zc_10 a1 k1 (q7.2.1, q7.2.2.1, q7.2.2.2.1, q7.2.2.2.2.1, (q7.2.2.2.2.2.1.1, q7.2.2.2.2.2.1.2.1, q7.2.2.2.2.2.1.2.2.1, q7.2.2.2.2.2.1.2.2.2.1, (upd (upd (upd q7.2.2.2.2.2.1.2.2.2.2 (x1 + (1 : Int32)).toNatClampNeg q7.1) (x1 + (2 : Int32)).toNatClampNeg z10) (x1 + (3 : Int32)).toNatClampNeg (0 : Int32))), q7.2.2.2.2.2.2)) H12 := hP12
      have hD12 : va_D A (zc_10 a1 k1 (q7.2.1, q7.2.2.1, q7.2.2.2.1, q7.2.2.2.2.1, (q7.2.2.2.2.2.1.1, q7.2.2.2.2.2.1.2.1, q7.2.2.2.2.2.1.2.2.1, q7.2.2.2.2.2.1.2.2.2.1, (upd (upd (upd q7.2.2.2.2.2.1.2.2.2.2 (x1 + (1 : Int32)).toNatClampNeg q7.1) (x1 + (2 : Int32)).toNatClampNeg z10) (x1 + (3 : Int32)).toNatClampNeg (0 : Int32))), q7.2.2.2.2.2.2)) := hD12
      clear hP11 hD11 hS11
      refine lv_aload_n hx hb dX10_readCoin_73 rfl (lv_at hl 0 rfl) ?_
      refine va_get (D := (dC, dI)) (ci := 10) (v := .ref (a1 11)) (C := RX10) (T := TX10) (N := 35) hx hb hts hin10 hown hK hP12 0 rfl rfl 18 (by decide) (hts (.fieldLink RX10 40 "OldestCoinsModel" "read" "[I") (List.mem_of_getElem? (i := 1) rfl)) (fun _ h9 => h9) rfl dX10_readCoin_74 ?_
      refine lv_iload_n hx hb dX10_readCoin_77 rfl (lv_at hl 1 rfl) ?_
      refine lv_iconst (v := (1 : Int32)) hx hb dX10_readCoin_78 (by decide) ?_
      refine lv_iadd hx hb dX10_readCoin_79 ?_
      have i13 := (ck_ok hR).1
      replace hR := (ck_ok hR).2
      refine va_iald (f := (upd (upd (upd q7.2.2.2.2.2.1.2.2.2.2 (x1 + (1 : Int32)).toNatClampNeg q7.1) (x1 + (2 : Int32)).toNatClampNeg z10) (x1 + (3 : Int32)).toNatClampNeg (0 : Int32))) hx hb hK hP12 11 10 rfl rfl i13 dX10_readCoin_80 ?_
      refine lv_if_ge (tgt := 86) hx hb dX10_readCoin_81 (by decide) (fun c14 => ?_) (fun c14 => ?_)
      · replace hR := ifp_ hR c14
        refine lv_aload_n hx hb dX10_readCoin_86 rfl (lv_at hl 0 rfl) ?_
        refine lv_bipush (v := (102 : Int32)) hx hb dX10_readCoin_87 (by decide) ?_
        have hR0 := ob_ok hR
        clear hR
        obtain ⟨q15, hq15, hR⟩ := hR0
        refine va_calli (va_runV (As := [.int (102 : Int32)]) (rest := []) ⟨hx, hb, hml, hown, hts⟩ (cc_X10_takes l dC dI fu a1 k1 H12.size (102 : Int32) (q7.2.1, q7.2.2.1, q7.2.2.2.1, q7.2.2.2.2.1, (q7.2.2.2.2.2.1.1, q7.2.2.2.2.2.1.2.1, q7.2.2.2.2.2.1.2.2.1, q7.2.2.2.2.2.1.2.2.2.1, (upd (upd (upd q7.2.2.2.2.2.1.2.2.2.2 (x1 + (1 : Int32)).toNatClampNeg q7.1) (x1 + (2 : Int32)).toNatClampNeg z10) (x1 + (3 : Int32)).toNatClampNeg (0 : Int32))), q7.2.2.2.2.2.2) q15 hq15) (cwV 1 hts gX10_readCoin_X10_takes rfl rfl rfl (by decide +kernel) ⟨Nat.le_of_ble_eq_true rfl, Nat.le_of_ble_eq_true rfl⟩) (pf_v hK hP12 hD12 10 0 rfl rfl rfl) rfl rfl hl.1 rfl (lv_room (Nat.le_of_ble_eq_true rfl)) dX10_readCoin_89 ⟨Nat.le_refl _, Nat.le_refl _⟩) hS12 (fun q _ h => (fr_all hD12 hS12 hA) q h) (fr_all hD12 hS12 hA) (fun r15 v15 t15 H15 locs15 ht15 hvm15 hw15 hB15 hz15 hk15 hS15 => ?_)
        obtain rfl : r15 = q15.1 := (congrArg Prod.fst hw15).symm
        obtain rfl : v15 = q15.2 := (congrArg Prod.snd hw15).symm
        obtain ⟨hP15, hD15⟩ := jn_all hD12 hS12 hA ht15 hB15
        have hP15 : va_P (dC, dI) vwCl (zc_10 a1 k1 q15.2) H15 := hP15
        have hD15 : va_D A (zc_10 a1 k1 q15.2) := hD15
        clear hP12 hD12 hS12 hB15 hk15 hvm15 hz15 ht15
        refine lv_if_eq (tgt := 122) hx hb dX10_readCoin_92 (by decide) (fun c16 => ?_) (fun c16 => ?_)
        · replace hR := ifp_ hR c16
          refine lv_aload_n hx hb dX10_readCoin_122 rfl (lv_at hl 0 rfl) ?_
          refine lv_bipush (v := (119 : Int32)) hx hb dX10_readCoin_123 (by decide) ?_
          have hR0 := ob_ok hR
          clear hR
          obtain ⟨q17, hq17, hR⟩ := hR0
          refine va_calli (va_runV (As := [.int (119 : Int32)]) (rest := []) ⟨hx, hb, hml, hown, hts⟩ (cc_X10_takes l dC dI fu a1 k1 H15.size (119 : Int32) q15.2 q17 hq17) (cwV 1 hts gX10_readCoin_X10_takes rfl rfl rfl (by decide +kernel) ⟨Nat.le_of_ble_eq_true rfl, Nat.le_of_ble_eq_true rfl⟩) (pf_v hK hP15 hD15 10 0 rfl rfl rfl) rfl rfl hl.1 rfl (lv_room (Nat.le_of_ble_eq_true rfl)) dX10_readCoin_125 ⟨Nat.le_refl _, Nat.le_refl _⟩) hS15 (fun q _ h => (fr_all hD15 hS15 hA) q h) (fr_all hD15 hS15 hA) (fun r17 v17 t17 H17 locs17 ht17 hvm17 hw17 hB17 hz17 hk17 hS17 => ?_)
          obtain rfl : r17 = q17.1 := (congrArg Prod.fst hw17).symm
          obtain rfl : v17 = q17.2 := (congrArg Prod.snd hw17).symm
          obtain ⟨hP17, hD17⟩ := jn_all hD15 hS15 hA ht17 hB17
          have hP17 : va_P (dC, dI) vwCl (zc_10 a1 k1 q17.2) H17 := hP17
          have hD17 : va_D A (zc_10 a1 k1 q17.2) := hD17
          clear hP15 hD15 hS15 hB17 hk17 hvm17 hz17 ht17
          refine lv_if_eq (tgt := 143) hx hb dX10_readCoin_128 (by decide) (fun c18 => ?_) (fun c18 => ?_)
          · replace hR := ifp_ hR c18
            refine lv_aload_n hx hb dX10_readCoin_143 rfl (lv_at hl 0 rfl) ?_
            refine lv_bipush (v := (98 : Int32)) hx hb dX10_readCoin_144 (by decide) ?_
            have hR0 := ob_ok hR
            clear hR
            obtain ⟨q19, hq19, hR⟩ := hR0
            refine va_calli (va_runV (As := [.int (98 : Int32)]) (rest := []) ⟨hx, hb, hml, hown, hts⟩ (cc_X10_takes l dC dI fu a1 k1 H17.size (98 : Int32) q17.2 q19 hq19) (cwV 1 hts gX10_readCoin_X10_takes rfl rfl rfl (by decide +kernel) ⟨Nat.le_of_ble_eq_true rfl, Nat.le_of_ble_eq_true rfl⟩) (pf_v hK hP17 hD17 10 0 rfl rfl rfl) rfl rfl hl.1 rfl (lv_room (Nat.le_of_ble_eq_true rfl)) dX10_readCoin_146 ⟨Nat.le_refl _, Nat.le_refl _⟩) hS17 (fun q _ h => (fr_all hD17 hS17 hA) q h) (fr_all hD17 hS17 hA) (fun r19 v19 t19 H19 locs19 ht19 hvm19 hw19 hB19 hz19 hk19 hS19 => ?_)
            obtain rfl : r19 = q19.1 := (congrArg Prod.fst hw19).symm
            obtain rfl : v19 = q19.2 := (congrArg Prod.snd hw19).symm
            obtain ⟨hP19, hD19⟩ := jn_all hD17 hS17 hA ht19 hB19
            have hP19 : va_P (dC, dI) vwCl (zc_10 a1 k1 q19.2) H19 := hP19
            have hD19 : va_D A (zc_10 a1 k1 q19.2) := hD19
            clear hP17 hD17 hS17 hB19 hk19 hvm19 hz19 ht19
            refine lv_if_eq (tgt := 161) hx hb dX10_readCoin_149 (by decide) (fun c20 => ?_) (fun c20 => ?_)
            · replace hR := ifp_ hR c20
              exact hB161 x1 q19.2 H19 locs19 ls hP19 hD19 hS19 (lv_sub hl [0, 1] rfl) hR
            · replace hR := ifn_ hR c20
              refine lv_aload_n hx hb dX10_readCoin_152 rfl (lv_at hl 0 rfl) ?_
              refine va_get (D := (dC, dI)) (ci := 10) (v := .ref (a1 11)) (C := RX10) (T := TX10) (N := 35) hx hb hts hin10 hown hK hP19 0 rfl rfl 18 (by decide) (hts (.fieldLink RX10 40 "OldestCoinsModel" "read" "[I") (List.mem_of_getElem? (i := 1) rfl)) (fun _ h9 => h9) rfl dX10_readCoin_153 ?_
              refine lv_iload_n hx hb dX10_readCoin_156 rfl (lv_at hl 1 rfl) ?_
              refine lv_iconst (v := (3 : Int32)) hx hb dX10_readCoin_157 (by decide) ?_
              refine lv_iadd hx hb dX10_readCoin_158 ?_
              refine lv_iconst (v := (3 : Int32)) hx hb dX10_readCoin_159 (by decide) ?_
              have i21 := (ck_ok hR).1
              replace hR := (ck_ok hR).2
              refine va_iast (f := q19.2.2.2.2.2.1.2.2.2.2) hx hb hK hP19 hD19 hS19 11 10 rfl rfl i21 dX10_readCoin_160 (fun H21 locs21 hP21 hD21 hS21 => ?_)
              have hP21 : va_P (dC, dI) vwCl (zc_10 a1 k1 (q19.2.1, q19.2.2.1, q19.2.2.2.1, q19.2.2.2.2.1, (q19.2.2.2.2.2.1.1, q19.2.2.2.2.2.1.2.1, q19.2.2.2.2.2.1.2.2.1, q19.2.2.2.2.2.1.2.2.2.1, (upd q19.2.2.2.2.2.1.2.2.2.2 (x1 + (3 : Int32)).toNatClampNeg (3 : Int32))), q19.2.2.2.2.2.2)) H21 := hP21
              have hD21 : va_D A (zc_10 a1 k1 (q19.2.1, q19.2.2.1, q19.2.2.2.1, q19.2.2.2.2.1, (q19.2.2.2.2.2.1.1, q19.2.2.2.2.2.1.2.1, q19.2.2.2.2.2.1.2.2.1, q19.2.2.2.2.2.1.2.2.2.1, (upd q19.2.2.2.2.2.1.2.2.2.2 (x1 + (3 : Int32)).toNatClampNeg (3 : Int32))), q19.2.2.2.2.2.2)) := hD21
              clear hP19 hD19 hS19
              exact hB161 x1 (q19.2.1, q19.2.2.1, q19.2.2.2.1, q19.2.2.2.2.1, (q19.2.2.2.2.2.1.1, q19.2.2.2.2.2.1.2.1, q19.2.2.2.2.2.1.2.2.1, q19.2.2.2.2.2.1.2.2.2.1, (upd q19.2.2.2.2.2.1.2.2.2.2 (x1 + (3 : Int32)).toNatClampNeg (3 : Int32))), q19.2.2.2.2.2.2) H21 locs21 ls hP21 hD21 hS21 (lv_sub hl [0, 1] rfl) hR
          · replace hR := ifn_ hR c18
            refine lv_aload_n hx hb dX10_readCoin_131 rfl (lv_at hl 0 rfl) ?_
            refine va_get (D := (dC, dI)) (ci := 10) (v := .ref (a1 11)) (C := RX10) (T := TX10) (N := 35) hx hb hts hin10 hown hK hP17 0 rfl rfl 18 (by decide) (hts (.fieldLink RX10 40 "OldestCoinsModel" "read" "[I") (List.mem_of_getElem? (i := 1) rfl)) (fun _ h9 => h9) rfl dX10_readCoin_132 ?_
            refine lv_iload_n hx hb dX10_readCoin_135 rfl (lv_at hl 1 rfl) ?_
            refine lv_iconst (v := (3 : Int32)) hx hb dX10_readCoin_136 (by decide) ?_
            refine lv_iadd hx hb dX10_readCoin_137 ?_
            refine lv_iconst (v := (2 : Int32)) hx hb dX10_readCoin_138 (by decide) ?_
            have i22 := (ck_ok hR).1
            replace hR := (ck_ok hR).2
            refine va_iast (f := q17.2.2.2.2.2.1.2.2.2.2) hx hb hK hP17 hD17 hS17 11 10 rfl rfl i22 dX10_readCoin_139 (fun H22 locs22 hP22 hD22 hS22 => ?_)
            have hP22 : va_P (dC, dI) vwCl (zc_10 a1 k1 (q17.2.1, q17.2.2.1, q17.2.2.2.1, q17.2.2.2.2.1, (q17.2.2.2.2.2.1.1, q17.2.2.2.2.2.1.2.1, q17.2.2.2.2.2.1.2.2.1, q17.2.2.2.2.2.1.2.2.2.1, (upd q17.2.2.2.2.2.1.2.2.2.2 (x1 + (3 : Int32)).toNatClampNeg (2 : Int32))), q17.2.2.2.2.2.2)) H22 := hP22
            have hD22 : va_D A (zc_10 a1 k1 (q17.2.1, q17.2.2.1, q17.2.2.2.1, q17.2.2.2.2.1, (q17.2.2.2.2.2.1.1, q17.2.2.2.2.2.1.2.1, q17.2.2.2.2.2.1.2.2.1, q17.2.2.2.2.2.1.2.2.2.1, (upd q17.2.2.2.2.2.1.2.2.2.2 (x1 + (3 : Int32)).toNatClampNeg (2 : Int32))), q17.2.2.2.2.2.2)) := hD22
            clear hP17 hD17 hS17
            refine lv_goto (tgt := 161) hx hb dX10_readCoin_140 (by decide) ?_
            exact hB161 x1 (q17.2.1, q17.2.2.1, q17.2.2.2.1, q17.2.2.2.2.1, (q17.2.2.2.2.2.1.1, q17.2.2.2.2.2.1.2.1, q17.2.2.2.2.2.1.2.2.1, q17.2.2.2.2.2.1.2.2.2.1, (upd q17.2.2.2.2.2.1.2.2.2.2 (x1 + (3 : Int32)).toNatClampNeg (2 : Int32))), q17.2.2.2.2.2.2) H22 locs22 ls hP22 hD22 hS22 (lv_sub hl [0, 1] rfl) hR
        · replace hR := ifn_ hR c16
          refine lv_aload_n hx hb dX10_readCoin_95 rfl (lv_at hl 0 rfl) ?_
          refine va_get (D := (dC, dI)) (ci := 10) (v := .ref (a1 11)) (C := RX10) (T := TX10) (N := 35) hx hb hts hin10 hown hK hP15 0 rfl rfl 18 (by decide) (hts (.fieldLink RX10 40 "OldestCoinsModel" "read" "[I") (List.mem_of_getElem? (i := 1) rfl)) (fun _ h9 => h9) rfl dX10_readCoin_96 ?_
          refine lv_iload_n hx hb dX10_readCoin_99 rfl (lv_at hl 1 rfl) ?_
          refine lv_iconst (v := (2 : Int32)) hx hb dX10_readCoin_100 (by decide) ?_
          refine lv_iadd hx hb dX10_readCoin_101 ?_
          refine lv_aload_n hx hb dX10_readCoin_102 rfl (lv_at hl 0 rfl) ?_
          refine lv_iconst (v := (0 : Int32)) hx hb dX10_readCoin_103 (by decide) ?_
          refine lv_bipush (v := (99 : Int32)) hx hb dX10_readCoin_104 (by decide) ?_
          have hR0 := ob_ok hR
          clear hR
          obtain ⟨q23, hq23, hR⟩ := hR0
          refine va_calli (va_runV (As := [.int (0 : Int32), .int (99 : Int32)]) (rest := [.int (x1 + (2 : Int32)), .ref (a1 11)]) ⟨hx, hb, hml, hown, hts⟩ (cc_X10_readNumber l dC dI fu a1 k1 H15.size (0 : Int32) (99 : Int32) q15.2 q23 hq23) (cwV 2 hts gX10_readCoin_X10_readNumber rfl rfl rfl (by decide +kernel) ⟨Nat.le_of_ble_eq_true rfl, Nat.le_of_ble_eq_true rfl⟩) (pf_v hK hP15 hD15 10 0 rfl rfl rfl) rfl rfl hl.1 rfl (lv_room (Nat.le_of_ble_eq_true rfl)) dX10_readCoin_106 ⟨Nat.le_refl _, Nat.le_refl _⟩) hS15 (fun q _ h => (fr_all hD15 hS15 hA) q h) (fr_all hD15 hS15 hA) (fun r23 v23 t23 H23 locs23 ht23 hvm23 hw23 hB23 hz23 hk23 hS23 => ?_)
          obtain rfl : r23 = q23.1 := (congrArg Prod.fst hw23).symm
          obtain rfl : v23 = q23.2 := (congrArg Prod.snd hw23).symm
          obtain ⟨hP23, hD23⟩ := jn_all hD15 hS15 hA ht23 hB23
          have hP23 : va_P (dC, dI) vwCl (zc_10 a1 k1 q23.2) H23 := hP23
          have hD23 : va_D A (zc_10 a1 k1 q23.2) := hD23
          clear hP15 hD15 hS15 hB23 hk23 hvm23 hz23 ht23
          have i24 := (ck_ok hR).1
          replace hR := (ck_ok hR).2
          refine va_iast (f := q23.2.2.2.2.2.1.2.2.2.2) hx hb hK hP23 hD23 hS23 11 10 rfl rfl i24 dX10_readCoin_109 (fun H24 locs24 hP24 hD24 hS24 => ?_)
          have hP24 : va_P (dC, dI) vwCl (zc_10 a1 k1 (q23.2.1, q23.2.2.1, q23.2.2.2.1, q23.2.2.2.2.1, (q23.2.2.2.2.2.1.1, q23.2.2.2.2.2.1.2.1, q23.2.2.2.2.2.1.2.2.1, q23.2.2.2.2.2.1.2.2.2.1, (upd q23.2.2.2.2.2.1.2.2.2.2 (x1 + (2 : Int32)).toNatClampNeg q23.1)), q23.2.2.2.2.2.2)) H24 := hP24
          have hD24 : va_D A (zc_10 a1 k1 (q23.2.1, q23.2.2.1, q23.2.2.2.1, q23.2.2.2.2.1, (q23.2.2.2.2.2.1.1, q23.2.2.2.2.2.1.2.1, q23.2.2.2.2.2.1.2.2.1, q23.2.2.2.2.2.1.2.2.2.1, (upd q23.2.2.2.2.2.1.2.2.2.2 (x1 + (2 : Int32)).toNatClampNeg q23.1)), q23.2.2.2.2.2.2)) := hD24
          clear hP23 hD23 hS23
          refine lv_aload_n hx hb dX10_readCoin_110 rfl (lv_at hl 0 rfl) ?_
          refine va_get (D := (dC, dI)) (ci := 10) (v := .ref (a1 11)) (C := RX10) (T := TX10) (N := 35) hx hb hts hin10 hown hK hP24 0 rfl rfl 18 (by decide) (hts (.fieldLink RX10 40 "OldestCoinsModel" "read" "[I") (List.mem_of_getElem? (i := 1) rfl)) (fun _ h9 => h9) rfl dX10_readCoin_111 ?_
          refine lv_iload_n hx hb dX10_readCoin_114 rfl (lv_at hl 1 rfl) ?_
          refine lv_iconst (v := (3 : Int32)) hx hb dX10_readCoin_115 (by decide) ?_
          refine lv_iadd hx hb dX10_readCoin_116 ?_
          refine lv_iconst (v := (1 : Int32)) hx hb dX10_readCoin_117 (by decide) ?_
          have i25 := (ck_ok hR).1
          replace hR := (ck_ok hR).2
          refine va_iast (f := (upd q23.2.2.2.2.2.1.2.2.2.2 (x1 + (2 : Int32)).toNatClampNeg q23.1)) hx hb hK hP24 hD24 hS24 11 10 rfl rfl i25 dX10_readCoin_118 (fun H25 locs25 hP25 hD25 hS25 => ?_)
          have hP25 : va_P (dC, dI) vwCl (zc_10 a1 k1 (q23.2.1, q23.2.2.1, q23.2.2.2.1, q23.2.2.2.2.1, (q23.2.2.2.2.2.1.1, q23.2.2.2.2.2.1.2.1, q23.2.2.2.2.2.1.2.2.1, q23.2.2.2.2.2.1.2.2.2.1, (upd (upd q23.2.2.2.2.2.1.2.2.2.2 (x1 + (2 : Int32)).toNatClampNeg q23.1) (x1 + (3 : Int32)).toNatClampNeg (1 : Int32))), q23.2.2.2.2.2.2)) H25 := hP25
          have hD25 : va_D A (zc_10 a1 k1 (q23.2.1, q23.2.2.1, q23.2.2.2.1, q23.2.2.2.2.1, (q23.2.2.2.2.2.1.1, q23.2.2.2.2.2.1.2.1, q23.2.2.2.2.2.1.2.2.1, q23.2.2.2.2.2.1.2.2.2.1, (upd (upd q23.2.2.2.2.2.1.2.2.2.2 (x1 + (2 : Int32)).toNatClampNeg q23.1) (x1 + (3 : Int32)).toNatClampNeg (1 : Int32))), q23.2.2.2.2.2.2)) := hD25
          clear hP24 hD24 hS24
          refine lv_goto (tgt := 161) hx hb dX10_readCoin_119 (by decide) ?_
          exact hB161 x1 (q23.2.1, q23.2.2.1, q23.2.2.2.1, q23.2.2.2.2.1, (q23.2.2.2.2.2.1.1, q23.2.2.2.2.2.1.2.1, q23.2.2.2.2.2.1.2.2.1, q23.2.2.2.2.2.1.2.2.2.1, (upd (upd q23.2.2.2.2.2.1.2.2.2.2 (x1 + (2 : Int32)).toNatClampNeg q23.1) (x1 + (3 : Int32)).toNatClampNeg (1 : Int32))), q23.2.2.2.2.2.2) H25 locs25 ls hP25 hD25 hS25 (lv_sub hl [0, 1] rfl) hR
      · replace hR := ifn_ hR c14
        refine lv_iconst (v := (0 : Int32)) hx hb dX10_readCoin_84 (by decide) ?_
        subst hQe
        exact W.zret (ty := .boolean) (v := (0 : Int32)) hx hb hr rfl (fun t ht hW => ⟨⟨(0 : Int32), (q7.2.1, q7.2.2.1, q7.2.2.2.1, q7.2.2.2.2.1, (q7.2.2.2.2.2.1.1, q7.2.2.2.2.2.1.2.1, q7.2.2.2.2.2.1.2.2.1, q7.2.2.2.2.2.1.2.2.2.1, (upd (upd (upd q7.2.2.2.2.2.1.2.2.2.2 (x1 + (1 : Int32)).toNatClampNeg q7.1) (x1 + (2 : Int32)).toNatClampNeg z10) (x1 + (3 : Int32)).toNatClampNeg (0 : Int32))), q7.2.2.2.2.2.2), rfl, (Option.some.inj hR).symm, by rw [ht]; exact hP12, va_K.moved hW.alike hK, hD12⟩, hS12.F ht⟩) hS12.2.2 dX10_readCoin_85
    · replace hR := ifp_ hR c6
      refine lv_iconst (v := (0 : Int32)) hx hb dX10_readCoin_31 (by decide) ?_
      subst hQe
      exact W.zret (ty := .boolean) (v := (0 : Int32)) hx hb hr rfl (fun t ht hW => ⟨⟨(0 : Int32), q5.2, rfl, (Option.some.inj hR).symm, by rw [ht]; exact hP5, va_K.moved hW.alike hK, hD5⟩, hS5.F ht⟩) hS5.2.2 dX10_readCoin_32
def rr_X10_readAll_53 (fu : Nat) (rec19 : Int32 → Int32 → Int32 → ZT_10 → Option (Int32 × ZT_10)) (y1 : Int32) (y2 : Int32) (y3 : Int32) (u1 : ZT_10) : Option (Int32 × ZT_10) := lt_ (α := Int32) (y3 + (1 : Int32)) (fun z11 => (rr_X10_nextByte fu (u1.1, u1.2.1, u1.2.2.1, u1.2.2.2.1, (u1.2.2.2.2.1.1, u1.2.2.2.2.1.2.1, u1.2.2.2.2.1.2.2.1, z11, u1.2.2.2.2.1.2.2.2.2), u1.2.2.2.2.2)).bind (fun q13 => (if (0 : Int32) ≤ q13.1 then (if q13.1 = (44 : Int32) then (if y3 = (y2 - (1 : Int32)) then some ((0 : Int32), q13.2) else lt_ (α := Int32) (q13.2.2.2.2.2.1.2.2.1 + (1 : Int32)) (fun z18 => lt_ (α := Int32) (y3 + (1 : Int32)) (fun z20 => rec19 y1 y2 z20 (q13.2.1, q13.2.2.1, q13.2.2.2.1, q13.2.2.2.2.1, (q13.2.2.2.2.2.1.1, q13.2.2.2.2.2.1.2.1, z18, q13.2.2.2.2.2.1.2.2.2), q13.2.2.2.2.2.2)))) else some ((0 : Int32), q13.2)) else some ((1 : Int32), q13.2))))
def rr_X10_readAll_19_b (fu : Nat) (rec19 : Int32 → Int32 → Int32 → ZT_10 → Option (Int32 × ZT_10)) (y1 : Int32) (y2 : Int32) (y3 : Int32) (u1 : ZT_10) : Option (Int32 × ZT_10) := (if y2 ≤ y3 then some ((0 : Int32), u1) else (if y1 = (0 : Int32) then (rr_X10_readBill fu ((3 : Int32) * y3) u1).bind (fun q7 => (if q7.1 = (0 : Int32) then some ((0 : Int32), q7.2) else rr_X10_readAll_53 fu rec19 y1 y2 y3 q7.2)) else (rr_X10_readCoin fu ((4 : Int32) * y3) u1).bind (fun q9 => (if q9.1 = (0 : Int32) then some ((0 : Int32), q9.2) else rr_X10_readAll_53 fu rec19 y1 y2 y3 q9.2))))
def rr_X10_readAll_19 (fu : Nat) (n : Nat) : Int32 → Int32 → Int32 → ZT_10 → Option (Int32 × ZT_10) := lp_ (fun _ _ _ _ => none) (rr_X10_readAll_19_b fu) n
def rr_X10_readAll_16 (fu : Nat) (y1 : Int32) (w0 : Int32) (u1 : ZT_10) : Option (Int32 × ZT_10) := rr_X10_readAll_19 fu fu y1 w0 (0 : Int32) u1
def rr_X10_readAll (fu : Nat) (x1 : Int32) (s1 : ZT_10) : Option (Int32 × ZT_10) := (if x1 = (0 : Int32) then rr_X10_readAll_16 fu x1 (24 : Int32) (s1.1, s1.2.1, s1.2.2.1, s1.2.2.2.1, (s1.2.2.2.2.1.1, s1.2.2.2.2.1.2.1, (0 : Int32), s1.2.2.2.2.1.2.2.2), s1.2.2.2.2.2) else rr_X10_readAll_16 fu x1 (10 : Int32) (s1.1, s1.2.1, s1.2.2.1, s1.2.2.2.1, (s1.2.2.2.2.1.1, s1.2.2.2.2.1.2.1, (0 : Int32), s1.2.2.2.2.1.2.2.2), s1.2.2.2.2.2))
set_option maxHeartbeats 4000000 in
set_option maxRecDepth 100000 in
theorem cc_X10_readAll (l : Launch) (dC : Nat → ClassId) (dI : Nat → Nat → Nat) (fu : Nat) (a1 : Nat → Nat) (k1 : Nat → ClassId) (sz : Nat) (x1 : Int32) (s1 : ZT_10) (res : Int32 × ZT_10) (hR : rr_X10_readAll fu x1 s1 = some res) : Met l yX10_readAll wsX10_readAll ({ frames := 3, cells := 0, slots := 0, locals := 72 } : Room) (PcF [.ref (a1 0), .int x1] sz (dC, dI) (zc_10 a1 k1 s1) (zt_10 k1)) (va_Qi (fun (r : Int32) (u : ZT_10) => res = (r, u)) (fun u t => at3_ (dC, dI) (zc_10 a1 k1 u) (zt_10 k1) (va_A (zc_10 a1 k1 s1) sz) t) (va_A (zc_10 a1 k1 s1) sz)) 0 0 (va_A (zc_10 a1 k1 s1) sz) := by
  refine Met.ofW (cc := cX10_readAll) (maxL := 5) (ret := (some .boolean)) (by decide) rfl ?_
  intro p e s m args below meth c s₁ B hml hv
  obtain ⟨hav, hsz, hP, hK, hD0⟩ := hv
  have hx := B.exec
  have hb := B.bytes
  have hr := B.returns
  have hts := atoms_spec (ws := wsX10_readAll) B.pre
  have hown : s.vm.findClass RX10 = some m.cls := findClass_of_methodNamed B.named
  have hlocks := B.notSynchronized
  have hin10 : ∀ w ∈ wsX100, w ∈ wsX10_readAll := fun w h => List.mem_cons_of_mem _ (List.mem_append_right _ h)
  subst hsz
  have hD := hD0.self (sz := s.heap.size)
  clear hD0
  generalize hAe : va_A (zc_10 a1 k1 s1) s.heap.size = A at hD ⊢
  have hA : ∀ q : Nat, s.heap.size ≤ q → A q := fun q h => by rw [← hAe]; exact Or.inr h
  have hS : va_S A s.heap s.heap [] := va_S.rf
  generalize hQe : MQ below _ args s 0 0 A = Q
  rw [show entryFrame m args 5 = F0 m 0 ((lg_sl ([.ref (a1 0), .int x1]) ++ List.replicate (5 - (lg_sl ([.ref (a1 0), .int x1])).length) Slot.unset).toArray) [] from by rw [hav]; exact lg_entry_eq m _ _]
  have hl := lv_entry ([.ref (a1 0), .int x1]) (n := 5) (Nat.le_of_ble_eq_true rfl)
  generalize (lg_sl ([.ref (a1 0), .int x1]) ++ List.replicate (5 - (lg_sl ([.ref (a1 0), .int x1])).length) Slot.unset).toArray = ls at hl ⊢
  have hl : lv_has ls 5 [(0, .ref (a1 0)), (1, .int x1)] := hl
  have hB53 : ∀ (rec19 : Int32 → Int32 → Int32 → ZT_10 → Option (Int32 × ZT_10)) (hrec19 : ∀ (y1 : Int32) (y2 : Int32) (y3 : Int32) (u1 : ZT_10) (H : Heap) (locs : List Loc) (ls : Array Slot), va_P (dC, dI) vwCl (zc_10 a1 k1 u1) H → va_D A (zc_10 a1 k1 u1) → va_S A s.heap H locs → lv_has ls 5 [(0, .ref (a1 0)), (1, .int y1), (2, .int y2), (3, .int y3)] → rec19 y1 y2 y3 u1 = some res → W p l e ({ frames := 3, cells := 0, slots := 0, locals := 72 } : Room) s m args below meth c H locs 0 0 Q (F0 m 19 ls [])), ∀ (y1 : Int32) (y2 : Int32) (y3 : Int32) (u1 : ZT_10) (H : Heap) (locs : List Loc) (ls : Array Slot), va_P (dC, dI) vwCl (zc_10 a1 k1 u1) H → va_D A (zc_10 a1 k1 u1) → va_S A s.heap H locs → lv_has ls 5 [(0, .ref (a1 0)), (1, .int y1), (2, .int y2), (3, .int y3)] → rr_X10_readAll_53 fu rec19 y1 y2 y3 u1 = some res → W p l e ({ frames := 3, cells := 0, slots := 0, locals := 72 } : Room) s m args below meth c H locs 0 0 Q (F0 m 53 ls []) := by
    intro rec19 hrec19 y1 y2 y3 u1 H locs ls hP hD hS hl hR
    unfold rr_X10_readAll_53 at hR
    refine lv_aload_n hx hb dX10_readAll_53 rfl (lv_at hl 0 rfl) ?_
    refine lv_iload_n hx hb dX10_readAll_54 rfl (lv_at hl 3 rfl) ?_
    refine lv_iconst (v := (1 : Int32)) hx hb dX10_readAll_55 (by decide) ?_
    refine lv_iadd hx hb dX10_readAll_56 ?_
    refine lv_topi (fun z11 ez11 => ?_)
    replace hR := lt_ok hR ez11
    refine va_put (D := (dC, dI)) (ci := 10) (v := .int z11) (ty := .int) (C := RX10) (T := TX10) (N := 35) hx hb hts hin10 tyX10 tyX10_ok nmX10 hown hK hP hD hS 0 rfl rfl 17 (by decide) (hts (.fieldLink RX10 178 "OldestCoinsModel" "reads" "I") (List.mem_of_getElem? (i := 2) rfl)) (fun _ h9 => h9) rfl (by decide +kernel) rfl rfl (Nat.le_of_ble_eq_true rfl) dX10_readAll_57 (fun H12 locs12 hP12 hD12 hS12 => ?_)
    have hP12 : va_P (dC, dI) vwCl (zc_10 a1 k1 (u1.1, u1.2.1, u1.2.2.1, u1.2.2.2.1, (u1.2.2.2.2.1.1, u1.2.2.2.2.1.2.1, u1.2.2.2.2.1.2.2.1, z11, u1.2.2.2.2.1.2.2.2.2), u1.2.2.2.2.2)) H12 := hP12
    have hD12 : va_D A (zc_10 a1 k1 (u1.1, u1.2.1, u1.2.2.1, u1.2.2.2.1, (u1.2.2.2.2.1.1, u1.2.2.2.2.1.2.1, u1.2.2.2.2.1.2.2.1, z11, u1.2.2.2.2.1.2.2.2.2), u1.2.2.2.2.2)) := hD12
    clear hP hD hS
    refine lv_aload_n hx hb dX10_readAll_60 rfl (lv_at hl 0 rfl) ?_
    have hR0 := ob_ok hR
    clear hR
    obtain ⟨q13, hq13, hR⟩ := hR0
    refine va_calli (va_runV (As := []) (rest := []) ⟨hx, hb, hml, hown, hts⟩ (cc_X10_nextByte l dC dI fu a1 k1 H12.size (u1.1, u1.2.1, u1.2.2.1, u1.2.2.2.1, (u1.2.2.2.2.1.1, u1.2.2.2.2.1.2.1, u1.2.2.2.2.1.2.2.1, z11, u1.2.2.2.2.1.2.2.2.2), u1.2.2.2.2.2) q13 hq13) (cwV 0 hts gX10_readAll_X10_nextByte rfl rfl rfl (by decide +kernel) ⟨Nat.le_of_ble_eq_true rfl, Nat.le_of_ble_eq_true rfl⟩) (pf_v hK hP12 hD12 10 0 rfl rfl rfl) rfl rfl hl.1 rfl (lv_room (Nat.le_of_ble_eq_true rfl)) dX10_readAll_61 ⟨Nat.le_refl _, Nat.le_refl _⟩) hS12 (fun q _ h => (fr_all hD12 hS12 hA) q h) (fr_all hD12 hS12 hA) (fun r13 v13 t13 H13 locs13 ht13 hvm13 hw13 hB13 hz13 hk13 hS13 => ?_)
    obtain rfl : r13 = q13.1 := (congrArg Prod.fst hw13).symm
    obtain rfl : v13 = q13.2 := (congrArg Prod.snd hw13).symm
    obtain ⟨hP13, hD13⟩ := jn_all hD12 hS12 hA ht13 hB13
    have hP13 : va_P (dC, dI) vwCl (zc_10 a1 k1 q13.2) H13 := hP13
    have hD13 : va_D A (zc_10 a1 k1 q13.2) := hD13
    clear hP12 hD12 hS12 hB13 hk13 hvm13 hz13 ht13
    refine lv_istore (lv' := [(4, .int q13.1), (0, .ref (a1 0)), (1, .int y1), (2, .int y2), (3, .int y3)]) hx hb dX10_readAll_64 hl (by decide) rfl (fun ls14 hl14 => ?_)
    refine lv_iload hx hb dX10_readAll_66 (lv_at hl14 0 rfl) ?_
    refine lv_if_ge (tgt := 73) hx hb dX10_readAll_68 (by decide) (fun c15 => ?_) (fun c15 => ?_)
    · replace hR := ifp_ hR c15
      refine lv_iload hx hb dX10_readAll_73 (lv_at hl14 0 rfl) ?_
      refine lv_bipush (v := (44 : Int32)) hx hb dX10_readAll_75 (by decide) ?_
      refine lv_icmp_ne (tgt := 87) hx hb dX10_readAll_77 (by decide) (fun c16 => ?_) (fun c16 => ?_)
      · replace hR := ifn_ hR c16
        refine lv_iconst (v := (0 : Int32)) hx hb dX10_readAll_87 (by decide) ?_
        subst hQe
        exact W.zret (ty := .boolean) (v := (0 : Int32)) hx hb hr rfl (fun t ht hW => ⟨⟨(0 : Int32), q13.2, rfl, (Option.some.inj hR).symm, by rw [ht]; exact hP13, va_K.moved hW.alike hK, hD13⟩, hS13.F ht⟩) hS13.2.2 dX10_readAll_88
      · replace hR := ifp_ hR c16
        refine lv_iload_n hx hb dX10_readAll_80 rfl (lv_at hl14 4 rfl) ?_
        refine lv_iload_n hx hb dX10_readAll_81 rfl (lv_at hl14 3 rfl) ?_
        refine lv_iconst (v := (1 : Int32)) hx hb dX10_readAll_82 (by decide) ?_
        refine lv_isub hx hb dX10_readAll_83 ?_
        refine lv_icmp_ne (tgt := 89) hx hb dX10_readAll_84 (by decide) (fun c17 => ?_) (fun c17 => ?_)
        · replace hR := ifn_ hR c17
          refine lv_aload_n hx hb dX10_readAll_89 rfl (lv_at hl14 1 rfl) ?_
          refine lv_dup hx hb dX10_readAll_90 rfl ?_
          refine va_get (D := (dC, dI)) (ci := 10) (v := .int q13.2.2.2.2.2.1.2.2.1) (C := RX10) (T := TX10) (N := 35) hx hb hts hin10 hown hK hP13 0 rfl rfl 16 (by decide) (hts (.fieldLink RX10 149 "OldestCoinsModel" "place" "I") (List.mem_of_getElem? (i := 1) rfl)) (fun _ h9 => h9) rfl dX10_readAll_91 ?_
          refine lv_iconst (v := (1 : Int32)) hx hb dX10_readAll_94 (by decide) ?_
          refine lv_iadd hx hb dX10_readAll_95 ?_
          refine lv_topi (fun z18 ez18 => ?_)
          replace hR := lt_ok hR ez18
          refine va_put (D := (dC, dI)) (ci := 10) (v := .int z18) (ty := .int) (C := RX10) (T := TX10) (N := 35) hx hb hts hin10 tyX10 tyX10_ok nmX10 hown hK hP13 hD13 hS13 0 rfl rfl 16 (by decide) (hts (.fieldLink RX10 149 "OldestCoinsModel" "place" "I") (List.mem_of_getElem? (i := 1) rfl)) (fun _ h9 => h9) rfl (by decide +kernel) rfl rfl (Nat.le_of_ble_eq_true rfl) dX10_readAll_96 (fun H19 locs19 hP19 hD19 hS19 => ?_)
          have hP19 : va_P (dC, dI) vwCl (zc_10 a1 k1 (q13.2.1, q13.2.2.1, q13.2.2.2.1, q13.2.2.2.2.1, (q13.2.2.2.2.2.1.1, q13.2.2.2.2.2.1.2.1, z18, q13.2.2.2.2.2.1.2.2.2), q13.2.2.2.2.2.2)) H19 := hP19
          have hD19 : va_D A (zc_10 a1 k1 (q13.2.1, q13.2.2.1, q13.2.2.2.1, q13.2.2.2.2.1, (q13.2.2.2.2.2.1.1, q13.2.2.2.2.2.1.2.1, z18, q13.2.2.2.2.2.1.2.2.2), q13.2.2.2.2.2.2)) := hD19
          clear hP13 hD13 hS13
          obtain ⟨z20, ez20⟩ : ∃ y : Int32, y = (y3 + (1 : Int32)) := ⟨_, rfl⟩
          replace hR := lt_ok hR ez20
          refine lv_iinc (v := z20) (lv' := [(3, .int z20), (4, .int q13.1), (0, .ref (a1 0)), (1, .int y1), (2, .int y2)]) hx hb dX10_readAll_99 hl14 (k := 4) rfl (by rw [ez20]; rfl) (by decide) rfl (fun ls20 hl20 => ?_)
          refine lv_goto (tgt := 19) hx hb dX10_readAll_102 (by decide) ?_
          exact hrec19 y1 y2 z20 (q13.2.1, q13.2.2.1, q13.2.2.2.1, q13.2.2.2.2.1, (q13.2.2.2.2.2.1.1, q13.2.2.2.2.2.1.2.1, z18, q13.2.2.2.2.2.1.2.2.2), q13.2.2.2.2.2.2) H19 locs19 ls20 hP19 hD19 hS19 (lv_sub hl20 [2, 3, 4, 0] rfl) hR
        · replace hR := ifp_ hR c17
          refine lv_iconst (v := (0 : Int32)) hx hb dX10_readAll_87 (by decide) ?_
          subst hQe
          exact W.zret (ty := .boolean) (v := (0 : Int32)) hx hb hr rfl (fun t ht hW => ⟨⟨(0 : Int32), q13.2, rfl, (Option.some.inj hR).symm, by rw [ht]; exact hP13, va_K.moved hW.alike hK, hD13⟩, hS13.F ht⟩) hS13.2.2 dX10_readAll_88
    · replace hR := ifn_ hR c15
      refine lv_iconst (v := (1 : Int32)) hx hb dX10_readAll_71 (by decide) ?_
      subst hQe
      exact W.zret (ty := .boolean) (v := (1 : Int32)) hx hb hr rfl (fun t ht hW => ⟨⟨(1 : Int32), q13.2, rfl, (Option.some.inj hR).symm, by rw [ht]; exact hP13, va_K.moved hW.alike hK, hD13⟩, hS13.F ht⟩) hS13.2.2 dX10_readAll_72
  have hB19 : ∀ (n : Nat), ∀ (y1 : Int32) (y2 : Int32) (y3 : Int32) (u1 : ZT_10) (H : Heap) (locs : List Loc) (ls : Array Slot), va_P (dC, dI) vwCl (zc_10 a1 k1 u1) H → va_D A (zc_10 a1 k1 u1) → va_S A s.heap H locs → lv_has ls 5 [(0, .ref (a1 0)), (1, .int y1), (2, .int y2), (3, .int y3)] → rr_X10_readAll_19 fu n y1 y2 y3 u1 = some res → W p l e ({ frames := 3, cells := 0, slots := 0, locals := 72 } : Room) s m args below meth c H locs 0 0 Q (F0 m 19 ls []) := by
    intro  n
    induction n with
    | zero => intro y1 y2 y3 u1 H locs ls hP hD hS hl hR; exact absurd hR (by intro h; cases h)
    | succ n ih =>
      intro y1 y2 y3 u1 H locs ls hP hD hS hl hR
      replace hR : rr_X10_readAll_19_b fu (rr_X10_readAll_19 fu n) y1 y2 y3 u1 = some res := hR
      unfold rr_X10_readAll_19_b at hR
      refine lv_iload_n hx hb dX10_readAll_19 rfl (lv_at hl 3 rfl) ?_
      refine lv_iload_n hx hb dX10_readAll_20 rfl (lv_at hl 2 rfl) ?_
      refine lv_icmp_ge (tgt := 105) hx hb dX10_readAll_21 (by decide) (fun c5 => ?_) (fun c5 => ?_)
      · replace hR := ifp_ hR c5
        refine lv_iconst (v := (0 : Int32)) hx hb dX10_readAll_105 (by decide) ?_
        subst hQe
        exact W.zret (ty := .boolean) (v := (0 : Int32)) hx hb hr rfl (fun t ht hW => ⟨⟨(0 : Int32), u1, rfl, (Option.some.inj hR).symm, by rw [ht]; exact hP, va_K.moved hW.alike hK, hD⟩, hS.F ht⟩) hS.2.2 dX10_readAll_106
      · replace hR := ifn_ hR c5
        refine lv_iload_n hx hb dX10_readAll_24 rfl (lv_at hl 1 rfl) ?_
        refine lv_if_eq (tgt := 41) hx hb dX10_readAll_25 (by decide) (fun c6 => ?_) (fun c6 => ?_)
        · replace hR := ifp_ hR c6
          refine lv_aload_n hx hb dX10_readAll_41 rfl (lv_at hl 0 rfl) ?_
          refine lv_iconst (v := (3 : Int32)) hx hb dX10_readAll_42 (by decide) ?_
          refine lv_iload_n hx hb dX10_readAll_43 rfl (lv_at hl 3 rfl) ?_
          refine lv_imul hx hb dX10_readAll_44 ?_
          have hR0 := ob_ok hR
          clear hR
          obtain ⟨q7, hq7, hR⟩ := hR0
          refine va_calli (va_runV (As := [.int ((3 : Int32) * y3)]) (rest := []) ⟨hx, hb, hml, hown, hts⟩ (cc_X10_readBill l dC dI fu a1 k1 H.size ((3 : Int32) * y3) u1 q7 hq7) (cwV 1 hts gX10_readAll_X10_readBill rfl rfl rfl (by decide +kernel) ⟨Nat.le_of_ble_eq_true rfl, Nat.le_of_ble_eq_true rfl⟩) (pf_v hK hP hD 10 0 rfl rfl rfl) rfl rfl hl.1 rfl (lv_room (Nat.le_of_ble_eq_true rfl)) dX10_readAll_45 ⟨Nat.le_refl _, Nat.le_refl _⟩) hS (fun q _ h => (fr_all hD hS hA) q h) (fr_all hD hS hA) (fun r7 v7 t7 H7 locs7 ht7 hvm7 hw7 hB7 hz7 hk7 hS7 => ?_)
          obtain rfl : r7 = q7.1 := (congrArg Prod.fst hw7).symm
          obtain rfl : v7 = q7.2 := (congrArg Prod.snd hw7).symm
          obtain ⟨hP7, hD7⟩ := jn_all hD hS hA ht7 hB7
          have hP7 : va_P (dC, dI) vwCl (zc_10 a1 k1 q7.2) H7 := hP7
          have hD7 : va_D A (zc_10 a1 k1 q7.2) := hD7
          clear hP hD hS hB7 hk7 hvm7 hz7 ht7
          refine lv_if_ne (tgt := 53) hx hb dX10_readAll_48 (by decide) (fun c8 => ?_) (fun c8 => ?_)
          · replace hR := ifn_ hR c8
            exact hB53 (rr_X10_readAll_19 fu n) ih y1 y2 y3 q7.2 H7 locs7 ls hP7 hD7 hS7 (lv_sub hl [0, 1, 2, 3] rfl) hR
          · replace hR := ifp_ hR c8
            refine lv_iconst (v := (0 : Int32)) hx hb dX10_readAll_51 (by decide) ?_
            subst hQe
            exact W.zret (ty := .boolean) (v := (0 : Int32)) hx hb hr rfl (fun t ht hW => ⟨⟨(0 : Int32), q7.2, rfl, (Option.some.inj hR).symm, by rw [ht]; exact hP7, va_K.moved hW.alike hK, hD7⟩, hS7.F ht⟩) hS7.2.2 dX10_readAll_52
        · replace hR := ifn_ hR c6
          refine lv_aload_n hx hb dX10_readAll_28 rfl (lv_at hl 0 rfl) ?_
          refine lv_iconst (v := (4 : Int32)) hx hb dX10_readAll_29 (by decide) ?_
          refine lv_iload_n hx hb dX10_readAll_30 rfl (lv_at hl 3 rfl) ?_
          refine lv_imul hx hb dX10_readAll_31 ?_
          have hR0 := ob_ok hR
          clear hR
          obtain ⟨q9, hq9, hR⟩ := hR0
          refine va_calli (va_runV (As := [.int ((4 : Int32) * y3)]) (rest := []) ⟨hx, hb, hml, hown, hts⟩ (cc_X10_readCoin l dC dI fu a1 k1 H.size ((4 : Int32) * y3) u1 q9 hq9) (cwV 1 hts gX10_readAll_X10_readCoin rfl rfl rfl (by decide +kernel) ⟨Nat.le_of_ble_eq_true rfl, Nat.le_of_ble_eq_true rfl⟩) (pf_v hK hP hD 10 0 rfl rfl rfl) rfl rfl hl.1 rfl (lv_room (Nat.le_of_ble_eq_true rfl)) dX10_readAll_32 ⟨Nat.le_refl _, Nat.le_refl _⟩) hS (fun q _ h => (fr_all hD hS hA) q h) (fr_all hD hS hA) (fun r9 v9 t9 H9 locs9 ht9 hvm9 hw9 hB9 hz9 hk9 hS9 => ?_)
          obtain rfl : r9 = q9.1 := (congrArg Prod.fst hw9).symm
          obtain rfl : v9 = q9.2 := (congrArg Prod.snd hw9).symm
          obtain ⟨hP9, hD9⟩ := jn_all hD hS hA ht9 hB9
          have hP9 : va_P (dC, dI) vwCl (zc_10 a1 k1 q9.2) H9 := hP9
          have hD9 : va_D A (zc_10 a1 k1 q9.2) := hD9
          clear hP hD hS hB9 hk9 hvm9 hz9 ht9
          refine lv_if_eq (tgt := 51) hx hb dX10_readAll_35 (by decide) (fun c10 => ?_) (fun c10 => ?_)
          · replace hR := ifp_ hR c10
            refine lv_iconst (v := (0 : Int32)) hx hb dX10_readAll_51 (by decide) ?_
            subst hQe
            exact W.zret (ty := .boolean) (v := (0 : Int32)) hx hb hr rfl (fun t ht hW => ⟨⟨(0 : Int32), q9.2, rfl, (Option.some.inj hR).symm, by rw [ht]; exact hP9, va_K.moved hW.alike hK, hD9⟩, hS9.F ht⟩) hS9.2.2 dX10_readAll_52
          · replace hR := ifn_ hR c10
            refine lv_goto (tgt := 53) hx hb dX10_readAll_38 (by decide) ?_
            exact hB53 (rr_X10_readAll_19 fu n) ih y1 y2 y3 q9.2 H9 locs9 ls hP9 hD9 hS9 (lv_sub hl [0, 1, 2, 3] rfl) hR
  have hB16 : ∀ (y1 : Int32) (w0 : Int32) (u1 : ZT_10) (H : Heap) (locs : List Loc) (ls : Array Slot), va_P (dC, dI) vwCl (zc_10 a1 k1 u1) H → va_D A (zc_10 a1 k1 u1) → va_S A s.heap H locs → lv_has ls 5 [(0, .ref (a1 0)), (1, .int y1)] → rr_X10_readAll_16 fu y1 w0 u1 = some res → W p l e ({ frames := 3, cells := 0, slots := 0, locals := 72 } : Room) s m args below meth c H locs 0 0 Q (F0 m 16 ls [.int w0]) := by
    intro  y1 w0 u1 H locs ls hP hD hS hl hR
    unfold rr_X10_readAll_16 at hR
    refine lv_istore_n (lv' := [(2, .int w0), (0, .ref (a1 0)), (1, .int y1)]) hx hb dX10_readAll_16 rfl hl (by decide) rfl (fun ls3 hl3 => ?_)
    refine lv_iconst (v := (0 : Int32)) hx hb dX10_readAll_17 (by decide) ?_
    refine lv_istore_n (lv' := [(3, .int (0 : Int32)), (2, .int w0), (0, .ref (a1 0)), (1, .int y1)]) hx hb dX10_readAll_18 rfl hl3 (by decide) rfl (fun ls4 hl4 => ?_)
    exact hB19 fu y1 w0 (0 : Int32) u1 H locs ls4 hP hD hS (lv_sub hl4 [2, 3, 1, 0] rfl) hR
  unfold rr_X10_readAll at hR
  refine lv_aload_n hx hb dX10_readAll_0 rfl (lv_at hl 0 rfl) ?_
  refine lv_iconst (v := (0 : Int32)) hx hb dX10_readAll_1 (by decide) ?_
  refine va_put (D := (dC, dI)) (ci := 10) (v := .int (0 : Int32)) (ty := .int) (C := RX10) (T := TX10) (N := 35) hx hb hts hin10 tyX10 tyX10_ok nmX10 hown hK hP hD hS 0 rfl rfl 16 (by decide) (hts (.fieldLink RX10 149 "OldestCoinsModel" "place" "I") (List.mem_of_getElem? (i := 1) rfl)) (fun _ h9 => h9) rfl (by decide +kernel) rfl rfl (Nat.le_of_ble_eq_true rfl) dX10_readAll_2 (fun H1 locs1 hP1 hD1 hS1 => ?_)
  have hP1 : va_P (dC, dI) vwCl (zc_10 a1 k1 (s1.1, s1.2.1, s1.2.2.1, s1.2.2.2.1, (s1.2.2.2.2.1.1, s1.2.2.2.2.1.2.1, (0 : Int32), s1.2.2.2.2.1.2.2.2), s1.2.2.2.2.2)) H1 := hP1
  have hD1 : va_D A (zc_10 a1 k1 (s1.1, s1.2.1, s1.2.2.1, s1.2.2.2.1, (s1.2.2.2.2.1.1, s1.2.2.2.2.1.2.1, (0 : Int32), s1.2.2.2.2.1.2.2.2), s1.2.2.2.2.2)) := hD1
  clear hP hD hS
  refine lv_iload_n hx hb dX10_readAll_5 rfl (lv_at hl 1 rfl) ?_
  refine lv_if_eq (tgt := 14) hx hb dX10_readAll_6 (by decide) (fun c2 => ?_) (fun c2 => ?_)
  · replace hR := ifp_ hR c2
    refine lv_bipush (v := (24 : Int32)) hx hb dX10_readAll_14 (by decide) ?_
    exact hB16 x1 (24 : Int32) (s1.1, s1.2.1, s1.2.2.1, s1.2.2.2.1, (s1.2.2.2.2.1.1, s1.2.2.2.2.1.2.1, (0 : Int32), s1.2.2.2.2.1.2.2.2), s1.2.2.2.2.2) H1 locs1 ls hP1 hD1 hS1 (lv_sub hl [0, 1] rfl) hR
  · replace hR := ifn_ hR c2
    refine lv_bipush (v := (10 : Int32)) hx hb dX10_readAll_9 (by decide) ?_
    refine lv_goto (tgt := 16) hx hb dX10_readAll_11 (by decide) ?_
    exact hB16 x1 (10 : Int32) (s1.1, s1.2.1, s1.2.2.1, s1.2.2.2.1, (s1.2.2.2.2.1.1, s1.2.2.2.2.1.2.1, (0 : Int32), s1.2.2.2.2.1.2.2.2), s1.2.2.2.2.2) H1 locs1 ls hP1 hD1 hS1 (lv_sub hl [0, 1] rfl) hR
def rr_X10_day_42_b (fu : Nat) (rec42 : Int32 → ZT_10 → Option (Int32 × ZT_10)) (y2 : Int32) (u1 : ZT_10) : Option (Int32 × ZT_10) := (if ((3 : Int32) * u1.2.2.2.2.1.2.2.2.1) ≤ y2 then some (u1.2.2.2.2.1.2.2.2.1, u1) else ck_ y2 72 (lt_ (α := Int32) (u1.2.2.2.2.1.2.2.2.2 y2.toNatClampNeg) (fun z11 => ck_ y2 72 (lt_ (α := Int32) (y2 + (1 : Int32)) (fun z13 => rec42 z13 (u1.1, u1.2.1, ((upd u1.2.2.1.1 y2.toNatClampNeg z11), u1.2.2.1.2), u1.2.2.2))))))
def rr_X10_day_42 (fu : Nat) (n : Nat) : Int32 → ZT_10 → Option (Int32 × ZT_10) := lp_ (fun _ _ => none) (rr_X10_day_42_b fu) n
def rr_X10_day_15 (fu : Nat) (y1 : Int32) (u1 : ZT_10) : Option (Int32 × ZT_10) := (if y1 = (0 : Int32) then some (((-20 : Int32) - u1.2.2.2.2.1.2.2.1), (u1.1, u1.2.1, u1.2.2.1, u1.2.2.2.1, (u1.2.2.2.2.1.1, (0 : Int32), u1.2.2.2.2.1.2.2), u1.2.2.2.2.2)) else rr_X10_day_42 fu fu (0 : Int32) (u1.1, u1.2.1, (u1.2.2.1.1, u1.2.2.2.2.1.2.2.2.1), u1.2.2.2.1, (u1.2.2.2.2.1.1, (0 : Int32), u1.2.2.2.2.1.2.2), u1.2.2.2.2.2))
def rr_X10_day (fu : Nat) (s1 : ZT_10) : Option (Int32 × ZT_10) := (rr_X10_readAll fu (0 : Int32) s1).bind (fun q1 => (if q1.1 = (0 : Int32) then (rr_X10_nextByte fu q1.2).bind (fun q4 => rr_X10_day_15 fu q1.1 q4.2) else rr_X10_day_15 fu q1.1 q1.2))
set_option maxHeartbeats 4000000 in
set_option maxRecDepth 100000 in
theorem cc_X10_day (l : Launch) (dC : Nat → ClassId) (dI : Nat → Nat → Nat) (fu : Nat) (a1 : Nat → Nat) (k1 : Nat → ClassId) (sz : Nat) (s1 : ZT_10) (res : Int32 × ZT_10) (hR : rr_X10_day fu s1 = some res) : Met l yX10_day wsX10_day ({ frames := 4, cells := 0, slots := 0, locals := 96 } : Room) (PcF [.ref (a1 0)] sz (dC, dI) (zc_10 a1 k1 s1) (zt_10 k1)) (va_Qi (fun (r : Int32) (u : ZT_10) => res = (r, u)) (fun u t => at3_ (dC, dI) (zc_10 a1 k1 u) (zt_10 k1) (va_A (zc_10 a1 k1 s1) sz) t) (va_A (zc_10 a1 k1 s1) sz)) 0 0 (va_A (zc_10 a1 k1 s1) sz) := by
  refine Met.ofW (cc := cX10_day) (maxL := 3) (ret := (some .int)) (by decide) rfl ?_
  intro p e s m args below meth c s₁ B hml hv
  obtain ⟨hav, hsz, hP, hK, hD0⟩ := hv
  have hx := B.exec
  have hb := B.bytes
  have hr := B.returns
  have hts := atoms_spec (ws := wsX10_day) B.pre
  have hown : s.vm.findClass RX10 = some m.cls := findClass_of_methodNamed B.named
  have hlocks := B.notSynchronized
  have hin10 : ∀ w ∈ wsX100, w ∈ wsX10_day := fun w h => List.mem_cons_of_mem _ (List.mem_append_right _ h)
  subst hsz
  have hD := hD0.self (sz := s.heap.size)
  clear hD0
  generalize hAe : va_A (zc_10 a1 k1 s1) s.heap.size = A at hD ⊢
  have hA : ∀ q : Nat, s.heap.size ≤ q → A q := fun q h => by rw [← hAe]; exact Or.inr h
  have hS : va_S A s.heap s.heap [] := va_S.rf
  generalize hQe : MQ below _ args s 0 0 A = Q
  rw [show entryFrame m args 3 = F0 m 0 ((lg_sl ([.ref (a1 0)]) ++ List.replicate (3 - (lg_sl ([.ref (a1 0)])).length) Slot.unset).toArray) [] from by rw [hav]; exact lg_entry_eq m _ _]
  have hl := lv_entry ([.ref (a1 0)]) (n := 3) (Nat.le_of_ble_eq_true rfl)
  generalize (lg_sl ([.ref (a1 0)]) ++ List.replicate (3 - (lg_sl ([.ref (a1 0)])).length) Slot.unset).toArray = ls at hl ⊢
  have hl : lv_has ls 3 [(0, .ref (a1 0))] := hl
  have hB42 : ∀ (n : Nat), ∀ (y2 : Int32) (u1 : ZT_10) (H : Heap) (locs : List Loc) (ls : Array Slot), va_P (dC, dI) vwCl (zc_10 a1 k1 u1) H → va_D A (zc_10 a1 k1 u1) → va_S A s.heap H locs → lv_has ls 3 [(0, .ref (a1 0)), (2, .int y2)] → rr_X10_day_42 fu n y2 u1 = some res → W p l e ({ frames := 4, cells := 0, slots := 0, locals := 96 } : Room) s m args below meth c H locs 0 0 Q (F0 m 42 ls []) := by
    intro  n
    induction n with
    | zero => intro y2 u1 H locs ls hP hD hS hl hR; exact absurd hR (by intro h; cases h)
    | succ n ih =>
      intro y2 u1 H locs ls hP hD hS hl hR
      replace hR : rr_X10_day_42_b fu (rr_X10_day_42 fu n) y2 u1 = some res := hR
      unfold rr_X10_day_42_b at hR
      refine lv_iload_n hx hb dX10_day_42 rfl (lv_at hl 1 rfl) ?_
      refine lv_iconst (v := (3 : Int32)) hx hb dX10_day_43 (by decide) ?_
      refine lv_aload_n hx hb dX10_day_44 rfl (lv_at hl 0 rfl) ?_
      refine va_get (D := (dC, dI)) (ci := 10) (v := .int u1.2.2.2.2.1.2.2.2.1) (C := RX10) (T := TX10) (N := 35) hx hb hts hin10 hown hK hP 0 rfl rfl 17 (by decide) (hts (.fieldLink RX10 178 "OldestCoinsModel" "reads" "I") (List.mem_of_getElem? (i := 3) rfl)) (fun _ h9 => h9) rfl dX10_day_45 ?_
      refine lv_imul hx hb dX10_day_48 ?_
      refine lv_icmp_ge (tgt := 70) hx hb dX10_day_49 (by decide) (fun c9 => ?_) (fun c9 => ?_)
      · replace hR := ifp_ hR c9
        refine lv_aload_n hx hb dX10_day_70 rfl (lv_at hl 0 rfl) ?_
        refine va_get (D := (dC, dI)) (ci := 10) (v := .int u1.2.2.2.2.1.2.2.2.1) (C := RX10) (T := TX10) (N := 35) hx hb hts hin10 hown hK hP 0 rfl rfl 17 (by decide) (hts (.fieldLink RX10 178 "OldestCoinsModel" "reads" "I") (List.mem_of_getElem? (i := 3) rfl)) (fun _ h9 => h9) rfl dX10_day_71 ?_
        subst hQe
        exact W.iret (v := u1.2.2.2.2.1.2.2.2.1) hx hb hr (fun t ht hW => ⟨⟨u1.2.2.2.2.1.2.2.2.1, u1, rfl, (Option.some.inj hR).symm, by rw [ht]; exact hP, va_K.moved hW.alike hK, hD⟩, hS.F ht⟩) hS.2.2 dX10_day_74
      · replace hR := ifn_ hR c9
        refine lv_aload_n hx hb dX10_day_52 rfl (lv_at hl 0 rfl) ?_
        refine va_get (D := (dC, dI)) (ci := 10) (v := .ref (a1 8)) (C := RX10) (T := TX10) (N := 35) hx hb hts hin10 hown hK hP 0 rfl rfl 10 (by decide) (hts (.fieldLink RX10 31 "OldestCoinsModel" "bills" "[I") (List.mem_of_getElem? (i := 5) rfl)) (fun _ h9 => h9) rfl dX10_day_53 ?_
        refine lv_iload_n hx hb dX10_day_56 rfl (lv_at hl 1 rfl) ?_
        refine lv_aload_n hx hb dX10_day_57 rfl (lv_at hl 0 rfl) ?_
        refine va_get (D := (dC, dI)) (ci := 10) (v := .ref (a1 11)) (C := RX10) (T := TX10) (N := 35) hx hb hts hin10 hown hK hP 0 rfl rfl 18 (by decide) (hts (.fieldLink RX10 40 "OldestCoinsModel" "read" "[I") (List.mem_of_getElem? (i := 6) rfl)) (fun _ h9 => h9) rfl dX10_day_58 ?_
        refine lv_iload_n hx hb dX10_day_61 rfl (lv_at hl 1 rfl) ?_
        have i10 := (ck_ok hR).1
        replace hR := (ck_ok hR).2
        refine va_iald (f := u1.2.2.2.2.1.2.2.2.2) hx hb hK hP 11 10 rfl rfl i10 dX10_day_62 ?_
        refine lv_topi (fun z11 ez11 => ?_)
        replace hR := lt_ok hR ez11
        have i12 := (ck_ok hR).1
        replace hR := (ck_ok hR).2
        refine va_iast (f := u1.2.2.1.1) hx hb hK hP hD hS 8 7 rfl rfl i12 dX10_day_63 (fun H12 locs12 hP12 hD12 hS12 => ?_)
        have hP12 : va_P (dC, dI) vwCl (zc_10 a1 k1 (u1.1, u1.2.1, ((upd u1.2.2.1.1 y2.toNatClampNeg z11), u1.2.2.1.2), u1.2.2.2)) H12 := hP12
        have hD12 : va_D A (zc_10 a1 k1 (u1.1, u1.2.1, ((upd u1.2.2.1.1 y2.toNatClampNeg z11), u1.2.2.1.2), u1.2.2.2)) := hD12
        clear hP hD hS
        obtain ⟨z13, ez13⟩ : ∃ y : Int32, y = (y2 + (1 : Int32)) := ⟨_, rfl⟩
        replace hR := lt_ok hR ez13
        refine lv_iinc (v := z13) (lv' := [(2, .int z13), (0, .ref (a1 0))]) hx hb dX10_day_64 hl (k := 1) rfl (by rw [ez13]; rfl) (by decide) rfl (fun ls13 hl13 => ?_)
        refine lv_goto (tgt := 42) hx hb dX10_day_67 (by decide) ?_
        exact ih z13 (u1.1, u1.2.1, ((upd u1.2.2.1.1 y2.toNatClampNeg z11), u1.2.2.1.2), u1.2.2.2) H12 locs12 ls13 hP12 hD12 hS12 (lv_sub hl13 [1, 0] rfl) hR
  have hB15 : ∀ (y1 : Int32) (u1 : ZT_10) (H : Heap) (locs : List Loc) (ls : Array Slot), va_P (dC, dI) vwCl (zc_10 a1 k1 u1) H → va_D A (zc_10 a1 k1 u1) → va_S A s.heap H locs → lv_has ls 3 [(0, .ref (a1 0)), (1, .int y1)] → rr_X10_day_15 fu y1 u1 = some res → W p l e ({ frames := 4, cells := 0, slots := 0, locals := 96 } : Room) s m args below meth c H locs 0 0 Q (F0 m 15 ls []) := by
    intro  y1 u1 H locs ls hP hD hS hl hR
    unfold rr_X10_day_15 at hR
    refine lv_aload_n hx hb dX10_day_15 rfl (lv_at hl 0 rfl) ?_
    refine lv_iconst (v := (0 : Int32)) hx hb dX10_day_16 (by decide) ?_
    refine va_put (D := (dC, dI)) (ci := 10) (v := .int (0 : Int32)) (ty := .int) (C := RX10) (T := TX10) (N := 35) hx hb hts hin10 tyX10 tyX10_ok nmX10 hown hK hP hD hS 0 rfl rfl 15 (by decide) (hts (.fieldLink RX10 146 "OldestCoinsModel" "taped" "I") (List.mem_of_getElem? (i := 1) rfl)) (fun _ h9 => h9) rfl (by decide +kernel) rfl rfl (Nat.le_of_ble_eq_true rfl) dX10_day_17 (fun H5 locs5 hP5 hD5 hS5 => ?_)
    have hP5 : va_P (dC, dI) vwCl (zc_10 a1 k1 (u1.1, u1.2.1, u1.2.2.1, u1.2.2.2.1, (u1.2.2.2.2.1.1, (0 : Int32), u1.2.2.2.2.1.2.2), u1.2.2.2.2.2)) H5 := hP5
    have hD5 : va_D A (zc_10 a1 k1 (u1.1, u1.2.1, u1.2.2.1, u1.2.2.2.1, (u1.2.2.2.2.1.1, (0 : Int32), u1.2.2.2.2.1.2.2), u1.2.2.2.2.2)) := hD5
    clear hP hD hS
    refine lv_iload_n hx hb dX10_day_20 rfl (lv_at hl 1 rfl) ?_
    refine lv_if_ne (tgt := 32) hx hb dX10_day_21 (by decide) (fun c6 => ?_) (fun c6 => ?_)
    · replace hR := ifn_ hR c6
      refine lv_aload_n hx hb dX10_day_32 rfl (lv_at hl 0 rfl) ?_
      refine lv_aload_n hx hb dX10_day_33 rfl (lv_at hl 0 rfl) ?_
      refine va_get (D := (dC, dI)) (ci := 10) (v := .int u1.2.2.2.2.1.2.2.2.1) (C := RX10) (T := TX10) (N := 35) hx hb hts hin10 hown hK hP5 0 rfl rfl 17 (by decide) (hts (.fieldLink RX10 178 "OldestCoinsModel" "reads" "I") (List.mem_of_getElem? (i := 3) rfl)) (fun _ h9 => h9) rfl dX10_day_34 ?_
      refine va_put (D := (dC, dI)) (ci := 10) (v := .int u1.2.2.2.2.1.2.2.2.1) (ty := .int) (C := RX10) (T := TX10) (N := 35) hx hb hts hin10 tyX10 tyX10_ok nmX10 hown hK hP5 hD5 hS5 0 rfl rfl 11 (by decide) (hts (.fieldLink RX10 132 "OldestCoinsModel" "billMany" "I") (List.mem_of_getElem? (i := 4) rfl)) (fun _ h9 => h9) rfl (by decide +kernel) rfl rfl (Nat.le_of_ble_eq_true rfl) dX10_day_37 (fun H7 locs7 hP7 hD7 hS7 => ?_)
      have hP7 : va_P (dC, dI) vwCl (zc_10 a1 k1 (u1.1, u1.2.1, (u1.2.2.1.1, u1.2.2.2.2.1.2.2.2.1), u1.2.2.2.1, (u1.2.2.2.2.1.1, (0 : Int32), u1.2.2.2.2.1.2.2), u1.2.2.2.2.2)) H7 := hP7
      have hD7 : va_D A (zc_10 a1 k1 (u1.1, u1.2.1, (u1.2.2.1.1, u1.2.2.2.2.1.2.2.2.1), u1.2.2.2.1, (u1.2.2.2.2.1.1, (0 : Int32), u1.2.2.2.2.1.2.2), u1.2.2.2.2.2)) := hD7
      clear hP5 hD5 hS5
      refine lv_iconst (v := (0 : Int32)) hx hb dX10_day_40 (by decide) ?_
      refine lv_istore_n (lv' := [(2, .int (0 : Int32)), (0, .ref (a1 0)), (1, .int y1)]) hx hb dX10_day_41 rfl hl (by decide) rfl (fun ls8 hl8 => ?_)
      exact hB42 fu (0 : Int32) (u1.1, u1.2.1, (u1.2.2.1.1, u1.2.2.2.2.1.2.2.2.1), u1.2.2.2.1, (u1.2.2.2.2.1.1, (0 : Int32), u1.2.2.2.2.1.2.2), u1.2.2.2.2.2) H7 locs7 ls8 hP7 hD7 hS7 (lv_sub hl8 [1, 0] rfl) hR
    · replace hR := ifp_ hR c6
      refine lv_bipush (v := (-20 : Int32)) hx hb dX10_day_24 (by decide) ?_
      refine lv_aload_n hx hb dX10_day_26 rfl (lv_at hl 0 rfl) ?_
      refine va_get (D := (dC, dI)) (ci := 10) (v := .int u1.2.2.2.2.1.2.2.1) (C := RX10) (T := TX10) (N := 35) hx hb hts hin10 hown hK hP5 0 rfl rfl 16 (by decide) (hts (.fieldLink RX10 149 "OldestCoinsModel" "place" "I") (List.mem_of_getElem? (i := 2) rfl)) (fun _ h9 => h9) rfl dX10_day_27 ?_
      refine lv_isub hx hb dX10_day_30 ?_
      subst hQe
      exact W.iret (v := ((-20 : Int32) - u1.2.2.2.2.1.2.2.1)) hx hb hr (fun t ht hW => ⟨⟨((-20 : Int32) - u1.2.2.2.2.1.2.2.1), (u1.1, u1.2.1, u1.2.2.1, u1.2.2.2.1, (u1.2.2.2.2.1.1, (0 : Int32), u1.2.2.2.2.1.2.2), u1.2.2.2.2.2), rfl, (Option.some.inj hR).symm, by rw [ht]; exact hP5, va_K.moved hW.alike hK, hD5⟩, hS5.F ht⟩) hS5.2.2 dX10_day_31
  unfold rr_X10_day at hR
  refine lv_aload_n hx hb dX10_day_0 rfl (lv_at hl 0 rfl) ?_
  refine lv_iconst (v := (0 : Int32)) hx hb dX10_day_1 (by decide) ?_
  have hR0 := ob_ok hR
  clear hR
  obtain ⟨q1, hq1, hR⟩ := hR0
  refine va_calli (va_runV (As := [.int (0 : Int32)]) (rest := []) ⟨hx, hb, hml, hown, hts⟩ (cc_X10_readAll l dC dI fu a1 k1 s.heap.size (0 : Int32) s1 q1 hq1) (cwV 1 hts gX10_day_X10_readAll rfl rfl rfl (by decide +kernel) ⟨Nat.le_of_ble_eq_true rfl, Nat.le_of_ble_eq_true rfl⟩) (pf_v hK hP hD 10 0 rfl rfl rfl) rfl rfl hl.1 rfl (lv_room (Nat.le_of_ble_eq_true rfl)) dX10_day_2 ⟨Nat.le_refl _, Nat.le_refl _⟩) hS (fun q _ h => (fr_all hD hS hA) q h) (fr_all hD hS hA) (fun r1 v1 t1 H1 locs1 ht1 hvm1 hw1 hB1 hz1 hk1 hS1 => ?_)
  obtain rfl : r1 = q1.1 := (congrArg Prod.fst hw1).symm
  obtain rfl : v1 = q1.2 := (congrArg Prod.snd hw1).symm
  obtain ⟨hP1, hD1⟩ := jn_all hD hS hA ht1 hB1
  have hP1 : va_P (dC, dI) vwCl (zc_10 a1 k1 q1.2) H1 := hP1
  have hD1 : va_D A (zc_10 a1 k1 q1.2) := hD1
  clear hP hD hS hB1 hk1 hvm1 hz1 ht1
  refine lv_istore_n (lv' := [(1, .int q1.1), (0, .ref (a1 0))]) hx hb dX10_day_5 rfl hl (by decide) rfl (fun ls2 hl2 => ?_)
  refine lv_iload_n hx hb dX10_day_6 rfl (lv_at hl2 0 rfl) ?_
  refine lv_if_ne (tgt := 15) hx hb dX10_day_7 (by decide) (fun c3 => ?_) (fun c3 => ?_)
  · replace hR := ifn_ hR c3
    exact hB15 q1.1 q1.2 H1 locs1 ls2 hP1 hD1 hS1 (lv_sub hl2 [1, 0] rfl) hR
  · replace hR := ifp_ hR c3
    refine lv_aload_n hx hb dX10_day_10 rfl (lv_at hl2 1 rfl) ?_
    have hR0 := ob_ok hR
    clear hR
    obtain ⟨q4, hq4, hR⟩ := hR0
    refine va_calli (va_runV (As := []) (rest := []) ⟨hx, hb, hml, hown, hts⟩ (cc_X10_nextByte l dC dI fu a1 k1 H1.size q1.2 q4 hq4) (cwV 0 hts gX10_day_X10_nextByte rfl rfl rfl (by decide +kernel) ⟨Nat.le_of_ble_eq_true rfl, Nat.le_of_ble_eq_true rfl⟩) (pf_v hK hP1 hD1 10 0 rfl rfl rfl) rfl rfl hl2.1 rfl (lv_room (Nat.le_of_ble_eq_true rfl)) dX10_day_11 ⟨Nat.le_refl _, Nat.le_refl _⟩) hS1 (fun q _ h => (fr_all hD1 hS1 hA) q h) (fr_all hD1 hS1 hA) (fun r4 v4 t4 H4 locs4 ht4 hvm4 hw4 hB4 hz4 hk4 hS4 => ?_)
    obtain rfl : r4 = q4.1 := (congrArg Prod.fst hw4).symm
    obtain rfl : v4 = q4.2 := (congrArg Prod.snd hw4).symm
    obtain ⟨hP4, hD4⟩ := jn_all hD1 hS1 hA ht4 hB4
    have hP4 : va_P (dC, dI) vwCl (zc_10 a1 k1 q4.2) H4 := hP4
    have hD4 : va_D A (zc_10 a1 k1 q4.2) := hD4
    clear hP1 hD1 hS1 hB4 hk4 hvm4 hz4 ht4
    refine lv_pop hx hb dX10_day_14 rfl ?_
    exact hB15 q1.1 q4.2 H4 locs4 ls2 hP4 hD4 hS4 (lv_sub hl2 [1, 0] rfl) hR
def rr_X10_add (fu : Nat) (x1 : Int32) (x2 : Int32) (x3 : Int32) (x4 : Int32) (x5 : Int32) (s1 : ZT_10) : Option (ZT_10) := ck_ s1.1.2.2.2.2.2.1 40 (ck_ s1.1.2.2.2.2.2.1 40 (ck_ s1.1.2.2.2.2.2.1 40 (ck_ s1.1.2.2.2.2.2.1 40 (ck_ s1.1.2.2.2.2.2.1 40 (lt_ (α := Int32) (s1.1.2.2.2.2.2.1 + (1 : Int32)) (fun z6 => some (((upd s1.1.1 s1.1.2.2.2.2.2.1.toNatClampNeg x2), (upd s1.1.2.1 s1.1.2.2.2.2.2.1.toNatClampNeg x3), (upd s1.1.2.2.1 s1.1.2.2.2.2.2.1.toNatClampNeg x4), (upd s1.1.2.2.2.1 s1.1.2.2.2.2.2.1.toNatClampNeg x5), (upd s1.1.2.2.2.2.1 s1.1.2.2.2.2.2.1.toNatClampNeg x1), z6, s1.1.2.2.2.2.2.2), s1.2)))))))
set_option maxHeartbeats 4000000 in
set_option maxRecDepth 100000 in
theorem cc_X10_add (l : Launch) (dC : Nat → ClassId) (dI : Nat → Nat → Nat) (fu : Nat) (a1 : Nat → Nat) (k1 : Nat → ClassId) (sz : Nat) (x1 : Int32) (x2 : Int32) (x3 : Int32) (x4 : Int32) (x5 : Int32) (s1 : ZT_10) (res : ZT_10) (hR : rr_X10_add fu x1 x2 x3 x4 x5 s1 = some res) : Met l yX10_add wsX10_add ({ frames := 0, cells := 0, slots := 0, locals := 0 } : Room) (PcF [.ref (a1 0), .int x1, .int x2, .int x3, .int x4, .int x5] sz (dC, dI) (zc_10 a1 k1 s1) (zt_10 k1)) (va_Qv (fun u : ZT_10 => res = u) (fun u t => at3_ (dC, dI) (zc_10 a1 k1 u) (zt_10 k1) (va_A (zc_10 a1 k1 s1) sz) t) (va_A (zc_10 a1 k1 s1) sz)) 0 0 (va_A (zc_10 a1 k1 s1) sz) := by
  refine Met.ofW (cc := cX10_add) (maxL := 6) (ret := none) (by decide) rfl ?_
  intro p e s m args below meth c s₁ B hml hv
  obtain ⟨hav, hsz, hP, hK, hD0⟩ := hv
  have hx := B.exec
  have hb := B.bytes
  have hr := B.returns
  have hts := atoms_spec (ws := wsX10_add) B.pre
  have hown : s.vm.findClass RX10 = some m.cls := findClass_of_methodNamed B.named
  have hlocks := B.notSynchronized
  have hin10 : ∀ w ∈ wsX100, w ∈ wsX10_add := fun w h => List.mem_cons_of_mem _ (List.mem_append_right _ h)
  subst hsz
  have hD := hD0.self (sz := s.heap.size)
  clear hD0
  generalize hAe : va_A (zc_10 a1 k1 s1) s.heap.size = A at hD ⊢
  have hA : ∀ q : Nat, s.heap.size ≤ q → A q := fun q h => by rw [← hAe]; exact Or.inr h
  have hS : va_S A s.heap s.heap [] := va_S.rf
  generalize hQe : MQ below _ args s 0 0 A = Q
  rw [show entryFrame m args 6 = F0 m 0 ((lg_sl ([.ref (a1 0), .int x1, .int x2, .int x3, .int x4, .int x5]) ++ List.replicate (6 - (lg_sl ([.ref (a1 0), .int x1, .int x2, .int x3, .int x4, .int x5])).length) Slot.unset).toArray) [] from by rw [hav]; exact lg_entry_eq m _ _]
  have hl := lv_entry ([.ref (a1 0), .int x1, .int x2, .int x3, .int x4, .int x5]) (n := 6) (Nat.le_of_ble_eq_true rfl)
  generalize (lg_sl ([.ref (a1 0), .int x1, .int x2, .int x3, .int x4, .int x5]) ++ List.replicate (6 - (lg_sl ([.ref (a1 0), .int x1, .int x2, .int x3, .int x4, .int x5])).length) Slot.unset).toArray = ls at hl ⊢
  have hl : lv_has ls 6 [(0, .ref (a1 0)), (1, .int x1), (2, .int x2), (3, .int x3), (4, .int x4), (5, .int x5)] := hl
  unfold rr_X10_add at hR
  refine lv_aload_n hx hb dX10_add_0 rfl (lv_at hl 0 rfl) ?_
  refine va_get (D := (dC, dI)) (ci := 10) (v := .ref (a1 1)) (C := RX10) (T := TX10) (N := 35) hx hb hts hin10 hown hK hP 0 rfl rfl 0 (by decide) (hts (.fieldLink RX10 7 "OldestCoinsModel" "worths" "[I") (List.mem_of_getElem? (i := 1) rfl)) (fun _ h9 => h9) rfl dX10_add_1 ?_
  refine lv_aload_n hx hb dX10_add_4 rfl (lv_at hl 0 rfl) ?_
  refine va_get (D := (dC, dI)) (ci := 10) (v := .int s1.1.2.2.2.2.2.1) (C := RX10) (T := TX10) (N := 35) hx hb hts hin10 hown hK hP 0 rfl rfl 5 (by decide) (hts (.fieldLink RX10 74 "OldestCoinsModel" "many" "I") (List.mem_of_getElem? (i := 2) rfl)) (fun _ h9 => h9) rfl dX10_add_5 ?_
  refine lv_iload_n hx hb dX10_add_8 rfl (lv_at hl 2 rfl) ?_
  have i1 := (ck_ok hR).1
  replace hR := (ck_ok hR).2
  refine va_iast (f := s1.1.1) hx hb hK hP hD hS 1 0 rfl rfl i1 dX10_add_9 (fun H1 locs1 hP1 hD1 hS1 => ?_)
  have hP1 : va_P (dC, dI) vwCl (zc_10 a1 k1 (((upd s1.1.1 s1.1.2.2.2.2.2.1.toNatClampNeg x2), s1.1.2), s1.2)) H1 := hP1
  have hD1 : va_D A (zc_10 a1 k1 (((upd s1.1.1 s1.1.2.2.2.2.2.1.toNatClampNeg x2), s1.1.2), s1.2)) := hD1
  clear hP hD hS
  refine lv_aload_n hx hb dX10_add_10 rfl (lv_at hl 0 rfl) ?_
  refine va_get (D := (dC, dI)) (ci := 10) (v := .ref (a1 2)) (C := RX10) (T := TX10) (N := 35) hx hb hts hin10 hown hK hP1 0 rfl rfl 1 (by decide) (hts (.fieldLink RX10 13 "OldestCoinsModel" "years" "[I") (List.mem_of_getElem? (i := 3) rfl)) (fun _ h9 => h9) rfl dX10_add_11 ?_
  refine lv_aload_n hx hb dX10_add_14 rfl (lv_at hl 0 rfl) ?_
  refine va_get (D := (dC, dI)) (ci := 10) (v := .int s1.1.2.2.2.2.2.1) (C := RX10) (T := TX10) (N := 35) hx hb hts hin10 hown hK hP1 0 rfl rfl 5 (by decide) (hts (.fieldLink RX10 74 "OldestCoinsModel" "many" "I") (List.mem_of_getElem? (i := 2) rfl)) (fun _ h9 => h9) rfl dX10_add_15 ?_
  refine lv_iload_n hx hb dX10_add_18 rfl (lv_at hl 3 rfl) ?_
  have i2 := (ck_ok hR).1
  replace hR := (ck_ok hR).2
  refine va_iast (f := s1.1.2.1) hx hb hK hP1 hD1 hS1 2 1 rfl rfl i2 dX10_add_19 (fun H2 locs2 hP2 hD2 hS2 => ?_)
  have hP2 : va_P (dC, dI) vwCl (zc_10 a1 k1 (((upd s1.1.1 s1.1.2.2.2.2.2.1.toNatClampNeg x2), (upd s1.1.2.1 s1.1.2.2.2.2.2.1.toNatClampNeg x3), s1.1.2.2), s1.2)) H2 := hP2
  have hD2 : va_D A (zc_10 a1 k1 (((upd s1.1.1 s1.1.2.2.2.2.2.1.toNatClampNeg x2), (upd s1.1.2.1 s1.1.2.2.2.2.2.1.toNatClampNeg x3), s1.1.2.2), s1.2)) := hD2
  clear hP1 hD1 hS1
  refine lv_aload_n hx hb dX10_add_20 rfl (lv_at hl 0 rfl) ?_
  refine va_get (D := (dC, dI)) (ci := 10) (v := .ref (a1 3)) (C := RX10) (T := TX10) (N := 35) hx hb hts hin10 hown hK hP2 0 rfl rfl 2 (by decide) (hts (.fieldLink RX10 16 "OldestCoinsModel" "stamps" "[I") (List.mem_of_getElem? (i := 4) rfl)) (fun _ h9 => h9) rfl dX10_add_21 ?_
  refine lv_aload_n hx hb dX10_add_24 rfl (lv_at hl 0 rfl) ?_
  refine va_get (D := (dC, dI)) (ci := 10) (v := .int s1.1.2.2.2.2.2.1) (C := RX10) (T := TX10) (N := 35) hx hb hts hin10 hown hK hP2 0 rfl rfl 5 (by decide) (hts (.fieldLink RX10 74 "OldestCoinsModel" "many" "I") (List.mem_of_getElem? (i := 2) rfl)) (fun _ h9 => h9) rfl dX10_add_25 ?_
  refine lv_iload hx hb dX10_add_28 (lv_at hl 4 rfl) ?_
  have i3 := (ck_ok hR).1
  replace hR := (ck_ok hR).2
  refine va_iast (f := s1.1.2.2.1) hx hb hK hP2 hD2 hS2 3 2 rfl rfl i3 dX10_add_30 (fun H3 locs3 hP3 hD3 hS3 => ?_)
  have hP3 : va_P (dC, dI) vwCl (zc_10 a1 k1 (((upd s1.1.1 s1.1.2.2.2.2.2.1.toNatClampNeg x2), (upd s1.1.2.1 s1.1.2.2.2.2.2.1.toNatClampNeg x3), (upd s1.1.2.2.1 s1.1.2.2.2.2.2.1.toNatClampNeg x4), s1.1.2.2.2), s1.2)) H3 := hP3
  have hD3 : va_D A (zc_10 a1 k1 (((upd s1.1.1 s1.1.2.2.2.2.2.1.toNatClampNeg x2), (upd s1.1.2.1 s1.1.2.2.2.2.2.1.toNatClampNeg x3), (upd s1.1.2.2.1 s1.1.2.2.2.2.2.1.toNatClampNeg x4), s1.1.2.2.2), s1.2)) := hD3
  clear hP2 hD2 hS2
  refine lv_aload_n hx hb dX10_add_31 rfl (lv_at hl 0 rfl) ?_
  refine va_get (D := (dC, dI)) (ci := 10) (v := .ref (a1 4)) (C := RX10) (T := TX10) (N := 35) hx hb hts hin10 hown hK hP3 0 rfl rfl 3 (by decide) (hts (.fieldLink RX10 19 "OldestCoinsModel" "kinds" "[I") (List.mem_of_getElem? (i := 5) rfl)) (fun _ h9 => h9) rfl dX10_add_32 ?_
  refine lv_aload_n hx hb dX10_add_35 rfl (lv_at hl 0 rfl) ?_
  refine va_get (D := (dC, dI)) (ci := 10) (v := .int s1.1.2.2.2.2.2.1) (C := RX10) (T := TX10) (N := 35) hx hb hts hin10 hown hK hP3 0 rfl rfl 5 (by decide) (hts (.fieldLink RX10 74 "OldestCoinsModel" "many" "I") (List.mem_of_getElem? (i := 2) rfl)) (fun _ h9 => h9) rfl dX10_add_36 ?_
  refine lv_iload hx hb dX10_add_39 (lv_at hl 5 rfl) ?_
  have i4 := (ck_ok hR).1
  replace hR := (ck_ok hR).2
  refine va_iast (f := s1.1.2.2.2.1) hx hb hK hP3 hD3 hS3 4 3 rfl rfl i4 dX10_add_41 (fun H4 locs4 hP4 hD4 hS4 => ?_)
  have hP4 : va_P (dC, dI) vwCl (zc_10 a1 k1 (((upd s1.1.1 s1.1.2.2.2.2.2.1.toNatClampNeg x2), (upd s1.1.2.1 s1.1.2.2.2.2.2.1.toNatClampNeg x3), (upd s1.1.2.2.1 s1.1.2.2.2.2.2.1.toNatClampNeg x4), (upd s1.1.2.2.2.1 s1.1.2.2.2.2.2.1.toNatClampNeg x5), s1.1.2.2.2.2), s1.2)) H4 := hP4
  have hD4 : va_D A (zc_10 a1 k1 (((upd s1.1.1 s1.1.2.2.2.2.2.1.toNatClampNeg x2), (upd s1.1.2.1 s1.1.2.2.2.2.2.1.toNatClampNeg x3), (upd s1.1.2.2.1 s1.1.2.2.2.2.2.1.toNatClampNeg x4), (upd s1.1.2.2.2.1 s1.1.2.2.2.2.2.1.toNatClampNeg x5), s1.1.2.2.2.2), s1.2)) := hD4
  clear hP3 hD3 hS3
  refine lv_aload_n hx hb dX10_add_42 rfl (lv_at hl 0 rfl) ?_
  refine va_get (D := (dC, dI)) (ci := 10) (v := .ref (a1 5)) (C := RX10) (T := TX10) (N := 35) hx hb hts hin10 hown hK hP4 0 rfl rfl 4 (by decide) (hts (.fieldLink RX10 22 "OldestCoinsModel" "whose" "[I") (List.mem_of_getElem? (i := 6) rfl)) (fun _ h9 => h9) rfl dX10_add_43 ?_
  refine lv_aload_n hx hb dX10_add_46 rfl (lv_at hl 0 rfl) ?_
  refine va_get (D := (dC, dI)) (ci := 10) (v := .int s1.1.2.2.2.2.2.1) (C := RX10) (T := TX10) (N := 35) hx hb hts hin10 hown hK hP4 0 rfl rfl 5 (by decide) (hts (.fieldLink RX10 74 "OldestCoinsModel" "many" "I") (List.mem_of_getElem? (i := 2) rfl)) (fun _ h9 => h9) rfl dX10_add_47 ?_
  refine lv_iload_n hx hb dX10_add_50 rfl (lv_at hl 1 rfl) ?_
  have i5 := (ck_ok hR).1
  replace hR := (ck_ok hR).2
  refine va_iast (f := s1.1.2.2.2.2.1) hx hb hK hP4 hD4 hS4 5 4 rfl rfl i5 dX10_add_51 (fun H5 locs5 hP5 hD5 hS5 => ?_)
  have hP5 : va_P (dC, dI) vwCl (zc_10 a1 k1 (((upd s1.1.1 s1.1.2.2.2.2.2.1.toNatClampNeg x2), (upd s1.1.2.1 s1.1.2.2.2.2.2.1.toNatClampNeg x3), (upd s1.1.2.2.1 s1.1.2.2.2.2.2.1.toNatClampNeg x4), (upd s1.1.2.2.2.1 s1.1.2.2.2.2.2.1.toNatClampNeg x5), (upd s1.1.2.2.2.2.1 s1.1.2.2.2.2.2.1.toNatClampNeg x1), s1.1.2.2.2.2.2), s1.2)) H5 := hP5
  have hD5 : va_D A (zc_10 a1 k1 (((upd s1.1.1 s1.1.2.2.2.2.2.1.toNatClampNeg x2), (upd s1.1.2.1 s1.1.2.2.2.2.2.1.toNatClampNeg x3), (upd s1.1.2.2.1 s1.1.2.2.2.2.2.1.toNatClampNeg x4), (upd s1.1.2.2.2.1 s1.1.2.2.2.2.2.1.toNatClampNeg x5), (upd s1.1.2.2.2.2.1 s1.1.2.2.2.2.2.1.toNatClampNeg x1), s1.1.2.2.2.2.2), s1.2)) := hD5
  clear hP4 hD4 hS4
  refine lv_aload_n hx hb dX10_add_52 rfl (lv_at hl 0 rfl) ?_
  refine lv_dup hx hb dX10_add_53 rfl ?_
  refine va_get (D := (dC, dI)) (ci := 10) (v := .int s1.1.2.2.2.2.2.1) (C := RX10) (T := TX10) (N := 35) hx hb hts hin10 hown hK hP5 0 rfl rfl 5 (by decide) (hts (.fieldLink RX10 74 "OldestCoinsModel" "many" "I") (List.mem_of_getElem? (i := 2) rfl)) (fun _ h9 => h9) rfl dX10_add_54 ?_
  refine lv_iconst (v := (1 : Int32)) hx hb dX10_add_57 (by decide) ?_
  refine lv_iadd hx hb dX10_add_58 ?_
  refine lv_topi (fun z6 ez6 => ?_)
  replace hR := lt_ok hR ez6
  refine va_put (D := (dC, dI)) (ci := 10) (v := .int z6) (ty := .int) (C := RX10) (T := TX10) (N := 35) hx hb hts hin10 tyX10 tyX10_ok nmX10 hown hK hP5 hD5 hS5 0 rfl rfl 5 (by decide) (hts (.fieldLink RX10 74 "OldestCoinsModel" "many" "I") (List.mem_of_getElem? (i := 2) rfl)) (fun _ h9 => h9) rfl (by decide +kernel) rfl rfl (Nat.le_of_ble_eq_true rfl) dX10_add_59 (fun H7 locs7 hP7 hD7 hS7 => ?_)
  have hP7 : va_P (dC, dI) vwCl (zc_10 a1 k1 (((upd s1.1.1 s1.1.2.2.2.2.2.1.toNatClampNeg x2), (upd s1.1.2.1 s1.1.2.2.2.2.2.1.toNatClampNeg x3), (upd s1.1.2.2.1 s1.1.2.2.2.2.2.1.toNatClampNeg x4), (upd s1.1.2.2.2.1 s1.1.2.2.2.2.2.1.toNatClampNeg x5), (upd s1.1.2.2.2.2.1 s1.1.2.2.2.2.2.1.toNatClampNeg x1), z6, s1.1.2.2.2.2.2.2), s1.2)) H7 := hP7
  have hD7 : va_D A (zc_10 a1 k1 (((upd s1.1.1 s1.1.2.2.2.2.2.1.toNatClampNeg x2), (upd s1.1.2.1 s1.1.2.2.2.2.2.1.toNatClampNeg x3), (upd s1.1.2.2.1 s1.1.2.2.2.2.2.1.toNatClampNeg x4), (upd s1.1.2.2.2.1 s1.1.2.2.2.2.2.1.toNatClampNeg x5), (upd s1.1.2.2.2.2.1 s1.1.2.2.2.2.2.1.toNatClampNeg x1), z6, s1.1.2.2.2.2.2.2), s1.2)) := hD7
  clear hP5 hD5 hS5
  subst hQe
  exact W.vret hx hb hr (fun t ht hW => ⟨⟨(((upd s1.1.1 s1.1.2.2.2.2.2.1.toNatClampNeg x2), (upd s1.1.2.1 s1.1.2.2.2.2.2.1.toNatClampNeg x3), (upd s1.1.2.2.1 s1.1.2.2.2.2.2.1.toNatClampNeg x4), (upd s1.1.2.2.2.1 s1.1.2.2.2.2.2.1.toNatClampNeg x5), (upd s1.1.2.2.2.2.1 s1.1.2.2.2.2.2.1.toNatClampNeg x1), z6, s1.1.2.2.2.2.2.2), s1.2), rfl, (Option.some.inj hR).symm, by rw [ht]; exact hP7, va_K.moved hW.alike hK, hD7⟩, hS7.F ht⟩) hS7.2.2 dX10_add_62
def rr_X10_purse_60_b (fu : Nat) (rec60 : Int32 → Int32 → ZT_10 → Option (Int32 × ZT_10)) (y1 : Int32) (y3 : Int32) (u1 : ZT_10) : Option (Int32 × ZT_10) := (if u1.2.2.2.2.1.2.2.2.1 ≤ y3 then some (u1.2.2.2.2.1.2.2.2.1, u1) else ck_ ((4 : Int32) * y3) 72 (ck_ (((4 : Int32) * y3) + (1 : Int32)) 72 (ck_ (((4 : Int32) * y3) + (2 : Int32)) 72 (ck_ (((4 : Int32) * y3) + (3 : Int32)) 72 ((rr_X10_add fu y1 (u1.2.2.2.2.1.2.2.2.2 ((4 : Int32) * y3).toNatClampNeg) (u1.2.2.2.2.1.2.2.2.2 (((4 : Int32) * y3) + (1 : Int32)).toNatClampNeg) (u1.2.2.2.2.1.2.2.2.2 (((4 : Int32) * y3) + (2 : Int32)).toNatClampNeg) (u1.2.2.2.2.1.2.2.2.2 (((4 : Int32) * y3) + (3 : Int32)).toNatClampNeg) u1).bind (fun q16 => lt_ (α := Int32) (y3 + (1 : Int32)) (fun z17 => rec60 y1 z17 q16)))))))
def rr_X10_purse_60 (fu : Nat) (n : Nat) : Int32 → Int32 → ZT_10 → Option (Int32 × ZT_10) := lp_ (fun _ _ _ => none) (rr_X10_purse_60_b fu) n
def rr_X10_purse_24 (fu : Nat) (y1 : Int32) (y2 : Int32) (u1 : ZT_10) : Option (Int32 × ZT_10) := (if y2 = (0 : Int32) then some (((-20 : Int32) - u1.2.2.2.2.1.2.2.1), (u1.1, u1.2.1, u1.2.2.1, u1.2.2.2.1, (u1.2.2.2.2.1.1, (0 : Int32), u1.2.2.2.2.1.2.2), u1.2.2.2.2.2)) else (if (u1.1.2.2.2.2.2.1 + u1.2.2.2.2.1.2.2.2.1) ≤ (40 : Int32) then rr_X10_purse_60 fu fu y1 (0 : Int32) (u1.1, u1.2.1, u1.2.2.1, u1.2.2.2.1, (u1.2.2.2.2.1.1, (0 : Int32), u1.2.2.2.2.1.2.2), u1.2.2.2.2.2) else some ((-3 : Int32), (u1.1, u1.2.1, u1.2.2.1, u1.2.2.2.1, (u1.2.2.2.2.1.1, (0 : Int32), u1.2.2.2.2.1.2.2), u1.2.2.2.2.2))))
def rr_X10_purse (fu : Nat) (x1 : Int32) (s1 : ZT_10) : Option (Int32 × ZT_10) := (rr_X10_isHolder fu x1).bind (fun q1 => (if q1 = (0 : Int32) then some ((-1 : Int32), s1) else (rr_X10_readAll fu (1 : Int32) s1).bind (fun q3 => (if q3.1 = (0 : Int32) then (rr_X10_nextByte fu q3.2).bind (fun q6 => rr_X10_purse_24 fu x1 q3.1 q6.2) else rr_X10_purse_24 fu x1 q3.1 q3.2))))
set_option maxHeartbeats 4000000 in
set_option maxRecDepth 100000 in
theorem cc_X10_purse (l : Launch) (dC : Nat → ClassId) (dI : Nat → Nat → Nat) (fu : Nat) (a1 : Nat → Nat) (k1 : Nat → ClassId) (sz : Nat) (x1 : Int32) (s1 : ZT_10) (res : Int32 × ZT_10) (hR : rr_X10_purse fu x1 s1 = some res) : Met l yX10_purse wsX10_purse ({ frames := 4, cells := 0, slots := 0, locals := 96 } : Room) (PcF [.ref (a1 0), .int x1] sz (dC, dI) (zc_10 a1 k1 s1) (zt_10 k1)) (va_Qi (fun (r : Int32) (u : ZT_10) => res = (r, u)) (fun u t => at3_ (dC, dI) (zc_10 a1 k1 u) (zt_10 k1) (va_A (zc_10 a1 k1 s1) sz) t) (va_A (zc_10 a1 k1 s1) sz)) 0 0 (va_A (zc_10 a1 k1 s1) sz) := by
  refine Met.ofW (cc := cX10_purse) (maxL := 4) (ret := (some .int)) (by decide) rfl ?_
  intro p e s m args below meth c s₁ B hml hv
  obtain ⟨hav, hsz, hP, hK, hD0⟩ := hv
  have hx := B.exec
  have hb := B.bytes
  have hr := B.returns
  have hts := atoms_spec (ws := wsX10_purse) B.pre
  have hown : s.vm.findClass RX10 = some m.cls := findClass_of_methodNamed B.named
  have hlocks := B.notSynchronized
  have hin10 : ∀ w ∈ wsX100, w ∈ wsX10_purse := fun w h => List.mem_cons_of_mem _ (List.mem_append_right _ h)
  subst hsz
  have hD := hD0.self (sz := s.heap.size)
  clear hD0
  generalize hAe : va_A (zc_10 a1 k1 s1) s.heap.size = A at hD ⊢
  have hA : ∀ q : Nat, s.heap.size ≤ q → A q := fun q h => by rw [← hAe]; exact Or.inr h
  have hS : va_S A s.heap s.heap [] := va_S.rf
  generalize hQe : MQ below _ args s 0 0 A = Q
  rw [show entryFrame m args 4 = F0 m 0 ((lg_sl ([.ref (a1 0), .int x1]) ++ List.replicate (4 - (lg_sl ([.ref (a1 0), .int x1])).length) Slot.unset).toArray) [] from by rw [hav]; exact lg_entry_eq m _ _]
  have hl := lv_entry ([.ref (a1 0), .int x1]) (n := 4) (Nat.le_of_ble_eq_true rfl)
  generalize (lg_sl ([.ref (a1 0), .int x1]) ++ List.replicate (4 - (lg_sl ([.ref (a1 0), .int x1])).length) Slot.unset).toArray = ls at hl ⊢
  have hl : lv_has ls 4 [(0, .ref (a1 0)), (1, .int x1)] := hl
  have hB60 : ∀ (n : Nat), ∀ (y1 : Int32) (y3 : Int32) (u1 : ZT_10) (H : Heap) (locs : List Loc) (ls : Array Slot), va_P (dC, dI) vwCl (zc_10 a1 k1 u1) H → va_D A (zc_10 a1 k1 u1) → va_S A s.heap H locs → lv_has ls 4 [(0, .ref (a1 0)), (1, .int y1), (3, .int y3)] → rr_X10_purse_60 fu n y1 y3 u1 = some res → W p l e ({ frames := 4, cells := 0, slots := 0, locals := 96 } : Room) s m args below meth c H locs 0 0 Q (F0 m 60 ls []) := by
    intro  n
    induction n with
    | zero => intro y1 y3 u1 H locs ls hP hD hS hl hR; exact absurd hR (by intro h; cases h)
    | succ n ih =>
      intro y1 y3 u1 H locs ls hP hD hS hl hR
      replace hR : rr_X10_purse_60_b fu (rr_X10_purse_60 fu n) y1 y3 u1 = some res := hR
      unfold rr_X10_purse_60_b at hR
      refine lv_iload_n hx hb dX10_purse_60 rfl (lv_at hl 2 rfl) ?_
      refine lv_aload_n hx hb dX10_purse_61 rfl (lv_at hl 0 rfl) ?_
      refine va_get (D := (dC, dI)) (ci := 10) (v := .int u1.2.2.2.2.1.2.2.2.1) (C := RX10) (T := TX10) (N := 35) hx hb hts hin10 hown hK hP 0 rfl rfl 17 (by decide) (hts (.fieldLink RX10 178 "OldestCoinsModel" "reads" "I") (List.mem_of_getElem? (i := 4) rfl)) (fun _ h9 => h9) rfl dX10_purse_62 ?_
      refine lv_icmp_ge (tgt := 117) hx hb dX10_purse_65 (by decide) (fun c11 => ?_) (fun c11 => ?_)
      · replace hR := ifp_ hR c11
        refine lv_aload_n hx hb dX10_purse_117 rfl (lv_at hl 0 rfl) ?_
        refine va_get (D := (dC, dI)) (ci := 10) (v := .int u1.2.2.2.2.1.2.2.2.1) (C := RX10) (T := TX10) (N := 35) hx hb hts hin10 hown hK hP 0 rfl rfl 17 (by decide) (hts (.fieldLink RX10 178 "OldestCoinsModel" "reads" "I") (List.mem_of_getElem? (i := 4) rfl)) (fun _ h9 => h9) rfl dX10_purse_118 ?_
        subst hQe
        exact W.iret (v := u1.2.2.2.2.1.2.2.2.1) hx hb hr (fun t ht hW => ⟨⟨u1.2.2.2.2.1.2.2.2.1, u1, rfl, (Option.some.inj hR).symm, by rw [ht]; exact hP, va_K.moved hW.alike hK, hD⟩, hS.F ht⟩) hS.2.2 dX10_purse_121
      · replace hR := ifn_ hR c11
        refine lv_aload_n hx hb dX10_purse_68 rfl (lv_at hl 0 rfl) ?_
        refine lv_iload_n hx hb dX10_purse_69 rfl (lv_at hl 1 rfl) ?_
        refine lv_aload_n hx hb dX10_purse_70 rfl (lv_at hl 0 rfl) ?_
        refine va_get (D := (dC, dI)) (ci := 10) (v := .ref (a1 11)) (C := RX10) (T := TX10) (N := 35) hx hb hts hin10 hown hK hP 0 rfl rfl 18 (by decide) (hts (.fieldLink RX10 40 "OldestCoinsModel" "read" "[I") (List.mem_of_getElem? (i := 5) rfl)) (fun _ h9 => h9) rfl dX10_purse_71 ?_
        refine lv_iconst (v := (4 : Int32)) hx hb dX10_purse_74 (by decide) ?_
        refine lv_iload_n hx hb dX10_purse_75 rfl (lv_at hl 2 rfl) ?_
        refine lv_imul hx hb dX10_purse_76 ?_
        have i12 := (ck_ok hR).1
        replace hR := (ck_ok hR).2
        refine va_iald (f := u1.2.2.2.2.1.2.2.2.2) hx hb hK hP 11 10 rfl rfl i12 dX10_purse_77 ?_
        refine lv_aload_n hx hb dX10_purse_78 rfl (lv_at hl 0 rfl) ?_
        refine va_get (D := (dC, dI)) (ci := 10) (v := .ref (a1 11)) (C := RX10) (T := TX10) (N := 35) hx hb hts hin10 hown hK hP 0 rfl rfl 18 (by decide) (hts (.fieldLink RX10 40 "OldestCoinsModel" "read" "[I") (List.mem_of_getElem? (i := 5) rfl)) (fun _ h9 => h9) rfl dX10_purse_79 ?_
        refine lv_iconst (v := (4 : Int32)) hx hb dX10_purse_82 (by decide) ?_
        refine lv_iload_n hx hb dX10_purse_83 rfl (lv_at hl 2 rfl) ?_
        refine lv_imul hx hb dX10_purse_84 ?_
        refine lv_iconst (v := (1 : Int32)) hx hb dX10_purse_85 (by decide) ?_
        refine lv_iadd hx hb dX10_purse_86 ?_
        have i13 := (ck_ok hR).1
        replace hR := (ck_ok hR).2
        refine va_iald (f := u1.2.2.2.2.1.2.2.2.2) hx hb hK hP 11 10 rfl rfl i13 dX10_purse_87 ?_
        refine lv_aload_n hx hb dX10_purse_88 rfl (lv_at hl 0 rfl) ?_
        refine va_get (D := (dC, dI)) (ci := 10) (v := .ref (a1 11)) (C := RX10) (T := TX10) (N := 35) hx hb hts hin10 hown hK hP 0 rfl rfl 18 (by decide) (hts (.fieldLink RX10 40 "OldestCoinsModel" "read" "[I") (List.mem_of_getElem? (i := 5) rfl)) (fun _ h9 => h9) rfl dX10_purse_89 ?_
        refine lv_iconst (v := (4 : Int32)) hx hb dX10_purse_92 (by decide) ?_
        refine lv_iload_n hx hb dX10_purse_93 rfl (lv_at hl 2 rfl) ?_
        refine lv_imul hx hb dX10_purse_94 ?_
        refine lv_iconst (v := (2 : Int32)) hx hb dX10_purse_95 (by decide) ?_
        refine lv_iadd hx hb dX10_purse_96 ?_
        have i14 := (ck_ok hR).1
        replace hR := (ck_ok hR).2
        refine va_iald (f := u1.2.2.2.2.1.2.2.2.2) hx hb hK hP 11 10 rfl rfl i14 dX10_purse_97 ?_
        refine lv_aload_n hx hb dX10_purse_98 rfl (lv_at hl 0 rfl) ?_
        refine va_get (D := (dC, dI)) (ci := 10) (v := .ref (a1 11)) (C := RX10) (T := TX10) (N := 35) hx hb hts hin10 hown hK hP 0 rfl rfl 18 (by decide) (hts (.fieldLink RX10 40 "OldestCoinsModel" "read" "[I") (List.mem_of_getElem? (i := 5) rfl)) (fun _ h9 => h9) rfl dX10_purse_99 ?_
        refine lv_iconst (v := (4 : Int32)) hx hb dX10_purse_102 (by decide) ?_
        refine lv_iload_n hx hb dX10_purse_103 rfl (lv_at hl 2 rfl) ?_
        refine lv_imul hx hb dX10_purse_104 ?_
        refine lv_iconst (v := (3 : Int32)) hx hb dX10_purse_105 (by decide) ?_
        refine lv_iadd hx hb dX10_purse_106 ?_
        have i15 := (ck_ok hR).1
        replace hR := (ck_ok hR).2
        refine va_iald (f := u1.2.2.2.2.1.2.2.2.2) hx hb hK hP 11 10 rfl rfl i15 dX10_purse_107 ?_
        have hR0 := ob_ok hR
        clear hR
        obtain ⟨q16, hq16, hR⟩ := hR0
        refine va_callv (va_runV (As := [.int y1, .int (u1.2.2.2.2.1.2.2.2.2 ((4 : Int32) * y3).toNatClampNeg), .int (u1.2.2.2.2.1.2.2.2.2 (((4 : Int32) * y3) + (1 : Int32)).toNatClampNeg), .int (u1.2.2.2.2.1.2.2.2.2 (((4 : Int32) * y3) + (2 : Int32)).toNatClampNeg), .int (u1.2.2.2.2.1.2.2.2.2 (((4 : Int32) * y3) + (3 : Int32)).toNatClampNeg)]) (rest := []) ⟨hx, hb, hml, hown, hts⟩ (cc_X10_add l dC dI fu a1 k1 H.size y1 (u1.2.2.2.2.1.2.2.2.2 ((4 : Int32) * y3).toNatClampNeg) (u1.2.2.2.2.1.2.2.2.2 (((4 : Int32) * y3) + (1 : Int32)).toNatClampNeg) (u1.2.2.2.2.1.2.2.2.2 (((4 : Int32) * y3) + (2 : Int32)).toNatClampNeg) (u1.2.2.2.2.1.2.2.2.2 (((4 : Int32) * y3) + (3 : Int32)).toNatClampNeg) u1 q16 hq16) (cwV 5 hts gX10_purse_X10_add rfl rfl rfl (by decide +kernel) ⟨Nat.le_of_ble_eq_true rfl, Nat.le_of_ble_eq_true rfl⟩) (pf_v hK hP hD 10 0 rfl rfl rfl) rfl rfl hl.1 rfl (lv_room (Nat.le_of_ble_eq_true rfl)) dX10_purse_108 ⟨Nat.le_refl _, Nat.le_refl _⟩) hS (fun q _ h => (fr_all hD hS hA) q h) (fr_all hD hS hA) (fun v16 t16 H16 locs16 ht16 hvm16 hw16 hB16 hz16 hk16 hS16 => ?_)
        subst hw16
        obtain ⟨hP16, hD16⟩ := jn_all hD hS hA ht16 hB16
        have hP16 : va_P (dC, dI) vwCl (zc_10 a1 k1 q16) H16 := hP16
        have hD16 : va_D A (zc_10 a1 k1 q16) := hD16
        clear hP hD hS hB16 hk16 hvm16 hz16 ht16
        obtain ⟨z17, ez17⟩ : ∃ y : Int32, y = (y3 + (1 : Int32)) := ⟨_, rfl⟩
        replace hR := lt_ok hR ez17
        refine lv_iinc (v := z17) (lv' := [(3, .int z17), (0, .ref (a1 0)), (1, .int y1)]) hx hb dX10_purse_111 hl (k := 2) rfl (by rw [ez17]; rfl) (by decide) rfl (fun ls17 hl17 => ?_)
        refine lv_goto (tgt := 60) hx hb dX10_purse_114 (by decide) ?_
        exact ih y1 z17 q16 H16 locs16 ls17 hP16 hD16 hS16 (lv_sub hl17 [1, 2, 0] rfl) hR
  have hB24 : ∀ (y1 : Int32) (y2 : Int32) (u1 : ZT_10) (H : Heap) (locs : List Loc) (ls : Array Slot), va_P (dC, dI) vwCl (zc_10 a1 k1 u1) H → va_D A (zc_10 a1 k1 u1) → va_S A s.heap H locs → lv_has ls 4 [(0, .ref (a1 0)), (1, .int y1), (2, .int y2)] → rr_X10_purse_24 fu y1 y2 u1 = some res → W p l e ({ frames := 4, cells := 0, slots := 0, locals := 96 } : Room) s m args below meth c H locs 0 0 Q (F0 m 24 ls []) := by
    intro  y1 y2 u1 H locs ls hP hD hS hl hR
    unfold rr_X10_purse_24 at hR
    refine lv_aload_n hx hb dX10_purse_24 rfl (lv_at hl 0 rfl) ?_
    refine lv_iconst (v := (0 : Int32)) hx hb dX10_purse_25 (by decide) ?_
    refine va_put (D := (dC, dI)) (ci := 10) (v := .int (0 : Int32)) (ty := .int) (C := RX10) (T := TX10) (N := 35) hx hb hts hin10 tyX10 tyX10_ok nmX10 hown hK hP hD hS 0 rfl rfl 15 (by decide) (hts (.fieldLink RX10 146 "OldestCoinsModel" "taped" "I") (List.mem_of_getElem? (i := 1) rfl)) (fun _ h9 => h9) rfl (by decide +kernel) rfl rfl (Nat.le_of_ble_eq_true rfl) dX10_purse_26 (fun H7 locs7 hP7 hD7 hS7 => ?_)
    have hP7 : va_P (dC, dI) vwCl (zc_10 a1 k1 (u1.1, u1.2.1, u1.2.2.1, u1.2.2.2.1, (u1.2.2.2.2.1.1, (0 : Int32), u1.2.2.2.2.1.2.2), u1.2.2.2.2.2)) H7 := hP7
    have hD7 : va_D A (zc_10 a1 k1 (u1.1, u1.2.1, u1.2.2.1, u1.2.2.2.1, (u1.2.2.2.2.1.1, (0 : Int32), u1.2.2.2.2.1.2.2), u1.2.2.2.2.2)) := hD7
    clear hP hD hS
    refine lv_iload_n hx hb dX10_purse_29 rfl (lv_at hl 2 rfl) ?_
    refine lv_if_ne (tgt := 41) hx hb dX10_purse_30 (by decide) (fun c8 => ?_) (fun c8 => ?_)
    · replace hR := ifn_ hR c8
      refine lv_aload_n hx hb dX10_purse_41 rfl (lv_at hl 0 rfl) ?_
      refine va_get (D := (dC, dI)) (ci := 10) (v := .int u1.1.2.2.2.2.2.1) (C := RX10) (T := TX10) (N := 35) hx hb hts hin10 hown hK hP7 0 rfl rfl 5 (by decide) (hts (.fieldLink RX10 74 "OldestCoinsModel" "many" "I") (List.mem_of_getElem? (i := 3) rfl)) (fun _ h9 => h9) rfl dX10_purse_42 ?_
      refine lv_aload_n hx hb dX10_purse_45 rfl (lv_at hl 0 rfl) ?_
      refine va_get (D := (dC, dI)) (ci := 10) (v := .int u1.2.2.2.2.1.2.2.2.1) (C := RX10) (T := TX10) (N := 35) hx hb hts hin10 hown hK hP7 0 rfl rfl 17 (by decide) (hts (.fieldLink RX10 178 "OldestCoinsModel" "reads" "I") (List.mem_of_getElem? (i := 4) rfl)) (fun _ h9 => h9) rfl dX10_purse_46 ?_
      refine lv_iadd hx hb dX10_purse_49 ?_
      refine lv_bipush (v := (40 : Int32)) hx hb dX10_purse_50 (by decide) ?_
      refine lv_icmp_le (tgt := 58) hx hb dX10_purse_52 (by decide) (fun c9 => ?_) (fun c9 => ?_)
      · replace hR := ifp_ hR c9
        refine lv_iconst (v := (0 : Int32)) hx hb dX10_purse_58 (by decide) ?_
        refine lv_istore_n (lv' := [(3, .int (0 : Int32)), (0, .ref (a1 0)), (1, .int y1), (2, .int y2)]) hx hb dX10_purse_59 rfl hl (by decide) rfl (fun ls10 hl10 => ?_)
        exact hB60 fu y1 (0 : Int32) (u1.1, u1.2.1, u1.2.2.1, u1.2.2.2.1, (u1.2.2.2.2.1.1, (0 : Int32), u1.2.2.2.2.1.2.2), u1.2.2.2.2.2) H7 locs7 ls10 hP7 hD7 hS7 (lv_sub hl10 [1, 2, 0] rfl) hR
      · replace hR := ifn_ hR c9
        refine lv_bipush (v := (-3 : Int32)) hx hb dX10_purse_55 (by decide) ?_
        subst hQe
        exact W.iret (v := (-3 : Int32)) hx hb hr (fun t ht hW => ⟨⟨(-3 : Int32), (u1.1, u1.2.1, u1.2.2.1, u1.2.2.2.1, (u1.2.2.2.2.1.1, (0 : Int32), u1.2.2.2.2.1.2.2), u1.2.2.2.2.2), rfl, (Option.some.inj hR).symm, by rw [ht]; exact hP7, va_K.moved hW.alike hK, hD7⟩, hS7.F ht⟩) hS7.2.2 dX10_purse_57
    · replace hR := ifp_ hR c8
      refine lv_bipush (v := (-20 : Int32)) hx hb dX10_purse_33 (by decide) ?_
      refine lv_aload_n hx hb dX10_purse_35 rfl (lv_at hl 0 rfl) ?_
      refine va_get (D := (dC, dI)) (ci := 10) (v := .int u1.2.2.2.2.1.2.2.1) (C := RX10) (T := TX10) (N := 35) hx hb hts hin10 hown hK hP7 0 rfl rfl 16 (by decide) (hts (.fieldLink RX10 149 "OldestCoinsModel" "place" "I") (List.mem_of_getElem? (i := 2) rfl)) (fun _ h9 => h9) rfl dX10_purse_36 ?_
      refine lv_isub hx hb dX10_purse_39 ?_
      subst hQe
      exact W.iret (v := ((-20 : Int32) - u1.2.2.2.2.1.2.2.1)) hx hb hr (fun t ht hW => ⟨⟨((-20 : Int32) - u1.2.2.2.2.1.2.2.1), (u1.1, u1.2.1, u1.2.2.1, u1.2.2.2.1, (u1.2.2.2.2.1.1, (0 : Int32), u1.2.2.2.2.1.2.2), u1.2.2.2.2.2), rfl, (Option.some.inj hR).symm, by rw [ht]; exact hP7, va_K.moved hW.alike hK, hD7⟩, hS7.F ht⟩) hS7.2.2 dX10_purse_40
  unfold rr_X10_purse at hR
  refine lv_iload_n hx hb dX10_purse_0 rfl (lv_at hl 1 rfl) ?_
  have hR0 := ob_ok hR
  clear hR
  obtain ⟨q1, hq1, hR⟩ := hR0
  refine va_calli (va_runS (As := [.int x1]) (rest := []) ⟨hx, hb, hml, hown, hts⟩ (cc_X10_isHolder l dC dI fu s.heap.size x1 q1 hq1) (va_cwS 1 hts gX10_purse_X10_isHolder rfl rfl rfl (by decide +kernel) ⟨Nat.le_of_ble_eq_true rfl, Nat.le_of_ble_eq_true rfl⟩) (pf_s (nil_K hK) nil_P (nil_D (A := A))) rfl rfl hl.1 rfl (lv_room (Nat.le_of_ble_eq_true rfl)) dX10_purse_1 ⟨Nat.le_refl _, Nat.le_refl _⟩) hS (fun q _ h => (fr_none hS hA) q h) (fr_none hS hA) (fun r1 v1 t1 H1 locs1 ht1 hvm1 hw1 hB1 hz1 hk1 hS1 => ?_)
  subst hw1
  have hP1 := jn_none hP hk1
  have hD1 := hD
  have hP1 : va_P (dC, dI) vwCl (zc_10 a1 k1 s1) H1 := hP1
  have hD1 : va_D A (zc_10 a1 k1 s1) := hD1
  clear hP hD hS hB1 hk1 hvm1 hz1 ht1
  refine lv_if_ne (tgt := 9) hx hb dX10_purse_4 (by decide) (fun c2 => ?_) (fun c2 => ?_)
  · replace hR := ifn_ hR c2
    refine lv_aload_n hx hb dX10_purse_9 rfl (lv_at hl 0 rfl) ?_
    refine lv_iconst (v := (1 : Int32)) hx hb dX10_purse_10 (by decide) ?_
    have hR0 := ob_ok hR
    clear hR
    obtain ⟨q3, hq3, hR⟩ := hR0
    refine va_calli (va_runV (As := [.int (1 : Int32)]) (rest := []) ⟨hx, hb, hml, hown, hts⟩ (cc_X10_readAll l dC dI fu a1 k1 H1.size (1 : Int32) s1 q3 hq3) (cwV 1 hts gX10_purse_X10_readAll rfl rfl rfl (by decide +kernel) ⟨Nat.le_of_ble_eq_true rfl, Nat.le_of_ble_eq_true rfl⟩) (pf_v hK hP1 hD1 10 0 rfl rfl rfl) rfl rfl hl.1 rfl (lv_room (Nat.le_of_ble_eq_true rfl)) dX10_purse_11 ⟨Nat.le_refl _, Nat.le_refl _⟩) hS1 (fun q _ h => (fr_all hD1 hS1 hA) q h) (fr_all hD1 hS1 hA) (fun r3 v3 t3 H3 locs3 ht3 hvm3 hw3 hB3 hz3 hk3 hS3 => ?_)
    obtain rfl : r3 = q3.1 := (congrArg Prod.fst hw3).symm
    obtain rfl : v3 = q3.2 := (congrArg Prod.snd hw3).symm
    obtain ⟨hP3, hD3⟩ := jn_all hD1 hS1 hA ht3 hB3
    have hP3 : va_P (dC, dI) vwCl (zc_10 a1 k1 q3.2) H3 := hP3
    have hD3 : va_D A (zc_10 a1 k1 q3.2) := hD3
    clear hP1 hD1 hS1 hB3 hk3 hvm3 hz3 ht3
    refine lv_istore_n (lv' := [(2, .int q3.1), (0, .ref (a1 0)), (1, .int x1)]) hx hb dX10_purse_14 rfl hl (by decide) rfl (fun ls4 hl4 => ?_)
    refine lv_iload_n hx hb dX10_purse_15 rfl (lv_at hl4 0 rfl) ?_
    refine lv_if_ne (tgt := 24) hx hb dX10_purse_16 (by decide) (fun c5 => ?_) (fun c5 => ?_)
    · replace hR := ifn_ hR c5
      exact hB24 x1 q3.1 q3.2 H3 locs3 ls4 hP3 hD3 hS3 (lv_sub hl4 [1, 2, 0] rfl) hR
    · replace hR := ifp_ hR c5
      refine lv_aload_n hx hb dX10_purse_19 rfl (lv_at hl4 1 rfl) ?_
      have hR0 := ob_ok hR
      clear hR
      obtain ⟨q6, hq6, hR⟩ := hR0
      refine va_calli (va_runV (As := []) (rest := []) ⟨hx, hb, hml, hown, hts⟩ (cc_X10_nextByte l dC dI fu a1 k1 H3.size q3.2 q6 hq6) (cwV 0 hts gX10_purse_X10_nextByte rfl rfl rfl (by decide +kernel) ⟨Nat.le_of_ble_eq_true rfl, Nat.le_of_ble_eq_true rfl⟩) (pf_v hK hP3 hD3 10 0 rfl rfl rfl) rfl rfl hl4.1 rfl (lv_room (Nat.le_of_ble_eq_true rfl)) dX10_purse_20 ⟨Nat.le_refl _, Nat.le_refl _⟩) hS3 (fun q _ h => (fr_all hD3 hS3 hA) q h) (fr_all hD3 hS3 hA) (fun r6 v6 t6 H6 locs6 ht6 hvm6 hw6 hB6 hz6 hk6 hS6 => ?_)
      obtain rfl : r6 = q6.1 := (congrArg Prod.fst hw6).symm
      obtain rfl : v6 = q6.2 := (congrArg Prod.snd hw6).symm
      obtain ⟨hP6, hD6⟩ := jn_all hD3 hS3 hA ht6 hB6
      have hP6 : va_P (dC, dI) vwCl (zc_10 a1 k1 q6.2) H6 := hP6
      have hD6 : va_D A (zc_10 a1 k1 q6.2) := hD6
      clear hP3 hD3 hS3 hB6 hk6 hvm6 hz6 ht6
      refine lv_pop hx hb dX10_purse_23 rfl ?_
      exact hB24 x1 q3.1 q6.2 H6 locs6 ls4 hP6 hD6 hS6 (lv_sub hl4 [1, 2, 0] rfl) hR
  · replace hR := ifp_ hR c2
    refine lv_iconst (v := (-1 : Int32)) hx hb dX10_purse_7 (by decide) ?_
    subst hQe
    exact W.iret (v := (-1 : Int32)) hx hb hr (fun t ht hW => ⟨⟨(-1 : Int32), s1, rfl, (Option.some.inj hR).symm, by rw [ht]; exact hP1, va_K.moved hW.alike hK, hD1⟩, hS1.F ht⟩) hS1.2.2 dX10_purse_8
