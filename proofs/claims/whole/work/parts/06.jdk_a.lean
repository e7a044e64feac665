def rr_J13_bitCount_95d88 (fu : Nat) (x0 : Int64) : Option (Int32) := lt_ (α := Int64) (x0 - ((x0.toUInt64 >>> ((1 : Int32).toInt64.toUInt64 &&& Int64.toUInt64 63)).toInt64 &&& (6148914691236517205 : Int64))) (fun z1 => lt_ (α := Int64) ((z1 &&& (3689348814741910323 : Int64)) + ((z1.toUInt64 >>> ((2 : Int32).toInt64.toUInt64 &&& Int64.toUInt64 63)).toInt64 &&& (3689348814741910323 : Int64))) (fun z3 => lt_ (α := Int64) ((z3 + (z3.toUInt64 >>> ((4 : Int32).toInt64.toUInt64 &&& Int64.toUInt64 63)).toInt64) &&& (1085102592571150095 : Int64)) (fun z5 => lt_ (α := Int64) (z5 + (z5.toUInt64 >>> ((8 : Int32).toInt64.toUInt64 &&& Int64.toUInt64 63)).toInt64) (fun z7 => lt_ (α := Int64) (z7 + (z7.toUInt64 >>> ((16 : Int32).toInt64.toUInt64 &&& Int64.toUInt64 63)).toInt64) (fun z9 => lt_ (α := Int64) (z9 + (z9.toUInt64 >>> ((32 : Int32).toInt64.toUInt64 &&& Int64.toUInt64 63)).toInt64) (fun z11 => some (z11.toInt32 &&& (127 : Int32))))))))
set_option maxHeartbeats 4000000 in
set_option maxRecDepth 100000 in
theorem cc_J13_bitCount_95d88 (l : Launch) (dC : Nat → ClassId) (dI : Nat → Nat → Nat) (fu : Nat) (sz : Nat) (x0 : Int64) (res : Int32) (hR : rr_J13_bitCount_95d88 fu x0 = some res) : Met l yJ13_bitCount_95d88 wsJ13_bitCount_95d88 ({ frames := 0, cells := 0, slots := 0, locals := 0 } : Room) (PcF [.long x0] sz (dC, dI) (([] : va_W)) ([])) (va_Qi (fun (r : Int32) (u : Unit) => res = r) (fun u t => at3_ (dC, dI) (([] : va_W)) ([]) (va_A (([] : va_W)) sz) t) (va_A (([] : va_W)) sz)) 0 0 (va_A (([] : va_W)) sz) := by
  refine Met.ofW (cc := cJ13_bitCount_95d88) (maxL := 2) (ret := (some .int)) (by decide) rfl ?_
  intro p e s m args below meth c s₁ B hml hv
  obtain ⟨hav, hsz, hP, hK, hD0⟩ := hv
  have hx := B.exec
  have hb := B.bytes
  have hr := B.returns
  have hts := atoms_spec (ws := wsJ13_bitCount_95d88) B.pre
  have hown : s.vm.findClass RJ13 = some m.cls := findClass_of_methodNamed B.named
  have hlocks := B.notSynchronized
  subst hsz
  have hD := hD0.self (sz := s.heap.size)
  clear hD0
  generalize hAe : va_A (([] : va_W)) s.heap.size = A at hD ⊢
  have hA : ∀ q : Nat, s.heap.size ≤ q → A q := fun q h => by rw [← hAe]; exact Or.inr h
  have hS : va_S A s.heap s.heap [] := va_S.rf
  generalize hQe : MQ below _ args s 0 0 A = Q
  rw [show entryFrame m args 2 = F0 m 0 ((lg_sl ([.long x0]) ++ List.replicate (2 - (lg_sl ([.long x0])).length) Slot.unset).toArray) [] from by rw [hav]; exact lg_entry_eq m _ _]
  have hl := lv_entry ([.long x0]) (n := 2) (Nat.le_of_ble_eq_true rfl)
  generalize (lg_sl ([.long x0]) ++ List.replicate (2 - (lg_sl ([.long x0])).length) Slot.unset).toArray = ls at hl ⊢
  have hl : lv_has ls 2 [(0, .long x0)] := hl
  unfold rr_J13_bitCount_95d88 at hR
  refine lv_lload_n hx hb dJ13_bitCount_95d88_0 rfl (lv_at hl 0 rfl) ?_
  refine lv_lload_n hx hb dJ13_bitCount_95d88_1 rfl (lv_at hl 0 rfl) ?_
  refine lv_iconst (v := (1 : Int32)) hx hb dJ13_bitCount_95d88_2 (by decide) ?_
  refine lv_lushr (v := (x0.toUInt64 >>> ((1 : Int32).toInt64.toUInt64 &&& Int64.toUInt64 63)).toInt64) hx hb dJ13_bitCount_95d88_3 rfl ?_
  refine lv_ldc2 (v := (6148914691236517205 : Int64)) hx hb hown (hts (.constantLong RJ13 314 (6148914691236517205)) (List.mem_of_getElem? (i := 1) rfl)) dJ13_bitCount_95d88_4 ?_
  refine lv_land hx hb dJ13_bitCount_95d88_7 ?_
  refine lv_lsub hx hb dJ13_bitCount_95d88_8 ?_
  refine lv_topl (fun z1 ez1 => ?_)
  replace hR := lt_ok hR ez1
  refine lv_lstore_n (lv' := [(0, .long z1)]) hx hb dJ13_bitCount_95d88_9 rfl hl (by decide) rfl (fun ls2 hl2 => ?_)
  refine lv_lload_n hx hb dJ13_bitCount_95d88_10 rfl (lv_at hl2 0 rfl) ?_
  refine lv_ldc2 (v := (3689348814741910323 : Int64)) hx hb hown (hts (.constantLong RJ13 316 (3689348814741910323)) (List.mem_of_getElem? (i := 2) rfl)) dJ13_bitCount_95d88_11 ?_
  refine lv_land hx hb dJ13_bitCount_95d88_14 ?_
  refine lv_lload_n hx hb dJ13_bitCount_95d88_15 rfl (lv_at hl2 0 rfl) ?_
  refine lv_iconst (v := (2 : Int32)) hx hb dJ13_bitCount_95d88_16 (by decide) ?_
  refine lv_lushr (v := (z1.toUInt64 >>> ((2 : Int32).toInt64.toUInt64 &&& Int64.toUInt64 63)).toInt64) hx hb dJ13_bitCount_95d88_17 rfl ?_
  refine lv_ldc2 (v := (3689348814741910323 : Int64)) hx hb hown (hts (.constantLong RJ13 316 (3689348814741910323)) (List.mem_of_getElem? (i := 2) rfl)) dJ13_bitCount_95d88_18 ?_
  refine lv_land hx hb dJ13_bitCount_95d88_21 ?_
  refine lv_ladd hx hb dJ13_bitCount_95d88_22 ?_
  refine lv_topl (fun z3 ez3 => ?_)
  replace hR := lt_ok hR ez3
  refine lv_lstore_n (lv' := [(0, .long z3)]) hx hb dJ13_bitCount_95d88_23 rfl hl2 (by decide) rfl (fun ls4 hl4 => ?_)
  refine lv_lload_n hx hb dJ13_bitCount_95d88_24 rfl (lv_at hl4 0 rfl) ?_
  refine lv_lload_n hx hb dJ13_bitCount_95d88_25 rfl (lv_at hl4 0 rfl) ?_
  refine lv_iconst (v := (4 : Int32)) hx hb dJ13_bitCount_95d88_26 (by decide) ?_
  refine lv_lushr (v := (z3.toUInt64 >>> ((4 : Int32).toInt64.toUInt64 &&& Int64.toUInt64 63)).toInt64) hx hb dJ13_bitCount_95d88_27 rfl ?_
  refine lv_ladd hx hb dJ13_bitCount_95d88_28 ?_
  refine lv_ldc2 (v := (1085102592571150095 : Int64)) hx hb hown (hts (.constantLong RJ13 318 (1085102592571150095)) (List.mem_of_getElem? (i := 3) rfl)) dJ13_bitCount_95d88_29 ?_
  refine lv_land hx hb dJ13_bitCount_95d88_32 ?_
  refine lv_topl (fun z5 ez5 => ?_)
  replace hR := lt_ok hR ez5
  refine lv_lstore_n (lv' := [(0, .long z5)]) hx hb dJ13_bitCount_95d88_33 rfl hl4 (by decide) rfl (fun ls6 hl6 => ?_)
  refine lv_lload_n hx hb dJ13_bitCount_95d88_34 rfl (lv_at hl6 0 rfl) ?_
  refine lv_lload_n hx hb dJ13_bitCount_95d88_35 rfl (lv_at hl6 0 rfl) ?_
  refine lv_bipush (v := (8 : Int32)) hx hb dJ13_bitCount_95d88_36 (by decide) ?_
  refine lv_lushr (v := (z5.toUInt64 >>> ((8 : Int32).toInt64.toUInt64 &&& Int64.toUInt64 63)).toInt64) hx hb dJ13_bitCount_95d88_38 rfl ?_
  refine lv_ladd hx hb dJ13_bitCount_95d88_39 ?_
  refine lv_topl (fun z7 ez7 => ?_)
  replace hR := lt_ok hR ez7
  refine lv_lstore_n (lv' := [(0, .long z7)]) hx hb dJ13_bitCount_95d88_40 rfl hl6 (by decide) rfl (fun ls8 hl8 => ?_)
  refine lv_lload_n hx hb dJ13_bitCount_95d88_41 rfl (lv_at hl8 0 rfl) ?_
  refine lv_lload_n hx hb dJ13_bitCount_95d88_42 rfl (lv_at hl8 0 rfl) ?_
  refine lv_bipush (v := (16 : Int32)) hx hb dJ13_bitCount_95d88_43 (by decide) ?_
  refine lv_lushr (v := (z7.toUInt64 >>> ((16 : Int32).toInt64.toUInt64 &&& Int64.toUInt64 63)).toInt64) hx hb dJ13_bitCount_95d88_45 rfl ?_
  refine lv_ladd hx hb dJ13_bitCount_95d88_46 ?_
  refine lv_topl (fun z9 ez9 => ?_)
  replace hR := lt_ok hR ez9
  refine lv_lstore_n (lv' := [(0, .long z9)]) hx hb dJ13_bitCount_95d88_47 rfl hl8 (by decide) rfl (fun ls10 hl10 => ?_)
  refine lv_lload_n hx hb dJ13_bitCount_95d88_48 rfl (lv_at hl10 0 rfl) ?_
  refine lv_lload_n hx hb dJ13_bitCount_95d88_49 rfl (lv_at hl10 0 rfl) ?_
  refine lv_bipush (v := (32 : Int32)) hx hb dJ13_bitCount_95d88_50 (by decide) ?_
  refine lv_lushr (v := (z9.toUInt64 >>> ((32 : Int32).toInt64.toUInt64 &&& Int64.toUInt64 63)).toInt64) hx hb dJ13_bitCount_95d88_52 rfl ?_
  refine lv_ladd hx hb dJ13_bitCount_95d88_53 ?_
  refine lv_topl (fun z11 ez11 => ?_)
  replace hR := lt_ok hR ez11
  refine lv_lstore_n (lv' := [(0, .long z11)]) hx hb dJ13_bitCount_95d88_54 rfl hl10 (by decide) rfl (fun ls12 hl12 => ?_)
  refine lv_lload_n hx hb dJ13_bitCount_95d88_55 rfl (lv_at hl12 0 rfl) ?_
  refine lv_l2i (v := z11.toInt32) hx hb dJ13_bitCount_95d88_56 rfl ?_
  refine lv_bipush (v := (127 : Int32)) hx hb dJ13_bitCount_95d88_57 (by decide) ?_
  refine lv_iand hx hb dJ13_bitCount_95d88_59 ?_
  subst hQe
  exact W.iret (v := (z11.toInt32 &&& (127 : Int32))) hx hb hr (fun t ht hW => ⟨⟨(z11.toInt32 &&& (127 : Int32)), (), rfl, (Option.some.inj hR).symm, by rw [ht]; exact hP, va_K.moved hW.alike hK, hD⟩, hS.F ht⟩) hS.2.2 dJ13_bitCount_95d88_60
def rr_J6_numberOfTrailingZeros_0f7a4_74 (fu : Nat) (y0 : Int32) (y1 : Int32) : Option (Int32) := some (y1 + (y0.toUInt32 >>> ((1 : Int32).toUInt32 &&& Int32.toUInt32 31)).toInt32)
def rr_J6_numberOfTrailingZeros_0f7a4_62 (fu : Nat) (y0 : Int32) (y1 : Int32) : Option (Int32) := (if y0 ≤ (4 : Int32) then rr_J6_numberOfTrailingZeros_0f7a4_74 fu y0 y1 else lt_ (α := Int32) (y1 + (2 : Int32)) (fun z18 => lt_ (α := Int32) (y0.toUInt32 >>> ((2 : Int32).toUInt32 &&& Int32.toUInt32 31)).toInt32 (fun z19 => rr_J6_numberOfTrailingZeros_0f7a4_74 fu z19 z18)))
def rr_J6_numberOfTrailingZeros_0f7a4_49 (fu : Nat) (y0 : Int32) (y1 : Int32) : Option (Int32) := (if y0 ≤ (16 : Int32) then rr_J6_numberOfTrailingZeros_0f7a4_62 fu y0 y1 else lt_ (α := Int32) (y1 + (4 : Int32)) (fun z14 => lt_ (α := Int32) (y0.toUInt32 >>> ((4 : Int32).toUInt32 &&& Int32.toUInt32 31)).toInt32 (fun z15 => rr_J6_numberOfTrailingZeros_0f7a4_62 fu z15 z14)))
def rr_J6_numberOfTrailingZeros_0f7a4_34 (fu : Nat) (y0 : Int32) (y1 : Int32) : Option (Int32) := (if y0 ≤ (256 : Int32) then rr_J6_numberOfTrailingZeros_0f7a4_49 fu y0 y1 else lt_ (α := Int32) (y1 + (8 : Int32)) (fun z10 => lt_ (α := Int32) (y0.toUInt32 >>> ((8 : Int32).toUInt32 &&& Int32.toUInt32 31)).toInt32 (fun z11 => rr_J6_numberOfTrailingZeros_0f7a4_49 fu z11 z10)))
def rr_J6_numberOfTrailingZeros_0f7a4 (fu : Nat) (x0 : Int32) : Option (Int32) := lt_ (α := Int32) ((x0 ^^^ (-1 : Int32)) &&& (x0 - (1 : Int32))) (fun z1 => (if (0 : Int32) < z1 then (if z1 ≤ (65536 : Int32) then rr_J6_numberOfTrailingZeros_0f7a4_34 fu z1 (1 : Int32) else lt_ (α := Int32) ((1 : Int32) + (16 : Int32)) (fun z6 => lt_ (α := Int32) (z1.toUInt32 >>> ((16 : Int32).toUInt32 &&& Int32.toUInt32 31)).toInt32 (fun z7 => rr_J6_numberOfTrailingZeros_0f7a4_34 fu z7 z6))) else some (z1 &&& (32 : Int32))))
set_option maxHeartbeats 4000000 in
set_option maxRecDepth 100000 in
theorem cc_J6_numberOfTrailingZeros_0f7a4 (l : Launch) (dC : Nat → ClassId) (dI : Nat → Nat → Nat) (fu : Nat) (sz : Nat) (x0 : Int32) (res : Int32) (hR : rr_J6_numberOfTrailingZeros_0f7a4 fu x0 = some res) : Met l yJ6_numberOfTrailingZeros_0f7a4 wsJ6_numberOfTrailingZeros_0f7a4 ({ frames := 0, cells := 0, slots := 0, locals := 0 } : Room) (PcF [.int x0] sz (dC, dI) (([] : va_W)) ([])) (va_Qi (fun (r : Int32) (u : Unit) => res = r) (fun u t => at3_ (dC, dI) (([] : va_W)) ([]) (va_A (([] : va_W)) sz) t) (va_A (([] : va_W)) sz)) 0 0 (va_A (([] : va_W)) sz) := by
  refine Met.ofW (cc := cJ6_numberOfTrailingZeros_0f7a4) (maxL := 2) (ret := (some .int)) (by decide) rfl ?_
  intro p e s m args below meth c s₁ B hml hv
  obtain ⟨hav, hsz, hP, hK, hD0⟩ := hv
  have hx := B.exec
  have hb := B.bytes
  have hr := B.returns
  have hts := atoms_spec (ws := wsJ6_numberOfTrailingZeros_0f7a4) B.pre
  have hown : s.vm.findClass RJ6 = some m.cls := findClass_of_methodNamed B.named
  have hlocks := B.notSynchronized
  subst hsz
  have hD := hD0.self (sz := s.heap.size)
  clear hD0
  generalize hAe : va_A (([] : va_W)) s.heap.size = A at hD ⊢
  have hA : ∀ q : Nat, s.heap.size ≤ q → A q := fun q h => by rw [← hAe]; exact Or.inr h
  have hS : va_S A s.heap s.heap [] := va_S.rf
  generalize hQe : MQ below _ args s 0 0 A = Q
  rw [show entryFrame m args 2 = F0 m 0 ((lg_sl ([.int x0]) ++ List.replicate (2 - (lg_sl ([.int x0])).length) Slot.unset).toArray) [] from by rw [hav]; exact lg_entry_eq m _ _]
  have hl := lv_entry ([.int x0]) (n := 2) (Nat.le_of_ble_eq_true rfl)
  generalize (lg_sl ([.int x0]) ++ List.replicate (2 - (lg_sl ([.int x0])).length) Slot.unset).toArray = ls at hl ⊢
  have hl : lv_has ls 2 [(0, .int x0)] := hl
  have hB74 : ∀ (y0 : Int32) (y1 : Int32) (H : Heap) (locs : List Loc) (ls : Array Slot), va_P (dC, dI) vwCl (([] : va_W)) H → va_D A (([] : va_W)) → va_S A s.heap H locs → lv_has ls 2 [(0, .int y0), (1, .int y1)] → rr_J6_numberOfTrailingZeros_0f7a4_74 fu y0 y1 = some res → W p l e ({ frames := 0, cells := 0, slots := 0, locals := 0 } : Room) s m args below meth c H locs 0 0 Q (F0 m 74 ls []) := by
    intro  y0 y1 H locs ls hP hD hS hl hR
    unfold rr_J6_numberOfTrailingZeros_0f7a4_74 at hR
    refine lv_iload_n hx hb dJ6_numberOfTrailingZeros_0f7a4_74 rfl (lv_at hl 1 rfl) ?_
    refine lv_iload_n hx hb dJ6_numberOfTrailingZeros_0f7a4_75 rfl (lv_at hl 0 rfl) ?_
    refine lv_iconst (v := (1 : Int32)) hx hb dJ6_numberOfTrailingZeros_0f7a4_76 (by decide) ?_
    refine lv_iushr (v := (y0.toUInt32 >>> ((1 : Int32).toUInt32 &&& Int32.toUInt32 31)).toInt32) hx hb dJ6_numberOfTrailingZeros_0f7a4_77 rfl ?_
    refine lv_iadd hx hb dJ6_numberOfTrailingZeros_0f7a4_78 ?_
    subst hQe
    exact W.iret (v := (y1 + (y0.toUInt32 >>> ((1 : Int32).toUInt32 &&& Int32.toUInt32 31)).toInt32)) hx hb hr (fun t ht hW => ⟨⟨(y1 + (y0.toUInt32 >>> ((1 : Int32).toUInt32 &&& Int32.toUInt32 31)).toInt32), (), rfl, (Option.some.inj hR).symm, by rw [ht]; exact hP, va_K.moved hW.alike hK, hD⟩, hS.F ht⟩) hS.2.2 dJ6_numberOfTrailingZeros_0f7a4_79
  have hB62 : ∀ (y0 : Int32) (y1 : Int32) (H : Heap) (locs : List Loc) (ls : Array Slot), va_P (dC, dI) vwCl (([] : va_W)) H → va_D A (([] : va_W)) → va_S A s.heap H locs → lv_has ls 2 [(0, .int y0), (1, .int y1)] → rr_J6_numberOfTrailingZeros_0f7a4_62 fu y0 y1 = some res → W p l e ({ frames := 0, cells := 0, slots := 0, locals := 0 } : Room) s m args below meth c H locs 0 0 Q (F0 m 62 ls []) := by
    intro  y0 y1 H locs ls hP hD hS hl hR
    unfold rr_J6_numberOfTrailingZeros_0f7a4_62 at hR
    refine lv_iload_n hx hb dJ6_numberOfTrailingZeros_0f7a4_62 rfl (lv_at hl 0 rfl) ?_
    refine lv_iconst (v := (4 : Int32)) hx hb dJ6_numberOfTrailingZeros_0f7a4_63 (by decide) ?_
    refine lv_icmp_le (tgt := 74) hx hb dJ6_numberOfTrailingZeros_0f7a4_64 (by decide) (fun c17 => ?_) (fun c17 => ?_)
    · replace hR := ifp_ hR c17
      exact hB74 y0 y1 H locs ls hP hD hS (lv_sub hl [0, 1] rfl) hR
    · replace hR := ifn_ hR c17
      obtain ⟨z18, ez18⟩ : ∃ y : Int32, y = (y1 + (2 : Int32)) := ⟨_, rfl⟩
      replace hR := lt_ok hR ez18
      refine lv_iinc (v := z18) (lv' := [(1, .int z18), (0, .int y0)]) hx hb dJ6_numberOfTrailingZeros_0f7a4_67 hl (k := 1) rfl (by rw [ez18]; rfl) (by decide) rfl (fun ls18 hl18 => ?_)
      refine lv_iload_n hx hb dJ6_numberOfTrailingZeros_0f7a4_70 rfl (lv_at hl18 1 rfl) ?_
      refine lv_iconst (v := (2 : Int32)) hx hb dJ6_numberOfTrailingZeros_0f7a4_71 (by decide) ?_
      refine lv_iushr (v := (y0.toUInt32 >>> ((2 : Int32).toUInt32 &&& Int32.toUInt32 31)).toInt32) hx hb dJ6_numberOfTrailingZeros_0f7a4_72 rfl ?_
      refine lv_topi (fun z19 ez19 => ?_)
      replace hR := lt_ok hR ez19
      refine lv_istore_n (lv' := [(0, .int z19), (1, .int z18)]) hx hb dJ6_numberOfTrailingZeros_0f7a4_73 rfl hl18 (by decide) rfl (fun ls20 hl20 => ?_)
      exact hB74 z19 z18 H locs ls20 hP hD hS (lv_sub hl20 [0, 1] rfl) hR
  have hB49 : ∀ (y0 : Int32) (y1 : Int32) (H : Heap) (locs : List Loc) (ls : Array Slot), va_P (dC, dI) vwCl (([] : va_W)) H → va_D A (([] : va_W)) → va_S A s.heap H locs → lv_has ls 2 [(0, .int y0), (1, .int y1)] → rr_J6_numberOfTrailingZeros_0f7a4_49 fu y0 y1 = some res → W p l e ({ frames := 0, cells := 0, slots := 0, locals := 0 } : Room) s m args below meth c H locs 0 0 Q (F0 m 49 ls []) := by
    intro  y0 y1 H locs ls hP hD hS hl hR
    unfold rr_J6_numberOfTrailingZeros_0f7a4_49 at hR
    refine lv_iload_n hx hb dJ6_numberOfTrailingZeros_0f7a4_49 rfl (lv_at hl 0 rfl) ?_
    refine lv_bipush (v := (16 : Int32)) hx hb dJ6_numberOfTrailingZeros_0f7a4_50 (by decide) ?_
    refine lv_icmp_le (tgt := 62) hx hb dJ6_numberOfTrailingZeros_0f7a4_52 (by decide) (fun c13 => ?_) (fun c13 => ?_)
    · replace hR := ifp_ hR c13
      exact hB62 y0 y1 H locs ls hP hD hS (lv_sub hl [0, 1] rfl) hR
    · replace hR := ifn_ hR c13
      obtain ⟨z14, ez14⟩ : ∃ y : Int32, y = (y1 + (4 : Int32)) := ⟨_, rfl⟩
      replace hR := lt_ok hR ez14
      refine lv_iinc (v := z14) (lv' := [(1, .int z14), (0, .int y0)]) hx hb dJ6_numberOfTrailingZeros_0f7a4_55 hl (k := 1) rfl (by rw [ez14]; rfl) (by decide) rfl (fun ls14 hl14 => ?_)
      refine lv_iload_n hx hb dJ6_numberOfTrailingZeros_0f7a4_58 rfl (lv_at hl14 1 rfl) ?_
      refine lv_iconst (v := (4 : Int32)) hx hb dJ6_numberOfTrailingZeros_0f7a4_59 (by decide) ?_
      refine lv_iushr (v := (y0.toUInt32 >>> ((4 : Int32).toUInt32 &&& Int32.toUInt32 31)).toInt32) hx hb dJ6_numberOfTrailingZeros_0f7a4_60 rfl ?_
      refine lv_topi (fun z15 ez15 => ?_)
      replace hR := lt_ok hR ez15
      refine lv_istore_n (lv' := [(0, .int z15), (1, .int z14)]) hx hb dJ6_numberOfTrailingZeros_0f7a4_61 rfl hl14 (by decide) rfl (fun ls16 hl16 => ?_)
      exact hB62 z15 z14 H locs ls16 hP hD hS (lv_sub hl16 [0, 1] rfl) hR
  have hB34 : ∀ (y0 : Int32) (y1 : Int32) (H : Heap) (locs : List Loc) (ls : Array Slot), va_P (dC, dI) vwCl (([] : va_W)) H → va_D A (([] : va_W)) → va_S A s.heap H locs → lv_has ls 2 [(0, .int y0), (1, .int y1)] → rr_J6_numberOfTrailingZeros_0f7a4_34 fu y0 y1 = some res → W p l e ({ frames := 0, cells := 0, slots := 0, locals := 0 } : Room) s m args below meth c H locs 0 0 Q (F0 m 34 ls []) := by
    intro  y0 y1 H locs ls hP hD hS hl hR
    unfold rr_J6_numberOfTrailingZeros_0f7a4_34 at hR
    refine lv_iload_n hx hb dJ6_numberOfTrailingZeros_0f7a4_34 rfl (lv_at hl 0 rfl) ?_
    refine lv_sipush (v := (256 : Int32)) hx hb dJ6_numberOfTrailingZeros_0f7a4_35 (by decide) ?_
    refine lv_icmp_le (tgt := 49) hx hb dJ6_numberOfTrailingZeros_0f7a4_38 (by decide) (fun c9 => ?_) (fun c9 => ?_)
    · replace hR := ifp_ hR c9
      exact hB49 y0 y1 H locs ls hP hD hS (lv_sub hl [0, 1] rfl) hR
    · replace hR := ifn_ hR c9
      obtain ⟨z10, ez10⟩ : ∃ y : Int32, y = (y1 + (8 : Int32)) := ⟨_, rfl⟩
      replace hR := lt_ok hR ez10
      refine lv_iinc (v := z10) (lv' := [(1, .int z10), (0, .int y0)]) hx hb dJ6_numberOfTrailingZeros_0f7a4_41 hl (k := 1) rfl (by rw [ez10]; rfl) (by decide) rfl (fun ls10 hl10 => ?_)
      refine lv_iload_n hx hb dJ6_numberOfTrailingZeros_0f7a4_44 rfl (lv_at hl10 1 rfl) ?_
      refine lv_bipush (v := (8 : Int32)) hx hb dJ6_numberOfTrailingZeros_0f7a4_45 (by decide) ?_
      refine lv_iushr (v := (y0.toUInt32 >>> ((8 : Int32).toUInt32 &&& Int32.toUInt32 31)).toInt32) hx hb dJ6_numberOfTrailingZeros_0f7a4_47 rfl ?_
      refine lv_topi (fun z11 ez11 => ?_)
      replace hR := lt_ok hR ez11
      refine lv_istore_n (lv' := [(0, .int z11), (1, .int z10)]) hx hb dJ6_numberOfTrailingZeros_0f7a4_48 rfl hl10 (by decide) rfl (fun ls12 hl12 => ?_)
      exact hB49 z11 z10 H locs ls12 hP hD hS (lv_sub hl12 [0, 1] rfl) hR
  unfold rr_J6_numberOfTrailingZeros_0f7a4 at hR
  refine lv_iload_n hx hb dJ6_numberOfTrailingZeros_0f7a4_0 rfl (lv_at hl 0 rfl) ?_
  refine lv_iconst (v := (-1 : Int32)) hx hb dJ6_numberOfTrailingZeros_0f7a4_1 (by decide) ?_
  refine lv_ixor hx hb dJ6_numberOfTrailingZeros_0f7a4_2 ?_
  refine lv_iload_n hx hb dJ6_numberOfTrailingZeros_0f7a4_3 rfl (lv_at hl 0 rfl) ?_
  refine lv_iconst (v := (1 : Int32)) hx hb dJ6_numberOfTrailingZeros_0f7a4_4 (by decide) ?_
  refine lv_isub hx hb dJ6_numberOfTrailingZeros_0f7a4_5 ?_
  refine lv_iand hx hb dJ6_numberOfTrailingZeros_0f7a4_6 ?_
  refine lv_topi (fun z1 ez1 => ?_)
  replace hR := lt_ok hR ez1
  refine lv_istore_n (lv' := [(0, .int z1)]) hx hb dJ6_numberOfTrailingZeros_0f7a4_7 rfl hl (by decide) rfl (fun ls2 hl2 => ?_)
  refine lv_iload_n hx hb dJ6_numberOfTrailingZeros_0f7a4_8 rfl (lv_at hl2 0 rfl) ?_
  refine lv_if_gt (tgt := 17) hx hb dJ6_numberOfTrailingZeros_0f7a4_9 (by decide) (fun c3 => ?_) (fun c3 => ?_)
  · replace hR := ifp_ hR c3
    refine lv_iconst (v := (1 : Int32)) hx hb dJ6_numberOfTrailingZeros_0f7a4_17 (by decide) ?_
    refine lv_istore_n (lv' := [(1, .int (1 : Int32)), (0, .int z1)]) hx hb dJ6_numberOfTrailingZeros_0f7a4_18 rfl hl2 (by decide) rfl (fun ls4 hl4 => ?_)
    refine lv_iload_n hx hb dJ6_numberOfTrailingZeros_0f7a4_19 rfl (lv_at hl4 1 rfl) ?_
    refine lv_ldcw (v := (65536 : Int32)) hx hb hown (hts (.constant RJ6 264 (65536)) (List.mem_of_getElem? (i := 1) rfl)) dJ6_numberOfTrailingZeros_0f7a4_20 ?_
    refine lv_icmp_le (tgt := 34) hx hb dJ6_numberOfTrailingZeros_0f7a4_23 (by decide) (fun c5 => ?_) (fun c5 => ?_)
    · replace hR := ifp_ hR c5
      exact hB34 z1 (1 : Int32) s.heap [] ls4 hP hD hS (lv_sub hl4 [1, 0] rfl) hR
    · replace hR := ifn_ hR c5
      obtain ⟨z6, ez6⟩ : ∃ y : Int32, y = ((1 : Int32) + (16 : Int32)) := ⟨_, rfl⟩
      replace hR := lt_ok hR ez6
      refine lv_iinc (v := z6) (lv' := [(1, .int z6), (0, .int z1)]) hx hb dJ6_numberOfTrailingZeros_0f7a4_26 hl4 (k := 0) rfl (by rw [ez6]; rfl) (by decide) rfl (fun ls6 hl6 => ?_)
      refine lv_iload_n hx hb dJ6_numberOfTrailingZeros_0f7a4_29 rfl (lv_at hl6 1 rfl) ?_
      refine lv_bipush (v := (16 : Int32)) hx hb dJ6_numberOfTrailingZeros_0f7a4_30 (by decide) ?_
      refine lv_iushr (v := (z1.toUInt32 >>> ((16 : Int32).toUInt32 &&& Int32.toUInt32 31)).toInt32) hx hb dJ6_numberOfTrailingZeros_0f7a4_32 rfl ?_
      refine lv_topi (fun z7 ez7 => ?_)
      replace hR := lt_ok hR ez7
      refine lv_istore_n (lv' := [(0, .int z7), (1, .int z6)]) hx hb dJ6_numberOfTrailingZeros_0f7a4_33 rfl hl6 (by decide) rfl (fun ls8 hl8 => ?_)
      exact hB34 z7 z6 s.heap [] ls8 hP hD hS (lv_sub hl8 [0, 1] rfl) hR
  · replace hR := ifn_ hR c3
    refine lv_iload_n hx hb dJ6_numberOfTrailingZeros_0f7a4_12 rfl (lv_at hl2 0 rfl) ?_
    refine lv_bipush (v := (32 : Int32)) hx hb dJ6_numberOfTrailingZeros_0f7a4_13 (by decide) ?_
    refine lv_iand hx hb dJ6_numberOfTrailingZeros_0f7a4_15 ?_
    subst hQe
    exact W.iret (v := (z1 &&& (32 : Int32))) hx hb hr (fun t ht hW => ⟨⟨(z1 &&& (32 : Int32)), (), rfl, (Option.some.inj hR).symm, by rw [ht]; exact hP, va_K.moved hW.alike hK, hD⟩, hS.F ht⟩) hS.2.2 dJ6_numberOfTrailingZeros_0f7a4_16
def rr_J13_numberOfTrailingZeros_95d88 (fu : Nat) (x0 : Int64) : Option (Int32) := lt_ (α := Int32) x0.toInt32 (fun z1 => (if z1 = (0 : Int32) then (rr_J6_numberOfTrailingZeros_0f7a4 fu (x0.toUInt64 >>> ((32 : Int32).toInt64.toUInt64 &&& Int64.toUInt64 63)).toInt64.toInt32).bind (fun q5 => some ((32 : Int32) + q5)) else (rr_J6_numberOfTrailingZeros_0f7a4 fu z1).bind (fun q4 => some q4)))
set_option maxHeartbeats 4000000 in
set_option maxRecDepth 100000 in
theorem cc_J13_numberOfTrailingZeros_95d88 (l : Launch) (dC : Nat → ClassId) (dI : Nat → Nat → Nat) (fu : Nat) (sz : Nat) (x0 : Int64) (res : Int32) (hR : rr_J13_numberOfTrailingZeros_95d88 fu x0 = some res) : Met l yJ13_numberOfTrailingZeros_95d88 wsJ13_numberOfTrailingZeros_95d88 ({ frames := 1, cells := 0, slots := 0, locals := 21 } : Room) (PcF [.long x0] sz (dC, dI) (([] : va_W)) ([])) (va_Qi (fun (r : Int32) (u : Unit) => res = r) (fun u t => at3_ (dC, dI) (([] : va_W)) ([]) (va_A (([] : va_W)) sz) t) (va_A (([] : va_W)) sz)) 0 0 (va_A (([] : va_W)) sz) := by
  refine Met.ofW (cc := cJ13_numberOfTrailingZeros_95d88) (maxL := 3) (ret := (some .int)) (by decide) rfl ?_
  intro p e s m args below meth c s₁ B hml hv
  obtain ⟨hav, hsz, hP, hK, hD0⟩ := hv
  have hx := B.exec
  have hb := B.bytes
  have hr := B.returns
  have hts := atoms_spec (ws := wsJ13_numberOfTrailingZeros_95d88) B.pre
  have hown : s.vm.findClass RJ13 = some m.cls := findClass_of_methodNamed B.named
  have hlocks := B.notSynchronized
  subst hsz
  have hD := hD0.self (sz := s.heap.size)
  clear hD0
  generalize hAe : va_A (([] : va_W)) s.heap.size = A at hD ⊢
  have hA : ∀ q : Nat, s.heap.size ≤ q → A q := fun q h => by rw [← hAe]; exact Or.inr h
  have hS : va_S A s.heap s.heap [] := va_S.rf
  generalize hQe : MQ below _ args s 0 0 A = Q
  rw [show entryFrame m args 3 = F0 m 0 ((lg_sl ([.long x0]) ++ List.replicate (3 - (lg_sl ([.long x0])).length) Slot.unset).toArray) [] from by rw [hav]; exact lg_entry_eq m _ _]
  have hl := lv_entry ([.long x0]) (n := 3) (Nat.le_of_ble_eq_true rfl)
  generalize (lg_sl ([.long x0]) ++ List.replicate (3 - (lg_sl ([.long x0])).length) Slot.unset).toArray = ls at hl ⊢
  have hl : lv_has ls 3 [(0, .long x0)] := hl
  unfold rr_J13_numberOfTrailingZeros_95d88 at hR
  refine lv_lload_n hx hb dJ13_numberOfTrailingZeros_95d88_0 rfl (lv_at hl 0 rfl) ?_
  refine lv_l2i (v := x0.toInt32) hx hb dJ13_numberOfTrailingZeros_95d88_1 rfl ?_
  refine lv_topi (fun z1 ez1 => ?_)
  replace hR := lt_ok hR ez1
  refine lv_istore_n (lv' := [(2, .int z1), (0, .long x0)]) hx hb dJ13_numberOfTrailingZeros_95d88_2 rfl hl (by decide) rfl (fun ls2 hl2 => ?_)
  refine lv_iload_n hx hb dJ13_numberOfTrailingZeros_95d88_3 rfl (lv_at hl2 0 rfl) ?_
  refine lv_if_ne (tgt := 21) hx hb dJ13_numberOfTrailingZeros_95d88_4 (by decide) (fun c3 => ?_) (fun c3 => ?_)
  · replace hR := ifn_ hR c3
    refine lv_iload_n hx hb dJ13_numberOfTrailingZeros_95d88_21 rfl (lv_at hl2 0 rfl) ?_
    have hR0 := ob_ok hR
    clear hR
    obtain ⟨q4, hq4, hR⟩ := hR0
    refine va_calli (va_runS (As := [.int z1]) (rest := []) ⟨hx, hb, hml, hown, hts⟩ (cc_J6_numberOfTrailingZeros_0f7a4 l dC dI fu s.heap.size z1 q4 hq4) (va_cwS 1 hts gJ13_numberOfTrailingZeros_95d88_J6_numberOfTrailingZeros_0f7a4 rfl rfl rfl (by decide +kernel) ⟨Nat.le_of_ble_eq_true rfl, Nat.le_of_ble_eq_true rfl⟩) (pf_s (nil_K hK) nil_P (nil_D (A := A))) rfl rfl hl2.1 rfl (lv_room (Nat.le_of_ble_eq_true rfl)) dJ13_numberOfTrailingZeros_95d88_22 ⟨Nat.le_refl _, Nat.le_refl _⟩) hS (fun q _ h => (fr_none hS hA) q h) (fr_none hS hA) (fun r4 v4 t4 H4 locs4 ht4 hvm4 hw4 hB4 hz4 hk4 hS4 => ?_)
    subst hw4
    have hP4 := jn_none hP hk4
    have hD4 := hD
    have hP4 : va_P (dC, dI) vwCl (([] : va_W)) H4 := hP4
    have hD4 : va_D A (([] : va_W)) := hD4
    clear hP hD hS hB4 hk4 hvm4 hz4 ht4
    subst hQe
    exact W.iret (v := q4) hx hb hr (fun t ht hW => ⟨⟨q4, (), rfl, (Option.some.inj hR).symm, by rw [ht]; exact hP4, va_K.moved hW.alike hK, hD4⟩, hS4.F ht⟩) hS4.2.2 dJ13_numberOfTrailingZeros_95d88_25
  · replace hR := ifp_ hR c3
    refine lv_bipush (v := (32 : Int32)) hx hb dJ13_numberOfTrailingZeros_95d88_7 (by decide) ?_
    refine lv_lload_n hx hb dJ13_numberOfTrailingZeros_95d88_9 rfl (lv_at hl2 1 rfl) ?_
    refine lv_bipush (v := (32 : Int32)) hx hb dJ13_numberOfTrailingZeros_95d88_10 (by decide) ?_
    refine lv_lushr (v := (x0.toUInt64 >>> ((32 : Int32).toInt64.toUInt64 &&& Int64.toUInt64 63)).toInt64) hx hb dJ13_numberOfTrailingZeros_95d88_12 rfl ?_
    refine lv_l2i (v := (x0.toUInt64 >>> ((32 : Int32).toInt64.toUInt64 &&& Int64.toUInt64 63)).toInt64.toInt32) hx hb dJ13_numberOfTrailingZeros_95d88_13 rfl ?_
    have hR0 := ob_ok hR
    clear hR
    obtain ⟨q5, hq5, hR⟩ := hR0
    refine va_calli (va_runS (As := [.int (x0.toUInt64 >>> ((32 : Int32).toInt64.toUInt64 &&& Int64.toUInt64 63)).toInt64.toInt32]) (rest := [.int (32 : Int32)]) ⟨hx, hb, hml, hown, hts⟩ (cc_J6_numberOfTrailingZeros_0f7a4 l dC dI fu s.heap.size (x0.toUInt64 >>> ((32 : Int32).toInt64.toUInt64 &&& Int64.toUInt64 63)).toInt64.toInt32 q5 hq5) (va_cwS 1 hts gJ13_numberOfTrailingZeros_95d88_J6_numberOfTrailingZeros_0f7a4 rfl rfl rfl (by decide +kernel) ⟨Nat.le_of_ble_eq_true rfl, Nat.le_of_ble_eq_true rfl⟩) (pf_s (nil_K hK) nil_P (nil_D (A := A))) rfl rfl hl2.1 rfl (lv_room (Nat.le_of_ble_eq_true rfl)) dJ13_numberOfTrailingZeros_95d88_14 ⟨Nat.le_refl _, Nat.le_refl _⟩) hS (fun q _ h => (fr_none hS hA) q h) (fr_none hS hA) (fun r5 v5 t5 H5 locs5 ht5 hvm5 hw5 hB5 hz5 hk5 hS5 => ?_)
    subst hw5
    have hP5 := jn_none hP hk5
    have hD5 := hD
    have hP5 : va_P (dC, dI) vwCl (([] : va_W)) H5 := hP5
    have hD5 : va_D A (([] : va_W)) := hD5
    clear hP hD hS hB5 hk5 hvm5 hz5 ht5
    refine lv_iadd hx hb dJ13_numberOfTrailingZeros_95d88_17 ?_
    refine lv_goto (tgt := 25) hx hb dJ13_numberOfTrailingZeros_95d88_18 (by decide) ?_
    subst hQe
    exact W.iret (v := ((32 : Int32) + q5)) hx hb hr (fun t ht hW => ⟨⟨((32 : Int32) + q5), (), rfl, (Option.some.inj hR).symm, by rw [ht]; exact hP5, va_K.moved hW.alike hK, hD5⟩, hS5.F ht⟩) hS5.2.2 dJ13_numberOfTrailingZeros_95d88_25
def rr_X9_isWithin (fu : Nat) (x0 : Int32) (x1 : Int32) (x2 : Int32) : Option (Int32) := (if x0 < x1 then some (0 : Int32) else (if x2 < x0 then some (0 : Int32) else some (1 : Int32)))
set_option maxHeartbeats 4000000 in
set_option maxRecDepth 100000 in
theorem cc_X9_isWithin (l : Launch) (dC : Nat → ClassId) (dI : Nat → Nat → Nat) (fu : Nat) (sz : Nat) (x0 : Int32) (x1 : Int32) (x2 : Int32) (res : Int32) (hR : rr_X9_isWithin fu x0 x1 x2 = some res) : Met l yX9_isWithin wsX9_isWithin ({ frames := 0, cells := 0, slots := 0, locals := 0 } : Room) (PcF [.int x0, .int x1, .int x2] sz (dC, dI) (([] : va_W)) ([])) (va_Qi (fun (r : Int32) (u : Unit) => res = r) (fun u t => at3_ (dC, dI) (([] : va_W)) ([]) (va_A (([] : va_W)) sz) t) (va_A (([] : va_W)) sz)) 0 0 (va_A (([] : va_W)) sz) := by
  refine Met.ofW (cc := cX9_isWithin) (maxL := 3) (ret := (some .boolean)) (by decide) rfl ?_
  intro p e s m args below meth c s₁ B hml hv
  obtain ⟨hav, hsz, hP, hK, hD0⟩ := hv
  have hx := B.exec
  have hb := B.bytes
  have hr := B.returns
  have hts := atoms_spec (ws := wsX9_isWithin) B.pre
  have hown : s.vm.findClass RX9 = some m.cls := findClass_of_methodNamed B.named
  have hlocks := B.notSynchronized
  subst hsz
  have hD := hD0.self (sz := s.heap.size)
  clear hD0
  generalize hAe : va_A (([] : va_W)) s.heap.size = A at hD ⊢
  have hA : ∀ q : Nat, s.heap.size ≤ q → A q := fun q h => by rw [← hAe]; exact Or.inr h
  have hS : va_S A s.heap s.heap [] := va_S.rf
  generalize hQe : MQ below _ args s 0 0 A = Q
  rw [show entryFrame m args 3 = F0 m 0 ((lg_sl ([.int x0, .int x1, .int x2]) ++ List.replicate (3 - (lg_sl ([.int x0, .int x1, .int x2])).length) Slot.unset).toArray) [] from by rw [hav]; exact lg_entry_eq m _ _]
  have hl := lv_entry ([.int x0, .int x1, .int x2]) (n := 3) (Nat.le_of_ble_eq_true rfl)
  generalize (lg_sl ([.int x0, .int x1, .int x2]) ++ List.replicate (3 - (lg_sl ([.int x0, .int x1, .int x2])).length) Slot.unset).toArray = ls at hl ⊢
  have hl : lv_has ls 3 [(0, .int x0), (1, .int x1), (2, .int x2)] := hl
  unfold rr_X9_isWithin at hR
  refine lv_iload_n hx hb dX9_isWithin_0 rfl (lv_at hl 0 rfl) ?_
  refine lv_iload_n hx hb dX9_isWithin_1 rfl (lv_at hl 1 rfl) ?_
  refine lv_icmp_lt (tgt := 14) hx hb dX9_isWithin_2 (by decide) (fun c1 => ?_) (fun c1 => ?_)
  · replace hR := ifp_ hR c1
    refine lv_iconst (v := (0 : Int32)) hx hb dX9_isWithin_14 (by decide) ?_
    subst hQe
    exact W.zret (ty := .boolean) (v := (0 : Int32)) hx hb hr rfl (fun t ht hW => ⟨⟨(0 : Int32), (), rfl, (Option.some.inj hR).symm, by rw [ht]; exact hP, va_K.moved hW.alike hK, hD⟩, hS.F ht⟩) hS.2.2 dX9_isWithin_15
  · replace hR := ifn_ hR c1
    refine lv_iload_n hx hb dX9_isWithin_5 rfl (lv_at hl 0 rfl) ?_
    refine lv_iload_n hx hb dX9_isWithin_6 rfl (lv_at hl 2 rfl) ?_
    refine lv_icmp_gt (tgt := 14) hx hb dX9_isWithin_7 (by decide) (fun c2 => ?_) (fun c2 => ?_)
    · replace hR := ifp_ hR c2
      refine lv_iconst (v := (0 : Int32)) hx hb dX9_isWithin_14 (by decide) ?_
      subst hQe
      exact W.zret (ty := .boolean) (v := (0 : Int32)) hx hb hr rfl (fun t ht hW => ⟨⟨(0 : Int32), (), rfl, (Option.some.inj hR).symm, by rw [ht]; exact hP, va_K.moved hW.alike hK, hD⟩, hS.F ht⟩) hS.2.2 dX9_isWithin_15
    · replace hR := ifn_ hR c2
      refine lv_iconst (v := (1 : Int32)) hx hb dX9_isWithin_10 (by decide) ?_
      refine lv_goto (tgt := 15) hx hb dX9_isWithin_11 (by decide) ?_
      subst hQe
      exact W.zret (ty := .boolean) (v := (1 : Int32)) hx hb hr rfl (fun t ht hW => ⟨⟨(1 : Int32), (), rfl, (Option.some.inj hR).symm, by rw [ht]; exact hP, va_K.moved hW.alike hK, hD⟩, hS.F ht⟩) hS.2.2 dX9_isWithin_15
def rr_J6_numberOfLeadingZeros_0f7a4_73 (fu : Nat) (y0 : Int32) (y1 : Int32) : Option (Int32) := some (y1 - (y0.toUInt32 >>> ((1 : Int32).toUInt32 &&& Int32.toUInt32 31)).toInt32)
def rr_J6_numberOfLeadingZeros_0f7a4_61 (fu : Nat) (y0 : Int32) (y1 : Int32) : Option (Int32) := (if y0 < (4 : Int32) then rr_J6_numberOfLeadingZeros_0f7a4_73 fu y0 y1 else lt_ (α := Int32) (y1 + (-2 : Int32)) (fun z17 => lt_ (α := Int32) (y0.toUInt32 >>> ((2 : Int32).toUInt32 &&& Int32.toUInt32 31)).toInt32 (fun z18 => rr_J6_numberOfLeadingZeros_0f7a4_73 fu z18 z17)))
def rr_J6_numberOfLeadingZeros_0f7a4_48 (fu : Nat) (y0 : Int32) (y1 : Int32) : Option (Int32) := (if y0 < (16 : Int32) then rr_J6_numberOfLeadingZeros_0f7a4_61 fu y0 y1 else lt_ (α := Int32) (y1 + (-4 : Int32)) (fun z13 => lt_ (α := Int32) (y0.toUInt32 >>> ((4 : Int32).toUInt32 &&& Int32.toUInt32 31)).toInt32 (fun z14 => rr_J6_numberOfLeadingZeros_0f7a4_61 fu z14 z13)))
def rr_J6_numberOfLeadingZeros_0f7a4_33 (fu : Nat) (y0 : Int32) (y1 : Int32) : Option (Int32) := (if y0 < (256 : Int32) then rr_J6_numberOfLeadingZeros_0f7a4_48 fu y0 y1 else lt_ (α := Int32) (y1 + (-8 : Int32)) (fun z9 => lt_ (α := Int32) (y0.toUInt32 >>> ((8 : Int32).toUInt32 &&& Int32.toUInt32 31)).toInt32 (fun z10 => rr_J6_numberOfLeadingZeros_0f7a4_48 fu z10 z9)))
def rr_J6_numberOfLeadingZeros_0f7a4 (fu : Nat) (x0 : Int32) : Option (Int32) := (if (0 : Int32) < x0 then (if x0 < (65536 : Int32) then rr_J6_numberOfLeadingZeros_0f7a4_33 fu x0 (31 : Int32) else lt_ (α := Int32) ((31 : Int32) + (-16 : Int32)) (fun z4 => lt_ (α := Int32) (x0.toUInt32 >>> ((16 : Int32).toUInt32 &&& Int32.toUInt32 31)).toInt32 (fun z5 => rr_J6_numberOfLeadingZeros_0f7a4_33 fu z5 z4))) else (if x0 = (0 : Int32) then some (32 : Int32) else some (0 : Int32)))
set_option maxHeartbeats 4000000 in
set_option maxRecDepth 100000 in
theorem cc_J6_numberOfLeadingZeros_0f7a4 (l : Launch) (dC : Nat → ClassId) (dI : Nat → Nat → Nat) (fu : Nat) (sz : Nat) (x0 : Int32) (res : Int32) (hR : rr_J6_numberOfLeadingZeros_0f7a4 fu x0 = some res) : Met l yJ6_numberOfLeadingZeros_0f7a4 wsJ6_numberOfLeadingZeros_0f7a4 ({ frames := 0, cells := 0, slots := 0, locals := 0 } : Room) (PcF [.int x0] sz (dC, dI) (([] : va_W)) ([])) (va_Qi (fun (r : Int32) (u : Unit) => res = r) (fun u t => at3_ (dC, dI) (([] : va_W)) ([]) (va_A (([] : va_W)) sz) t) (va_A (([] : va_W)) sz)) 0 0 (va_A (([] : va_W)) sz) := by
  refine Met.ofW (cc := cJ6_numberOfLeadingZeros_0f7a4) (maxL := 2) (ret := (some .int)) (by decide) rfl ?_
  intro p e s m args below meth c s₁ B hml hv
  obtain ⟨hav, hsz, hP, hK, hD0⟩ := hv
  have hx := B.exec
  have hb := B.bytes
  have hr := B.returns
  have hts := atoms_spec (ws := wsJ6_numberOfLeadingZeros_0f7a4) B.pre
  have hown : s.vm.findClass RJ6 = some m.cls := findClass_of_methodNamed B.named
  have hlocks := B.notSynchronized
  subst hsz
  have hD := hD0.self (sz := s.heap.size)
  clear hD0
  generalize hAe : va_A (([] : va_W)) s.heap.size = A at hD ⊢
  have hA : ∀ q : Nat, s.heap.size ≤ q → A q := fun q h => by rw [← hAe]; exact Or.inr h
  have hS : va_S A s.heap s.heap [] := va_S.rf
  generalize hQe : MQ below _ args s 0 0 A = Q
  rw [show entryFrame m args 2 = F0 m 0 ((lg_sl ([.int x0]) ++ List.replicate (2 - (lg_sl ([.int x0])).length) Slot.unset).toArray) [] from by rw [hav]; exact lg_entry_eq m _ _]
  have hl := lv_entry ([.int x0]) (n := 2) (Nat.le_of_ble_eq_true rfl)
  generalize (lg_sl ([.int x0]) ++ List.replicate (2 - (lg_sl ([.int x0])).length) Slot.unset).toArray = ls at hl ⊢
  have hl : lv_has ls 2 [(0, .int x0)] := hl
  have hB73 : ∀ (y0 : Int32) (y1 : Int32) (H : Heap) (locs : List Loc) (ls : Array Slot), va_P (dC, dI) vwCl (([] : va_W)) H → va_D A (([] : va_W)) → va_S A s.heap H locs → lv_has ls 2 [(0, .int y0), (1, .int y1)] → rr_J6_numberOfLeadingZeros_0f7a4_73 fu y0 y1 = some res → W p l e ({ frames := 0, cells := 0, slots := 0, locals := 0 } : Room) s m args below meth c H locs 0 0 Q (F0 m 73 ls []) := by
    intro  y0 y1 H locs ls hP hD hS hl hR
    unfold rr_J6_numberOfLeadingZeros_0f7a4_73 at hR
    refine lv_iload_n hx hb dJ6_numberOfLeadingZeros_0f7a4_73 rfl (lv_at hl 1 rfl) ?_
    refine lv_iload_n hx hb dJ6_numberOfLeadingZeros_0f7a4_74 rfl (lv_at hl 0 rfl) ?_
    refine lv_iconst (v := (1 : Int32)) hx hb dJ6_numberOfLeadingZeros_0f7a4_75 (by decide) ?_
    refine lv_iushr (v := (y0.toUInt32 >>> ((1 : Int32).toUInt32 &&& Int32.toUInt32 31)).toInt32) hx hb dJ6_numberOfLeadingZeros_0f7a4_76 rfl ?_
    refine lv_isub hx hb dJ6_numberOfLeadingZeros_0f7a4_77 ?_
    subst hQe
    exact W.iret (v := (y1 - (y0.toUInt32 >>> ((1 : Int32).toUInt32 &&& Int32.toUInt32 31)).toInt32)) hx hb hr (fun t ht hW => ⟨⟨(y1 - (y0.toUInt32 >>> ((1 : Int32).toUInt32 &&& Int32.toUInt32 31)).toInt32), (), rfl, (Option.some.inj hR).symm, by rw [ht]; exact hP, va_K.moved hW.alike hK, hD⟩, hS.F ht⟩) hS.2.2 dJ6_numberOfLeadingZeros_0f7a4_78
  have hB61 : ∀ (y0 : Int32) (y1 : Int32) (H : Heap) (locs : List Loc) (ls : Array Slot), va_P (dC, dI) vwCl (([] : va_W)) H → va_D A (([] : va_W)) → va_S A s.heap H locs → lv_has ls 2 [(0, .int y0), (1, .int y1)] → rr_J6_numberOfLeadingZeros_0f7a4_61 fu y0 y1 = some res → W p l e ({ frames := 0, cells := 0, slots := 0, locals := 0 } : Room) s m args below meth c H locs 0 0 Q (F0 m 61 ls []) := by
    intro  y0 y1 H locs ls hP hD hS hl hR
    unfold rr_J6_numberOfLeadingZeros_0f7a4_61 at hR
    refine lv_iload_n hx hb dJ6_numberOfLeadingZeros_0f7a4_61 rfl (lv_at hl 0 rfl) ?_
    refine lv_iconst (v := (4 : Int32)) hx hb dJ6_numberOfLeadingZeros_0f7a4_62 (by decide) ?_
    refine lv_icmp_lt (tgt := 73) hx hb dJ6_numberOfLeadingZeros_0f7a4_63 (by decide) (fun c16 => ?_) (fun c16 => ?_)
    · replace hR := ifp_ hR c16
      exact hB73 y0 y1 H locs ls hP hD hS (lv_sub hl [0, 1] rfl) hR
    · replace hR := ifn_ hR c16
      obtain ⟨z17, ez17⟩ : ∃ y : Int32, y = (y1 + (-2 : Int32)) := ⟨_, rfl⟩
      replace hR := lt_ok hR ez17
      refine lv_iinc (v := z17) (lv' := [(1, .int z17), (0, .int y0)]) hx hb dJ6_numberOfLeadingZeros_0f7a4_66 hl (k := 1) rfl (by rw [ez17]; rfl) (by decide) rfl (fun ls17 hl17 => ?_)
      refine lv_iload_n hx hb dJ6_numberOfLeadingZeros_0f7a4_69 rfl (lv_at hl17 1 rfl) ?_
      refine lv_iconst (v := (2 : Int32)) hx hb dJ6_numberOfLeadingZeros_0f7a4_70 (by decide) ?_
      refine lv_iushr (v := (y0.toUInt32 >>> ((2 : Int32).toUInt32 &&& Int32.toUInt32 31)).toInt32) hx hb dJ6_numberOfLeadingZeros_0f7a4_71 rfl ?_
      refine lv_topi (fun z18 ez18 => ?_)
      replace hR := lt_ok hR ez18
      refine lv_istore_n (lv' := [(0, .int z18), (1, .int z17)]) hx hb dJ6_numberOfLeadingZeros_0f7a4_72 rfl hl17 (by decide) rfl (fun ls19 hl19 => ?_)
      exact hB73 z18 z17 H locs ls19 hP hD hS (lv_sub hl19 [0, 1] rfl) hR
  have hB48 : ∀ (y0 : Int32) (y1 : Int32) (H : Heap) (locs : List Loc) (ls : Array Slot), va_P (dC, dI) vwCl (([] : va_W)) H → va_D A (([] : va_W)) → va_S A s.heap H locs → lv_has ls 2 [(0, .int y0), (1, .int y1)] → rr_J6_numberOfLeadingZeros_0f7a4_48 fu y0 y1 = some res → W p l e ({ frames := 0, cells := 0, slots := 0, locals := 0 } : Room) s m args below meth c H locs 0 0 Q (F0 m 48 ls []) := by
    intro  y0 y1 H locs ls hP hD hS hl hR
    unfold rr_J6_numberOfLeadingZeros_0f7a4_48 at hR
    refine lv_iload_n hx hb dJ6_numberOfLeadingZeros_0f7a4_48 rfl (lv_at hl 0 rfl) ?_
    refine lv_bipush (v := (16 : Int32)) hx hb dJ6_numberOfLeadingZeros_0f7a4_49 (by decide) ?_
    refine lv_icmp_lt (tgt := 61) hx hb dJ6_numberOfLeadingZeros_0f7a4_51 (by decide) (fun c12 => ?_) (fun c12 => ?_)
    · replace hR := ifp_ hR c12
      exact hB61 y0 y1 H locs ls hP hD hS (lv_sub hl [0, 1] rfl) hR
    · replace hR := ifn_ hR c12
      obtain ⟨z13, ez13⟩ : ∃ y : Int32, y = (y1 + (-4 : Int32)) := ⟨_, rfl⟩
      replace hR := lt_ok hR ez13
      refine lv_iinc (v := z13) (lv' := [(1, .int z13), (0, .int y0)]) hx hb dJ6_numberOfLeadingZeros_0f7a4_54 hl (k := 1) rfl (by rw [ez13]; rfl) (by decide) rfl (fun ls13 hl13 => ?_)
      refine lv_iload_n hx hb dJ6_numberOfLeadingZeros_0f7a4_57 rfl (lv_at hl13 1 rfl) ?_
      refine lv_iconst (v := (4 : Int32)) hx hb dJ6_numberOfLeadingZeros_0f7a4_58 (by decide) ?_
      refine lv_iushr (v := (y0.toUInt32 >>> ((4 : Int32).toUInt32 &&& Int32.toUInt32 31)).toInt32) hx hb dJ6_numberOfLeadingZeros_0f7a4_59 rfl ?_
      refine lv_topi (fun z14 ez14 => ?_)
      replace hR := lt_ok hR ez14
      refine lv_istore_n (lv' := [(0, .int z14), (1, .int z13)]) hx hb dJ6_numberOfLeadingZeros_0f7a4_60 rfl hl13 (by decide) rfl (fun ls15 hl15 => ?_)
      exact hB61 z14 z13 H locs ls15 hP hD hS (lv_sub hl15 [0, 1] rfl) hR
  have hB33 : ∀ (y0 : Int32) (y1 : Int32) (H : Heap) (locs : List Loc) (ls : Array Slot), va_P (dC, dI) vwCl (([] : va_W)) H → va_D A (([] : va_W)) → va_S A s.heap H locs → lv_has ls 2 [(0, .int y0), (1, .int y1)] → rr_J6_numberOfLeadingZeros_0f7a4_33 fu y0 y1 = some res → W p l e ({ frames := 0, cells := 0, slots := 0, locals := 0 } : Room) s m args below meth c H locs 0 0 Q (F0 m 33 ls []) := by
    intro  y0 y1 H locs ls hP hD hS hl hR
    unfold rr_J6_numberOfLeadingZeros_0f7a4_33 at hR
    refine lv_iload_n hx hb dJ6_numberOfLeadingZeros_0f7a4_33 rfl (lv_at hl 0 rfl) ?_
    refine lv_sipush (v := (256 : Int32)) hx hb dJ6_numberOfLeadingZeros_0f7a4_34 (by decide) ?_
    refine lv_icmp_lt (tgt := 48) hx hb dJ6_numberOfLeadingZeros_0f7a4_37 (by decide) (fun c8 => ?_) (fun c8 => ?_)
    · replace hR := ifp_ hR c8
      exact hB48 y0 y1 H locs ls hP hD hS (lv_sub hl [0, 1] rfl) hR
    · replace hR := ifn_ hR c8
      obtain ⟨z9, ez9⟩ : ∃ y : Int32, y = (y1 + (-8 : Int32)) := ⟨_, rfl⟩
      replace hR := lt_ok hR ez9
      refine lv_iinc (v := z9) (lv' := [(1, .int z9), (0, .int y0)]) hx hb dJ6_numberOfLeadingZeros_0f7a4_40 hl (k := 1) rfl (by rw [ez9]; rfl) (by decide) rfl (fun ls9 hl9 => ?_)
      refine lv_iload_n hx hb dJ6_numberOfLeadingZeros_0f7a4_43 rfl (lv_at hl9 1 rfl) ?_
      refine lv_bipush (v := (8 : Int32)) hx hb dJ6_numberOfLeadingZeros_0f7a4_44 (by decide) ?_
      refine lv_iushr (v := (y0.toUInt32 >>> ((8 : Int32).toUInt32 &&& Int32.toUInt32 31)).toInt32) hx hb dJ6_numberOfLeadingZeros_0f7a4_46 rfl ?_
      refine lv_topi (fun z10 ez10 => ?_)
      replace hR := lt_ok hR ez10
      refine lv_istore_n (lv' := [(0, .int z10), (1, .int z9)]) hx hb dJ6_numberOfLeadingZeros_0f7a4_47 rfl hl9 (by decide) rfl (fun ls11 hl11 => ?_)
      exact hB48 z10 z9 H locs ls11 hP hD hS (lv_sub hl11 [0, 1] rfl) hR
  unfold rr_J6_numberOfLeadingZeros_0f7a4 at hR
  refine lv_iload_n hx hb dJ6_numberOfLeadingZeros_0f7a4_0 rfl (lv_at hl 0 rfl) ?_
  refine lv_if_gt (tgt := 15) hx hb dJ6_numberOfLeadingZeros_0f7a4_1 (by decide) (fun c1 => ?_) (fun c1 => ?_)
  · replace hR := ifp_ hR c1
    refine lv_bipush (v := (31 : Int32)) hx hb dJ6_numberOfLeadingZeros_0f7a4_15 (by decide) ?_
    refine lv_istore_n (lv' := [(1, .int (31 : Int32)), (0, .int x0)]) hx hb dJ6_numberOfLeadingZeros_0f7a4_17 rfl hl (by decide) rfl (fun ls2 hl2 => ?_)
    refine lv_iload_n hx hb dJ6_numberOfLeadingZeros_0f7a4_18 rfl (lv_at hl2 1 rfl) ?_
    refine lv_ldcw (v := (65536 : Int32)) hx hb hown (hts (.constant RJ6 264 (65536)) (List.mem_of_getElem? (i := 1) rfl)) dJ6_numberOfLeadingZeros_0f7a4_19 ?_
    refine lv_icmp_lt (tgt := 33) hx hb dJ6_numberOfLeadingZeros_0f7a4_22 (by decide) (fun c3 => ?_) (fun c3 => ?_)
    · replace hR := ifp_ hR c3
      exact hB33 x0 (31 : Int32) s.heap [] ls2 hP hD hS (lv_sub hl2 [1, 0] rfl) hR
    · replace hR := ifn_ hR c3
      obtain ⟨z4, ez4⟩ : ∃ y : Int32, y = ((31 : Int32) + (-16 : Int32)) := ⟨_, rfl⟩
      replace hR := lt_ok hR ez4
      refine lv_iinc (v := z4) (lv' := [(1, .int z4), (0, .int x0)]) hx hb dJ6_numberOfLeadingZeros_0f7a4_25 hl2 (k := 0) rfl (by rw [ez4]; rfl) (by decide) rfl (fun ls4 hl4 => ?_)
      refine lv_iload_n hx hb dJ6_numberOfLeadingZeros_0f7a4_28 rfl (lv_at hl4 1 rfl) ?_
      refine lv_bipush (v := (16 : Int32)) hx hb dJ6_numberOfLeadingZeros_0f7a4_29 (by decide) ?_
      refine lv_iushr (v := (x0.toUInt32 >>> ((16 : Int32).toUInt32 &&& Int32.toUInt32 31)).toInt32) hx hb dJ6_numberOfLeadingZeros_0f7a4_31 rfl ?_
      refine lv_topi (fun z5 ez5 => ?_)
      replace hR := lt_ok hR ez5
      refine lv_istore_n (lv' := [(0, .int z5), (1, .int z4)]) hx hb dJ6_numberOfLeadingZeros_0f7a4_32 rfl hl4 (by decide) rfl (fun ls6 hl6 => ?_)
      exact hB33 z5 z4 s.heap [] ls6 hP hD hS (lv_sub hl6 [0, 1] rfl) hR
  · replace hR := ifn_ hR c1
    refine lv_iload_n hx hb dJ6_numberOfLeadingZeros_0f7a4_4 rfl (lv_at hl 0 rfl) ?_
    refine lv_if_ne (tgt := 13) hx hb dJ6_numberOfLeadingZeros_0f7a4_5 (by decide) (fun c7 => ?_) (fun c7 => ?_)
    · replace hR := ifn_ hR c7
      refine lv_iconst (v := (0 : Int32)) hx hb dJ6_numberOfLeadingZeros_0f7a4_13 (by decide) ?_
      subst hQe
      exact W.iret (v := (0 : Int32)) hx hb hr (fun t ht hW => ⟨⟨(0 : Int32), (), rfl, (Option.some.inj hR).symm, by rw [ht]; exact hP, va_K.moved hW.alike hK, hD⟩, hS.F ht⟩) hS.2.2 dJ6_numberOfLeadingZeros_0f7a4_14
    · replace hR := ifp_ hR c7
      refine lv_bipush (v := (32 : Int32)) hx hb dJ6_numberOfLeadingZeros_0f7a4_8 (by decide) ?_
      refine lv_goto (tgt := 14) hx hb dJ6_numberOfLeadingZeros_0f7a4_10 (by decide) ?_
      subst hQe
      exact W.iret (v := (32 : Int32)) hx hb hr (fun t ht hW => ⟨⟨(32 : Int32), (), rfl, (Option.some.inj hR).symm, by rw [ht]; exact hP, va_K.moved hW.alike hK, hD⟩, hS.F ht⟩) hS.2.2 dJ6_numberOfLeadingZeros_0f7a4_14
def rr_J13_numberOfLeadingZeros_95d88 (fu : Nat) (x0 : Int64) : Option (Int32) := lt_ (α := Int32) (x0.toUInt64 >>> ((32 : Int32).toInt64.toUInt64 &&& Int64.toUInt64 63)).toInt64.toInt32 (fun z1 => (if z1 = (0 : Int32) then (rr_J6_numberOfLeadingZeros_0f7a4 fu x0.toInt32).bind (fun q5 => some ((32 : Int32) + q5)) else (rr_J6_numberOfLeadingZeros_0f7a4 fu z1).bind (fun q4 => some q4)))
set_option maxHeartbeats 4000000 in
set_option maxRecDepth 100000 in
theorem cc_J13_numberOfLeadingZeros_95d88 (l : Launch) (dC : Nat → ClassId) (dI : Nat → Nat → Nat) (fu : Nat) (sz : Nat) (x0 : Int64) (res : Int32) (hR : rr_J13_numberOfLeadingZeros_95d88 fu x0 = some res) : Met l yJ13_numberOfLeadingZeros_95d88 wsJ13_numberOfLeadingZeros_95d88 ({ frames := 1, cells := 0, slots := 0, locals := 21 } : Room) (PcF [.long x0] sz (dC, dI) (([] : va_W)) ([])) (va_Qi (fun (r : Int32) (u : Unit) => res = r) (fun u t => at3_ (dC, dI) (([] : va_W)) ([]) (va_A (([] : va_W)) sz) t) (va_A (([] : va_W)) sz)) 0 0 (va_A (([] : va_W)) sz) := by
  refine Met.ofW (cc := cJ13_numberOfLeadingZeros_95d88) (maxL := 3) (ret := (some .int)) (by decide) rfl ?_
  intro p e s m args below meth c s₁ B hml hv
  obtain ⟨hav, hsz, hP, hK, hD0⟩ := hv
  have hx := B.exec
  have hb := B.bytes
  have hr := B.returns
  have hts := atoms_spec (ws := wsJ13_numberOfLeadingZeros_95d88) B.pre
  have hown : s.vm.findClass RJ13 = some m.cls := findClass_of_methodNamed B.named
  have hlocks := B.notSynchronized
  subst hsz
  have hD := hD0.self (sz := s.heap.size)
  clear hD0
  generalize hAe : va_A (([] : va_W)) s.heap.size = A at hD ⊢
  have hA : ∀ q : Nat, s.heap.size ≤ q → A q := fun q h => by rw [← hAe]; exact Or.inr h
  have hS : va_S A s.heap s.heap [] := va_S.rf
  generalize hQe : MQ below _ args s 0 0 A = Q
  rw [show entryFrame m args 3 = F0 m 0 ((lg_sl ([.long x0]) ++ List.replicate (3 - (lg_sl ([.long x0])).length) Slot.unset).toArray) [] from by rw [hav]; exact lg_entry_eq m _ _]
  have hl := lv_entry ([.long x0]) (n := 3) (Nat.le_of_ble_eq_true rfl)
  generalize (lg_sl ([.long x0]) ++ List.replicate (3 - (lg_sl ([.long x0])).length) Slot.unset).toArray = ls at hl ⊢
  have hl : lv_has ls 3 [(0, .long x0)] := hl
  unfold rr_J13_numberOfLeadingZeros_95d88 at hR
  refine lv_lload_n hx hb dJ13_numberOfLeadingZeros_95d88_0 rfl (lv_at hl 0 rfl) ?_
  refine lv_bipush (v := (32 : Int32)) hx hb dJ13_numberOfLeadingZeros_95d88_1 (by decide) ?_
  refine lv_lushr (v := (x0.toUInt64 >>> ((32 : Int32).toInt64.toUInt64 &&& Int64.toUInt64 63)).toInt64) hx hb dJ13_numberOfLeadingZeros_95d88_3 rfl ?_
  refine lv_l2i (v := (x0.toUInt64 >>> ((32 : Int32).toInt64.toUInt64 &&& Int64.toUInt64 63)).toInt64.toInt32) hx hb dJ13_numberOfLeadingZeros_95d88_4 rfl ?_
  refine lv_topi (fun z1 ez1 => ?_)
  replace hR := lt_ok hR ez1
  refine lv_istore_n (lv' := [(2, .int z1), (0, .long x0)]) hx hb dJ13_numberOfLeadingZeros_95d88_5 rfl hl (by decide) rfl (fun ls2 hl2 => ?_)
  refine lv_iload_n hx hb dJ13_numberOfLeadingZeros_95d88_6 rfl (lv_at hl2 0 rfl) ?_
  refine lv_if_ne (tgt := 21) hx hb dJ13_numberOfLeadingZeros_95d88_7 (by decide) (fun c3 => ?_) (fun c3 => ?_)
  · replace hR := ifn_ hR c3
    refine lv_iload_n hx hb dJ13_numberOfLeadingZeros_95d88_21 rfl (lv_at hl2 0 rfl) ?_
    have hR0 := ob_ok hR
    clear hR
    obtain ⟨q4, hq4, hR⟩ := hR0
    refine va_calli (va_runS (As := [.int z1]) (rest := []) ⟨hx, hb, hml, hown, hts⟩ (cc_J6_numberOfLeadingZeros_0f7a4 l dC dI fu s.heap.size z1 q4 hq4) (va_cwS 1 hts gJ13_numberOfLeadingZeros_95d88_J6_numberOfLeadingZeros_0f7a4 rfl rfl rfl (by decide +kernel) ⟨Nat.le_of_ble_eq_true rfl, Nat.le_of_ble_eq_true rfl⟩) (pf_s (nil_K hK) nil_P (nil_D (A := A))) rfl rfl hl2.1 rfl (lv_room (Nat.le_of_ble_eq_true rfl)) dJ13_numberOfLeadingZeros_95d88_22 ⟨Nat.le_refl _, Nat.le_refl _⟩) hS (fun q _ h => (fr_none hS hA) q h) (fr_none hS hA) (fun r4 v4 t4 H4 locs4 ht4 hvm4 hw4 hB4 hz4 hk4 hS4 => ?_)
    subst hw4
    have hP4 := jn_none hP hk4
    have hD4 := hD
    have hP4 : va_P (dC, dI) vwCl (([] : va_W)) H4 := hP4
    have hD4 : va_D A (([] : va_W)) := hD4
    clear hP hD hS hB4 hk4 hvm4 hz4 ht4
    subst hQe
    exact W.iret (v := q4) hx hb hr (fun t ht hW => ⟨⟨q4, (), rfl, (Option.some.inj hR).symm, by rw [ht]; exact hP4, va_K.moved hW.alike hK, hD4⟩, hS4.F ht⟩) hS4.2.2 dJ13_numberOfLeadingZeros_95d88_25
  · replace hR := ifp_ hR c3
    refine lv_bipush (v := (32 : Int32)) hx hb dJ13_numberOfLeadingZeros_95d88_10 (by decide) ?_
    refine lv_lload_n hx hb dJ13_numberOfLeadingZeros_95d88_12 rfl (lv_at hl2 1 rfl) ?_
    refine lv_l2i (v := x0.toInt32) hx hb dJ13_numberOfLeadingZeros_95d88_13 rfl ?_
    have hR0 := ob_ok hR
    clear hR
    obtain ⟨q5, hq5, hR⟩ := hR0
    refine va_calli (va_runS (As := [.int x0.toInt32]) (rest := [.int (32 : Int32)]) ⟨hx, hb, hml, hown, hts⟩ (cc_J6_numberOfLeadingZeros_0f7a4 l dC dI fu s.heap.size x0.toInt32 q5 hq5) (va_cwS 1 hts gJ13_numberOfLeadingZeros_95d88_J6_numberOfLeadingZeros_0f7a4 rfl rfl rfl (by decide +kernel) ⟨Nat.le_of_ble_eq_true rfl, Nat.le_of_ble_eq_true rfl⟩) (pf_s (nil_K hK) nil_P (nil_D (A := A))) rfl rfl hl2.1 rfl (lv_room (Nat.le_of_ble_eq_true rfl)) dJ13_numberOfLeadingZeros_95d88_14 ⟨Nat.le_refl _, Nat.le_refl _⟩) hS (fun q _ h => (fr_none hS hA) q h) (fr_none hS hA) (fun r5 v5 t5 H5 locs5 ht5 hvm5 hw5 hB5 hz5 hk5 hS5 => ?_)
    subst hw5
    have hP5 := jn_none hP hk5
    have hD5 := hD
    have hP5 : va_P (dC, dI) vwCl (([] : va_W)) H5 := hP5
    have hD5 : va_D A (([] : va_W)) := hD5
    clear hP hD hS hB5 hk5 hvm5 hz5 ht5
    refine lv_iadd hx hb dJ13_numberOfLeadingZeros_95d88_17 ?_
    refine lv_goto (tgt := 25) hx hb dJ13_numberOfLeadingZeros_95d88_18 (by decide) ?_
    subst hQe
    exact W.iret (v := ((32 : Int32) + q5)) hx hb hr (fun t ht hW => ⟨⟨((32 : Int32) + q5), (), rfl, (Option.some.inj hR).symm, by rw [ht]; exact hP5, va_K.moved hW.alike hK, hD5⟩, hS5.F ht⟩) hS5.2.2 dJ13_numberOfLeadingZeros_95d88_25
