def rr_X10_seen_219 (fu : Nat) (rec161 : Int32 → Int32 → Int32 → Int32 → Int32 → Int32 → Int32 → Int32 → ZT_10 → Option (Int32 × ZT_10)) (y4 : Int32) (y5 : Int32) (y6 : Int32) (y7 : Int32) (y8 : Int32) (y10 : Int32) (y11 : Int32) (u1 : ZT_10) : Option (Int32 × ZT_10) := (rr_X10_nextOrder fu y4 u1).bind (fun q35 => rec161 y4 y5 y6 y7 y8 y10 y11 q35.1 q35.2)
def rr_X10_seen_216 (fu : Nat) (rec161 : Int32 → Int32 → Int32 → Int32 → Int32 → Int32 → Int32 → Int32 → ZT_10 → Option (Int32 × ZT_10)) (y4 : Int32) (y5 : Int32) (y6 : Int32) (y7 : Int32) (y8 : Int32) (y10 : Int32) (y11 : Int32) (u1 : ZT_10) : Option (Int32 × ZT_10) := lt_ (α := Int32) (y11 + (1 : Int32)) (fun z43 => rr_X10_seen_219 fu rec161 y4 y5 y6 y7 y8 y10 z43 u1)
def rr_X10_seen_184_b (fu : Nat) (rec161 : Int32 → Int32 → Int32 → Int32 → Int32 → Int32 → Int32 → Int32 → ZT_10 → Option (Int32 × ZT_10)) (rec184 : Int32 → Int32 → Int32 → Int32 → Int32 → Int32 → Int32 → Int32 → ZT_10 → Option (Int32 × ZT_10)) (y4 : Int32) (y5 : Int32) (y6 : Int32) (y7 : Int32) (y8 : Int32) (y10 : Int32) (y11 : Int32) (y13 : Int32) (u1 : ZT_10) : Option (Int32 × ZT_10) := (if y4 ≤ y13 then rr_X10_seen_216 fu rec161 y4 y5 y6 y7 y8 y10 y11 u1 else (if y11 = (0 : Int32) then ck_ y13 6 (lt_ (α := Int32) (u1.2.2.2.2.2.2.1.2.1 y13.toNatClampNeg) (fun z40 => ck_ y13 6 (lt_ (α := Int32) (y13 + (1 : Int32)) (fun z42 => rec184 y4 y5 y6 y7 y8 y10 y11 z42 (u1.1, u1.2.1, u1.2.2.1, u1.2.2.2.1, u1.2.2.2.2.1, u1.2.2.2.2.2.1, (u1.2.2.2.2.2.2.1.1, u1.2.2.2.2.2.2.1.2.1, (upd u1.2.2.2.2.2.2.1.2.2 y13.toNatClampNeg z40)), u1.2.2.2.2.2.2.2))))) else rr_X10_seen_216 fu rec161 y4 y5 y6 y7 y8 y10 y11 u1))
def rr_X10_seen_184 (fu : Nat) (rec161 : Int32 → Int32 → Int32 → Int32 → Int32 → Int32 → Int32 → Int32 → ZT_10 → Option (Int32 × ZT_10)) (n : Nat) : Int32 → Int32 → Int32 → Int32 → Int32 → Int32 → Int32 → Int32 → ZT_10 → Option (Int32 × ZT_10) := lp_ (fun _ _ _ _ _ _ _ _ _ => none) (rr_X10_seen_184_b fu rec161) n
def rr_X10_seen_161_b (fu : Nat) (rec161 : Int32 → Int32 → Int32 → Int32 → Int32 → Int32 → Int32 → Int32 → ZT_10 → Option (Int32 × ZT_10)) (y4 : Int32) (y5 : Int32) (y6 : Int32) (y7 : Int32) (y8 : Int32) (y10 : Int32) (y11 : Int32) (y12 : Int32) (u1 : ZT_10) : Option (Int32 × ZT_10) := (if y12 = (0 : Int32) then (if y11 = (0 : Int32) then some ((-4 : Int32), u1) else (if (0 : Int32) ≤ y8 then ck_ y8 6 (some ((u1.2.2.2.2.2.2.1.2.2 y8.toNatClampNeg), u1)) else some (y11, u1))) else (rr_X10_isSeen fu y10 y5 y6 y7 u1).bind (fun q32 => (if q32 = (0 : Int32) then rr_X10_seen_219 fu rec161 y4 y5 y6 y7 y8 y10 y11 u1 else rr_X10_seen_184 fu rec161 fu y4 y5 y6 y7 y8 y10 y11 (0 : Int32) u1)))
def rr_X10_seen_161 (fu : Nat) (n : Nat) : Int32 → Int32 → Int32 → Int32 → Int32 → Int32 → Int32 → Int32 → ZT_10 → Option (Int32 × ZT_10) := lp_ (fun _ _ _ _ _ _ _ _ _ => none) (rr_X10_seen_161_b fu) n
def rr_X10_seen_159 (fu : Nat) (y4 : Int32) (y5 : Int32) (y6 : Int32) (y7 : Int32) (y8 : Int32) (y10 : Int32) (y11 : Int32) (w0 : Int32) (u1 : ZT_10) : Option (Int32 × ZT_10) := rr_X10_seen_161 fu fu y4 y5 y6 y7 y8 y10 y11 w0 u1
def rr_X10_seen_104_b (fu : Nat) (rec104 : Int32 → Int32 → Int32 → Int32 → Int32 → Int32 → Int32 → ZT_10 → Option (Int32 × ZT_10)) (y4 : Int32) (y5 : Int32) (y6 : Int32) (y7 : Int32) (y8 : Int32) (y10 : Int32) (y11 : Int32) (u1 : ZT_10) : Option (Int32 × ZT_10) := (if y4 ≤ y11 then (rr_X10_firstOrder fu u1).bind (fun q20 => (if y4 < y6 then rr_X10_seen_159 fu y4 y5 y6 y7 y8 y10 (0 : Int32) (0 : Int32) q20 else rr_X10_seen_159 fu y4 y5 y6 y7 y8 y10 (0 : Int32) (1 : Int32) q20)) else ck_ (y10 + y11) 96 ((rr_X10_in fu (u1.2.2.2.2.2.2.2.2.2.2.2 (y10 + y11).toNatClampNeg) (1 : Int64) (99 : Int64)).bind (fun q24 => (if q24 = (0 : Int32) then some ((-2 : Int32), u1) else lt_ (α := Int32) (y11 + (1 : Int32)) (fun z26 => rec104 y4 y5 y6 y7 y8 y10 z26 u1)))))
def rr_X10_seen_104 (fu : Nat) (n : Nat) : Int32 → Int32 → Int32 → Int32 → Int32 → Int32 → Int32 → ZT_10 → Option (Int32 × ZT_10) := lp_ (fun _ _ _ _ _ _ _ _ => none) (rr_X10_seen_104_b fu) n
def rr_X10_seen (fu : Nat) (x1 : Int32) (x2 : Int32) (x3 : Int32) (x4 : Int32) (x5 : Int32) (x6 : Int32) (x7 : Int32) (x8 : Int32) (s1 : ZT_10) : Option (Int32 × ZT_10) := (rr_X10_isSheet fu x1 x2).bind (fun q1 => (if q1 = (0 : Int32) then some ((-1 : Int32), s1) else (rr_X10_in fu x4.toInt64 (1 : Int64) (4 : Int64)).bind (fun q3 => (if q3 = (0 : Int32) then some ((-1 : Int32), s1) else (rr_X10_isSum fu x5).bind (fun q5 => (if q5 = (0 : Int32) then some ((-1 : Int32), s1) else (rr_X10_in fu x6.toInt64 (1 : Int64) (4 : Int64)).bind (fun q7 => (if q7 = (0 : Int32) then some ((-1 : Int32), s1) else (rr_X10_in fu x7.toInt64 (0 : Int64) (99 : Int64)).bind (fun q9 => (if q9 = (0 : Int32) then some ((-1 : Int32), s1) else (rr_X10_in fu x8.toInt64 (-1 : Int64) (x4 - (1 : Int32)).toInt64).bind (fun q11 => (if q11 = (0 : Int32) then some ((-1 : Int32), s1) else (rr_X10_lacksRow fu x1 x2 x3 x4 s1).bind (fun q13 => (if (0 : Int32) ≤ q13 then lt_ (α := Int32) (((24 : Int32) * x1) + x3) (fun z16 => rr_X10_seen_104 fu fu x4 x5 x6 x7 x8 z16 (0 : Int32) s1) else some (q13, s1)))))))))))))))
set_option maxHeartbeats 4000000 in
set_option maxRecDepth 100000 in
theorem cc_X10_seen (l : Launch) (dC : Nat → ClassId) (dI : Nat → Nat → Nat) (fu : Nat) (a1 : Nat → Nat) (k1 : Nat → ClassId) (sz : Nat) (x1 : Int32) (x2 : Int32) (x3 : Int32) (x4 : Int32) (x5 : Int32) (x6 : Int32) (x7 : Int32) (x8 : Int32) (s1 : ZT_10) (res : Int32 × ZT_10) (hR : rr_X10_seen fu x1 x2 x3 x4 x5 x6 x7 x8 s1 = some res) : Met l yX10_seen wsX10_seen ({ frames := 2, cells := 0, slots := 0, locals := 49 } : Room) (PcF [.ref (a1 0), .int x1, .int x2, .int x3, .int x4, .int x5, .int x6, .int x7, .int x8] sz (dC, dI) (zc_10 a1 k1 s1) (zt_10 k1)) (va_Qi (fun (r : Int32) (u : ZT_10) => res = (r, u)) (fun u t => at3_ (dC, dI) (zc_10 a1 k1 u) (zt_10 k1) (va_A (zc_10 a1 k1 s1) sz) t) (va_A (zc_10 a1 k1 s1) sz)) 0 0 (va_A (zc_10 a1 k1 s1) sz) := by
  refine Met.ofW (cc := cX10_seen) (maxL := 14) (ret := (some .int)) (by decide) rfl ?_
  intro p e s m args below meth c s₁ B hml hv
  obtain ⟨hav, hsz, hP, hK, hD0⟩ := hv
  have hx := B.exec
  have hb := B.bytes
  have hr := B.returns
  have hts := atoms_spec (ws := wsX10_seen) B.pre
  have hown : s.vm.findClass RX10 = some m.cls := findClass_of_methodNamed B.named
  have hlocks := B.notSynchronized
  have hin10 : ∀ w ∈ wsX100, w ∈ wsX10_seen := fun w h => List.mem_cons_of_mem _ (List.mem_append_right _ h)
  subst hsz
  have hD := hD0.self (sz := s.heap.size)
  clear hD0
  generalize hAe : va_A (zc_10 a1 k1 s1) s.heap.size = A at hD ⊢
  have hA : ∀ q : Nat, s.heap.size ≤ q → A q := fun q h => by rw [← hAe]; exact Or.inr h
  have hS : va_S A s.heap s.heap [] := va_S.rf
  generalize hQe : MQ below _ args s 0 0 A = Q
  rw [show entryFrame m args 14 = F0 m 0 ((lg_sl ([.ref (a1 0), .int x1, .int x2, .int x3, .int x4, .int x5, .int x6, .int x7, .int x8]) ++ List.replicate (14 - (lg_sl ([.ref (a1 0), .int x1, .int x2, .int x3, .int x4, .int x5, .int x6, .int x7, .int x8])).length) Slot.unset).toArray) [] from by rw [hav]; exact lg_entry_eq m _ _]
  have hl := lv_entry ([.ref (a1 0), .int x1, .int x2, .int x3, .int x4, .int x5, .int x6, .int x7, .int x8]) (n := 14) (Nat.le_of_ble_eq_true rfl)
  generalize (lg_sl ([.ref (a1 0), .int x1, .int x2, .int x3, .int x4, .int x5, .int x6, .int x7, .int x8]) ++ List.replicate (14 - (lg_sl ([.ref (a1 0), .int x1, .int x2, .int x3, .int x4, .int x5, .int x6, .int x7, .int x8])).length) Slot.unset).toArray = ls at hl ⊢
  have hl : lv_has ls 14 [(0, .ref (a1 0)), (1, .int x1), (2, .int x2), (3, .int x3), (4, .int x4), (5, .int x5), (6, .int x6), (7, .int x7), (8, .int x8)] := hl
  have hB219 : ∀ (rec161 : Int32 → Int32 → Int32 → Int32 → Int32 → Int32 → Int32 → Int32 → ZT_10 → Option (Int32 × ZT_10)) (hrec161 : ∀ (y4 : Int32) (y5 : Int32) (y6 : Int32) (y7 : Int32) (y8 : Int32) (y10 : Int32) (y11 : Int32) (y12 : Int32) (u1 : ZT_10) (H : Heap) (locs : List Loc) (ls : Array Slot), va_P (dC, dI) vwCl (zc_10 a1 k1 u1) H → va_D A (zc_10 a1 k1 u1) → va_S A s.heap H locs → lv_has ls 14 [(0, .ref (a1 0)), (4, .int y4), (5, .int y5), (6, .int y6), (7, .int y7), (8, .int y8), (10, .int y10), (11, .int y11), (12, .int y12)] → rec161 y4 y5 y6 y7 y8 y10 y11 y12 u1 = some res → W p l e ({ frames := 2, cells := 0, slots := 0, locals := 49 } : Room) s m args below meth c H locs 0 0 Q (F0 m 161 ls [])), ∀ (y4 : Int32) (y5 : Int32) (y6 : Int32) (y7 : Int32) (y8 : Int32) (y10 : Int32) (y11 : Int32) (u1 : ZT_10) (H : Heap) (locs : List Loc) (ls : Array Slot), va_P (dC, dI) vwCl (zc_10 a1 k1 u1) H → va_D A (zc_10 a1 k1 u1) → va_S A s.heap H locs → lv_has ls 14 [(0, .ref (a1 0)), (4, .int y4), (5, .int y5), (6, .int y6), (7, .int y7), (8, .int y8), (10, .int y10), (11, .int y11)] → rr_X10_seen_219 fu rec161 y4 y5 y6 y7 y8 y10 y11 u1 = some res → W p l e ({ frames := 2, cells := 0, slots := 0, locals := 49 } : Room) s m args below meth c H locs 0 0 Q (F0 m 219 ls []) := by
    intro rec161 hrec161 y4 y5 y6 y7 y8 y10 y11 u1 H locs ls hP hD hS hl hR
    unfold rr_X10_seen_219 at hR
    refine lv_aload_n hx hb dX10_seen_219 rfl (lv_at hl 0 rfl) ?_
    refine lv_iload hx hb dX10_seen_220 (lv_at hl 1 rfl) ?_
    have hR0 := ob_ok hR
    clear hR
    obtain ⟨q35, hq35, hR⟩ := hR0
    refine va_calli (va_runV (As := [.int y4]) (rest := []) ⟨hx, hb, hml, hown, hts⟩ (cc_X10_nextOrder l dC dI fu a1 k1 H.size y4 u1 q35 hq35) (cwV 1 hts gX10_seen_X10_nextOrder rfl rfl rfl (by decide +kernel) ⟨Nat.le_of_ble_eq_true rfl, Nat.le_of_ble_eq_true rfl⟩) (pf_v hK hP hD 10 0 rfl rfl rfl) rfl rfl hl.1 rfl (lv_room (Nat.le_of_ble_eq_true rfl)) dX10_seen_222 ⟨Nat.le_refl _, Nat.le_refl _⟩) hS (fun q _ h => (fr_all hD hS hA) q h) (fr_all hD hS hA) (fun r35 v35 t35 H35 locs35 ht35 hvm35 hw35 hB35 hz35 hk35 hS35 => ?_)
    obtain rfl : r35 = q35.1 := (congrArg Prod.fst hw35).symm
    obtain rfl : v35 = q35.2 := (congrArg Prod.snd hw35).symm
    obtain ⟨hP35, hD35⟩ := jn_all hD hS hA ht35 hB35
    have hP35 : va_P (dC, dI) vwCl (zc_10 a1 k1 q35.2) H35 := hP35
    have hD35 : va_D A (zc_10 a1 k1 q35.2) := hD35
    clear hP hD hS hB35 hk35 hvm35 hz35 ht35
    refine lv_istore (lv' := [(12, .int q35.1), (0, .ref (a1 0)), (4, .int y4), (5, .int y5), (6, .int y6), (7, .int y7), (8, .int y8), (10, .int y10), (11, .int y11)]) hx hb dX10_seen_225 hl (by decide) rfl (fun ls36 hl36 => ?_)
    refine lv_goto (tgt := 161) hx hb dX10_seen_227 (by decide) ?_
    exact hrec161 y4 y5 y6 y7 y8 y10 y11 q35.1 q35.2 H35 locs35 ls36 hP35 hD35 hS35 (lv_sub hl36 [1, 2, 3, 4, 5, 6, 7, 8, 0] rfl) hR
  have hB216 : ∀ (rec161 : Int32 → Int32 → Int32 → Int32 → Int32 → Int32 → Int32 → Int32 → ZT_10 → Option (Int32 × ZT_10)) (hrec161 : ∀ (y4 : Int32) (y5 : Int32) (y6 : Int32) (y7 : Int32) (y8 : Int32) (y10 : Int32) (y11 : Int32) (y12 : Int32) (u1 : ZT_10) (H : Heap) (locs : List Loc) (ls : Array Slot), va_P (dC, dI) vwCl (zc_10 a1 k1 u1) H → va_D A (zc_10 a1 k1 u1) → va_S A s.heap H locs → lv_has ls 14 [(0, .ref (a1 0)), (4, .int y4), (5, .int y5), (6, .int y6), (7, .int y7), (8, .int y8), (10, .int y10), (11, .int y11), (12, .int y12)] → rec161 y4 y5 y6 y7 y8 y10 y11 y12 u1 = some res → W p l e ({ frames := 2, cells := 0, slots := 0, locals := 49 } : Room) s m args below meth c H locs 0 0 Q (F0 m 161 ls [])), ∀ (y4 : Int32) (y5 : Int32) (y6 : Int32) (y7 : Int32) (y8 : Int32) (y10 : Int32) (y11 : Int32) (u1 : ZT_10) (H : Heap) (locs : List Loc) (ls : Array Slot), va_P (dC, dI) vwCl (zc_10 a1 k1 u1) H → va_D A (zc_10 a1 k1 u1) → va_S A s.heap H locs → lv_has ls 14 [(0, .ref (a1 0)), (4, .int y4), (5, .int y5), (6, .int y6), (7, .int y7), (8, .int y8), (10, .int y10), (11, .int y11)] → rr_X10_seen_216 fu rec161 y4 y5 y6 y7 y8 y10 y11 u1 = some res → W p l e ({ frames := 2, cells := 0, slots := 0, locals := 49 } : Room) s m args below meth c H locs 0 0 Q (F0 m 216 ls []) := by
    intro rec161 hrec161 y4 y5 y6 y7 y8 y10 y11 u1 H locs ls hP hD hS hl hR
    unfold rr_X10_seen_216 at hR
    obtain ⟨z43, ez43⟩ : ∃ y : Int32, y = (y11 + (1 : Int32)) := ⟨_, rfl⟩
    replace hR := lt_ok hR ez43
    refine lv_iinc (v := z43) (lv' := [(11, .int z43), (0, .ref (a1 0)), (4, .int y4), (5, .int y5), (6, .int y6), (7, .int y7), (8, .int y8), (10, .int y10)]) hx hb dX10_seen_216 hl (k := 7) rfl (by rw [ez43]; rfl) (by decide) rfl (fun ls43 hl43 => ?_)
    exact hB219 rec161 hrec161 y4 y5 y6 y7 y8 y10 z43 u1 H locs ls43 hP hD hS (lv_sub hl43 [1, 2, 3, 4, 5, 6, 7, 0] rfl) hR
  have hB184 : ∀ (rec161 : Int32 → Int32 → Int32 → Int32 → Int32 → Int32 → Int32 → Int32 → ZT_10 → Option (Int32 × ZT_10)) (hrec161 : ∀ (y4 : Int32) (y5 : Int32) (y6 : Int32) (y7 : Int32) (y8 : Int32) (y10 : Int32) (y11 : Int32) (y12 : Int32) (u1 : ZT_10) (H : Heap) (locs : List Loc) (ls : Array Slot), va_P (dC, dI) vwCl (zc_10 a1 k1 u1) H → va_D A (zc_10 a1 k1 u1) → va_S A s.heap H locs → lv_has ls 14 [(0, .ref (a1 0)), (4, .int y4), (5, .int y5), (6, .int y6), (7, .int y7), (8, .int y8), (10, .int y10), (11, .int y11), (12, .int y12)] → rec161 y4 y5 y6 y7 y8 y10 y11 y12 u1 = some res → W p l e ({ frames := 2, cells := 0, slots := 0, locals := 49 } : Room) s m args below meth c H locs 0 0 Q (F0 m 161 ls [])), ∀ (n : Nat), ∀ (y4 : Int32) (y5 : Int32) (y6 : Int32) (y7 : Int32) (y8 : Int32) (y10 : Int32) (y11 : Int32) (y13 : Int32) (u1 : ZT_10) (H : Heap) (locs : List Loc) (ls : Array Slot), va_P (dC, dI) vwCl (zc_10 a1 k1 u1) H → va_D A (zc_10 a1 k1 u1) → va_S A s.heap H locs → lv_has ls 14 [(0, .ref (a1 0)), (4, .int y4), (5, .int y5), (6, .int y6), (7, .int y7), (8, .int y8), (10, .int y10), (11, .int y11), (13, .int y13)] → rr_X10_seen_184 fu rec161 n y4 y5 y6 y7 y8 y10 y11 y13 u1 = some res → W p l e ({ frames := 2, cells := 0, slots := 0, locals := 49 } : Room) s m args below meth c H locs 0 0 Q (F0 m 184 ls []) := by
    intro rec161 hrec161 n
    induction n with
    | zero => intro y4 y5 y6 y7 y8 y10 y11 y13 u1 H locs ls hP hD hS hl hR; exact absurd hR (by intro h; cases h)
    | succ n ih =>
      intro y4 y5 y6 y7 y8 y10 y11 y13 u1 H locs ls hP hD hS hl hR
      replace hR : rr_X10_seen_184_b fu rec161 (rr_X10_seen_184 fu rec161 n) y4 y5 y6 y7 y8 y10 y11 y13 u1 = some res := hR
      unfold rr_X10_seen_184_b at hR
      refine lv_iload hx hb dX10_seen_184 (lv_at hl 8 rfl) ?_
      refine lv_iload hx hb dX10_seen_186 (lv_at hl 1 rfl) ?_
      refine lv_icmp_ge (tgt := 216) hx hb dX10_seen_188 (by decide) (fun c37 => ?_) (fun c37 => ?_)
      · replace hR := ifp_ hR c37
        exact hB216 rec161 hrec161 y4 y5 y6 y7 y8 y10 y11 u1 H locs ls hP hD hS (lv_sub hl [0, 1, 2, 3, 4, 5, 6, 7] rfl) hR
      · replace hR := ifn_ hR c37
        refine lv_iload hx hb dX10_seen_191 (lv_at hl 7 rfl) ?_
        refine lv_if_ne (tgt := 216) hx hb dX10_seen_193 (by decide) (fun c38 => ?_) (fun c38 => ?_)
        · replace hR := ifn_ hR c38
          exact hB216 rec161 hrec161 y4 y5 y6 y7 y8 y10 y11 u1 H locs ls hP hD hS (lv_sub hl [0, 1, 2, 3, 4, 5, 6, 7] rfl) hR
        · replace hR := ifp_ hR c38
          refine lv_aload_n hx hb dX10_seen_196 rfl (lv_at hl 0 rfl) ?_
          refine va_get (D := (dC, dI)) (ci := 10) (v := .ref (a1 14)) (C := RX10) (T := TX10) (N := 35) hx hb hts hin10 hown hK hP 0 rfl rfl 26 (by decide) (hts (.fieldLink RX10 49 "OldestCoinsModel" "best" "[I") (List.mem_of_getElem? (i := 5) rfl)) (fun _ h9 => h9) rfl dX10_seen_197 ?_
          refine lv_iload hx hb dX10_seen_200 (lv_at hl 8 rfl) ?_
          refine lv_aload_n hx hb dX10_seen_202 rfl (lv_at hl 0 rfl) ?_
          refine va_get (D := (dC, dI)) (ci := 10) (v := .ref (a1 13)) (C := RX10) (T := TX10) (N := 35) hx hb hts hin10 hown hK hP 0 rfl rfl 25 (by decide) (hts (.fieldLink RX10 46 "OldestCoinsModel" "order" "[I") (List.mem_of_getElem? (i := 6) rfl)) (fun _ h9 => h9) rfl dX10_seen_203 ?_
          refine lv_iload hx hb dX10_seen_206 (lv_at hl 8 rfl) ?_
          have i39 := (ck_ok hR).1
          replace hR := (ck_ok hR).2
          refine va_iald (f := u1.2.2.2.2.2.2.1.2.1) hx hb hK hP 13 12 rfl rfl i39 dX10_seen_208 ?_
          refine lv_topi (fun z40 ez40 => ?_)
          replace hR := lt_ok hR ez40
          have i41 := (ck_ok hR).1
          replace hR := (ck_ok hR).2
          refine va_iast (f := u1.2.2.2.2.2.2.1.2.2) hx hb hK hP hD hS 14 13 rfl rfl i41 dX10_seen_209 (fun H41 locs41 hP41 hD41 hS41 => ?_)
          have hP41 : va_P (dC, dI) vwCl (zc_10 a1 k1 (u1.1, u1.2.1, u1.2.2.1, u1.2.2.2.1, u1.2.2.2.2.1, u1.2.2.2.2.2.1, (u1.2.2.2.2.2.2.1.1, u1.2.2.2.2.2.2.1.2.1, (upd u1.2.2.2.2.2.2.1.2.2 y13.toNatClampNeg z40)), u1.2.2.2.2.2.2.2)) H41 := hP41
          have hD41 : va_D A (zc_10 a1 k1 (u1.1, u1.2.1, u1.2.2.1, u1.2.2.2.1, u1.2.2.2.2.1, u1.2.2.2.2.2.1, (u1.2.2.2.2.2.2.1.1, u1.2.2.2.2.2.2.1.2.1, (upd u1.2.2.2.2.2.2.1.2.2 y13.toNatClampNeg z40)), u1.2.2.2.2.2.2.2)) := hD41
          clear hP hD hS
          obtain ⟨z42, ez42⟩ : ∃ y : Int32, y = (y13 + (1 : Int32)) := ⟨_, rfl⟩
          replace hR := lt_ok hR ez42
          refine lv_iinc (v := z42) (lv' := [(13, .int z42), (0, .ref (a1 0)), (4, .int y4), (5, .int y5), (6, .int y6), (7, .int y7), (8, .int y8), (10, .int y10), (11, .int y11)]) hx hb dX10_seen_210 hl (k := 8) rfl (by rw [ez42]; rfl) (by decide) rfl (fun ls42 hl42 => ?_)
          refine lv_goto (tgt := 184) hx hb dX10_seen_213 (by decide) ?_
          exact ih y4 y5 y6 y7 y8 y10 y11 z42 (u1.1, u1.2.1, u1.2.2.1, u1.2.2.2.1, u1.2.2.2.2.1, u1.2.2.2.2.2.1, (u1.2.2.2.2.2.2.1.1, u1.2.2.2.2.2.2.1.2.1, (upd u1.2.2.2.2.2.2.1.2.2 y13.toNatClampNeg z40)), u1.2.2.2.2.2.2.2) H41 locs41 ls42 hP41 hD41 hS41 (lv_sub hl42 [1, 2, 3, 4, 5, 6, 7, 8, 0] rfl) hR
  have hB161 : ∀ (n : Nat), ∀ (y4 : Int32) (y5 : Int32) (y6 : Int32) (y7 : Int32) (y8 : Int32) (y10 : Int32) (y11 : Int32) (y12 : Int32) (u1 : ZT_10) (H : Heap) (locs : List Loc) (ls : Array Slot), va_P (dC, dI) vwCl (zc_10 a1 k1 u1) H → va_D A (zc_10 a1 k1 u1) → va_S A s.heap H locs → lv_has ls 14 [(0, .ref (a1 0)), (4, .int y4), (5, .int y5), (6, .int y6), (7, .int y7), (8, .int y8), (10, .int y10), (11, .int y11), (12, .int y12)] → rr_X10_seen_161 fu n y4 y5 y6 y7 y8 y10 y11 y12 u1 = some res → W p l e ({ frames := 2, cells := 0, slots := 0, locals := 49 } : Room) s m args below meth c H locs 0 0 Q (F0 m 161 ls []) := by
    intro  n
    induction n with
    | zero => intro y4 y5 y6 y7 y8 y10 y11 y12 u1 H locs ls hP hD hS hl hR; exact absurd hR (by intro h; cases h)
    | succ n ih =>
      intro y4 y5 y6 y7 y8 y10 y11 y12 u1 H locs ls hP hD hS hl hR
      replace hR : rr_X10_seen_161_b fu (rr_X10_seen_161 fu n) y4 y5 y6 y7 y8 y10 y11 y12 u1 = some res := hR
      unfold rr_X10_seen_161_b at hR
      refine lv_iload hx hb dX10_seen_161 (lv_at hl 8 rfl) ?_
      refine lv_if_eq (tgt := 230) hx hb dX10_seen_163 (by decide) (fun c28 => ?_) (fun c28 => ?_)
      · replace hR := ifp_ hR c28
        refine lv_iload hx hb dX10_seen_230 (lv_at hl 7 rfl) ?_
        refine lv_if_ne (tgt := 240) hx hb dX10_seen_232 (by decide) (fun c29 => ?_) (fun c29 => ?_)
        · replace hR := ifn_ hR c29
          refine lv_iload hx hb dX10_seen_240 (lv_at hl 5 rfl) ?_
          refine lv_if_ge (tgt := 250) hx hb dX10_seen_242 (by decide) (fun c30 => ?_) (fun c30 => ?_)
          · replace hR := ifp_ hR c30
            refine lv_aload_n hx hb dX10_seen_250 rfl (lv_at hl 0 rfl) ?_
            refine va_get (D := (dC, dI)) (ci := 10) (v := .ref (a1 14)) (C := RX10) (T := TX10) (N := 35) hx hb hts hin10 hown hK hP 0 rfl rfl 26 (by decide) (hts (.fieldLink RX10 49 "OldestCoinsModel" "best" "[I") (List.mem_of_getElem? (i := 5) rfl)) (fun _ h9 => h9) rfl dX10_seen_251 ?_
            refine lv_iload hx hb dX10_seen_254 (lv_at hl 5 rfl) ?_
            have i31 := (ck_ok hR).1
            replace hR := (ck_ok hR).2
            refine va_iald (f := u1.2.2.2.2.2.2.1.2.2) hx hb hK hP 14 13 rfl rfl i31 dX10_seen_256 ?_
            subst hQe
            exact W.iret (v := (u1.2.2.2.2.2.2.1.2.2 y8.toNatClampNeg)) hx hb hr (fun t ht hW => ⟨⟨(u1.2.2.2.2.2.2.1.2.2 y8.toNatClampNeg), u1, rfl, (Option.some.inj hR).symm, by rw [ht]; exact hP, va_K.moved hW.alike hK, hD⟩, hS.F ht⟩) hS.2.2 dX10_seen_257
          · replace hR := ifn_ hR c30
            refine lv_iload hx hb dX10_seen_245 (lv_at hl 7 rfl) ?_
            refine lv_goto (tgt := 257) hx hb dX10_seen_247 (by decide) ?_
            subst hQe
            exact W.iret (v := y11) hx hb hr (fun t ht hW => ⟨⟨y11, u1, rfl, (Option.some.inj hR).symm, by rw [ht]; exact hP, va_K.moved hW.alike hK, hD⟩, hS.F ht⟩) hS.2.2 dX10_seen_257
        · replace hR := ifp_ hR c29
          refine lv_bipush (v := (-4 : Int32)) hx hb dX10_seen_235 (by decide) ?_
          refine lv_goto (tgt := 257) hx hb dX10_seen_237 (by decide) ?_
          subst hQe
          exact W.iret (v := (-4 : Int32)) hx hb hr (fun t ht hW => ⟨⟨(-4 : Int32), u1, rfl, (Option.some.inj hR).symm, by rw [ht]; exact hP, va_K.moved hW.alike hK, hD⟩, hS.F ht⟩) hS.2.2 dX10_seen_257
      · replace hR := ifn_ hR c28
        refine lv_aload_n hx hb dX10_seen_166 rfl (lv_at hl 0 rfl) ?_
        refine lv_iload hx hb dX10_seen_167 (lv_at hl 6 rfl) ?_
        refine lv_iload hx hb dX10_seen_169 (lv_at hl 2 rfl) ?_
        refine lv_iload hx hb dX10_seen_171 (lv_at hl 3 rfl) ?_
        refine lv_iload hx hb dX10_seen_173 (lv_at hl 4 rfl) ?_
        have hR0 := ob_ok hR
        clear hR
        obtain ⟨q32, hq32, hR⟩ := hR0
        refine va_calli (va_runV (As := [.int y10, .int y5, .int y6, .int y7]) (rest := []) ⟨hx, hb, hml, hown, hts⟩ (cc_X10_isSeen l dC dI fu a1 k1 H.size y10 y5 y6 y7 u1 q32 hq32) (cwV 4 hts gX10_seen_X10_isSeen rfl rfl rfl (by decide +kernel) ⟨Nat.le_of_ble_eq_true rfl, Nat.le_of_ble_eq_true rfl⟩) (pf_v hK hP hD 10 0 rfl rfl rfl) rfl rfl hl.1 rfl (lv_room (Nat.le_of_ble_eq_true rfl)) dX10_seen_175 ⟨Nat.le_refl _, Nat.le_refl _⟩) hS (fun q _ h => (fr_all hD hS hA) q h) (fr_all hD hS hA) (fun r32 v32 t32 H32 locs32 ht32 hvm32 hw32 hB32 hz32 hk32 hS32 => ?_)
        subst hw32
        obtain ⟨hP32, hD32⟩ := jn_all hD hS hA ht32 hB32
        have hP32 : va_P (dC, dI) vwCl (zc_10 a1 k1 u1) H32 := hP32
        have hD32 : va_D A (zc_10 a1 k1 u1) := hD32
        clear hP hD hS hB32 hk32 hvm32 hz32 ht32
        refine lv_if_eq (tgt := 219) hx hb dX10_seen_178 (by decide) (fun c33 => ?_) (fun c33 => ?_)
        · replace hR := ifp_ hR c33
          exact hB219 (rr_X10_seen_161 fu n) ih y4 y5 y6 y7 y8 y10 y11 u1 H32 locs32 ls hP32 hD32 hS32 (lv_sub hl [0, 1, 2, 3, 4, 5, 6, 7] rfl) hR
        · replace hR := ifn_ hR c33
          refine lv_iconst (v := (0 : Int32)) hx hb dX10_seen_181 (by decide) ?_
          refine lv_istore (lv' := [(13, .int (0 : Int32)), (0, .ref (a1 0)), (4, .int y4), (5, .int y5), (6, .int y6), (7, .int y7), (8, .int y8), (10, .int y10), (11, .int y11), (12, .int y12)]) hx hb dX10_seen_182 hl (by decide) rfl (fun ls34 hl34 => ?_)
          exact hB184 (rr_X10_seen_161 fu n) ih fu y4 y5 y6 y7 y8 y10 y11 (0 : Int32) u1 H32 locs32 ls34 hP32 hD32 hS32 (lv_sub hl34 [1, 2, 3, 4, 5, 6, 7, 8, 0] rfl) hR
  have hB159 : ∀ (y4 : Int32) (y5 : Int32) (y6 : Int32) (y7 : Int32) (y8 : Int32) (y10 : Int32) (y11 : Int32) (w0 : Int32) (u1 : ZT_10) (H : Heap) (locs : List Loc) (ls : Array Slot), va_P (dC, dI) vwCl (zc_10 a1 k1 u1) H → va_D A (zc_10 a1 k1 u1) → va_S A s.heap H locs → lv_has ls 14 [(0, .ref (a1 0)), (4, .int y4), (5, .int y5), (6, .int y6), (7, .int y7), (8, .int y8), (10, .int y10), (11, .int y11)] → rr_X10_seen_159 fu y4 y5 y6 y7 y8 y10 y11 w0 u1 = some res → W p l e ({ frames := 2, cells := 0, slots := 0, locals := 49 } : Room) s m args below meth c H locs 0 0 Q (F0 m 159 ls [.int w0]) := by
    intro  y4 y5 y6 y7 y8 y10 y11 w0 u1 H locs ls hP hD hS hl hR
    unfold rr_X10_seen_159 at hR
    refine lv_istore (lv' := [(12, .int w0), (0, .ref (a1 0)), (4, .int y4), (5, .int y5), (6, .int y6), (7, .int y7), (8, .int y8), (10, .int y10), (11, .int y11)]) hx hb dX10_seen_159 hl (by decide) rfl (fun ls27 hl27 => ?_)
    exact hB161 fu y4 y5 y6 y7 y8 y10 y11 w0 u1 H locs ls27 hP hD hS (lv_sub hl27 [1, 2, 3, 4, 5, 6, 7, 8, 0] rfl) hR
  have hB104 : ∀ (n : Nat), ∀ (y4 : Int32) (y5 : Int32) (y6 : Int32) (y7 : Int32) (y8 : Int32) (y10 : Int32) (y11 : Int32) (u1 : ZT_10) (H : Heap) (locs : List Loc) (ls : Array Slot), va_P (dC, dI) vwCl (zc_10 a1 k1 u1) H → va_D A (zc_10 a1 k1 u1) → va_S A s.heap H locs → lv_has ls 14 [(0, .ref (a1 0)), (4, .int y4), (5, .int y5), (6, .int y6), (7, .int y7), (8, .int y8), (10, .int y10), (11, .int y11)] → rr_X10_seen_104 fu n y4 y5 y6 y7 y8 y10 y11 u1 = some res → W p l e ({ frames := 2, cells := 0, slots := 0, locals := 49 } : Room) s m args below meth c H locs 0 0 Q (F0 m 104 ls []) := by
    intro  n
    induction n with
    | zero => intro y4 y5 y6 y7 y8 y10 y11 u1 H locs ls hP hD hS hl hR; exact absurd hR (by intro h; cases h)
    | succ n ih =>
      intro y4 y5 y6 y7 y8 y10 y11 u1 H locs ls hP hD hS hl hR
      replace hR : rr_X10_seen_104_b fu (rr_X10_seen_104 fu n) y4 y5 y6 y7 y8 y10 y11 u1 = some res := hR
      unfold rr_X10_seen_104_b at hR
      refine lv_iload hx hb dX10_seen_104 (lv_at hl 7 rfl) ?_
      refine lv_iload hx hb dX10_seen_106 (lv_at hl 1 rfl) ?_
      refine lv_icmp_ge (tgt := 140) hx hb dX10_seen_108 (by decide) (fun c19 => ?_) (fun c19 => ?_)
      · replace hR := ifp_ hR c19
        refine lv_aload_n hx hb dX10_seen_140 rfl (lv_at hl 0 rfl) ?_
        have hR0 := ob_ok hR
        clear hR
        obtain ⟨q20, hq20, hR⟩ := hR0
        refine va_callv (va_runV (As := []) (rest := []) ⟨hx, hb, hml, hown, hts⟩ (cc_X10_firstOrder l dC dI fu a1 k1 H.size u1 q20 hq20) (cwV 0 hts gX10_seen_X10_firstOrder rfl rfl rfl (by decide +kernel) ⟨Nat.le_of_ble_eq_true rfl, Nat.le_of_ble_eq_true rfl⟩) (pf_v hK hP hD 10 0 rfl rfl rfl) rfl rfl hl.1 rfl (lv_room (Nat.le_of_ble_eq_true rfl)) dX10_seen_141 ⟨Nat.le_refl _, Nat.le_refl _⟩) hS (fun q _ h => (fr_all hD hS hA) q h) (fr_all hD hS hA) (fun v20 t20 H20 locs20 ht20 hvm20 hw20 hB20 hz20 hk20 hS20 => ?_)
        subst hw20
        obtain ⟨hP20, hD20⟩ := jn_all hD hS hA ht20 hB20
        have hP20 : va_P (dC, dI) vwCl (zc_10 a1 k1 q20) H20 := hP20
        have hD20 : va_D A (zc_10 a1 k1 q20) := hD20
        clear hP hD hS hB20 hk20 hvm20 hz20 ht20
        refine lv_iconst (v := (0 : Int32)) hx hb dX10_seen_144 (by decide) ?_
        refine lv_istore (lv' := [(11, .int (0 : Int32)), (0, .ref (a1 0)), (4, .int y4), (5, .int y5), (6, .int y6), (7, .int y7), (8, .int y8), (10, .int y10)]) hx hb dX10_seen_145 hl (by decide) rfl (fun ls21 hl21 => ?_)
        refine lv_iload hx hb dX10_seen_147 (lv_at hl21 4 rfl) ?_
        refine lv_iload hx hb dX10_seen_149 (lv_at hl21 2 rfl) ?_
        refine lv_icmp_gt (tgt := 158) hx hb dX10_seen_151 (by decide) (fun c22 => ?_) (fun c22 => ?_)
        · replace hR := ifp_ hR c22
          refine lv_iconst (v := (0 : Int32)) hx hb dX10_seen_158 (by decide) ?_
          exact hB159 y4 y5 y6 y7 y8 y10 (0 : Int32) (0 : Int32) q20 H20 locs20 ls21 hP20 hD20 hS20 (lv_sub hl21 [1, 2, 3, 4, 5, 6, 7, 0] rfl) hR
        · replace hR := ifn_ hR c22
          refine lv_iconst (v := (1 : Int32)) hx hb dX10_seen_154 (by decide) ?_
          refine lv_goto (tgt := 159) hx hb dX10_seen_155 (by decide) ?_
          exact hB159 y4 y5 y6 y7 y8 y10 (0 : Int32) (1 : Int32) q20 H20 locs20 ls21 hP20 hD20 hS20 (lv_sub hl21 [1, 2, 3, 4, 5, 6, 7, 0] rfl) hR
      · replace hR := ifn_ hR c19
        refine lv_aload_n hx hb dX10_seen_111 rfl (lv_at hl 0 rfl) ?_
        refine va_get (D := (dC, dI)) (ci := 10) (v := .ref (a1 21)) (C := RX10) (T := TX10) (N := 35) hx hb hts hin10 hown hK hP 0 rfl rfl 34 (by decide) (hts (.fieldLink RX10 71 "OldestCoinsModel" "items" "[J") (List.mem_of_getElem? (i := 4) rfl)) (fun _ h9 => h9) rfl dX10_seen_112 ?_
        refine lv_iload hx hb dX10_seen_115 (lv_at hl 6 rfl) ?_
        refine lv_iload hx hb dX10_seen_117 (lv_at hl 7 rfl) ?_
        refine lv_iadd hx hb dX10_seen_119 ?_
        have i23 := (ck_ok hR).1
        replace hR := (ck_ok hR).2
        refine va_lald (f := u1.2.2.2.2.2.2.2.2.2.2.2) hx hb hK hP 21 20 rfl rfl i23 dX10_seen_120 ?_
        refine lv_lconst (v := (1 : Int64)) hx hb dX10_seen_121 (by decide) ?_
        refine lv_ldc2 (v := (99 : Int64)) hx hb hown (hts (.constantLong RX10 94 (99)) (List.mem_of_getElem? (i := 2) rfl)) dX10_seen_122 ?_
        have hR0 := ob_ok hR
        clear hR
        obtain ⟨q24, hq24, hR⟩ := hR0
        refine va_calli (va_runS (As := [.long (u1.2.2.2.2.2.2.2.2.2.2.2 (y10 + y11).toNatClampNeg), .long (1 : Int64), .long (99 : Int64)]) (rest := []) ⟨hx, hb, hml, hown, hts⟩ (cc_X10_in l dC dI fu H.size (u1.2.2.2.2.2.2.2.2.2.2.2 (y10 + y11).toNatClampNeg) (1 : Int64) (99 : Int64) q24 hq24) (va_cwS 3 hts gX10_seen_X10_in rfl rfl rfl (by decide +kernel) ⟨Nat.le_of_ble_eq_true rfl, Nat.le_of_ble_eq_true rfl⟩) (pf_s (nil_K hK) nil_P (nil_D (A := A))) rfl rfl hl.1 rfl (lv_room (Nat.le_of_ble_eq_true rfl)) dX10_seen_125 ⟨Nat.le_refl _, Nat.le_refl _⟩) hS (fun q _ h => (fr_none hS hA) q h) (fr_none hS hA) (fun r24 v24 t24 H24 locs24 ht24 hvm24 hw24 hB24 hz24 hk24 hS24 => ?_)
        subst hw24
        have hP24 := jn_none hP hk24
        have hD24 := hD
        have hP24 : va_P (dC, dI) vwCl (zc_10 a1 k1 u1) H24 := hP24
        have hD24 : va_D A (zc_10 a1 k1 u1) := hD24
        clear hP hD hS hB24 hk24 hvm24 hz24 ht24
        refine lv_if_ne (tgt := 134) hx hb dX10_seen_128 (by decide) (fun c25 => ?_) (fun c25 => ?_)
        · replace hR := ifn_ hR c25
          obtain ⟨z26, ez26⟩ : ∃ y : Int32, y = (y11 + (1 : Int32)) := ⟨_, rfl⟩
          replace hR := lt_ok hR ez26
          refine lv_iinc (v := z26) (lv' := [(11, .int z26), (0, .ref (a1 0)), (4, .int y4), (5, .int y5), (6, .int y6), (7, .int y7), (8, .int y8), (10, .int y10)]) hx hb dX10_seen_134 hl (k := 7) rfl (by rw [ez26]; rfl) (by decide) rfl (fun ls26 hl26 => ?_)
          refine lv_goto (tgt := 104) hx hb dX10_seen_137 (by decide) ?_
          exact ih y4 y5 y6 y7 y8 y10 z26 u1 H24 locs24 ls26 hP24 hD24 hS24 (lv_sub hl26 [1, 2, 3, 4, 5, 6, 7, 0] rfl) hR
        · replace hR := ifp_ hR c25
          refine lv_bipush (v := (-2 : Int32)) hx hb dX10_seen_131 (by decide) ?_
          subst hQe
          exact W.iret (v := (-2 : Int32)) hx hb hr (fun t ht hW => ⟨⟨(-2 : Int32), u1, rfl, (Option.some.inj hR).symm, by rw [ht]; exact hP24, va_K.moved hW.alike hK, hD24⟩, hS24.F ht⟩) hS24.2.2 dX10_seen_133
  unfold rr_X10_seen at hR
  refine lv_iload_n hx hb dX10_seen_0 rfl (lv_at hl 1 rfl) ?_
  refine lv_iload_n hx hb dX10_seen_1 rfl (lv_at hl 2 rfl) ?_
  have hR0 := ob_ok hR
  clear hR
  obtain ⟨q1, hq1, hR⟩ := hR0
  refine va_calli (va_runS (As := [.int x1, .int x2]) (rest := []) ⟨hx, hb, hml, hown, hts⟩ (cc_X10_isSheet l dC dI fu s.heap.size x1 x2 q1 hq1) (va_cwS 2 hts gX10_seen_X10_isSheet rfl rfl rfl (by decide +kernel) ⟨Nat.le_of_ble_eq_true rfl, Nat.le_of_ble_eq_true rfl⟩) (pf_s (nil_K hK) nil_P (nil_D (A := A))) rfl rfl hl.1 rfl (lv_room (Nat.le_of_ble_eq_true rfl)) dX10_seen_2 ⟨Nat.le_refl _, Nat.le_refl _⟩) hS (fun q _ h => (fr_none hS hA) q h) (fr_none hS hA) (fun r1 v1 t1 H1 locs1 ht1 hvm1 hw1 hB1 hz1 hk1 hS1 => ?_)
  subst hw1
  have hP1 := jn_none hP hk1
  have hD1 := hD
  have hP1 : va_P (dC, dI) vwCl (zc_10 a1 k1 s1) H1 := hP1
  have hD1 : va_D A (zc_10 a1 k1 s1) := hD1
  clear hP hD hS hB1 hk1 hvm1 hz1 ht1
  refine lv_if_eq (tgt := 72) hx hb dX10_seen_5 (by decide) (fun c2 => ?_) (fun c2 => ?_)
  · replace hR := ifp_ hR c2
    refine lv_iconst (v := (-1 : Int32)) hx hb dX10_seen_72 (by decide) ?_
    subst hQe
    exact W.iret (v := (-1 : Int32)) hx hb hr (fun t ht hW => ⟨⟨(-1 : Int32), s1, rfl, (Option.some.inj hR).symm, by rw [ht]; exact hP1, va_K.moved hW.alike hK, hD1⟩, hS1.F ht⟩) hS1.2.2 dX10_seen_73
  · replace hR := ifn_ hR c2
    refine lv_iload hx hb dX10_seen_8 (lv_at hl 4 rfl) ?_
    refine lv_i2l (v := x4.toInt64) hx hb dX10_seen_10 rfl ?_
    refine lv_lconst (v := (1 : Int64)) hx hb dX10_seen_11 (by decide) ?_
    refine lv_ldc2 (v := (4 : Int64)) hx hb hown (hts (.constantLong RX10 86 (4)) (List.mem_of_getElem? (i := 1) rfl)) dX10_seen_12 ?_
    have hR0 := ob_ok hR
    clear hR
    obtain ⟨q3, hq3, hR⟩ := hR0
    refine va_calli (va_runS (As := [.long x4.toInt64, .long (1 : Int64), .long (4 : Int64)]) (rest := []) ⟨hx, hb, hml, hown, hts⟩ (cc_X10_in l dC dI fu H1.size x4.toInt64 (1 : Int64) (4 : Int64) q3 hq3) (va_cwS 3 hts gX10_seen_X10_in rfl rfl rfl (by decide +kernel) ⟨Nat.le_of_ble_eq_true rfl, Nat.le_of_ble_eq_true rfl⟩) (pf_s (nil_K hK) nil_P (nil_D (A := A))) rfl rfl hl.1 rfl (lv_room (Nat.le_of_ble_eq_true rfl)) dX10_seen_15 ⟨Nat.le_refl _, Nat.le_refl _⟩) hS1 (fun q _ h => (fr_none hS1 hA) q h) (fr_none hS1 hA) (fun r3 v3 t3 H3 locs3 ht3 hvm3 hw3 hB3 hz3 hk3 hS3 => ?_)
    subst hw3
    have hP3 := jn_none hP1 hk3
    have hD3 := hD1
    have hP3 : va_P (dC, dI) vwCl (zc_10 a1 k1 s1) H3 := hP3
    have hD3 : va_D A (zc_10 a1 k1 s1) := hD3
    clear hP1 hD1 hS1 hB3 hk3 hvm3 hz3 ht3
    refine lv_if_eq (tgt := 72) hx hb dX10_seen_18 (by decide) (fun c4 => ?_) (fun c4 => ?_)
    · replace hR := ifp_ hR c4
      refine lv_iconst (v := (-1 : Int32)) hx hb dX10_seen_72 (by decide) ?_
      subst hQe
      exact W.iret (v := (-1 : Int32)) hx hb hr (fun t ht hW => ⟨⟨(-1 : Int32), s1, rfl, (Option.some.inj hR).symm, by rw [ht]; exact hP3, va_K.moved hW.alike hK, hD3⟩, hS3.F ht⟩) hS3.2.2 dX10_seen_73
    · replace hR := ifn_ hR c4
      refine lv_iload hx hb dX10_seen_21 (lv_at hl 5 rfl) ?_
      have hR0 := ob_ok hR
      clear hR
      obtain ⟨q5, hq5, hR⟩ := hR0
      refine va_calli (va_runS (As := [.int x5]) (rest := []) ⟨hx, hb, hml, hown, hts⟩ (cc_X10_isSum l dC dI fu H3.size x5 q5 hq5) (va_cwS 1 hts gX10_seen_X10_isSum rfl rfl rfl (by decide +kernel) ⟨Nat.le_of_ble_eq_true rfl, Nat.le_of_ble_eq_true rfl⟩) (pf_s (nil_K hK) nil_P (nil_D (A := A))) rfl rfl hl.1 rfl (lv_room (Nat.le_of_ble_eq_true rfl)) dX10_seen_23 ⟨Nat.le_refl _, Nat.le_refl _⟩) hS3 (fun q _ h => (fr_none hS3 hA) q h) (fr_none hS3 hA) (fun r5 v5 t5 H5 locs5 ht5 hvm5 hw5 hB5 hz5 hk5 hS5 => ?_)
      subst hw5
      have hP5 := jn_none hP3 hk5
      have hD5 := hD3
      have hP5 : va_P (dC, dI) vwCl (zc_10 a1 k1 s1) H5 := hP5
      have hD5 : va_D A (zc_10 a1 k1 s1) := hD5
      clear hP3 hD3 hS3 hB5 hk5 hvm5 hz5 ht5
      refine lv_if_eq (tgt := 72) hx hb dX10_seen_26 (by decide) (fun c6 => ?_) (fun c6 => ?_)
      · replace hR := ifp_ hR c6
        refine lv_iconst (v := (-1 : Int32)) hx hb dX10_seen_72 (by decide) ?_
        subst hQe
        exact W.iret (v := (-1 : Int32)) hx hb hr (fun t ht hW => ⟨⟨(-1 : Int32), s1, rfl, (Option.some.inj hR).symm, by rw [ht]; exact hP5, va_K.moved hW.alike hK, hD5⟩, hS5.F ht⟩) hS5.2.2 dX10_seen_73
      · replace hR := ifn_ hR c6
        refine lv_iload hx hb dX10_seen_29 (lv_at hl 6 rfl) ?_
        refine lv_i2l (v := x6.toInt64) hx hb dX10_seen_31 rfl ?_
        refine lv_lconst (v := (1 : Int64)) hx hb dX10_seen_32 (by decide) ?_
        refine lv_ldc2 (v := (4 : Int64)) hx hb hown (hts (.constantLong RX10 86 (4)) (List.mem_of_getElem? (i := 1) rfl)) dX10_seen_33 ?_
        have hR0 := ob_ok hR
        clear hR
        obtain ⟨q7, hq7, hR⟩ := hR0
        refine va_calli (va_runS (As := [.long x6.toInt64, .long (1 : Int64), .long (4 : Int64)]) (rest := []) ⟨hx, hb, hml, hown, hts⟩ (cc_X10_in l dC dI fu H5.size x6.toInt64 (1 : Int64) (4 : Int64) q7 hq7) (va_cwS 3 hts gX10_seen_X10_in rfl rfl rfl (by decide +kernel) ⟨Nat.le_of_ble_eq_true rfl, Nat.le_of_ble_eq_true rfl⟩) (pf_s (nil_K hK) nil_P (nil_D (A := A))) rfl rfl hl.1 rfl (lv_room (Nat.le_of_ble_eq_true rfl)) dX10_seen_36 ⟨Nat.le_refl _, Nat.le_refl _⟩) hS5 (fun q _ h => (fr_none hS5 hA) q h) (fr_none hS5 hA) (fun r7 v7 t7 H7 locs7 ht7 hvm7 hw7 hB7 hz7 hk7 hS7 => ?_)
        subst hw7
        have hP7 := jn_none hP5 hk7
        have hD7 := hD5
        have hP7 : va_P (dC, dI) vwCl (zc_10 a1 k1 s1) H7 := hP7
        have hD7 : va_D A (zc_10 a1 k1 s1) := hD7
        clear hP5 hD5 hS5 hB7 hk7 hvm7 hz7 ht7
        refine lv_if_eq (tgt := 72) hx hb dX10_seen_39 (by decide) (fun c8 => ?_) (fun c8 => ?_)
        · replace hR := ifp_ hR c8
          refine lv_iconst (v := (-1 : Int32)) hx hb dX10_seen_72 (by decide) ?_
          subst hQe
          exact W.iret (v := (-1 : Int32)) hx hb hr (fun t ht hW => ⟨⟨(-1 : Int32), s1, rfl, (Option.some.inj hR).symm, by rw [ht]; exact hP7, va_K.moved hW.alike hK, hD7⟩, hS7.F ht⟩) hS7.2.2 dX10_seen_73
        · replace hR := ifn_ hR c8
          refine lv_iload hx hb dX10_seen_42 (lv_at hl 7 rfl) ?_
          refine lv_i2l (v := x7.toInt64) hx hb dX10_seen_44 rfl ?_
          refine lv_lconst (v := (0 : Int64)) hx hb dX10_seen_45 (by decide) ?_
          refine lv_ldc2 (v := (99 : Int64)) hx hb hown (hts (.constantLong RX10 94 (99)) (List.mem_of_getElem? (i := 2) rfl)) dX10_seen_46 ?_
          have hR0 := ob_ok hR
          clear hR
          obtain ⟨q9, hq9, hR⟩ := hR0
          refine va_calli (va_runS (As := [.long x7.toInt64, .long (0 : Int64), .long (99 : Int64)]) (rest := []) ⟨hx, hb, hml, hown, hts⟩ (cc_X10_in l dC dI fu H7.size x7.toInt64 (0 : Int64) (99 : Int64) q9 hq9) (va_cwS 3 hts gX10_seen_X10_in rfl rfl rfl (by decide +kernel) ⟨Nat.le_of_ble_eq_true rfl, Nat.le_of_ble_eq_true rfl⟩) (pf_s (nil_K hK) nil_P (nil_D (A := A))) rfl rfl hl.1 rfl (lv_room (Nat.le_of_ble_eq_true rfl)) dX10_seen_49 ⟨Nat.le_refl _, Nat.le_refl _⟩) hS7 (fun q _ h => (fr_none hS7 hA) q h) (fr_none hS7 hA) (fun r9 v9 t9 H9 locs9 ht9 hvm9 hw9 hB9 hz9 hk9 hS9 => ?_)
          subst hw9
          have hP9 := jn_none hP7 hk9
          have hD9 := hD7
          have hP9 : va_P (dC, dI) vwCl (zc_10 a1 k1 s1) H9 := hP9
          have hD9 : va_D A (zc_10 a1 k1 s1) := hD9
          clear hP7 hD7 hS7 hB9 hk9 hvm9 hz9 ht9
          refine lv_if_eq (tgt := 72) hx hb dX10_seen_52 (by decide) (fun c10 => ?_) (fun c10 => ?_)
          · replace hR := ifp_ hR c10
            refine lv_iconst (v := (-1 : Int32)) hx hb dX10_seen_72 (by decide) ?_
            subst hQe
            exact W.iret (v := (-1 : Int32)) hx hb hr (fun t ht hW => ⟨⟨(-1 : Int32), s1, rfl, (Option.some.inj hR).symm, by rw [ht]; exact hP9, va_K.moved hW.alike hK, hD9⟩, hS9.F ht⟩) hS9.2.2 dX10_seen_73
          · replace hR := ifn_ hR c10
            refine lv_iload hx hb dX10_seen_55 (lv_at hl 8 rfl) ?_
            refine lv_i2l (v := x8.toInt64) hx hb dX10_seen_57 rfl ?_
            refine lv_ldc2 (v := (-1 : Int64)) hx hb hown (hts (.constantLong RX10 230 (-1)) (List.mem_of_getElem? (i := 3) rfl)) dX10_seen_58 ?_
            refine lv_iload hx hb dX10_seen_61 (lv_at hl 4 rfl) ?_
            refine lv_iconst (v := (1 : Int32)) hx hb dX10_seen_63 (by decide) ?_
            refine lv_isub hx hb dX10_seen_64 ?_
            refine lv_i2l (v := (x4 - (1 : Int32)).toInt64) hx hb dX10_seen_65 rfl ?_
            have hR0 := ob_ok hR
            clear hR
            obtain ⟨q11, hq11, hR⟩ := hR0
            refine va_calli (va_runS (As := [.long x8.toInt64, .long (-1 : Int64), .long (x4 - (1 : Int32)).toInt64]) (rest := []) ⟨hx, hb, hml, hown, hts⟩ (cc_X10_in l dC dI fu H9.size x8.toInt64 (-1 : Int64) (x4 - (1 : Int32)).toInt64 q11 hq11) (va_cwS 3 hts gX10_seen_X10_in rfl rfl rfl (by decide +kernel) ⟨Nat.le_of_ble_eq_true rfl, Nat.le_of_ble_eq_true rfl⟩) (pf_s (nil_K hK) nil_P (nil_D (A := A))) rfl rfl hl.1 rfl (lv_room (Nat.le_of_ble_eq_true rfl)) dX10_seen_66 ⟨Nat.le_refl _, Nat.le_refl _⟩) hS9 (fun q _ h => (fr_none hS9 hA) q h) (fr_none hS9 hA) (fun r11 v11 t11 H11 locs11 ht11 hvm11 hw11 hB11 hz11 hk11 hS11 => ?_)
            subst hw11
            have hP11 := jn_none hP9 hk11
            have hD11 := hD9
            have hP11 : va_P (dC, dI) vwCl (zc_10 a1 k1 s1) H11 := hP11
            have hD11 : va_D A (zc_10 a1 k1 s1) := hD11
            clear hP9 hD9 hS9 hB11 hk11 hvm11 hz11 ht11
            refine lv_if_ne (tgt := 74) hx hb dX10_seen_69 (by decide) (fun c12 => ?_) (fun c12 => ?_)
            · replace hR := ifn_ hR c12
              refine lv_aload_n hx hb dX10_seen_74 rfl (lv_at hl 0 rfl) ?_
              refine lv_iload_n hx hb dX10_seen_75 rfl (lv_at hl 1 rfl) ?_
              refine lv_iload_n hx hb dX10_seen_76 rfl (lv_at hl 2 rfl) ?_
              refine lv_iload_n hx hb dX10_seen_77 rfl (lv_at hl 3 rfl) ?_
              refine lv_iload hx hb dX10_seen_78 (lv_at hl 4 rfl) ?_
              have hR0 := ob_ok hR
              clear hR
              obtain ⟨q13, hq13, hR⟩ := hR0
              refine va_calli (va_runV (As := [.int x1, .int x2, .int x3, .int x4]) (rest := []) ⟨hx, hb, hml, hown, hts⟩ (cc_X10_lacksRow l dC dI fu a1 k1 H11.size x1 x2 x3 x4 s1 q13 hq13) (cwV 4 hts gX10_seen_X10_lacksRow rfl rfl rfl (by decide +kernel) ⟨Nat.le_of_ble_eq_true rfl, Nat.le_of_ble_eq_true rfl⟩) (pf_v hK hP11 hD11 10 0 rfl rfl rfl) rfl rfl hl.1 rfl (lv_room (Nat.le_of_ble_eq_true rfl)) dX10_seen_80 ⟨Nat.le_refl _, Nat.le_refl _⟩) hS11 (fun q _ h => (fr_all hD11 hS11 hA) q h) (fr_all hD11 hS11 hA) (fun r13 v13 t13 H13 locs13 ht13 hvm13 hw13 hB13 hz13 hk13 hS13 => ?_)
              subst hw13
              obtain ⟨hP13, hD13⟩ := jn_all hD11 hS11 hA ht13 hB13
              have hP13 : va_P (dC, dI) vwCl (zc_10 a1 k1 s1) H13 := hP13
              have hD13 : va_D A (zc_10 a1 k1 s1) := hD13
              clear hP11 hD11 hS11 hB13 hk13 hvm13 hz13 ht13
              refine lv_istore (lv' := [(9, .int q13), (0, .ref (a1 0)), (1, .int x1), (2, .int x2), (3, .int x3), (4, .int x4), (5, .int x5), (6, .int x6), (7, .int x7), (8, .int x8)]) hx hb dX10_seen_83 hl (by decide) rfl (fun ls14 hl14 => ?_)
              refine lv_iload hx hb dX10_seen_85 (lv_at hl14 0 rfl) ?_
              refine lv_if_ge (tgt := 93) hx hb dX10_seen_87 (by decide) (fun c15 => ?_) (fun c15 => ?_)
              · replace hR := ifp_ hR c15
                refine lv_bipush (v := (24 : Int32)) hx hb dX10_seen_93 (by decide) ?_
                refine lv_iload_n hx hb dX10_seen_95 rfl (lv_at hl14 2 rfl) ?_
                refine lv_imul hx hb dX10_seen_96 ?_
                refine lv_iload_n hx hb dX10_seen_97 rfl (lv_at hl14 4 rfl) ?_
                refine lv_iadd hx hb dX10_seen_98 ?_
                refine lv_topi (fun z16 ez16 => ?_)
                replace hR := lt_ok hR ez16
                refine lv_istore (lv' := [(10, .int z16), (9, .int q13), (0, .ref (a1 0)), (1, .int x1), (2, .int x2), (3, .int x3), (4, .int x4), (5, .int x5), (6, .int x6), (7, .int x7), (8, .int x8)]) hx hb dX10_seen_99 hl14 (by decide) rfl (fun ls17 hl17 => ?_)
                refine lv_iconst (v := (0 : Int32)) hx hb dX10_seen_101 (by decide) ?_
                refine lv_istore (lv' := [(11, .int (0 : Int32)), (10, .int z16), (9, .int q13), (0, .ref (a1 0)), (1, .int x1), (2, .int x2), (3, .int x3), (4, .int x4), (5, .int x5), (6, .int x6), (7, .int x7), (8, .int x8)]) hx hb dX10_seen_102 hl17 (by decide) rfl (fun ls18 hl18 => ?_)
                exact hB104 fu x4 x5 x6 x7 x8 z16 (0 : Int32) s1 H13 locs13 ls18 hP13 hD13 hS13 (lv_sub hl18 [3, 7, 8, 9, 10, 11, 1, 0] rfl) hR
              · replace hR := ifn_ hR c15
                refine lv_iload hx hb dX10_seen_90 (lv_at hl14 0 rfl) ?_
                subst hQe
                exact W.iret (v := q13) hx hb hr (fun t ht hW => ⟨⟨q13, s1, rfl, (Option.some.inj hR).symm, by rw [ht]; exact hP13, va_K.moved hW.alike hK, hD13⟩, hS13.F ht⟩) hS13.2.2 dX10_seen_92
            · replace hR := ifp_ hR c12
              refine lv_iconst (v := (-1 : Int32)) hx hb dX10_seen_72 (by decide) ?_
              subst hQe
              exact W.iret (v := (-1 : Int32)) hx hb hr (fun t ht hW => ⟨⟨(-1 : Int32), s1, rfl, (Option.some.inj hR).symm, by rw [ht]; exact hP11, va_K.moved hW.alike hK, hD11⟩, hS11.F ht⟩) hS11.2.2 dX10_seen_73
def rr_X10_carried_357 (fu : Nat) (y4 : Int32) (w0 : Int32) (w1 : Int32) (u1 : ZT_10) : Option (Int32 × ZT_10) := ck_ w1 72 (ck_ y4 72 (some (((upd u1.2.2.1.1 w1.toNatClampNeg w0) y4.toNatClampNeg), (u1.1, u1.2.1, ((upd u1.2.2.1.1 w1.toNatClampNeg w0), u1.2.2.1.2), u1.2.2.2))))
def rr_X10_carried_307 (fu : Nat) (y4 : Int32) (y5 : Int32) (w0 : Int32) (w1 : Int32) (u1 : ZT_10) : Option (Int32 × ZT_10) := ck_ w1 6 ((if (6 : Int32) ≤ y4 then ck_ y5 6 (some (((upd u1.2.1.2.1 w1.toNatClampNeg w0) y5.toNatClampNeg), (u1.1, (u1.2.1.1, (upd u1.2.1.2.1 w1.toNatClampNeg w0), u1.2.1.2.2), u1.2.2))) else ck_ y5 6 (some ((u1.2.1.1 y5.toNatClampNeg), (u1.1, (u1.2.1.1, (upd u1.2.1.2.1 w1.toNatClampNeg w0), u1.2.1.2.2), u1.2.2)))))
def rr_X10_carried_300 (fu : Nat) (y4 : Int32) (y5 : Int32) (w0 : Int32) (u1 : ZT_10) : Option (Int32 × ZT_10) := ck_ y5 6 (rr_X10_carried_307 fu y4 y5 (u1.2.1.2.1 y5.toNatClampNeg) w0 u1)
def rr_X10_carried_278 (fu : Nat) (y2 : Int32) (y3 : Int32) (y4 : Int32) (y5 : Int32) (w0 : Int32) (w1 : Int32) (u1 : ZT_10) : Option (Int32 × ZT_10) := ck_ w1 6 ((if y3 = (0 : Int32) then rr_X10_carried_300 fu y4 y5 y5 (u1.1, ((upd u1.2.1.1 w1.toNatClampNeg w0), u1.2.1.2), u1.2.2) else (if y4 < (6 : Int32) then rr_X10_carried_300 fu y4 y5 y5 (u1.1, ((upd u1.2.1.1 w1.toNatClampNeg w0), u1.2.1.2), u1.2.2) else rr_X10_carried_307 fu y4 y5 y2 y5 (u1.1, ((upd u1.2.1.1 w1.toNatClampNeg w0), u1.2.1.2), u1.2.2))))
def rr_X10_carried_271 (fu : Nat) (y2 : Int32) (y3 : Int32) (y4 : Int32) (y5 : Int32) (w0 : Int32) (u1 : ZT_10) : Option (Int32 × ZT_10) := ck_ y5 6 (rr_X10_carried_278 fu y2 y3 y4 y5 (u1.2.1.1 y5.toNatClampNeg) w0 u1)
def rr_X10_carried_157 (fu : Nat) (y4 : Int32) (y5 : Int32) (w0 : Int32) (w1 : Int32) (u1 : ZT_10) : Option (Int32 × ZT_10) := ck_ w1 40 ((if y5 = (0 : Int32) then ck_ y4 40 (some ((u1.1.1 y4.toNatClampNeg), ((u1.1.1, u1.1.2.1, u1.1.2.2.1, u1.1.2.2.2.1, (upd u1.1.2.2.2.2.1 w1.toNatClampNeg w0), u1.1.2.2.2.2.2), u1.2))) else (if y5 = (1 : Int32) then ck_ y4 40 (some ((u1.1.2.1 y4.toNatClampNeg), ((u1.1.1, u1.1.2.1, u1.1.2.2.1, u1.1.2.2.2.1, (upd u1.1.2.2.2.2.1 w1.toNatClampNeg w0), u1.1.2.2.2.2.2), u1.2))) else (if y5 = (2 : Int32) then ck_ y4 40 (some ((u1.1.2.2.1 y4.toNatClampNeg), ((u1.1.1, u1.1.2.1, u1.1.2.2.1, u1.1.2.2.2.1, (upd u1.1.2.2.2.2.1 w1.toNatClampNeg w0), u1.1.2.2.2.2.2), u1.2))) else (if y5 = (3 : Int32) then ck_ y4 40 (some ((u1.1.2.2.2.1 y4.toNatClampNeg), ((u1.1.1, u1.1.2.1, u1.1.2.2.1, u1.1.2.2.2.1, (upd u1.1.2.2.2.2.1 w1.toNatClampNeg w0), u1.1.2.2.2.2.2), u1.2))) else ck_ y4 40 (some (((upd u1.1.2.2.2.2.1 w1.toNatClampNeg w0) y4.toNatClampNeg), ((u1.1.1, u1.1.2.1, u1.1.2.2.1, u1.1.2.2.2.1, (upd u1.1.2.2.2.2.1 w1.toNatClampNeg w0), u1.1.2.2.2.2.2), u1.2))))))))
def rr_X10_carried_150 (fu : Nat) (y4 : Int32) (y5 : Int32) (w0 : Int32) (u1 : ZT_10) : Option (Int32 × ZT_10) := ck_ y4 40 (rr_X10_carried_157 fu y4 y5 (u1.1.2.2.2.2.1 y4.toNatClampNeg) w0 u1)
def rr_X10_carried_129 (fu : Nat) (y2 : Int32) (y3 : Int32) (y4 : Int32) (y5 : Int32) (w0 : Int32) (w1 : Int32) (u1 : ZT_10) : Option (Int32 × ZT_10) := ck_ w1 40 ((if y3 = (0 : Int32) then rr_X10_carried_150 fu y4 y5 y4 ((u1.1.1, u1.1.2.1, u1.1.2.2.1, (upd u1.1.2.2.2.1 w1.toNatClampNeg w0), u1.1.2.2.2.2), u1.2) else (if y5 = (4 : Int32) then rr_X10_carried_157 fu y4 y5 y2 y4 ((u1.1.1, u1.1.2.1, u1.1.2.2.1, (upd u1.1.2.2.2.1 w1.toNatClampNeg w0), u1.1.2.2.2.2), u1.2) else rr_X10_carried_150 fu y4 y5 y4 ((u1.1.1, u1.1.2.1, u1.1.2.2.1, (upd u1.1.2.2.2.1 w1.toNatClampNeg w0), u1.1.2.2.2.2), u1.2))))
def rr_X10_carried_122 (fu : Nat) (y2 : Int32) (y3 : Int32) (y4 : Int32) (y5 : Int32) (w0 : Int32) (u1 : ZT_10) : Option (Int32 × ZT_10) := ck_ y4 40 (rr_X10_carried_129 fu y2 y3 y4 y5 (u1.1.2.2.2.1 y4.toNatClampNeg) w0 u1)
def rr_X10_carried_101 (fu : Nat) (y2 : Int32) (y3 : Int32) (y4 : Int32) (y5 : Int32) (w0 : Int32) (w1 : Int32) (u1 : ZT_10) : Option (Int32 × ZT_10) := ck_ w1 40 ((if y3 = (0 : Int32) then rr_X10_carried_122 fu y2 y3 y4 y5 y4 ((u1.1.1, u1.1.2.1, (upd u1.1.2.2.1 w1.toNatClampNeg w0), u1.1.2.2.2), u1.2) else (if y5 = (3 : Int32) then rr_X10_carried_129 fu y2 y3 y4 y5 y2 y4 ((u1.1.1, u1.1.2.1, (upd u1.1.2.2.1 w1.toNatClampNeg w0), u1.1.2.2.2), u1.2) else rr_X10_carried_122 fu y2 y3 y4 y5 y4 ((u1.1.1, u1.1.2.1, (upd u1.1.2.2.1 w1.toNatClampNeg w0), u1.1.2.2.2), u1.2))))
def rr_X10_carried_94 (fu : Nat) (y2 : Int32) (y3 : Int32) (y4 : Int32) (y5 : Int32) (w0 : Int32) (u1 : ZT_10) : Option (Int32 × ZT_10) := ck_ y4 40 (rr_X10_carried_101 fu y2 y3 y4 y5 (u1.1.2.2.1 y4.toNatClampNeg) w0 u1)
def rr_X10_carried_73 (fu : Nat) (y2 : Int32) (y3 : Int32) (y4 : Int32) (y5 : Int32) (w0 : Int32) (w1 : Int32) (u1 : ZT_10) : Option (Int32 × ZT_10) := ck_ w1 40 ((if y3 = (0 : Int32) then rr_X10_carried_94 fu y2 y3 y4 y5 y4 ((u1.1.1, (upd u1.1.2.1 w1.toNatClampNeg w0), u1.1.2.2), u1.2) else (if y5 = (2 : Int32) then rr_X10_carried_101 fu y2 y3 y4 y5 y2 y4 ((u1.1.1, (upd u1.1.2.1 w1.toNatClampNeg w0), u1.1.2.2), u1.2) else rr_X10_carried_94 fu y2 y3 y4 y5 y4 ((u1.1.1, (upd u1.1.2.1 w1.toNatClampNeg w0), u1.1.2.2), u1.2))))
def rr_X10_carried_66 (fu : Nat) (y2 : Int32) (y3 : Int32) (y4 : Int32) (y5 : Int32) (w0 : Int32) (u1 : ZT_10) : Option (Int32 × ZT_10) := ck_ y4 40 (rr_X10_carried_73 fu y2 y3 y4 y5 (u1.1.2.1 y4.toNatClampNeg) w0 u1)
def rr_X10_carried_45 (fu : Nat) (y2 : Int32) (y3 : Int32) (y4 : Int32) (y5 : Int32) (w0 : Int32) (w1 : Int32) (u1 : ZT_10) : Option (Int32 × ZT_10) := ck_ w1 40 ((if y3 = (0 : Int32) then rr_X10_carried_66 fu y2 y3 y4 y5 y4 (((upd u1.1.1 w1.toNatClampNeg w0), u1.1.2), u1.2) else (if y5 = (1 : Int32) then rr_X10_carried_73 fu y2 y3 y4 y5 y2 y4 (((upd u1.1.1 w1.toNatClampNeg w0), u1.1.2), u1.2) else rr_X10_carried_66 fu y2 y3 y4 y5 y4 (((upd u1.1.1 w1.toNatClampNeg w0), u1.1.2), u1.2))))
def rr_X10_carried_38 (fu : Nat) (y2 : Int32) (y3 : Int32) (y4 : Int32) (y5 : Int32) (w0 : Int32) (u1 : ZT_10) : Option (Int32 × ZT_10) := ck_ y4 40 (rr_X10_carried_45 fu y2 y3 y4 y5 (u1.1.1 y4.toNatClampNeg) w0 u1)
def rr_X10_carried (fu : Nat) (x1 : Int32) (x2 : Int32) (x3 : Int32) (s1 : ZT_10) : Option (Int32 × ZT_10) := (if (200 : Int32) ≤ x1 then lt_ (α := Int32) (x1 - (200 : Int32)) (fun z2 => (if (12 : Int32) ≤ z2 then lt_ (α := Int32) (z2 + (-12 : Int32)) (fun z5 => (if x3 = (0 : Int32) then ck_ z5 72 (rr_X10_carried_357 fu z5 (s1.2.2.1.1 z5.toNatClampNeg) z5 s1) else rr_X10_carried_357 fu z5 x2 z5 s1)) else nz_ (6 : Int32) (lt_ (α := Int32) (z2 - z2 / (6 : Int32) * (6 : Int32)) (fun z9 => (if x3 = (0 : Int32) then rr_X10_carried_271 fu x2 x3 z2 z9 z9 s1 else (if (6 : Int32) ≤ z2 then rr_X10_carried_271 fu x2 x3 z2 z9 z9 s1 else rr_X10_carried_278 fu x2 x3 z2 z9 x2 z9 s1)))))) else nz_ (40 : Int32) (lt_ (α := Int32) (x1 - x1 / (40 : Int32) * (40 : Int32)) (fun z14 => nz_ (40 : Int32) (lt_ (α := Int32) (x1 / (40 : Int32)) (fun z17 => (if x3 = (0 : Int32) then rr_X10_carried_38 fu x2 x3 z14 z17 z14 s1 else (if z17 = (0 : Int32) then rr_X10_carried_45 fu x2 x3 z14 z17 x2 z14 s1 else rr_X10_carried_38 fu x2 x3 z14 z17 z14 s1)))))))
set_option maxHeartbeats 4000000 in
set_option maxRecDepth 100000 in
theorem cc_X10_carried (l : Launch) (dC : Nat → ClassId) (dI : Nat → Nat → Nat) (fu : Nat) (a1 : Nat → Nat) (k1 : Nat → ClassId) (sz : Nat) (x1 : Int32) (x2 : Int32) (x3 : Int32) (s1 : ZT_10) (res : Int32 × ZT_10) (hR : rr_X10_carried fu x1 x2 x3 s1 = some res) : Met l yX10_carried wsX10_carried ({ frames := 0, cells := 0, slots := 0, locals := 0 } : Room) (PcF [.ref (a1 0), .int x1, .int x2, .int x3] sz (dC, dI) (zc_10 a1 k1 s1) (zt_10 k1)) (va_Qi (fun (r : Int32) (u : ZT_10) => res = (r, u)) (fun u t => at3_ (dC, dI) (zc_10 a1 k1 u) (zt_10 k1) (va_A (zc_10 a1 k1 s1) sz) t) (va_A (zc_10 a1 k1 s1) sz)) 0 0 (va_A (zc_10 a1 k1 s1) sz) := by
  refine Met.ofW (cc := cX10_carried) (maxL := 6) (ret := (some .int)) (by decide) rfl ?_
  intro p e s m args below meth c s₁ B hml hv
  obtain ⟨hav, hsz, hP, hK, hD0⟩ := hv
  have hx := B.exec
  have hb := B.bytes
  have hr := B.returns
  have hts := atoms_spec (ws := wsX10_carried) B.pre
  have hown : s.vm.findClass RX10 = some m.cls := findClass_of_methodNamed B.named
  have hlocks := B.notSynchronized
  have hin10 : ∀ w ∈ wsX100, w ∈ wsX10_carried := fun w h => List.mem_cons_of_mem _ (List.mem_append_right _ h)
  subst hsz
  have hD := hD0.self (sz := s.heap.size)
  clear hD0
  generalize hAe : va_A (zc_10 a1 k1 s1) s.heap.size = A at hD ⊢
  have hA : ∀ q : Nat, s.heap.size ≤ q → A q := fun q h => by rw [← hAe]; exact Or.inr h
  have hS : va_S A s.heap s.heap [] := va_S.rf
  generalize hQe : MQ below _ args s 0 0 A = Q
  rw [show entryFrame m args 6 = F0 m 0 ((lg_sl ([.ref (a1 0), .int x1, .int x2, .int x3]) ++ List.replicate (6 - (lg_sl ([.ref (a1 0), .int x1, .int x2, .int x3])).length) Slot.unset).toArray) [] from by rw [hav]; exact lg_entry_eq m _ _]
  have hl := lv_entry ([.ref (a1 0), .int x1, .int x2, .int x3]) (n := 6) (Nat.le_of_ble_eq_true rfl)
  generalize (lg_sl ([.ref (a1 0), .int x1, .int x2, .int x3]) ++ List.replicate (6 - (lg_sl ([.ref (a1 0), .int x1, .int x2, .int x3])).length) Slot.unset).toArray = ls at hl ⊢
  have hl : lv_has ls 6 [(0, .ref (a1 0)), (1, .int x1), (2, .int x2), (3, .int x3)] := hl
  have hB357 : ∀ (y4 : Int32) (w0 : Int32) (w1 : Int32) (u1 : ZT_10) (H : Heap) (locs : List Loc) (ls : Array Slot), va_P (dC, dI) vwCl (zc_10 a1 k1 u1) H → va_D A (zc_10 a1 k1 u1) → va_S A s.heap H locs → lv_has ls 6 [(0, .ref (a1 0)), (4, .int y4)] → rr_X10_carried_357 fu y4 w0 w1 u1 = some res → W p l e ({ frames := 0, cells := 0, slots := 0, locals := 0 } : Room) s m args below meth c H locs 0 0 Q (F0 m 357 ls [.int w0, .int w1, .ref (a1 8)]) := by
    intro  y4 w0 w1 u1 H locs ls hP hD hS hl hR
    unfold rr_X10_carried_357 at hR
    have i21 := (ck_ok hR).1
    replace hR := (ck_ok hR).2
    refine va_iast (f := u1.2.2.1.1) hx hb hK hP hD hS 8 7 rfl rfl i21 dX10_carried_357 (fun H21 locs21 hP21 hD21 hS21 => ?_)
    have hP21 : va_P (dC, dI) vwCl (zc_10 a1 k1 (u1.1, u1.2.1, ((upd u1.2.2.1.1 w1.toNatClampNeg w0), u1.2.2.1.2), u1.2.2.2)) H21 := hP21
    have hD21 : va_D A (zc_10 a1 k1 (u1.1, u1.2.1, ((upd u1.2.2.1.1 w1.toNatClampNeg w0), u1.2.2.1.2), u1.2.2.2)) := hD21
    clear hP hD hS
    refine lv_aload_n hx hb dX10_carried_358 rfl (lv_at hl 0 rfl) ?_
    refine va_get (D := (dC, dI)) (ci := 10) (v := .ref (a1 8)) (C := RX10) (T := TX10) (N := 35) hx hb hts hin10 hown hK hP21 0 rfl rfl 10 (by decide) (hts (.fieldLink RX10 31 "OldestCoinsModel" "bills" "[I") (List.mem_of_getElem? (i := 8) rfl)) (fun _ h9 => h9) rfl dX10_carried_359 ?_
    refine lv_iload hx hb dX10_carried_362 (lv_at hl 1 rfl) ?_
    have i22 := (ck_ok hR).1
    replace hR := (ck_ok hR).2
    refine va_iald (f := (upd u1.2.2.1.1 w1.toNatClampNeg w0)) hx hb hK hP21 8 7 rfl rfl i22 dX10_carried_364 ?_
    subst hQe
    exact W.iret (v := ((upd u1.2.2.1.1 w1.toNatClampNeg w0) y4.toNatClampNeg)) hx hb hr (fun t ht hW => ⟨⟨((upd u1.2.2.1.1 w1.toNatClampNeg w0) y4.toNatClampNeg), (u1.1, u1.2.1, ((upd u1.2.2.1.1 w1.toNatClampNeg w0), u1.2.2.1.2), u1.2.2.2), rfl, (Option.some.inj hR).symm, by rw [ht]; exact hP21, va_K.moved hW.alike hK, hD21⟩, hS21.F ht⟩) hS21.2.2 dX10_carried_365
  have hB307 : ∀ (y4 : Int32) (y5 : Int32) (w0 : Int32) (w1 : Int32) (u1 : ZT_10) (H : Heap) (locs : List Loc) (ls : Array Slot), va_P (dC, dI) vwCl (zc_10 a1 k1 u1) H → va_D A (zc_10 a1 k1 u1) → va_S A s.heap H locs → lv_has ls 6 [(0, .ref (a1 0)), (4, .int y4), (5, .int y5)] → rr_X10_carried_307 fu y4 y5 w0 w1 u1 = some res → W p l e ({ frames := 0, cells := 0, slots := 0, locals := 0 } : Room) s m args below meth c H locs 0 0 Q (F0 m 307 ls [.int w0, .int w1, .ref (a1 7)]) := by
    intro  y4 y5 w0 w1 u1 H locs ls hP hD hS hl hR
    unfold rr_X10_carried_307 at hR
    have i32 := (ck_ok hR).1
    replace hR := (ck_ok hR).2
    refine va_iast (f := u1.2.1.2.1) hx hb hK hP hD hS 7 6 rfl rfl i32 dX10_carried_307 (fun H32 locs32 hP32 hD32 hS32 => ?_)
    have hP32 : va_P (dC, dI) vwCl (zc_10 a1 k1 (u1.1, (u1.2.1.1, (upd u1.2.1.2.1 w1.toNatClampNeg w0), u1.2.1.2.2), u1.2.2)) H32 := hP32
    have hD32 : va_D A (zc_10 a1 k1 (u1.1, (u1.2.1.1, (upd u1.2.1.2.1 w1.toNatClampNeg w0), u1.2.1.2.2), u1.2.2)) := hD32
    clear hP hD hS
    refine lv_iload hx hb dX10_carried_308 (lv_at hl 1 rfl) ?_
    refine lv_bipush (v := (6 : Int32)) hx hb dX10_carried_310 (by decide) ?_
    refine lv_icmp_ge (tgt := 325) hx hb dX10_carried_312 (by decide) (fun c33 => ?_) (fun c33 => ?_)
    · replace hR := ifp_ hR c33
      refine lv_aload_n hx hb dX10_carried_325 rfl (lv_at hl 0 rfl) ?_
      refine va_get (D := (dC, dI)) (ci := 10) (v := .ref (a1 7)) (C := RX10) (T := TX10) (N := 35) hx hb hts hin10 hown hK hP32 0 rfl rfl 8 (by decide) (hts (.fieldLink RX10 28 "OldestCoinsModel" "sums" "[I") (List.mem_of_getElem? (i := 7) rfl)) (fun _ h9 => h9) rfl dX10_carried_326 ?_
      refine lv_iload hx hb dX10_carried_329 (lv_at hl 2 rfl) ?_
      have i34 := (ck_ok hR).1
      replace hR := (ck_ok hR).2
      refine va_iald (f := (upd u1.2.1.2.1 w1.toNatClampNeg w0)) hx hb hK hP32 7 6 rfl rfl i34 dX10_carried_331 ?_
      subst hQe
      exact W.iret (v := ((upd u1.2.1.2.1 w1.toNatClampNeg w0) y5.toNatClampNeg)) hx hb hr (fun t ht hW => ⟨⟨((upd u1.2.1.2.1 w1.toNatClampNeg w0) y5.toNatClampNeg), (u1.1, (u1.2.1.1, (upd u1.2.1.2.1 w1.toNatClampNeg w0), u1.2.1.2.2), u1.2.2), rfl, (Option.some.inj hR).symm, by rw [ht]; exact hP32, va_K.moved hW.alike hK, hD32⟩, hS32.F ht⟩) hS32.2.2 dX10_carried_332
    · replace hR := ifn_ hR c33
      refine lv_aload_n hx hb dX10_carried_315 rfl (lv_at hl 0 rfl) ?_
      refine va_get (D := (dC, dI)) (ci := 10) (v := .ref (a1 6)) (C := RX10) (T := TX10) (N := 35) hx hb hts hin10 hown hK hP32 0 rfl rfl 7 (by decide) (hts (.fieldLink RX10 25 "OldestCoinsModel" "shops" "[I") (List.mem_of_getElem? (i := 6) rfl)) (fun _ h9 => h9) rfl dX10_carried_316 ?_
      refine lv_iload hx hb dX10_carried_319 (lv_at hl 2 rfl) ?_
      have i35 := (ck_ok hR).1
      replace hR := (ck_ok hR).2
      refine va_iald (f := u1.2.1.1) hx hb hK hP32 6 5 rfl rfl i35 dX10_carried_321 ?_
      refine lv_goto (tgt := 332) hx hb dX10_carried_322 (by decide) ?_
      subst hQe
      exact W.iret (v := (u1.2.1.1 y5.toNatClampNeg)) hx hb hr (fun t ht hW => ⟨⟨(u1.2.1.1 y5.toNatClampNeg), (u1.1, (u1.2.1.1, (upd u1.2.1.2.1 w1.toNatClampNeg w0), u1.2.1.2.2), u1.2.2), rfl, (Option.some.inj hR).symm, by rw [ht]; exact hP32, va_K.moved hW.alike hK, hD32⟩, hS32.F ht⟩) hS32.2.2 dX10_carried_332
  have hB300 : ∀ (y4 : Int32) (y5 : Int32) (w0 : Int32) (u1 : ZT_10) (H : Heap) (locs : List Loc) (ls : Array Slot), va_P (dC, dI) vwCl (zc_10 a1 k1 u1) H → va_D A (zc_10 a1 k1 u1) → va_S A s.heap H locs → lv_has ls 6 [(0, .ref (a1 0)), (4, .int y4), (5, .int y5)] → rr_X10_carried_300 fu y4 y5 w0 u1 = some res → W p l e ({ frames := 0, cells := 0, slots := 0, locals := 0 } : Room) s m args below meth c H locs 0 0 Q (F0 m 300 ls [.int w0, .ref (a1 7)]) := by
    intro  y4 y5 w0 u1 H locs ls hP hD hS hl hR
    unfold rr_X10_carried_300 at hR
    refine lv_aload_n hx hb dX10_carried_300 rfl (lv_at hl 0 rfl) ?_
    refine va_get (D := (dC, dI)) (ci := 10) (v := .ref (a1 7)) (C := RX10) (T := TX10) (N := 35) hx hb hts hin10 hown hK hP 0 rfl rfl 8 (by decide) (hts (.fieldLink RX10 28 "OldestCoinsModel" "sums" "[I") (List.mem_of_getElem? (i := 7) rfl)) (fun _ h9 => h9) rfl dX10_carried_301 ?_
    refine lv_iload hx hb dX10_carried_304 (lv_at hl 2 rfl) ?_
    have i31 := (ck_ok hR).1
    replace hR := (ck_ok hR).2
    refine va_iald (f := u1.2.1.2.1) hx hb hK hP 7 6 rfl rfl i31 dX10_carried_306 ?_
    exact hB307 y4 y5 (u1.2.1.2.1 y5.toNatClampNeg) w0 u1 H locs ls hP hD hS (lv_sub hl [0, 1, 2] rfl) hR
  have hB278 : ∀ (y2 : Int32) (y3 : Int32) (y4 : Int32) (y5 : Int32) (w0 : Int32) (w1 : Int32) (u1 : ZT_10) (H : Heap) (locs : List Loc) (ls : Array Slot), va_P (dC, dI) vwCl (zc_10 a1 k1 u1) H → va_D A (zc_10 a1 k1 u1) → va_S A s.heap H locs → lv_has ls 6 [(0, .ref (a1 0)), (2, .int y2), (3, .int y3), (4, .int y4), (5, .int y5)] → rr_X10_carried_278 fu y2 y3 y4 y5 w0 w1 u1 = some res → W p l e ({ frames := 0, cells := 0, slots := 0, locals := 0 } : Room) s m args below meth c H locs 0 0 Q (F0 m 278 ls [.int w0, .int w1, .ref (a1 6)]) := by
    intro  y2 y3 y4 y5 w0 w1 u1 H locs ls hP hD hS hl hR
    unfold rr_X10_carried_278 at hR
    have i24 := (ck_ok hR).1
    replace hR := (ck_ok hR).2
    refine va_iast (f := u1.2.1.1) hx hb hK hP hD hS 6 5 rfl rfl i24 dX10_carried_278 (fun H24 locs24 hP24 hD24 hS24 => ?_)
    have hP24 : va_P (dC, dI) vwCl (zc_10 a1 k1 (u1.1, ((upd u1.2.1.1 w1.toNatClampNeg w0), u1.2.1.2), u1.2.2)) H24 := hP24
    have hD24 : va_D A (zc_10 a1 k1 (u1.1, ((upd u1.2.1.1 w1.toNatClampNeg w0), u1.2.1.2), u1.2.2)) := hD24
    clear hP hD hS
    refine lv_aload_n hx hb dX10_carried_279 rfl (lv_at hl 0 rfl) ?_
    refine va_get (D := (dC, dI)) (ci := 10) (v := .ref (a1 7)) (C := RX10) (T := TX10) (N := 35) hx hb hts hin10 hown hK hP24 0 rfl rfl 8 (by decide) (hts (.fieldLink RX10 28 "OldestCoinsModel" "sums" "[I") (List.mem_of_getElem? (i := 7) rfl)) (fun _ h9 => h9) rfl dX10_carried_280 ?_
    refine lv_iload hx hb dX10_carried_283 (lv_at hl 4 rfl) ?_
    refine lv_iload_n hx hb dX10_carried_285 rfl (lv_at hl 2 rfl) ?_
    refine lv_if_eq (tgt := 300) hx hb dX10_carried_286 (by decide) (fun c25 => ?_) (fun c25 => ?_)
    · replace hR := ifp_ hR c25
      exact hB300 y4 y5 y5 (u1.1, ((upd u1.2.1.1 w1.toNatClampNeg w0), u1.2.1.2), u1.2.2) H24 locs24 ls hP24 hD24 hS24 (lv_sub hl [0, 3, 4] rfl) hR
    · replace hR := ifn_ hR c25
      refine lv_iload hx hb dX10_carried_289 (lv_at hl 3 rfl) ?_
      refine lv_bipush (v := (6 : Int32)) hx hb dX10_carried_291 (by decide) ?_
      refine lv_icmp_lt (tgt := 300) hx hb dX10_carried_293 (by decide) (fun c26 => ?_) (fun c26 => ?_)
      · replace hR := ifp_ hR c26
        exact hB300 y4 y5 y5 (u1.1, ((upd u1.2.1.1 w1.toNatClampNeg w0), u1.2.1.2), u1.2.2) H24 locs24 ls hP24 hD24 hS24 (lv_sub hl [0, 3, 4] rfl) hR
      · replace hR := ifn_ hR c26
        refine lv_iload_n hx hb dX10_carried_296 rfl (lv_at hl 1 rfl) ?_
        refine lv_goto (tgt := 307) hx hb dX10_carried_297 (by decide) ?_
        exact hB307 y4 y5 y2 y5 (u1.1, ((upd u1.2.1.1 w1.toNatClampNeg w0), u1.2.1.2), u1.2.2) H24 locs24 ls hP24 hD24 hS24 (lv_sub hl [0, 3, 4] rfl) hR
  have hB271 : ∀ (y2 : Int32) (y3 : Int32) (y4 : Int32) (y5 : Int32) (w0 : Int32) (u1 : ZT_10) (H : Heap) (locs : List Loc) (ls : Array Slot), va_P (dC, dI) vwCl (zc_10 a1 k1 u1) H → va_D A (zc_10 a1 k1 u1) → va_S A s.heap H locs → lv_has ls 6 [(0, .ref (a1 0)), (2, .int y2), (3, .int y3), (4, .int y4), (5, .int y5)] → rr_X10_carried_271 fu y2 y3 y4 y5 w0 u1 = some res → W p l e ({ frames := 0, cells := 0, slots := 0, locals := 0 } : Room) s m args below meth c H locs 0 0 Q (F0 m 271 ls [.int w0, .ref (a1 6)]) := by
    intro  y2 y3 y4 y5 w0 u1 H locs ls hP hD hS hl hR
    unfold rr_X10_carried_271 at hR
    refine lv_aload_n hx hb dX10_carried_271 rfl (lv_at hl 0 rfl) ?_
    refine va_get (D := (dC, dI)) (ci := 10) (v := .ref (a1 6)) (C := RX10) (T := TX10) (N := 35) hx hb hts hin10 hown hK hP 0 rfl rfl 7 (by decide) (hts (.fieldLink RX10 25 "OldestCoinsModel" "shops" "[I") (List.mem_of_getElem? (i := 6) rfl)) (fun _ h9 => h9) rfl dX10_carried_272 ?_
    refine lv_iload hx hb dX10_carried_275 (lv_at hl 4 rfl) ?_
    have i23 := (ck_ok hR).1
    replace hR := (ck_ok hR).2
    refine va_iald (f := u1.2.1.1) hx hb hK hP 6 5 rfl rfl i23 dX10_carried_277 ?_
    exact hB278 y2 y3 y4 y5 (u1.2.1.1 y5.toNatClampNeg) w0 u1 H locs ls hP hD hS (lv_sub hl [0, 1, 2, 3, 4] rfl) hR
  have hB157 : ∀ (y4 : Int32) (y5 : Int32) (w0 : Int32) (w1 : Int32) (u1 : ZT_10) (H : Heap) (locs : List Loc) (ls : Array Slot), va_P (dC, dI) vwCl (zc_10 a1 k1 u1) H → va_D A (zc_10 a1 k1 u1) → va_S A s.heap H locs → lv_has ls 6 [(0, .ref (a1 0)), (4, .int y4), (5, .int y5)] → rr_X10_carried_157 fu y4 y5 w0 w1 u1 = some res → W p l e ({ frames := 0, cells := 0, slots := 0, locals := 0 } : Room) s m args below meth c H locs 0 0 Q (F0 m 157 ls [.int w0, .int w1, .ref (a1 5)]) := by
    intro  y4 y5 w0 w1 u1 H locs ls hP hD hS hl hR
    unfold rr_X10_carried_157 at hR
    have i49 := (ck_ok hR).1
    replace hR := (ck_ok hR).2
    refine va_iast (f := u1.1.2.2.2.2.1) hx hb hK hP hD hS 5 4 rfl rfl i49 dX10_carried_157 (fun H49 locs49 hP49 hD49 hS49 => ?_)
    have hP49 : va_P (dC, dI) vwCl (zc_10 a1 k1 ((u1.1.1, u1.1.2.1, u1.1.2.2.1, u1.1.2.2.2.1, (upd u1.1.2.2.2.2.1 w1.toNatClampNeg w0), u1.1.2.2.2.2.2), u1.2)) H49 := hP49
    have hD49 : va_D A (zc_10 a1 k1 ((u1.1.1, u1.1.2.1, u1.1.2.2.1, u1.1.2.2.2.1, (upd u1.1.2.2.2.2.1 w1.toNatClampNeg w0), u1.1.2.2.2.2.2), u1.2)) := hD49
    clear hP hD hS
    refine lv_iload hx hb dX10_carried_158 (lv_at hl 2 rfl) ?_
    refine lv_if_ne (tgt := 173) hx hb dX10_carried_160 (by decide) (fun c50 => ?_) (fun c50 => ?_)
    · replace hR := ifn_ hR c50
      refine lv_iload hx hb dX10_carried_173 (lv_at hl 2 rfl) ?_
      refine lv_iconst (v := (1 : Int32)) hx hb dX10_carried_175 (by decide) ?_
      refine lv_icmp_ne (tgt := 189) hx hb dX10_carried_176 (by decide) (fun c51 => ?_) (fun c51 => ?_)
      · replace hR := ifn_ hR c51
        refine lv_iload hx hb dX10_carried_189 (lv_at hl 2 rfl) ?_
        refine lv_iconst (v := (2 : Int32)) hx hb dX10_carried_191 (by decide) ?_
        refine lv_icmp_ne (tgt := 205) hx hb dX10_carried_192 (by decide) (fun c52 => ?_) (fun c52 => ?_)
        · replace hR := ifn_ hR c52
          refine lv_iload hx hb dX10_carried_205 (lv_at hl 2 rfl) ?_
          refine lv_iconst (v := (3 : Int32)) hx hb dX10_carried_207 (by decide) ?_
          refine lv_icmp_ne (tgt := 221) hx hb dX10_carried_208 (by decide) (fun c53 => ?_) (fun c53 => ?_)
          · replace hR := ifn_ hR c53
            refine lv_aload_n hx hb dX10_carried_221 rfl (lv_at hl 0 rfl) ?_
            refine va_get (D := (dC, dI)) (ci := 10) (v := .ref (a1 5)) (C := RX10) (T := TX10) (N := 35) hx hb hts hin10 hown hK hP49 0 rfl rfl 4 (by decide) (hts (.fieldLink RX10 22 "OldestCoinsModel" "whose" "[I") (List.mem_of_getElem? (i := 5) rfl)) (fun _ h9 => h9) rfl dX10_carried_222 ?_
            refine lv_iload hx hb dX10_carried_225 (lv_at hl 1 rfl) ?_
            have i54 := (ck_ok hR).1
            replace hR := (ck_ok hR).2
            refine va_iald (f := (upd u1.1.2.2.2.2.1 w1.toNatClampNeg w0)) hx hb hK hP49 5 4 rfl rfl i54 dX10_carried_227 ?_
            subst hQe
            exact W.iret (v := ((upd u1.1.2.2.2.2.1 w1.toNatClampNeg w0) y4.toNatClampNeg)) hx hb hr (fun t ht hW => ⟨⟨((upd u1.1.2.2.2.2.1 w1.toNatClampNeg w0) y4.toNatClampNeg), ((u1.1.1, u1.1.2.1, u1.1.2.2.1, u1.1.2.2.2.1, (upd u1.1.2.2.2.2.1 w1.toNatClampNeg w0), u1.1.2.2.2.2.2), u1.2), rfl, (Option.some.inj hR).symm, by rw [ht]; exact hP49, va_K.moved hW.alike hK, hD49⟩, hS49.F ht⟩) hS49.2.2 dX10_carried_228
          · replace hR := ifp_ hR c53
            refine lv_aload_n hx hb dX10_carried_211 rfl (lv_at hl 0 rfl) ?_
            refine va_get (D := (dC, dI)) (ci := 10) (v := .ref (a1 4)) (C := RX10) (T := TX10) (N := 35) hx hb hts hin10 hown hK hP49 0 rfl rfl 3 (by decide) (hts (.fieldLink RX10 19 "OldestCoinsModel" "kinds" "[I") (List.mem_of_getElem? (i := 4) rfl)) (fun _ h9 => h9) rfl dX10_carried_212 ?_
            refine lv_iload hx hb dX10_carried_215 (lv_at hl 1 rfl) ?_
            have i55 := (ck_ok hR).1
            replace hR := (ck_ok hR).2
            refine va_iald (f := u1.1.2.2.2.1) hx hb hK hP49 4 3 rfl rfl i55 dX10_carried_217 ?_
            refine lv_goto (tgt := 228) hx hb dX10_carried_218 (by decide) ?_
            subst hQe
            exact W.iret (v := (u1.1.2.2.2.1 y4.toNatClampNeg)) hx hb hr (fun t ht hW => ⟨⟨(u1.1.2.2.2.1 y4.toNatClampNeg), ((u1.1.1, u1.1.2.1, u1.1.2.2.1, u1.1.2.2.2.1, (upd u1.1.2.2.2.2.1 w1.toNatClampNeg w0), u1.1.2.2.2.2.2), u1.2), rfl, (Option.some.inj hR).symm, by rw [ht]; exact hP49, va_K.moved hW.alike hK, hD49⟩, hS49.F ht⟩) hS49.2.2 dX10_carried_228
        · replace hR := ifp_ hR c52
          refine lv_aload_n hx hb dX10_carried_195 rfl (lv_at hl 0 rfl) ?_
          refine va_get (D := (dC, dI)) (ci := 10) (v := .ref (a1 3)) (C := RX10) (T := TX10) (N := 35) hx hb hts hin10 hown hK hP49 0 rfl rfl 2 (by decide) (hts (.fieldLink RX10 16 "OldestCoinsModel" "stamps" "[I") (List.mem_of_getElem? (i := 3) rfl)) (fun _ h9 => h9) rfl dX10_carried_196 ?_
          refine lv_iload hx hb dX10_carried_199 (lv_at hl 1 rfl) ?_
          have i56 := (ck_ok hR).1
          replace hR := (ck_ok hR).2
          refine va_iald (f := u1.1.2.2.1) hx hb hK hP49 3 2 rfl rfl i56 dX10_carried_201 ?_
          refine lv_goto (tgt := 228) hx hb dX10_carried_202 (by decide) ?_
          subst hQe
          exact W.iret (v := (u1.1.2.2.1 y4.toNatClampNeg)) hx hb hr (fun t ht hW => ⟨⟨(u1.1.2.2.1 y4.toNatClampNeg), ((u1.1.1, u1.1.2.1, u1.1.2.2.1, u1.1.2.2.2.1, (upd u1.1.2.2.2.2.1 w1.toNatClampNeg w0), u1.1.2.2.2.2.2), u1.2), rfl, (Option.some.inj hR).symm, by rw [ht]; exact hP49, va_K.moved hW.alike hK, hD49⟩, hS49.F ht⟩) hS49.2.2 dX10_carried_228
      · replace hR := ifp_ hR c51
        refine lv_aload_n hx hb dX10_carried_179 rfl (lv_at hl 0 rfl) ?_
        refine va_get (D := (dC, dI)) (ci := 10) (v := .ref (a1 2)) (C := RX10) (T := TX10) (N := 35) hx hb hts hin10 hown hK hP49 0 rfl rfl 1 (by decide) (hts (.fieldLink RX10 13 "OldestCoinsModel" "years" "[I") (List.mem_of_getElem? (i := 2) rfl)) (fun _ h9 => h9) rfl dX10_carried_180 ?_
        refine lv_iload hx hb dX10_carried_183 (lv_at hl 1 rfl) ?_
        have i57 := (ck_ok hR).1
        replace hR := (ck_ok hR).2
        refine va_iald (f := u1.1.2.1) hx hb hK hP49 2 1 rfl rfl i57 dX10_carried_185 ?_
        refine lv_goto (tgt := 228) hx hb dX10_carried_186 (by decide) ?_
        subst hQe
        exact W.iret (v := (u1.1.2.1 y4.toNatClampNeg)) hx hb hr (fun t ht hW => ⟨⟨(u1.1.2.1 y4.toNatClampNeg), ((u1.1.1, u1.1.2.1, u1.1.2.2.1, u1.1.2.2.2.1, (upd u1.1.2.2.2.2.1 w1.toNatClampNeg w0), u1.1.2.2.2.2.2), u1.2), rfl, (Option.some.inj hR).symm, by rw [ht]; exact hP49, va_K.moved hW.alike hK, hD49⟩, hS49.F ht⟩) hS49.2.2 dX10_carried_228
    · replace hR := ifp_ hR c50
      refine lv_aload_n hx hb dX10_carried_163 rfl (lv_at hl 0 rfl) ?_
      refine va_get (D := (dC, dI)) (ci := 10) (v := .ref (a1 1)) (C := RX10) (T := TX10) (N := 35) hx hb hts hin10 hown hK hP49 0 rfl rfl 0 (by decide) (hts (.fieldLink RX10 7 "OldestCoinsModel" "worths" "[I") (List.mem_of_getElem? (i := 1) rfl)) (fun _ h9 => h9) rfl dX10_carried_164 ?_
      refine lv_iload hx hb dX10_carried_167 (lv_at hl 1 rfl) ?_
      have i58 := (ck_ok hR).1
      replace hR := (ck_ok hR).2
      refine va_iald (f := u1.1.1) hx hb hK hP49 1 0 rfl rfl i58 dX10_carried_169 ?_
      refine lv_goto (tgt := 228) hx hb dX10_carried_170 (by decide) ?_
      subst hQe
      exact W.iret (v := (u1.1.1 y4.toNatClampNeg)) hx hb hr (fun t ht hW => ⟨⟨(u1.1.1 y4.toNatClampNeg), ((u1.1.1, u1.1.2.1, u1.1.2.2.1, u1.1.2.2.2.1, (upd u1.1.2.2.2.2.1 w1.toNatClampNeg w0), u1.1.2.2.2.2.2), u1.2), rfl, (Option.some.inj hR).symm, by rw [ht]; exact hP49, va_K.moved hW.alike hK, hD49⟩, hS49.F ht⟩) hS49.2.2 dX10_carried_228
  have hB150 : ∀ (y4 : Int32) (y5 : Int32) (w0 : Int32) (u1 : ZT_10) (H : Heap) (locs : List Loc) (ls : Array Slot), va_P (dC, dI) vwCl (zc_10 a1 k1 u1) H → va_D A (zc_10 a1 k1 u1) → va_S A s.heap H locs → lv_has ls 6 [(0, .ref (a1 0)), (4, .int y4), (5, .int y5)] → rr_X10_carried_150 fu y4 y5 w0 u1 = some res → W p l e ({ frames := 0, cells := 0, slots := 0, locals := 0 } : Room) s m args below meth c H locs 0 0 Q (F0 m 150 ls [.int w0, .ref (a1 5)]) := by
    intro  y4 y5 w0 u1 H locs ls hP hD hS hl hR
    unfold rr_X10_carried_150 at hR
    refine lv_aload_n hx hb dX10_carried_150 rfl (lv_at hl 0 rfl) ?_
    refine va_get (D := (dC, dI)) (ci := 10) (v := .ref (a1 5)) (C := RX10) (T := TX10) (N := 35) hx hb hts hin10 hown hK hP 0 rfl rfl 4 (by decide) (hts (.fieldLink RX10 22 "OldestCoinsModel" "whose" "[I") (List.mem_of_getElem? (i := 5) rfl)) (fun _ h9 => h9) rfl dX10_carried_151 ?_
    refine lv_iload hx hb dX10_carried_154 (lv_at hl 1 rfl) ?_
    have i48 := (ck_ok hR).1
    replace hR := (ck_ok hR).2
    refine va_iald (f := u1.1.2.2.2.2.1) hx hb hK hP 5 4 rfl rfl i48 dX10_carried_156 ?_
    exact hB157 y4 y5 (u1.1.2.2.2.2.1 y4.toNatClampNeg) w0 u1 H locs ls hP hD hS (lv_sub hl [0, 1, 2] rfl) hR
  have hB129 : ∀ (y2 : Int32) (y3 : Int32) (y4 : Int32) (y5 : Int32) (w0 : Int32) (w1 : Int32) (u1 : ZT_10) (H : Heap) (locs : List Loc) (ls : Array Slot), va_P (dC, dI) vwCl (zc_10 a1 k1 u1) H → va_D A (zc_10 a1 k1 u1) → va_S A s.heap H locs → lv_has ls 6 [(0, .ref (a1 0)), (2, .int y2), (3, .int y3), (4, .int y4), (5, .int y5)] → rr_X10_carried_129 fu y2 y3 y4 y5 w0 w1 u1 = some res → W p l e ({ frames := 0, cells := 0, slots := 0, locals := 0 } : Room) s m args below meth c H locs 0 0 Q (F0 m 129 ls [.int w0, .int w1, .ref (a1 4)]) := by
    intro  y2 y3 y4 y5 w0 w1 u1 H locs ls hP hD hS hl hR
    unfold rr_X10_carried_129 at hR
    have i45 := (ck_ok hR).1
    replace hR := (ck_ok hR).2
    refine va_iast (f := u1.1.2.2.2.1) hx hb hK hP hD hS 4 3 rfl rfl i45 dX10_carried_129 (fun H45 locs45 hP45 hD45 hS45 => ?_)
    have hP45 : va_P (dC, dI) vwCl (zc_10 a1 k1 ((u1.1.1, u1.1.2.1, u1.1.2.2.1, (upd u1.1.2.2.2.1 w1.toNatClampNeg w0), u1.1.2.2.2.2), u1.2)) H45 := hP45
    have hD45 : va_D A (zc_10 a1 k1 ((u1.1.1, u1.1.2.1, u1.1.2.2.1, (upd u1.1.2.2.2.1 w1.toNatClampNeg w0), u1.1.2.2.2.2), u1.2)) := hD45
    clear hP hD hS
    refine lv_aload_n hx hb dX10_carried_130 rfl (lv_at hl 0 rfl) ?_
    refine va_get (D := (dC, dI)) (ci := 10) (v := .ref (a1 5)) (C := RX10) (T := TX10) (N := 35) hx hb hts hin10 hown hK hP45 0 rfl rfl 4 (by decide) (hts (.fieldLink RX10 22 "OldestCoinsModel" "whose" "[I") (List.mem_of_getElem? (i := 5) rfl)) (fun _ h9 => h9) rfl dX10_carried_131 ?_
    refine lv_iload hx hb dX10_carried_134 (lv_at hl 3 rfl) ?_
    refine lv_iload_n hx hb dX10_carried_136 rfl (lv_at hl 2 rfl) ?_
    refine lv_if_eq (tgt := 150) hx hb dX10_carried_137 (by decide) (fun c46 => ?_) (fun c46 => ?_)
    · replace hR := ifp_ hR c46
      exact hB150 y4 y5 y4 ((u1.1.1, u1.1.2.1, u1.1.2.2.1, (upd u1.1.2.2.2.1 w1.toNatClampNeg w0), u1.1.2.2.2.2), u1.2) H45 locs45 ls hP45 hD45 hS45 (lv_sub hl [0, 3, 4] rfl) hR
    · replace hR := ifn_ hR c46
      refine lv_iload hx hb dX10_carried_140 (lv_at hl 4 rfl) ?_
      refine lv_iconst (v := (4 : Int32)) hx hb dX10_carried_142 (by decide) ?_
      refine lv_icmp_ne (tgt := 150) hx hb dX10_carried_143 (by decide) (fun c47 => ?_) (fun c47 => ?_)
      · replace hR := ifn_ hR c47
        exact hB150 y4 y5 y4 ((u1.1.1, u1.1.2.1, u1.1.2.2.1, (upd u1.1.2.2.2.1 w1.toNatClampNeg w0), u1.1.2.2.2.2), u1.2) H45 locs45 ls hP45 hD45 hS45 (lv_sub hl [0, 3, 4] rfl) hR
      · replace hR := ifp_ hR c47
        refine lv_iload_n hx hb dX10_carried_146 rfl (lv_at hl 1 rfl) ?_
        refine lv_goto (tgt := 157) hx hb dX10_carried_147 (by decide) ?_
        exact hB157 y4 y5 y2 y4 ((u1.1.1, u1.1.2.1, u1.1.2.2.1, (upd u1.1.2.2.2.1 w1.toNatClampNeg w0), u1.1.2.2.2.2), u1.2) H45 locs45 ls hP45 hD45 hS45 (lv_sub hl [0, 3, 4] rfl) hR
  have hB122 : ∀ (y2 : Int32) (y3 : Int32) (y4 : Int32) (y5 : Int32) (w0 : Int32) (u1 : ZT_10) (H : Heap) (locs : List Loc) (ls : Array Slot), va_P (dC, dI) vwCl (zc_10 a1 k1 u1) H → va_D A (zc_10 a1 k1 u1) → va_S A s.heap H locs → lv_has ls 6 [(0, .ref (a1 0)), (2, .int y2), (3, .int y3), (4, .int y4), (5, .int y5)] → rr_X10_carried_122 fu y2 y3 y4 y5 w0 u1 = some res → W p l e ({ frames := 0, cells := 0, slots := 0, locals := 0 } : Room) s m args below meth c H locs 0 0 Q (F0 m 122 ls [.int w0, .ref (a1 4)]) := by
    intro  y2 y3 y4 y5 w0 u1 H locs ls hP hD hS hl hR
    unfold rr_X10_carried_122 at hR
    refine lv_aload_n hx hb dX10_carried_122 rfl (lv_at hl 0 rfl) ?_
    refine va_get (D := (dC, dI)) (ci := 10) (v := .ref (a1 4)) (C := RX10) (T := TX10) (N := 35) hx hb hts hin10 hown hK hP 0 rfl rfl 3 (by decide) (hts (.fieldLink RX10 19 "OldestCoinsModel" "kinds" "[I") (List.mem_of_getElem? (i := 4) rfl)) (fun _ h9 => h9) rfl dX10_carried_123 ?_
    refine lv_iload hx hb dX10_carried_126 (lv_at hl 3 rfl) ?_
    have i44 := (ck_ok hR).1
    replace hR := (ck_ok hR).2
    refine va_iald (f := u1.1.2.2.2.1) hx hb hK hP 4 3 rfl rfl i44 dX10_carried_128 ?_
    exact hB129 y2 y3 y4 y5 (u1.1.2.2.2.1 y4.toNatClampNeg) w0 u1 H locs ls hP hD hS (lv_sub hl [0, 1, 2, 3, 4] rfl) hR
  have hB101 : ∀ (y2 : Int32) (y3 : Int32) (y4 : Int32) (y5 : Int32) (w0 : Int32) (w1 : Int32) (u1 : ZT_10) (H : Heap) (locs : List Loc) (ls : Array Slot), va_P (dC, dI) vwCl (zc_10 a1 k1 u1) H → va_D A (zc_10 a1 k1 u1) → va_S A s.heap H locs → lv_has ls 6 [(0, .ref (a1 0)), (2, .int y2), (3, .int y3), (4, .int y4), (5, .int y5)] → rr_X10_carried_101 fu y2 y3 y4 y5 w0 w1 u1 = some res → W p l e ({ frames := 0, cells := 0, slots := 0, locals := 0 } : Room) s m args below meth c H locs 0 0 Q (F0 m 101 ls [.int w0, .int w1, .ref (a1 3)]) := by
    intro  y2 y3 y4 y5 w0 w1 u1 H locs ls hP hD hS hl hR
    unfold rr_X10_carried_101 at hR
    have i41 := (ck_ok hR).1
    replace hR := (ck_ok hR).2
    refine va_iast (f := u1.1.2.2.1) hx hb hK hP hD hS 3 2 rfl rfl i41 dX10_carried_101 (fun H41 locs41 hP41 hD41 hS41 => ?_)
    have hP41 : va_P (dC, dI) vwCl (zc_10 a1 k1 ((u1.1.1, u1.1.2.1, (upd u1.1.2.2.1 w1.toNatClampNeg w0), u1.1.2.2.2), u1.2)) H41 := hP41
    have hD41 : va_D A (zc_10 a1 k1 ((u1.1.1, u1.1.2.1, (upd u1.1.2.2.1 w1.toNatClampNeg w0), u1.1.2.2.2), u1.2)) := hD41
    clear hP hD hS
    refine lv_aload_n hx hb dX10_carried_102 rfl (lv_at hl 0 rfl) ?_
    refine va_get (D := (dC, dI)) (ci := 10) (v := .ref (a1 4)) (C := RX10) (T := TX10) (N := 35) hx hb hts hin10 hown hK hP41 0 rfl rfl 3 (by decide) (hts (.fieldLink RX10 19 "OldestCoinsModel" "kinds" "[I") (List.mem_of_getElem? (i := 4) rfl)) (fun _ h9 => h9) rfl dX10_carried_103 ?_
    refine lv_iload hx hb dX10_carried_106 (lv_at hl 3 rfl) ?_
    refine lv_iload_n hx hb dX10_carried_108 rfl (lv_at hl 2 rfl) ?_
    refine lv_if_eq (tgt := 122) hx hb dX10_carried_109 (by decide) (fun c42 => ?_) (fun c42 => ?_)
    · replace hR := ifp_ hR c42
      exact hB122 y2 y3 y4 y5 y4 ((u1.1.1, u1.1.2.1, (upd u1.1.2.2.1 w1.toNatClampNeg w0), u1.1.2.2.2), u1.2) H41 locs41 ls hP41 hD41 hS41 (lv_sub hl [0, 1, 2, 3, 4] rfl) hR
    · replace hR := ifn_ hR c42
      refine lv_iload hx hb dX10_carried_112 (lv_at hl 4 rfl) ?_
      refine lv_iconst (v := (3 : Int32)) hx hb dX10_carried_114 (by decide) ?_
      refine lv_icmp_ne (tgt := 122) hx hb dX10_carried_115 (by decide) (fun c43 => ?_) (fun c43 => ?_)
      · replace hR := ifn_ hR c43
        exact hB122 y2 y3 y4 y5 y4 ((u1.1.1, u1.1.2.1, (upd u1.1.2.2.1 w1.toNatClampNeg w0), u1.1.2.2.2), u1.2) H41 locs41 ls hP41 hD41 hS41 (lv_sub hl [0, 1, 2, 3, 4] rfl) hR
      · replace hR := ifp_ hR c43
        refine lv_iload_n hx hb dX10_carried_118 rfl (lv_at hl 1 rfl) ?_
        refine lv_goto (tgt := 129) hx hb dX10_carried_119 (by decide) ?_
        exact hB129 y2 y3 y4 y5 y2 y4 ((u1.1.1, u1.1.2.1, (upd u1.1.2.2.1 w1.toNatClampNeg w0), u1.1.2.2.2), u1.2) H41 locs41 ls hP41 hD41 hS41 (lv_sub hl [0, 1, 2, 3, 4] rfl) hR
  have hB94 : ∀ (y2 : Int32) (y3 : Int32) (y4 : Int32) (y5 : Int32) (w0 : Int32) (u1 : ZT_10) (H : Heap) (locs : List Loc) (ls : Array Slot), va_P (dC, dI) vwCl (zc_10 a1 k1 u1) H → va_D A (zc_10 a1 k1 u1) → va_S A s.heap H locs → lv_has ls 6 [(0, .ref (a1 0)), (2, .int y2), (3, .int y3), (4, .int y4), (5, .int y5)] → rr_X10_carried_94 fu y2 y3 y4 y5 w0 u1 = some res → W p l e ({ frames := 0, cells := 0, slots := 0, locals := 0 } : Room) s m args below meth c H locs 0 0 Q (F0 m 94 ls [.int w0, .ref (a1 3)]) := by
    intro  y2 y3 y4 y5 w0 u1 H locs ls hP hD hS hl hR
    unfold rr_X10_carried_94 at hR
    refine lv_aload_n hx hb dX10_carried_94 rfl (lv_at hl 0 rfl) ?_
    refine va_get (D := (dC, dI)) (ci := 10) (v := .ref (a1 3)) (C := RX10) (T := TX10) (N := 35) hx hb hts hin10 hown hK hP 0 rfl rfl 2 (by decide) (hts (.fieldLink RX10 16 "OldestCoinsModel" "stamps" "[I") (List.mem_of_getElem? (i := 3) rfl)) (fun _ h9 => h9) rfl dX10_carried_95 ?_
    refine lv_iload hx hb dX10_carried_98 (lv_at hl 3 rfl) ?_
    have i40 := (ck_ok hR).1
    replace hR := (ck_ok hR).2
    refine va_iald (f := u1.1.2.2.1) hx hb hK hP 3 2 rfl rfl i40 dX10_carried_100 ?_
    exact hB101 y2 y3 y4 y5 (u1.1.2.2.1 y4.toNatClampNeg) w0 u1 H locs ls hP hD hS (lv_sub hl [0, 1, 2, 3, 4] rfl) hR
  have hB73 : ∀ (y2 : Int32) (y3 : Int32) (y4 : Int32) (y5 : Int32) (w0 : Int32) (w1 : Int32) (u1 : ZT_10) (H : Heap) (locs : List Loc) (ls : Array Slot), va_P (dC, dI) vwCl (zc_10 a1 k1 u1) H → va_D A (zc_10 a1 k1 u1) → va_S A s.heap H locs → lv_has ls 6 [(0, .ref (a1 0)), (2, .int y2), (3, .int y3), (4, .int y4), (5, .int y5)] → rr_X10_carried_73 fu y2 y3 y4 y5 w0 w1 u1 = some res → W p l e ({ frames := 0, cells := 0, slots := 0, locals := 0 } : Room) s m args below meth c H locs 0 0 Q (F0 m 73 ls [.int w0, .int w1, .ref (a1 2)]) := by
    intro  y2 y3 y4 y5 w0 w1 u1 H locs ls hP hD hS hl hR
    unfold rr_X10_carried_73 at hR
    have i37 := (ck_ok hR).1
    replace hR := (ck_ok hR).2
    refine va_iast (f := u1.1.2.1) hx hb hK hP hD hS 2 1 rfl rfl i37 dX10_carried_73 (fun H37 locs37 hP37 hD37 hS37 => ?_)
    have hP37 : va_P (dC, dI) vwCl (zc_10 a1 k1 ((u1.1.1, (upd u1.1.2.1 w1.toNatClampNeg w0), u1.1.2.2), u1.2)) H37 := hP37
    have hD37 : va_D A (zc_10 a1 k1 ((u1.1.1, (upd u1.1.2.1 w1.toNatClampNeg w0), u1.1.2.2), u1.2)) := hD37
    clear hP hD hS
    refine lv_aload_n hx hb dX10_carried_74 rfl (lv_at hl 0 rfl) ?_
    refine va_get (D := (dC, dI)) (ci := 10) (v := .ref (a1 3)) (C := RX10) (T := TX10) (N := 35) hx hb hts hin10 hown hK hP37 0 rfl rfl 2 (by decide) (hts (.fieldLink RX10 16 "OldestCoinsModel" "stamps" "[I") (List.mem_of_getElem? (i := 3) rfl)) (fun _ h9 => h9) rfl dX10_carried_75 ?_
    refine lv_iload hx hb dX10_carried_78 (lv_at hl 3 rfl) ?_
    refine lv_iload_n hx hb dX10_carried_80 rfl (lv_at hl 2 rfl) ?_
    refine lv_if_eq (tgt := 94) hx hb dX10_carried_81 (by decide) (fun c38 => ?_) (fun c38 => ?_)
    · replace hR := ifp_ hR c38
      exact hB94 y2 y3 y4 y5 y4 ((u1.1.1, (upd u1.1.2.1 w1.toNatClampNeg w0), u1.1.2.2), u1.2) H37 locs37 ls hP37 hD37 hS37 (lv_sub hl [0, 1, 2, 3, 4] rfl) hR
    · replace hR := ifn_ hR c38
      refine lv_iload hx hb dX10_carried_84 (lv_at hl 4 rfl) ?_
      refine lv_iconst (v := (2 : Int32)) hx hb dX10_carried_86 (by decide) ?_
      refine lv_icmp_ne (tgt := 94) hx hb dX10_carried_87 (by decide) (fun c39 => ?_) (fun c39 => ?_)
      · replace hR := ifn_ hR c39
        exact hB94 y2 y3 y4 y5 y4 ((u1.1.1, (upd u1.1.2.1 w1.toNatClampNeg w0), u1.1.2.2), u1.2) H37 locs37 ls hP37 hD37 hS37 (lv_sub hl [0, 1, 2, 3, 4] rfl) hR
      · replace hR := ifp_ hR c39
        refine lv_iload_n hx hb dX10_carried_90 rfl (lv_at hl 1 rfl) ?_
        refine lv_goto (tgt := 101) hx hb dX10_carried_91 (by decide) ?_
        exact hB101 y2 y3 y4 y5 y2 y4 ((u1.1.1, (upd u1.1.2.1 w1.toNatClampNeg w0), u1.1.2.2), u1.2) H37 locs37 ls hP37 hD37 hS37 (lv_sub hl [0, 1, 2, 3, 4] rfl) hR
  have hB66 : ∀ (y2 : Int32) (y3 : Int32) (y4 : Int32) (y5 : Int32) (w0 : Int32) (u1 : ZT_10) (H : Heap) (locs : List Loc) (ls : Array Slot), va_P (dC, dI) vwCl (zc_10 a1 k1 u1) H → va_D A (zc_10 a1 k1 u1) → va_S A s.heap H locs → lv_has ls 6 [(0, .ref (a1 0)), (2, .int y2), (3, .int y3), (4, .int y4), (5, .int y5)] → rr_X10_carried_66 fu y2 y3 y4 y5 w0 u1 = some res → W p l e ({ frames := 0, cells := 0, slots := 0, locals := 0 } : Room) s m args below meth c H locs 0 0 Q (F0 m 66 ls [.int w0, .ref (a1 2)]) := by
    intro  y2 y3 y4 y5 w0 u1 H locs ls hP hD hS hl hR
    unfold rr_X10_carried_66 at hR
    refine lv_aload_n hx hb dX10_carried_66 rfl (lv_at hl 0 rfl) ?_
    refine va_get (D := (dC, dI)) (ci := 10) (v := .ref (a1 2)) (C := RX10) (T := TX10) (N := 35) hx hb hts hin10 hown hK hP 0 rfl rfl 1 (by decide) (hts (.fieldLink RX10 13 "OldestCoinsModel" "years" "[I") (List.mem_of_getElem? (i := 2) rfl)) (fun _ h9 => h9) rfl dX10_carried_67 ?_
    refine lv_iload hx hb dX10_carried_70 (lv_at hl 3 rfl) ?_
    have i36 := (ck_ok hR).1
    replace hR := (ck_ok hR).2
    refine va_iald (f := u1.1.2.1) hx hb hK hP 2 1 rfl rfl i36 dX10_carried_72 ?_
    exact hB73 y2 y3 y4 y5 (u1.1.2.1 y4.toNatClampNeg) w0 u1 H locs ls hP hD hS (lv_sub hl [0, 1, 2, 3, 4] rfl) hR
  have hB45 : ∀ (y2 : Int32) (y3 : Int32) (y4 : Int32) (y5 : Int32) (w0 : Int32) (w1 : Int32) (u1 : ZT_10) (H : Heap) (locs : List Loc) (ls : Array Slot), va_P (dC, dI) vwCl (zc_10 a1 k1 u1) H → va_D A (zc_10 a1 k1 u1) → va_S A s.heap H locs → lv_has ls 6 [(0, .ref (a1 0)), (2, .int y2), (3, .int y3), (4, .int y4), (5, .int y5)] → rr_X10_carried_45 fu y2 y3 y4 y5 w0 w1 u1 = some res → W p l e ({ frames := 0, cells := 0, slots := 0, locals := 0 } : Room) s m args below meth c H locs 0 0 Q (F0 m 45 ls [.int w0, .int w1, .ref (a1 1)]) := by
    intro  y2 y3 y4 y5 w0 w1 u1 H locs ls hP hD hS hl hR
    unfold rr_X10_carried_45 at hR
    have i28 := (ck_ok hR).1
    replace hR := (ck_ok hR).2
    refine va_iast (f := u1.1.1) hx hb hK hP hD hS 1 0 rfl rfl i28 dX10_carried_45 (fun H28 locs28 hP28 hD28 hS28 => ?_)
    have hP28 : va_P (dC, dI) vwCl (zc_10 a1 k1 (((upd u1.1.1 w1.toNatClampNeg w0), u1.1.2), u1.2)) H28 := hP28
    have hD28 : va_D A (zc_10 a1 k1 (((upd u1.1.1 w1.toNatClampNeg w0), u1.1.2), u1.2)) := hD28
    clear hP hD hS
    refine lv_aload_n hx hb dX10_carried_46 rfl (lv_at hl 0 rfl) ?_
    refine va_get (D := (dC, dI)) (ci := 10) (v := .ref (a1 2)) (C := RX10) (T := TX10) (N := 35) hx hb hts hin10 hown hK hP28 0 rfl rfl 1 (by decide) (hts (.fieldLink RX10 13 "OldestCoinsModel" "years" "[I") (List.mem_of_getElem? (i := 2) rfl)) (fun _ h9 => h9) rfl dX10_carried_47 ?_
    refine lv_iload hx hb dX10_carried_50 (lv_at hl 3 rfl) ?_
    refine lv_iload_n hx hb dX10_carried_52 rfl (lv_at hl 2 rfl) ?_
    refine lv_if_eq (tgt := 66) hx hb dX10_carried_53 (by decide) (fun c29 => ?_) (fun c29 => ?_)
    · replace hR := ifp_ hR c29
      exact hB66 y2 y3 y4 y5 y4 (((upd u1.1.1 w1.toNatClampNeg w0), u1.1.2), u1.2) H28 locs28 ls hP28 hD28 hS28 (lv_sub hl [0, 1, 2, 3, 4] rfl) hR
    · replace hR := ifn_ hR c29
      refine lv_iload hx hb dX10_carried_56 (lv_at hl 4 rfl) ?_
      refine lv_iconst (v := (1 : Int32)) hx hb dX10_carried_58 (by decide) ?_
      refine lv_icmp_ne (tgt := 66) hx hb dX10_carried_59 (by decide) (fun c30 => ?_) (fun c30 => ?_)
      · replace hR := ifn_ hR c30
        exact hB66 y2 y3 y4 y5 y4 (((upd u1.1.1 w1.toNatClampNeg w0), u1.1.2), u1.2) H28 locs28 ls hP28 hD28 hS28 (lv_sub hl [0, 1, 2, 3, 4] rfl) hR
      · replace hR := ifp_ hR c30
        refine lv_iload_n hx hb dX10_carried_62 rfl (lv_at hl 1 rfl) ?_
        refine lv_goto (tgt := 73) hx hb dX10_carried_63 (by decide) ?_
        exact hB73 y2 y3 y4 y5 y2 y4 (((upd u1.1.1 w1.toNatClampNeg w0), u1.1.2), u1.2) H28 locs28 ls hP28 hD28 hS28 (lv_sub hl [0, 1, 2, 3, 4] rfl) hR
  have hB38 : ∀ (y2 : Int32) (y3 : Int32) (y4 : Int32) (y5 : Int32) (w0 : Int32) (u1 : ZT_10) (H : Heap) (locs : List Loc) (ls : Array Slot), va_P (dC, dI) vwCl (zc_10 a1 k1 u1) H → va_D A (zc_10 a1 k1 u1) → va_S A s.heap H locs → lv_has ls 6 [(0, .ref (a1 0)), (2, .int y2), (3, .int y3), (4, .int y4), (5, .int y5)] → rr_X10_carried_38 fu y2 y3 y4 y5 w0 u1 = some res → W p l e ({ frames := 0, cells := 0, slots := 0, locals := 0 } : Room) s m args below meth c H locs 0 0 Q (F0 m 38 ls [.int w0, .ref (a1 1)]) := by
    intro  y2 y3 y4 y5 w0 u1 H locs ls hP hD hS hl hR
    unfold rr_X10_carried_38 at hR
    refine lv_aload_n hx hb dX10_carried_38 rfl (lv_at hl 0 rfl) ?_
    refine va_get (D := (dC, dI)) (ci := 10) (v := .ref (a1 1)) (C := RX10) (T := TX10) (N := 35) hx hb hts hin10 hown hK hP 0 rfl rfl 0 (by decide) (hts (.fieldLink RX10 7 "OldestCoinsModel" "worths" "[I") (List.mem_of_getElem? (i := 1) rfl)) (fun _ h9 => h9) rfl dX10_carried_39 ?_
    refine lv_iload hx hb dX10_carried_42 (lv_at hl 3 rfl) ?_
    have i27 := (ck_ok hR).1
    replace hR := (ck_ok hR).2
    refine va_iald (f := u1.1.1) hx hb hK hP 1 0 rfl rfl i27 dX10_carried_44 ?_
    exact hB45 y2 y3 y4 y5 (u1.1.1 y4.toNatClampNeg) w0 u1 H locs ls hP hD hS (lv_sub hl [0, 1, 2, 3, 4] rfl) hR
  unfold rr_X10_carried at hR
  refine lv_iload_n hx hb dX10_carried_0 rfl (lv_at hl 1 rfl) ?_
  refine lv_sipush (v := (200 : Int32)) hx hb dX10_carried_1 (by decide) ?_
  refine lv_icmp_ge (tgt := 229) hx hb dX10_carried_4 (by decide) (fun c1 => ?_) (fun c1 => ?_)
  · replace hR := ifp_ hR c1
    refine lv_iload_n hx hb dX10_carried_229 rfl (lv_at hl 1 rfl) ?_
    refine lv_sipush (v := (200 : Int32)) hx hb dX10_carried_230 (by decide) ?_
    refine lv_isub hx hb dX10_carried_233 ?_
    refine lv_topi (fun z2 ez2 => ?_)
    replace hR := lt_ok hR ez2
    refine lv_istore (lv' := [(4, .int z2), (0, .ref (a1 0)), (1, .int x1), (2, .int x2), (3, .int x3)]) hx hb dX10_carried_234 hl (by decide) rfl (fun ls3 hl3 => ?_)
    refine lv_iload hx hb dX10_carried_236 (lv_at hl3 0 rfl) ?_
    refine lv_bipush (v := (12 : Int32)) hx hb dX10_carried_238 (by decide) ?_
    refine lv_icmp_ge (tgt := 333) hx hb dX10_carried_240 (by decide) (fun c4 => ?_) (fun c4 => ?_)
    · replace hR := ifp_ hR c4
      obtain ⟨z5, ez5⟩ : ∃ y : Int32, y = (z2 + (-12 : Int32)) := ⟨_, rfl⟩
      replace hR := lt_ok hR ez5
      refine lv_iinc (v := z5) (lv' := [(4, .int z5), (0, .ref (a1 0)), (1, .int x1), (2, .int x2), (3, .int x3)]) hx hb dX10_carried_333 hl3 (k := 0) rfl (by rw [ez5]; rfl) (by decide) rfl (fun ls5 hl5 => ?_)
      refine lv_aload_n hx hb dX10_carried_336 rfl (lv_at hl5 1 rfl) ?_
      refine va_get (D := (dC, dI)) (ci := 10) (v := .ref (a1 8)) (C := RX10) (T := TX10) (N := 35) hx hb hts hin10 hown hK hP 0 rfl rfl 10 (by decide) (hts (.fieldLink RX10 31 "OldestCoinsModel" "bills" "[I") (List.mem_of_getElem? (i := 8) rfl)) (fun _ h9 => h9) rfl dX10_carried_337 ?_
      refine lv_iload hx hb dX10_carried_340 (lv_at hl5 0 rfl) ?_
      refine lv_iload_n hx hb dX10_carried_342 rfl (lv_at hl5 4 rfl) ?_
      refine lv_if_eq (tgt := 350) hx hb dX10_carried_343 (by decide) (fun c6 => ?_) (fun c6 => ?_)
      · replace hR := ifp_ hR c6
        refine lv_aload_n hx hb dX10_carried_350 rfl (lv_at hl5 1 rfl) ?_
        refine va_get (D := (dC, dI)) (ci := 10) (v := .ref (a1 8)) (C := RX10) (T := TX10) (N := 35) hx hb hts hin10 hown hK hP 0 rfl rfl 10 (by decide) (hts (.fieldLink RX10 31 "OldestCoinsModel" "bills" "[I") (List.mem_of_getElem? (i := 8) rfl)) (fun _ h9 => h9) rfl dX10_carried_351 ?_
        refine lv_iload hx hb dX10_carried_354 (lv_at hl5 0 rfl) ?_
        have i7 := (ck_ok hR).1
        replace hR := (ck_ok hR).2
        refine va_iald (f := s1.2.2.1.1) hx hb hK hP 8 7 rfl rfl i7 dX10_carried_356 ?_
        exact hB357 z5 (s1.2.2.1.1 z5.toNatClampNeg) z5 s1 s.heap [] ls5 hP hD hS (lv_sub hl5 [1, 0] rfl) hR
      · replace hR := ifn_ hR c6
        refine lv_iload_n hx hb dX10_carried_346 rfl (lv_at hl5 3 rfl) ?_
        refine lv_goto (tgt := 357) hx hb dX10_carried_347 (by decide) ?_
        exact hB357 z5 x2 z5 s1 s.heap [] ls5 hP hD hS (lv_sub hl5 [1, 0] rfl) hR
    · replace hR := ifn_ hR c4
      refine lv_iload hx hb dX10_carried_243 (lv_at hl3 0 rfl) ?_
      refine lv_bipush (v := (6 : Int32)) hx hb dX10_carried_245 (by decide) ?_
      have z8 := (nz_ok hR).1
      replace hR := (nz_ok hR).2
      refine lv_irem hx hb dX10_carried_247 z8 ?_
      refine lv_topi (fun z9 ez9 => ?_)
      replace hR := lt_ok hR ez9
      refine lv_istore (lv' := [(5, .int z9), (4, .int z2), (0, .ref (a1 0)), (1, .int x1), (2, .int x2), (3, .int x3)]) hx hb dX10_carried_248 hl3 (by decide) rfl (fun ls10 hl10 => ?_)
      refine lv_aload_n hx hb dX10_carried_250 rfl (lv_at hl10 2 rfl) ?_
      refine va_get (D := (dC, dI)) (ci := 10) (v := .ref (a1 6)) (C := RX10) (T := TX10) (N := 35) hx hb hts hin10 hown hK hP 0 rfl rfl 7 (by decide) (hts (.fieldLink RX10 25 "OldestCoinsModel" "shops" "[I") (List.mem_of_getElem? (i := 6) rfl)) (fun _ h9 => h9) rfl dX10_carried_251 ?_
      refine lv_iload hx hb dX10_carried_254 (lv_at hl10 0 rfl) ?_
      refine lv_iload_n hx hb dX10_carried_256 rfl (lv_at hl10 5 rfl) ?_
      refine lv_if_eq (tgt := 271) hx hb dX10_carried_257 (by decide) (fun c11 => ?_) (fun c11 => ?_)
      · replace hR := ifp_ hR c11
        exact hB271 x2 x3 z2 z9 z9 s1 s.heap [] ls10 hP hD hS (lv_sub hl10 [2, 4, 5, 1, 0] rfl) hR
      · replace hR := ifn_ hR c11
        refine lv_iload hx hb dX10_carried_260 (lv_at hl10 1 rfl) ?_
        refine lv_bipush (v := (6 : Int32)) hx hb dX10_carried_262 (by decide) ?_
        refine lv_icmp_ge (tgt := 271) hx hb dX10_carried_264 (by decide) (fun c12 => ?_) (fun c12 => ?_)
        · replace hR := ifp_ hR c12
          exact hB271 x2 x3 z2 z9 z9 s1 s.heap [] ls10 hP hD hS (lv_sub hl10 [2, 4, 5, 1, 0] rfl) hR
        · replace hR := ifn_ hR c12
          refine lv_iload_n hx hb dX10_carried_267 rfl (lv_at hl10 4 rfl) ?_
          refine lv_goto (tgt := 278) hx hb dX10_carried_268 (by decide) ?_
          exact hB278 x2 x3 z2 z9 x2 z9 s1 s.heap [] ls10 hP hD hS (lv_sub hl10 [2, 4, 5, 1, 0] rfl) hR
  · replace hR := ifn_ hR c1
    refine lv_iload_n hx hb dX10_carried_7 rfl (lv_at hl 1 rfl) ?_
    refine lv_bipush (v := (40 : Int32)) hx hb dX10_carried_8 (by decide) ?_
    have z13 := (nz_ok hR).1
    replace hR := (nz_ok hR).2
    refine lv_irem hx hb dX10_carried_10 z13 ?_
    refine lv_topi (fun z14 ez14 => ?_)
    replace hR := lt_ok hR ez14
    refine lv_istore (lv' := [(4, .int z14), (0, .ref (a1 0)), (1, .int x1), (2, .int x2), (3, .int x3)]) hx hb dX10_carried_11 hl (by decide) rfl (fun ls15 hl15 => ?_)
    refine lv_iload_n hx hb dX10_carried_13 rfl (lv_at hl15 2 rfl) ?_
    refine lv_bipush (v := (40 : Int32)) hx hb dX10_carried_14 (by decide) ?_
    have z16 := (nz_ok hR).1
    replace hR := (nz_ok hR).2
    refine lv_idiv hx hb dX10_carried_16 z16 ?_
    refine lv_topi (fun z17 ez17 => ?_)
    replace hR := lt_ok hR ez17
    refine lv_istore (lv' := [(5, .int z17), (4, .int z14), (0, .ref (a1 0)), (1, .int x1), (2, .int x2), (3, .int x3)]) hx hb dX10_carried_17 hl15 (by decide) rfl (fun ls18 hl18 => ?_)
    refine lv_aload_n hx hb dX10_carried_19 rfl (lv_at hl18 2 rfl) ?_
    refine va_get (D := (dC, dI)) (ci := 10) (v := .ref (a1 1)) (C := RX10) (T := TX10) (N := 35) hx hb hts hin10 hown hK hP 0 rfl rfl 0 (by decide) (hts (.fieldLink RX10 7 "OldestCoinsModel" "worths" "[I") (List.mem_of_getElem? (i := 1) rfl)) (fun _ h9 => h9) rfl dX10_carried_20 ?_
    refine lv_iload hx hb dX10_carried_23 (lv_at hl18 1 rfl) ?_
    refine lv_iload_n hx hb dX10_carried_25 rfl (lv_at hl18 5 rfl) ?_
    refine lv_if_eq (tgt := 38) hx hb dX10_carried_26 (by decide) (fun c19 => ?_) (fun c19 => ?_)
    · replace hR := ifp_ hR c19
      exact hB38 x2 x3 z14 z17 z14 s1 s.heap [] ls18 hP hD hS (lv_sub hl18 [2, 4, 5, 1, 0] rfl) hR
    · replace hR := ifn_ hR c19
      refine lv_iload hx hb dX10_carried_29 (lv_at hl18 0 rfl) ?_
      refine lv_if_ne (tgt := 38) hx hb dX10_carried_31 (by decide) (fun c20 => ?_) (fun c20 => ?_)
      · replace hR := ifn_ hR c20
        exact hB38 x2 x3 z14 z17 z14 s1 s.heap [] ls18 hP hD hS (lv_sub hl18 [2, 4, 5, 1, 0] rfl) hR
      · replace hR := ifp_ hR c20
        refine lv_iload_n hx hb dX10_carried_34 rfl (lv_at hl18 4 rfl) ?_
        refine lv_goto (tgt := 45) hx hb dX10_carried_35 (by decide) ?_
        exact hB45 x2 x3 z14 z17 x2 z14 s1 s.heap [] ls18 hP hD hS (lv_sub hl18 [2, 4, 5, 1, 0] rfl) hR
def rr_X10_restore_12_b (fu : Nat) (rec12 : Int32 → ZT_10 → Option (Int32 × ZT_10)) (y1 : Int32) (u1 : ZT_10) : Option (Int32 × ZT_10) := (if (284 : Int32) ≤ y1 then ck_ (0 : Int32) 4 (lt_ (α := Int32) (u1.2.2.2.2.2.2.2.2.1.2.2 (0 : Int32).toNatClampNeg) (fun z5 => ck_ (1 : Int32) 4 (lt_ (α := Int32) (u1.2.2.2.2.2.2.2.2.1.2.2 (1 : Int32).toNatClampNeg) (fun z8 => ck_ (2 : Int32) 4 (lt_ (α := Int32) (u1.2.2.2.2.2.2.2.2.1.2.2 (2 : Int32).toNatClampNeg) (fun z11 => ck_ (3 : Int32) 4 (lt_ (α := Int32) (u1.2.2.2.2.2.2.2.2.1.2.2 (3 : Int32).toNatClampNeg) (fun z14 => some ((1 : Int32), ((u1.1.1, u1.1.2.1, u1.1.2.2.1, u1.1.2.2.2.1, u1.1.2.2.2.2.1, z5, z8), (u1.2.1.1, u1.2.1.2.1, z11), (u1.2.2.1.1, z14), u1.2.2.2)))))))))) else ck_ y1 284 ((rr_X10_carried fu y1 (u1.2.2.2.2.2.2.2.2.1.2.1 y1.toNatClampNeg) (1 : Int32) u1).bind (fun q17 => lt_ (α := Int32) (y1 + (1 : Int32)) (fun z18 => rec12 z18 q17.2))))
def rr_X10_restore_12 (fu : Nat) (n : Nat) : Int32 → ZT_10 → Option (Int32 × ZT_10) := lp_ (fun _ _ => none) (rr_X10_restore_12_b fu) n
def rr_X10_restore (fu : Nat) (s1 : ZT_10) : Option (Int32 × ZT_10) := (if s1.2.2.2.2.2.2.2.2.1.1 = (0 : Int32) then some ((-4 : Int32), s1) else rr_X10_restore_12 fu fu (0 : Int32) s1)
set_option maxHeartbeats 4000000 in
set_option maxRecDepth 100000 in
theorem cc_X10_restore (l : Launch) (dC : Nat → ClassId) (dI : Nat → Nat → Nat) (fu : Nat) (a1 : Nat → Nat) (k1 : Nat → ClassId) (sz : Nat) (s1 : ZT_10) (res : Int32 × ZT_10) (hR : rr_X10_restore fu s1 = some res) : Met l yX10_restore wsX10_restore ({ frames := 1, cells := 0, slots := 0, locals := 25 } : Room) (PcF [.ref (a1 0)] sz (dC, dI) (zc_10 a1 k1 s1) (zt_10 k1)) (va_Qi (fun (r : Int32) (u : ZT_10) => res = (r, u)) (fun u t => at3_ (dC, dI) (zc_10 a1 k1 u) (zt_10 k1) (va_A (zc_10 a1 k1 s1) sz) t) (va_A (zc_10 a1 k1 s1) sz)) 0 0 (va_A (zc_10 a1 k1 s1) sz) := by
  refine Met.ofW (cc := cX10_restore) (maxL := 2) (ret := (some .int)) (by decide) rfl ?_
  intro p e s m args below meth c s₁ B hml hv
  obtain ⟨hav, hsz, hP, hK, hD0⟩ := hv
  have hx := B.exec
  have hb := B.bytes
  have hr := B.returns
  have hts := atoms_spec (ws := wsX10_restore) B.pre
  have hown : s.vm.findClass RX10 = some m.cls := findClass_of_methodNamed B.named
  have hlocks := B.notSynchronized
  have hin10 : ∀ w ∈ wsX100, w ∈ wsX10_restore := fun w h => List.mem_cons_of_mem _ (List.mem_append_right _ h)
  subst hsz
  have hD := hD0.self (sz := s.heap.size)
  clear hD0
  generalize hAe : va_A (zc_10 a1 k1 s1) s.heap.size = A at hD ⊢
  have hA : ∀ q : Nat, s.heap.size ≤ q → A q := fun q h => by rw [← hAe]; exact Or.inr h
  have hS : va_S A s.heap s.heap [] := va_S.rf
  generalize hQe : MQ below _ args s 0 0 A = Q
  rw [show entryFrame m args 2 = F0 m 0 ((lg_sl ([.ref (a1 0)]) ++ List.replicate (2 - (lg_sl ([.ref (a1 0)])).length) Slot.unset).toArray) [] from by rw [hav]; exact lg_entry_eq m _ _]
  have hl := lv_entry ([.ref (a1 0)]) (n := 2) (Nat.le_of_ble_eq_true rfl)
  generalize (lg_sl ([.ref (a1 0)]) ++ List.replicate (2 - (lg_sl ([.ref (a1 0)])).length) Slot.unset).toArray = ls at hl ⊢
  have hl : lv_has ls 2 [(0, .ref (a1 0))] := hl
  have hB12 : ∀ (n : Nat), ∀ (y1 : Int32) (u1 : ZT_10) (H : Heap) (locs : List Loc) (ls : Array Slot), va_P (dC, dI) vwCl (zc_10 a1 k1 u1) H → va_D A (zc_10 a1 k1 u1) → va_S A s.heap H locs → lv_has ls 2 [(0, .ref (a1 0)), (1, .int y1)] → rr_X10_restore_12 fu n y1 u1 = some res → W p l e ({ frames := 1, cells := 0, slots := 0, locals := 25 } : Room) s m args below meth c H locs 0 0 Q (F0 m 12 ls []) := by
    intro  n
    induction n with
    | zero => intro y1 u1 H locs ls hP hD hS hl hR; exact absurd hR (by intro h; cases h)
    | succ n ih =>
      intro y1 u1 H locs ls hP hD hS hl hR
      replace hR : rr_X10_restore_12_b fu (rr_X10_restore_12 fu n) y1 u1 = some res := hR
      unfold rr_X10_restore_12_b at hR
      refine lv_iload_n hx hb dX10_restore_12 rfl (lv_at hl 1 rfl) ?_
      refine lv_sipush (v := (284 : Int32)) hx hb dX10_restore_13 (by decide) ?_
      refine lv_icmp_ge (tgt := 38) hx hb dX10_restore_16 (by decide) (fun c3 => ?_) (fun c3 => ?_)
      · replace hR := ifp_ hR c3
        refine lv_aload_n hx hb dX10_restore_38 rfl (lv_at hl 0 rfl) ?_
        refine lv_aload_n hx hb dX10_restore_39 rfl (lv_at hl 0 rfl) ?_
        refine va_get (D := (dC, dI)) (ci := 10) (v := .ref (a1 18)) (C := RX10) (T := TX10) (N := 35) hx hb hts hin10 hown hK hP 0 rfl rfl 31 (by decide) (hts (.fieldLink RX10 62 "OldestCoinsModel" "keptCounts" "[I") (List.mem_of_getElem? (i := 3) rfl)) (fun _ h9 => h9) rfl dX10_restore_40 ?_
        refine lv_iconst (v := (0 : Int32)) hx hb dX10_restore_43 (by decide) ?_
        have i4 := (ck_ok hR).1
        replace hR := (ck_ok hR).2
        refine va_iald (f := u1.2.2.2.2.2.2.2.2.1.2.2) hx hb hK hP 18 17 rfl rfl i4 dX10_restore_44 ?_
        refine lv_topi (fun z5 ez5 => ?_)
        replace hR := lt_ok hR ez5
        refine va_put (D := (dC, dI)) (ci := 10) (v := .int z5) (ty := .int) (C := RX10) (T := TX10) (N := 35) hx hb hts hin10 tyX10 tyX10_ok nmX10 hown hK hP hD hS 0 rfl rfl 5 (by decide) (hts (.fieldLink RX10 74 "OldestCoinsModel" "many" "I") (List.mem_of_getElem? (i := 4) rfl)) (fun _ h9 => h9) rfl (by decide +kernel) rfl rfl (Nat.le_of_ble_eq_true rfl) dX10_restore_45 (fun H6 locs6 hP6 hD6 hS6 => ?_)
        have hP6 : va_P (dC, dI) vwCl (zc_10 a1 k1 ((u1.1.1, u1.1.2.1, u1.1.2.2.1, u1.1.2.2.2.1, u1.1.2.2.2.2.1, z5, u1.1.2.2.2.2.2.2), u1.2)) H6 := hP6
        have hD6 : va_D A (zc_10 a1 k1 ((u1.1.1, u1.1.2.1, u1.1.2.2.1, u1.1.2.2.2.1, u1.1.2.2.2.2.1, z5, u1.1.2.2.2.2.2.2), u1.2)) := hD6
        clear hP hD hS
        refine lv_aload_n hx hb dX10_restore_48 rfl (lv_at hl 0 rfl) ?_
        refine lv_aload_n hx hb dX10_restore_49 rfl (lv_at hl 0 rfl) ?_
        refine va_get (D := (dC, dI)) (ci := 10) (v := .ref (a1 18)) (C := RX10) (T := TX10) (N := 35) hx hb hts hin10 hown hK hP6 0 rfl rfl 31 (by decide) (hts (.fieldLink RX10 62 "OldestCoinsModel" "keptCounts" "[I") (List.mem_of_getElem? (i := 3) rfl)) (fun _ h9 => h9) rfl dX10_restore_50 ?_
        refine lv_iconst (v := (1 : Int32)) hx hb dX10_restore_53 (by decide) ?_
        have i7 := (ck_ok hR).1
        replace hR := (ck_ok hR).2
        refine va_iald (f := u1.2.2.2.2.2.2.2.2.1.2.2) hx hb hK hP6 18 17 rfl rfl i7 dX10_restore_54 ?_
        refine lv_topi (fun z8 ez8 => ?_)
        replace hR := lt_ok hR ez8
        refine va_put (D := (dC, dI)) (ci := 10) (v := .int z8) (ty := .int) (C := RX10) (T := TX10) (N := 35) hx hb hts hin10 tyX10 tyX10_ok nmX10 hown hK hP6 hD6 hS6 0 rfl rfl 6 (by decide) (hts (.fieldLink RX10 111 "OldestCoinsModel" "law" "I") (List.mem_of_getElem? (i := 5) rfl)) (fun _ h9 => h9) rfl (by decide +kernel) rfl rfl (Nat.le_of_ble_eq_true rfl) dX10_restore_55 (fun H9 locs9 hP9 hD9 hS9 => ?_)
        have hP9 : va_P (dC, dI) vwCl (zc_10 a1 k1 ((u1.1.1, u1.1.2.1, u1.1.2.2.1, u1.1.2.2.2.1, u1.1.2.2.2.2.1, z5, z8), u1.2)) H9 := hP9
        have hD9 : va_D A (zc_10 a1 k1 ((u1.1.1, u1.1.2.1, u1.1.2.2.1, u1.1.2.2.2.1, u1.1.2.2.2.2.1, z5, z8), u1.2)) := hD9
        clear hP6 hD6 hS6
        refine lv_aload_n hx hb dX10_restore_58 rfl (lv_at hl 0 rfl) ?_
        refine lv_aload_n hx hb dX10_restore_59 rfl (lv_at hl 0 rfl) ?_
        refine va_get (D := (dC, dI)) (ci := 10) (v := .ref (a1 18)) (C := RX10) (T := TX10) (N := 35) hx hb hts hin10 hown hK hP9 0 rfl rfl 31 (by decide) (hts (.fieldLink RX10 62 "OldestCoinsModel" "keptCounts" "[I") (List.mem_of_getElem? (i := 3) rfl)) (fun _ h9 => h9) rfl dX10_restore_60 ?_
        refine lv_iconst (v := (2 : Int32)) hx hb dX10_restore_63 (by decide) ?_
        have i10 := (ck_ok hR).1
        replace hR := (ck_ok hR).2
        refine va_iald (f := u1.2.2.2.2.2.2.2.2.1.2.2) hx hb hK hP9 18 17 rfl rfl i10 dX10_restore_64 ?_
        refine lv_topi (fun z11 ez11 => ?_)
        replace hR := lt_ok hR ez11
        refine va_put (D := (dC, dI)) (ci := 10) (v := .int z11) (ty := .int) (C := RX10) (T := TX10) (N := 35) hx hb hts hin10 tyX10 tyX10_ok nmX10 hown hK hP9 hD9 hS9 0 rfl rfl 9 (by decide) (hts (.fieldLink RX10 135 "OldestCoinsModel" "errands" "I") (List.mem_of_getElem? (i := 6) rfl)) (fun _ h9 => h9) rfl (by decide +kernel) rfl rfl (Nat.le_of_ble_eq_true rfl) dX10_restore_65 (fun H12 locs12 hP12 hD12 hS12 => ?_)
        have hP12 : va_P (dC, dI) vwCl (zc_10 a1 k1 ((u1.1.1, u1.1.2.1, u1.1.2.2.1, u1.1.2.2.2.1, u1.1.2.2.2.2.1, z5, z8), (u1.2.1.1, u1.2.1.2.1, z11), u1.2.2)) H12 := hP12
        have hD12 : va_D A (zc_10 a1 k1 ((u1.1.1, u1.1.2.1, u1.1.2.2.1, u1.1.2.2.2.1, u1.1.2.2.2.2.1, z5, z8), (u1.2.1.1, u1.2.1.2.1, z11), u1.2.2)) := hD12
        clear hP9 hD9 hS9
        refine lv_aload_n hx hb dX10_restore_68 rfl (lv_at hl 0 rfl) ?_
        refine lv_aload_n hx hb dX10_restore_69 rfl (lv_at hl 0 rfl) ?_
        refine va_get (D := (dC, dI)) (ci := 10) (v := .ref (a1 18)) (C := RX10) (T := TX10) (N := 35) hx hb hts hin10 hown hK hP12 0 rfl rfl 31 (by decide) (hts (.fieldLink RX10 62 "OldestCoinsModel" "keptCounts" "[I") (List.mem_of_getElem? (i := 3) rfl)) (fun _ h9 => h9) rfl dX10_restore_70 ?_
        refine lv_iconst (v := (3 : Int32)) hx hb dX10_restore_73 (by decide) ?_
        have i13 := (ck_ok hR).1
        replace hR := (ck_ok hR).2
        refine va_iald (f := u1.2.2.2.2.2.2.2.2.1.2.2) hx hb hK hP12 18 17 rfl rfl i13 dX10_restore_74 ?_
        refine lv_topi (fun z14 ez14 => ?_)
        replace hR := lt_ok hR ez14
        refine va_put (D := (dC, dI)) (ci := 10) (v := .int z14) (ty := .int) (C := RX10) (T := TX10) (N := 35) hx hb hts hin10 tyX10 tyX10_ok nmX10 hown hK hP12 hD12 hS12 0 rfl rfl 11 (by decide) (hts (.fieldLink RX10 132 "OldestCoinsModel" "billMany" "I") (List.mem_of_getElem? (i := 7) rfl)) (fun _ h9 => h9) rfl (by decide +kernel) rfl rfl (Nat.le_of_ble_eq_true rfl) dX10_restore_75 (fun H15 locs15 hP15 hD15 hS15 => ?_)
        have hP15 : va_P (dC, dI) vwCl (zc_10 a1 k1 ((u1.1.1, u1.1.2.1, u1.1.2.2.1, u1.1.2.2.2.1, u1.1.2.2.2.2.1, z5, z8), (u1.2.1.1, u1.2.1.2.1, z11), (u1.2.2.1.1, z14), u1.2.2.2)) H15 := hP15
        have hD15 : va_D A (zc_10 a1 k1 ((u1.1.1, u1.1.2.1, u1.1.2.2.1, u1.1.2.2.2.1, u1.1.2.2.2.2.1, z5, z8), (u1.2.1.1, u1.2.1.2.1, z11), (u1.2.2.1.1, z14), u1.2.2.2)) := hD15
        clear hP12 hD12 hS12
        refine lv_iconst (v := (1 : Int32)) hx hb dX10_restore_78 (by decide) ?_
        subst hQe
        exact W.iret (v := (1 : Int32)) hx hb hr (fun t ht hW => ⟨⟨(1 : Int32), ((u1.1.1, u1.1.2.1, u1.1.2.2.1, u1.1.2.2.2.1, u1.1.2.2.2.2.1, z5, z8), (u1.2.1.1, u1.2.1.2.1, z11), (u1.2.2.1.1, z14), u1.2.2.2), rfl, (Option.some.inj hR).symm, by rw [ht]; exact hP15, va_K.moved hW.alike hK, hD15⟩, hS15.F ht⟩) hS15.2.2 dX10_restore_79
      · replace hR := ifn_ hR c3
        refine lv_aload_n hx hb dX10_restore_19 rfl (lv_at hl 0 rfl) ?_
        refine lv_iload_n hx hb dX10_restore_20 rfl (lv_at hl 1 rfl) ?_
        refine lv_aload_n hx hb dX10_restore_21 rfl (lv_at hl 0 rfl) ?_
        refine va_get (D := (dC, dI)) (ci := 10) (v := .ref (a1 17)) (C := RX10) (T := TX10) (N := 35) hx hb hts hin10 hown hK hP 0 rfl rfl 30 (by decide) (hts (.fieldLink RX10 59 "OldestCoinsModel" "kept" "[I") (List.mem_of_getElem? (i := 2) rfl)) (fun _ h9 => h9) rfl dX10_restore_22 ?_
        refine lv_iload_n hx hb dX10_restore_25 rfl (lv_at hl 1 rfl) ?_
        have i16 := (ck_ok hR).1
        replace hR := (ck_ok hR).2
        refine va_iald (f := u1.2.2.2.2.2.2.2.2.1.2.1) hx hb hK hP 17 16 rfl rfl i16 dX10_restore_26 ?_
        refine lv_iconst (v := (1 : Int32)) hx hb dX10_restore_27 (by decide) ?_
        have hR0 := ob_ok hR
        clear hR
        obtain ⟨q17, hq17, hR⟩ := hR0
        refine va_calli (va_runV (As := [.int y1, .int (u1.2.2.2.2.2.2.2.2.1.2.1 y1.toNatClampNeg), .int (1 : Int32)]) (rest := []) ⟨hx, hb, hml, hown, hts⟩ (cc_X10_carried l dC dI fu a1 k1 H.size y1 (u1.2.2.2.2.2.2.2.2.1.2.1 y1.toNatClampNeg) (1 : Int32) u1 q17 hq17) (cwV 3 hts gX10_restore_X10_carried rfl rfl rfl (by decide +kernel) ⟨Nat.le_of_ble_eq_true rfl, Nat.le_of_ble_eq_true rfl⟩) (pf_v hK hP hD 10 0 rfl rfl rfl) rfl rfl hl.1 rfl (lv_room (Nat.le_of_ble_eq_true rfl)) dX10_restore_28 ⟨Nat.le_refl _, Nat.le_refl _⟩) hS (fun q _ h => (fr_all hD hS hA) q h) (fr_all hD hS hA) (fun r17 v17 t17 H17 locs17 ht17 hvm17 hw17 hB17 hz17 hk17 hS17 => ?_)
        obtain rfl : r17 = q17.1 := (congrArg Prod.fst hw17).symm
        obtain rfl : v17 = q17.2 := (congrArg Prod.snd hw17).symm
        obtain ⟨hP17, hD17⟩ := jn_all hD hS hA ht17 hB17
        have hP17 : va_P (dC, dI) vwCl (zc_10 a1 k1 q17.2) H17 := hP17
        have hD17 : va_D A (zc_10 a1 k1 q17.2) := hD17
        clear hP hD hS hB17 hk17 hvm17 hz17 ht17
        refine lv_pop hx hb dX10_restore_31 rfl ?_
        obtain ⟨z18, ez18⟩ : ∃ y : Int32, y = (y1 + (1 : Int32)) := ⟨_, rfl⟩
        replace hR := lt_ok hR ez18
        refine lv_iinc (v := z18) (lv' := [(1, .int z18), (0, .ref (a1 0))]) hx hb dX10_restore_32 hl (k := 1) rfl (by rw [ez18]; rfl) (by decide) rfl (fun ls18 hl18 => ?_)
        refine lv_goto (tgt := 12) hx hb dX10_restore_35 (by decide) ?_
        exact ih z18 q17.2 H17 locs17 ls18 hP17 hD17 hS17 (lv_sub hl18 [1, 0] rfl) hR
  unfold rr_X10_restore at hR
  refine lv_aload_n hx hb dX10_restore_0 rfl (lv_at hl 0 rfl) ?_
  refine va_get (D := (dC, dI)) (ci := 10) (v := .int s1.2.2.2.2.2.2.2.2.1.1) (C := RX10) (T := TX10) (N := 35) hx hb hts hin10 hown hK hP 0 rfl rfl 29 (by decide) (hts (.fieldLink RX10 260 "OldestCoinsModel" "isKept" "Z") (List.mem_of_getElem? (i := 1) rfl)) (fun _ h9 => h9) rfl dX10_restore_1 ?_
  refine lv_if_ne (tgt := 10) hx hb dX10_restore_4 (by decide) (fun c1 => ?_) (fun c1 => ?_)
  · replace hR := ifn_ hR c1
    refine lv_iconst (v := (0 : Int32)) hx hb dX10_restore_10 (by decide) ?_
    refine lv_istore_n (lv' := [(1, .int (0 : Int32)), (0, .ref (a1 0))]) hx hb dX10_restore_11 rfl hl (by decide) rfl (fun ls2 hl2 => ?_)
    exact hB12 fu (0 : Int32) s1 s.heap [] ls2 hP hD hS (lv_sub hl2 [1, 0] rfl) hR
  · replace hR := ifp_ hR c1
    refine lv_bipush (v := (-4 : Int32)) hx hb dX10_restore_7 (by decide) ?_
    subst hQe
    exact W.iret (v := (-4 : Int32)) hx hb hr (fun t ht hW => ⟨⟨(-4 : Int32), s1, rfl, (Option.some.inj hR).symm, by rw [ht]; exact hP, va_K.moved hW.alike hK, hD⟩, hS.F ht⟩) hS.2.2 dX10_restore_9
def rr_X10_image_2_b (fu : Nat) (rec2 : Int32 → ZT_10 → Option (Int32 × ZT_10)) (y1 : Int32) (u1 : ZT_10) : Option (Int32 × ZT_10) := (if (284 : Int32) ≤ y1 then ck_ (0 : Int32) 4 (ck_ (1 : Int32) 4 (ck_ (2 : Int32) 4 (ck_ (3 : Int32) 4 (some ((1 : Int32), (u1.1, u1.2.1, u1.2.2.1, u1.2.2.2.1, u1.2.2.2.2.1, u1.2.2.2.2.2.1, u1.2.2.2.2.2.2.1, u1.2.2.2.2.2.2.2.1, ((1 : Int32), u1.2.2.2.2.2.2.2.2.1.2.1, (upd (upd (upd (upd u1.2.2.2.2.2.2.2.2.1.2.2 (0 : Int32).toNatClampNeg u1.1.2.2.2.2.2.1) (1 : Int32).toNatClampNeg u1.1.2.2.2.2.2.2) (2 : Int32).toNatClampNeg u1.2.1.2.2) (3 : Int32).toNatClampNeg u1.2.2.1.2)), u1.2.2.2.2.2.2.2.2.2)))))) else (rr_X10_carried fu y1 (0 : Int32) (0 : Int32) u1).bind (fun q8 => ck_ y1 284 (lt_ (α := Int32) (y1 + (1 : Int32)) (fun z10 => rec2 z10 (q8.2.1, q8.2.2.1, q8.2.2.2.1, q8.2.2.2.2.1, q8.2.2.2.2.2.1, q8.2.2.2.2.2.2.1, q8.2.2.2.2.2.2.2.1, q8.2.2.2.2.2.2.2.2.1, (q8.2.2.2.2.2.2.2.2.2.1.1, (upd q8.2.2.2.2.2.2.2.2.2.1.2.1 y1.toNatClampNeg q8.1), q8.2.2.2.2.2.2.2.2.2.1.2.2), q8.2.2.2.2.2.2.2.2.2.2)))))
def rr_X10_image_2 (fu : Nat) (n : Nat) : Int32 → ZT_10 → Option (Int32 × ZT_10) := lp_ (fun _ _ => none) (rr_X10_image_2_b fu) n
def rr_X10_image (fu : Nat) (s1 : ZT_10) : Option (Int32 × ZT_10) := rr_X10_image_2 fu fu (0 : Int32) s1
set_option maxHeartbeats 4000000 in
set_option maxRecDepth 100000 in
theorem cc_X10_image (l : Launch) (dC : Nat → ClassId) (dI : Nat → Nat → Nat) (fu : Nat) (a1 : Nat → Nat) (k1 : Nat → ClassId) (sz : Nat) (s1 : ZT_10) (res : Int32 × ZT_10) (hR : rr_X10_image fu s1 = some res) : Met l yX10_image wsX10_image ({ frames := 1, cells := 0, slots := 0, locals := 25 } : Room) (PcF [.ref (a1 0)] sz (dC, dI) (zc_10 a1 k1 s1) (zt_10 k1)) (va_Qi (fun (r : Int32) (u : ZT_10) => res = (r, u)) (fun u t => at3_ (dC, dI) (zc_10 a1 k1 u) (zt_10 k1) (va_A (zc_10 a1 k1 s1) sz) t) (va_A (zc_10 a1 k1 s1) sz)) 0 0 (va_A (zc_10 a1 k1 s1) sz) := by
  refine Met.ofW (cc := cX10_image) (maxL := 2) (ret := (some .int)) (by decide) rfl ?_
  intro p e s m args below meth c s₁ B hml hv
  obtain ⟨hav, hsz, hP, hK, hD0⟩ := hv
  have hx := B.exec
  have hb := B.bytes
  have hr := B.returns
  have hts := atoms_spec (ws := wsX10_image) B.pre
  have hown : s.vm.findClass RX10 = some m.cls := findClass_of_methodNamed B.named
  have hlocks := B.notSynchronized
  have hin10 : ∀ w ∈ wsX100, w ∈ wsX10_image := fun w h => List.mem_cons_of_mem _ (List.mem_append_right _ h)
  subst hsz
  have hD := hD0.self (sz := s.heap.size)
  clear hD0
  generalize hAe : va_A (zc_10 a1 k1 s1) s.heap.size = A at hD ⊢
  have hA : ∀ q : Nat, s.heap.size ≤ q → A q := fun q h => by rw [← hAe]; exact Or.inr h
  have hS : va_S A s.heap s.heap [] := va_S.rf
  generalize hQe : MQ below _ args s 0 0 A = Q
  rw [show entryFrame m args 2 = F0 m 0 ((lg_sl ([.ref (a1 0)]) ++ List.replicate (2 - (lg_sl ([.ref (a1 0)])).length) Slot.unset).toArray) [] from by rw [hav]; exact lg_entry_eq m _ _]
  have hl := lv_entry ([.ref (a1 0)]) (n := 2) (Nat.le_of_ble_eq_true rfl)
  generalize (lg_sl ([.ref (a1 0)]) ++ List.replicate (2 - (lg_sl ([.ref (a1 0)])).length) Slot.unset).toArray = ls at hl ⊢
  have hl : lv_has ls 2 [(0, .ref (a1 0))] := hl
  have hB2 : ∀ (n : Nat), ∀ (y1 : Int32) (u1 : ZT_10) (H : Heap) (locs : List Loc) (ls : Array Slot), va_P (dC, dI) vwCl (zc_10 a1 k1 u1) H → va_D A (zc_10 a1 k1 u1) → va_S A s.heap H locs → lv_has ls 2 [(0, .ref (a1 0)), (1, .int y1)] → rr_X10_image_2 fu n y1 u1 = some res → W p l e ({ frames := 1, cells := 0, slots := 0, locals := 25 } : Room) s m args below meth c H locs 0 0 Q (F0 m 2 ls []) := by
    intro  n
    induction n with
    | zero => intro y1 u1 H locs ls hP hD hS hl hR; exact absurd hR (by intro h; cases h)
    | succ n ih =>
      intro y1 u1 H locs ls hP hD hS hl hR
      replace hR : rr_X10_image_2_b fu (rr_X10_image_2 fu n) y1 u1 = some res := hR
      unfold rr_X10_image_2_b at hR
      refine lv_iload_n hx hb dX10_image_2 rfl (lv_at hl 1 rfl) ?_
      refine lv_sipush (v := (284 : Int32)) hx hb dX10_image_3 (by decide) ?_
      refine lv_icmp_ge (tgt := 28) hx hb dX10_image_6 (by decide) (fun c2 => ?_) (fun c2 => ?_)
      · replace hR := ifp_ hR c2
        refine lv_aload_n hx hb dX10_image_28 rfl (lv_at hl 0 rfl) ?_
        refine va_get (D := (dC, dI)) (ci := 10) (v := .ref (a1 18)) (C := RX10) (T := TX10) (N := 35) hx hb hts hin10 hown hK hP 0 rfl rfl 31 (by decide) (hts (.fieldLink RX10 62 "OldestCoinsModel" "keptCounts" "[I") (List.mem_of_getElem? (i := 2) rfl)) (fun _ h9 => h9) rfl dX10_image_29 ?_
        refine lv_iconst (v := (0 : Int32)) hx hb dX10_image_32 (by decide) ?_
        refine lv_aload_n hx hb dX10_image_33 rfl (lv_at hl 0 rfl) ?_
        refine va_get (D := (dC, dI)) (ci := 10) (v := .int u1.1.2.2.2.2.2.1) (C := RX10) (T := TX10) (N := 35) hx hb hts hin10 hown hK hP 0 rfl rfl 5 (by decide) (hts (.fieldLink RX10 74 "OldestCoinsModel" "many" "I") (List.mem_of_getElem? (i := 3) rfl)) (fun _ h9 => h9) rfl dX10_image_34 ?_
        have i3 := (ck_ok hR).1
        replace hR := (ck_ok hR).2
        refine va_iast (f := u1.2.2.2.2.2.2.2.2.1.2.2) hx hb hK hP hD hS 18 17 rfl rfl i3 dX10_image_37 (fun H3 locs3 hP3 hD3 hS3 => ?_)
        have hP3 : va_P (dC, dI) vwCl (zc_10 a1 k1 (u1.1, u1.2.1, u1.2.2.1, u1.2.2.2.1, u1.2.2.2.2.1, u1.2.2.2.2.2.1, u1.2.2.2.2.2.2.1, u1.2.2.2.2.2.2.2.1, (u1.2.2.2.2.2.2.2.2.1.1, u1.2.2.2.2.2.2.2.2.1.2.1, (upd u1.2.2.2.2.2.2.2.2.1.2.2 (0 : Int32).toNatClampNeg u1.1.2.2.2.2.2.1)), u1.2.2.2.2.2.2.2.2.2)) H3 := hP3
        have hD3 : va_D A (zc_10 a1 k1 (u1.1, u1.2.1, u1.2.2.1, u1.2.2.2.1, u1.2.2.2.2.1, u1.2.2.2.2.2.1, u1.2.2.2.2.2.2.1, u1.2.2.2.2.2.2.2.1, (u1.2.2.2.2.2.2.2.2.1.1, u1.2.2.2.2.2.2.2.2.1.2.1, (upd u1.2.2.2.2.2.2.2.2.1.2.2 (0 : Int32).toNatClampNeg u1.1.2.2.2.2.2.1)), u1.2.2.2.2.2.2.2.2.2)) := hD3
        clear hP hD hS
        refine lv_aload_n hx hb dX10_image_38 rfl (lv_at hl 0 rfl) ?_
        refine va_get (D := (dC, dI)) (ci := 10) (v := .ref (a1 18)) (C := RX10) (T := TX10) (N := 35) hx hb hts hin10 hown hK hP3 0 rfl rfl 31 (by decide) (hts (.fieldLink RX10 62 "OldestCoinsModel" "keptCounts" "[I") (List.mem_of_getElem? (i := 2) rfl)) (fun _ h9 => h9) rfl dX10_image_39 ?_
        refine lv_iconst (v := (1 : Int32)) hx hb dX10_image_42 (by decide) ?_
        refine lv_aload_n hx hb dX10_image_43 rfl (lv_at hl 0 rfl) ?_
        refine va_get (D := (dC, dI)) (ci := 10) (v := .int u1.1.2.2.2.2.2.2) (C := RX10) (T := TX10) (N := 35) hx hb hts hin10 hown hK hP3 0 rfl rfl 6 (by decide) (hts (.fieldLink RX10 111 "OldestCoinsModel" "law" "I") (List.mem_of_getElem? (i := 4) rfl)) (fun _ h9 => h9) rfl dX10_image_44 ?_
        have i4 := (ck_ok hR).1
        replace hR := (ck_ok hR).2
        refine va_iast (f := (upd u1.2.2.2.2.2.2.2.2.1.2.2 (0 : Int32).toNatClampNeg u1.1.2.2.2.2.2.1)) hx hb hK hP3 hD3 hS3 18 17 rfl rfl i4 dX10_image_47 (fun H4 locs4 hP4 hD4 hS4 => ?_)
        have hP4 : va_P (dC, dI) vwCl (zc_10 a1 k1 (u1.1, u1.2.1, u1.2.2.1, u1.2.2.2.1, u1.2.2.2.2.1, u1.2.2.2.2.2.1, u1.2.2.2.2.2.2.1, u1.2.2.2.2.2.2.2.1, (u1.2.2.2.2.2.2.2.2.1.1, u1.2.2.2.2.2.2.2.2.1.2.1, (upd (upd u1.2.2.2.2.2.2.2.2.1.2.2 (0 : Int32).toNatClampNeg u1.1.2.2.2.2.2.1) (1 : Int32).toNatClampNeg u1.1.2.2.2.2.2.2)), u1.2.2.2.2.2.2.2.2.2)) H4 := hP4
        have hD4 : va_D A (zc_10 a1 k1 (u1.1, u1.2.1, u1.2.2.1, u1.2.2.2.1, u1.2.2.2.2.1, u1.2.2.2.2.2.1, u1.2.2.2.2.2.2.1, u1.2.2.2.2.2.2.2.1, (u1.2.2.2.2.2.2.2.2.1.1, u1.2.2.2.2.2.2.2.2.1.2.1, (upd (upd u1.2.2.2.2.2.2.2.2.1.2.2 (0 : Int32).toNatClampNeg u1.1.2.2.2.2.2.1) (1 : Int32).toNatClampNeg u1.1.2.2.2.2.2.2)), u1.2.2.2.2.2.2.2.2.2)) := hD4
        clear hP3 hD3 hS3
        refine lv_aload_n hx hb dX10_image_48 rfl (lv_at hl 0 rfl) ?_
        refine va_get (D := (dC, dI)) (ci := 10) (v := .ref (a1 18)) (C := RX10) (T := TX10) (N := 35) hx hb hts hin10 hown hK hP4 0 rfl rfl 31 (by decide) (hts (.fieldLink RX10 62 "OldestCoinsModel" "keptCounts" "[I") (List.mem_of_getElem? (i := 2) rfl)) (fun _ h9 => h9) rfl dX10_image_49 ?_
        refine lv_iconst (v := (2 : Int32)) hx hb dX10_image_52 (by decide) ?_
        refine lv_aload_n hx hb dX10_image_53 rfl (lv_at hl 0 rfl) ?_
        refine va_get (D := (dC, dI)) (ci := 10) (v := .int u1.2.1.2.2) (C := RX10) (T := TX10) (N := 35) hx hb hts hin10 hown hK hP4 0 rfl rfl 9 (by decide) (hts (.fieldLink RX10 135 "OldestCoinsModel" "errands" "I") (List.mem_of_getElem? (i := 5) rfl)) (fun _ h9 => h9) rfl dX10_image_54 ?_
        have i5 := (ck_ok hR).1
        replace hR := (ck_ok hR).2
        refine va_iast (f := (upd (upd u1.2.2.2.2.2.2.2.2.1.2.2 (0 : Int32).toNatClampNeg u1.1.2.2.2.2.2.1) (1 : Int32).toNatClampNeg u1.1.2.2.2.2.2.2)) hx hb hK hP4 hD4 hS4 18 17 rfl rfl i5 dX10_image_57 (fun H5 locs5 hP5 hD5 hS5 => ?_)
        have hP5 : va_P (dC, dI) vwCl (zc_10 a1 k1 (u1.1, u1.2.1, u1.2.2.1, u1.2.2.2.1, u1.2.2.2.2.1, u1.2.2.2.2.2.1, u1.2.2.2.2.2.2.1, u1.2.2.2.2.2.2.2.1, (u1.2.2.2.2.2.2.2.2.1.1, u1.2.2.2.2.2.2.2.2.1.2.1, (upd (upd (upd u1.2.2.2.2.2.2.2.2.1.2.2 (0 : Int32).toNatClampNeg u1.1.2.2.2.2.2.1) (1 : Int32).toNatClampNeg u1.1.2.2.2.2.2.2) (2 : Int32).toNatClampNeg u1.2.1.2.2)), u1.2.2.2.2.2.2.2.2.2)) H5 := hP5
        have hD5 : va_D A (zc_10 a1 k1 (u1.1, u1.2.1, u1.2.2.1, u1.2.2.2.1, u1.2.2.2.2.1, u1.2.2.2.2.2.1, u1.2.2.2.2.2.2.1, u1.2.2.2.2.2.2.2.1, (u1.2.2.2.2.2.2.2.2.1.1, u1.2.2.2.2.2.2.2.2.1.2.1, (upd (upd (upd u1.2.2.2.2.2.2.2.2.1.2.2 (0 : Int32).toNatClampNeg u1.1.2.2.2.2.2.1) (1 : Int32).toNatClampNeg u1.1.2.2.2.2.2.2) (2 : Int32).toNatClampNeg u1.2.1.2.2)), u1.2.2.2.2.2.2.2.2.2)) := hD5
        clear hP4 hD4 hS4
        refine lv_aload_n hx hb dX10_image_58 rfl (lv_at hl 0 rfl) ?_
        refine va_get (D := (dC, dI)) (ci := 10) (v := .ref (a1 18)) (C := RX10) (T := TX10) (N := 35) hx hb hts hin10 hown hK hP5 0 rfl rfl 31 (by decide) (hts (.fieldLink RX10 62 "OldestCoinsModel" "keptCounts" "[I") (List.mem_of_getElem? (i := 2) rfl)) (fun _ h9 => h9) rfl dX10_image_59 ?_
        refine lv_iconst (v := (3 : Int32)) hx hb dX10_image_62 (by decide) ?_
        refine lv_aload_n hx hb dX10_image_63 rfl (lv_at hl 0 rfl) ?_
        refine va_get (D := (dC, dI)) (ci := 10) (v := .int u1.2.2.1.2) (C := RX10) (T := TX10) (N := 35) hx hb hts hin10 hown hK hP5 0 rfl rfl 11 (by decide) (hts (.fieldLink RX10 132 "OldestCoinsModel" "billMany" "I") (List.mem_of_getElem? (i := 6) rfl)) (fun _ h9 => h9) rfl dX10_image_64 ?_
        have i6 := (ck_ok hR).1
        replace hR := (ck_ok hR).2
        refine va_iast (f := (upd (upd (upd u1.2.2.2.2.2.2.2.2.1.2.2 (0 : Int32).toNatClampNeg u1.1.2.2.2.2.2.1) (1 : Int32).toNatClampNeg u1.1.2.2.2.2.2.2) (2 : Int32).toNatClampNeg u1.2.1.2.2)) hx hb hK hP5 hD5 hS5 18 17 rfl rfl i6 dX10_image_67 (fun H6 locs6 hP6 hD6 hS6 => ?_)
        have hP6 : va_P (dC, dI) vwCl (zc_10 a1 k1 (u1.1, u1.2.1, u1.2.2.1, u1.2.2.2.1, u1.2.2.2.2.1, u1.2.2.2.2.2.1, u1.2.2.2.2.2.2.1, u1.2.2.2.2.2.2.2.1, (u1.2.2.2.2.2.2.2.2.1.1, u1.2.2.2.2.2.2.2.2.1.2.1, (upd (upd (upd (upd u1.2.2.2.2.2.2.2.2.1.2.2 (0 : Int32).toNatClampNeg u1.1.2.2.2.2.2.1) (1 : Int32).toNatClampNeg u1.1.2.2.2.2.2.2) (2 : Int32).toNatClampNeg u1.2.1.2.2) (3 : Int32).toNatClampNeg u1.2.2.1.2)), u1.2.2.2.2.2.2.2.2.2)) H6 := hP6
        have hD6 : va_D A (zc_10 a1 k1 (u1.1, u1.2.1, u1.2.2.1, u1.2.2.2.1, u1.2.2.2.2.1, u1.2.2.2.2.2.1, u1.2.2.2.2.2.2.1, u1.2.2.2.2.2.2.2.1, (u1.2.2.2.2.2.2.2.2.1.1, u1.2.2.2.2.2.2.2.2.1.2.1, (upd (upd (upd (upd u1.2.2.2.2.2.2.2.2.1.2.2 (0 : Int32).toNatClampNeg u1.1.2.2.2.2.2.1) (1 : Int32).toNatClampNeg u1.1.2.2.2.2.2.2) (2 : Int32).toNatClampNeg u1.2.1.2.2) (3 : Int32).toNatClampNeg u1.2.2.1.2)), u1.2.2.2.2.2.2.2.2.2)) := hD6
        clear hP5 hD5 hS5
        refine lv_aload_n hx hb dX10_image_68 rfl (lv_at hl 0 rfl) ?_
        refine lv_iconst (v := (1 : Int32)) hx hb dX10_image_69 (by decide) ?_
        refine va_put (D := (dC, dI)) (ci := 10) (v := .int (1 : Int32)) (ty := .boolean) (C := RX10) (T := TX10) (N := 35) hx hb hts hin10 tyX10 tyX10_ok nmX10 hown hK hP6 hD6 hS6 0 rfl rfl 29 (by decide) (hts (.fieldLink RX10 260 "OldestCoinsModel" "isKept" "Z") (List.mem_of_getElem? (i := 7) rfl)) (fun _ h9 => h9) rfl (by decide +kernel) rfl rfl (Nat.le_of_ble_eq_true rfl) dX10_image_70 (fun H7 locs7 hP7 hD7 hS7 => ?_)
        have hP7 : va_P (dC, dI) vwCl (zc_10 a1 k1 (u1.1, u1.2.1, u1.2.2.1, u1.2.2.2.1, u1.2.2.2.2.1, u1.2.2.2.2.2.1, u1.2.2.2.2.2.2.1, u1.2.2.2.2.2.2.2.1, ((1 : Int32), u1.2.2.2.2.2.2.2.2.1.2.1, (upd (upd (upd (upd u1.2.2.2.2.2.2.2.2.1.2.2 (0 : Int32).toNatClampNeg u1.1.2.2.2.2.2.1) (1 : Int32).toNatClampNeg u1.1.2.2.2.2.2.2) (2 : Int32).toNatClampNeg u1.2.1.2.2) (3 : Int32).toNatClampNeg u1.2.2.1.2)), u1.2.2.2.2.2.2.2.2.2)) H7 := hP7
        have hD7 : va_D A (zc_10 a1 k1 (u1.1, u1.2.1, u1.2.2.1, u1.2.2.2.1, u1.2.2.2.2.1, u1.2.2.2.2.2.1, u1.2.2.2.2.2.2.1, u1.2.2.2.2.2.2.2.1, ((1 : Int32), u1.2.2.2.2.2.2.2.2.1.2.1, (upd (upd (upd (upd u1.2.2.2.2.2.2.2.2.1.2.2 (0 : Int32).toNatClampNeg u1.1.2.2.2.2.2.1) (1 : Int32).toNatClampNeg u1.1.2.2.2.2.2.2) (2 : Int32).toNatClampNeg u1.2.1.2.2) (3 : Int32).toNatClampNeg u1.2.2.1.2)), u1.2.2.2.2.2.2.2.2.2)) := hD7
        clear hP6 hD6 hS6
        refine lv_iconst (v := (1 : Int32)) hx hb dX10_image_73 (by decide) ?_
        subst hQe
        exact W.iret (v := (1 : Int32)) hx hb hr (fun t ht hW => ⟨⟨(1 : Int32), (u1.1, u1.2.1, u1.2.2.1, u1.2.2.2.1, u1.2.2.2.2.1, u1.2.2.2.2.2.1, u1.2.2.2.2.2.2.1, u1.2.2.2.2.2.2.2.1, ((1 : Int32), u1.2.2.2.2.2.2.2.2.1.2.1, (upd (upd (upd (upd u1.2.2.2.2.2.2.2.2.1.2.2 (0 : Int32).toNatClampNeg u1.1.2.2.2.2.2.1) (1 : Int32).toNatClampNeg u1.1.2.2.2.2.2.2) (2 : Int32).toNatClampNeg u1.2.1.2.2) (3 : Int32).toNatClampNeg u1.2.2.1.2)), u1.2.2.2.2.2.2.2.2.2), rfl, (Option.some.inj hR).symm, by rw [ht]; exact hP7, va_K.moved hW.alike hK, hD7⟩, hS7.F ht⟩) hS7.2.2 dX10_image_74
      · replace hR := ifn_ hR c2
        refine lv_aload_n hx hb dX10_image_9 rfl (lv_at hl 0 rfl) ?_
        refine va_get (D := (dC, dI)) (ci := 10) (v := .ref (a1 17)) (C := RX10) (T := TX10) (N := 35) hx hb hts hin10 hown hK hP 0 rfl rfl 30 (by decide) (hts (.fieldLink RX10 59 "OldestCoinsModel" "kept" "[I") (List.mem_of_getElem? (i := 1) rfl)) (fun _ h9 => h9) rfl dX10_image_10 ?_
        refine lv_iload_n hx hb dX10_image_13 rfl (lv_at hl 1 rfl) ?_
        refine lv_aload_n hx hb dX10_image_14 rfl (lv_at hl 0 rfl) ?_
        refine lv_iload_n hx hb dX10_image_15 rfl (lv_at hl 1 rfl) ?_
        refine lv_iconst (v := (0 : Int32)) hx hb dX10_image_16 (by decide) ?_
        refine lv_iconst (v := (0 : Int32)) hx hb dX10_image_17 (by decide) ?_
        have hR0 := ob_ok hR
        clear hR
        obtain ⟨q8, hq8, hR⟩ := hR0
        refine va_calli (va_runV (As := [.int y1, .int (0 : Int32), .int (0 : Int32)]) (rest := [.int y1, .ref (a1 17)]) ⟨hx, hb, hml, hown, hts⟩ (cc_X10_carried l dC dI fu a1 k1 H.size y1 (0 : Int32) (0 : Int32) u1 q8 hq8) (cwV 3 hts gX10_image_X10_carried rfl rfl rfl (by decide +kernel) ⟨Nat.le_of_ble_eq_true rfl, Nat.le_of_ble_eq_true rfl⟩) (pf_v hK hP hD 10 0 rfl rfl rfl) rfl rfl hl.1 rfl (lv_room (Nat.le_of_ble_eq_true rfl)) dX10_image_18 ⟨Nat.le_refl _, Nat.le_refl _⟩) hS (fun q _ h => (fr_all hD hS hA) q h) (fr_all hD hS hA) (fun r8 v8 t8 H8 locs8 ht8 hvm8 hw8 hB8 hz8 hk8 hS8 => ?_)
        obtain rfl : r8 = q8.1 := (congrArg Prod.fst hw8).symm
        obtain rfl : v8 = q8.2 := (congrArg Prod.snd hw8).symm
        obtain ⟨hP8, hD8⟩ := jn_all hD hS hA ht8 hB8
        have hP8 : va_P (dC, dI) vwCl (zc_10 a1 k1 q8.2) H8 := hP8
        have hD8 : va_D A (zc_10 a1 k1 q8.2) := hD8
        clear hP hD hS hB8 hk8 hvm8 hz8 ht8
        have i9 := (ck_ok hR).1
        replace hR := (ck_ok hR).2
        refine va_iast (f := q8.2.2.2.2.2.2.2.2.2.1.2.1) hx hb hK hP8 hD8 hS8 17 16 rfl rfl i9 dX10_image_21 (fun H9 locs9 hP9 hD9 hS9 => ?_)
        have hP9 : va_P (dC, dI) vwCl (zc_10 a1 k1 (q8.2.1, q8.2.2.1, q8.2.2.2.1, q8.2.2.2.2.1, q8.2.2.2.2.2.1, q8.2.2.2.2.2.2.1, q8.2.2.2.2.2.2.2.1, q8.2.2.2.2.2.2.2.2.1, (q8.2.2.2.2.2.2.2.2.2.1.1, (upd q8.2.2.2.2.2.2.2.2.2.1.2.1 y1.toNatClampNeg q8.1), q8.2.2.2.2.2.2.2.2.2.1.2.2), q8.2.2.2.2.2.2.2.2.2.2)) H9 := hP9
        have hD9 : va_D A (zc_10 a1 k1 (q8.2.1, q8.2.2.1, q8.2.2.2.1, q8.2.2.2.2.1, q8.2.2.2.2.2.1, q8.2.2.2.2.2.2.1, q8.2.2.2.2.2.2.2.1, q8.2.2.2.2.2.2.2.2.1, (q8.2.2.2.2.2.2.2.2.2.1.1, (upd q8.2.2.2.2.2.2.2.2.2.1.2.1 y1.toNatClampNeg q8.1), q8.2.2.2.2.2.2.2.2.2.1.2.2), q8.2.2.2.2.2.2.2.2.2.2)) := hD9
        clear hP8 hD8 hS8
        obtain ⟨z10, ez10⟩ : ∃ y : Int32, y = (y1 + (1 : Int32)) := ⟨_, rfl⟩
        replace hR := lt_ok hR ez10
        refine lv_iinc (v := z10) (lv' := [(1, .int z10), (0, .ref (a1 0))]) hx hb dX10_image_22 hl (k := 1) rfl (by rw [ez10]; rfl) (by decide) rfl (fun ls10 hl10 => ?_)
        refine lv_goto (tgt := 2) hx hb dX10_image_25 (by decide) ?_
        exact ih z10 (q8.2.1, q8.2.2.1, q8.2.2.2.1, q8.2.2.2.2.1, q8.2.2.2.2.2.1, q8.2.2.2.2.2.2.1, q8.2.2.2.2.2.2.2.1, q8.2.2.2.2.2.2.2.2.1, (q8.2.2.2.2.2.2.2.2.2.1.1, (upd q8.2.2.2.2.2.2.2.2.2.1.2.1 y1.toNatClampNeg q8.1), q8.2.2.2.2.2.2.2.2.2.1.2.2), q8.2.2.2.2.2.2.2.2.2.2) H9 locs9 ls10 hP9 hD9 hS9 (lv_sub hl10 [1, 0] rfl) hR
  unfold rr_X10_image at hR
  refine lv_iconst (v := (0 : Int32)) hx hb dX10_image_0 (by decide) ?_
  refine lv_istore_n (lv' := [(1, .int (0 : Int32)), (0, .ref (a1 0))]) hx hb dX10_image_1 rfl hl (by decide) rfl (fun ls1 hl1 => ?_)
  exact hB2 fu (0 : Int32) s1 s.heap [] ls1 hP hD hS (lv_sub hl1 [1, 0] rfl) hR
def rr_X10_isCoin (fu : Nat) (x1 : Int32) (s1 : ZT_10) : Option (Int32) := (rr_X10_in fu x1.toInt64 (0 : Int64) (s1.1.2.2.2.2.2.1 - (1 : Int32)).toInt64).bind (fun q1 => zk_ q1 (some q1))
set_option maxHeartbeats 4000000 in
set_option maxRecDepth 100000 in
theorem cc_X10_isCoin (l : Launch) (dC : Nat → ClassId) (dI : Nat → Nat → Nat) (fu : Nat) (a1 : Nat → Nat) (k1 : Nat → ClassId) (sz : Nat) (x1 : Int32) (s1 : ZT_10) (res : Int32) (hR : rr_X10_isCoin fu x1 s1 = some res) : Met l yX10_isCoin wsX10_isCoin ({ frames := 1, cells := 0, slots := 0, locals := 25 } : Room) (PcF [.ref (a1 0), .int x1] sz (dC, dI) (zc_10 a1 k1 s1) (zt_10 k1)) (va_Qi (fun (r : Int32) (u : Unit) => res = r) (fun u t => at3_ (dC, dI) (zc_10 a1 k1 s1) (zt_10 k1) (va_A (zc_10 a1 k1 s1) sz) t) (va_A (zc_10 a1 k1 s1) sz)) 0 0 (va_A (zc_10 a1 k1 s1) sz) := by
  refine Met.ofW (cc := cX10_isCoin) (maxL := 2) (ret := (some .boolean)) (by decide) rfl ?_
  intro p e s m args below meth c s₁ B hml hv
  obtain ⟨hav, hsz, hP, hK, hD0⟩ := hv
  have hx := B.exec
  have hb := B.bytes
  have hr := B.returns
  have hts := atoms_spec (ws := wsX10_isCoin) B.pre
  have hown : s.vm.findClass RX10 = some m.cls := findClass_of_methodNamed B.named
  have hlocks := B.notSynchronized
  have hin10 : ∀ w ∈ wsX100, w ∈ wsX10_isCoin := fun w h => List.mem_cons_of_mem _ (List.mem_append_right _ h)
  subst hsz
  have hD := hD0.self (sz := s.heap.size)
  clear hD0
  generalize hAe : va_A (zc_10 a1 k1 s1) s.heap.size = A at hD ⊢
  have hA : ∀ q : Nat, s.heap.size ≤ q → A q := fun q h => by rw [← hAe]; exact Or.inr h
  have hS : va_S A s.heap s.heap [] := va_S.rf
  generalize hQe : MQ below _ args s 0 0 A = Q
  rw [show entryFrame m args 2 = F0 m 0 ((lg_sl ([.ref (a1 0), .int x1]) ++ List.replicate (2 - (lg_sl ([.ref (a1 0), .int x1])).length) Slot.unset).toArray) [] from by rw [hav]; exact lg_entry_eq m _ _]
  have hl := lv_entry ([.ref (a1 0), .int x1]) (n := 2) (Nat.le_of_ble_eq_true rfl)
  generalize (lg_sl ([.ref (a1 0), .int x1]) ++ List.replicate (2 - (lg_sl ([.ref (a1 0), .int x1])).length) Slot.unset).toArray = ls at hl ⊢
  have hl : lv_has ls 2 [(0, .ref (a1 0)), (1, .int x1)] := hl
  unfold rr_X10_isCoin at hR
  refine lv_iload_n hx hb dX10_isCoin_0 rfl (lv_at hl 1 rfl) ?_
  refine lv_i2l (v := x1.toInt64) hx hb dX10_isCoin_1 rfl ?_
  refine lv_lconst (v := (0 : Int64)) hx hb dX10_isCoin_2 (by decide) ?_
  refine lv_aload_n hx hb dX10_isCoin_3 rfl (lv_at hl 0 rfl) ?_
  refine va_get (D := (dC, dI)) (ci := 10) (v := .int s1.1.2.2.2.2.2.1) (C := RX10) (T := TX10) (N := 35) hx hb hts hin10 hown hK hP 0 rfl rfl 5 (by decide) (hts (.fieldLink RX10 74 "OldestCoinsModel" "many" "I") (List.mem_of_getElem? (i := 1) rfl)) (fun _ h9 => h9) rfl dX10_isCoin_4 ?_
  refine lv_iconst (v := (1 : Int32)) hx hb dX10_isCoin_7 (by decide) ?_
  refine lv_isub hx hb dX10_isCoin_8 ?_
  refine lv_i2l (v := (s1.1.2.2.2.2.2.1 - (1 : Int32)).toInt64) hx hb dX10_isCoin_9 rfl ?_
  have hR0 := ob_ok hR
  clear hR
  obtain ⟨q1, hq1, hR⟩ := hR0
  refine va_calli (va_runS (As := [.long x1.toInt64, .long (0 : Int64), .long (s1.1.2.2.2.2.2.1 - (1 : Int32)).toInt64]) (rest := []) ⟨hx, hb, hml, hown, hts⟩ (cc_X10_in l dC dI fu s.heap.size x1.toInt64 (0 : Int64) (s1.1.2.2.2.2.2.1 - (1 : Int32)).toInt64 q1 hq1) (va_cwS 3 hts gX10_isCoin_X10_in rfl rfl rfl (by decide +kernel) ⟨Nat.le_of_ble_eq_true rfl, Nat.le_of_ble_eq_true rfl⟩) (pf_s (nil_K hK) nil_P (nil_D (A := A))) rfl rfl hl.1 rfl (lv_room (Nat.le_of_ble_eq_true rfl)) dX10_isCoin_10 ⟨Nat.le_refl _, Nat.le_refl _⟩) hS (fun q _ h => (fr_none hS hA) q h) (fr_none hS hA) (fun r1 v1 t1 H1 locs1 ht1 hvm1 hw1 hB1 hz1 hk1 hS1 => ?_)
  subst hw1
  have hP1 := jn_none hP hk1
  have hD1 := hD
  have hP1 : va_P (dC, dI) vwCl (zc_10 a1 k1 s1) H1 := hP1
  have hD1 : va_D A (zc_10 a1 k1 s1) := hD1
  clear hP hD hS hB1 hk1 hvm1 hz1 ht1
  have z2 := (zk_ok hR).1
  replace hR := (zk_ok hR).2
  subst hQe
  exact W.zret (ty := .boolean) (v := q1) hx hb hr (zk_nar z2) (fun t ht hW => ⟨⟨q1, (), rfl, (Option.some.inj hR).symm, by rw [ht]; exact hP1, va_K.moved hW.alike hK, hD1⟩, hS1.F ht⟩) hS1.2.2 dX10_isCoin_13
def rr_X10_bringBack_2_b (fu : Nat) (rec2 : Int32 → ZT_10 → Option (ZT_10)) (y1 : Int32) (u1 : ZT_10) : Option (ZT_10) := (if u1.1.2.2.2.2.2.1 ≤ y1 then some u1 else ck_ y1 40 (lt_ (α := Int32) (u1.2.2.2.2.2.2.1.1 y1.toNatClampNeg) (fun z4 => ck_ y1 40 (lt_ (α := Int32) (y1 + (1 : Int32)) (fun z6 => rec2 z6 ((u1.1.1, u1.1.2.1, u1.1.2.2.1, u1.1.2.2.2.1, (upd u1.1.2.2.2.2.1 y1.toNatClampNeg z4), u1.1.2.2.2.2.2), u1.2))))))
def rr_X10_bringBack_2 (fu : Nat) (n : Nat) : Int32 → ZT_10 → Option (ZT_10) := lp_ (fun _ _ => none) (rr_X10_bringBack_2_b fu) n
def rr_X10_bringBack (fu : Nat) (s1 : ZT_10) : Option (ZT_10) := rr_X10_bringBack_2 fu fu (0 : Int32) s1
set_option maxHeartbeats 4000000 in
set_option maxRecDepth 100000 in
theorem cc_X10_bringBack (l : Launch) (dC : Nat → ClassId) (dI : Nat → Nat → Nat) (fu : Nat) (a1 : Nat → Nat) (k1 : Nat → ClassId) (sz : Nat) (s1 : ZT_10) (res : ZT_10) (hR : rr_X10_bringBack fu s1 = some res) : Met l yX10_bringBack wsX10_bringBack ({ frames := 0, cells := 0, slots := 0, locals := 0 } : Room) (PcF [.ref (a1 0)] sz (dC, dI) (zc_10 a1 k1 s1) (zt_10 k1)) (va_Qv (fun u : ZT_10 => res = u) (fun u t => at3_ (dC, dI) (zc_10 a1 k1 u) (zt_10 k1) (va_A (zc_10 a1 k1 s1) sz) t) (va_A (zc_10 a1 k1 s1) sz)) 0 0 (va_A (zc_10 a1 k1 s1) sz) := by
  refine Met.ofW (cc := cX10_bringBack) (maxL := 2) (ret := none) (by decide) rfl ?_
  intro p e s m args below meth c s₁ B hml hv
  obtain ⟨hav, hsz, hP, hK, hD0⟩ := hv
  have hx := B.exec
  have hb := B.bytes
  have hr := B.returns
  have hts := atoms_spec (ws := wsX10_bringBack) B.pre
  have hown : s.vm.findClass RX10 = some m.cls := findClass_of_methodNamed B.named
  have hlocks := B.notSynchronized
  have hin10 : ∀ w ∈ wsX100, w ∈ wsX10_bringBack := fun w h => List.mem_cons_of_mem _ (List.mem_append_right _ h)
  subst hsz
  have hD := hD0.self (sz := s.heap.size)
  clear hD0
  generalize hAe : va_A (zc_10 a1 k1 s1) s.heap.size = A at hD ⊢
  have hA : ∀ q : Nat, s.heap.size ≤ q → A q := fun q h => by rw [← hAe]; exact Or.inr h
  have hS : va_S A s.heap s.heap [] := va_S.rf
  generalize hQe : MQ below _ args s 0 0 A = Q
  rw [show entryFrame m args 2 = F0 m 0 ((lg_sl ([.ref (a1 0)]) ++ List.replicate (2 - (lg_sl ([.ref (a1 0)])).length) Slot.unset).toArray) [] from by rw [hav]; exact lg_entry_eq m _ _]
  have hl := lv_entry ([.ref (a1 0)]) (n := 2) (Nat.le_of_ble_eq_true rfl)
  generalize (lg_sl ([.ref (a1 0)]) ++ List.replicate (2 - (lg_sl ([.ref (a1 0)])).length) Slot.unset).toArray = ls at hl ⊢
  have hl : lv_has ls 2 [(0, .ref (a1 0))] := hl
  have hB2 : ∀ (n : Nat), ∀ (y1 : Int32) (u1 : ZT_10) (H : Heap) (locs : List Loc) (ls : Array Slot), va_P (dC, dI) vwCl (zc_10 a1 k1 u1) H → va_D A (zc_10 a1 k1 u1) → va_S A s.heap H locs → lv_has ls 2 [(0, .ref (a1 0)), (1, .int y1)] → rr_X10_bringBack_2 fu n y1 u1 = some res → W p l e ({ frames := 0, cells := 0, slots := 0, locals := 0 } : Room) s m args below meth c H locs 0 0 Q (F0 m 2 ls []) := by
    intro  n
    induction n with
    | zero => intro y1 u1 H locs ls hP hD hS hl hR; exact absurd hR (by intro h; cases h)
    | succ n ih =>
      intro y1 u1 H locs ls hP hD hS hl hR
      replace hR : rr_X10_bringBack_2_b fu (rr_X10_bringBack_2 fu n) y1 u1 = some res := hR
      unfold rr_X10_bringBack_2_b at hR
      refine lv_iload_n hx hb dX10_bringBack_2 rfl (lv_at hl 1 rfl) ?_
      refine lv_aload_n hx hb dX10_bringBack_3 rfl (lv_at hl 0 rfl) ?_
      refine va_get (D := (dC, dI)) (ci := 10) (v := .int u1.1.2.2.2.2.2.1) (C := RX10) (T := TX10) (N := 35) hx hb hts hin10 hown hK hP 0 rfl rfl 5 (by decide) (hts (.fieldLink RX10 74 "OldestCoinsModel" "many" "I") (List.mem_of_getElem? (i := 1) rfl)) (fun _ h9 => h9) rfl dX10_bringBack_4 ?_
      refine lv_icmp_ge (tgt := 28) hx hb dX10_bringBack_7 (by decide) (fun c2 => ?_) (fun c2 => ?_)
      · replace hR := ifp_ hR c2
        subst hQe
        exact W.vret hx hb hr (fun t ht hW => ⟨⟨u1, rfl, (Option.some.inj hR).symm, by rw [ht]; exact hP, va_K.moved hW.alike hK, hD⟩, hS.F ht⟩) hS.2.2 dX10_bringBack_28
      · replace hR := ifn_ hR c2
        refine lv_aload_n hx hb dX10_bringBack_10 rfl (lv_at hl 0 rfl) ?_
        refine va_get (D := (dC, dI)) (ci := 10) (v := .ref (a1 5)) (C := RX10) (T := TX10) (N := 35) hx hb hts hin10 hown hK hP 0 rfl rfl 4 (by decide) (hts (.fieldLink RX10 22 "OldestCoinsModel" "whose" "[I") (List.mem_of_getElem? (i := 2) rfl)) (fun _ h9 => h9) rfl dX10_bringBack_11 ?_
        refine lv_iload_n hx hb dX10_bringBack_14 rfl (lv_at hl 1 rfl) ?_
        refine lv_aload_n hx hb dX10_bringBack_15 rfl (lv_at hl 0 rfl) ?_
        refine va_get (D := (dC, dI)) (ci := 10) (v := .ref (a1 12)) (C := RX10) (T := TX10) (N := 35) hx hb hts hin10 hown hK hP 0 rfl rfl 24 (by decide) (hts (.fieldLink RX10 43 "OldestCoinsModel" "had" "[I") (List.mem_of_getElem? (i := 3) rfl)) (fun _ h9 => h9) rfl dX10_bringBack_16 ?_
        refine lv_iload_n hx hb dX10_bringBack_19 rfl (lv_at hl 1 rfl) ?_
        have i3 := (ck_ok hR).1
        replace hR := (ck_ok hR).2
        refine va_iald (f := u1.2.2.2.2.2.2.1.1) hx hb hK hP 12 11 rfl rfl i3 dX10_bringBack_20 ?_
        refine lv_topi (fun z4 ez4 => ?_)
        replace hR := lt_ok hR ez4
        have i5 := (ck_ok hR).1
        replace hR := (ck_ok hR).2
        refine va_iast (f := u1.1.2.2.2.2.1) hx hb hK hP hD hS 5 4 rfl rfl i5 dX10_bringBack_21 (fun H5 locs5 hP5 hD5 hS5 => ?_)
        have hP5 : va_P (dC, dI) vwCl (zc_10 a1 k1 ((u1.1.1, u1.1.2.1, u1.1.2.2.1, u1.1.2.2.2.1, (upd u1.1.2.2.2.2.1 y1.toNatClampNeg z4), u1.1.2.2.2.2.2), u1.2)) H5 := hP5
        have hD5 : va_D A (zc_10 a1 k1 ((u1.1.1, u1.1.2.1, u1.1.2.2.1, u1.1.2.2.2.1, (upd u1.1.2.2.2.2.1 y1.toNatClampNeg z4), u1.1.2.2.2.2.2), u1.2)) := hD5
        clear hP hD hS
        obtain ⟨z6, ez6⟩ : ∃ y : Int32, y = (y1 + (1 : Int32)) := ⟨_, rfl⟩
        replace hR := lt_ok hR ez6
        refine lv_iinc (v := z6) (lv' := [(1, .int z6), (0, .ref (a1 0))]) hx hb dX10_bringBack_22 hl (k := 1) rfl (by rw [ez6]; rfl) (by decide) rfl (fun ls6 hl6 => ?_)
        refine lv_goto (tgt := 2) hx hb dX10_bringBack_25 (by decide) ?_
        exact ih z6 ((u1.1.1, u1.1.2.1, u1.1.2.2.1, u1.1.2.2.2.1, (upd u1.1.2.2.2.2.1 y1.toNatClampNeg z4), u1.1.2.2.2.2.2), u1.2) H5 locs5 ls6 hP5 hD5 hS5 (lv_sub hl6 [1, 0] rfl) hR
  unfold rr_X10_bringBack at hR
  refine lv_iconst (v := (0 : Int32)) hx hb dX10_bringBack_0 (by decide) ?_
  refine lv_istore_n (lv' := [(1, .int (0 : Int32)), (0, .ref (a1 0))]) hx hb dX10_bringBack_1 rfl hl (by decide) rfl (fun ls1 hl1 => ?_)
  exact hB2 fu (0 : Int32) s1 s.heap [] ls1 hP hD hS (lv_sub hl1 [1, 0] rfl) hR
def rr_X10_keep_2_b (fu : Nat) (rec2 : Int32 → ZT_10 → Option (ZT_10)) (y1 : Int32) (u1 : ZT_10) : Option (ZT_10) := (if u1.1.2.2.2.2.2.1 ≤ y1 then some u1 else ck_ y1 40 (lt_ (α := Int32) (u1.1.2.2.2.2.1 y1.toNatClampNeg) (fun z4 => ck_ y1 40 (lt_ (α := Int32) (y1 + (1 : Int32)) (fun z6 => rec2 z6 (u1.1, u1.2.1, u1.2.2.1, u1.2.2.2.1, u1.2.2.2.2.1, u1.2.2.2.2.2.1, ((upd u1.2.2.2.2.2.2.1.1 y1.toNatClampNeg z4), u1.2.2.2.2.2.2.1.2), u1.2.2.2.2.2.2.2))))))
def rr_X10_keep_2 (fu : Nat) (n : Nat) : Int32 → ZT_10 → Option (ZT_10) := lp_ (fun _ _ => none) (rr_X10_keep_2_b fu) n
def rr_X10_keep (fu : Nat) (s1 : ZT_10) : Option (ZT_10) := rr_X10_keep_2 fu fu (0 : Int32) s1
set_option maxHeartbeats 4000000 in
set_option maxRecDepth 100000 in
theorem cc_X10_keep (l : Launch) (dC : Nat → ClassId) (dI : Nat → Nat → Nat) (fu : Nat) (a1 : Nat → Nat) (k1 : Nat → ClassId) (sz : Nat) (s1 : ZT_10) (res : ZT_10) (hR : rr_X10_keep fu s1 = some res) : Met l yX10_keep wsX10_keep ({ frames := 0, cells := 0, slots := 0, locals := 0 } : Room) (PcF [.ref (a1 0)] sz (dC, dI) (zc_10 a1 k1 s1) (zt_10 k1)) (va_Qv (fun u : ZT_10 => res = u) (fun u t => at3_ (dC, dI) (zc_10 a1 k1 u) (zt_10 k1) (va_A (zc_10 a1 k1 s1) sz) t) (va_A (zc_10 a1 k1 s1) sz)) 0 0 (va_A (zc_10 a1 k1 s1) sz) := by
  refine Met.ofW (cc := cX10_keep) (maxL := 2) (ret := none) (by decide) rfl ?_
  intro p e s m args below meth c s₁ B hml hv
  obtain ⟨hav, hsz, hP, hK, hD0⟩ := hv
  have hx := B.exec
  have hb := B.bytes
  have hr := B.returns
  have hts := atoms_spec (ws := wsX10_keep) B.pre
  have hown : s.vm.findClass RX10 = some m.cls := findClass_of_methodNamed B.named
  have hlocks := B.notSynchronized
  have hin10 : ∀ w ∈ wsX100, w ∈ wsX10_keep := fun w h => List.mem_cons_of_mem _ (List.mem_append_right _ h)
  subst hsz
  have hD := hD0.self (sz := s.heap.size)
  clear hD0
  generalize hAe : va_A (zc_10 a1 k1 s1) s.heap.size = A at hD ⊢
  have hA : ∀ q : Nat, s.heap.size ≤ q → A q := fun q h => by rw [← hAe]; exact Or.inr h
  have hS : va_S A s.heap s.heap [] := va_S.rf
  generalize hQe : MQ below _ args s 0 0 A = Q
  rw [show entryFrame m args 2 = F0 m 0 ((lg_sl ([.ref (a1 0)]) ++ List.replicate (2 - (lg_sl ([.ref (a1 0)])).length) Slot.unset).toArray) [] from by rw [hav]; exact lg_entry_eq m _ _]
  have hl := lv_entry ([.ref (a1 0)]) (n := 2) (Nat.le_of_ble_eq_true rfl)
  generalize (lg_sl ([.ref (a1 0)]) ++ List.replicate (2 - (lg_sl ([.ref (a1 0)])).length) Slot.unset).toArray = ls at hl ⊢
  have hl : lv_has ls 2 [(0, .ref (a1 0))] := hl
  have hB2 : ∀ (n : Nat), ∀ (y1 : Int32) (u1 : ZT_10) (H : Heap) (locs : List Loc) (ls : Array Slot), va_P (dC, dI) vwCl (zc_10 a1 k1 u1) H → va_D A (zc_10 a1 k1 u1) → va_S A s.heap H locs → lv_has ls 2 [(0, .ref (a1 0)), (1, .int y1)] → rr_X10_keep_2 fu n y1 u1 = some res → W p l e ({ frames := 0, cells := 0, slots := 0, locals := 0 } : Room) s m args below meth c H locs 0 0 Q (F0 m 2 ls []) := by
    intro  n
    induction n with
    | zero => intro y1 u1 H locs ls hP hD hS hl hR; exact absurd hR (by intro h; cases h)
    | succ n ih =>
      intro y1 u1 H locs ls hP hD hS hl hR
      replace hR : rr_X10_keep_2_b fu (rr_X10_keep_2 fu n) y1 u1 = some res := hR
      unfold rr_X10_keep_2_b at hR
      refine lv_iload_n hx hb dX10_keep_2 rfl (lv_at hl 1 rfl) ?_
      refine lv_aload_n hx hb dX10_keep_3 rfl (lv_at hl 0 rfl) ?_
      refine va_get (D := (dC, dI)) (ci := 10) (v := .int u1.1.2.2.2.2.2.1) (C := RX10) (T := TX10) (N := 35) hx hb hts hin10 hown hK hP 0 rfl rfl 5 (by decide) (hts (.fieldLink RX10 74 "OldestCoinsModel" "many" "I") (List.mem_of_getElem? (i := 1) rfl)) (fun _ h9 => h9) rfl dX10_keep_4 ?_
      refine lv_icmp_ge (tgt := 28) hx hb dX10_keep_7 (by decide) (fun c2 => ?_) (fun c2 => ?_)
      · replace hR := ifp_ hR c2
        subst hQe
        exact W.vret hx hb hr (fun t ht hW => ⟨⟨u1, rfl, (Option.some.inj hR).symm, by rw [ht]; exact hP, va_K.moved hW.alike hK, hD⟩, hS.F ht⟩) hS.2.2 dX10_keep_28
      · replace hR := ifn_ hR c2
        refine lv_aload_n hx hb dX10_keep_10 rfl (lv_at hl 0 rfl) ?_
        refine va_get (D := (dC, dI)) (ci := 10) (v := .ref (a1 12)) (C := RX10) (T := TX10) (N := 35) hx hb hts hin10 hown hK hP 0 rfl rfl 24 (by decide) (hts (.fieldLink RX10 43 "OldestCoinsModel" "had" "[I") (List.mem_of_getElem? (i := 2) rfl)) (fun _ h9 => h9) rfl dX10_keep_11 ?_
        refine lv_iload_n hx hb dX10_keep_14 rfl (lv_at hl 1 rfl) ?_
        refine lv_aload_n hx hb dX10_keep_15 rfl (lv_at hl 0 rfl) ?_
        refine va_get (D := (dC, dI)) (ci := 10) (v := .ref (a1 5)) (C := RX10) (T := TX10) (N := 35) hx hb hts hin10 hown hK hP 0 rfl rfl 4 (by decide) (hts (.fieldLink RX10 22 "OldestCoinsModel" "whose" "[I") (List.mem_of_getElem? (i := 3) rfl)) (fun _ h9 => h9) rfl dX10_keep_16 ?_
        refine lv_iload_n hx hb dX10_keep_19 rfl (lv_at hl 1 rfl) ?_
        have i3 := (ck_ok hR).1
        replace hR := (ck_ok hR).2
        refine va_iald (f := u1.1.2.2.2.2.1) hx hb hK hP 5 4 rfl rfl i3 dX10_keep_20 ?_
        refine lv_topi (fun z4 ez4 => ?_)
        replace hR := lt_ok hR ez4
        have i5 := (ck_ok hR).1
        replace hR := (ck_ok hR).2
        refine va_iast (f := u1.2.2.2.2.2.2.1.1) hx hb hK hP hD hS 12 11 rfl rfl i5 dX10_keep_21 (fun H5 locs5 hP5 hD5 hS5 => ?_)
        have hP5 : va_P (dC, dI) vwCl (zc_10 a1 k1 (u1.1, u1.2.1, u1.2.2.1, u1.2.2.2.1, u1.2.2.2.2.1, u1.2.2.2.2.2.1, ((upd u1.2.2.2.2.2.2.1.1 y1.toNatClampNeg z4), u1.2.2.2.2.2.2.1.2), u1.2.2.2.2.2.2.2)) H5 := hP5
        have hD5 : va_D A (zc_10 a1 k1 (u1.1, u1.2.1, u1.2.2.1, u1.2.2.2.1, u1.2.2.2.2.1, u1.2.2.2.2.2.1, ((upd u1.2.2.2.2.2.2.1.1 y1.toNatClampNeg z4), u1.2.2.2.2.2.2.1.2), u1.2.2.2.2.2.2.2)) := hD5
        clear hP hD hS
        obtain ⟨z6, ez6⟩ : ∃ y : Int32, y = (y1 + (1 : Int32)) := ⟨_, rfl⟩
        replace hR := lt_ok hR ez6
        refine lv_iinc (v := z6) (lv' := [(1, .int z6), (0, .ref (a1 0))]) hx hb dX10_keep_22 hl (k := 1) rfl (by rw [ez6]; rfl) (by decide) rfl (fun ls6 hl6 => ?_)
        refine lv_goto (tgt := 2) hx hb dX10_keep_25 (by decide) ?_
        exact ih z6 (u1.1, u1.2.1, u1.2.2.1, u1.2.2.2.1, u1.2.2.2.2.1, u1.2.2.2.2.2.1, ((upd u1.2.2.2.2.2.2.1.1 y1.toNatClampNeg z4), u1.2.2.2.2.2.2.1.2), u1.2.2.2.2.2.2.2) H5 locs5 ls6 hP5 hD5 hS5 (lv_sub hl6 [1, 0] rfl) hR
  unfold rr_X10_keep at hR
  refine lv_iconst (v := (0 : Int32)) hx hb dX10_keep_0 (by decide) ?_
  refine lv_istore_n (lv' := [(1, .int (0 : Int32)), (0, .ref (a1 0))]) hx hb dX10_keep_1 rfl hl (by decide) rfl (fun ls1 hl1 => ?_)
  exact hB2 fu (0 : Int32) s1 s.heap [] ls1 hP hD hS (lv_sub hl1 [1, 0] rfl) hR
def rr_X10_bit (fu : Nat) (x0 : Int32) : Option (Int64) := some ((1 : Int64) <<< (x0.toInt64 &&& 63))
set_option maxHeartbeats 4000000 in
set_option maxRecDepth 100000 in
theorem cc_X10_bit (l : Launch) (dC : Nat → ClassId) (dI : Nat → Nat → Nat) (fu : Nat) (sz : Nat) (x0 : Int32) (res : Int64) (hR : rr_X10_bit fu x0 = some res) : Met l yX10_bit wsX10_bit ({ frames := 0, cells := 0, slots := 0, locals := 0 } : Room) (PcF [.int x0] sz (dC, dI) (([] : va_W)) ([])) (va_Ql (fun (r : Int64) (u : Unit) => res = r) (fun u t => at3_ (dC, dI) (([] : va_W)) ([]) (va_A (([] : va_W)) sz) t) (va_A (([] : va_W)) sz)) 0 0 (va_A (([] : va_W)) sz) := by
  refine Met.ofW (cc := cX10_bit) (maxL := 1) (ret := (some .long)) (by decide) rfl ?_
  intro p e s m args below meth c s₁ B hml hv
  obtain ⟨hav, hsz, hP, hK, hD0⟩ := hv
  have hx := B.exec
  have hb := B.bytes
  have hr := B.returns
  have hts := atoms_spec (ws := wsX10_bit) B.pre
  have hown : s.vm.findClass RX10 = some m.cls := findClass_of_methodNamed B.named
  have hlocks := B.notSynchronized
  subst hsz
  have hD := hD0.self (sz := s.heap.size)
  clear hD0
  generalize hAe : va_A (([] : va_W)) s.heap.size = A at hD ⊢
  have hA : ∀ q : Nat, s.heap.size ≤ q → A q := fun q h => by rw [← hAe]; exact Or.inr h
  have hS : va_S A s.heap s.heap [] := va_S.rf
  generalize hQe : MQ below _ args s 0 0 A = Q
  rw [show entryFrame m args 1 = F0 m 0 ((lg_sl ([.int x0]) ++ List.replicate (1 - (lg_sl ([.int x0])).length) Slot.unset).toArray) [] from by rw [hav]; exact lg_entry_eq m _ _]
  have hl := lv_entry ([.int x0]) (n := 1) (Nat.le_of_ble_eq_true rfl)
  generalize (lg_sl ([.int x0]) ++ List.replicate (1 - (lg_sl ([.int x0])).length) Slot.unset).toArray = ls at hl ⊢
  have hl : lv_has ls 1 [(0, .int x0)] := hl
  unfold rr_X10_bit at hR
  refine lv_lconst (v := (1 : Int64)) hx hb dX10_bit_0 (by decide) ?_
  refine lv_iload_n hx hb dX10_bit_1 rfl (lv_at hl 0 rfl) ?_
  refine lv_lshl (v := ((1 : Int64) <<< (x0.toInt64 &&& 63))) hx hb dX10_bit_2 rfl ?_
  subst hQe
  exact W.lret (v := ((1 : Int64) <<< (x0.toInt64 &&& 63))) hx hb hr (fun t ht hW => ⟨⟨((1 : Int64) <<< (x0.toInt64 &&& 63)), (), rfl, (Option.some.inj hR).symm, by rw [ht]; exact hP, va_K.moved hW.alike hK, hD⟩, hS.F ht⟩) hS.2.2 dX10_bit_3
def rr_X10_backLaw (fu : Nat) (s1 : ZT_10) : Option (Int32) := some (s1.1.2.2.2.2.2.2 ^^^ (1 : Int32))
set_option maxHeartbeats 4000000 in
set_option maxRecDepth 100000 in
theorem cc_X10_backLaw (l : Launch) (dC : Nat → ClassId) (dI : Nat → Nat → Nat) (fu : Nat) (a1 : Nat → Nat) (k1 : Nat → ClassId) (sz : Nat) (s1 : ZT_10) (res : Int32) (hR : rr_X10_backLaw fu s1 = some res) : Met l yX10_backLaw wsX10_backLaw ({ frames := 0, cells := 0, slots := 0, locals := 0 } : Room) (PcF [.ref (a1 0)] sz (dC, dI) (zc_10 a1 k1 s1) (zt_10 k1)) (va_Qi (fun (r : Int32) (u : Unit) => res = r) (fun u t => at3_ (dC, dI) (zc_10 a1 k1 s1) (zt_10 k1) (va_A (zc_10 a1 k1 s1) sz) t) (va_A (zc_10 a1 k1 s1) sz)) 0 0 (va_A (zc_10 a1 k1 s1) sz) := by
  refine Met.ofW (cc := cX10_backLaw) (maxL := 1) (ret := (some .int)) (by decide) rfl ?_
  intro p e s m args below meth c s₁ B hml hv
  obtain ⟨hav, hsz, hP, hK, hD0⟩ := hv
  have hx := B.exec
  have hb := B.bytes
  have hr := B.returns
  have hts := atoms_spec (ws := wsX10_backLaw) B.pre
  have hown : s.vm.findClass RX10 = some m.cls := findClass_of_methodNamed B.named
  have hlocks := B.notSynchronized
  have hin10 : ∀ w ∈ wsX100, w ∈ wsX10_backLaw := fun w h => List.mem_cons_of_mem _ (List.mem_append_right _ h)
  subst hsz
  have hD := hD0.self (sz := s.heap.size)
  clear hD0
  generalize hAe : va_A (zc_10 a1 k1 s1) s.heap.size = A at hD ⊢
  have hA : ∀ q : Nat, s.heap.size ≤ q → A q := fun q h => by rw [← hAe]; exact Or.inr h
  have hS : va_S A s.heap s.heap [] := va_S.rf
  generalize hQe : MQ below _ args s 0 0 A = Q
  rw [show entryFrame m args 1 = F0 m 0 ((lg_sl ([.ref (a1 0)]) ++ List.replicate (1 - (lg_sl ([.ref (a1 0)])).length) Slot.unset).toArray) [] from by rw [hav]; exact lg_entry_eq m _ _]
  have hl := lv_entry ([.ref (a1 0)]) (n := 1) (Nat.le_of_ble_eq_true rfl)
  generalize (lg_sl ([.ref (a1 0)]) ++ List.replicate (1 - (lg_sl ([.ref (a1 0)])).length) Slot.unset).toArray = ls at hl ⊢
  have hl : lv_has ls 1 [(0, .ref (a1 0))] := hl
  unfold rr_X10_backLaw at hR
  refine lv_aload_n hx hb dX10_backLaw_0 rfl (lv_at hl 0 rfl) ?_
  refine va_get (D := (dC, dI)) (ci := 10) (v := .int s1.1.2.2.2.2.2.2) (C := RX10) (T := TX10) (N := 35) hx hb hts hin10 hown hK hP 0 rfl rfl 6 (by decide) (hts (.fieldLink RX10 111 "OldestCoinsModel" "law" "I") (List.mem_of_getElem? (i := 1) rfl)) (fun _ h9 => h9) rfl dX10_backLaw_1 ?_
  refine lv_iconst (v := (1 : Int32)) hx hb dX10_backLaw_4 (by decide) ?_
  refine lv_ixor hx hb dX10_backLaw_5 ?_
  subst hQe
  exact W.iret (v := (s1.1.2.2.2.2.2.2 ^^^ (1 : Int32))) hx hb hr (fun t ht hW => ⟨⟨(s1.1.2.2.2.2.2.2 ^^^ (1 : Int32)), (), rfl, (Option.some.inj hR).symm, by rw [ht]; exact hP, va_K.moved hW.alike hK, hD⟩, hS.F ht⟩) hS.2.2 dX10_backLaw_6
def rr_X10_findBill_210 (fu : Nat) (rec135 : Int32 → ZT_10 → Option (Int32 × ZT_10)) (y4 : Int32) (u1 : ZT_10) : Option (Int32 × ZT_10) := lt_ (α := Int32) (y4 + (1 : Int32)) (fun z38 => rec135 z38 u1)
def rr_X10_findBill_135_b (fu : Nat) (rec135 : Int32 → ZT_10 → Option (Int32 × ZT_10)) (y4 : Int32) (u1 : ZT_10) : Option (Int32 × ZT_10) := (if u1.2.2.2.1.2 ≤ y4 then some ((1 : Int32), u1) else (if u1.2.2.2.2.2.1.2.2.2.2 ≤ (0 : Int32) then some ((1 : Int32), u1) else ck_ y4 40 (ck_ (u1.2.2.2.1.1 y4.toNatClampNeg) 40 ((if u1.2.2.2.2.2.1.2.2.2.2 < (u1.1.1 (u1.2.2.2.1.1 y4.toNatClampNeg).toNatClampNeg) then rr_X10_findBill_210 fu rec135 y4 u1 else ck_ y4 40 ((rr_X10_bit fu (u1.2.2.2.1.1 y4.toNatClampNeg)).bind (fun q31 => lt_ (α := Int64) (u1.2.2.2.2.2.1.2.1 ||| q31) (fun z32 => ck_ y4 40 (ck_ (u1.2.2.2.1.1 y4.toNatClampNeg) 40 (lt_ (α := Int32) (u1.2.2.2.2.2.1.2.2.2.2 - (u1.1.1 (u1.2.2.2.1.1 y4.toNatClampNeg).toNatClampNeg)) (fun z36 => rr_X10_findBill_210 fu rec135 y4 (u1.1, u1.2.1, u1.2.2.1, u1.2.2.2.1, u1.2.2.2.2.1, (u1.2.2.2.2.2.1.1, z32, u1.2.2.2.2.2.1.2.2.1, u1.2.2.2.2.2.1.2.2.2.1, z36), u1.2.2.2.2.2.2))))))))))))
def rr_X10_findBill_135 (fu : Nat) (n : Nat) : Int32 → ZT_10 → Option (Int32 × ZT_10) := lp_ (fun _ _ => none) (rr_X10_findBill_135_b fu) n
def rr_X10_findBill_90 (fu : Nat) (y2 : Int32) (y3 : Int32) (u1 : ZT_10) : Option (Int32 × ZT_10) := (if y3 ≤ u1.2.2.2.2.2.1.2.2.1 then lt_ (α := Int32) (u1.2.2.2.2.2.1.2.2.1 - y3) (fun z18 => (rr_X10_backLaw fu (u1.1, u1.2.1, u1.2.2.1, u1.2.2.2.1, u1.2.2.2.2.1, (u1.2.2.2.2.2.1.1, u1.2.2.2.2.2.1.2.1, u1.2.2.2.2.2.1.2.2.1, z18, z18), u1.2.2.2.2.2.2)).bind (fun q21 => (rr_X10_findRow fu y2 q21 (u1.1, u1.2.1, u1.2.2.1, u1.2.2.2.1, u1.2.2.2.2.1, (u1.2.2.2.2.2.1.1, u1.2.2.2.2.2.1.2.1, u1.2.2.2.2.2.1.2.2.1, z18, z18), u1.2.2.2.2.2.2)).bind (fun q22 => rr_X10_findBill_135 fu fu (0 : Int32) q22))) else some ((0 : Int32), (u1.1, u1.2.1, u1.2.2.1, u1.2.2.2.1, u1.2.2.2.2.1, ((0 : Int64), u1.2.2.2.2.2.1.2), u1.2.2.2.2.2.2)))
def rr_X10_findBill_27_b (fu : Nat) (rec27 : Int32 → Int32 → Int32 → ZT_10 → Option (Int32 × ZT_10)) (y2 : Int32) (y3 : Int32) (y4 : Int32) (u1 : ZT_10) : Option (Int32 × ZT_10) := (if u1.2.2.2.1.2 ≤ y4 then rr_X10_findBill_90 fu y2 y3 u1 else (if y3 ≤ u1.2.2.2.2.2.1.2.2.1 then rr_X10_findBill_90 fu y2 y3 u1 else ck_ y4 40 ((rr_X10_bit fu (u1.2.2.2.1.1 y4.toNatClampNeg)).bind (fun q9 => lt_ (α := Int64) (u1.2.2.2.2.2.1.1 ||| q9) (fun z10 => ck_ y4 40 (ck_ (u1.2.2.2.1.1 y4.toNatClampNeg) 40 (lt_ (α := Int32) (u1.2.2.2.2.2.1.2.2.1 + (u1.1.1 (u1.2.2.2.1.1 y4.toNatClampNeg).toNatClampNeg)) (fun z14 => lt_ (α := Int32) (y4 + (1 : Int32)) (fun z16 => rec27 y2 y3 z16 (u1.1, u1.2.1, u1.2.2.1, u1.2.2.2.1, u1.2.2.2.2.1, (z10, u1.2.2.2.2.2.1.2.1, z14, u1.2.2.2.2.2.1.2.2.2), u1.2.2.2.2.2.2))))))))))
def rr_X10_findBill_27 (fu : Nat) (n : Nat) : Int32 → Int32 → Int32 → ZT_10 → Option (Int32 × ZT_10) := lp_ (fun _ _ _ _ => none) (rr_X10_findBill_27_b fu) n
def rr_X10_findBill (fu : Nat) (x1 : Int32) (x2 : Int32) (x3 : Int32) (s1 : ZT_10) : Option (Int32 × ZT_10) := (rr_X10_findRow fu x1 s1.1.2.2.2.2.2.2 (s1.1, s1.2.1, s1.2.2.1, s1.2.2.2.1, s1.2.2.2.2.1, ((0 : Int64), (0 : Int64), (0 : Int32), s1.2.2.2.2.2.1.2.2.2), s1.2.2.2.2.2.2)).bind (fun q4 => rr_X10_findBill_27 fu fu x2 x3 (0 : Int32) q4)
set_option maxHeartbeats 4000000 in
set_option maxRecDepth 100000 in
theorem cc_X10_findBill (l : Launch) (dC : Nat → ClassId) (dI : Nat → Nat → Nat) (fu : Nat) (a1 : Nat → Nat) (k1 : Nat → ClassId) (sz : Nat) (x1 : Int32) (x2 : Int32) (x3 : Int32) (s1 : ZT_10) (res : Int32 × ZT_10) (hR : rr_X10_findBill fu x1 x2 x3 s1 = some res) : Met l yX10_findBill wsX10_findBill ({ frames := 4, cells := 0, slots := 0, locals := 91 } : Room) (PcF [.ref (a1 0), .int x1, .int x2, .int x3] sz (dC, dI) (zc_10 a1 k1 s1) (zt_10 k1)) (va_Qi (fun (r : Int32) (u : ZT_10) => res = (r, u)) (fun u t => at3_ (dC, dI) (zc_10 a1 k1 u) (zt_10 k1) (va_A (zc_10 a1 k1 s1) sz) t) (va_A (zc_10 a1 k1 s1) sz)) 0 0 (va_A (zc_10 a1 k1 s1) sz) := by
  refine Met.ofW (cc := cX10_findBill) (maxL := 5) (ret := (some .boolean)) (by decide) rfl ?_
  intro p e s m args below meth c s₁ B hml hv
  obtain ⟨hav, hsz, hP, hK, hD0⟩ := hv
  have hx := B.exec
  have hb := B.bytes
  have hr := B.returns
  have hts := atoms_spec (ws := wsX10_findBill) B.pre
  have hown : s.vm.findClass RX10 = some m.cls := findClass_of_methodNamed B.named
  have hlocks := B.notSynchronized
  have hin10 : ∀ w ∈ wsX100, w ∈ wsX10_findBill := fun w h => List.mem_cons_of_mem _ (List.mem_append_right _ h)
  subst hsz
  have hD := hD0.self (sz := s.heap.size)
  clear hD0
  generalize hAe : va_A (zc_10 a1 k1 s1) s.heap.size = A at hD ⊢
  have hA : ∀ q : Nat, s.heap.size ≤ q → A q := fun q h => by rw [← hAe]; exact Or.inr h
  have hS : va_S A s.heap s.heap [] := va_S.rf
  generalize hQe : MQ below _ args s 0 0 A = Q
  rw [show entryFrame m args 5 = F0 m 0 ((lg_sl ([.ref (a1 0), .int x1, .int x2, .int x3]) ++ List.replicate (5 - (lg_sl ([.ref (a1 0), .int x1, .int x2, .int x3])).length) Slot.unset).toArray) [] from by rw [hav]; exact lg_entry_eq m _ _]
  have hl := lv_entry ([.ref (a1 0), .int x1, .int x2, .int x3]) (n := 5) (Nat.le_of_ble_eq_true rfl)
  generalize (lg_sl ([.ref (a1 0), .int x1, .int x2, .int x3]) ++ List.replicate (5 - (lg_sl ([.ref (a1 0), .int x1, .int x2, .int x3])).length) Slot.unset).toArray = ls at hl ⊢
  have hl : lv_has ls 5 [(0, .ref (a1 0)), (1, .int x1), (2, .int x2), (3, .int x3)] := hl
  have hB210 : ∀ (rec135 : Int32 → ZT_10 → Option (Int32 × ZT_10)) (hrec135 : ∀ (y4 : Int32) (u1 : ZT_10) (H : Heap) (locs : List Loc) (ls : Array Slot), va_P (dC, dI) vwCl (zc_10 a1 k1 u1) H → va_D A (zc_10 a1 k1 u1) → va_S A s.heap H locs → lv_has ls 5 [(0, .ref (a1 0)), (4, .int y4)] → rec135 y4 u1 = some res → W p l e ({ frames := 4, cells := 0, slots := 0, locals := 91 } : Room) s m args below meth c H locs 0 0 Q (F0 m 135 ls [])), ∀ (y4 : Int32) (u1 : ZT_10) (H : Heap) (locs : List Loc) (ls : Array Slot), va_P (dC, dI) vwCl (zc_10 a1 k1 u1) H → va_D A (zc_10 a1 k1 u1) → va_S A s.heap H locs → lv_has ls 5 [(0, .ref (a1 0)), (4, .int y4)] → rr_X10_findBill_210 fu rec135 y4 u1 = some res → W p l e ({ frames := 4, cells := 0, slots := 0, locals := 91 } : Room) s m args below meth c H locs 0 0 Q (F0 m 210 ls []) := by
    intro rec135 hrec135 y4 u1 H locs ls hP hD hS hl hR
    unfold rr_X10_findBill_210 at hR
    obtain ⟨z38, ez38⟩ : ∃ y : Int32, y = (y4 + (1 : Int32)) := ⟨_, rfl⟩
    replace hR := lt_ok hR ez38
    refine lv_iinc (v := z38) (lv' := [(4, .int z38), (0, .ref (a1 0))]) hx hb dX10_findBill_210 hl (k := 1) rfl (by rw [ez38]; rfl) (by decide) rfl (fun ls38 hl38 => ?_)
    refine lv_goto (tgt := 135) hx hb dX10_findBill_213 (by decide) ?_
    exact hrec135 z38 u1 H locs ls38 hP hD hS (lv_sub hl38 [1, 0] rfl) hR
  have hB135 : ∀ (n : Nat), ∀ (y4 : Int32) (u1 : ZT_10) (H : Heap) (locs : List Loc) (ls : Array Slot), va_P (dC, dI) vwCl (zc_10 a1 k1 u1) H → va_D A (zc_10 a1 k1 u1) → va_S A s.heap H locs → lv_has ls 5 [(0, .ref (a1 0)), (4, .int y4)] → rr_X10_findBill_135 fu n y4 u1 = some res → W p l e ({ frames := 4, cells := 0, slots := 0, locals := 91 } : Room) s m args below meth c H locs 0 0 Q (F0 m 135 ls []) := by
    intro  n
    induction n with
    | zero => intro y4 u1 H locs ls hP hD hS hl hR; exact absurd hR (by intro h; cases h)
    | succ n ih =>
      intro y4 u1 H locs ls hP hD hS hl hR
      replace hR : rr_X10_findBill_135_b fu (rr_X10_findBill_135 fu n) y4 u1 = some res := hR
      unfold rr_X10_findBill_135_b at hR
      refine lv_iload hx hb dX10_findBill_135 (lv_at hl 1 rfl) ?_
      refine lv_aload_n hx hb dX10_findBill_137 rfl (lv_at hl 0 rfl) ?_
      refine va_get (D := (dC, dI)) (ci := 10) (v := .int u1.2.2.2.1.2) (C := RX10) (T := TX10) (N := 35) hx hb hts hin10 hown hK hP 0 rfl rfl 13 (by decide) (hts (.fieldLink RX10 114 "OldestCoinsModel" "rowSize" "I") (List.mem_of_getElem? (i := 5) rfl)) (fun _ h9 => h9) rfl dX10_findBill_138 ?_
      refine lv_icmp_ge (tgt := 216) hx hb dX10_findBill_141 (by decide) (fun c25 => ?_) (fun c25 => ?_)
      · replace hR := ifp_ hR c25
        refine lv_iconst (v := (1 : Int32)) hx hb dX10_findBill_216 (by decide) ?_
        subst hQe
        exact W.zret (ty := .boolean) (v := (1 : Int32)) hx hb hr rfl (fun t ht hW => ⟨⟨(1 : Int32), u1, rfl, (Option.some.inj hR).symm, by rw [ht]; exact hP, va_K.moved hW.alike hK, hD⟩, hS.F ht⟩) hS.2.2 dX10_findBill_217
      · replace hR := ifn_ hR c25
        refine lv_aload_n hx hb dX10_findBill_144 rfl (lv_at hl 0 rfl) ?_
        refine va_get (D := (dC, dI)) (ci := 10) (v := .int u1.2.2.2.2.2.1.2.2.2.2) (C := RX10) (T := TX10) (N := 35) hx hb hts hin10 hown hK hP 0 rfl rfl 23 (by decide) (hts (.fieldLink RX10 202 "OldestCoinsModel" "left" "I") (List.mem_of_getElem? (i := 9) rfl)) (fun _ h9 => h9) rfl dX10_findBill_145 ?_
        refine lv_if_le (tgt := 216) hx hb dX10_findBill_148 (by decide) (fun c26 => ?_) (fun c26 => ?_)
        · replace hR := ifp_ hR c26
          refine lv_iconst (v := (1 : Int32)) hx hb dX10_findBill_216 (by decide) ?_
          subst hQe
          exact W.zret (ty := .boolean) (v := (1 : Int32)) hx hb hr rfl (fun t ht hW => ⟨⟨(1 : Int32), u1, rfl, (Option.some.inj hR).symm, by rw [ht]; exact hP, va_K.moved hW.alike hK, hD⟩, hS.F ht⟩) hS.2.2 dX10_findBill_217
        · replace hR := ifn_ hR c26
          refine lv_aload_n hx hb dX10_findBill_151 rfl (lv_at hl 0 rfl) ?_
          refine va_get (D := (dC, dI)) (ci := 10) (v := .ref (a1 1)) (C := RX10) (T := TX10) (N := 35) hx hb hts hin10 hown hK hP 0 rfl rfl 0 (by decide) (hts (.fieldLink RX10 7 "OldestCoinsModel" "worths" "[I") (List.mem_of_getElem? (i := 7) rfl)) (fun _ h9 => h9) rfl dX10_findBill_152 ?_
          refine lv_aload_n hx hb dX10_findBill_155 rfl (lv_at hl 0 rfl) ?_
          refine va_get (D := (dC, dI)) (ci := 10) (v := .ref (a1 9)) (C := RX10) (T := TX10) (N := 35) hx hb hts hin10 hown hK hP 0 rfl rfl 12 (by decide) (hts (.fieldLink RX10 34 "OldestCoinsModel" "row" "[I") (List.mem_of_getElem? (i := 6) rfl)) (fun _ h9 => h9) rfl dX10_findBill_156 ?_
          refine lv_iload hx hb dX10_findBill_159 (lv_at hl 1 rfl) ?_
          have i27 := (ck_ok hR).1
          replace hR := (ck_ok hR).2
          refine va_iald (f := u1.2.2.2.1.1) hx hb hK hP 9 8 rfl rfl i27 dX10_findBill_161 ?_
          have i28 := (ck_ok hR).1
          replace hR := (ck_ok hR).2
          refine va_iald (f := u1.1.1) hx hb hK hP 1 0 rfl rfl i28 dX10_findBill_162 ?_
          refine lv_aload_n hx hb dX10_findBill_163 rfl (lv_at hl 0 rfl) ?_
          refine va_get (D := (dC, dI)) (ci := 10) (v := .int u1.2.2.2.2.2.1.2.2.2.2) (C := RX10) (T := TX10) (N := 35) hx hb hts hin10 hown hK hP 0 rfl rfl 23 (by decide) (hts (.fieldLink RX10 202 "OldestCoinsModel" "left" "I") (List.mem_of_getElem? (i := 9) rfl)) (fun _ h9 => h9) rfl dX10_findBill_164 ?_
          refine lv_icmp_gt (tgt := 210) hx hb dX10_findBill_167 (by decide) (fun c29 => ?_) (fun c29 => ?_)
          · replace hR := ifp_ hR c29
            exact hB210 (rr_X10_findBill_135 fu n) ih y4 u1 H locs ls hP hD hS (lv_sub hl [0, 1] rfl) hR
          · replace hR := ifn_ hR c29
            refine lv_aload_n hx hb dX10_findBill_170 rfl (lv_at hl 0 rfl) ?_
            refine lv_dup hx hb dX10_findBill_171 rfl ?_
            refine va_get (D := (dC, dI)) (ci := 10) (v := .long u1.2.2.2.2.2.1.2.1) (C := RX10) (T := TX10) (N := 35) hx hb hts hin10 hown hK hP 0 rfl rfl 20 (by decide) (hts (.fieldLink RX10 189 "OldestCoinsModel" "given" "J") (List.mem_of_getElem? (i := 2) rfl)) (fun _ h9 => h9) rfl dX10_findBill_172 ?_
            refine lv_aload_n hx hb dX10_findBill_175 rfl (lv_at hl 0 rfl) ?_
            refine va_get (D := (dC, dI)) (ci := 10) (v := .ref (a1 9)) (C := RX10) (T := TX10) (N := 35) hx hb hts hin10 hown hK hP 0 rfl rfl 12 (by decide) (hts (.fieldLink RX10 34 "OldestCoinsModel" "row" "[I") (List.mem_of_getElem? (i := 6) rfl)) (fun _ h9 => h9) rfl dX10_findBill_176 ?_
            refine lv_iload hx hb dX10_findBill_179 (lv_at hl 1 rfl) ?_
            have i30 := (ck_ok hR).1
            replace hR := (ck_ok hR).2
            refine va_iald (f := u1.2.2.2.1.1) hx hb hK hP 9 8 rfl rfl i30 dX10_findBill_181 ?_
            have hR0 := ob_ok hR
            clear hR
            obtain ⟨q31, hq31, hR⟩ := hR0
            refine va_calll (va_runS (As := [.int (u1.2.2.2.1.1 y4.toNatClampNeg)]) (rest := [.long u1.2.2.2.2.2.1.2.1, .ref (a1 0)]) ⟨hx, hb, hml, hown, hts⟩ (cc_X10_bit l dC dI fu H.size (u1.2.2.2.1.1 y4.toNatClampNeg) q31 hq31) (va_cwS 1 hts gX10_findBill_X10_bit rfl rfl rfl (by decide +kernel) ⟨Nat.le_of_ble_eq_true rfl, Nat.le_of_ble_eq_true rfl⟩) (pf_s (nil_K hK) nil_P (nil_D (A := A))) rfl rfl hl.1 rfl (lv_room (Nat.le_of_ble_eq_true rfl)) dX10_findBill_182 ⟨Nat.le_refl _, Nat.le_refl _⟩) hS (fun q _ h => (fr_none hS hA) q h) (fr_none hS hA) (fun r31 v31 t31 H31 locs31 ht31 hvm31 hw31 hB31 hz31 hk31 hS31 => ?_)
            subst hw31
            have hP31 := jn_none hP hk31
            have hD31 := hD
            have hP31 : va_P (dC, dI) vwCl (zc_10 a1 k1 u1) H31 := hP31
            have hD31 : va_D A (zc_10 a1 k1 u1) := hD31
            clear hP hD hS hB31 hk31 hvm31 hz31 ht31
            refine lv_lor hx hb dX10_findBill_185 ?_
            refine lv_topl (fun z32 ez32 => ?_)
            replace hR := lt_ok hR ez32
            refine va_put (D := (dC, dI)) (ci := 10) (v := .long z32) (ty := .long) (C := RX10) (T := TX10) (N := 35) hx hb hts hin10 tyX10 tyX10_ok nmX10 hown hK hP31 hD31 hS31 0 rfl rfl 20 (by decide) (hts (.fieldLink RX10 189 "OldestCoinsModel" "given" "J") (List.mem_of_getElem? (i := 2) rfl)) (fun _ h9 => h9) rfl (by decide +kernel) rfl rfl (Nat.le_of_ble_eq_true rfl) dX10_findBill_186 (fun H33 locs33 hP33 hD33 hS33 => ?_)
            have hP33 : va_P (dC, dI) vwCl (zc_10 a1 k1 (u1.1, u1.2.1, u1.2.2.1, u1.2.2.2.1, u1.2.2.2.2.1, (u1.2.2.2.2.2.1.1, z32, u1.2.2.2.2.2.1.2.2), u1.2.2.2.2.2.2)) H33 := hP33
            have hD33 : va_D A (zc_10 a1 k1 (u1.1, u1.2.1, u1.2.2.1, u1.2.2.2.1, u1.2.2.2.2.1, (u1.2.2.2.2.2.1.1, z32, u1.2.2.2.2.2.1.2.2), u1.2.2.2.2.2.2)) := hD33
            clear hP31 hD31 hS31
            refine lv_aload_n hx hb dX10_findBill_189 rfl (lv_at hl 0 rfl) ?_
            refine lv_dup hx hb dX10_findBill_190 rfl ?_
            refine va_get (D := (dC, dI)) (ci := 10) (v := .int u1.2.2.2.2.2.1.2.2.2.2) (C := RX10) (T := TX10) (N := 35) hx hb hts hin10 hown hK hP33 0 rfl rfl 23 (by decide) (hts (.fieldLink RX10 202 "OldestCoinsModel" "left" "I") (List.mem_of_getElem? (i := 9) rfl)) (fun _ h9 => h9) rfl dX10_findBill_191 ?_
            refine lv_aload_n hx hb dX10_findBill_194 rfl (lv_at hl 0 rfl) ?_
            refine va_get (D := (dC, dI)) (ci := 10) (v := .ref (a1 1)) (C := RX10) (T := TX10) (N := 35) hx hb hts hin10 hown hK hP33 0 rfl rfl 0 (by decide) (hts (.fieldLink RX10 7 "OldestCoinsModel" "worths" "[I") (List.mem_of_getElem? (i := 7) rfl)) (fun _ h9 => h9) rfl dX10_findBill_195 ?_
            refine lv_aload_n hx hb dX10_findBill_198 rfl (lv_at hl 0 rfl) ?_
            refine va_get (D := (dC, dI)) (ci := 10) (v := .ref (a1 9)) (C := RX10) (T := TX10) (N := 35) hx hb hts hin10 hown hK hP33 0 rfl rfl 12 (by decide) (hts (.fieldLink RX10 34 "OldestCoinsModel" "row" "[I") (List.mem_of_getElem? (i := 6) rfl)) (fun _ h9 => h9) rfl dX10_findBill_199 ?_
            refine lv_iload hx hb dX10_findBill_202 (lv_at hl 1 rfl) ?_
            have i34 := (ck_ok hR).1
            replace hR := (ck_ok hR).2
            refine va_iald (f := u1.2.2.2.1.1) hx hb hK hP33 9 8 rfl rfl i34 dX10_findBill_204 ?_
            have i35 := (ck_ok hR).1
            replace hR := (ck_ok hR).2
            refine va_iald (f := u1.1.1) hx hb hK hP33 1 0 rfl rfl i35 dX10_findBill_205 ?_
            refine lv_isub hx hb dX10_findBill_206 ?_
            refine lv_topi (fun z36 ez36 => ?_)
            replace hR := lt_ok hR ez36
            refine va_put (D := (dC, dI)) (ci := 10) (v := .int z36) (ty := .int) (C := RX10) (T := TX10) (N := 35) hx hb hts hin10 tyX10 tyX10_ok nmX10 hown hK hP33 hD33 hS33 0 rfl rfl 23 (by decide) (hts (.fieldLink RX10 202 "OldestCoinsModel" "left" "I") (List.mem_of_getElem? (i := 9) rfl)) (fun _ h9 => h9) rfl (by decide +kernel) rfl rfl (Nat.le_of_ble_eq_true rfl) dX10_findBill_207 (fun H37 locs37 hP37 hD37 hS37 => ?_)
            have hP37 : va_P (dC, dI) vwCl (zc_10 a1 k1 (u1.1, u1.2.1, u1.2.2.1, u1.2.2.2.1, u1.2.2.2.2.1, (u1.2.2.2.2.2.1.1, z32, u1.2.2.2.2.2.1.2.2.1, u1.2.2.2.2.2.1.2.2.2.1, z36), u1.2.2.2.2.2.2)) H37 := hP37
            have hD37 : va_D A (zc_10 a1 k1 (u1.1, u1.2.1, u1.2.2.1, u1.2.2.2.1, u1.2.2.2.2.1, (u1.2.2.2.2.2.1.1, z32, u1.2.2.2.2.2.1.2.2.1, u1.2.2.2.2.2.1.2.2.2.1, z36), u1.2.2.2.2.2.2)) := hD37
            clear hP33 hD33 hS33
            exact hB210 (rr_X10_findBill_135 fu n) ih y4 (u1.1, u1.2.1, u1.2.2.1, u1.2.2.2.1, u1.2.2.2.2.1, (u1.2.2.2.2.2.1.1, z32, u1.2.2.2.2.2.1.2.2.1, u1.2.2.2.2.2.1.2.2.2.1, z36), u1.2.2.2.2.2.2) H37 locs37 ls hP37 hD37 hS37 (lv_sub hl [0, 1] rfl) hR
  have hB90 : ∀ (y2 : Int32) (y3 : Int32) (u1 : ZT_10) (H : Heap) (locs : List Loc) (ls : Array Slot), va_P (dC, dI) vwCl (zc_10 a1 k1 u1) H → va_D A (zc_10 a1 k1 u1) → va_S A s.heap H locs → lv_has ls 5 [(0, .ref (a1 0)), (2, .int y2), (3, .int y3)] → rr_X10_findBill_90 fu y2 y3 u1 = some res → W p l e ({ frames := 4, cells := 0, slots := 0, locals := 91 } : Room) s m args below meth c H locs 0 0 Q (F0 m 90 ls []) := by
    intro  y2 y3 u1 H locs ls hP hD hS hl hR
    unfold rr_X10_findBill_90 at hR
    refine lv_aload_n hx hb dX10_findBill_90 rfl (lv_at hl 0 rfl) ?_
    refine va_get (D := (dC, dI)) (ci := 10) (v := .int u1.2.2.2.2.2.1.2.2.1) (C := RX10) (T := TX10) (N := 35) hx hb hts hin10 hown hK hP 0 rfl rfl 21 (by decide) (hts (.fieldLink RX10 192 "OldestCoinsModel" "paidWorth" "I") (List.mem_of_getElem? (i := 3) rfl)) (fun _ h9 => h9) rfl dX10_findBill_91 ?_
    refine lv_iload_n hx hb dX10_findBill_94 rfl (lv_at hl 2 rfl) ?_
    refine lv_icmp_ge (tgt := 105) hx hb dX10_findBill_95 (by decide) (fun c17 => ?_) (fun c17 => ?_)
    · replace hR := ifp_ hR c17
      refine lv_aload_n hx hb dX10_findBill_105 rfl (lv_at hl 0 rfl) ?_
      refine lv_aload_n hx hb dX10_findBill_106 rfl (lv_at hl 0 rfl) ?_
      refine va_get (D := (dC, dI)) (ci := 10) (v := .int u1.2.2.2.2.2.1.2.2.1) (C := RX10) (T := TX10) (N := 35) hx hb hts hin10 hown hK hP 0 rfl rfl 21 (by decide) (hts (.fieldLink RX10 192 "OldestCoinsModel" "paidWorth" "I") (List.mem_of_getElem? (i := 3) rfl)) (fun _ h9 => h9) rfl dX10_findBill_107 ?_
      refine lv_iload_n hx hb dX10_findBill_110 rfl (lv_at hl 2 rfl) ?_
      refine lv_isub hx hb dX10_findBill_111 ?_
      refine lv_topi (fun z18 ez18 => ?_)
      replace hR := lt_ok hR ez18
      refine va_put (D := (dC, dI)) (ci := 10) (v := .int z18) (ty := .int) (C := RX10) (T := TX10) (N := 35) hx hb hts hin10 tyX10 tyX10_ok nmX10 hown hK hP hD hS 0 rfl rfl 22 (by decide) (hts (.fieldLink RX10 199 "OldestCoinsModel" "due" "I") (List.mem_of_getElem? (i := 8) rfl)) (fun _ h9 => h9) rfl (by decide +kernel) rfl rfl (Nat.le_of_ble_eq_true rfl) dX10_findBill_112 (fun H19 locs19 hP19 hD19 hS19 => ?_)
      have hP19 : va_P (dC, dI) vwCl (zc_10 a1 k1 (u1.1, u1.2.1, u1.2.2.1, u1.2.2.2.1, u1.2.2.2.2.1, (u1.2.2.2.2.2.1.1, u1.2.2.2.2.2.1.2.1, u1.2.2.2.2.2.1.2.2.1, z18, u1.2.2.2.2.2.1.2.2.2.2), u1.2.2.2.2.2.2)) H19 := hP19
      have hD19 : va_D A (zc_10 a1 k1 (u1.1, u1.2.1, u1.2.2.1, u1.2.2.2.1, u1.2.2.2.2.1, (u1.2.2.2.2.2.1.1, u1.2.2.2.2.2.1.2.1, u1.2.2.2.2.2.1.2.2.1, z18, u1.2.2.2.2.2.1.2.2.2.2), u1.2.2.2.2.2.2)) := hD19
      clear hP hD hS
      refine lv_aload_n hx hb dX10_findBill_115 rfl (lv_at hl 0 rfl) ?_
      refine lv_aload_n hx hb dX10_findBill_116 rfl (lv_at hl 0 rfl) ?_
      refine va_get (D := (dC, dI)) (ci := 10) (v := .int z18) (C := RX10) (T := TX10) (N := 35) hx hb hts hin10 hown hK hP19 0 rfl rfl 22 (by decide) (hts (.fieldLink RX10 199 "OldestCoinsModel" "due" "I") (List.mem_of_getElem? (i := 8) rfl)) (fun _ h9 => h9) rfl dX10_findBill_117 ?_
      refine va_put (D := (dC, dI)) (ci := 10) (v := .int z18) (ty := .int) (C := RX10) (T := TX10) (N := 35) hx hb hts hin10 tyX10 tyX10_ok nmX10 hown hK hP19 hD19 hS19 0 rfl rfl 23 (by decide) (hts (.fieldLink RX10 202 "OldestCoinsModel" "left" "I") (List.mem_of_getElem? (i := 9) rfl)) (fun _ h9 => h9) rfl (by decide +kernel) rfl rfl (Nat.le_of_ble_eq_true rfl) dX10_findBill_120 (fun H20 locs20 hP20 hD20 hS20 => ?_)
      have hP20 : va_P (dC, dI) vwCl (zc_10 a1 k1 (u1.1, u1.2.1, u1.2.2.1, u1.2.2.2.1, u1.2.2.2.2.1, (u1.2.2.2.2.2.1.1, u1.2.2.2.2.2.1.2.1, u1.2.2.2.2.2.1.2.2.1, z18, z18), u1.2.2.2.2.2.2)) H20 := hP20
      have hD20 : va_D A (zc_10 a1 k1 (u1.1, u1.2.1, u1.2.2.1, u1.2.2.2.1, u1.2.2.2.2.1, (u1.2.2.2.2.2.1.1, u1.2.2.2.2.2.1.2.1, u1.2.2.2.2.2.1.2.2.1, z18, z18), u1.2.2.2.2.2.2)) := hD20
      clear hP19 hD19 hS19
      refine lv_aload_n hx hb dX10_findBill_123 rfl (lv_at hl 0 rfl) ?_
      refine lv_iload_n hx hb dX10_findBill_124 rfl (lv_at hl 1 rfl) ?_
      refine lv_aload_n hx hb dX10_findBill_125 rfl (lv_at hl 0 rfl) ?_
      have hR0 := ob_ok hR
      clear hR
      obtain ⟨q21, hq21, hR⟩ := hR0
      refine va_calli (va_runV (As := []) (rest := [.int y2, .ref (a1 0)]) ⟨hx, hb, hml, hown, hts⟩ (cc_X10_backLaw l dC dI fu a1 k1 H20.size (u1.1, u1.2.1, u1.2.2.1, u1.2.2.2.1, u1.2.2.2.2.1, (u1.2.2.2.2.2.1.1, u1.2.2.2.2.2.1.2.1, u1.2.2.2.2.2.1.2.2.1, z18, z18), u1.2.2.2.2.2.2) q21 hq21) (cwV 0 hts gX10_findBill_X10_backLaw rfl rfl rfl (by decide +kernel) ⟨Nat.le_of_ble_eq_true rfl, Nat.le_of_ble_eq_true rfl⟩) (pf_v hK hP20 hD20 10 0 rfl rfl rfl) rfl rfl hl.1 rfl (lv_room (Nat.le_of_ble_eq_true rfl)) dX10_findBill_126 ⟨Nat.le_refl _, Nat.le_refl _⟩) hS20 (fun q _ h => (fr_all hD20 hS20 hA) q h) (fr_all hD20 hS20 hA) (fun r21 v21 t21 H21 locs21 ht21 hvm21 hw21 hB21 hz21 hk21 hS21 => ?_)
      subst hw21
      obtain ⟨hP21, hD21⟩ := jn_all hD20 hS20 hA ht21 hB21
      have hP21 : va_P (dC, dI) vwCl (zc_10 a1 k1 (u1.1, u1.2.1, u1.2.2.1, u1.2.2.2.1, u1.2.2.2.2.1, (u1.2.2.2.2.2.1.1, u1.2.2.2.2.2.1.2.1, u1.2.2.2.2.2.1.2.2.1, z18, z18), u1.2.2.2.2.2.2)) H21 := hP21
      have hD21 : va_D A (zc_10 a1 k1 (u1.1, u1.2.1, u1.2.2.1, u1.2.2.2.1, u1.2.2.2.2.1, (u1.2.2.2.2.2.1.1, u1.2.2.2.2.2.1.2.1, u1.2.2.2.2.2.1.2.2.1, z18, z18), u1.2.2.2.2.2.2)) := hD21
      clear hP20 hD20 hS20 hB21 hk21 hvm21 hz21 ht21
      have hR0 := ob_ok hR
      clear hR
      obtain ⟨q22, hq22, hR⟩ := hR0
      refine va_callv (va_runV (As := [.int y2, .int q21]) (rest := []) ⟨hx, hb, hml, hown, hts⟩ (cc_X10_findRow l dC dI fu a1 k1 H21.size y2 q21 (u1.1, u1.2.1, u1.2.2.1, u1.2.2.2.1, u1.2.2.2.2.1, (u1.2.2.2.2.2.1.1, u1.2.2.2.2.2.1.2.1, u1.2.2.2.2.2.1.2.2.1, z18, z18), u1.2.2.2.2.2.2) q22 hq22) (cwV 2 hts gX10_findBill_X10_findRow rfl rfl rfl (by decide +kernel) ⟨Nat.le_of_ble_eq_true rfl, Nat.le_of_ble_eq_true rfl⟩) (pf_v hK hP21 hD21 10 0 rfl rfl rfl) rfl rfl hl.1 rfl (lv_room (Nat.le_of_ble_eq_true rfl)) dX10_findBill_129 ⟨Nat.le_refl _, Nat.le_refl _⟩) hS21 (fun q _ h => (fr_all hD21 hS21 hA) q h) (fr_all hD21 hS21 hA) (fun v22 t22 H22 locs22 ht22 hvm22 hw22 hB22 hz22 hk22 hS22 => ?_)
      subst hw22
      obtain ⟨hP22, hD22⟩ := jn_all hD21 hS21 hA ht22 hB22
      have hP22 : va_P (dC, dI) vwCl (zc_10 a1 k1 q22) H22 := hP22
      have hD22 : va_D A (zc_10 a1 k1 q22) := hD22
      clear hP21 hD21 hS21 hB22 hk22 hvm22 hz22 ht22
      refine lv_iconst (v := (0 : Int32)) hx hb dX10_findBill_132 (by decide) ?_
      refine lv_istore (lv' := [(4, .int (0 : Int32)), (0, .ref (a1 0)), (2, .int y2), (3, .int y3)]) hx hb dX10_findBill_133 hl (by decide) rfl (fun ls23 hl23 => ?_)
      exact hB135 fu (0 : Int32) q22 H22 locs22 ls23 hP22 hD22 hS22 (lv_sub hl23 [1, 0] rfl) hR
    · replace hR := ifn_ hR c17
      refine lv_aload_n hx hb dX10_findBill_98 rfl (lv_at hl 0 rfl) ?_
      refine lv_lconst (v := (0 : Int64)) hx hb dX10_findBill_99 (by decide) ?_
      refine va_put (D := (dC, dI)) (ci := 10) (v := .long (0 : Int64)) (ty := .long) (C := RX10) (T := TX10) (N := 35) hx hb hts hin10 tyX10 tyX10_ok nmX10 hown hK hP hD hS 0 rfl rfl 19 (by decide) (hts (.fieldLink RX10 185 "OldestCoinsModel" "paid" "J") (List.mem_of_getElem? (i := 1) rfl)) (fun _ h9 => h9) rfl (by decide +kernel) rfl rfl (Nat.le_of_ble_eq_true rfl) dX10_findBill_100 (fun H24 locs24 hP24 hD24 hS24 => ?_)
      have hP24 : va_P (dC, dI) vwCl (zc_10 a1 k1 (u1.1, u1.2.1, u1.2.2.1, u1.2.2.2.1, u1.2.2.2.2.1, ((0 : Int64), u1.2.2.2.2.2.1.2), u1.2.2.2.2.2.2)) H24 := hP24
      have hD24 : va_D A (zc_10 a1 k1 (u1.1, u1.2.1, u1.2.2.1, u1.2.2.2.1, u1.2.2.2.2.1, ((0 : Int64), u1.2.2.2.2.2.1.2), u1.2.2.2.2.2.2)) := hD24
      clear hP hD hS
      refine lv_iconst (v := (0 : Int32)) hx hb dX10_findBill_103 (by decide) ?_
      subst hQe
      exact W.zret (ty := .boolean) (v := (0 : Int32)) hx hb hr rfl (fun t ht hW => ⟨⟨(0 : Int32), (u1.1, u1.2.1, u1.2.2.1, u1.2.2.2.1, u1.2.2.2.2.1, ((0 : Int64), u1.2.2.2.2.2.1.2), u1.2.2.2.2.2.2), rfl, (Option.some.inj hR).symm, by rw [ht]; exact hP24, va_K.moved hW.alike hK, hD24⟩, hS24.F ht⟩) hS24.2.2 dX10_findBill_104
  have hB27 : ∀ (n : Nat), ∀ (y2 : Int32) (y3 : Int32) (y4 : Int32) (u1 : ZT_10) (H : Heap) (locs : List Loc) (ls : Array Slot), va_P (dC, dI) vwCl (zc_10 a1 k1 u1) H → va_D A (zc_10 a1 k1 u1) → va_S A s.heap H locs → lv_has ls 5 [(0, .ref (a1 0)), (2, .int y2), (3, .int y3), (4, .int y4)] → rr_X10_findBill_27 fu n y2 y3 y4 u1 = some res → W p l e ({ frames := 4, cells := 0, slots := 0, locals := 91 } : Room) s m args below meth c H locs 0 0 Q (F0 m 27 ls []) := by
    intro  n
    induction n with
    | zero => intro y2 y3 y4 u1 H locs ls hP hD hS hl hR; exact absurd hR (by intro h; cases h)
    | succ n ih =>
      intro y2 y3 y4 u1 H locs ls hP hD hS hl hR
      replace hR : rr_X10_findBill_27_b fu (rr_X10_findBill_27 fu n) y2 y3 y4 u1 = some res := hR
      unfold rr_X10_findBill_27_b at hR
      refine lv_iload hx hb dX10_findBill_27 (lv_at hl 3 rfl) ?_
      refine lv_aload_n hx hb dX10_findBill_29 rfl (lv_at hl 0 rfl) ?_
      refine va_get (D := (dC, dI)) (ci := 10) (v := .int u1.2.2.2.1.2) (C := RX10) (T := TX10) (N := 35) hx hb hts hin10 hown hK hP 0 rfl rfl 13 (by decide) (hts (.fieldLink RX10 114 "OldestCoinsModel" "rowSize" "I") (List.mem_of_getElem? (i := 5) rfl)) (fun _ h9 => h9) rfl dX10_findBill_30 ?_
      refine lv_icmp_ge (tgt := 90) hx hb dX10_findBill_33 (by decide) (fun c6 => ?_) (fun c6 => ?_)
      · replace hR := ifp_ hR c6
        exact hB90 y2 y3 u1 H locs ls hP hD hS (lv_sub hl [0, 1, 2] rfl) hR
      · replace hR := ifn_ hR c6
        refine lv_aload_n hx hb dX10_findBill_36 rfl (lv_at hl 0 rfl) ?_
        refine va_get (D := (dC, dI)) (ci := 10) (v := .int u1.2.2.2.2.2.1.2.2.1) (C := RX10) (T := TX10) (N := 35) hx hb hts hin10 hown hK hP 0 rfl rfl 21 (by decide) (hts (.fieldLink RX10 192 "OldestCoinsModel" "paidWorth" "I") (List.mem_of_getElem? (i := 3) rfl)) (fun _ h9 => h9) rfl dX10_findBill_37 ?_
        refine lv_iload_n hx hb dX10_findBill_40 rfl (lv_at hl 2 rfl) ?_
        refine lv_icmp_ge (tgt := 90) hx hb dX10_findBill_41 (by decide) (fun c7 => ?_) (fun c7 => ?_)
        · replace hR := ifp_ hR c7
          exact hB90 y2 y3 u1 H locs ls hP hD hS (lv_sub hl [0, 1, 2] rfl) hR
        · replace hR := ifn_ hR c7
          refine lv_aload_n hx hb dX10_findBill_44 rfl (lv_at hl 0 rfl) ?_
          refine lv_dup hx hb dX10_findBill_45 rfl ?_
          refine va_get (D := (dC, dI)) (ci := 10) (v := .long u1.2.2.2.2.2.1.1) (C := RX10) (T := TX10) (N := 35) hx hb hts hin10 hown hK hP 0 rfl rfl 19 (by decide) (hts (.fieldLink RX10 185 "OldestCoinsModel" "paid" "J") (List.mem_of_getElem? (i := 1) rfl)) (fun _ h9 => h9) rfl dX10_findBill_46 ?_
          refine lv_aload_n hx hb dX10_findBill_49 rfl (lv_at hl 0 rfl) ?_
          refine va_get (D := (dC, dI)) (ci := 10) (v := .ref (a1 9)) (C := RX10) (T := TX10) (N := 35) hx hb hts hin10 hown hK hP 0 rfl rfl 12 (by decide) (hts (.fieldLink RX10 34 "OldestCoinsModel" "row" "[I") (List.mem_of_getElem? (i := 6) rfl)) (fun _ h9 => h9) rfl dX10_findBill_50 ?_
          refine lv_iload hx hb dX10_findBill_53 (lv_at hl 3 rfl) ?_
          have i8 := (ck_ok hR).1
          replace hR := (ck_ok hR).2
          refine va_iald (f := u1.2.2.2.1.1) hx hb hK hP 9 8 rfl rfl i8 dX10_findBill_55 ?_
          have hR0 := ob_ok hR
          clear hR
          obtain ⟨q9, hq9, hR⟩ := hR0
          refine va_calll (va_runS (As := [.int (u1.2.2.2.1.1 y4.toNatClampNeg)]) (rest := [.long u1.2.2.2.2.2.1.1, .ref (a1 0)]) ⟨hx, hb, hml, hown, hts⟩ (cc_X10_bit l dC dI fu H.size (u1.2.2.2.1.1 y4.toNatClampNeg) q9 hq9) (va_cwS 1 hts gX10_findBill_X10_bit rfl rfl rfl (by decide +kernel) ⟨Nat.le_of_ble_eq_true rfl, Nat.le_of_ble_eq_true rfl⟩) (pf_s (nil_K hK) nil_P (nil_D (A := A))) rfl rfl hl.1 rfl (lv_room (Nat.le_of_ble_eq_true rfl)) dX10_findBill_56 ⟨Nat.le_refl _, Nat.le_refl _⟩) hS (fun q _ h => (fr_none hS hA) q h) (fr_none hS hA) (fun r9 v9 t9 H9 locs9 ht9 hvm9 hw9 hB9 hz9 hk9 hS9 => ?_)
          subst hw9
          have hP9 := jn_none hP hk9
          have hD9 := hD
          have hP9 : va_P (dC, dI) vwCl (zc_10 a1 k1 u1) H9 := hP9
          have hD9 : va_D A (zc_10 a1 k1 u1) := hD9
          clear hP hD hS hB9 hk9 hvm9 hz9 ht9
          refine lv_lor hx hb dX10_findBill_59 ?_
          refine lv_topl (fun z10 ez10 => ?_)
          replace hR := lt_ok hR ez10
          refine va_put (D := (dC, dI)) (ci := 10) (v := .long z10) (ty := .long) (C := RX10) (T := TX10) (N := 35) hx hb hts hin10 tyX10 tyX10_ok nmX10 hown hK hP9 hD9 hS9 0 rfl rfl 19 (by decide) (hts (.fieldLink RX10 185 "OldestCoinsModel" "paid" "J") (List.mem_of_getElem? (i := 1) rfl)) (fun _ h9 => h9) rfl (by decide +kernel) rfl rfl (Nat.le_of_ble_eq_true rfl) dX10_findBill_60 (fun H11 locs11 hP11 hD11 hS11 => ?_)
          have hP11 : va_P (dC, dI) vwCl (zc_10 a1 k1 (u1.1, u1.2.1, u1.2.2.1, u1.2.2.2.1, u1.2.2.2.2.1, (z10, u1.2.2.2.2.2.1.2), u1.2.2.2.2.2.2)) H11 := hP11
          have hD11 : va_D A (zc_10 a1 k1 (u1.1, u1.2.1, u1.2.2.1, u1.2.2.2.1, u1.2.2.2.2.1, (z10, u1.2.2.2.2.2.1.2), u1.2.2.2.2.2.2)) := hD11
          clear hP9 hD9 hS9
          refine lv_aload_n hx hb dX10_findBill_63 rfl (lv_at hl 0 rfl) ?_
          refine lv_dup hx hb dX10_findBill_64 rfl ?_
          refine va_get (D := (dC, dI)) (ci := 10) (v := .int u1.2.2.2.2.2.1.2.2.1) (C := RX10) (T := TX10) (N := 35) hx hb hts hin10 hown hK hP11 0 rfl rfl 21 (by decide) (hts (.fieldLink RX10 192 "OldestCoinsModel" "paidWorth" "I") (List.mem_of_getElem? (i := 3) rfl)) (fun _ h9 => h9) rfl dX10_findBill_65 ?_
          refine lv_aload_n hx hb dX10_findBill_68 rfl (lv_at hl 0 rfl) ?_
          refine va_get (D := (dC, dI)) (ci := 10) (v := .ref (a1 1)) (C := RX10) (T := TX10) (N := 35) hx hb hts hin10 hown hK hP11 0 rfl rfl 0 (by decide) (hts (.fieldLink RX10 7 "OldestCoinsModel" "worths" "[I") (List.mem_of_getElem? (i := 7) rfl)) (fun _ h9 => h9) rfl dX10_findBill_69 ?_
          refine lv_aload_n hx hb dX10_findBill_72 rfl (lv_at hl 0 rfl) ?_
          refine va_get (D := (dC, dI)) (ci := 10) (v := .ref (a1 9)) (C := RX10) (T := TX10) (N := 35) hx hb hts hin10 hown hK hP11 0 rfl rfl 12 (by decide) (hts (.fieldLink RX10 34 "OldestCoinsModel" "row" "[I") (List.mem_of_getElem? (i := 6) rfl)) (fun _ h9 => h9) rfl dX10_findBill_73 ?_
          refine lv_iload hx hb dX10_findBill_76 (lv_at hl 3 rfl) ?_
          have i12 := (ck_ok hR).1
          replace hR := (ck_ok hR).2
          refine va_iald (f := u1.2.2.2.1.1) hx hb hK hP11 9 8 rfl rfl i12 dX10_findBill_78 ?_
          have i13 := (ck_ok hR).1
          replace hR := (ck_ok hR).2
          refine va_iald (f := u1.1.1) hx hb hK hP11 1 0 rfl rfl i13 dX10_findBill_79 ?_
          refine lv_iadd hx hb dX10_findBill_80 ?_
          refine lv_topi (fun z14 ez14 => ?_)
          replace hR := lt_ok hR ez14
          refine va_put (D := (dC, dI)) (ci := 10) (v := .int z14) (ty := .int) (C := RX10) (T := TX10) (N := 35) hx hb hts hin10 tyX10 tyX10_ok nmX10 hown hK hP11 hD11 hS11 0 rfl rfl 21 (by decide) (hts (.fieldLink RX10 192 "OldestCoinsModel" "paidWorth" "I") (List.mem_of_getElem? (i := 3) rfl)) (fun _ h9 => h9) rfl (by decide +kernel) rfl rfl (Nat.le_of_ble_eq_true rfl) dX10_findBill_81 (fun H15 locs15 hP15 hD15 hS15 => ?_)
          have hP15 : va_P (dC, dI) vwCl (zc_10 a1 k1 (u1.1, u1.2.1, u1.2.2.1, u1.2.2.2.1, u1.2.2.2.2.1, (z10, u1.2.2.2.2.2.1.2.1, z14, u1.2.2.2.2.2.1.2.2.2), u1.2.2.2.2.2.2)) H15 := hP15
          have hD15 : va_D A (zc_10 a1 k1 (u1.1, u1.2.1, u1.2.2.1, u1.2.2.2.1, u1.2.2.2.2.1, (z10, u1.2.2.2.2.2.1.2.1, z14, u1.2.2.2.2.2.1.2.2.2), u1.2.2.2.2.2.2)) := hD15
          clear hP11 hD11 hS11
          obtain ⟨z16, ez16⟩ : ∃ y : Int32, y = (y4 + (1 : Int32)) := ⟨_, rfl⟩
          replace hR := lt_ok hR ez16
          refine lv_iinc (v := z16) (lv' := [(4, .int z16), (0, .ref (a1 0)), (2, .int y2), (3, .int y3)]) hx hb dX10_findBill_84 hl (k := 3) rfl (by rw [ez16]; rfl) (by decide) rfl (fun ls16 hl16 => ?_)
          refine lv_goto (tgt := 27) hx hb dX10_findBill_87 (by decide) ?_
          exact ih y2 y3 z16 (u1.1, u1.2.1, u1.2.2.1, u1.2.2.2.1, u1.2.2.2.2.1, (z10, u1.2.2.2.2.2.1.2.1, z14, u1.2.2.2.2.2.1.2.2.2), u1.2.2.2.2.2.2) H15 locs15 ls16 hP15 hD15 hS15 (lv_sub hl16 [1, 2, 3, 0] rfl) hR
  unfold rr_X10_findBill at hR
  refine lv_aload_n hx hb dX10_findBill_0 rfl (lv_at hl 0 rfl) ?_
  refine lv_lconst (v := (0 : Int64)) hx hb dX10_findBill_1 (by decide) ?_
  refine va_put (D := (dC, dI)) (ci := 10) (v := .long (0 : Int64)) (ty := .long) (C := RX10) (T := TX10) (N := 35) hx hb hts hin10 tyX10 tyX10_ok nmX10 hown hK hP hD hS 0 rfl rfl 19 (by decide) (hts (.fieldLink RX10 185 "OldestCoinsModel" "paid" "J") (List.mem_of_getElem? (i := 1) rfl)) (fun _ h9 => h9) rfl (by decide +kernel) rfl rfl (Nat.le_of_ble_eq_true rfl) dX10_findBill_2 (fun H1 locs1 hP1 hD1 hS1 => ?_)
  have hP1 : va_P (dC, dI) vwCl (zc_10 a1 k1 (s1.1, s1.2.1, s1.2.2.1, s1.2.2.2.1, s1.2.2.2.2.1, ((0 : Int64), s1.2.2.2.2.2.1.2), s1.2.2.2.2.2.2)) H1 := hP1
  have hD1 : va_D A (zc_10 a1 k1 (s1.1, s1.2.1, s1.2.2.1, s1.2.2.2.1, s1.2.2.2.2.1, ((0 : Int64), s1.2.2.2.2.2.1.2), s1.2.2.2.2.2.2)) := hD1
  clear hP hD hS
  refine lv_aload_n hx hb dX10_findBill_5 rfl (lv_at hl 0 rfl) ?_
  refine lv_lconst (v := (0 : Int64)) hx hb dX10_findBill_6 (by decide) ?_
  refine va_put (D := (dC, dI)) (ci := 10) (v := .long (0 : Int64)) (ty := .long) (C := RX10) (T := TX10) (N := 35) hx hb hts hin10 tyX10 tyX10_ok nmX10 hown hK hP1 hD1 hS1 0 rfl rfl 20 (by decide) (hts (.fieldLink RX10 189 "OldestCoinsModel" "given" "J") (List.mem_of_getElem? (i := 2) rfl)) (fun _ h9 => h9) rfl (by decide +kernel) rfl rfl (Nat.le_of_ble_eq_true rfl) dX10_findBill_7 (fun H2 locs2 hP2 hD2 hS2 => ?_)
  have hP2 : va_P (dC, dI) vwCl (zc_10 a1 k1 (s1.1, s1.2.1, s1.2.2.1, s1.2.2.2.1, s1.2.2.2.2.1, ((0 : Int64), (0 : Int64), s1.2.2.2.2.2.1.2.2), s1.2.2.2.2.2.2)) H2 := hP2
  have hD2 : va_D A (zc_10 a1 k1 (s1.1, s1.2.1, s1.2.2.1, s1.2.2.2.1, s1.2.2.2.2.1, ((0 : Int64), (0 : Int64), s1.2.2.2.2.2.1.2.2), s1.2.2.2.2.2.2)) := hD2
  clear hP1 hD1 hS1
  refine lv_aload_n hx hb dX10_findBill_10 rfl (lv_at hl 0 rfl) ?_
  refine lv_iconst (v := (0 : Int32)) hx hb dX10_findBill_11 (by decide) ?_
  refine va_put (D := (dC, dI)) (ci := 10) (v := .int (0 : Int32)) (ty := .int) (C := RX10) (T := TX10) (N := 35) hx hb hts hin10 tyX10 tyX10_ok nmX10 hown hK hP2 hD2 hS2 0 rfl rfl 21 (by decide) (hts (.fieldLink RX10 192 "OldestCoinsModel" "paidWorth" "I") (List.mem_of_getElem? (i := 3) rfl)) (fun _ h9 => h9) rfl (by decide +kernel) rfl rfl (Nat.le_of_ble_eq_true rfl) dX10_findBill_12 (fun H3 locs3 hP3 hD3 hS3 => ?_)
  have hP3 : va_P (dC, dI) vwCl (zc_10 a1 k1 (s1.1, s1.2.1, s1.2.2.1, s1.2.2.2.1, s1.2.2.2.2.1, ((0 : Int64), (0 : Int64), (0 : Int32), s1.2.2.2.2.2.1.2.2.2), s1.2.2.2.2.2.2)) H3 := hP3
  have hD3 : va_D A (zc_10 a1 k1 (s1.1, s1.2.1, s1.2.2.1, s1.2.2.2.1, s1.2.2.2.2.1, ((0 : Int64), (0 : Int64), (0 : Int32), s1.2.2.2.2.2.1.2.2.2), s1.2.2.2.2.2.2)) := hD3
  clear hP2 hD2 hS2
  refine lv_aload_n hx hb dX10_findBill_15 rfl (lv_at hl 0 rfl) ?_
  refine lv_iload_n hx hb dX10_findBill_16 rfl (lv_at hl 1 rfl) ?_
  refine lv_aload_n hx hb dX10_findBill_17 rfl (lv_at hl 0 rfl) ?_
  refine va_get (D := (dC, dI)) (ci := 10) (v := .int s1.1.2.2.2.2.2.2) (C := RX10) (T := TX10) (N := 35) hx hb hts hin10 hown hK hP3 0 rfl rfl 6 (by decide) (hts (.fieldLink RX10 111 "OldestCoinsModel" "law" "I") (List.mem_of_getElem? (i := 4) rfl)) (fun _ h9 => h9) rfl dX10_findBill_18 ?_
  have hR0 := ob_ok hR
  clear hR
  obtain ⟨q4, hq4, hR⟩ := hR0
  refine va_callv (va_runV (As := [.int x1, .int s1.1.2.2.2.2.2.2]) (rest := []) ⟨hx, hb, hml, hown, hts⟩ (cc_X10_findRow l dC dI fu a1 k1 H3.size x1 s1.1.2.2.2.2.2.2 (s1.1, s1.2.1, s1.2.2.1, s1.2.2.2.1, s1.2.2.2.2.1, ((0 : Int64), (0 : Int64), (0 : Int32), s1.2.2.2.2.2.1.2.2.2), s1.2.2.2.2.2.2) q4 hq4) (cwV 2 hts gX10_findBill_X10_findRow rfl rfl rfl (by decide +kernel) ⟨Nat.le_of_ble_eq_true rfl, Nat.le_of_ble_eq_true rfl⟩) (pf_v hK hP3 hD3 10 0 rfl rfl rfl) rfl rfl hl.1 rfl (lv_room (Nat.le_of_ble_eq_true rfl)) dX10_findBill_21 ⟨Nat.le_refl _, Nat.le_refl _⟩) hS3 (fun q _ h => (fr_all hD3 hS3 hA) q h) (fr_all hD3 hS3 hA) (fun v4 t4 H4 locs4 ht4 hvm4 hw4 hB4 hz4 hk4 hS4 => ?_)
  subst hw4
  obtain ⟨hP4, hD4⟩ := jn_all hD3 hS3 hA ht4 hB4
  have hP4 : va_P (dC, dI) vwCl (zc_10 a1 k1 q4) H4 := hP4
  have hD4 : va_D A (zc_10 a1 k1 q4) := hD4
  clear hP3 hD3 hS3 hB4 hk4 hvm4 hz4 ht4
  refine lv_iconst (v := (0 : Int32)) hx hb dX10_findBill_24 (by decide) ?_
  refine lv_istore (lv' := [(4, .int (0 : Int32)), (0, .ref (a1 0)), (1, .int x1), (2, .int x2), (3, .int x3)]) hx hb dX10_findBill_25 hl (by decide) rfl (fun ls5 hl5 => ?_)
  exact hB27 fu x2 x3 (0 : Int32) q4 H4 locs4 ls5 hP4 hD4 hS4 (lv_sub hl5 [1, 3, 4, 0] rfl) hR
