set_option maxHeartbeats 4000000 in
set_option maxRecDepth 100000 in
theorem lc_purse {p : Program} {l : Launch} {e : Env} {s : State} {m : MethodId} {below : List Frame} {meth : Method} {c : Code} {dC : Nat → ClassId} {dI : Nat → Nat → Nat} {b L : Nat} {xs : Nat → Int32} {fu : Nat} {Rel : ZT_9 → ZT_10 → Prop} (h_purse : St_purse fu Rel) (a1 a2 : Nat → Nat) (k1 k2 : Nat → ClassId) (hL : L ≤ 4608) (hx : p.tables.exec = Jvm.exec) (hb : c.code = code) (hml : c.maxLocals = 4) (hown : s.vm.findClass RL = some m.cls) (hts : ∀ w ∈ wsL_law, w.before #[Value.ref b] s = true) (hX : va_X b L xs s s.heap) (hbl : b < s.heap.size) (hN : va_Nw nestW s) (hK : va_K (dC, dI) vwCl (zt_9 k1 ++ zt_10 k2) s) {i : Nat} (h9 : i + 9 ≤ L) (tail : ∀ (s1 : ZT_9) (s2 : ZT_10), Rel s1 s2 → ∀ (H : Heap) (locs : List Loc) (ls : Array Slot), va_P (dC, dI) vwCl (zc_9 a1 k1 s1 ++ zc_10 a2 k2 s2) H → va_D (fun q : Nat => s.heap.size ≤ q) (zc_9 a1 k1 s1 ++ zc_10 a2 k2 s2) → va_S (fun q : Nat => s.heap.size ≤ q) s.heap H locs → lv_has ls 4 [(0, .ref b), (1, .ref (a1 0)), (2, .ref (a2 0)), (3, .int (nI i))] → W p l e room_1 s m #[Value.ref b] below meth c H locs 92 2785 (lw_Z below #[Value.ref b] s) (F0 m 1383 ls [])) (s1 : ZT_9) (s2 : ZT_10) (hRel : Rel s1 s2) (H : Heap) (locs : List Loc) (ls : Array Slot) (hP : va_P (dC, dI) vwCl (zc_9 a1 k1 s1 ++ zc_10 a2 k2 s2) H) (hD : va_D (fun q : Nat => s.heap.size ≤ q) (zc_9 a1 k1 s1 ++ zc_10 a2 k2 s2)) (hS : va_S (fun q : Nat => s.heap.size ≤ q) s.heap H locs) (hl : lv_has ls 4 [(0, .ref b), (1, .ref (a1 0)), (2, .ref (a2 0)), (3, .int (nI i))]) : W p l e room_1 s m #[Value.ref b] below meth c H locs 92 2785 (lw_Z below #[Value.ref b] s) (F0 m 476 ls []) := by
  have hA : ∀ q : Nat, s.heap.size ≤ q → (fun q : Nat => s.heap.size ≤ q) q := fun _ h => h
  have hbA : ¬ (fun q : Nat => s.heap.size ≤ q) b := Nat.not_le.mpr hbl
  have j1 : vp_in ((nI i) + (1 : Int32)) L := sc_in 1 (1 : Int32) rfl (by omega) hL
  have j2 : vp_in ((nI i) + (2 : Int32)) L := sc_in 2 (2 : Int32) rfl (by omega) hL
  have j3 : vp_in ((nI i) + (3 : Int32)) L := sc_in 3 (3 : Int32) rfl (by omega) hL
  have j4 : vp_in ((nI i) + (4 : Int32)) L := sc_in 4 (4 : Int32) rfl (by omega) hL
  have j5 : vp_in ((nI i) + (5 : Int32)) L := sc_in 5 (5 : Int32) rfl (by omega) hL
  have j6 : vp_in ((nI i) + (6 : Int32)) L := sc_in 6 (6 : Int32) rfl (by omega) hL
  have j7 : vp_in ((nI i) + (7 : Int32)) L := sc_in 7 (7 : Int32) rfl (by omega) hL
  have j8 : vp_in ((nI i) + (8 : Int32)) L := sc_in 8 (8 : Int32) rfl (by omega) hL
  refine lv_aload_n hx hb dL_law_476 rfl (lv_at hl 1 rfl) ?_
  refine lv_aload_n hx hb dL_law_477 rfl (lv_at hl 0 rfl) ?_
  refine lv_iload_n hx hb dL_law_478 rfl (lv_at hl 3 rfl) ?_
  refine lv_iconst (v := (1 : Int32)) hx hb dL_law_479 (by decide) ?_
  refine lv_iadd hx hb dL_law_480 ?_
  refine va_sld hx hb hX hbl hbA hS j1 dL_law_481 ?_
  obtain ⟨r, c', m', e1, e2, hRel2⟩ := h_purse (xs ((nI i) + (1 : Int32)).toNatClampNeg) s1 s2 hRel
  refine va_calli (va_runV (As := [.int (xs ((nI i) + (1 : Int32)).toNatClampNeg)]) (rest := []) ⟨hx, hb, hml, hown, hts⟩ (cc_X9_purse l dC dI fu a1 k1 H.size (xs ((nI i) + (1 : Int32)).toNatClampNeg) s1 (r, c') e1) (cwV 1 hts gL_law_X9_purse rfl rfl rfl (by decide +kernel) ⟨Nat.le_of_ble_eq_true rfl, Nat.le_of_ble_eq_true rfl⟩) (pn_v hN (hK.sub (tys' := zt_9 k1) [0, 1, 2, 3, 4, 5, 6, 7, 8, 9, 10, 11, 12, 13, 14, 15, 16, 17, 18, 19, 20, 21, 22, 23, 24, 25, 26, 27, 28, 29, 30, 31, 32, 33, 34, 35, 36, 37, 38, 39, 40, 41, 42, 43, 44, 45, 46, 47, 48, 49, 50] rfl) (sub_P (sb_9_10__0c0 a1 a2 k1 k2 s1 s2) hP) (sub_D (sb_9_10__0c0 a1 a2 k1 k2 s1 s2) hD) 9 0 rfl rfl rfl) rfl rfl hl.1 rfl (lv_room (Nat.le_of_ble_eq_true rfl)) dL_law_482 ⟨Nat.le_of_ble_eq_true rfl, Nat.le_of_ble_eq_true rfl⟩) hS (fun q _ h => (sub_F (sb_9_10__0c0 a1 a2 k1 k2 s1 s2) hD hS hA) q h) (sub_F (sb_9_10__0c0 a1 a2 k1 k2 s1 s2) hD hS hA) (fun r1 v1 t1 H1 locs1 ht1 hvm1 hw1 hB1 hz1 hk1 hS1 => ?_)
  obtain rfl : r = r1 := congrArg Prod.fst hw1
  obtain rfl : c' = v1 := congrArg Prod.snd hw1
  obtain ⟨hP1, hD1⟩ := jn_sub (sb_9_10__0c0 a1 a2 k1 k2 s1 s2) (jo_9_10__0c0__0 a1 a2 k1 k2 s1 s2 c') rfl hP hD hk1 ht1 hB1
  have hP1 : va_P (dC, dI) vwCl (zc_9 a1 k1 c' ++ zc_10 a2 k2 s2) H1 := hP1
  have hD1 : va_D (fun q : Nat => s.heap.size ≤ q) (zc_9 a1 k1 c' ++ zc_10 a2 k2 s2) := hD1
  clear hP hD hS hB1 hk1 hvm1 hz1 ht1
  refine lv_aload_n hx hb dL_law_485 rfl (lv_at hl 2 rfl) ?_
  refine lv_aload_n hx hb dL_law_486 rfl (lv_at hl 0 rfl) ?_
  refine lv_iload_n hx hb dL_law_487 rfl (lv_at hl 3 rfl) ?_
  refine lv_iconst (v := (1 : Int32)) hx hb dL_law_488 (by decide) ?_
  refine lv_iadd hx hb dL_law_489 ?_
  refine va_sld hx hb hX hbl hbA hS1 j1 dL_law_490 ?_
  refine va_calli (va_runV (As := [.int (xs ((nI i) + (1 : Int32)).toNatClampNeg)]) (rest := [.int r]) ⟨hx, hb, hml, hown, hts⟩ (cc_X10_purse l dC dI fu a2 k2 H1.size (xs ((nI i) + (1 : Int32)).toNatClampNeg) s2 (r, m') e2) (cwV 1 hts gL_law_X10_purse rfl rfl rfl (by decide +kernel) ⟨Nat.le_of_ble_eq_true rfl, Nat.le_of_ble_eq_true rfl⟩) (pf_v (hK.sub (tys' := zt_10 k2) [51, 52, 53, 54, 55, 56, 57, 58, 59, 60, 61, 62, 63, 64, 65, 66, 67, 68, 69, 70, 71] rfl) (sub_P (sb_9_10__1c0 a1 a2 k1 k2 c' s2) hP1) (sub_D (sb_9_10__1c0 a1 a2 k1 k2 c' s2) hD1) 10 0 rfl rfl rfl) rfl rfl hl.1 rfl (lv_room (Nat.le_of_ble_eq_true rfl)) dL_law_491 ⟨Nat.le_of_ble_eq_true rfl, Nat.le_of_ble_eq_true rfl⟩) hS1 (fun q _ h => (sub_F (sb_9_10__1c0 a1 a2 k1 k2 c' s2) hD1 hS1 hA) q h) (sub_F (sb_9_10__1c0 a1 a2 k1 k2 c' s2) hD1 hS1 hA) (fun r2 v2 t2 H2 locs2 ht2 hvm2 hw2 hB2 hz2 hk2 hS2 => ?_)
  obtain rfl : r = r2 := congrArg Prod.fst hw2
  obtain rfl : m' = v2 := congrArg Prod.snd hw2
  obtain ⟨hP2, hD2⟩ := jn_sub (sb_9_10__1c0 a1 a2 k1 k2 c' s2) (jo_9_10__1c0__0 a1 a2 k1 k2 c' s2 m') rfl hP1 hD1 hk2 ht2 hB2
  have hP2 : va_P (dC, dI) vwCl (zc_9 a1 k1 c' ++ zc_10 a2 k2 m') H2 := hP2
  have hD2 : va_D (fun q : Nat => s.heap.size ≤ q) (zc_9 a1 k1 c' ++ zc_10 a2 k2 m') := hD2
  clear hP1 hD1 hS1 hB2 hk2 hvm2 hz2 ht2
  refine lv_icmp_eq (tgt := 1383) hx hb dL_law_494 (by decide) (fun _ => ?_) (fun c => absurd rfl c)
  exact tail c' m' hRel2 H2 locs2 ls hP2 hD2 hS2 hl
set_option maxHeartbeats 4000000 in
set_option maxRecDepth 100000 in
theorem lc_day {p : Program} {l : Launch} {e : Env} {s : State} {m : MethodId} {below : List Frame} {meth : Method} {c : Code} {dC : Nat → ClassId} {dI : Nat → Nat → Nat} {b L : Nat} {xs : Nat → Int32} {fu : Nat} {Rel : ZT_9 → ZT_10 → Prop} (h_day : St_day fu Rel) (a1 a2 : Nat → Nat) (k1 k2 : Nat → ClassId) (hL : L ≤ 4608) (hx : p.tables.exec = Jvm.exec) (hb : c.code = code) (hml : c.maxLocals = 4) (hown : s.vm.findClass RL = some m.cls) (hts : ∀ w ∈ wsL_law, w.before #[Value.ref b] s = true) (hX : va_X b L xs s s.heap) (hbl : b < s.heap.size) (hN : va_Nw nestW s) (hK : va_K (dC, dI) vwCl (zt_9 k1 ++ zt_10 k2) s) {i : Nat} (h9 : i + 9 ≤ L) (tail : ∀ (s1 : ZT_9) (s2 : ZT_10), Rel s1 s2 → ∀ (H : Heap) (locs : List Loc) (ls : Array Slot), va_P (dC, dI) vwCl (zc_9 a1 k1 s1 ++ zc_10 a2 k2 s2) H → va_D (fun q : Nat => s.heap.size ≤ q) (zc_9 a1 k1 s1 ++ zc_10 a2 k2 s2) → va_S (fun q : Nat => s.heap.size ≤ q) s.heap H locs → lv_has ls 4 [(0, .ref b), (1, .ref (a1 0)), (2, .ref (a2 0)), (3, .int (nI i))] → W p l e room_1 s m #[Value.ref b] below meth c H locs 92 2785 (lw_Z below #[Value.ref b] s) (F0 m 1383 ls [])) (s1 : ZT_9) (s2 : ZT_10) (hRel : Rel s1 s2) (H : Heap) (locs : List Loc) (ls : Array Slot) (hP : va_P (dC, dI) vwCl (zc_9 a1 k1 s1 ++ zc_10 a2 k2 s2) H) (hD : va_D (fun q : Nat => s.heap.size ≤ q) (zc_9 a1 k1 s1 ++ zc_10 a2 k2 s2)) (hS : va_S (fun q : Nat => s.heap.size ≤ q) s.heap H locs) (hl : lv_has ls 4 [(0, .ref b), (1, .ref (a1 0)), (2, .ref (a2 0)), (3, .int (nI i))]) : W p l e room_1 s m #[Value.ref b] below meth c H locs 92 2785 (lw_Z below #[Value.ref b] s) (F0 m 499 ls []) := by
  have hA : ∀ q : Nat, s.heap.size ≤ q → (fun q : Nat => s.heap.size ≤ q) q := fun _ h => h
  have hbA : ¬ (fun q : Nat => s.heap.size ≤ q) b := Nat.not_le.mpr hbl
  have j1 : vp_in ((nI i) + (1 : Int32)) L := sc_in 1 (1 : Int32) rfl (by omega) hL
  have j2 : vp_in ((nI i) + (2 : Int32)) L := sc_in 2 (2 : Int32) rfl (by omega) hL
  have j3 : vp_in ((nI i) + (3 : Int32)) L := sc_in 3 (3 : Int32) rfl (by omega) hL
  have j4 : vp_in ((nI i) + (4 : Int32)) L := sc_in 4 (4 : Int32) rfl (by omega) hL
  have j5 : vp_in ((nI i) + (5 : Int32)) L := sc_in 5 (5 : Int32) rfl (by omega) hL
  have j6 : vp_in ((nI i) + (6 : Int32)) L := sc_in 6 (6 : Int32) rfl (by omega) hL
  have j7 : vp_in ((nI i) + (7 : Int32)) L := sc_in 7 (7 : Int32) rfl (by omega) hL
  have j8 : vp_in ((nI i) + (8 : Int32)) L := sc_in 8 (8 : Int32) rfl (by omega) hL
  refine lv_aload_n hx hb dL_law_499 rfl (lv_at hl 1 rfl) ?_
  obtain ⟨r, c', m', e1, e2, hRel2⟩ := h_day s1 s2 hRel
  refine va_calli (va_runV (As := []) (rest := []) ⟨hx, hb, hml, hown, hts⟩ (cc_X9_day l dC dI fu a1 k1 H.size s1 (r, c') e1) (cwV 0 hts gL_law_X9_day rfl rfl rfl (by decide +kernel) ⟨Nat.le_of_ble_eq_true rfl, Nat.le_of_ble_eq_true rfl⟩) (pn_v hN (hK.sub (tys' := zt_9 k1) [0, 1, 2, 3, 4, 5, 6, 7, 8, 9, 10, 11, 12, 13, 14, 15, 16, 17, 18, 19, 20, 21, 22, 23, 24, 25, 26, 27, 28, 29, 30, 31, 32, 33, 34, 35, 36, 37, 38, 39, 40, 41, 42, 43, 44, 45, 46, 47, 48, 49, 50] rfl) (sub_P (sb_9_10__0c0 a1 a2 k1 k2 s1 s2) hP) (sub_D (sb_9_10__0c0 a1 a2 k1 k2 s1 s2) hD) 9 0 rfl rfl rfl) rfl rfl hl.1 rfl (lv_room (Nat.le_of_ble_eq_true rfl)) dL_law_500 ⟨Nat.le_of_ble_eq_true rfl, Nat.le_of_ble_eq_true rfl⟩) hS (fun q _ h => (sub_F (sb_9_10__0c0 a1 a2 k1 k2 s1 s2) hD hS hA) q h) (sub_F (sb_9_10__0c0 a1 a2 k1 k2 s1 s2) hD hS hA) (fun r1 v1 t1 H1 locs1 ht1 hvm1 hw1 hB1 hz1 hk1 hS1 => ?_)
  obtain rfl : r = r1 := congrArg Prod.fst hw1
  obtain rfl : c' = v1 := congrArg Prod.snd hw1
  obtain ⟨hP1, hD1⟩ := jn_sub (sb_9_10__0c0 a1 a2 k1 k2 s1 s2) (jo_9_10__0c0__0 a1 a2 k1 k2 s1 s2 c') rfl hP hD hk1 ht1 hB1
  have hP1 : va_P (dC, dI) vwCl (zc_9 a1 k1 c' ++ zc_10 a2 k2 s2) H1 := hP1
  have hD1 : va_D (fun q : Nat => s.heap.size ≤ q) (zc_9 a1 k1 c' ++ zc_10 a2 k2 s2) := hD1
  clear hP hD hS hB1 hk1 hvm1 hz1 ht1
  refine lv_aload_n hx hb dL_law_503 rfl (lv_at hl 2 rfl) ?_
  refine va_calli (va_runV (As := []) (rest := [.int r]) ⟨hx, hb, hml, hown, hts⟩ (cc_X10_day l dC dI fu a2 k2 H1.size s2 (r, m') e2) (cwV 0 hts gL_law_X10_day rfl rfl rfl (by decide +kernel) ⟨Nat.le_of_ble_eq_true rfl, Nat.le_of_ble_eq_true rfl⟩) (pf_v (hK.sub (tys' := zt_10 k2) [51, 52, 53, 54, 55, 56, 57, 58, 59, 60, 61, 62, 63, 64, 65, 66, 67, 68, 69, 70, 71] rfl) (sub_P (sb_9_10__1c0 a1 a2 k1 k2 c' s2) hP1) (sub_D (sb_9_10__1c0 a1 a2 k1 k2 c' s2) hD1) 10 0 rfl rfl rfl) rfl rfl hl.1 rfl (lv_room (Nat.le_of_ble_eq_true rfl)) dL_law_504 ⟨Nat.le_of_ble_eq_true rfl, Nat.le_of_ble_eq_true rfl⟩) hS1 (fun q _ h => (sub_F (sb_9_10__1c0 a1 a2 k1 k2 c' s2) hD1 hS1 hA) q h) (sub_F (sb_9_10__1c0 a1 a2 k1 k2 c' s2) hD1 hS1 hA) (fun r2 v2 t2 H2 locs2 ht2 hvm2 hw2 hB2 hz2 hk2 hS2 => ?_)
  obtain rfl : r = r2 := congrArg Prod.fst hw2
  obtain rfl : m' = v2 := congrArg Prod.snd hw2
  obtain ⟨hP2, hD2⟩ := jn_sub (sb_9_10__1c0 a1 a2 k1 k2 c' s2) (jo_9_10__1c0__0 a1 a2 k1 k2 c' s2 m') rfl hP1 hD1 hk2 ht2 hB2
  have hP2 : va_P (dC, dI) vwCl (zc_9 a1 k1 c' ++ zc_10 a2 k2 m') H2 := hP2
  have hD2 : va_D (fun q : Nat => s.heap.size ≤ q) (zc_9 a1 k1 c' ++ zc_10 a2 k2 m') := hD2
  clear hP1 hD1 hS1 hB2 hk2 hvm2 hz2 ht2
  refine lv_icmp_eq (tgt := 1383) hx hb dL_law_507 (by decide) (fun _ => ?_) (fun c => absurd rfl c)
  exact tail c' m' hRel2 H2 locs2 ls hP2 hD2 hS2 hl
set_option maxHeartbeats 4000000 in
set_option maxRecDepth 100000 in
theorem lc_count {p : Program} {l : Launch} {e : Env} {s : State} {m : MethodId} {below : List Frame} {meth : Method} {c : Code} {dC : Nat → ClassId} {dI : Nat → Nat → Nat} {b L : Nat} {xs : Nat → Int32} {fu : Nat} {Rel : ZT_9 → ZT_10 → Prop} (h_count : St_count fu Rel) (a1 a2 : Nat → Nat) (k1 k2 : Nat → ClassId) (hL : L ≤ 4608) (hx : p.tables.exec = Jvm.exec) (hb : c.code = code) (hml : c.maxLocals = 4) (hown : s.vm.findClass RL = some m.cls) (hts : ∀ w ∈ wsL_law, w.before #[Value.ref b] s = true) (hX : va_X b L xs s s.heap) (hbl : b < s.heap.size) (hN : va_Nw nestW s) (hK : va_K (dC, dI) vwCl (zt_9 k1 ++ zt_10 k2) s) {i : Nat} (h9 : i + 9 ≤ L) (tail : ∀ (s1 : ZT_9) (s2 : ZT_10), Rel s1 s2 → ∀ (H : Heap) (locs : List Loc) (ls : Array Slot), va_P (dC, dI) vwCl (zc_9 a1 k1 s1 ++ zc_10 a2 k2 s2) H → va_D (fun q : Nat => s.heap.size ≤ q) (zc_9 a1 k1 s1 ++ zc_10 a2 k2 s2) → va_S (fun q : Nat => s.heap.size ≤ q) s.heap H locs → lv_has ls 4 [(0, .ref b), (1, .ref (a1 0)), (2, .ref (a2 0)), (3, .int (nI i))] → W p l e room_1 s m #[Value.ref b] below meth c H locs 92 2785 (lw_Z below #[Value.ref b] s) (F0 m 1383 ls [])) (s1 : ZT_9) (s2 : ZT_10) (hRel : Rel s1 s2) (H : Heap) (locs : List Loc) (ls : Array Slot) (hP : va_P (dC, dI) vwCl (zc_9 a1 k1 s1 ++ zc_10 a2 k2 s2) H) (hD : va_D (fun q : Nat => s.heap.size ≤ q) (zc_9 a1 k1 s1 ++ zc_10 a2 k2 s2)) (hS : va_S (fun q : Nat => s.heap.size ≤ q) s.heap H locs) (hl : lv_has ls 4 [(0, .ref b), (1, .ref (a1 0)), (2, .ref (a2 0)), (3, .int (nI i))]) : W p l e room_1 s m #[Value.ref b] below meth c H locs 92 2785 (lw_Z below #[Value.ref b] s) (F0 m 512 ls []) := by
  have hA : ∀ q : Nat, s.heap.size ≤ q → (fun q : Nat => s.heap.size ≤ q) q := fun _ h => h
  have hbA : ¬ (fun q : Nat => s.heap.size ≤ q) b := Nat.not_le.mpr hbl
  have j1 : vp_in ((nI i) + (1 : Int32)) L := sc_in 1 (1 : Int32) rfl (by omega) hL
  have j2 : vp_in ((nI i) + (2 : Int32)) L := sc_in 2 (2 : Int32) rfl (by omega) hL
  have j3 : vp_in ((nI i) + (3 : Int32)) L := sc_in 3 (3 : Int32) rfl (by omega) hL
  have j4 : vp_in ((nI i) + (4 : Int32)) L := sc_in 4 (4 : Int32) rfl (by omega) hL
  have j5 : vp_in ((nI i) + (5 : Int32)) L := sc_in 5 (5 : Int32) rfl (by omega) hL
  have j6 : vp_in ((nI i) + (6 : Int32)) L := sc_in 6 (6 : Int32) rfl (by omega) hL
  have j7 : vp_in ((nI i) + (7 : Int32)) L := sc_in 7 (7 : Int32) rfl (by omega) hL
  have j8 : vp_in ((nI i) + (8 : Int32)) L := sc_in 8 (8 : Int32) rfl (by omega) hL
  refine lv_aload_n hx hb dL_law_512 rfl (lv_at hl 1 rfl) ?_
  refine lv_aload_n hx hb dL_law_513 rfl (lv_at hl 0 rfl) ?_
  refine lv_iload_n hx hb dL_law_514 rfl (lv_at hl 3 rfl) ?_
  refine lv_iconst (v := (1 : Int32)) hx hb dL_law_515 (by decide) ?_
  refine lv_iadd hx hb dL_law_516 ?_
  refine va_sld hx hb hX hbl hbA hS j1 dL_law_517 ?_
  obtain ⟨r, e1, e2, hRel2⟩ := h_count (xs ((nI i) + (1 : Int32)).toNatClampNeg) s1 s2 hRel
  refine va_calli (va_runV (As := [.int (xs ((nI i) + (1 : Int32)).toNatClampNeg)]) (rest := []) ⟨hx, hb, hml, hown, hts⟩ (cc_X9_count l dC dI fu a1 k1 H.size (xs ((nI i) + (1 : Int32)).toNatClampNeg) s1 r e1) (cwV 1 hts gL_law_X9_count rfl rfl rfl (by decide +kernel) ⟨Nat.le_of_ble_eq_true rfl, Nat.le_of_ble_eq_true rfl⟩) (pf_v (hK.sub (tys' := zt_9 k1) [0, 1, 2, 3, 4, 5, 6, 7, 8, 9, 10, 11, 12, 13, 14, 15, 16, 17, 18, 19, 20, 21, 22, 23, 24, 25, 26, 27, 28, 29, 30, 31, 32, 33, 34, 35, 36, 37, 38, 39, 40, 41, 42, 43, 44, 45, 46, 47, 48, 49, 50] rfl) (sub_P (sb_9_10__0c0 a1 a2 k1 k2 s1 s2) hP) (sub_D (sb_9_10__0c0 a1 a2 k1 k2 s1 s2) hD) 9 0 rfl rfl rfl) rfl rfl hl.1 rfl (lv_room (Nat.le_of_ble_eq_true rfl)) dL_law_518 ⟨Nat.le_of_ble_eq_true rfl, Nat.le_of_ble_eq_true rfl⟩) hS (fun q _ h => (sub_F (sb_9_10__0c0 a1 a2 k1 k2 s1 s2) hD hS hA) q h) (sub_F (sb_9_10__0c0 a1 a2 k1 k2 s1 s2) hD hS hA) (fun r1 v1 t1 H1 locs1 ht1 hvm1 hw1 hB1 hz1 hk1 hS1 => ?_)
  subst hw1
  obtain ⟨hP1, hD1⟩ := jn_sub (sb_9_10__0c0 a1 a2 k1 k2 s1 s2) (jo_9_10__0c0__ a1 a2 k1 k2 s1 s2) rfl hP hD hk1 ht1 hB1
  have hP1 : va_P (dC, dI) vwCl (zc_9 a1 k1 s1 ++ zc_10 a2 k2 s2) H1 := hP1
  have hD1 : va_D (fun q : Nat => s.heap.size ≤ q) (zc_9 a1 k1 s1 ++ zc_10 a2 k2 s2) := hD1
  clear hP hD hS hB1 hk1 hvm1 hz1 ht1
  refine lv_aload_n hx hb dL_law_521 rfl (lv_at hl 2 rfl) ?_
  refine lv_aload_n hx hb dL_law_522 rfl (lv_at hl 0 rfl) ?_
  refine lv_iload_n hx hb dL_law_523 rfl (lv_at hl 3 rfl) ?_
  refine lv_iconst (v := (1 : Int32)) hx hb dL_law_524 (by decide) ?_
  refine lv_iadd hx hb dL_law_525 ?_
  refine va_sld hx hb hX hbl hbA hS1 j1 dL_law_526 ?_
  refine va_calli (va_runV (As := [.int (xs ((nI i) + (1 : Int32)).toNatClampNeg)]) (rest := [.int r]) ⟨hx, hb, hml, hown, hts⟩ (cc_X10_count l dC dI fu a2 k2 H1.size (xs ((nI i) + (1 : Int32)).toNatClampNeg) s2 r e2) (cwV 1 hts gL_law_X10_count rfl rfl rfl (by decide +kernel) ⟨Nat.le_of_ble_eq_true rfl, Nat.le_of_ble_eq_true rfl⟩) (pf_v (hK.sub (tys' := zt_10 k2) [51, 52, 53, 54, 55, 56, 57, 58, 59, 60, 61, 62, 63, 64, 65, 66, 67, 68, 69, 70, 71] rfl) (sub_P (sb_9_10__1c0 a1 a2 k1 k2 s1 s2) hP1) (sub_D (sb_9_10__1c0 a1 a2 k1 k2 s1 s2) hD1) 10 0 rfl rfl rfl) rfl rfl hl.1 rfl (lv_room (Nat.le_of_ble_eq_true rfl)) dL_law_527 ⟨Nat.le_of_ble_eq_true rfl, Nat.le_of_ble_eq_true rfl⟩) hS1 (fun q _ h => (sub_F (sb_9_10__1c0 a1 a2 k1 k2 s1 s2) hD1 hS1 hA) q h) (sub_F (sb_9_10__1c0 a1 a2 k1 k2 s1 s2) hD1 hS1 hA) (fun r2 v2 t2 H2 locs2 ht2 hvm2 hw2 hB2 hz2 hk2 hS2 => ?_)
  subst hw2
  obtain ⟨hP2, hD2⟩ := jn_sub (sb_9_10__1c0 a1 a2 k1 k2 s1 s2) (jo_9_10__1c0__ a1 a2 k1 k2 s1 s2) rfl hP1 hD1 hk2 ht2 hB2
  have hP2 : va_P (dC, dI) vwCl (zc_9 a1 k1 s1 ++ zc_10 a2 k2 s2) H2 := hP2
  have hD2 : va_D (fun q : Nat => s.heap.size ≤ q) (zc_9 a1 k1 s1 ++ zc_10 a2 k2 s2) := hD2
  clear hP1 hD1 hS1 hB2 hk2 hvm2 hz2 ht2
  refine lv_icmp_eq (tgt := 1383) hx hb dL_law_530 (by decide) (fun _ => ?_) (fun c => absurd rfl c)
  exact tail s1 s2 hRel2 H2 locs2 ls hP2 hD2 hS2 hl
set_option maxHeartbeats 4000000 in
set_option maxRecDepth 100000 in
theorem lc_bill {p : Program} {l : Launch} {e : Env} {s : State} {m : MethodId} {below : List Frame} {meth : Method} {c : Code} {dC : Nat → ClassId} {dI : Nat → Nat → Nat} {b L : Nat} {xs : Nat → Int32} {fu : Nat} {Rel : ZT_9 → ZT_10 → Prop} (h_bill : St_bill fu Rel) (a1 a2 : Nat → Nat) (k1 k2 : Nat → ClassId) (hL : L ≤ 4608) (hx : p.tables.exec = Jvm.exec) (hb : c.code = code) (hml : c.maxLocals = 4) (hown : s.vm.findClass RL = some m.cls) (hts : ∀ w ∈ wsL_law, w.before #[Value.ref b] s = true) (hX : va_X b L xs s s.heap) (hbl : b < s.heap.size) (hN : va_Nw nestW s) (hK : va_K (dC, dI) vwCl (zt_9 k1 ++ zt_10 k2) s) {i : Nat} (h9 : i + 9 ≤ L) (tail : ∀ (s1 : ZT_9) (s2 : ZT_10), Rel s1 s2 → ∀ (H : Heap) (locs : List Loc) (ls : Array Slot), va_P (dC, dI) vwCl (zc_9 a1 k1 s1 ++ zc_10 a2 k2 s2) H → va_D (fun q : Nat => s.heap.size ≤ q) (zc_9 a1 k1 s1 ++ zc_10 a2 k2 s2) → va_S (fun q : Nat => s.heap.size ≤ q) s.heap H locs → lv_has ls 4 [(0, .ref b), (1, .ref (a1 0)), (2, .ref (a2 0)), (3, .int (nI i))] → W p l e room_1 s m #[Value.ref b] below meth c H locs 92 2785 (lw_Z below #[Value.ref b] s) (F0 m 1383 ls [])) (s1 : ZT_9) (s2 : ZT_10) (hRel : Rel s1 s2) (H : Heap) (locs : List Loc) (ls : Array Slot) (hP : va_P (dC, dI) vwCl (zc_9 a1 k1 s1 ++ zc_10 a2 k2 s2) H) (hD : va_D (fun q : Nat => s.heap.size ≤ q) (zc_9 a1 k1 s1 ++ zc_10 a2 k2 s2)) (hS : va_S (fun q : Nat => s.heap.size ≤ q) s.heap H locs) (hl : lv_has ls 4 [(0, .ref b), (1, .ref (a1 0)), (2, .ref (a2 0)), (3, .int (nI i))]) : W p l e room_1 s m #[Value.ref b] below meth c H locs 92 2785 (lw_Z below #[Value.ref b] s) (F0 m 535 ls []) := by
  have hA : ∀ q : Nat, s.heap.size ≤ q → (fun q : Nat => s.heap.size ≤ q) q := fun _ h => h
  have hbA : ¬ (fun q : Nat => s.heap.size ≤ q) b := Nat.not_le.mpr hbl
  have j1 : vp_in ((nI i) + (1 : Int32)) L := sc_in 1 (1 : Int32) rfl (by omega) hL
  have j2 : vp_in ((nI i) + (2 : Int32)) L := sc_in 2 (2 : Int32) rfl (by omega) hL
  have j3 : vp_in ((nI i) + (3 : Int32)) L := sc_in 3 (3 : Int32) rfl (by omega) hL
  have j4 : vp_in ((nI i) + (4 : Int32)) L := sc_in 4 (4 : Int32) rfl (by omega) hL
  have j5 : vp_in ((nI i) + (5 : Int32)) L := sc_in 5 (5 : Int32) rfl (by omega) hL
  have j6 : vp_in ((nI i) + (6 : Int32)) L := sc_in 6 (6 : Int32) rfl (by omega) hL
  have j7 : vp_in ((nI i) + (7 : Int32)) L := sc_in 7 (7 : Int32) rfl (by omega) hL
  have j8 : vp_in ((nI i) + (8 : Int32)) L := sc_in 8 (8 : Int32) rfl (by omega) hL
  refine lv_aload_n hx hb dL_law_535 rfl (lv_at hl 1 rfl) ?_
  refine lv_aload_n hx hb dL_law_536 rfl (lv_at hl 0 rfl) ?_
  refine lv_iload_n hx hb dL_law_537 rfl (lv_at hl 3 rfl) ?_
  refine lv_iconst (v := (1 : Int32)) hx hb dL_law_538 (by decide) ?_
  refine lv_iadd hx hb dL_law_539 ?_
  refine va_sld hx hb hX hbl hbA hS j1 dL_law_540 ?_
  refine lv_aload_n hx hb dL_law_541 rfl (lv_at hl 0 rfl) ?_
  refine lv_iload_n hx hb dL_law_542 rfl (lv_at hl 3 rfl) ?_
  refine lv_iconst (v := (2 : Int32)) hx hb dL_law_543 (by decide) ?_
  refine lv_iadd hx hb dL_law_544 ?_
  refine va_sld hx hb hX hbl hbA hS j2 dL_law_545 ?_
  refine lv_aload_n hx hb dL_law_546 rfl (lv_at hl 0 rfl) ?_
  refine lv_iload_n hx hb dL_law_547 rfl (lv_at hl 3 rfl) ?_
  refine lv_iconst (v := (3 : Int32)) hx hb dL_law_548 (by decide) ?_
  refine lv_iadd hx hb dL_law_549 ?_
  refine va_sld hx hb hX hbl hbA hS j3 dL_law_550 ?_
  obtain ⟨r, c', m', e1, e2, hRel2⟩ := h_bill (xs ((nI i) + (1 : Int32)).toNatClampNeg) (xs ((nI i) + (2 : Int32)).toNatClampNeg) (xs ((nI i) + (3 : Int32)).toNatClampNeg) s1 s2 hRel
  refine va_calli (va_runV (As := [.int (xs ((nI i) + (1 : Int32)).toNatClampNeg), .int (xs ((nI i) + (2 : Int32)).toNatClampNeg), .int (xs ((nI i) + (3 : Int32)).toNatClampNeg)]) (rest := []) ⟨hx, hb, hml, hown, hts⟩ (cc_X9_bill l dC dI fu a1 k1 H.size (xs ((nI i) + (1 : Int32)).toNatClampNeg) (xs ((nI i) + (2 : Int32)).toNatClampNeg) (xs ((nI i) + (3 : Int32)).toNatClampNeg) s1 (r, c') e1) (cwV 3 hts gL_law_X9_bill rfl rfl rfl (by decide +kernel) ⟨Nat.le_of_ble_eq_true rfl, Nat.le_of_ble_eq_true rfl⟩) (pf_v (hK.sub (tys' := zt_9 k1) [0, 1, 2, 3, 4, 5, 6, 7, 8, 9, 10, 11, 12, 13, 14, 15, 16, 17, 18, 19, 20, 21, 22, 23, 24, 25, 26, 27, 28, 29, 30, 31, 32, 33, 34, 35, 36, 37, 38, 39, 40, 41, 42, 43, 44, 45, 46, 47, 48, 49, 50] rfl) (sub_P (sb_9_10__0c0 a1 a2 k1 k2 s1 s2) hP) (sub_D (sb_9_10__0c0 a1 a2 k1 k2 s1 s2) hD) 9 0 rfl rfl rfl) rfl rfl hl.1 rfl (lv_room (Nat.le_of_ble_eq_true rfl)) dL_law_551 ⟨Nat.le_of_ble_eq_true rfl, Nat.le_of_ble_eq_true rfl⟩) hS (fun q _ h => (sub_F (sb_9_10__0c0 a1 a2 k1 k2 s1 s2) hD hS hA) q h) (sub_F (sb_9_10__0c0 a1 a2 k1 k2 s1 s2) hD hS hA) (fun r1 v1 t1 H1 locs1 ht1 hvm1 hw1 hB1 hz1 hk1 hS1 => ?_)
  obtain rfl : r = r1 := congrArg Prod.fst hw1
  obtain rfl : c' = v1 := congrArg Prod.snd hw1
  obtain ⟨hP1, hD1⟩ := jn_sub (sb_9_10__0c0 a1 a2 k1 k2 s1 s2) (jo_9_10__0c0__0 a1 a2 k1 k2 s1 s2 c') rfl hP hD hk1 ht1 hB1
  have hP1 : va_P (dC, dI) vwCl (zc_9 a1 k1 c' ++ zc_10 a2 k2 s2) H1 := hP1
  have hD1 : va_D (fun q : Nat => s.heap.size ≤ q) (zc_9 a1 k1 c' ++ zc_10 a2 k2 s2) := hD1
  clear hP hD hS hB1 hk1 hvm1 hz1 ht1
  refine lv_aload_n hx hb dL_law_554 rfl (lv_at hl 2 rfl) ?_
  refine lv_aload_n hx hb dL_law_555 rfl (lv_at hl 0 rfl) ?_
  refine lv_iload_n hx hb dL_law_556 rfl (lv_at hl 3 rfl) ?_
  refine lv_iconst (v := (1 : Int32)) hx hb dL_law_557 (by decide) ?_
  refine lv_iadd hx hb dL_law_558 ?_
  refine va_sld hx hb hX hbl hbA hS1 j1 dL_law_559 ?_
  refine lv_aload_n hx hb dL_law_560 rfl (lv_at hl 0 rfl) ?_
  refine lv_iload_n hx hb dL_law_561 rfl (lv_at hl 3 rfl) ?_
  refine lv_iconst (v := (2 : Int32)) hx hb dL_law_562 (by decide) ?_
  refine lv_iadd hx hb dL_law_563 ?_
  refine va_sld hx hb hX hbl hbA hS1 j2 dL_law_564 ?_
  refine lv_aload_n hx hb dL_law_565 rfl (lv_at hl 0 rfl) ?_
  refine lv_iload_n hx hb dL_law_566 rfl (lv_at hl 3 rfl) ?_
  refine lv_iconst (v := (3 : Int32)) hx hb dL_law_567 (by decide) ?_
  refine lv_iadd hx hb dL_law_568 ?_
  refine va_sld hx hb hX hbl hbA hS1 j3 dL_law_569 ?_
  refine va_calli (va_runV (As := [.int (xs ((nI i) + (1 : Int32)).toNatClampNeg), .int (xs ((nI i) + (2 : Int32)).toNatClampNeg), .int (xs ((nI i) + (3 : Int32)).toNatClampNeg)]) (rest := [.int r]) ⟨hx, hb, hml, hown, hts⟩ (cc_X10_bill l dC dI fu a2 k2 H1.size (xs ((nI i) + (1 : Int32)).toNatClampNeg) (xs ((nI i) + (2 : Int32)).toNatClampNeg) (xs ((nI i) + (3 : Int32)).toNatClampNeg) s2 (r, m') e2) (cwV 3 hts gL_law_X10_bill rfl rfl rfl (by decide +kernel) ⟨Nat.le_of_ble_eq_true rfl, Nat.le_of_ble_eq_true rfl⟩) (pf_v (hK.sub (tys' := zt_10 k2) [51, 52, 53, 54, 55, 56, 57, 58, 59, 60, 61, 62, 63, 64, 65, 66, 67, 68, 69, 70, 71] rfl) (sub_P (sb_9_10__1c0 a1 a2 k1 k2 c' s2) hP1) (sub_D (sb_9_10__1c0 a1 a2 k1 k2 c' s2) hD1) 10 0 rfl rfl rfl) rfl rfl hl.1 rfl (lv_room (Nat.le_of_ble_eq_true rfl)) dL_law_570 ⟨Nat.le_of_ble_eq_true rfl, Nat.le_of_ble_eq_true rfl⟩) hS1 (fun q _ h => (sub_F (sb_9_10__1c0 a1 a2 k1 k2 c' s2) hD1 hS1 hA) q h) (sub_F (sb_9_10__1c0 a1 a2 k1 k2 c' s2) hD1 hS1 hA) (fun r2 v2 t2 H2 locs2 ht2 hvm2 hw2 hB2 hz2 hk2 hS2 => ?_)
  obtain rfl : r = r2 := congrArg Prod.fst hw2
  obtain rfl : m' = v2 := congrArg Prod.snd hw2
  obtain ⟨hP2, hD2⟩ := jn_sub (sb_9_10__1c0 a1 a2 k1 k2 c' s2) (jo_9_10__1c0__0 a1 a2 k1 k2 c' s2 m') rfl hP1 hD1 hk2 ht2 hB2
  have hP2 : va_P (dC, dI) vwCl (zc_9 a1 k1 c' ++ zc_10 a2 k2 m') H2 := hP2
  have hD2 : va_D (fun q : Nat => s.heap.size ≤ q) (zc_9 a1 k1 c' ++ zc_10 a2 k2 m') := hD2
  clear hP1 hD1 hS1 hB2 hk2 hvm2 hz2 ht2
  refine lv_icmp_eq (tgt := 1383) hx hb dL_law_573 (by decide) (fun _ => ?_) (fun c => absurd rfl c)
  exact tail c' m' hRel2 H2 locs2 ls hP2 hD2 hS2 hl
set_option maxHeartbeats 4000000 in
set_option maxRecDepth 100000 in
theorem lc_would {p : Program} {l : Launch} {e : Env} {s : State} {m : MethodId} {below : List Frame} {meth : Method} {c : Code} {dC : Nat → ClassId} {dI : Nat → Nat → Nat} {b L : Nat} {xs : Nat → Int32} {fu : Nat} {Rel : ZT_9 → ZT_10 → Prop} (h_would : St_would fu Rel) (a1 a2 : Nat → Nat) (k1 k2 : Nat → ClassId) (hL : L ≤ 4608) (hx : p.tables.exec = Jvm.exec) (hb : c.code = code) (hml : c.maxLocals = 4) (hown : s.vm.findClass RL = some m.cls) (hts : ∀ w ∈ wsL_law, w.before #[Value.ref b] s = true) (hX : va_X b L xs s s.heap) (hbl : b < s.heap.size) (hN : va_Nw nestW s) (hK : va_K (dC, dI) vwCl (zt_9 k1 ++ zt_10 k2) s) {i : Nat} (h9 : i + 9 ≤ L) (tail : ∀ (s1 : ZT_9) (s2 : ZT_10), Rel s1 s2 → ∀ (H : Heap) (locs : List Loc) (ls : Array Slot), va_P (dC, dI) vwCl (zc_9 a1 k1 s1 ++ zc_10 a2 k2 s2) H → va_D (fun q : Nat => s.heap.size ≤ q) (zc_9 a1 k1 s1 ++ zc_10 a2 k2 s2) → va_S (fun q : Nat => s.heap.size ≤ q) s.heap H locs → lv_has ls 4 [(0, .ref b), (1, .ref (a1 0)), (2, .ref (a2 0)), (3, .int (nI i))] → W p l e room_1 s m #[Value.ref b] below meth c H locs 92 2785 (lw_Z below #[Value.ref b] s) (F0 m 1383 ls [])) (s1 : ZT_9) (s2 : ZT_10) (hRel : Rel s1 s2) (H : Heap) (locs : List Loc) (ls : Array Slot) (hP : va_P (dC, dI) vwCl (zc_9 a1 k1 s1 ++ zc_10 a2 k2 s2) H) (hD : va_D (fun q : Nat => s.heap.size ≤ q) (zc_9 a1 k1 s1 ++ zc_10 a2 k2 s2)) (hS : va_S (fun q : Nat => s.heap.size ≤ q) s.heap H locs) (hl : lv_has ls 4 [(0, .ref b), (1, .ref (a1 0)), (2, .ref (a2 0)), (3, .int (nI i))]) : W p l e room_1 s m #[Value.ref b] below meth c H locs 92 2785 (lw_Z below #[Value.ref b] s) (F0 m 578 ls []) := by
  have hA : ∀ q : Nat, s.heap.size ≤ q → (fun q : Nat => s.heap.size ≤ q) q := fun _ h => h
  have hbA : ¬ (fun q : Nat => s.heap.size ≤ q) b := Nat.not_le.mpr hbl
  have j1 : vp_in ((nI i) + (1 : Int32)) L := sc_in 1 (1 : Int32) rfl (by omega) hL
  have j2 : vp_in ((nI i) + (2 : Int32)) L := sc_in 2 (2 : Int32) rfl (by omega) hL
  have j3 : vp_in ((nI i) + (3 : Int32)) L := sc_in 3 (3 : Int32) rfl (by omega) hL
  have j4 : vp_in ((nI i) + (4 : Int32)) L := sc_in 4 (4 : Int32) rfl (by omega) hL
  have j5 : vp_in ((nI i) + (5 : Int32)) L := sc_in 5 (5 : Int32) rfl (by omega) hL
  have j6 : vp_in ((nI i) + (6 : Int32)) L := sc_in 6 (6 : Int32) rfl (by omega) hL
  have j7 : vp_in ((nI i) + (7 : Int32)) L := sc_in 7 (7 : Int32) rfl (by omega) hL
  have j8 : vp_in ((nI i) + (8 : Int32)) L := sc_in 8 (8 : Int32) rfl (by omega) hL
  refine lv_aload_n hx hb dL_law_578 rfl (lv_at hl 1 rfl) ?_
  refine lv_aload_n hx hb dL_law_579 rfl (lv_at hl 0 rfl) ?_
  refine lv_iload_n hx hb dL_law_580 rfl (lv_at hl 3 rfl) ?_
  refine lv_iconst (v := (1 : Int32)) hx hb dL_law_581 (by decide) ?_
  refine lv_iadd hx hb dL_law_582 ?_
  refine va_sld hx hb hX hbl hbA hS j1 dL_law_583 ?_
  refine lv_aload_n hx hb dL_law_584 rfl (lv_at hl 0 rfl) ?_
  refine lv_iload_n hx hb dL_law_585 rfl (lv_at hl 3 rfl) ?_
  refine lv_iconst (v := (2 : Int32)) hx hb dL_law_586 (by decide) ?_
  refine lv_iadd hx hb dL_law_587 ?_
  refine va_sld hx hb hX hbl hbA hS j2 dL_law_588 ?_
  refine lv_aload_n hx hb dL_law_589 rfl (lv_at hl 0 rfl) ?_
  refine lv_iload_n hx hb dL_law_590 rfl (lv_at hl 3 rfl) ?_
  refine lv_iconst (v := (3 : Int32)) hx hb dL_law_591 (by decide) ?_
  refine lv_iadd hx hb dL_law_592 ?_
  refine va_sld hx hb hX hbl hbA hS j3 dL_law_593 ?_
  refine lv_aload_n hx hb dL_law_594 rfl (lv_at hl 0 rfl) ?_
  refine lv_iload_n hx hb dL_law_595 rfl (lv_at hl 3 rfl) ?_
  refine lv_iconst (v := (4 : Int32)) hx hb dL_law_596 (by decide) ?_
  refine lv_iadd hx hb dL_law_597 ?_
  refine va_sld hx hb hX hbl hbA hS j4 dL_law_598 ?_
  obtain ⟨r, c', m', e1, e2, hRel2⟩ := h_would (xs ((nI i) + (1 : Int32)).toNatClampNeg) (xs ((nI i) + (2 : Int32)).toNatClampNeg) (xs ((nI i) + (3 : Int32)).toNatClampNeg) (xs ((nI i) + (4 : Int32)).toNatClampNeg) s1 s2 hRel
  refine va_calli (va_runV (As := [.int (xs ((nI i) + (1 : Int32)).toNatClampNeg), .int (xs ((nI i) + (2 : Int32)).toNatClampNeg), .int (xs ((nI i) + (3 : Int32)).toNatClampNeg), .int (xs ((nI i) + (4 : Int32)).toNatClampNeg)]) (rest := []) ⟨hx, hb, hml, hown, hts⟩ (cc_X9_would l dC dI fu a1 k1 H.size (xs ((nI i) + (1 : Int32)).toNatClampNeg) (xs ((nI i) + (2 : Int32)).toNatClampNeg) (xs ((nI i) + (3 : Int32)).toNatClampNeg) (xs ((nI i) + (4 : Int32)).toNatClampNeg) s1 (r, c') e1) (cwV 4 hts gL_law_X9_would rfl rfl rfl (by decide +kernel) ⟨Nat.le_of_ble_eq_true rfl, Nat.le_of_ble_eq_true rfl⟩) (pf_v (hK.sub (tys' := zt_9 k1) [0, 1, 2, 3, 4, 5, 6, 7, 8, 9, 10, 11, 12, 13, 14, 15, 16, 17, 18, 19, 20, 21, 22, 23, 24, 25, 26, 27, 28, 29, 30, 31, 32, 33, 34, 35, 36, 37, 38, 39, 40, 41, 42, 43, 44, 45, 46, 47, 48, 49, 50] rfl) (sub_P (sb_9_10__0c0 a1 a2 k1 k2 s1 s2) hP) (sub_D (sb_9_10__0c0 a1 a2 k1 k2 s1 s2) hD) 9 0 rfl rfl rfl) rfl rfl hl.1 rfl (lv_room (Nat.le_of_ble_eq_true rfl)) dL_law_599 ⟨Nat.le_of_ble_eq_true rfl, Nat.le_of_ble_eq_true rfl⟩) hS (fun q _ h => (sub_F (sb_9_10__0c0 a1 a2 k1 k2 s1 s2) hD hS hA) q h) (sub_F (sb_9_10__0c0 a1 a2 k1 k2 s1 s2) hD hS hA) (fun r1 v1 t1 H1 locs1 ht1 hvm1 hw1 hB1 hz1 hk1 hS1 => ?_)
  obtain rfl : r = r1 := congrArg Prod.fst hw1
  obtain rfl : c' = v1 := congrArg Prod.snd hw1
  obtain ⟨hP1, hD1⟩ := jn_sub (sb_9_10__0c0 a1 a2 k1 k2 s1 s2) (jo_9_10__0c0__0 a1 a2 k1 k2 s1 s2 c') rfl hP hD hk1 ht1 hB1
  have hP1 : va_P (dC, dI) vwCl (zc_9 a1 k1 c' ++ zc_10 a2 k2 s2) H1 := hP1
  have hD1 : va_D (fun q : Nat => s.heap.size ≤ q) (zc_9 a1 k1 c' ++ zc_10 a2 k2 s2) := hD1
  clear hP hD hS hB1 hk1 hvm1 hz1 ht1
  refine lv_aload_n hx hb dL_law_602 rfl (lv_at hl 2 rfl) ?_
  refine lv_aload_n hx hb dL_law_603 rfl (lv_at hl 0 rfl) ?_
  refine lv_iload_n hx hb dL_law_604 rfl (lv_at hl 3 rfl) ?_
  refine lv_iconst (v := (1 : Int32)) hx hb dL_law_605 (by decide) ?_
  refine lv_iadd hx hb dL_law_606 ?_
  refine va_sld hx hb hX hbl hbA hS1 j1 dL_law_607 ?_
  refine lv_aload_n hx hb dL_law_608 rfl (lv_at hl 0 rfl) ?_
  refine lv_iload_n hx hb dL_law_609 rfl (lv_at hl 3 rfl) ?_
  refine lv_iconst (v := (2 : Int32)) hx hb dL_law_610 (by decide) ?_
  refine lv_iadd hx hb dL_law_611 ?_
  refine va_sld hx hb hX hbl hbA hS1 j2 dL_law_612 ?_
  refine lv_aload_n hx hb dL_law_613 rfl (lv_at hl 0 rfl) ?_
  refine lv_iload_n hx hb dL_law_614 rfl (lv_at hl 3 rfl) ?_
  refine lv_iconst (v := (3 : Int32)) hx hb dL_law_615 (by decide) ?_
  refine lv_iadd hx hb dL_law_616 ?_
  refine va_sld hx hb hX hbl hbA hS1 j3 dL_law_617 ?_
  refine lv_aload_n hx hb dL_law_618 rfl (lv_at hl 0 rfl) ?_
  refine lv_iload_n hx hb dL_law_619 rfl (lv_at hl 3 rfl) ?_
  refine lv_iconst (v := (4 : Int32)) hx hb dL_law_620 (by decide) ?_
  refine lv_iadd hx hb dL_law_621 ?_
  refine va_sld hx hb hX hbl hbA hS1 j4 dL_law_622 ?_
  refine va_calli (va_runV (As := [.int (xs ((nI i) + (1 : Int32)).toNatClampNeg), .int (xs ((nI i) + (2 : Int32)).toNatClampNeg), .int (xs ((nI i) + (3 : Int32)).toNatClampNeg), .int (xs ((nI i) + (4 : Int32)).toNatClampNeg)]) (rest := [.int r]) ⟨hx, hb, hml, hown, hts⟩ (cc_X10_would l dC dI fu a2 k2 H1.size (xs ((nI i) + (1 : Int32)).toNatClampNeg) (xs ((nI i) + (2 : Int32)).toNatClampNeg) (xs ((nI i) + (3 : Int32)).toNatClampNeg) (xs ((nI i) + (4 : Int32)).toNatClampNeg) s2 (r, m') e2) (cwV 4 hts gL_law_X10_would rfl rfl rfl (by decide +kernel) ⟨Nat.le_of_ble_eq_true rfl, Nat.le_of_ble_eq_true rfl⟩) (pf_v (hK.sub (tys' := zt_10 k2) [51, 52, 53, 54, 55, 56, 57, 58, 59, 60, 61, 62, 63, 64, 65, 66, 67, 68, 69, 70, 71] rfl) (sub_P (sb_9_10__1c0 a1 a2 k1 k2 c' s2) hP1) (sub_D (sb_9_10__1c0 a1 a2 k1 k2 c' s2) hD1) 10 0 rfl rfl rfl) rfl rfl hl.1 rfl (lv_room (Nat.le_of_ble_eq_true rfl)) dL_law_623 ⟨Nat.le_of_ble_eq_true rfl, Nat.le_of_ble_eq_true rfl⟩) hS1 (fun q _ h => (sub_F (sb_9_10__1c0 a1 a2 k1 k2 c' s2) hD1 hS1 hA) q h) (sub_F (sb_9_10__1c0 a1 a2 k1 k2 c' s2) hD1 hS1 hA) (fun r2 v2 t2 H2 locs2 ht2 hvm2 hw2 hB2 hz2 hk2 hS2 => ?_)
  obtain rfl : r = r2 := congrArg Prod.fst hw2
  obtain rfl : m' = v2 := congrArg Prod.snd hw2
  obtain ⟨hP2, hD2⟩ := jn_sub (sb_9_10__1c0 a1 a2 k1 k2 c' s2) (jo_9_10__1c0__0 a1 a2 k1 k2 c' s2 m') rfl hP1 hD1 hk2 ht2 hB2
  have hP2 : va_P (dC, dI) vwCl (zc_9 a1 k1 c' ++ zc_10 a2 k2 m') H2 := hP2
  have hD2 : va_D (fun q : Nat => s.heap.size ≤ q) (zc_9 a1 k1 c' ++ zc_10 a2 k2 m') := hD2
  clear hP1 hD1 hS1 hB2 hk2 hvm2 hz2 ht2
  refine lv_icmp_eq (tgt := 1383) hx hb dL_law_626 (by decide) (fun _ => ?_) (fun c => absurd rfl c)
  exact tail c' m' hRel2 H2 locs2 ls hP2 hD2 hS2 hl
set_option maxHeartbeats 4000000 in
set_option maxRecDepth 100000 in
theorem lc_even {p : Program} {l : Launch} {e : Env} {s : State} {m : MethodId} {below : List Frame} {meth : Method} {c : Code} {dC : Nat → ClassId} {dI : Nat → Nat → Nat} {b L : Nat} {xs : Nat → Int32} {fu : Nat} {Rel : ZT_9 → ZT_10 → Prop} (h_even : St_even fu Rel) (a1 a2 : Nat → Nat) (k1 k2 : Nat → ClassId) (hL : L ≤ 4608) (hx : p.tables.exec = Jvm.exec) (hb : c.code = code) (hml : c.maxLocals = 4) (hown : s.vm.findClass RL = some m.cls) (hts : ∀ w ∈ wsL_law, w.before #[Value.ref b] s = true) (hX : va_X b L xs s s.heap) (hbl : b < s.heap.size) (hN : va_Nw nestW s) (hK : va_K (dC, dI) vwCl (zt_9 k1 ++ zt_10 k2) s) {i : Nat} (h9 : i + 9 ≤ L) (tail : ∀ (s1 : ZT_9) (s2 : ZT_10), Rel s1 s2 → ∀ (H : Heap) (locs : List Loc) (ls : Array Slot), va_P (dC, dI) vwCl (zc_9 a1 k1 s1 ++ zc_10 a2 k2 s2) H → va_D (fun q : Nat => s.heap.size ≤ q) (zc_9 a1 k1 s1 ++ zc_10 a2 k2 s2) → va_S (fun q : Nat => s.heap.size ≤ q) s.heap H locs → lv_has ls 4 [(0, .ref b), (1, .ref (a1 0)), (2, .ref (a2 0)), (3, .int (nI i))] → W p l e room_1 s m #[Value.ref b] below meth c H locs 92 2785 (lw_Z below #[Value.ref b] s) (F0 m 1383 ls [])) (s1 : ZT_9) (s2 : ZT_10) (hRel : Rel s1 s2) (H : Heap) (locs : List Loc) (ls : Array Slot) (hP : va_P (dC, dI) vwCl (zc_9 a1 k1 s1 ++ zc_10 a2 k2 s2) H) (hD : va_D (fun q : Nat => s.heap.size ≤ q) (zc_9 a1 k1 s1 ++ zc_10 a2 k2 s2)) (hS : va_S (fun q : Nat => s.heap.size ≤ q) s.heap H locs) (hl : lv_has ls 4 [(0, .ref b), (1, .ref (a1 0)), (2, .ref (a2 0)), (3, .int (nI i))]) : W p l e room_1 s m #[Value.ref b] below meth c H locs 92 2785 (lw_Z below #[Value.ref b] s) (F0 m 631 ls []) := by
  have hA : ∀ q : Nat, s.heap.size ≤ q → (fun q : Nat => s.heap.size ≤ q) q := fun _ h => h
  have hbA : ¬ (fun q : Nat => s.heap.size ≤ q) b := Nat.not_le.mpr hbl
  have j1 : vp_in ((nI i) + (1 : Int32)) L := sc_in 1 (1 : Int32) rfl (by omega) hL
  have j2 : vp_in ((nI i) + (2 : Int32)) L := sc_in 2 (2 : Int32) rfl (by omega) hL
  have j3 : vp_in ((nI i) + (3 : Int32)) L := sc_in 3 (3 : Int32) rfl (by omega) hL
  have j4 : vp_in ((nI i) + (4 : Int32)) L := sc_in 4 (4 : Int32) rfl (by omega) hL
  have j5 : vp_in ((nI i) + (5 : Int32)) L := sc_in 5 (5 : Int32) rfl (by omega) hL
  have j6 : vp_in ((nI i) + (6 : Int32)) L := sc_in 6 (6 : Int32) rfl (by omega) hL
  have j7 : vp_in ((nI i) + (7 : Int32)) L := sc_in 7 (7 : Int32) rfl (by omega) hL
  have j8 : vp_in ((nI i) + (8 : Int32)) L := sc_in 8 (8 : Int32) rfl (by omega) hL
  refine lv_aload_n hx hb dL_law_631 rfl (lv_at hl 1 rfl) ?_
  refine lv_aload_n hx hb dL_law_632 rfl (lv_at hl 0 rfl) ?_
  refine lv_iload_n hx hb dL_law_633 rfl (lv_at hl 3 rfl) ?_
  refine lv_iconst (v := (1 : Int32)) hx hb dL_law_634 (by decide) ?_
  refine lv_iadd hx hb dL_law_635 ?_
  refine va_sld hx hb hX hbl hbA hS j1 dL_law_636 ?_
  refine lv_aload_n hx hb dL_law_637 rfl (lv_at hl 0 rfl) ?_
  refine lv_iload_n hx hb dL_law_638 rfl (lv_at hl 3 rfl) ?_
  refine lv_iconst (v := (2 : Int32)) hx hb dL_law_639 (by decide) ?_
  refine lv_iadd hx hb dL_law_640 ?_
  refine va_sld hx hb hX hbl hbA hS j2 dL_law_641 ?_
  obtain ⟨r, c', m', e1, e2, hRel2⟩ := h_even (xs ((nI i) + (1 : Int32)).toNatClampNeg) (xs ((nI i) + (2 : Int32)).toNatClampNeg) s1 s2 hRel
  refine va_calli (va_runV (As := [.int (xs ((nI i) + (1 : Int32)).toNatClampNeg), .int (xs ((nI i) + (2 : Int32)).toNatClampNeg)]) (rest := []) ⟨hx, hb, hml, hown, hts⟩ (cc_X9_even l dC dI fu a1 k1 H.size (xs ((nI i) + (1 : Int32)).toNatClampNeg) (xs ((nI i) + (2 : Int32)).toNatClampNeg) s1 (r, c') e1) (cwV 2 hts gL_law_X9_even rfl rfl rfl (by decide +kernel) ⟨Nat.le_of_ble_eq_true rfl, Nat.le_of_ble_eq_true rfl⟩) (pf_v (hK.sub (tys' := zt_9 k1) [0, 1, 2, 3, 4, 5, 6, 7, 8, 9, 10, 11, 12, 13, 14, 15, 16, 17, 18, 19, 20, 21, 22, 23, 24, 25, 26, 27, 28, 29, 30, 31, 32, 33, 34, 35, 36, 37, 38, 39, 40, 41, 42, 43, 44, 45, 46, 47, 48, 49, 50] rfl) (sub_P (sb_9_10__0c0 a1 a2 k1 k2 s1 s2) hP) (sub_D (sb_9_10__0c0 a1 a2 k1 k2 s1 s2) hD) 9 0 rfl rfl rfl) rfl rfl hl.1 rfl (lv_room (Nat.le_of_ble_eq_true rfl)) dL_law_642 ⟨Nat.le_of_ble_eq_true rfl, Nat.le_of_ble_eq_true rfl⟩) hS (fun q _ h => (sub_F (sb_9_10__0c0 a1 a2 k1 k2 s1 s2) hD hS hA) q h) (sub_F (sb_9_10__0c0 a1 a2 k1 k2 s1 s2) hD hS hA) (fun r1 v1 t1 H1 locs1 ht1 hvm1 hw1 hB1 hz1 hk1 hS1 => ?_)
  obtain rfl : r = r1 := congrArg Prod.fst hw1
  obtain rfl : c' = v1 := congrArg Prod.snd hw1
  obtain ⟨hP1, hD1⟩ := jn_sub (sb_9_10__0c0 a1 a2 k1 k2 s1 s2) (jo_9_10__0c0__0 a1 a2 k1 k2 s1 s2 c') rfl hP hD hk1 ht1 hB1
  have hP1 : va_P (dC, dI) vwCl (zc_9 a1 k1 c' ++ zc_10 a2 k2 s2) H1 := hP1
  have hD1 : va_D (fun q : Nat => s.heap.size ≤ q) (zc_9 a1 k1 c' ++ zc_10 a2 k2 s2) := hD1
  clear hP hD hS hB1 hk1 hvm1 hz1 ht1
  refine lv_aload_n hx hb dL_law_645 rfl (lv_at hl 2 rfl) ?_
  refine lv_aload_n hx hb dL_law_646 rfl (lv_at hl 0 rfl) ?_
  refine lv_iload_n hx hb dL_law_647 rfl (lv_at hl 3 rfl) ?_
  refine lv_iconst (v := (1 : Int32)) hx hb dL_law_648 (by decide) ?_
  refine lv_iadd hx hb dL_law_649 ?_
  refine va_sld hx hb hX hbl hbA hS1 j1 dL_law_650 ?_
  refine lv_aload_n hx hb dL_law_651 rfl (lv_at hl 0 rfl) ?_
  refine lv_iload_n hx hb dL_law_652 rfl (lv_at hl 3 rfl) ?_
  refine lv_iconst (v := (2 : Int32)) hx hb dL_law_653 (by decide) ?_
  refine lv_iadd hx hb dL_law_654 ?_
  refine va_sld hx hb hX hbl hbA hS1 j2 dL_law_655 ?_
  refine va_calli (va_runV (As := [.int (xs ((nI i) + (1 : Int32)).toNatClampNeg), .int (xs ((nI i) + (2 : Int32)).toNatClampNeg)]) (rest := [.int r]) ⟨hx, hb, hml, hown, hts⟩ (cc_X10_even l dC dI fu a2 k2 H1.size (xs ((nI i) + (1 : Int32)).toNatClampNeg) (xs ((nI i) + (2 : Int32)).toNatClampNeg) s2 (r, m') e2) (cwV 2 hts gL_law_X10_even rfl rfl rfl (by decide +kernel) ⟨Nat.le_of_ble_eq_true rfl, Nat.le_of_ble_eq_true rfl⟩) (pf_v (hK.sub (tys' := zt_10 k2) [51, 52, 53, 54, 55, 56, 57, 58, 59, 60, 61, 62, 63, 64, 65, 66, 67, 68, 69, 70, 71] rfl) (sub_P (sb_9_10__1c0 a1 a2 k1 k2 c' s2) hP1) (sub_D (sb_9_10__1c0 a1 a2 k1 k2 c' s2) hD1) 10 0 rfl rfl rfl) rfl rfl hl.1 rfl (lv_room (Nat.le_of_ble_eq_true rfl)) dL_law_656 ⟨Nat.le_of_ble_eq_true rfl, Nat.le_of_ble_eq_true rfl⟩) hS1 (fun q _ h => (sub_F (sb_9_10__1c0 a1 a2 k1 k2 c' s2) hD1 hS1 hA) q h) (sub_F (sb_9_10__1c0 a1 a2 k1 k2 c' s2) hD1 hS1 hA) (fun r2 v2 t2 H2 locs2 ht2 hvm2 hw2 hB2 hz2 hk2 hS2 => ?_)
  obtain rfl : r = r2 := congrArg Prod.fst hw2
  obtain rfl : m' = v2 := congrArg Prod.snd hw2
  obtain ⟨hP2, hD2⟩ := jn_sub (sb_9_10__1c0 a1 a2 k1 k2 c' s2) (jo_9_10__1c0__0 a1 a2 k1 k2 c' s2 m') rfl hP1 hD1 hk2 ht2 hB2
  have hP2 : va_P (dC, dI) vwCl (zc_9 a1 k1 c' ++ zc_10 a2 k2 m') H2 := hP2
  have hD2 : va_D (fun q : Nat => s.heap.size ≤ q) (zc_9 a1 k1 c' ++ zc_10 a2 k2 m') := hD2
  clear hP1 hD1 hS1 hB2 hk2 hvm2 hz2 ht2
  refine lv_icmp_eq (tgt := 1383) hx hb dL_law_659 (by decide) (fun _ => ?_) (fun c => absurd rfl c)
  exact tail c' m' hRel2 H2 locs2 ls hP2 hD2 hS2 hl
set_option maxHeartbeats 4000000 in
set_option maxRecDepth 100000 in
theorem lc_least {p : Program} {l : Launch} {e : Env} {s : State} {m : MethodId} {below : List Frame} {meth : Method} {c : Code} {dC : Nat → ClassId} {dI : Nat → Nat → Nat} {b L : Nat} {xs : Nat → Int32} {fu : Nat} {Rel : ZT_9 → ZT_10 → Prop} (h_least : St_least fu Rel) (a1 a2 : Nat → Nat) (k1 k2 : Nat → ClassId) (hL : L ≤ 4608) (hx : p.tables.exec = Jvm.exec) (hb : c.code = code) (hml : c.maxLocals = 4) (hown : s.vm.findClass RL = some m.cls) (hts : ∀ w ∈ wsL_law, w.before #[Value.ref b] s = true) (hX : va_X b L xs s s.heap) (hbl : b < s.heap.size) (hN : va_Nw nestW s) (hK : va_K (dC, dI) vwCl (zt_9 k1 ++ zt_10 k2) s) {i : Nat} (h9 : i + 9 ≤ L) (tail : ∀ (s1 : ZT_9) (s2 : ZT_10), Rel s1 s2 → ∀ (H : Heap) (locs : List Loc) (ls : Array Slot), va_P (dC, dI) vwCl (zc_9 a1 k1 s1 ++ zc_10 a2 k2 s2) H → va_D (fun q : Nat => s.heap.size ≤ q) (zc_9 a1 k1 s1 ++ zc_10 a2 k2 s2) → va_S (fun q : Nat => s.heap.size ≤ q) s.heap H locs → lv_has ls 4 [(0, .ref b), (1, .ref (a1 0)), (2, .ref (a2 0)), (3, .int (nI i))] → W p l e room_1 s m #[Value.ref b] below meth c H locs 92 2785 (lw_Z below #[Value.ref b] s) (F0 m 1383 ls [])) (s1 : ZT_9) (s2 : ZT_10) (hRel : Rel s1 s2) (H : Heap) (locs : List Loc) (ls : Array Slot) (hP : va_P (dC, dI) vwCl (zc_9 a1 k1 s1 ++ zc_10 a2 k2 s2) H) (hD : va_D (fun q : Nat => s.heap.size ≤ q) (zc_9 a1 k1 s1 ++ zc_10 a2 k2 s2)) (hS : va_S (fun q : Nat => s.heap.size ≤ q) s.heap H locs) (hl : lv_has ls 4 [(0, .ref b), (1, .ref (a1 0)), (2, .ref (a2 0)), (3, .int (nI i))]) : W p l e room_1 s m #[Value.ref b] below meth c H locs 92 2785 (lw_Z below #[Value.ref b] s) (F0 m 664 ls []) := by
  have hA : ∀ q : Nat, s.heap.size ≤ q → (fun q : Nat => s.heap.size ≤ q) q := fun _ h => h
  have hbA : ¬ (fun q : Nat => s.heap.size ≤ q) b := Nat.not_le.mpr hbl
  have j1 : vp_in ((nI i) + (1 : Int32)) L := sc_in 1 (1 : Int32) rfl (by omega) hL
  have j2 : vp_in ((nI i) + (2 : Int32)) L := sc_in 2 (2 : Int32) rfl (by omega) hL
  have j3 : vp_in ((nI i) + (3 : Int32)) L := sc_in 3 (3 : Int32) rfl (by omega) hL
  have j4 : vp_in ((nI i) + (4 : Int32)) L := sc_in 4 (4 : Int32) rfl (by omega) hL
  have j5 : vp_in ((nI i) + (5 : Int32)) L := sc_in 5 (5 : Int32) rfl (by omega) hL
  have j6 : vp_in ((nI i) + (6 : Int32)) L := sc_in 6 (6 : Int32) rfl (by omega) hL
  have j7 : vp_in ((nI i) + (7 : Int32)) L := sc_in 7 (7 : Int32) rfl (by omega) hL
  have j8 : vp_in ((nI i) + (8 : Int32)) L := sc_in 8 (8 : Int32) rfl (by omega) hL
  refine lv_aload_n hx hb dL_law_664 rfl (lv_at hl 1 rfl) ?_
  refine lv_aload_n hx hb dL_law_665 rfl (lv_at hl 0 rfl) ?_
  refine lv_iload_n hx hb dL_law_666 rfl (lv_at hl 3 rfl) ?_
  refine lv_iconst (v := (1 : Int32)) hx hb dL_law_667 (by decide) ?_
  refine lv_iadd hx hb dL_law_668 ?_
  refine va_sld hx hb hX hbl hbA hS j1 dL_law_669 ?_
  refine lv_aload_n hx hb dL_law_670 rfl (lv_at hl 0 rfl) ?_
  refine lv_iload_n hx hb dL_law_671 rfl (lv_at hl 3 rfl) ?_
  refine lv_iconst (v := (2 : Int32)) hx hb dL_law_672 (by decide) ?_
  refine lv_iadd hx hb dL_law_673 ?_
  refine va_sld hx hb hX hbl hbA hS j2 dL_law_674 ?_
  refine lv_aload_n hx hb dL_law_675 rfl (lv_at hl 0 rfl) ?_
  refine lv_iload_n hx hb dL_law_676 rfl (lv_at hl 3 rfl) ?_
  refine lv_iconst (v := (3 : Int32)) hx hb dL_law_677 (by decide) ?_
  refine lv_iadd hx hb dL_law_678 ?_
  refine va_sld hx hb hX hbl hbA hS j3 dL_law_679 ?_
  refine lv_aload_n hx hb dL_law_680 rfl (lv_at hl 0 rfl) ?_
  refine lv_iload_n hx hb dL_law_681 rfl (lv_at hl 3 rfl) ?_
  refine lv_iconst (v := (4 : Int32)) hx hb dL_law_682 (by decide) ?_
  refine lv_iadd hx hb dL_law_683 ?_
  refine va_sld hx hb hX hbl hbA hS j4 dL_law_684 ?_
  obtain ⟨r, c', m', e1, e2, hRel2⟩ := h_least (xs ((nI i) + (1 : Int32)).toNatClampNeg) (xs ((nI i) + (2 : Int32)).toNatClampNeg) (xs ((nI i) + (3 : Int32)).toNatClampNeg) (xs ((nI i) + (4 : Int32)).toNatClampNeg) s1 s2 hRel
  refine va_calli (va_runV (As := [.int (xs ((nI i) + (1 : Int32)).toNatClampNeg), .int (xs ((nI i) + (2 : Int32)).toNatClampNeg), .int (xs ((nI i) + (3 : Int32)).toNatClampNeg), .int (xs ((nI i) + (4 : Int32)).toNatClampNeg)]) (rest := []) ⟨hx, hb, hml, hown, hts⟩ (cc_X9_least l dC dI fu a1 k1 H.size (xs ((nI i) + (1 : Int32)).toNatClampNeg) (xs ((nI i) + (2 : Int32)).toNatClampNeg) (xs ((nI i) + (3 : Int32)).toNatClampNeg) (xs ((nI i) + (4 : Int32)).toNatClampNeg) s1 (r, c') e1) (cwV 4 hts gL_law_X9_least rfl rfl rfl (by decide +kernel) ⟨Nat.le_of_ble_eq_true rfl, Nat.le_of_ble_eq_true rfl⟩) (pf_v (hK.sub (tys' := zt_9 k1) [0, 1, 2, 3, 4, 5, 6, 7, 8, 9, 10, 11, 12, 13, 14, 15, 16, 17, 18, 19, 20, 21, 22, 23, 24, 25, 26, 27, 28, 29, 30, 31, 32, 33, 34, 35, 36, 37, 38, 39, 40, 41, 42, 43, 44, 45, 46, 47, 48, 49, 50] rfl) (sub_P (sb_9_10__0c0 a1 a2 k1 k2 s1 s2) hP) (sub_D (sb_9_10__0c0 a1 a2 k1 k2 s1 s2) hD) 9 0 rfl rfl rfl) rfl rfl hl.1 rfl (lv_room (Nat.le_of_ble_eq_true rfl)) dL_law_685 ⟨Nat.le_of_ble_eq_true rfl, Nat.le_of_ble_eq_true rfl⟩) hS (fun q _ h => (sub_F (sb_9_10__0c0 a1 a2 k1 k2 s1 s2) hD hS hA) q h) (sub_F (sb_9_10__0c0 a1 a2 k1 k2 s1 s2) hD hS hA) (fun r1 v1 t1 H1 locs1 ht1 hvm1 hw1 hB1 hz1 hk1 hS1 => ?_)
  obtain rfl : r = r1 := congrArg Prod.fst hw1
  obtain rfl : c' = v1 := congrArg Prod.snd hw1
  obtain ⟨hP1, hD1⟩ := jn_sub (sb_9_10__0c0 a1 a2 k1 k2 s1 s2) (jo_9_10__0c0__0 a1 a2 k1 k2 s1 s2 c') rfl hP hD hk1 ht1 hB1
  have hP1 : va_P (dC, dI) vwCl (zc_9 a1 k1 c' ++ zc_10 a2 k2 s2) H1 := hP1
  have hD1 : va_D (fun q : Nat => s.heap.size ≤ q) (zc_9 a1 k1 c' ++ zc_10 a2 k2 s2) := hD1
  clear hP hD hS hB1 hk1 hvm1 hz1 ht1
  refine lv_aload_n hx hb dL_law_688 rfl (lv_at hl 2 rfl) ?_
  refine lv_aload_n hx hb dL_law_689 rfl (lv_at hl 0 rfl) ?_
  refine lv_iload_n hx hb dL_law_690 rfl (lv_at hl 3 rfl) ?_
  refine lv_iconst (v := (1 : Int32)) hx hb dL_law_691 (by decide) ?_
  refine lv_iadd hx hb dL_law_692 ?_
  refine va_sld hx hb hX hbl hbA hS1 j1 dL_law_693 ?_
  refine lv_aload_n hx hb dL_law_694 rfl (lv_at hl 0 rfl) ?_
  refine lv_iload_n hx hb dL_law_695 rfl (lv_at hl 3 rfl) ?_
  refine lv_iconst (v := (2 : Int32)) hx hb dL_law_696 (by decide) ?_
  refine lv_iadd hx hb dL_law_697 ?_
  refine va_sld hx hb hX hbl hbA hS1 j2 dL_law_698 ?_
  refine lv_aload_n hx hb dL_law_699 rfl (lv_at hl 0 rfl) ?_
  refine lv_iload_n hx hb dL_law_700 rfl (lv_at hl 3 rfl) ?_
  refine lv_iconst (v := (3 : Int32)) hx hb dL_law_701 (by decide) ?_
  refine lv_iadd hx hb dL_law_702 ?_
  refine va_sld hx hb hX hbl hbA hS1 j3 dL_law_703 ?_
  refine lv_aload_n hx hb dL_law_704 rfl (lv_at hl 0 rfl) ?_
  refine lv_iload_n hx hb dL_law_705 rfl (lv_at hl 3 rfl) ?_
  refine lv_iconst (v := (4 : Int32)) hx hb dL_law_706 (by decide) ?_
  refine lv_iadd hx hb dL_law_707 ?_
  refine va_sld hx hb hX hbl hbA hS1 j4 dL_law_708 ?_
  refine va_calli (va_runV (As := [.int (xs ((nI i) + (1 : Int32)).toNatClampNeg), .int (xs ((nI i) + (2 : Int32)).toNatClampNeg), .int (xs ((nI i) + (3 : Int32)).toNatClampNeg), .int (xs ((nI i) + (4 : Int32)).toNatClampNeg)]) (rest := [.int r]) ⟨hx, hb, hml, hown, hts⟩ (cc_X10_least l dC dI fu a2 k2 H1.size (xs ((nI i) + (1 : Int32)).toNatClampNeg) (xs ((nI i) + (2 : Int32)).toNatClampNeg) (xs ((nI i) + (3 : Int32)).toNatClampNeg) (xs ((nI i) + (4 : Int32)).toNatClampNeg) s2 (r, m') e2) (cwV 4 hts gL_law_X10_least rfl rfl rfl (by decide +kernel) ⟨Nat.le_of_ble_eq_true rfl, Nat.le_of_ble_eq_true rfl⟩) (pf_v (hK.sub (tys' := zt_10 k2) [51, 52, 53, 54, 55, 56, 57, 58, 59, 60, 61, 62, 63, 64, 65, 66, 67, 68, 69, 70, 71] rfl) (sub_P (sb_9_10__1c0 a1 a2 k1 k2 c' s2) hP1) (sub_D (sb_9_10__1c0 a1 a2 k1 k2 c' s2) hD1) 10 0 rfl rfl rfl) rfl rfl hl.1 rfl (lv_room (Nat.le_of_ble_eq_true rfl)) dL_law_709 ⟨Nat.le_of_ble_eq_true rfl, Nat.le_of_ble_eq_true rfl⟩) hS1 (fun q _ h => (sub_F (sb_9_10__1c0 a1 a2 k1 k2 c' s2) hD1 hS1 hA) q h) (sub_F (sb_9_10__1c0 a1 a2 k1 k2 c' s2) hD1 hS1 hA) (fun r2 v2 t2 H2 locs2 ht2 hvm2 hw2 hB2 hz2 hk2 hS2 => ?_)
  obtain rfl : r = r2 := congrArg Prod.fst hw2
  obtain rfl : m' = v2 := congrArg Prod.snd hw2
  obtain ⟨hP2, hD2⟩ := jn_sub (sb_9_10__1c0 a1 a2 k1 k2 c' s2) (jo_9_10__1c0__0 a1 a2 k1 k2 c' s2 m') rfl hP1 hD1 hk2 ht2 hB2
  have hP2 : va_P (dC, dI) vwCl (zc_9 a1 k1 c' ++ zc_10 a2 k2 m') H2 := hP2
  have hD2 : va_D (fun q : Nat => s.heap.size ≤ q) (zc_9 a1 k1 c' ++ zc_10 a2 k2 m') := hD2
  clear hP1 hD1 hS1 hB2 hk2 hvm2 hz2 ht2
  refine lv_icmp_eq (tgt := 1383) hx hb dL_law_712 (by decide) (fun _ => ?_) (fun c => absurd rfl c)
  exact tail c' m' hRel2 H2 locs2 ls hP2 hD2 hS2 hl
set_option maxHeartbeats 4000000 in
set_option maxRecDepth 100000 in
theorem lc_errand {p : Program} {l : Launch} {e : Env} {s : State} {m : MethodId} {below : List Frame} {meth : Method} {c : Code} {dC : Nat → ClassId} {dI : Nat → Nat → Nat} {b L : Nat} {xs : Nat → Int32} {fu : Nat} {Rel : ZT_9 → ZT_10 → Prop} (h_errand : St_errand fu Rel) (a1 a2 : Nat → Nat) (k1 k2 : Nat → ClassId) (hL : L ≤ 4608) (hx : p.tables.exec = Jvm.exec) (hb : c.code = code) (hml : c.maxLocals = 4) (hown : s.vm.findClass RL = some m.cls) (hts : ∀ w ∈ wsL_law, w.before #[Value.ref b] s = true) (hX : va_X b L xs s s.heap) (hbl : b < s.heap.size) (hN : va_Nw nestW s) (hK : va_K (dC, dI) vwCl (zt_9 k1 ++ zt_10 k2) s) {i : Nat} (h9 : i + 9 ≤ L) (tail : ∀ (s1 : ZT_9) (s2 : ZT_10), Rel s1 s2 → ∀ (H : Heap) (locs : List Loc) (ls : Array Slot), va_P (dC, dI) vwCl (zc_9 a1 k1 s1 ++ zc_10 a2 k2 s2) H → va_D (fun q : Nat => s.heap.size ≤ q) (zc_9 a1 k1 s1 ++ zc_10 a2 k2 s2) → va_S (fun q : Nat => s.heap.size ≤ q) s.heap H locs → lv_has ls 4 [(0, .ref b), (1, .ref (a1 0)), (2, .ref (a2 0)), (3, .int (nI i))] → W p l e room_1 s m #[Value.ref b] below meth c H locs 92 2785 (lw_Z below #[Value.ref b] s) (F0 m 1383 ls [])) (s1 : ZT_9) (s2 : ZT_10) (hRel : Rel s1 s2) (H : Heap) (locs : List Loc) (ls : Array Slot) (hP : va_P (dC, dI) vwCl (zc_9 a1 k1 s1 ++ zc_10 a2 k2 s2) H) (hD : va_D (fun q : Nat => s.heap.size ≤ q) (zc_9 a1 k1 s1 ++ zc_10 a2 k2 s2)) (hS : va_S (fun q : Nat => s.heap.size ≤ q) s.heap H locs) (hl : lv_has ls 4 [(0, .ref b), (1, .ref (a1 0)), (2, .ref (a2 0)), (3, .int (nI i))]) : W p l e room_1 s m #[Value.ref b] below meth c H locs 92 2785 (lw_Z below #[Value.ref b] s) (F0 m 717 ls []) := by
  have hA : ∀ q : Nat, s.heap.size ≤ q → (fun q : Nat => s.heap.size ≤ q) q := fun _ h => h
  have hbA : ¬ (fun q : Nat => s.heap.size ≤ q) b := Nat.not_le.mpr hbl
  have j1 : vp_in ((nI i) + (1 : Int32)) L := sc_in 1 (1 : Int32) rfl (by omega) hL
  have j2 : vp_in ((nI i) + (2 : Int32)) L := sc_in 2 (2 : Int32) rfl (by omega) hL
  have j3 : vp_in ((nI i) + (3 : Int32)) L := sc_in 3 (3 : Int32) rfl (by omega) hL
  have j4 : vp_in ((nI i) + (4 : Int32)) L := sc_in 4 (4 : Int32) rfl (by omega) hL
  have j5 : vp_in ((nI i) + (5 : Int32)) L := sc_in 5 (5 : Int32) rfl (by omega) hL
  have j6 : vp_in ((nI i) + (6 : Int32)) L := sc_in 6 (6 : Int32) rfl (by omega) hL
  have j7 : vp_in ((nI i) + (7 : Int32)) L := sc_in 7 (7 : Int32) rfl (by omega) hL
  have j8 : vp_in ((nI i) + (8 : Int32)) L := sc_in 8 (8 : Int32) rfl (by omega) hL
  refine lv_aload_n hx hb dL_law_717 rfl (lv_at hl 1 rfl) ?_
  refine lv_aload_n hx hb dL_law_718 rfl (lv_at hl 0 rfl) ?_
  refine lv_iload_n hx hb dL_law_719 rfl (lv_at hl 3 rfl) ?_
  refine lv_iconst (v := (1 : Int32)) hx hb dL_law_720 (by decide) ?_
  refine lv_iadd hx hb dL_law_721 ?_
  refine va_sld hx hb hX hbl hbA hS j1 dL_law_722 ?_
  refine lv_aload_n hx hb dL_law_723 rfl (lv_at hl 0 rfl) ?_
  refine lv_iload_n hx hb dL_law_724 rfl (lv_at hl 3 rfl) ?_
  refine lv_iconst (v := (2 : Int32)) hx hb dL_law_725 (by decide) ?_
  refine lv_iadd hx hb dL_law_726 ?_
  refine va_sld hx hb hX hbl hbA hS j2 dL_law_727 ?_
  obtain ⟨r, c', m', e1, e2, hRel2⟩ := h_errand (xs ((nI i) + (1 : Int32)).toNatClampNeg) (xs ((nI i) + (2 : Int32)).toNatClampNeg) s1 s2 hRel
  refine va_calli (va_runV (As := [.int (xs ((nI i) + (1 : Int32)).toNatClampNeg), .int (xs ((nI i) + (2 : Int32)).toNatClampNeg)]) (rest := []) ⟨hx, hb, hml, hown, hts⟩ (cc_X9_errand l dC dI fu a1 k1 H.size (xs ((nI i) + (1 : Int32)).toNatClampNeg) (xs ((nI i) + (2 : Int32)).toNatClampNeg) s1 (r, c') e1) (cwV 2 hts gL_law_X9_errand rfl rfl rfl (by decide +kernel) ⟨Nat.le_of_ble_eq_true rfl, Nat.le_of_ble_eq_true rfl⟩) (pf_v (hK.sub (tys' := zt_9 k1) [0, 1, 2, 3, 4, 5, 6, 7, 8, 9, 10, 11, 12, 13, 14, 15, 16, 17, 18, 19, 20, 21, 22, 23, 24, 25, 26, 27, 28, 29, 30, 31, 32, 33, 34, 35, 36, 37, 38, 39, 40, 41, 42, 43, 44, 45, 46, 47, 48, 49, 50] rfl) (sub_P (sb_9_10__0c0 a1 a2 k1 k2 s1 s2) hP) (sub_D (sb_9_10__0c0 a1 a2 k1 k2 s1 s2) hD) 9 0 rfl rfl rfl) rfl rfl hl.1 rfl (lv_room (Nat.le_of_ble_eq_true rfl)) dL_law_728 ⟨Nat.le_of_ble_eq_true rfl, Nat.le_of_ble_eq_true rfl⟩) hS (fun q _ h => (sub_F (sb_9_10__0c0 a1 a2 k1 k2 s1 s2) hD hS hA) q h) (sub_F (sb_9_10__0c0 a1 a2 k1 k2 s1 s2) hD hS hA) (fun r1 v1 t1 H1 locs1 ht1 hvm1 hw1 hB1 hz1 hk1 hS1 => ?_)
  obtain rfl : r = r1 := congrArg Prod.fst hw1
  obtain rfl : c' = v1 := congrArg Prod.snd hw1
  obtain ⟨hP1, hD1⟩ := jn_sub (sb_9_10__0c0 a1 a2 k1 k2 s1 s2) (jo_9_10__0c0__0 a1 a2 k1 k2 s1 s2 c') rfl hP hD hk1 ht1 hB1
  have hP1 : va_P (dC, dI) vwCl (zc_9 a1 k1 c' ++ zc_10 a2 k2 s2) H1 := hP1
  have hD1 : va_D (fun q : Nat => s.heap.size ≤ q) (zc_9 a1 k1 c' ++ zc_10 a2 k2 s2) := hD1
  clear hP hD hS hB1 hk1 hvm1 hz1 ht1
  refine lv_aload_n hx hb dL_law_731 rfl (lv_at hl 2 rfl) ?_
  refine lv_aload_n hx hb dL_law_732 rfl (lv_at hl 0 rfl) ?_
  refine lv_iload_n hx hb dL_law_733 rfl (lv_at hl 3 rfl) ?_
  refine lv_iconst (v := (1 : Int32)) hx hb dL_law_734 (by decide) ?_
  refine lv_iadd hx hb dL_law_735 ?_
  refine va_sld hx hb hX hbl hbA hS1 j1 dL_law_736 ?_
  refine lv_aload_n hx hb dL_law_737 rfl (lv_at hl 0 rfl) ?_
  refine lv_iload_n hx hb dL_law_738 rfl (lv_at hl 3 rfl) ?_
  refine lv_iconst (v := (2 : Int32)) hx hb dL_law_739 (by decide) ?_
  refine lv_iadd hx hb dL_law_740 ?_
  refine va_sld hx hb hX hbl hbA hS1 j2 dL_law_741 ?_
  refine va_calli (va_runV (As := [.int (xs ((nI i) + (1 : Int32)).toNatClampNeg), .int (xs ((nI i) + (2 : Int32)).toNatClampNeg)]) (rest := [.int r]) ⟨hx, hb, hml, hown, hts⟩ (cc_X10_errand l dC dI fu a2 k2 H1.size (xs ((nI i) + (1 : Int32)).toNatClampNeg) (xs ((nI i) + (2 : Int32)).toNatClampNeg) s2 (r, m') e2) (cwV 2 hts gL_law_X10_errand rfl rfl rfl (by decide +kernel) ⟨Nat.le_of_ble_eq_true rfl, Nat.le_of_ble_eq_true rfl⟩) (pf_v (hK.sub (tys' := zt_10 k2) [51, 52, 53, 54, 55, 56, 57, 58, 59, 60, 61, 62, 63, 64, 65, 66, 67, 68, 69, 70, 71] rfl) (sub_P (sb_9_10__1c0 a1 a2 k1 k2 c' s2) hP1) (sub_D (sb_9_10__1c0 a1 a2 k1 k2 c' s2) hD1) 10 0 rfl rfl rfl) rfl rfl hl.1 rfl (lv_room (Nat.le_of_ble_eq_true rfl)) dL_law_742 ⟨Nat.le_of_ble_eq_true rfl, Nat.le_of_ble_eq_true rfl⟩) hS1 (fun q _ h => (sub_F (sb_9_10__1c0 a1 a2 k1 k2 c' s2) hD1 hS1 hA) q h) (sub_F (sb_9_10__1c0 a1 a2 k1 k2 c' s2) hD1 hS1 hA) (fun r2 v2 t2 H2 locs2 ht2 hvm2 hw2 hB2 hz2 hk2 hS2 => ?_)
  obtain rfl : r = r2 := congrArg Prod.fst hw2
  obtain rfl : m' = v2 := congrArg Prod.snd hw2
  obtain ⟨hP2, hD2⟩ := jn_sub (sb_9_10__1c0 a1 a2 k1 k2 c' s2) (jo_9_10__1c0__0 a1 a2 k1 k2 c' s2 m') rfl hP1 hD1 hk2 ht2 hB2
  have hP2 : va_P (dC, dI) vwCl (zc_9 a1 k1 c' ++ zc_10 a2 k2 m') H2 := hP2
  have hD2 : va_D (fun q : Nat => s.heap.size ≤ q) (zc_9 a1 k1 c' ++ zc_10 a2 k2 m') := hD2
  clear hP1 hD1 hS1 hB2 hk2 hvm2 hz2 ht2
  refine lv_icmp_eq (tgt := 1383) hx hb dL_law_745 (by decide) (fun _ => ?_) (fun c => absurd rfl c)
  exact tail c' m' hRel2 H2 locs2 ls hP2 hD2 hS2 hl
