set_option maxHeartbeats 4000000 in
set_option maxRecDepth 100000 in
theorem lc_image {p : Program} {l : Launch} {e : Env} {s : State} {m : MethodId} {below : List Frame} {meth : Method} {c : Code} {dC : Nat → ClassId} {dI : Nat → Nat → Nat} {b L : Nat} {xs : Nat → Int32} {fu : Nat} {Rel : ZT_9 → ZT_10 → Prop} (h_image : St_image fu Rel) (a1 a2 : Nat → Nat) (k1 k2 : Nat → ClassId) (hL : L ≤ 4608) (hx : p.tables.exec = Jvm.exec) (hb : c.code = code) (hml : c.maxLocals = 4) (hown : s.vm.findClass RL = some m.cls) (hts : ∀ w ∈ wsL_law, w.before #[Value.ref b] s = true) (hX : va_X b L xs s s.heap) (hbl : b < s.heap.size) (hN : va_Nw nestW s) (hK : va_K (dC, dI) vwCl (zt_9 k1 ++ zt_10 k2) s) {i : Nat} (h9 : i + 9 ≤ L) (tail : ∀ (s1 : ZT_9) (s2 : ZT_10), Rel s1 s2 → ∀ (H : Heap) (locs : List Loc) (ls : Array Slot), va_P (dC, dI) vwCl (zc_9 a1 k1 s1 ++ zc_10 a2 k2 s2) H → va_D (fun q : Nat => s.heap.size ≤ q) (zc_9 a1 k1 s1 ++ zc_10 a2 k2 s2) → va_S (fun q : Nat => s.heap.size ≤ q) s.heap H locs → lv_has ls 4 [(0, .ref b), (1, .ref (a1 0)), (2, .ref (a2 0)), (3, .int (nI i))] → W p l e room_1 s m #[Value.ref b] below meth c H locs 92 2785 (lw_Z below #[Value.ref b] s) (F0 m 1383 ls [])) (s1 : ZT_9) (s2 : ZT_10) (hRel : Rel s1 s2) (H : Heap) (locs : List Loc) (ls : Array Slot) (hP : va_P (dC, dI) vwCl (zc_9 a1 k1 s1 ++ zc_10 a2 k2 s2) H) (hD : va_D (fun q : Nat => s.heap.size ≤ q) (zc_9 a1 k1 s1 ++ zc_10 a2 k2 s2)) (hS : va_S (fun q : Nat => s.heap.size ≤ q) s.heap H locs) (hl : lv_has ls 4 [(0, .ref b), (1, .ref (a1 0)), (2, .ref (a2 0)), (3, .int (nI i))]) : W p l e room_1 s m #[Value.ref b] below meth c H locs 92 2785 (lw_Z below #[Value.ref b] s) (F0 m 1056 ls []) := by
  have hA : ∀ q : Nat, s.heap.size ≤ q → (fun q : Nat => s.heap.size ≤ q) q := fun _ h => h
  have hbA : ¬ (fun q : Nat => s.heap.size ≤ q) b := Nat.not_le.mpr hbl
  have j1 : vp_in ((nI i) + (1 : Int32)) L := sc_in 1 (1 : Int32) rfl (by omega) hL
  have j2 : vp_in ((nI i) + (2 : Int32)) L := sc_in 2 (2 : Int32) rfl (by omega) hL
  have j3 : vp_in ((nI i) + (3 : Int32)) L := sc_in 3 (3 : Int32) rfl (by omega) hL
  have j4 : vp_in ((nI i) + (4 : Int32)) L := sc_in 4 (4 : Int32) rfl (by omega) hL
  have j5 : vp_in ((nI i) + (5 : Int32)) L := sc_in 5 (5 : Int32) rfl (by omega) hL
  have j6 : vp_in ((nI i) + (6 : Int32)) L := sc_in 6 (6 : Int32) rfl (by omega) hL
  have j7 : vp_in ((nI i) + (7 : Int32)) L := sc_in 7 (7 : Int32) rfl (by omega) hL
  have j8 : vp_in ((nI i) + (8 : Int32)) L := sc_in 8 (8 : Int32) rfl (by omega) hL
  refine lv_aload_n hx hb dL_law_1056 rfl (lv_at hl 1 rfl) ?_
  obtain ⟨r, c', m', e1, e2, hRel2⟩ := h_image s1 s2 hRel
  refine va_calli (va_runV (As := []) (rest := []) ⟨hx, hb, hml, hown, hts⟩ (cc_X9_image l dC dI fu a1 k1 H.size s1 (r, c') e1) (cwV 0 hts gL_law_X9_image rfl rfl rfl (by decide +kernel) ⟨Nat.le_of_ble_eq_true rfl, Nat.le_of_ble_eq_true rfl⟩) (pf_v (hK.sub (tys' := zt_9 k1) [0, 1, 2, 3, 4, 5, 6, 7, 8, 9, 10, 11, 12, 13, 14, 15, 16, 17, 18, 19, 20, 21, 22, 23, 24, 25, 26, 27, 28, 29, 30, 31, 32, 33, 34, 35, 36, 37, 38, 39, 40, 41, 42, 43, 44, 45, 46, 47, 48, 49, 50] rfl) (sub_P (sb_9_10__0c0 a1 a2 k1 k2 s1 s2) hP) (sub_D (sb_9_10__0c0 a1 a2 k1 k2 s1 s2) hD) 9 0 rfl rfl rfl) rfl rfl hl.1 rfl (lv_room (Nat.le_of_ble_eq_true rfl)) dL_law_1057 ⟨Nat.le_of_ble_eq_true rfl, Nat.le_of_ble_eq_true rfl⟩) hS (fun q _ h => (sub_F (sb_9_10__0c0 a1 a2 k1 k2 s1 s2) hD hS hA) q h) (sub_F (sb_9_10__0c0 a1 a2 k1 k2 s1 s2) hD hS hA) (fun r1 v1 t1 H1 locs1 ht1 hvm1 hw1 hB1 hz1 hk1 hS1 => ?_)
  obtain rfl : r = r1 := congrArg Prod.fst hw1
  obtain rfl : c' = v1 := congrArg Prod.snd hw1
  obtain ⟨hP1, hD1⟩ := jn_sub (sb_9_10__0c0 a1 a2 k1 k2 s1 s2) (jo_9_10__0c0__0 a1 a2 k1 k2 s1 s2 c') rfl hP hD hk1 ht1 hB1
  have hP1 : va_P (dC, dI) vwCl (zc_9 a1 k1 c' ++ zc_10 a2 k2 s2) H1 := hP1
  have hD1 : va_D (fun q : Nat => s.heap.size ≤ q) (zc_9 a1 k1 c' ++ zc_10 a2 k2 s2) := hD1
  clear hP hD hS hB1 hk1 hvm1 hz1 ht1
  refine lv_aload_n hx hb dL_law_1060 rfl (lv_at hl 2 rfl) ?_
  refine va_calli (va_runV (As := []) (rest := [.int r]) ⟨hx, hb, hml, hown, hts⟩ (cc_X10_image l dC dI fu a2 k2 H1.size s2 (r, m') e2) (cwV 0 hts gL_law_X10_image rfl rfl rfl (by decide +kernel) ⟨Nat.le_of_ble_eq_true rfl, Nat.le_of_ble_eq_true rfl⟩) (pf_v (hK.sub (tys' := zt_10 k2) [51, 52, 53, 54, 55, 56, 57, 58, 59, 60, 61, 62, 63, 64, 65, 66, 67, 68, 69, 70, 71] rfl) (sub_P (sb_9_10__1c0 a1 a2 k1 k2 c' s2) hP1) (sub_D (sb_9_10__1c0 a1 a2 k1 k2 c' s2) hD1) 10 0 rfl rfl rfl) rfl rfl hl.1 rfl (lv_room (Nat.le_of_ble_eq_true rfl)) dL_law_1061 ⟨Nat.le_of_ble_eq_true rfl, Nat.le_of_ble_eq_true rfl⟩) hS1 (fun q _ h => (sub_F (sb_9_10__1c0 a1 a2 k1 k2 c' s2) hD1 hS1 hA) q h) (sub_F (sb_9_10__1c0 a1 a2 k1 k2 c' s2) hD1 hS1 hA) (fun r2 v2 t2 H2 locs2 ht2 hvm2 hw2 hB2 hz2 hk2 hS2 => ?_)
  obtain rfl : r = r2 := congrArg Prod.fst hw2
  obtain rfl : m' = v2 := congrArg Prod.snd hw2
  obtain ⟨hP2, hD2⟩ := jn_sub (sb_9_10__1c0 a1 a2 k1 k2 c' s2) (jo_9_10__1c0__0 a1 a2 k1 k2 c' s2 m') rfl hP1 hD1 hk2 ht2 hB2
  have hP2 : va_P (dC, dI) vwCl (zc_9 a1 k1 c' ++ zc_10 a2 k2 m') H2 := hP2
  have hD2 : va_D (fun q : Nat => s.heap.size ≤ q) (zc_9 a1 k1 c' ++ zc_10 a2 k2 m') := hD2
  clear hP1 hD1 hS1 hB2 hk2 hvm2 hz2 ht2
  refine lv_icmp_eq (tgt := 1383) hx hb dL_law_1064 (by decide) (fun _ => ?_) (fun c => absurd rfl c)
  exact tail c' m' hRel2 H2 locs2 ls hP2 hD2 hS2 hl
set_option maxHeartbeats 4000000 in
set_option maxRecDepth 100000 in
theorem lc_restore {p : Program} {l : Launch} {e : Env} {s : State} {m : MethodId} {below : List Frame} {meth : Method} {c : Code} {dC : Nat → ClassId} {dI : Nat → Nat → Nat} {b L : Nat} {xs : Nat → Int32} {fu : Nat} {Rel : ZT_9 → ZT_10 → Prop} (h_restore : St_restore fu Rel) (a1 a2 : Nat → Nat) (k1 k2 : Nat → ClassId) (hL : L ≤ 4608) (hx : p.tables.exec = Jvm.exec) (hb : c.code = code) (hml : c.maxLocals = 4) (hown : s.vm.findClass RL = some m.cls) (hts : ∀ w ∈ wsL_law, w.before #[Value.ref b] s = true) (hX : va_X b L xs s s.heap) (hbl : b < s.heap.size) (hN : va_Nw nestW s) (hK : va_K (dC, dI) vwCl (zt_9 k1 ++ zt_10 k2) s) {i : Nat} (h9 : i + 9 ≤ L) (tail : ∀ (s1 : ZT_9) (s2 : ZT_10), Rel s1 s2 → ∀ (H : Heap) (locs : List Loc) (ls : Array Slot), va_P (dC, dI) vwCl (zc_9 a1 k1 s1 ++ zc_10 a2 k2 s2) H → va_D (fun q : Nat => s.heap.size ≤ q) (zc_9 a1 k1 s1 ++ zc_10 a2 k2 s2) → va_S (fun q : Nat => s.heap.size ≤ q) s.heap H locs → lv_has ls 4 [(0, .ref b), (1, .ref (a1 0)), (2, .ref (a2 0)), (3, .int (nI i))] → W p l e room_1 s m #[Value.ref b] below meth c H locs 92 2785 (lw_Z below #[Value.ref b] s) (F0 m 1383 ls [])) (s1 : ZT_9) (s2 : ZT_10) (hRel : Rel s1 s2) (H : Heap) (locs : List Loc) (ls : Array Slot) (hP : va_P (dC, dI) vwCl (zc_9 a1 k1 s1 ++ zc_10 a2 k2 s2) H) (hD : va_D (fun q : Nat => s.heap.size ≤ q) (zc_9 a1 k1 s1 ++ zc_10 a2 k2 s2)) (hS : va_S (fun q : Nat => s.heap.size ≤ q) s.heap H locs) (hl : lv_has ls 4 [(0, .ref b), (1, .ref (a1 0)), (2, .ref (a2 0)), (3, .int (nI i))]) : W p l e room_1 s m #[Value.ref b] below meth c H locs 92 2785 (lw_Z below #[Value.ref b] s) (F0 m 1069 ls []) := by
  have hA : ∀ q : Nat, s.heap.size ≤ q → (fun q : Nat => s.heap.size ≤ q) q := fun _ h => h
  have hbA : ¬ (fun q : Nat => s.heap.size ≤ q) b := Nat.not_le.mpr hbl
  have j1 : vp_in ((nI i) + (1 : Int32)) L := sc_in 1 (1 : Int32) rfl (by omega) hL
  have j2 : vp_in ((nI i) + (2 : Int32)) L := sc_in 2 (2 : Int32) rfl (by omega) hL
  have j3 : vp_in ((nI i) + (3 : Int32)) L := sc_in 3 (3 : Int32) rfl (by omega) hL
  have j4 : vp_in ((nI i) + (4 : Int32)) L := sc_in 4 (4 : Int32) rfl (by omega) hL
  have j5 : vp_in ((nI i) + (5 : Int32)) L := sc_in 5 (5 : Int32) rfl (by omega) hL
  have j6 : vp_in ((nI i) + (6 : Int32)) L := sc_in 6 (6 : Int32) rfl (by omega) hL
  have j7 : vp_in ((nI i) + (7 : Int32)) L := sc_in 7 (7 : Int32) rfl (by omega) hL
  have j8 : vp_in ((nI i) + (8 : Int32)) L := sc_in 8 (8 : Int32) rfl (by omega) hL
  refine lv_aload_n hx hb dL_law_1069 rfl (lv_at hl 1 rfl) ?_
  obtain ⟨r, c', m', e1, e2, hRel2⟩ := h_restore s1 s2 hRel
  refine va_calli (va_runV (As := []) (rest := []) ⟨hx, hb, hml, hown, hts⟩ (cc_X9_restore l dC dI fu a1 k1 H.size s1 (r, c') e1) (cwV 0 hts gL_law_X9_restore rfl rfl rfl (by decide +kernel) ⟨Nat.le_of_ble_eq_true rfl, Nat.le_of_ble_eq_true rfl⟩) (pf_v (hK.sub (tys' := zt_9 k1) [0, 1, 2, 3, 4, 5, 6, 7, 8, 9, 10, 11, 12, 13, 14, 15, 16, 17, 18, 19, 20, 21, 22, 23, 24, 25, 26, 27, 28, 29, 30, 31, 32, 33, 34, 35, 36, 37, 38, 39, 40, 41, 42, 43, 44, 45, 46, 47, 48, 49, 50] rfl) (sub_P (sb_9_10__0c0 a1 a2 k1 k2 s1 s2) hP) (sub_D (sb_9_10__0c0 a1 a2 k1 k2 s1 s2) hD) 9 0 rfl rfl rfl) rfl rfl hl.1 rfl (lv_room (Nat.le_of_ble_eq_true rfl)) dL_law_1070 ⟨Nat.le_of_ble_eq_true rfl, Nat.le_of_ble_eq_true rfl⟩) hS (fun q _ h => (sub_F (sb_9_10__0c0 a1 a2 k1 k2 s1 s2) hD hS hA) q h) (sub_F (sb_9_10__0c0 a1 a2 k1 k2 s1 s2) hD hS hA) (fun r1 v1 t1 H1 locs1 ht1 hvm1 hw1 hB1 hz1 hk1 hS1 => ?_)
  obtain rfl : r = r1 := congrArg Prod.fst hw1
  obtain rfl : c' = v1 := congrArg Prod.snd hw1
  obtain ⟨hP1, hD1⟩ := jn_sub (sb_9_10__0c0 a1 a2 k1 k2 s1 s2) (jo_9_10__0c0__0 a1 a2 k1 k2 s1 s2 c') rfl hP hD hk1 ht1 hB1
  have hP1 : va_P (dC, dI) vwCl (zc_9 a1 k1 c' ++ zc_10 a2 k2 s2) H1 := hP1
  have hD1 : va_D (fun q : Nat => s.heap.size ≤ q) (zc_9 a1 k1 c' ++ zc_10 a2 k2 s2) := hD1
  clear hP hD hS hB1 hk1 hvm1 hz1 ht1
  refine lv_aload_n hx hb dL_law_1073 rfl (lv_at hl 2 rfl) ?_
  refine va_calli (va_runV (As := []) (rest := [.int r]) ⟨hx, hb, hml, hown, hts⟩ (cc_X10_restore l dC dI fu a2 k2 H1.size s2 (r, m') e2) (cwV 0 hts gL_law_X10_restore rfl rfl rfl (by decide +kernel) ⟨Nat.le_of_ble_eq_true rfl, Nat.le_of_ble_eq_true rfl⟩) (pf_v (hK.sub (tys' := zt_10 k2) [51, 52, 53, 54, 55, 56, 57, 58, 59, 60, 61, 62, 63, 64, 65, 66, 67, 68, 69, 70, 71] rfl) (sub_P (sb_9_10__1c0 a1 a2 k1 k2 c' s2) hP1) (sub_D (sb_9_10__1c0 a1 a2 k1 k2 c' s2) hD1) 10 0 rfl rfl rfl) rfl rfl hl.1 rfl (lv_room (Nat.le_of_ble_eq_true rfl)) dL_law_1074 ⟨Nat.le_of_ble_eq_true rfl, Nat.le_of_ble_eq_true rfl⟩) hS1 (fun q _ h => (sub_F (sb_9_10__1c0 a1 a2 k1 k2 c' s2) hD1 hS1 hA) q h) (sub_F (sb_9_10__1c0 a1 a2 k1 k2 c' s2) hD1 hS1 hA) (fun r2 v2 t2 H2 locs2 ht2 hvm2 hw2 hB2 hz2 hk2 hS2 => ?_)
  obtain rfl : r = r2 := congrArg Prod.fst hw2
  obtain rfl : m' = v2 := congrArg Prod.snd hw2
  obtain ⟨hP2, hD2⟩ := jn_sub (sb_9_10__1c0 a1 a2 k1 k2 c' s2) (jo_9_10__1c0__0 a1 a2 k1 k2 c' s2 m') rfl hP1 hD1 hk2 ht2 hB2
  have hP2 : va_P (dC, dI) vwCl (zc_9 a1 k1 c' ++ zc_10 a2 k2 m') H2 := hP2
  have hD2 : va_D (fun q : Nat => s.heap.size ≤ q) (zc_9 a1 k1 c' ++ zc_10 a2 k2 m') := hD2
  clear hP1 hD1 hS1 hB2 hk2 hvm2 hz2 ht2
  refine lv_icmp_eq (tgt := 1383) hx hb dL_law_1077 (by decide) (fun _ => ?_) (fun c => absurd rfl c)
  exact tail c' m' hRel2 H2 locs2 ls hP2 hD2 hS2 hl
set_option maxHeartbeats 4000000 in
set_option maxRecDepth 100000 in
theorem lc_seen {p : Program} {l : Launch} {e : Env} {s : State} {m : MethodId} {below : List Frame} {meth : Method} {c : Code} {dC : Nat → ClassId} {dI : Nat → Nat → Nat} {b L : Nat} {xs : Nat → Int32} {fu : Nat} {Rel : ZT_9 → ZT_10 → Prop} (h_seen : St_seen fu Rel) (a1 a2 : Nat → Nat) (k1 k2 : Nat → ClassId) (hL : L ≤ 4608) (hx : p.tables.exec = Jvm.exec) (hb : c.code = code) (hml : c.maxLocals = 4) (hown : s.vm.findClass RL = some m.cls) (hts : ∀ w ∈ wsL_law, w.before #[Value.ref b] s = true) (hX : va_X b L xs s s.heap) (hbl : b < s.heap.size) (hN : va_Nw nestW s) (hK : va_K (dC, dI) vwCl (zt_9 k1 ++ zt_10 k2) s) {i : Nat} (h9 : i + 9 ≤ L) (tail : ∀ (s1 : ZT_9) (s2 : ZT_10), Rel s1 s2 → ∀ (H : Heap) (locs : List Loc) (ls : Array Slot), va_P (dC, dI) vwCl (zc_9 a1 k1 s1 ++ zc_10 a2 k2 s2) H → va_D (fun q : Nat => s.heap.size ≤ q) (zc_9 a1 k1 s1 ++ zc_10 a2 k2 s2) → va_S (fun q : Nat => s.heap.size ≤ q) s.heap H locs → lv_has ls 4 [(0, .ref b), (1, .ref (a1 0)), (2, .ref (a2 0)), (3, .int (nI i))] → W p l e room_1 s m #[Value.ref b] below meth c H locs 92 2785 (lw_Z below #[Value.ref b] s) (F0 m 1383 ls [])) (s1 : ZT_9) (s2 : ZT_10) (hRel : Rel s1 s2) (H : Heap) (locs : List Loc) (ls : Array Slot) (hP : va_P (dC, dI) vwCl (zc_9 a1 k1 s1 ++ zc_10 a2 k2 s2) H) (hD : va_D (fun q : Nat => s.heap.size ≤ q) (zc_9 a1 k1 s1 ++ zc_10 a2 k2 s2)) (hS : va_S (fun q : Nat => s.heap.size ≤ q) s.heap H locs) (hl : lv_has ls 4 [(0, .ref b), (1, .ref (a1 0)), (2, .ref (a2 0)), (3, .int (nI i))]) : W p l e room_1 s m #[Value.ref b] below meth c H locs 92 2785 (lw_Z below #[Value.ref b] s) (F0 m 1082 ls []) := by
  have hA : ∀ q : Nat, s.heap.size ≤ q → (fun q : Nat => s.heap.size ≤ q) q := fun _ h => h
  have hbA : ¬ (fun q : Nat => s.heap.size ≤ q) b := Nat.not_le.mpr hbl
  have j1 : vp_in ((nI i) + (1 : Int32)) L := sc_in 1 (1 : Int32) rfl (by omega) hL
  have j2 : vp_in ((nI i) + (2 : Int32)) L := sc_in 2 (2 : Int32) rfl (by omega) hL
  have j3 : vp_in ((nI i) + (3 : Int32)) L := sc_in 3 (3 : Int32) rfl (by omega) hL
  have j4 : vp_in ((nI i) + (4 : Int32)) L := sc_in 4 (4 : Int32) rfl (by omega) hL
  have j5 : vp_in ((nI i) + (5 : Int32)) L := sc_in 5 (5 : Int32) rfl (by omega) hL
  have j6 : vp_in ((nI i) + (6 : Int32)) L := sc_in 6 (6 : Int32) rfl (by omega) hL
  have j7 : vp_in ((nI i) + (7 : Int32)) L := sc_in 7 (7 : Int32) rfl (by omega) hL
  have j8 : vp_in ((nI i) + (8 : Int32)) L := sc_in 8 (8 : Int32) rfl (by omega) hL
  refine lv_aload_n hx hb dL_law_1082 rfl (lv_at hl 1 rfl) ?_
  refine lv_aload_n hx hb dL_law_1083 rfl (lv_at hl 0 rfl) ?_
  refine lv_iload_n hx hb dL_law_1084 rfl (lv_at hl 3 rfl) ?_
  refine lv_iconst (v := (1 : Int32)) hx hb dL_law_1085 (by decide) ?_
  refine lv_iadd hx hb dL_law_1086 ?_
  refine va_sld hx hb hX hbl hbA hS j1 dL_law_1087 ?_
  refine lv_aload_n hx hb dL_law_1088 rfl (lv_at hl 0 rfl) ?_
  refine lv_iload_n hx hb dL_law_1089 rfl (lv_at hl 3 rfl) ?_
  refine lv_iconst (v := (2 : Int32)) hx hb dL_law_1090 (by decide) ?_
  refine lv_iadd hx hb dL_law_1091 ?_
  refine va_sld hx hb hX hbl hbA hS j2 dL_law_1092 ?_
  refine lv_aload_n hx hb dL_law_1093 rfl (lv_at hl 0 rfl) ?_
  refine lv_iload_n hx hb dL_law_1094 rfl (lv_at hl 3 rfl) ?_
  refine lv_iconst (v := (3 : Int32)) hx hb dL_law_1095 (by decide) ?_
  refine lv_iadd hx hb dL_law_1096 ?_
  refine va_sld hx hb hX hbl hbA hS j3 dL_law_1097 ?_
  refine lv_aload_n hx hb dL_law_1098 rfl (lv_at hl 0 rfl) ?_
  refine lv_iload_n hx hb dL_law_1099 rfl (lv_at hl 3 rfl) ?_
  refine lv_iconst (v := (4 : Int32)) hx hb dL_law_1100 (by decide) ?_
  refine lv_iadd hx hb dL_law_1101 ?_
  refine va_sld hx hb hX hbl hbA hS j4 dL_law_1102 ?_
  refine lv_aload_n hx hb dL_law_1103 rfl (lv_at hl 0 rfl) ?_
  refine lv_iload_n hx hb dL_law_1104 rfl (lv_at hl 3 rfl) ?_
  refine lv_iconst (v := (5 : Int32)) hx hb dL_law_1105 (by decide) ?_
  refine lv_iadd hx hb dL_law_1106 ?_
  refine va_sld hx hb hX hbl hbA hS j5 dL_law_1107 ?_
  refine lv_aload_n hx hb dL_law_1108 rfl (lv_at hl 0 rfl) ?_
  refine lv_iload_n hx hb dL_law_1109 rfl (lv_at hl 3 rfl) ?_
  refine lv_bipush (v := (6 : Int32)) hx hb dL_law_1110 (by decide) ?_
  refine lv_iadd hx hb dL_law_1112 ?_
  refine va_sld hx hb hX hbl hbA hS j6 dL_law_1113 ?_
  refine lv_aload_n hx hb dL_law_1114 rfl (lv_at hl 0 rfl) ?_
  refine lv_iload_n hx hb dL_law_1115 rfl (lv_at hl 3 rfl) ?_
  refine lv_bipush (v := (7 : Int32)) hx hb dL_law_1116 (by decide) ?_
  refine lv_iadd hx hb dL_law_1118 ?_
  refine va_sld hx hb hX hbl hbA hS j7 dL_law_1119 ?_
  refine lv_aload_n hx hb dL_law_1120 rfl (lv_at hl 0 rfl) ?_
  refine lv_iload_n hx hb dL_law_1121 rfl (lv_at hl 3 rfl) ?_
  refine lv_bipush (v := (8 : Int32)) hx hb dL_law_1122 (by decide) ?_
  refine lv_iadd hx hb dL_law_1124 ?_
  refine va_sld hx hb hX hbl hbA hS j8 dL_law_1125 ?_
  obtain ⟨r, c', m', e1, e2, hRel2⟩ := h_seen (xs ((nI i) + (1 : Int32)).toNatClampNeg) (xs ((nI i) + (2 : Int32)).toNatClampNeg) (xs ((nI i) + (3 : Int32)).toNatClampNeg) (xs ((nI i) + (4 : Int32)).toNatClampNeg) (xs ((nI i) + (5 : Int32)).toNatClampNeg) (xs ((nI i) + (6 : Int32)).toNatClampNeg) (xs ((nI i) + (7 : Int32)).toNatClampNeg) (xs ((nI i) + (8 : Int32)).toNatClampNeg) s1 s2 hRel
  refine va_calli (va_runV (As := [.int (xs ((nI i) + (1 : Int32)).toNatClampNeg), .int (xs ((nI i) + (2 : Int32)).toNatClampNeg), .int (xs ((nI i) + (3 : Int32)).toNatClampNeg), .int (xs ((nI i) + (4 : Int32)).toNatClampNeg), .int (xs ((nI i) + (5 : Int32)).toNatClampNeg), .int (xs ((nI i) + (6 : Int32)).toNatClampNeg), .int (xs ((nI i) + (7 : Int32)).toNatClampNeg), .int (xs ((nI i) + (8 : Int32)).toNatClampNeg)]) (rest := []) ⟨hx, hb, hml, hown, hts⟩ (cc_X9_seen l dC dI fu a1 k1 H.size (xs ((nI i) + (1 : Int32)).toNatClampNeg) (xs ((nI i) + (2 : Int32)).toNatClampNeg) (xs ((nI i) + (3 : Int32)).toNatClampNeg) (xs ((nI i) + (4 : Int32)).toNatClampNeg) (xs ((nI i) + (5 : Int32)).toNatClampNeg) (xs ((nI i) + (6 : Int32)).toNatClampNeg) (xs ((nI i) + (7 : Int32)).toNatClampNeg) (xs ((nI i) + (8 : Int32)).toNatClampNeg) s1 (r, c') e1) (cwV 8 hts gL_law_X9_seen rfl rfl rfl (by decide +kernel) ⟨Nat.le_of_ble_eq_true rfl, Nat.le_of_ble_eq_true rfl⟩) (pf_v (hK.sub (tys' := zt_9 k1) [0, 1, 2, 3, 4, 5, 6, 7, 8, 9, 10, 11, 12, 13, 14, 15, 16, 17, 18, 19, 20, 21, 22, 23, 24, 25, 26, 27, 28, 29, 30, 31, 32, 33, 34, 35, 36, 37, 38, 39, 40, 41, 42, 43, 44, 45, 46, 47, 48, 49, 50] rfl) (sub_P (sb_9_10__0c0 a1 a2 k1 k2 s1 s2) hP) (sub_D (sb_9_10__0c0 a1 a2 k1 k2 s1 s2) hD) 9 0 rfl rfl rfl) rfl rfl hl.1 rfl (lv_room (Nat.le_of_ble_eq_true rfl)) dL_law_1126 ⟨Nat.le_of_ble_eq_true rfl, Nat.le_of_ble_eq_true rfl⟩) hS (fun q _ h => (sub_F (sb_9_10__0c0 a1 a2 k1 k2 s1 s2) hD hS hA) q h) (sub_F (sb_9_10__0c0 a1 a2 k1 k2 s1 s2) hD hS hA) (fun r1 v1 t1 H1 locs1 ht1 hvm1 hw1 hB1 hz1 hk1 hS1 => ?_)
  obtain rfl : r = r1 := congrArg Prod.fst hw1
  obtain rfl : c' = v1 := congrArg Prod.snd hw1
  obtain ⟨hP1, hD1⟩ := jn_sub (sb_9_10__0c0 a1 a2 k1 k2 s1 s2) (jo_9_10__0c0__0 a1 a2 k1 k2 s1 s2 c') rfl hP hD hk1 ht1 hB1
  have hP1 : va_P (dC, dI) vwCl (zc_9 a1 k1 c' ++ zc_10 a2 k2 s2) H1 := hP1
  have hD1 : va_D (fun q : Nat => s.heap.size ≤ q) (zc_9 a1 k1 c' ++ zc_10 a2 k2 s2) := hD1
  clear hP hD hS hB1 hk1 hvm1 hz1 ht1
  refine lv_aload_n hx hb dL_law_1129 rfl (lv_at hl 2 rfl) ?_
  refine lv_aload_n hx hb dL_law_1130 rfl (lv_at hl 0 rfl) ?_
  refine lv_iload_n hx hb dL_law_1131 rfl (lv_at hl 3 rfl) ?_
  refine lv_iconst (v := (1 : Int32)) hx hb dL_law_1132 (by decide) ?_
  refine lv_iadd hx hb dL_law_1133 ?_
  refine va_sld hx hb hX hbl hbA hS1 j1 dL_law_1134 ?_
  refine lv_aload_n hx hb dL_law_1135 rfl (lv_at hl 0 rfl) ?_
  refine lv_iload_n hx hb dL_law_1136 rfl (lv_at hl 3 rfl) ?_
  refine lv_iconst (v := (2 : Int32)) hx hb dL_law_1137 (by decide) ?_
  refine lv_iadd hx hb dL_law_1138 ?_
  refine va_sld hx hb hX hbl hbA hS1 j2 dL_law_1139 ?_
  refine lv_aload_n hx hb dL_law_1140 rfl (lv_at hl 0 rfl) ?_
  refine lv_iload_n hx hb dL_law_1141 rfl (lv_at hl 3 rfl) ?_
  refine lv_iconst (v := (3 : Int32)) hx hb dL_law_1142 (by decide) ?_
  refine lv_iadd hx hb dL_law_1143 ?_
  refine va_sld hx hb hX hbl hbA hS1 j3 dL_law_1144 ?_
  refine lv_aload_n hx hb dL_law_1145 rfl (lv_at hl 0 rfl) ?_
  refine lv_iload_n hx hb dL_law_1146 rfl (lv_at hl 3 rfl) ?_
  refine lv_iconst (v := (4 : Int32)) hx hb dL_law_1147 (by decide) ?_
  refine lv_iadd hx hb dL_law_1148 ?_
  refine va_sld hx hb hX hbl hbA hS1 j4 dL_law_1149 ?_
  refine lv_aload_n hx hb dL_law_1150 rfl (lv_at hl 0 rfl) ?_
  refine lv_iload_n hx hb dL_law_1151 rfl (lv_at hl 3 rfl) ?_
  refine lv_iconst (v := (5 : Int32)) hx hb dL_law_1152 (by decide) ?_
  refine lv_iadd hx hb dL_law_1153 ?_
  refine va_sld hx hb hX hbl hbA hS1 j5 dL_law_1154 ?_
  refine lv_aload_n hx hb dL_law_1155 rfl (lv_at hl 0 rfl) ?_
  refine lv_iload_n hx hb dL_law_1156 rfl (lv_at hl 3 rfl) ?_
  refine lv_bipush (v := (6 : Int32)) hx hb dL_law_1157 (by decide) ?_
  refine lv_iadd hx hb dL_law_1159 ?_
  refine va_sld hx hb hX hbl hbA hS1 j6 dL_law_1160 ?_
  refine lv_aload_n hx hb dL_law_1161 rfl (lv_at hl 0 rfl) ?_
  refine lv_iload_n hx hb dL_law_1162 rfl (lv_at hl 3 rfl) ?_
  refine lv_bipush (v := (7 : Int32)) hx hb dL_law_1163 (by decide) ?_
  refine lv_iadd hx hb dL_law_1165 ?_
  refine va_sld hx hb hX hbl hbA hS1 j7 dL_law_1166 ?_
  refine lv_aload_n hx hb dL_law_1167 rfl (lv_at hl 0 rfl) ?_
  refine lv_iload_n hx hb dL_law_1168 rfl (lv_at hl 3 rfl) ?_
  refine lv_bipush (v := (8 : Int32)) hx hb dL_law_1169 (by decide) ?_
  refine lv_iadd hx hb dL_law_1171 ?_
  refine va_sld hx hb hX hbl hbA hS1 j8 dL_law_1172 ?_
  refine va_calli (va_runV (As := [.int (xs ((nI i) + (1 : Int32)).toNatClampNeg), .int (xs ((nI i) + (2 : Int32)).toNatClampNeg), .int (xs ((nI i) + (3 : Int32)).toNatClampNeg), .int (xs ((nI i) + (4 : Int32)).toNatClampNeg), .int (xs ((nI i) + (5 : Int32)).toNatClampNeg), .int (xs ((nI i) + (6 : Int32)).toNatClampNeg), .int (xs ((nI i) + (7 : Int32)).toNatClampNeg), .int (xs ((nI i) + (8 : Int32)).toNatClampNeg)]) (rest := [.int r]) ⟨hx, hb, hml, hown, hts⟩ (cc_X10_seen l dC dI fu a2 k2 H1.size (xs ((nI i) + (1 : Int32)).toNatClampNeg) (xs ((nI i) + (2 : Int32)).toNatClampNeg) (xs ((nI i) + (3 : Int32)).toNatClampNeg) (xs ((nI i) + (4 : Int32)).toNatClampNeg) (xs ((nI i) + (5 : Int32)).toNatClampNeg) (xs ((nI i) + (6 : Int32)).toNatClampNeg) (xs ((nI i) + (7 : Int32)).toNatClampNeg) (xs ((nI i) + (8 : Int32)).toNatClampNeg) s2 (r, m') e2) (cwV 8 hts gL_law_X10_seen rfl rfl rfl (by decide +kernel) ⟨Nat.le_of_ble_eq_true rfl, Nat.le_of_ble_eq_true rfl⟩) (pf_v (hK.sub (tys' := zt_10 k2) [51, 52, 53, 54, 55, 56, 57, 58, 59, 60, 61, 62, 63, 64, 65, 66, 67, 68, 69, 70, 71] rfl) (sub_P (sb_9_10__1c0 a1 a2 k1 k2 c' s2) hP1) (sub_D (sb_9_10__1c0 a1 a2 k1 k2 c' s2) hD1) 10 0 rfl rfl rfl) rfl rfl hl.1 rfl (lv_room (Nat.le_of_ble_eq_true rfl)) dL_law_1173 ⟨Nat.le_of_ble_eq_true rfl, Nat.le_of_ble_eq_true rfl⟩) hS1 (fun q _ h => (sub_F (sb_9_10__1c0 a1 a2 k1 k2 c' s2) hD1 hS1 hA) q h) (sub_F (sb_9_10__1c0 a1 a2 k1 k2 c' s2) hD1 hS1 hA) (fun r2 v2 t2 H2 locs2 ht2 hvm2 hw2 hB2 hz2 hk2 hS2 => ?_)
  obtain rfl : r = r2 := congrArg Prod.fst hw2
  obtain rfl : m' = v2 := congrArg Prod.snd hw2
  obtain ⟨hP2, hD2⟩ := jn_sub (sb_9_10__1c0 a1 a2 k1 k2 c' s2) (jo_9_10__1c0__0 a1 a2 k1 k2 c' s2 m') rfl hP1 hD1 hk2 ht2 hB2
  have hP2 : va_P (dC, dI) vwCl (zc_9 a1 k1 c' ++ zc_10 a2 k2 m') H2 := hP2
  have hD2 : va_D (fun q : Nat => s.heap.size ≤ q) (zc_9 a1 k1 c' ++ zc_10 a2 k2 m') := hD2
  clear hP1 hD1 hS1 hB2 hk2 hvm2 hz2 ht2
  refine lv_icmp_eq (tgt := 1383) hx hb dL_law_1176 (by decide) (fun _ => ?_) (fun c => absurd rfl c)
  exact tail c' m' hRel2 H2 locs2 ls hP2 hD2 hS2 hl
set_option maxHeartbeats 4000000 in
set_option maxRecDepth 100000 in
theorem lc_sheet {p : Program} {l : Launch} {e : Env} {s : State} {m : MethodId} {below : List Frame} {meth : Method} {c : Code} {dC : Nat → ClassId} {dI : Nat → Nat → Nat} {b L : Nat} {xs : Nat → Int32} {fu : Nat} {Rel : ZT_9 → ZT_10 → Prop} (h_sheet : St_sheet fu Rel) (a1 a2 : Nat → Nat) (k1 k2 : Nat → ClassId) (hL : L ≤ 4608) (hx : p.tables.exec = Jvm.exec) (hb : c.code = code) (hml : c.maxLocals = 4) (hown : s.vm.findClass RL = some m.cls) (hts : ∀ w ∈ wsL_law, w.before #[Value.ref b] s = true) (hX : va_X b L xs s s.heap) (hbl : b < s.heap.size) (hN : va_Nw nestW s) (hK : va_K (dC, dI) vwCl (zt_9 k1 ++ zt_10 k2) s) {i : Nat} (h9 : i + 9 ≤ L) (tail : ∀ (s1 : ZT_9) (s2 : ZT_10), Rel s1 s2 → ∀ (H : Heap) (locs : List Loc) (ls : Array Slot), va_P (dC, dI) vwCl (zc_9 a1 k1 s1 ++ zc_10 a2 k2 s2) H → va_D (fun q : Nat => s.heap.size ≤ q) (zc_9 a1 k1 s1 ++ zc_10 a2 k2 s2) → va_S (fun q : Nat => s.heap.size ≤ q) s.heap H locs → lv_has ls 4 [(0, .ref b), (1, .ref (a1 0)), (2, .ref (a2 0)), (3, .int (nI i))] → W p l e room_1 s m #[Value.ref b] below meth c H locs 92 2785 (lw_Z below #[Value.ref b] s) (F0 m 1383 ls [])) (s1 : ZT_9) (s2 : ZT_10) (hRel : Rel s1 s2) (H : Heap) (locs : List Loc) (ls : Array Slot) (hP : va_P (dC, dI) vwCl (zc_9 a1 k1 s1 ++ zc_10 a2 k2 s2) H) (hD : va_D (fun q : Nat => s.heap.size ≤ q) (zc_9 a1 k1 s1 ++ zc_10 a2 k2 s2)) (hS : va_S (fun q : Nat => s.heap.size ≤ q) s.heap H locs) (hl : lv_has ls 4 [(0, .ref b), (1, .ref (a1 0)), (2, .ref (a2 0)), (3, .int (nI i))]) : W p l e room_1 s m #[Value.ref b] below meth c H locs 92 2785 (lw_Z below #[Value.ref b] s) (F0 m 1181 ls []) := by
  have hA : ∀ q : Nat, s.heap.size ≤ q → (fun q : Nat => s.heap.size ≤ q) q := fun _ h => h
  have hbA : ¬ (fun q : Nat => s.heap.size ≤ q) b := Nat.not_le.mpr hbl
  have j1 : vp_in ((nI i) + (1 : Int32)) L := sc_in 1 (1 : Int32) rfl (by omega) hL
  have j2 : vp_in ((nI i) + (2 : Int32)) L := sc_in 2 (2 : Int32) rfl (by omega) hL
  have j3 : vp_in ((nI i) + (3 : Int32)) L := sc_in 3 (3 : Int32) rfl (by omega) hL
  have j4 : vp_in ((nI i) + (4 : Int32)) L := sc_in 4 (4 : Int32) rfl (by omega) hL
  have j5 : vp_in ((nI i) + (5 : Int32)) L := sc_in 5 (5 : Int32) rfl (by omega) hL
  have j6 : vp_in ((nI i) + (6 : Int32)) L := sc_in 6 (6 : Int32) rfl (by omega) hL
  have j7 : vp_in ((nI i) + (7 : Int32)) L := sc_in 7 (7 : Int32) rfl (by omega) hL
  have j8 : vp_in ((nI i) + (8 : Int32)) L := sc_in 8 (8 : Int32) rfl (by omega) hL
  refine lv_aload_n hx hb dL_law_1181 rfl (lv_at hl 1 rfl) ?_
  refine lv_aload_n hx hb dL_law_1182 rfl (lv_at hl 0 rfl) ?_
  refine lv_iload_n hx hb dL_law_1183 rfl (lv_at hl 3 rfl) ?_
  refine lv_iconst (v := (1 : Int32)) hx hb dL_law_1184 (by decide) ?_
  refine lv_iadd hx hb dL_law_1185 ?_
  refine va_sld hx hb hX hbl hbA hS j1 dL_law_1186 ?_
  refine lv_aload_n hx hb dL_law_1187 rfl (lv_at hl 0 rfl) ?_
  refine lv_iload_n hx hb dL_law_1188 rfl (lv_at hl 3 rfl) ?_
  refine lv_iconst (v := (2 : Int32)) hx hb dL_law_1189 (by decide) ?_
  refine lv_iadd hx hb dL_law_1190 ?_
  refine va_sld hx hb hX hbl hbA hS j2 dL_law_1191 ?_
  refine lv_aload_n hx hb dL_law_1192 rfl (lv_at hl 0 rfl) ?_
  refine lv_iload_n hx hb dL_law_1193 rfl (lv_at hl 3 rfl) ?_
  refine lv_iconst (v := (3 : Int32)) hx hb dL_law_1194 (by decide) ?_
  refine lv_iadd hx hb dL_law_1195 ?_
  refine va_sld hx hb hX hbl hbA hS j3 dL_law_1196 ?_
  obtain ⟨r, c', m', e1, e2, hRel2⟩ := h_sheet (xs ((nI i) + (1 : Int32)).toNatClampNeg) (xs ((nI i) + (2 : Int32)).toNatClampNeg) (xs ((nI i) + (3 : Int32)).toNatClampNeg) s1 s2 hRel
  refine va_calli (va_runV (As := [.int (xs ((nI i) + (1 : Int32)).toNatClampNeg), .int (xs ((nI i) + (2 : Int32)).toNatClampNeg), .int (xs ((nI i) + (3 : Int32)).toNatClampNeg)]) (rest := []) ⟨hx, hb, hml, hown, hts⟩ (cc_X9_sheet l dC dI fu a1 k1 H.size (xs ((nI i) + (1 : Int32)).toNatClampNeg) (xs ((nI i) + (2 : Int32)).toNatClampNeg) (xs ((nI i) + (3 : Int32)).toNatClampNeg) s1 (r, c') e1) (cwV 3 hts gL_law_X9_sheet rfl rfl rfl (by decide +kernel) ⟨Nat.le_of_ble_eq_true rfl, Nat.le_of_ble_eq_true rfl⟩) (pf_v (hK.sub (tys' := zt_9 k1) [0, 1, 2, 3, 4, 5, 6, 7, 8, 9, 10, 11, 12, 13, 14, 15, 16, 17, 18, 19, 20, 21, 22, 23, 24, 25, 26, 27, 28, 29, 30, 31, 32, 33, 34, 35, 36, 37, 38, 39, 40, 41, 42, 43, 44, 45, 46, 47, 48, 49, 50] rfl) (sub_P (sb_9_10__0c0 a1 a2 k1 k2 s1 s2) hP) (sub_D (sb_9_10__0c0 a1 a2 k1 k2 s1 s2) hD) 9 0 rfl rfl rfl) rfl rfl hl.1 rfl (lv_room (Nat.le_of_ble_eq_true rfl)) dL_law_1197 ⟨Nat.le_of_ble_eq_true rfl, Nat.le_of_ble_eq_true rfl⟩) hS (fun q _ h => (sub_F (sb_9_10__0c0 a1 a2 k1 k2 s1 s2) hD hS hA) q h) (sub_F (sb_9_10__0c0 a1 a2 k1 k2 s1 s2) hD hS hA) (fun r1 v1 t1 H1 locs1 ht1 hvm1 hw1 hB1 hz1 hk1 hS1 => ?_)
  obtain rfl : r = r1 := congrArg Prod.fst hw1
  obtain rfl : c' = v1 := congrArg Prod.snd hw1
  obtain ⟨hP1, hD1⟩ := jn_sub (sb_9_10__0c0 a1 a2 k1 k2 s1 s2) (jo_9_10__0c0__0 a1 a2 k1 k2 s1 s2 c') rfl hP hD hk1 ht1 hB1
  have hP1 : va_P (dC, dI) vwCl (zc_9 a1 k1 c' ++ zc_10 a2 k2 s2) H1 := hP1
  have hD1 : va_D (fun q : Nat => s.heap.size ≤ q) (zc_9 a1 k1 c' ++ zc_10 a2 k2 s2) := hD1
  clear hP hD hS hB1 hk1 hvm1 hz1 ht1
  refine lv_aload_n hx hb dL_law_1200 rfl (lv_at hl 2 rfl) ?_
  refine lv_aload_n hx hb dL_law_1201 rfl (lv_at hl 0 rfl) ?_
  refine lv_iload_n hx hb dL_law_1202 rfl (lv_at hl 3 rfl) ?_
  refine lv_iconst (v := (1 : Int32)) hx hb dL_law_1203 (by decide) ?_
  refine lv_iadd hx hb dL_law_1204 ?_
  refine va_sld hx hb hX hbl hbA hS1 j1 dL_law_1205 ?_
  refine lv_aload_n hx hb dL_law_1206 rfl (lv_at hl 0 rfl) ?_
  refine lv_iload_n hx hb dL_law_1207 rfl (lv_at hl 3 rfl) ?_
  refine lv_iconst (v := (2 : Int32)) hx hb dL_law_1208 (by decide) ?_
  refine lv_iadd hx hb dL_law_1209 ?_
  refine va_sld hx hb hX hbl hbA hS1 j2 dL_law_1210 ?_
  refine lv_aload_n hx hb dL_law_1211 rfl (lv_at hl 0 rfl) ?_
  refine lv_iload_n hx hb dL_law_1212 rfl (lv_at hl 3 rfl) ?_
  refine lv_iconst (v := (3 : Int32)) hx hb dL_law_1213 (by decide) ?_
  refine lv_iadd hx hb dL_law_1214 ?_
  refine va_sld hx hb hX hbl hbA hS1 j3 dL_law_1215 ?_
  refine va_calli (va_runV (As := [.int (xs ((nI i) + (1 : Int32)).toNatClampNeg), .int (xs ((nI i) + (2 : Int32)).toNatClampNeg), .int (xs ((nI i) + (3 : Int32)).toNatClampNeg)]) (rest := [.int r]) ⟨hx, hb, hml, hown, hts⟩ (cc_X10_sheet l dC dI fu a2 k2 H1.size (xs ((nI i) + (1 : Int32)).toNatClampNeg) (xs ((nI i) + (2 : Int32)).toNatClampNeg) (xs ((nI i) + (3 : Int32)).toNatClampNeg) s2 (r, m') e2) (cwV 3 hts gL_law_X10_sheet rfl rfl rfl (by decide +kernel) ⟨Nat.le_of_ble_eq_true rfl, Nat.le_of_ble_eq_true rfl⟩) (pf_v (hK.sub (tys' := zt_10 k2) [51, 52, 53, 54, 55, 56, 57, 58, 59, 60, 61, 62, 63, 64, 65, 66, 67, 68, 69, 70, 71] rfl) (sub_P (sb_9_10__1c0 a1 a2 k1 k2 c' s2) hP1) (sub_D (sb_9_10__1c0 a1 a2 k1 k2 c' s2) hD1) 10 0 rfl rfl rfl) rfl rfl hl.1 rfl (lv_room (Nat.le_of_ble_eq_true rfl)) dL_law_1216 ⟨Nat.le_of_ble_eq_true rfl, Nat.le_of_ble_eq_true rfl⟩) hS1 (fun q _ h => (sub_F (sb_9_10__1c0 a1 a2 k1 k2 c' s2) hD1 hS1 hA) q h) (sub_F (sb_9_10__1c0 a1 a2 k1 k2 c' s2) hD1 hS1 hA) (fun r2 v2 t2 H2 locs2 ht2 hvm2 hw2 hB2 hz2 hk2 hS2 => ?_)
  obtain rfl : r = r2 := congrArg Prod.fst hw2
  obtain rfl : m' = v2 := congrArg Prod.snd hw2
  obtain ⟨hP2, hD2⟩ := jn_sub (sb_9_10__1c0 a1 a2 k1 k2 c' s2) (jo_9_10__1c0__0 a1 a2 k1 k2 c' s2 m') rfl hP1 hD1 hk2 ht2 hB2
  have hP2 : va_P (dC, dI) vwCl (zc_9 a1 k1 c' ++ zc_10 a2 k2 m') H2 := hP2
  have hD2 : va_D (fun q : Nat => s.heap.size ≤ q) (zc_9 a1 k1 c' ++ zc_10 a2 k2 m') := hD2
  clear hP1 hD1 hS1 hB2 hk2 hvm2 hz2 ht2
  refine lv_icmp_eq (tgt := 1383) hx hb dL_law_1219 (by decide) (fun _ => ?_) (fun c => absurd rfl c)
  exact tail c' m' hRel2 H2 locs2 ls hP2 hD2 hS2 hl
set_option maxHeartbeats 4000000 in
set_option maxRecDepth 100000 in
theorem lc_drop {p : Program} {l : Launch} {e : Env} {s : State} {m : MethodId} {below : List Frame} {meth : Method} {c : Code} {dC : Nat → ClassId} {dI : Nat → Nat → Nat} {b L : Nat} {xs : Nat → Int32} {fu : Nat} {Rel : ZT_9 → ZT_10 → Prop} (h_drop : St_drop fu Rel) (a1 a2 : Nat → Nat) (k1 k2 : Nat → ClassId) (hL : L ≤ 4608) (hx : p.tables.exec = Jvm.exec) (hb : c.code = code) (hml : c.maxLocals = 4) (hown : s.vm.findClass RL = some m.cls) (hts : ∀ w ∈ wsL_law, w.before #[Value.ref b] s = true) (hX : va_X b L xs s s.heap) (hbl : b < s.heap.size) (hN : va_Nw nestW s) (hK : va_K (dC, dI) vwCl (zt_9 k1 ++ zt_10 k2) s) {i : Nat} (h9 : i + 9 ≤ L) (tail : ∀ (s1 : ZT_9) (s2 : ZT_10), Rel s1 s2 → ∀ (H : Heap) (locs : List Loc) (ls : Array Slot), va_P (dC, dI) vwCl (zc_9 a1 k1 s1 ++ zc_10 a2 k2 s2) H → va_D (fun q : Nat => s.heap.size ≤ q) (zc_9 a1 k1 s1 ++ zc_10 a2 k2 s2) → va_S (fun q : Nat => s.heap.size ≤ q) s.heap H locs → lv_has ls 4 [(0, .ref b), (1, .ref (a1 0)), (2, .ref (a2 0)), (3, .int (nI i))] → W p l e room_1 s m #[Value.ref b] below meth c H locs 92 2785 (lw_Z below #[Value.ref b] s) (F0 m 1383 ls [])) (s1 : ZT_9) (s2 : ZT_10) (hRel : Rel s1 s2) (H : Heap) (locs : List Loc) (ls : Array Slot) (hP : va_P (dC, dI) vwCl (zc_9 a1 k1 s1 ++ zc_10 a2 k2 s2) H) (hD : va_D (fun q : Nat => s.heap.size ≤ q) (zc_9 a1 k1 s1 ++ zc_10 a2 k2 s2)) (hS : va_S (fun q : Nat => s.heap.size ≤ q) s.heap H locs) (hl : lv_has ls 4 [(0, .ref b), (1, .ref (a1 0)), (2, .ref (a2 0)), (3, .int (nI i))]) : W p l e room_1 s m #[Value.ref b] below meth c H locs 92 2785 (lw_Z below #[Value.ref b] s) (F0 m 1224 ls []) := by
  have hA : ∀ q : Nat, s.heap.size ≤ q → (fun q : Nat => s.heap.size ≤ q) q := fun _ h => h
  have hbA : ¬ (fun q : Nat => s.heap.size ≤ q) b := Nat.not_le.mpr hbl
  have j1 : vp_in ((nI i) + (1 : Int32)) L := sc_in 1 (1 : Int32) rfl (by omega) hL
  have j2 : vp_in ((nI i) + (2 : Int32)) L := sc_in 2 (2 : Int32) rfl (by omega) hL
  have j3 : vp_in ((nI i) + (3 : Int32)) L := sc_in 3 (3 : Int32) rfl (by omega) hL
  have j4 : vp_in ((nI i) + (4 : Int32)) L := sc_in 4 (4 : Int32) rfl (by omega) hL
  have j5 : vp_in ((nI i) + (5 : Int32)) L := sc_in 5 (5 : Int32) rfl (by omega) hL
  have j6 : vp_in ((nI i) + (6 : Int32)) L := sc_in 6 (6 : Int32) rfl (by omega) hL
  have j7 : vp_in ((nI i) + (7 : Int32)) L := sc_in 7 (7 : Int32) rfl (by omega) hL
  have j8 : vp_in ((nI i) + (8 : Int32)) L := sc_in 8 (8 : Int32) rfl (by omega) hL
  refine lv_aload_n hx hb dL_law_1224 rfl (lv_at hl 1 rfl) ?_
  refine lv_aload_n hx hb dL_law_1225 rfl (lv_at hl 0 rfl) ?_
  refine lv_iload_n hx hb dL_law_1226 rfl (lv_at hl 3 rfl) ?_
  refine lv_iconst (v := (1 : Int32)) hx hb dL_law_1227 (by decide) ?_
  refine lv_iadd hx hb dL_law_1228 ?_
  refine va_sld hx hb hX hbl hbA hS j1 dL_law_1229 ?_
  obtain ⟨r, c', m', e1, e2, hRel2⟩ := h_drop (xs ((nI i) + (1 : Int32)).toNatClampNeg) s1 s2 hRel
  refine va_calli (va_runV (As := [.int (xs ((nI i) + (1 : Int32)).toNatClampNeg)]) (rest := []) ⟨hx, hb, hml, hown, hts⟩ (cc_X9_drop l dC dI fu a1 k1 H.size (xs ((nI i) + (1 : Int32)).toNatClampNeg) s1 (r, c') e1) (cwV 1 hts gL_law_X9_drop rfl rfl rfl (by decide +kernel) ⟨Nat.le_of_ble_eq_true rfl, Nat.le_of_ble_eq_true rfl⟩) (pf_v (hK.sub (tys' := zt_9 k1) [0, 1, 2, 3, 4, 5, 6, 7, 8, 9, 10, 11, 12, 13, 14, 15, 16, 17, 18, 19, 20, 21, 22, 23, 24, 25, 26, 27, 28, 29, 30, 31, 32, 33, 34, 35, 36, 37, 38, 39, 40, 41, 42, 43, 44, 45, 46, 47, 48, 49, 50] rfl) (sub_P (sb_9_10__0c0 a1 a2 k1 k2 s1 s2) hP) (sub_D (sb_9_10__0c0 a1 a2 k1 k2 s1 s2) hD) 9 0 rfl rfl rfl) rfl rfl hl.1 rfl (lv_room (Nat.le_of_ble_eq_true rfl)) dL_law_1230 ⟨Nat.le_of_ble_eq_true rfl, Nat.le_of_ble_eq_true rfl⟩) hS (fun q _ h => (sub_F (sb_9_10__0c0 a1 a2 k1 k2 s1 s2) hD hS hA) q h) (sub_F (sb_9_10__0c0 a1 a2 k1 k2 s1 s2) hD hS hA) (fun r1 v1 t1 H1 locs1 ht1 hvm1 hw1 hB1 hz1 hk1 hS1 => ?_)
  obtain rfl : r = r1 := congrArg Prod.fst hw1
  obtain rfl : c' = v1 := congrArg Prod.snd hw1
  obtain ⟨hP1, hD1⟩ := jn_sub (sb_9_10__0c0 a1 a2 k1 k2 s1 s2) (jo_9_10__0c0__0 a1 a2 k1 k2 s1 s2 c') rfl hP hD hk1 ht1 hB1
  have hP1 : va_P (dC, dI) vwCl (zc_9 a1 k1 c' ++ zc_10 a2 k2 s2) H1 := hP1
  have hD1 : va_D (fun q : Nat => s.heap.size ≤ q) (zc_9 a1 k1 c' ++ zc_10 a2 k2 s2) := hD1
  clear hP hD hS hB1 hk1 hvm1 hz1 ht1
  refine lv_aload_n hx hb dL_law_1233 rfl (lv_at hl 2 rfl) ?_
  refine lv_aload_n hx hb dL_law_1234 rfl (lv_at hl 0 rfl) ?_
  refine lv_iload_n hx hb dL_law_1235 rfl (lv_at hl 3 rfl) ?_
  refine lv_iconst (v := (1 : Int32)) hx hb dL_law_1236 (by decide) ?_
  refine lv_iadd hx hb dL_law_1237 ?_
  refine va_sld hx hb hX hbl hbA hS1 j1 dL_law_1238 ?_
  refine va_calli (va_runV (As := [.int (xs ((nI i) + (1 : Int32)).toNatClampNeg)]) (rest := [.int r]) ⟨hx, hb, hml, hown, hts⟩ (cc_X10_drop l dC dI fu a2 k2 H1.size (xs ((nI i) + (1 : Int32)).toNatClampNeg) s2 (r, m') e2) (cwV 1 hts gL_law_X10_drop rfl rfl rfl (by decide +kernel) ⟨Nat.le_of_ble_eq_true rfl, Nat.le_of_ble_eq_true rfl⟩) (pf_v (hK.sub (tys' := zt_10 k2) [51, 52, 53, 54, 55, 56, 57, 58, 59, 60, 61, 62, 63, 64, 65, 66, 67, 68, 69, 70, 71] rfl) (sub_P (sb_9_10__1c0 a1 a2 k1 k2 c' s2) hP1) (sub_D (sb_9_10__1c0 a1 a2 k1 k2 c' s2) hD1) 10 0 rfl rfl rfl) rfl rfl hl.1 rfl (lv_room (Nat.le_of_ble_eq_true rfl)) dL_law_1239 ⟨Nat.le_of_ble_eq_true rfl, Nat.le_of_ble_eq_true rfl⟩) hS1 (fun q _ h => (sub_F (sb_9_10__1c0 a1 a2 k1 k2 c' s2) hD1 hS1 hA) q h) (sub_F (sb_9_10__1c0 a1 a2 k1 k2 c' s2) hD1 hS1 hA) (fun r2 v2 t2 H2 locs2 ht2 hvm2 hw2 hB2 hz2 hk2 hS2 => ?_)
  obtain rfl : r = r2 := congrArg Prod.fst hw2
  obtain rfl : m' = v2 := congrArg Prod.snd hw2
  obtain ⟨hP2, hD2⟩ := jn_sub (sb_9_10__1c0 a1 a2 k1 k2 c' s2) (jo_9_10__1c0__0 a1 a2 k1 k2 c' s2 m') rfl hP1 hD1 hk2 ht2 hB2
  have hP2 : va_P (dC, dI) vwCl (zc_9 a1 k1 c' ++ zc_10 a2 k2 m') H2 := hP2
  have hD2 : va_D (fun q : Nat => s.heap.size ≤ q) (zc_9 a1 k1 c' ++ zc_10 a2 k2 m') := hD2
  clear hP1 hD1 hS1 hB2 hk2 hvm2 hz2 ht2
  refine lv_icmp_eq (tgt := 1383) hx hb dL_law_1242 (by decide) (fun _ => ?_) (fun c => absurd rfl c)
  exact tail c' m' hRel2 H2 locs2 ls hP2 hD2 hS2 hl
set_option maxHeartbeats 4000000 in
set_option maxRecDepth 100000 in
theorem lc_item {p : Program} {l : Launch} {e : Env} {s : State} {m : MethodId} {below : List Frame} {meth : Method} {c : Code} {dC : Nat → ClassId} {dI : Nat → Nat → Nat} {b L : Nat} {xs : Nat → Int32} {fu : Nat} {Rel : ZT_9 → ZT_10 → Prop} (h_item : St_item fu Rel) (a1 a2 : Nat → Nat) (k1 k2 : Nat → ClassId) (hL : L ≤ 4608) (hx : p.tables.exec = Jvm.exec) (hb : c.code = code) (hml : c.maxLocals = 4) (hown : s.vm.findClass RL = some m.cls) (hts : ∀ w ∈ wsL_law, w.before #[Value.ref b] s = true) (hX : va_X b L xs s s.heap) (hbl : b < s.heap.size) (hN : va_Nw nestW s) (hK : va_K (dC, dI) vwCl (zt_9 k1 ++ zt_10 k2) s) {i : Nat} (h9 : i + 9 ≤ L) (tail : ∀ (s1 : ZT_9) (s2 : ZT_10), Rel s1 s2 → ∀ (H : Heap) (locs : List Loc) (ls : Array Slot), va_P (dC, dI) vwCl (zc_9 a1 k1 s1 ++ zc_10 a2 k2 s2) H → va_D (fun q : Nat => s.heap.size ≤ q) (zc_9 a1 k1 s1 ++ zc_10 a2 k2 s2) → va_S (fun q : Nat => s.heap.size ≤ q) s.heap H locs → lv_has ls 4 [(0, .ref b), (1, .ref (a1 0)), (2, .ref (a2 0)), (3, .int (nI i))] → W p l e room_1 s m #[Value.ref b] below meth c H locs 92 2785 (lw_Z below #[Value.ref b] s) (F0 m 1383 ls [])) (s1 : ZT_9) (s2 : ZT_10) (hRel : Rel s1 s2) (H : Heap) (locs : List Loc) (ls : Array Slot) (hP : va_P (dC, dI) vwCl (zc_9 a1 k1 s1 ++ zc_10 a2 k2 s2) H) (hD : va_D (fun q : Nat => s.heap.size ≤ q) (zc_9 a1 k1 s1 ++ zc_10 a2 k2 s2)) (hS : va_S (fun q : Nat => s.heap.size ≤ q) s.heap H locs) (hl : lv_has ls 4 [(0, .ref b), (1, .ref (a1 0)), (2, .ref (a2 0)), (3, .int (nI i))]) : W p l e room_1 s m #[Value.ref b] below meth c H locs 92 2785 (lw_Z below #[Value.ref b] s) (F0 m 1247 ls []) := by
  have hA : ∀ q : Nat, s.heap.size ≤ q → (fun q : Nat => s.heap.size ≤ q) q := fun _ h => h
  have hbA : ¬ (fun q : Nat => s.heap.size ≤ q) b := Nat.not_le.mpr hbl
  have j1 : vp_in ((nI i) + (1 : Int32)) L := sc_in 1 (1 : Int32) rfl (by omega) hL
  have j2 : vp_in ((nI i) + (2 : Int32)) L := sc_in 2 (2 : Int32) rfl (by omega) hL
  have j3 : vp_in ((nI i) + (3 : Int32)) L := sc_in 3 (3 : Int32) rfl (by omega) hL
  have j4 : vp_in ((nI i) + (4 : Int32)) L := sc_in 4 (4 : Int32) rfl (by omega) hL
  have j5 : vp_in ((nI i) + (5 : Int32)) L := sc_in 5 (5 : Int32) rfl (by omega) hL
  have j6 : vp_in ((nI i) + (6 : Int32)) L := sc_in 6 (6 : Int32) rfl (by omega) hL
  have j7 : vp_in ((nI i) + (7 : Int32)) L := sc_in 7 (7 : Int32) rfl (by omega) hL
  have j8 : vp_in ((nI i) + (8 : Int32)) L := sc_in 8 (8 : Int32) rfl (by omega) hL
  refine lv_aload_n hx hb dL_law_1247 rfl (lv_at hl 1 rfl) ?_
  refine lv_aload_n hx hb dL_law_1248 rfl (lv_at hl 0 rfl) ?_
  refine lv_iload_n hx hb dL_law_1249 rfl (lv_at hl 3 rfl) ?_
  refine lv_iconst (v := (1 : Int32)) hx hb dL_law_1250 (by decide) ?_
  refine lv_iadd hx hb dL_law_1251 ?_
  refine va_sld hx hb hX hbl hbA hS j1 dL_law_1252 ?_
  refine lv_aload_n hx hb dL_law_1253 rfl (lv_at hl 0 rfl) ?_
  refine lv_iload_n hx hb dL_law_1254 rfl (lv_at hl 3 rfl) ?_
  refine lv_iconst (v := (2 : Int32)) hx hb dL_law_1255 (by decide) ?_
  refine lv_iadd hx hb dL_law_1256 ?_
  refine va_sld hx hb hX hbl hbA hS j2 dL_law_1257 ?_
  refine lv_aload_n hx hb dL_law_1258 rfl (lv_at hl 0 rfl) ?_
  refine lv_iload_n hx hb dL_law_1259 rfl (lv_at hl 3 rfl) ?_
  refine lv_iconst (v := (3 : Int32)) hx hb dL_law_1260 (by decide) ?_
  refine lv_iadd hx hb dL_law_1261 ?_
  refine va_sld hx hb hX hbl hbA hS j3 dL_law_1262 ?_
  refine lv_aload_n hx hb dL_law_1263 rfl (lv_at hl 0 rfl) ?_
  refine lv_iload_n hx hb dL_law_1264 rfl (lv_at hl 3 rfl) ?_
  refine lv_iconst (v := (4 : Int32)) hx hb dL_law_1265 (by decide) ?_
  refine lv_iadd hx hb dL_law_1266 ?_
  refine va_sld hx hb hX hbl hbA hS j4 dL_law_1267 ?_
  refine lv_i2l (v := (xs ((nI i) + (4 : Int32)).toNatClampNeg).toInt64) hx hb dL_law_1268 rfl ?_
  refine lv_bipush (v := (32 : Int32)) hx hb dL_law_1269 (by decide) ?_
  refine lv_lshl (v := ((xs ((nI i) + (4 : Int32)).toNatClampNeg).toInt64 <<< ((32 : Int32).toInt64 &&& 63))) hx hb dL_law_1271 rfl ?_
  refine lv_aload_n hx hb dL_law_1272 rfl (lv_at hl 0 rfl) ?_
  refine lv_iload_n hx hb dL_law_1273 rfl (lv_at hl 3 rfl) ?_
  refine lv_iconst (v := (5 : Int32)) hx hb dL_law_1274 (by decide) ?_
  refine lv_iadd hx hb dL_law_1275 ?_
  refine va_sld hx hb hX hbl hbA hS j5 dL_law_1276 ?_
  refine lv_i2l (v := (xs ((nI i) + (5 : Int32)).toNatClampNeg).toInt64) hx hb dL_law_1277 rfl ?_
  refine lv_ldc2 (v := (4294967295 : Int64)) hx hb hown (hts (.constantLong RL 44 (4294967295)) (List.mem_append_left _ (List.mem_append_left _ (List.mem_append_left _ (List.mem_append_left _ (List.mem_append_left _ (List.mem_append_left _ (List.mem_append_left _ (List.mem_append_left _ (List.mem_append_left _ (List.mem_append_left _ (List.mem_append_left _ (List.mem_append_left _ (List.mem_append_left _ (List.mem_of_getElem? (i := 6) rfl))))))))))))))) dL_law_1278 ?_
  refine lv_land hx hb dL_law_1281 ?_
  refine lv_lor hx hb dL_law_1282 ?_
  obtain ⟨r, c', m', e1, e2, hRel2⟩ := h_item (xs ((nI i) + (1 : Int32)).toNatClampNeg) (xs ((nI i) + (2 : Int32)).toNatClampNeg) (xs ((nI i) + (3 : Int32)).toNatClampNeg) (((xs ((nI i) + (4 : Int32)).toNatClampNeg).toInt64 <<< ((32 : Int32).toInt64 &&& 63)) ||| ((xs ((nI i) + (5 : Int32)).toNatClampNeg).toInt64 &&& (4294967295 : Int64))) s1 s2 hRel
  refine va_calli (va_runV (As := [.int (xs ((nI i) + (1 : Int32)).toNatClampNeg), .int (xs ((nI i) + (2 : Int32)).toNatClampNeg), .int (xs ((nI i) + (3 : Int32)).toNatClampNeg), .long (((xs ((nI i) + (4 : Int32)).toNatClampNeg).toInt64 <<< ((32 : Int32).toInt64 &&& 63)) ||| ((xs ((nI i) + (5 : Int32)).toNatClampNeg).toInt64 &&& (4294967295 : Int64)))]) (rest := []) ⟨hx, hb, hml, hown, hts⟩ (cc_X9_item l dC dI fu a1 k1 H.size (xs ((nI i) + (1 : Int32)).toNatClampNeg) (xs ((nI i) + (2 : Int32)).toNatClampNeg) (xs ((nI i) + (3 : Int32)).toNatClampNeg) (((xs ((nI i) + (4 : Int32)).toNatClampNeg).toInt64 <<< ((32 : Int32).toInt64 &&& 63)) ||| ((xs ((nI i) + (5 : Int32)).toNatClampNeg).toInt64 &&& (4294967295 : Int64))) s1 (r, c') e1) (cwV 4 hts gL_law_X9_item rfl rfl rfl (by decide +kernel) ⟨Nat.le_of_ble_eq_true rfl, Nat.le_of_ble_eq_true rfl⟩) (pf_v (hK.sub (tys' := zt_9 k1) [0, 1, 2, 3, 4, 5, 6, 7, 8, 9, 10, 11, 12, 13, 14, 15, 16, 17, 18, 19, 20, 21, 22, 23, 24, 25, 26, 27, 28, 29, 30, 31, 32, 33, 34, 35, 36, 37, 38, 39, 40, 41, 42, 43, 44, 45, 46, 47, 48, 49, 50] rfl) (sub_P (sb_9_10__0c0 a1 a2 k1 k2 s1 s2) hP) (sub_D (sb_9_10__0c0 a1 a2 k1 k2 s1 s2) hD) 9 0 rfl rfl rfl) rfl rfl hl.1 rfl (lv_room (Nat.le_of_ble_eq_true rfl)) dL_law_1283 ⟨Nat.le_of_ble_eq_true rfl, Nat.le_of_ble_eq_true rfl⟩) hS (fun q _ h => (sub_F (sb_9_10__0c0 a1 a2 k1 k2 s1 s2) hD hS hA) q h) (sub_F (sb_9_10__0c0 a1 a2 k1 k2 s1 s2) hD hS hA) (fun r1 v1 t1 H1 locs1 ht1 hvm1 hw1 hB1 hz1 hk1 hS1 => ?_)
  obtain rfl : r = r1 := congrArg Prod.fst hw1
  obtain rfl : c' = v1 := congrArg Prod.snd hw1
  obtain ⟨hP1, hD1⟩ := jn_sub (sb_9_10__0c0 a1 a2 k1 k2 s1 s2) (jo_9_10__0c0__0 a1 a2 k1 k2 s1 s2 c') rfl hP hD hk1 ht1 hB1
  have hP1 : va_P (dC, dI) vwCl (zc_9 a1 k1 c' ++ zc_10 a2 k2 s2) H1 := hP1
  have hD1 : va_D (fun q : Nat => s.heap.size ≤ q) (zc_9 a1 k1 c' ++ zc_10 a2 k2 s2) := hD1
  clear hP hD hS hB1 hk1 hvm1 hz1 ht1
  refine lv_aload_n hx hb dL_law_1286 rfl (lv_at hl 2 rfl) ?_
  refine lv_aload_n hx hb dL_law_1287 rfl (lv_at hl 0 rfl) ?_
  refine lv_iload_n hx hb dL_law_1288 rfl (lv_at hl 3 rfl) ?_
  refine lv_iconst (v := (1 : Int32)) hx hb dL_law_1289 (by decide) ?_
  refine lv_iadd hx hb dL_law_1290 ?_
  refine va_sld hx hb hX hbl hbA hS1 j1 dL_law_1291 ?_
  refine lv_aload_n hx hb dL_law_1292 rfl (lv_at hl 0 rfl) ?_
  refine lv_iload_n hx hb dL_law_1293 rfl (lv_at hl 3 rfl) ?_
  refine lv_iconst (v := (2 : Int32)) hx hb dL_law_1294 (by decide) ?_
  refine lv_iadd hx hb dL_law_1295 ?_
  refine va_sld hx hb hX hbl hbA hS1 j2 dL_law_1296 ?_
  refine lv_aload_n hx hb dL_law_1297 rfl (lv_at hl 0 rfl) ?_
  refine lv_iload_n hx hb dL_law_1298 rfl (lv_at hl 3 rfl) ?_
  refine lv_iconst (v := (3 : Int32)) hx hb dL_law_1299 (by decide) ?_
  refine lv_iadd hx hb dL_law_1300 ?_
  refine va_sld hx hb hX hbl hbA hS1 j3 dL_law_1301 ?_
  refine lv_aload_n hx hb dL_law_1302 rfl (lv_at hl 0 rfl) ?_
  refine lv_iload_n hx hb dL_law_1303 rfl (lv_at hl 3 rfl) ?_
  refine lv_iconst (v := (4 : Int32)) hx hb dL_law_1304 (by decide) ?_
  refine lv_iadd hx hb dL_law_1305 ?_
  refine va_sld hx hb hX hbl hbA hS1 j4 dL_law_1306 ?_
  refine lv_i2l (v := (xs ((nI i) + (4 : Int32)).toNatClampNeg).toInt64) hx hb dL_law_1307 rfl ?_
  refine lv_bipush (v := (32 : Int32)) hx hb dL_law_1308 (by decide) ?_
  refine lv_lshl (v := ((xs ((nI i) + (4 : Int32)).toNatClampNeg).toInt64 <<< ((32 : Int32).toInt64 &&& 63))) hx hb dL_law_1310 rfl ?_
  refine lv_aload_n hx hb dL_law_1311 rfl (lv_at hl 0 rfl) ?_
  refine lv_iload_n hx hb dL_law_1312 rfl (lv_at hl 3 rfl) ?_
  refine lv_iconst (v := (5 : Int32)) hx hb dL_law_1313 (by decide) ?_
  refine lv_iadd hx hb dL_law_1314 ?_
  refine va_sld hx hb hX hbl hbA hS1 j5 dL_law_1315 ?_
  refine lv_i2l (v := (xs ((nI i) + (5 : Int32)).toNatClampNeg).toInt64) hx hb dL_law_1316 rfl ?_
  refine lv_ldc2 (v := (4294967295 : Int64)) hx hb hown (hts (.constantLong RL 44 (4294967295)) (List.mem_append_left _ (List.mem_append_left _ (List.mem_append_left _ (List.mem_append_left _ (List.mem_append_left _ (List.mem_append_left _ (List.mem_append_left _ (List.mem_append_left _ (List.mem_append_left _ (List.mem_append_left _ (List.mem_append_left _ (List.mem_append_left _ (List.mem_append_left _ (List.mem_of_getElem? (i := 6) rfl))))))))))))))) dL_law_1317 ?_
  refine lv_land hx hb dL_law_1320 ?_
  refine lv_lor hx hb dL_law_1321 ?_
  refine va_calli (va_runV (As := [.int (xs ((nI i) + (1 : Int32)).toNatClampNeg), .int (xs ((nI i) + (2 : Int32)).toNatClampNeg), .int (xs ((nI i) + (3 : Int32)).toNatClampNeg), .long (((xs ((nI i) + (4 : Int32)).toNatClampNeg).toInt64 <<< ((32 : Int32).toInt64 &&& 63)) ||| ((xs ((nI i) + (5 : Int32)).toNatClampNeg).toInt64 &&& (4294967295 : Int64)))]) (rest := [.int r]) ⟨hx, hb, hml, hown, hts⟩ (cc_X10_item l dC dI fu a2 k2 H1.size (xs ((nI i) + (1 : Int32)).toNatClampNeg) (xs ((nI i) + (2 : Int32)).toNatClampNeg) (xs ((nI i) + (3 : Int32)).toNatClampNeg) (((xs ((nI i) + (4 : Int32)).toNatClampNeg).toInt64 <<< ((32 : Int32).toInt64 &&& 63)) ||| ((xs ((nI i) + (5 : Int32)).toNatClampNeg).toInt64 &&& (4294967295 : Int64))) s2 (r, m') e2) (cwV 4 hts gL_law_X10_item rfl rfl rfl (by decide +kernel) ⟨Nat.le_of_ble_eq_true rfl, Nat.le_of_ble_eq_true rfl⟩) (pf_v (hK.sub (tys' := zt_10 k2) [51, 52, 53, 54, 55, 56, 57, 58, 59, 60, 61, 62, 63, 64, 65, 66, 67, 68, 69, 70, 71] rfl) (sub_P (sb_9_10__1c0 a1 a2 k1 k2 c' s2) hP1) (sub_D (sb_9_10__1c0 a1 a2 k1 k2 c' s2) hD1) 10 0 rfl rfl rfl) rfl rfl hl.1 rfl (lv_room (Nat.le_of_ble_eq_true rfl)) dL_law_1322 ⟨Nat.le_of_ble_eq_true rfl, Nat.le_of_ble_eq_true rfl⟩) hS1 (fun q _ h => (sub_F (sb_9_10__1c0 a1 a2 k1 k2 c' s2) hD1 hS1 hA) q h) (sub_F (sb_9_10__1c0 a1 a2 k1 k2 c' s2) hD1 hS1 hA) (fun r2 v2 t2 H2 locs2 ht2 hvm2 hw2 hB2 hz2 hk2 hS2 => ?_)
  obtain rfl : r = r2 := congrArg Prod.fst hw2
  obtain rfl : m' = v2 := congrArg Prod.snd hw2
  obtain ⟨hP2, hD2⟩ := jn_sub (sb_9_10__1c0 a1 a2 k1 k2 c' s2) (jo_9_10__1c0__0 a1 a2 k1 k2 c' s2 m') rfl hP1 hD1 hk2 ht2 hB2
  have hP2 : va_P (dC, dI) vwCl (zc_9 a1 k1 c' ++ zc_10 a2 k2 m') H2 := hP2
  have hD2 : va_D (fun q : Nat => s.heap.size ≤ q) (zc_9 a1 k1 c' ++ zc_10 a2 k2 m') := hD2
  clear hP1 hD1 hS1 hB2 hk2 hvm2 hz2 ht2
  refine lv_icmp_eq (tgt := 1383) hx hb dL_law_1325 (by decide) (fun _ => ?_) (fun c => absurd rfl c)
  exact tail c' m' hRel2 H2 locs2 ls hP2 hD2 hS2 hl
set_option maxHeartbeats 4000000 in
set_option maxRecDepth 100000 in
theorem lc_film {p : Program} {l : Launch} {e : Env} {s : State} {m : MethodId} {below : List Frame} {meth : Method} {c : Code} {dC : Nat → ClassId} {dI : Nat → Nat → Nat} {b L : Nat} {xs : Nat → Int32} {fu : Nat} {Rel : ZT_9 → ZT_10 → Prop} (h_film : St_film fu Rel) (a1 a2 : Nat → Nat) (k1 k2 : Nat → ClassId) (hL : L ≤ 4608) (hx : p.tables.exec = Jvm.exec) (hb : c.code = code) (hml : c.maxLocals = 4) (hown : s.vm.findClass RL = some m.cls) (hts : ∀ w ∈ wsL_law, w.before #[Value.ref b] s = true) (hX : va_X b L xs s s.heap) (hbl : b < s.heap.size) (hN : va_Nw nestW s) (hK : va_K (dC, dI) vwCl (zt_9 k1 ++ zt_10 k2) s) {i : Nat} (h9 : i + 9 ≤ L) (tail : ∀ (s1 : ZT_9) (s2 : ZT_10), Rel s1 s2 → ∀ (H : Heap) (locs : List Loc) (ls : Array Slot), va_P (dC, dI) vwCl (zc_9 a1 k1 s1 ++ zc_10 a2 k2 s2) H → va_D (fun q : Nat => s.heap.size ≤ q) (zc_9 a1 k1 s1 ++ zc_10 a2 k2 s2) → va_S (fun q : Nat => s.heap.size ≤ q) s.heap H locs → lv_has ls 4 [(0, .ref b), (1, .ref (a1 0)), (2, .ref (a2 0)), (3, .int (nI i))] → W p l e room_1 s m #[Value.ref b] below meth c H locs 92 2785 (lw_Z below #[Value.ref b] s) (F0 m 1383 ls [])) (s1 : ZT_9) (s2 : ZT_10) (hRel : Rel s1 s2) (H : Heap) (locs : List Loc) (ls : Array Slot) (hP : va_P (dC, dI) vwCl (zc_9 a1 k1 s1 ++ zc_10 a2 k2 s2) H) (hD : va_D (fun q : Nat => s.heap.size ≤ q) (zc_9 a1 k1 s1 ++ zc_10 a2 k2 s2)) (hS : va_S (fun q : Nat => s.heap.size ≤ q) s.heap H locs) (hl : lv_has ls 4 [(0, .ref b), (1, .ref (a1 0)), (2, .ref (a2 0)), (3, .int (nI i))]) : W p l e room_1 s m #[Value.ref b] below meth c H locs 92 2785 (lw_Z below #[Value.ref b] s) (F0 m 1330 ls []) := by
  have hA : ∀ q : Nat, s.heap.size ≤ q → (fun q : Nat => s.heap.size ≤ q) q := fun _ h => h
  have hbA : ¬ (fun q : Nat => s.heap.size ≤ q) b := Nat.not_le.mpr hbl
  have j1 : vp_in ((nI i) + (1 : Int32)) L := sc_in 1 (1 : Int32) rfl (by omega) hL
  have j2 : vp_in ((nI i) + (2 : Int32)) L := sc_in 2 (2 : Int32) rfl (by omega) hL
  have j3 : vp_in ((nI i) + (3 : Int32)) L := sc_in 3 (3 : Int32) rfl (by omega) hL
  have j4 : vp_in ((nI i) + (4 : Int32)) L := sc_in 4 (4 : Int32) rfl (by omega) hL
  have j5 : vp_in ((nI i) + (5 : Int32)) L := sc_in 5 (5 : Int32) rfl (by omega) hL
  have j6 : vp_in ((nI i) + (6 : Int32)) L := sc_in 6 (6 : Int32) rfl (by omega) hL
  have j7 : vp_in ((nI i) + (7 : Int32)) L := sc_in 7 (7 : Int32) rfl (by omega) hL
  have j8 : vp_in ((nI i) + (8 : Int32)) L := sc_in 8 (8 : Int32) rfl (by omega) hL
  refine lv_aload_n hx hb dL_law_1330 rfl (lv_at hl 1 rfl) ?_
  refine lv_aload_n hx hb dL_law_1331 rfl (lv_at hl 0 rfl) ?_
  refine lv_iload_n hx hb dL_law_1332 rfl (lv_at hl 3 rfl) ?_
  refine lv_iconst (v := (1 : Int32)) hx hb dL_law_1333 (by decide) ?_
  refine lv_iadd hx hb dL_law_1334 ?_
  refine va_sld hx hb hX hbl hbA hS j1 dL_law_1335 ?_
  refine lv_aload_n hx hb dL_law_1336 rfl (lv_at hl 0 rfl) ?_
  refine lv_iload_n hx hb dL_law_1337 rfl (lv_at hl 3 rfl) ?_
  refine lv_iconst (v := (2 : Int32)) hx hb dL_law_1338 (by decide) ?_
  refine lv_iadd hx hb dL_law_1339 ?_
  refine va_sld hx hb hX hbl hbA hS j2 dL_law_1340 ?_
  refine lv_aload_n hx hb dL_law_1341 rfl (lv_at hl 0 rfl) ?_
  refine lv_iload_n hx hb dL_law_1342 rfl (lv_at hl 3 rfl) ?_
  refine lv_iconst (v := (3 : Int32)) hx hb dL_law_1343 (by decide) ?_
  refine lv_iadd hx hb dL_law_1344 ?_
  refine va_sld hx hb hX hbl hbA hS j3 dL_law_1345 ?_
  refine lv_aload_n hx hb dL_law_1346 rfl (lv_at hl 0 rfl) ?_
  refine lv_iload_n hx hb dL_law_1347 rfl (lv_at hl 3 rfl) ?_
  refine lv_iconst (v := (4 : Int32)) hx hb dL_law_1348 (by decide) ?_
  refine lv_iadd hx hb dL_law_1349 ?_
  refine va_sld hx hb hX hbl hbA hS j4 dL_law_1350 ?_
  obtain ⟨r, c', m', e1, e2, hRel2⟩ := h_film (xs ((nI i) + (1 : Int32)).toNatClampNeg) (xs ((nI i) + (2 : Int32)).toNatClampNeg) (xs ((nI i) + (3 : Int32)).toNatClampNeg) (xs ((nI i) + (4 : Int32)).toNatClampNeg) s1 s2 hRel
  refine va_calli (va_runV (As := [.int (xs ((nI i) + (1 : Int32)).toNatClampNeg), .int (xs ((nI i) + (2 : Int32)).toNatClampNeg), .int (xs ((nI i) + (3 : Int32)).toNatClampNeg), .int (xs ((nI i) + (4 : Int32)).toNatClampNeg)]) (rest := []) ⟨hx, hb, hml, hown, hts⟩ (cc_X9_film l dC dI fu a1 k1 H.size (xs ((nI i) + (1 : Int32)).toNatClampNeg) (xs ((nI i) + (2 : Int32)).toNatClampNeg) (xs ((nI i) + (3 : Int32)).toNatClampNeg) (xs ((nI i) + (4 : Int32)).toNatClampNeg) s1 (r, c') e1) (cwV 4 hts gL_law_X9_film rfl rfl rfl (by decide +kernel) ⟨Nat.le_of_ble_eq_true rfl, Nat.le_of_ble_eq_true rfl⟩) (pf_v (hK.sub (tys' := zt_9 k1) [0, 1, 2, 3, 4, 5, 6, 7, 8, 9, 10, 11, 12, 13, 14, 15, 16, 17, 18, 19, 20, 21, 22, 23, 24, 25, 26, 27, 28, 29, 30, 31, 32, 33, 34, 35, 36, 37, 38, 39, 40, 41, 42, 43, 44, 45, 46, 47, 48, 49, 50] rfl) (sub_P (sb_9_10__0c0 a1 a2 k1 k2 s1 s2) hP) (sub_D (sb_9_10__0c0 a1 a2 k1 k2 s1 s2) hD) 9 0 rfl rfl rfl) rfl rfl hl.1 rfl (lv_room (Nat.le_of_ble_eq_true rfl)) dL_law_1351 ⟨Nat.le_of_ble_eq_true rfl, Nat.le_of_ble_eq_true rfl⟩) hS (fun q _ h => (sub_F (sb_9_10__0c0 a1 a2 k1 k2 s1 s2) hD hS hA) q h) (sub_F (sb_9_10__0c0 a1 a2 k1 k2 s1 s2) hD hS hA) (fun r1 v1 t1 H1 locs1 ht1 hvm1 hw1 hB1 hz1 hk1 hS1 => ?_)
  obtain rfl : r = r1 := congrArg Prod.fst hw1
  obtain rfl : c' = v1 := congrArg Prod.snd hw1
  obtain ⟨hP1, hD1⟩ := jn_sub (sb_9_10__0c0 a1 a2 k1 k2 s1 s2) (jo_9_10__0c0__0 a1 a2 k1 k2 s1 s2 c') rfl hP hD hk1 ht1 hB1
  have hP1 : va_P (dC, dI) vwCl (zc_9 a1 k1 c' ++ zc_10 a2 k2 s2) H1 := hP1
  have hD1 : va_D (fun q : Nat => s.heap.size ≤ q) (zc_9 a1 k1 c' ++ zc_10 a2 k2 s2) := hD1
  clear hP hD hS hB1 hk1 hvm1 hz1 ht1
  refine lv_aload_n hx hb dL_law_1354 rfl (lv_at hl 2 rfl) ?_
  refine lv_aload_n hx hb dL_law_1355 rfl (lv_at hl 0 rfl) ?_
  refine lv_iload_n hx hb dL_law_1356 rfl (lv_at hl 3 rfl) ?_
  refine lv_iconst (v := (1 : Int32)) hx hb dL_law_1357 (by decide) ?_
  refine lv_iadd hx hb dL_law_1358 ?_
  refine va_sld hx hb hX hbl hbA hS1 j1 dL_law_1359 ?_
  refine lv_aload_n hx hb dL_law_1360 rfl (lv_at hl 0 rfl) ?_
  refine lv_iload_n hx hb dL_law_1361 rfl (lv_at hl 3 rfl) ?_
  refine lv_iconst (v := (2 : Int32)) hx hb dL_law_1362 (by decide) ?_
  refine lv_iadd hx hb dL_law_1363 ?_
  refine va_sld hx hb hX hbl hbA hS1 j2 dL_law_1364 ?_
  refine lv_aload_n hx hb dL_law_1365 rfl (lv_at hl 0 rfl) ?_
  refine lv_iload_n hx hb dL_law_1366 rfl (lv_at hl 3 rfl) ?_
  refine lv_iconst (v := (3 : Int32)) hx hb dL_law_1367 (by decide) ?_
  refine lv_iadd hx hb dL_law_1368 ?_
  refine va_sld hx hb hX hbl hbA hS1 j3 dL_law_1369 ?_
  refine lv_aload_n hx hb dL_law_1370 rfl (lv_at hl 0 rfl) ?_
  refine lv_iload_n hx hb dL_law_1371 rfl (lv_at hl 3 rfl) ?_
  refine lv_iconst (v := (4 : Int32)) hx hb dL_law_1372 (by decide) ?_
  refine lv_iadd hx hb dL_law_1373 ?_
  refine va_sld hx hb hX hbl hbA hS1 j4 dL_law_1374 ?_
  refine va_calli (va_runV (As := [.int (xs ((nI i) + (1 : Int32)).toNatClampNeg), .int (xs ((nI i) + (2 : Int32)).toNatClampNeg), .int (xs ((nI i) + (3 : Int32)).toNatClampNeg), .int (xs ((nI i) + (4 : Int32)).toNatClampNeg)]) (rest := [.int r]) ⟨hx, hb, hml, hown, hts⟩ (cc_X10_film l dC dI fu a2 k2 H1.size (xs ((nI i) + (1 : Int32)).toNatClampNeg) (xs ((nI i) + (2 : Int32)).toNatClampNeg) (xs ((nI i) + (3 : Int32)).toNatClampNeg) (xs ((nI i) + (4 : Int32)).toNatClampNeg) s2 (r, m') e2) (cwV 4 hts gL_law_X10_film rfl rfl rfl (by decide +kernel) ⟨Nat.le_of_ble_eq_true rfl, Nat.le_of_ble_eq_true rfl⟩) (pf_v (hK.sub (tys' := zt_10 k2) [51, 52, 53, 54, 55, 56, 57, 58, 59, 60, 61, 62, 63, 64, 65, 66, 67, 68, 69, 70, 71] rfl) (sub_P (sb_9_10__1c0 a1 a2 k1 k2 c' s2) hP1) (sub_D (sb_9_10__1c0 a1 a2 k1 k2 c' s2) hD1) 10 0 rfl rfl rfl) rfl rfl hl.1 rfl (lv_room (Nat.le_of_ble_eq_true rfl)) dL_law_1375 ⟨Nat.le_of_ble_eq_true rfl, Nat.le_of_ble_eq_true rfl⟩) hS1 (fun q _ h => (sub_F (sb_9_10__1c0 a1 a2 k1 k2 c' s2) hD1 hS1 hA) q h) (sub_F (sb_9_10__1c0 a1 a2 k1 k2 c' s2) hD1 hS1 hA) (fun r2 v2 t2 H2 locs2 ht2 hvm2 hw2 hB2 hz2 hk2 hS2 => ?_)
  obtain rfl : r = r2 := congrArg Prod.fst hw2
  obtain rfl : m' = v2 := congrArg Prod.snd hw2
  obtain ⟨hP2, hD2⟩ := jn_sub (sb_9_10__1c0 a1 a2 k1 k2 c' s2) (jo_9_10__1c0__0 a1 a2 k1 k2 c' s2 m') rfl hP1 hD1 hk2 ht2 hB2
  have hP2 : va_P (dC, dI) vwCl (zc_9 a1 k1 c' ++ zc_10 a2 k2 m') H2 := hP2
  have hD2 : va_D (fun q : Nat => s.heap.size ≤ q) (zc_9 a1 k1 c' ++ zc_10 a2 k2 m') := hD2
  clear hP1 hD1 hS1 hB2 hk2 hvm2 hz2 ht2
  refine lv_icmp_eq (tgt := 1383) hx hb dL_law_1378 (by decide) (fun _ => ?_) (fun c => absurd rfl c)
  exact tail c' m' hRel2 H2 locs2 ls hP2 hD2 hS2 hl
