set_option maxHeartbeats 4000000 in
set_option maxRecDepth 100000 in
theorem lc_home {p : Program} {l : Launch} {e : Env} {s : State} {m : MethodId} {below : List Frame} {meth : Method} {c : Code} {dC : Nat → ClassId} {dI : Nat → Nat → Nat} {b L : Nat} {xs : Nat → Int32} {fu : Nat} {Rel : ZT_9 → ZT_10 → Prop} (h_home : St_home fu Rel) (a1 a2 : Nat → Nat) (k1 k2 : Nat → ClassId) (hL : L ≤ 4608) (hx : p.tables.exec = Jvm.exec) (hb : c.code = code) (hml : c.maxLocals = 4) (hown : s.vm.findClass RL = some m.cls) (hts : ∀ w ∈ wsL_law, w.before #[Value.ref b] s = true) (hX : va_X b L xs s s.heap) (hbl : b < s.heap.size) (hN : va_Nw nestW s) (hK : va_K (dC, dI) vwCl (zt_9 k1 ++ zt_10 k2) s) {i : Nat} (h9 : i + 9 ≤ L) (tail : ∀ (s1 : ZT_9) (s2 : ZT_10), Rel s1 s2 → ∀ (H : Heap) (locs : List Loc) (ls : Array Slot), va_P (dC, dI) vwCl (zc_9 a1 k1 s1 ++ zc_10 a2 k2 s2) H → va_D (fun q : Nat => s.heap.size ≤ q) (zc_9 a1 k1 s1 ++ zc_10 a2 k2 s2) → va_S (fun q : Nat => s.heap.size ≤ q) s.heap H locs → lv_has ls 4 [(0, .ref b), (1, .ref (a1 0)), (2, .ref (a2 0)), (3, .int (nI i))] → W p l e room_1 s m #[Value.ref b] below meth c H locs 92 2785 (lw_Z below #[Value.ref b] s) (F0 m 1383 ls [])) (s1 : ZT_9) (s2 : ZT_10) (hRel : Rel s1 s2) (H : Heap) (locs : List Loc) (ls : Array Slot) (hP : va_P (dC, dI) vwCl (zc_9 a1 k1 s1 ++ zc_10 a2 k2 s2) H) (hD : va_D (fun q : Nat => s.heap.size ≤ q) (zc_9 a1 k1 s1 ++ zc_10 a2 k2 s2)) (hS : va_S (fun q : Nat => s.heap.size ≤ q) s.heap H locs) (hl : lv_has ls 4 [(0, .ref b), (1, .ref (a1 0)), (2, .ref (a2 0)), (3, .int (nI i))]) : W p l e room_1 s m #[Value.ref b] below meth c H locs 92 2785 (lw_Z below #[Value.ref b] s) (F0 m 750 ls []) := by
  have hA : ∀ q : Nat, s.heap.size ≤ q → (fun q : Nat => s.heap.size ≤ q) q := fun _ h => h
  have hbA : ¬ (fun q : Nat => s.heap.size ≤ q) b := Nat.not_le.mpr hbl
  have j1 : vp_in ((nI i) + (1 : Int32)) L := sc_in 1 (1 : Int32) rfl (by omega) hL
  have j2 : vp_in ((nI i) + (2 : Int32)) L := sc_in 2 (2 : Int32) rfl (by omega) hL
  have j3 : vp_in ((nI i) + (3 : Int32)) L := sc_in 3 (3 : Int32) rfl (by omega) hL
  have j4 : vp_in ((nI i) + (4 : Int32)) L := sc_in 4 (4 : Int32) rfl (by omega) hL
  have j5 : vp_in ((nI i) + (5 : Int32)) L := sc_in 5 (5 : Int32) rfl (by omega) hL
  have j6 : vp_in ((nI i) + (6 : Int32)) L := sc_in 6 (6 : Int32) rfl (by omega) hL
  have j7 : vp_in ((nI i) + (7 : Int32)) L := sc_in 7 (7 : Int32) rfl (by omega) hL
  have j8 : vp_in ((nI i) + (8 : Int32)) L := sc_in 8 (8 : Int32) rfl (by omega) hL
  refine lv_aload_n hx hb dL_law_750 rfl (lv_at hl 1 rfl) ?_
  obtain ⟨r, c', m', e1, e2, hRel2⟩ := h_home s1 s2 hRel
  refine va_calli (va_runV (As := []) (rest := []) ⟨hx, hb, hml, hown, hts⟩ (cc_X9_home l dC dI fu a1 k1 H.size s1 (r, c') e1) (cwV 0 hts gL_law_X9_home rfl rfl rfl (by decide +kernel) ⟨Nat.le_of_ble_eq_true rfl, Nat.le_of_ble_eq_true rfl⟩) (pf_v (hK.sub (tys' := zt_9 k1) [0, 1, 2, 3, 4, 5, 6, 7, 8, 9, 10, 11, 12, 13, 14, 15, 16, 17, 18, 19, 20, 21, 22, 23, 24, 25, 26, 27, 28, 29, 30, 31, 32, 33, 34, 35, 36, 37, 38, 39, 40, 41, 42, 43, 44, 45, 46, 47, 48, 49, 50] rfl) (sub_P (sb_9_10__0c0 a1 a2 k1 k2 s1 s2) hP) (sub_D (sb_9_10__0c0 a1 a2 k1 k2 s1 s2) hD) 9 0 rfl rfl rfl) rfl rfl hl.1 rfl (lv_room (Nat.le_of_ble_eq_true rfl)) dL_law_751 ⟨Nat.le_of_ble_eq_true rfl, Nat.le_of_ble_eq_true rfl⟩) hS (fun q _ h => (sub_F (sb_9_10__0c0 a1 a2 k1 k2 s1 s2) hD hS hA) q h) (sub_F (sb_9_10__0c0 a1 a2 k1 k2 s1 s2) hD hS hA) (fun r1 v1 t1 H1 locs1 ht1 hvm1 hw1 hB1 hz1 hk1 hS1 => ?_)
  obtain rfl : r = r1 := congrArg Prod.fst hw1
  obtain rfl : c' = v1 := congrArg Prod.snd hw1
  obtain ⟨hP1, hD1⟩ := jn_sub (sb_9_10__0c0 a1 a2 k1 k2 s1 s2) (jo_9_10__0c0__0 a1 a2 k1 k2 s1 s2 c') rfl hP hD hk1 ht1 hB1
  have hP1 : va_P (dC, dI) vwCl (zc_9 a1 k1 c' ++ zc_10 a2 k2 s2) H1 := hP1
  have hD1 : va_D (fun q : Nat => s.heap.size ≤ q) (zc_9 a1 k1 c' ++ zc_10 a2 k2 s2) := hD1
  clear hP hD hS hB1 hk1 hvm1 hz1 ht1
  refine lv_aload_n hx hb dL_law_754 rfl (lv_at hl 2 rfl) ?_
  refine va_calli (va_runV (As := []) (rest := [.int r]) ⟨hx, hb, hml, hown, hts⟩ (cc_X10_home l dC dI fu a2 k2 H1.size s2 (r, m') e2) (cwV 0 hts gL_law_X10_home rfl rfl rfl (by decide +kernel) ⟨Nat.le_of_ble_eq_true rfl, Nat.le_of_ble_eq_true rfl⟩) (pf_v (hK.sub (tys' := zt_10 k2) [51, 52, 53, 54, 55, 56, 57, 58, 59, 60, 61, 62, 63, 64, 65, 66, 67, 68, 69, 70, 71] rfl) (sub_P (sb_9_10__1c0 a1 a2 k1 k2 c' s2) hP1) (sub_D (sb_9_10__1c0 a1 a2 k1 k2 c' s2) hD1) 10 0 rfl rfl rfl) rfl rfl hl.1 rfl (lv_room (Nat.le_of_ble_eq_true rfl)) dL_law_755 ⟨Nat.le_of_ble_eq_true rfl, Nat.le_of_ble_eq_true rfl⟩) hS1 (fun q _ h => (sub_F (sb_9_10__1c0 a1 a2 k1 k2 c' s2) hD1 hS1 hA) q h) (sub_F (sb_9_10__1c0 a1 a2 k1 k2 c' s2) hD1 hS1 hA) (fun r2 v2 t2 H2 locs2 ht2 hvm2 hw2 hB2 hz2 hk2 hS2 => ?_)
  obtain rfl : r = r2 := congrArg Prod.fst hw2
  obtain rfl : m' = v2 := congrArg Prod.snd hw2
  obtain ⟨hP2, hD2⟩ := jn_sub (sb_9_10__1c0 a1 a2 k1 k2 c' s2) (jo_9_10__1c0__0 a1 a2 k1 k2 c' s2 m') rfl hP1 hD1 hk2 ht2 hB2
  have hP2 : va_P (dC, dI) vwCl (zc_9 a1 k1 c' ++ zc_10 a2 k2 m') H2 := hP2
  have hD2 : va_D (fun q : Nat => s.heap.size ≤ q) (zc_9 a1 k1 c' ++ zc_10 a2 k2 m') := hD2
  clear hP1 hD1 hS1 hB2 hk2 hvm2 hz2 ht2
  refine lv_icmp_eq (tgt := 1383) hx hb dL_law_758 (by decide) (fun _ => ?_) (fun c => absurd rfl c)
  exact tail c' m' hRel2 H2 locs2 ls hP2 hD2 hS2 hl
set_option maxHeartbeats 4000000 in
set_option maxRecDepth 100000 in
theorem lc_order {p : Program} {l : Launch} {e : Env} {s : State} {m : MethodId} {below : List Frame} {meth : Method} {c : Code} {dC : Nat → ClassId} {dI : Nat → Nat → Nat} {b L : Nat} {xs : Nat → Int32} {fu : Nat} {Rel : ZT_9 → ZT_10 → Prop} (h_order : St_order fu Rel) (a1 a2 : Nat → Nat) (k1 k2 : Nat → ClassId) (hL : L ≤ 4608) (hx : p.tables.exec = Jvm.exec) (hb : c.code = code) (hml : c.maxLocals = 4) (hown : s.vm.findClass RL = some m.cls) (hts : ∀ w ∈ wsL_law, w.before #[Value.ref b] s = true) (hX : va_X b L xs s s.heap) (hbl : b < s.heap.size) (hN : va_Nw nestW s) (hK : va_K (dC, dI) vwCl (zt_9 k1 ++ zt_10 k2) s) {i : Nat} (h9 : i + 9 ≤ L) (tail : ∀ (s1 : ZT_9) (s2 : ZT_10), Rel s1 s2 → ∀ (H : Heap) (locs : List Loc) (ls : Array Slot), va_P (dC, dI) vwCl (zc_9 a1 k1 s1 ++ zc_10 a2 k2 s2) H → va_D (fun q : Nat => s.heap.size ≤ q) (zc_9 a1 k1 s1 ++ zc_10 a2 k2 s2) → va_S (fun q : Nat => s.heap.size ≤ q) s.heap H locs → lv_has ls 4 [(0, .ref b), (1, .ref (a1 0)), (2, .ref (a2 0)), (3, .int (nI i))] → W p l e room_1 s m #[Value.ref b] below meth c H locs 92 2785 (lw_Z below #[Value.ref b] s) (F0 m 1383 ls [])) (s1 : ZT_9) (s2 : ZT_10) (hRel : Rel s1 s2) (H : Heap) (locs : List Loc) (ls : Array Slot) (hP : va_P (dC, dI) vwCl (zc_9 a1 k1 s1 ++ zc_10 a2 k2 s2) H) (hD : va_D (fun q : Nat => s.heap.size ≤ q) (zc_9 a1 k1 s1 ++ zc_10 a2 k2 s2)) (hS : va_S (fun q : Nat => s.heap.size ≤ q) s.heap H locs) (hl : lv_has ls 4 [(0, .ref b), (1, .ref (a1 0)), (2, .ref (a2 0)), (3, .int (nI i))]) : W p l e room_1 s m #[Value.ref b] below meth c H locs 92 2785 (lw_Z below #[Value.ref b] s) (F0 m 763 ls []) := by
  have hA : ∀ q : Nat, s.heap.size ≤ q → (fun q : Nat => s.heap.size ≤ q) q := fun _ h => h
  have hbA : ¬ (fun q : Nat => s.heap.size ≤ q) b := Nat.not_le.mpr hbl
  have j1 : vp_in ((nI i) + (1 : Int32)) L := sc_in 1 (1 : Int32) rfl (by omega) hL
  have j2 : vp_in ((nI i) + (2 : Int32)) L := sc_in 2 (2 : Int32) rfl (by omega) hL
  have j3 : vp_in ((nI i) + (3 : Int32)) L := sc_in 3 (3 : Int32) rfl (by omega) hL
  have j4 : vp_in ((nI i) + (4 : Int32)) L := sc_in 4 (4 : Int32) rfl (by omega) hL
  have j5 : vp_in ((nI i) + (5 : Int32)) L := sc_in 5 (5 : Int32) rfl (by omega) hL
  have j6 : vp_in ((nI i) + (6 : Int32)) L := sc_in 6 (6 : Int32) rfl (by omega) hL
  have j7 : vp_in ((nI i) + (7 : Int32)) L := sc_in 7 (7 : Int32) rfl (by omega) hL
  have j8 : vp_in ((nI i) + (8 : Int32)) L := sc_in 8 (8 : Int32) rfl (by omega) hL
  refine lv_aload_n hx hb dL_law_763 rfl (lv_at hl 1 rfl) ?_
  refine lv_aload_n hx hb dL_law_764 rfl (lv_at hl 0 rfl) ?_
  refine lv_iload_n hx hb dL_law_765 rfl (lv_at hl 3 rfl) ?_
  refine lv_iconst (v := (1 : Int32)) hx hb dL_law_766 (by decide) ?_
  refine lv_iadd hx hb dL_law_767 ?_
  refine va_sld hx hb hX hbl hbA hS j1 dL_law_768 ?_
  refine lv_aload_n hx hb dL_law_769 rfl (lv_at hl 0 rfl) ?_
  refine lv_iload_n hx hb dL_law_770 rfl (lv_at hl 3 rfl) ?_
  refine lv_iconst (v := (2 : Int32)) hx hb dL_law_771 (by decide) ?_
  refine lv_iadd hx hb dL_law_772 ?_
  refine va_sld hx hb hX hbl hbA hS j2 dL_law_773 ?_
  obtain ⟨r, c', m', e1, e2, hRel2⟩ := h_order (xs ((nI i) + (1 : Int32)).toNatClampNeg) (xs ((nI i) + (2 : Int32)).toNatClampNeg) s1 s2 hRel
  refine va_calli (va_runV (As := [.int (xs ((nI i) + (1 : Int32)).toNatClampNeg), .int (xs ((nI i) + (2 : Int32)).toNatClampNeg)]) (rest := []) ⟨hx, hb, hml, hown, hts⟩ (cc_X9_order l dC dI fu a1 k1 H.size (xs ((nI i) + (1 : Int32)).toNatClampNeg) (xs ((nI i) + (2 : Int32)).toNatClampNeg) s1 (r, c') e1) (cwV 2 hts gL_law_X9_order rfl rfl rfl (by decide +kernel) ⟨Nat.le_of_ble_eq_true rfl, Nat.le_of_ble_eq_true rfl⟩) (pf_v (hK.sub (tys' := zt_9 k1) [0, 1, 2, 3, 4, 5, 6, 7, 8, 9, 10, 11, 12, 13, 14, 15, 16, 17, 18, 19, 20, 21, 22, 23, 24, 25, 26, 27, 28, 29, 30, 31, 32, 33, 34, 35, 36, 37, 38, 39, 40, 41, 42, 43, 44, 45, 46, 47, 48, 49, 50] rfl) (sub_P (sb_9_10__0c0 a1 a2 k1 k2 s1 s2) hP) (sub_D (sb_9_10__0c0 a1 a2 k1 k2 s1 s2) hD) 9 0 rfl rfl rfl) rfl rfl hl.1 rfl (lv_room (Nat.le_of_ble_eq_true rfl)) dL_law_774 ⟨Nat.le_of_ble_eq_true rfl, Nat.le_of_ble_eq_true rfl⟩) hS (fun q _ h => (sub_F (sb_9_10__0c0 a1 a2 k1 k2 s1 s2) hD hS hA) q h) (sub_F (sb_9_10__0c0 a1 a2 k1 k2 s1 s2) hD hS hA) (fun r1 v1 t1 H1 locs1 ht1 hvm1 hw1 hB1 hz1 hk1 hS1 => ?_)
  obtain rfl : r = r1 := congrArg Prod.fst hw1
  obtain rfl : c' = v1 := congrArg Prod.snd hw1
  obtain ⟨hP1, hD1⟩ := jn_sub (sb_9_10__0c0 a1 a2 k1 k2 s1 s2) (jo_9_10__0c0__0 a1 a2 k1 k2 s1 s2 c') rfl hP hD hk1 ht1 hB1
  have hP1 : va_P (dC, dI) vwCl (zc_9 a1 k1 c' ++ zc_10 a2 k2 s2) H1 := hP1
  have hD1 : va_D (fun q : Nat => s.heap.size ≤ q) (zc_9 a1 k1 c' ++ zc_10 a2 k2 s2) := hD1
  clear hP hD hS hB1 hk1 hvm1 hz1 ht1
  refine lv_aload_n hx hb dL_law_777 rfl (lv_at hl 2 rfl) ?_
  refine lv_aload_n hx hb dL_law_778 rfl (lv_at hl 0 rfl) ?_
  refine lv_iload_n hx hb dL_law_779 rfl (lv_at hl 3 rfl) ?_
  refine lv_iconst (v := (1 : Int32)) hx hb dL_law_780 (by decide) ?_
  refine lv_iadd hx hb dL_law_781 ?_
  refine va_sld hx hb hX hbl hbA hS1 j1 dL_law_782 ?_
  refine lv_aload_n hx hb dL_law_783 rfl (lv_at hl 0 rfl) ?_
  refine lv_iload_n hx hb dL_law_784 rfl (lv_at hl 3 rfl) ?_
  refine lv_iconst (v := (2 : Int32)) hx hb dL_law_785 (by decide) ?_
  refine lv_iadd hx hb dL_law_786 ?_
  refine va_sld hx hb hX hbl hbA hS1 j2 dL_law_787 ?_
  refine va_calli (va_runV (As := [.int (xs ((nI i) + (1 : Int32)).toNatClampNeg), .int (xs ((nI i) + (2 : Int32)).toNatClampNeg)]) (rest := [.int r]) ⟨hx, hb, hml, hown, hts⟩ (cc_X10_order l dC dI fu a2 k2 H1.size (xs ((nI i) + (1 : Int32)).toNatClampNeg) (xs ((nI i) + (2 : Int32)).toNatClampNeg) s2 (r, m') e2) (cwV 2 hts gL_law_X10_order rfl rfl rfl (by decide +kernel) ⟨Nat.le_of_ble_eq_true rfl, Nat.le_of_ble_eq_true rfl⟩) (pf_v (hK.sub (tys' := zt_10 k2) [51, 52, 53, 54, 55, 56, 57, 58, 59, 60, 61, 62, 63, 64, 65, 66, 67, 68, 69, 70, 71] rfl) (sub_P (sb_9_10__1c0 a1 a2 k1 k2 c' s2) hP1) (sub_D (sb_9_10__1c0 a1 a2 k1 k2 c' s2) hD1) 10 0 rfl rfl rfl) rfl rfl hl.1 rfl (lv_room (Nat.le_of_ble_eq_true rfl)) dL_law_788 ⟨Nat.le_of_ble_eq_true rfl, Nat.le_of_ble_eq_true rfl⟩) hS1 (fun q _ h => (sub_F (sb_9_10__1c0 a1 a2 k1 k2 c' s2) hD1 hS1 hA) q h) (sub_F (sb_9_10__1c0 a1 a2 k1 k2 c' s2) hD1 hS1 hA) (fun r2 v2 t2 H2 locs2 ht2 hvm2 hw2 hB2 hz2 hk2 hS2 => ?_)
  obtain rfl : r = r2 := congrArg Prod.fst hw2
  obtain rfl : m' = v2 := congrArg Prod.snd hw2
  obtain ⟨hP2, hD2⟩ := jn_sub (sb_9_10__1c0 a1 a2 k1 k2 c' s2) (jo_9_10__1c0__0 a1 a2 k1 k2 c' s2 m') rfl hP1 hD1 hk2 ht2 hB2
  have hP2 : va_P (dC, dI) vwCl (zc_9 a1 k1 c' ++ zc_10 a2 k2 m') H2 := hP2
  have hD2 : va_D (fun q : Nat => s.heap.size ≤ q) (zc_9 a1 k1 c' ++ zc_10 a2 k2 m') := hD2
  clear hP1 hD1 hS1 hB2 hk2 hvm2 hz2 ht2
  refine lv_icmp_eq (tgt := 1383) hx hb dL_law_791 (by decide) (fun _ => ?_) (fun c => absurd rfl c)
  exact tail c' m' hRel2 H2 locs2 ls hP2 hD2 hS2 hl
set_option maxHeartbeats 4000000 in
set_option maxRecDepth 100000 in
theorem lc_send {p : Program} {l : Launch} {e : Env} {s : State} {m : MethodId} {below : List Frame} {meth : Method} {c : Code} {dC : Nat → ClassId} {dI : Nat → Nat → Nat} {b L : Nat} {xs : Nat → Int32} {fu : Nat} {Rel : ZT_9 → ZT_10 → Prop} (h_send : St_send fu Rel) (a1 a2 : Nat → Nat) (k1 k2 : Nat → ClassId) (hL : L ≤ 4608) (hx : p.tables.exec = Jvm.exec) (hb : c.code = code) (hml : c.maxLocals = 4) (hown : s.vm.findClass RL = some m.cls) (hts : ∀ w ∈ wsL_law, w.before #[Value.ref b] s = true) (hX : va_X b L xs s s.heap) (hbl : b < s.heap.size) (hN : va_Nw nestW s) (hK : va_K (dC, dI) vwCl (zt_9 k1 ++ zt_10 k2) s) {i : Nat} (h9 : i + 9 ≤ L) (tail : ∀ (s1 : ZT_9) (s2 : ZT_10), Rel s1 s2 → ∀ (H : Heap) (locs : List Loc) (ls : Array Slot), va_P (dC, dI) vwCl (zc_9 a1 k1 s1 ++ zc_10 a2 k2 s2) H → va_D (fun q : Nat => s.heap.size ≤ q) (zc_9 a1 k1 s1 ++ zc_10 a2 k2 s2) → va_S (fun q : Nat => s.heap.size ≤ q) s.heap H locs → lv_has ls 4 [(0, .ref b), (1, .ref (a1 0)), (2, .ref (a2 0)), (3, .int (nI i))] → W p l e room_1 s m #[Value.ref b] below meth c H locs 92 2785 (lw_Z below #[Value.ref b] s) (F0 m 1383 ls [])) (s1 : ZT_9) (s2 : ZT_10) (hRel : Rel s1 s2) (H : Heap) (locs : List Loc) (ls : Array Slot) (hP : va_P (dC, dI) vwCl (zc_9 a1 k1 s1 ++ zc_10 a2 k2 s2) H) (hD : va_D (fun q : Nat => s.heap.size ≤ q) (zc_9 a1 k1 s1 ++ zc_10 a2 k2 s2)) (hS : va_S (fun q : Nat => s.heap.size ≤ q) s.heap H locs) (hl : lv_has ls 4 [(0, .ref b), (1, .ref (a1 0)), (2, .ref (a2 0)), (3, .int (nI i))]) : W p l e room_1 s m #[Value.ref b] below meth c H locs 92 2785 (lw_Z below #[Value.ref b] s) (F0 m 796 ls []) := by
  have hA : ∀ q : Nat, s.heap.size ≤ q → (fun q : Nat => s.heap.size ≤ q) q := fun _ h => h
  have hbA : ¬ (fun q : Nat => s.heap.size ≤ q) b := Nat.not_le.mpr hbl
  have j1 : vp_in ((nI i) + (1 : Int32)) L := sc_in 1 (1 : Int32) rfl (by omega) hL
  have j2 : vp_in ((nI i) + (2 : Int32)) L := sc_in 2 (2 : Int32) rfl (by omega) hL
  have j3 : vp_in ((nI i) + (3 : Int32)) L := sc_in 3 (3 : Int32) rfl (by omega) hL
  have j4 : vp_in ((nI i) + (4 : Int32)) L := sc_in 4 (4 : Int32) rfl (by omega) hL
  have j5 : vp_in ((nI i) + (5 : Int32)) L := sc_in 5 (5 : Int32) rfl (by omega) hL
  have j6 : vp_in ((nI i) + (6 : Int32)) L := sc_in 6 (6 : Int32) rfl (by omega) hL
  have j7 : vp_in ((nI i) + (7 : Int32)) L := sc_in 7 (7 : Int32) rfl (by omega) hL
  have j8 : vp_in ((nI i) + (8 : Int32)) L := sc_in 8 (8 : Int32) rfl (by omega) hL
  refine lv_aload_n hx hb dL_law_796 rfl (lv_at hl 1 rfl) ?_
  refine lv_aload_n hx hb dL_law_797 rfl (lv_at hl 0 rfl) ?_
  refine lv_iload_n hx hb dL_law_798 rfl (lv_at hl 3 rfl) ?_
  refine lv_iconst (v := (1 : Int32)) hx hb dL_law_799 (by decide) ?_
  refine lv_iadd hx hb dL_law_800 ?_
  refine va_sld hx hb hX hbl hbA hS j1 dL_law_801 ?_
  refine lv_aload_n hx hb dL_law_802 rfl (lv_at hl 0 rfl) ?_
  refine lv_iload_n hx hb dL_law_803 rfl (lv_at hl 3 rfl) ?_
  refine lv_iconst (v := (2 : Int32)) hx hb dL_law_804 (by decide) ?_
  refine lv_iadd hx hb dL_law_805 ?_
  refine va_sld hx hb hX hbl hbA hS j2 dL_law_806 ?_
  refine lv_aload_n hx hb dL_law_807 rfl (lv_at hl 0 rfl) ?_
  refine lv_iload_n hx hb dL_law_808 rfl (lv_at hl 3 rfl) ?_
  refine lv_iconst (v := (3 : Int32)) hx hb dL_law_809 (by decide) ?_
  refine lv_iadd hx hb dL_law_810 ?_
  refine va_sld hx hb hX hbl hbA hS j3 dL_law_811 ?_
  refine lv_aload_n hx hb dL_law_812 rfl (lv_at hl 0 rfl) ?_
  refine lv_iload_n hx hb dL_law_813 rfl (lv_at hl 3 rfl) ?_
  refine lv_iconst (v := (4 : Int32)) hx hb dL_law_814 (by decide) ?_
  refine lv_iadd hx hb dL_law_815 ?_
  refine va_sld hx hb hX hbl hbA hS j4 dL_law_816 ?_
  obtain ⟨r, c', m', e1, e2, hRel2⟩ := h_send (xs ((nI i) + (1 : Int32)).toNatClampNeg) (xs ((nI i) + (2 : Int32)).toNatClampNeg) (xs ((nI i) + (3 : Int32)).toNatClampNeg) (xs ((nI i) + (4 : Int32)).toNatClampNeg) s1 s2 hRel
  refine va_calli (va_runV (As := [.int (xs ((nI i) + (1 : Int32)).toNatClampNeg), .int (xs ((nI i) + (2 : Int32)).toNatClampNeg), .int (xs ((nI i) + (3 : Int32)).toNatClampNeg), .int (xs ((nI i) + (4 : Int32)).toNatClampNeg)]) (rest := []) ⟨hx, hb, hml, hown, hts⟩ (cc_X9_send l dC dI fu a1 k1 H.size (xs ((nI i) + (1 : Int32)).toNatClampNeg) (xs ((nI i) + (2 : Int32)).toNatClampNeg) (xs ((nI i) + (3 : Int32)).toNatClampNeg) (xs ((nI i) + (4 : Int32)).toNatClampNeg) s1 (r, c') e1) (cwV 4 hts gL_law_X9_send rfl rfl rfl (by decide +kernel) ⟨Nat.le_of_ble_eq_true rfl, Nat.le_of_ble_eq_true rfl⟩) (pf_v (hK.sub (tys' := zt_9 k1) [0, 1, 2, 3, 4, 5, 6, 7, 8, 9, 10, 11, 12, 13, 14, 15, 16, 17, 18, 19, 20, 21, 22, 23, 24, 25, 26, 27, 28, 29, 30, 31, 32, 33, 34, 35, 36, 37, 38, 39, 40, 41, 42, 43, 44, 45, 46, 47, 48, 49, 50] rfl) (sub_P (sb_9_10__0c0 a1 a2 k1 k2 s1 s2) hP) (sub_D (sb_9_10__0c0 a1 a2 k1 k2 s1 s2) hD) 9 0 rfl rfl rfl) rfl rfl hl.1 rfl (lv_room (Nat.le_of_ble_eq_true rfl)) dL_law_817 ⟨Nat.le_of_ble_eq_true rfl, Nat.le_of_ble_eq_true rfl⟩) hS (fun q _ h => (sub_F (sb_9_10__0c0 a1 a2 k1 k2 s1 s2) hD hS hA) q h) (sub_F (sb_9_10__0c0 a1 a2 k1 k2 s1 s2) hD hS hA) (fun r1 v1 t1 H1 locs1 ht1 hvm1 hw1 hB1 hz1 hk1 hS1 => ?_)
  obtain rfl : r = r1 := congrArg Prod.fst hw1
  obtain rfl : c' = v1 := congrArg Prod.snd hw1
  obtain ⟨hP1, hD1⟩ := jn_sub (sb_9_10__0c0 a1 a2 k1 k2 s1 s2) (jo_9_10__0c0__0 a1 a2 k1 k2 s1 s2 c') rfl hP hD hk1 ht1 hB1
  have hP1 : va_P (dC, dI) vwCl (zc_9 a1 k1 c' ++ zc_10 a2 k2 s2) H1 := hP1
  have hD1 : va_D (fun q : Nat => s.heap.size ≤ q) (zc_9 a1 k1 c' ++ zc_10 a2 k2 s2) := hD1
  clear hP hD hS hB1 hk1 hvm1 hz1 ht1
  refine lv_aload_n hx hb dL_law_820 rfl (lv_at hl 2 rfl) ?_
  refine lv_aload_n hx hb dL_law_821 rfl (lv_at hl 0 rfl) ?_
  refine lv_iload_n hx hb dL_law_822 rfl (lv_at hl 3 rfl) ?_
  refine lv_iconst (v := (1 : Int32)) hx hb dL_law_823 (by decide) ?_
  refine lv_iadd hx hb dL_law_824 ?_
  refine va_sld hx hb hX hbl hbA hS1 j1 dL_law_825 ?_
  refine lv_aload_n hx hb dL_law_826 rfl (lv_at hl 0 rfl) ?_
  refine lv_iload_n hx hb dL_law_827 rfl (lv_at hl 3 rfl) ?_
  refine lv_iconst (v := (2 : Int32)) hx hb dL_law_828 (by decide) ?_
  refine lv_iadd hx hb dL_law_829 ?_
  refine va_sld hx hb hX hbl hbA hS1 j2 dL_law_830 ?_
  refine lv_aload_n hx hb dL_law_831 rfl (lv_at hl 0 rfl) ?_
  refine lv_iload_n hx hb dL_law_832 rfl (lv_at hl 3 rfl) ?_
  refine lv_iconst (v := (3 : Int32)) hx hb dL_law_833 (by decide) ?_
  refine lv_iadd hx hb dL_law_834 ?_
  refine va_sld hx hb hX hbl hbA hS1 j3 dL_law_835 ?_
  refine lv_aload_n hx hb dL_law_836 rfl (lv_at hl 0 rfl) ?_
  refine lv_iload_n hx hb dL_law_837 rfl (lv_at hl 3 rfl) ?_
  refine lv_iconst (v := (4 : Int32)) hx hb dL_law_838 (by decide) ?_
  refine lv_iadd hx hb dL_law_839 ?_
  refine va_sld hx hb hX hbl hbA hS1 j4 dL_law_840 ?_
  refine va_calli (va_runV (As := [.int (xs ((nI i) + (1 : Int32)).toNatClampNeg), .int (xs ((nI i) + (2 : Int32)).toNatClampNeg), .int (xs ((nI i) + (3 : Int32)).toNatClampNeg), .int (xs ((nI i) + (4 : Int32)).toNatClampNeg)]) (rest := [.int r]) ⟨hx, hb, hml, hown, hts⟩ (cc_X10_send l dC dI fu a2 k2 H1.size (xs ((nI i) + (1 : Int32)).toNatClampNeg) (xs ((nI i) + (2 : Int32)).toNatClampNeg) (xs ((nI i) + (3 : Int32)).toNatClampNeg) (xs ((nI i) + (4 : Int32)).toNatClampNeg) s2 (r, m') e2) (cwV 4 hts gL_law_X10_send rfl rfl rfl (by decide +kernel) ⟨Nat.le_of_ble_eq_true rfl, Nat.le_of_ble_eq_true rfl⟩) (pf_v (hK.sub (tys' := zt_10 k2) [51, 52, 53, 54, 55, 56, 57, 58, 59, 60, 61, 62, 63, 64, 65, 66, 67, 68, 69, 70, 71] rfl) (sub_P (sb_9_10__1c0 a1 a2 k1 k2 c' s2) hP1) (sub_D (sb_9_10__1c0 a1 a2 k1 k2 c' s2) hD1) 10 0 rfl rfl rfl) rfl rfl hl.1 rfl (lv_room (Nat.le_of_ble_eq_true rfl)) dL_law_841 ⟨Nat.le_of_ble_eq_true rfl, Nat.le_of_ble_eq_true rfl⟩) hS1 (fun q _ h => (sub_F (sb_9_10__1c0 a1 a2 k1 k2 c' s2) hD1 hS1 hA) q h) (sub_F (sb_9_10__1c0 a1 a2 k1 k2 c' s2) hD1 hS1 hA) (fun r2 v2 t2 H2 locs2 ht2 hvm2 hw2 hB2 hz2 hk2 hS2 => ?_)
  obtain rfl : r = r2 := congrArg Prod.fst hw2
  obtain rfl : m' = v2 := congrArg Prod.snd hw2
  obtain ⟨hP2, hD2⟩ := jn_sub (sb_9_10__1c0 a1 a2 k1 k2 c' s2) (jo_9_10__1c0__0 a1 a2 k1 k2 c' s2 m') rfl hP1 hD1 hk2 ht2 hB2
  have hP2 : va_P (dC, dI) vwCl (zc_9 a1 k1 c' ++ zc_10 a2 k2 m') H2 := hP2
  have hD2 : va_D (fun q : Nat => s.heap.size ≤ q) (zc_9 a1 k1 c' ++ zc_10 a2 k2 m') := hD2
  clear hP1 hD1 hS1 hB2 hk2 hvm2 hz2 ht2
  refine lv_icmp_eq (tgt := 1383) hx hb dL_law_844 (by decide) (fun _ => ?_) (fun c => absurd rfl c)
  exact tail c' m' hRel2 H2 locs2 ls hP2 hD2 hS2 hl
set_option maxHeartbeats 4000000 in
set_option maxRecDepth 100000 in
theorem lc_lent {p : Program} {l : Launch} {e : Env} {s : State} {m : MethodId} {below : List Frame} {meth : Method} {c : Code} {dC : Nat → ClassId} {dI : Nat → Nat → Nat} {b L : Nat} {xs : Nat → Int32} {fu : Nat} {Rel : ZT_9 → ZT_10 → Prop} (h_lent : St_lent fu Rel) (a1 a2 : Nat → Nat) (k1 k2 : Nat → ClassId) (hL : L ≤ 4608) (hx : p.tables.exec = Jvm.exec) (hb : c.code = code) (hml : c.maxLocals = 4) (hown : s.vm.findClass RL = some m.cls) (hts : ∀ w ∈ wsL_law, w.before #[Value.ref b] s = true) (hX : va_X b L xs s s.heap) (hbl : b < s.heap.size) (hN : va_Nw nestW s) (hK : va_K (dC, dI) vwCl (zt_9 k1 ++ zt_10 k2) s) {i : Nat} (h9 : i + 9 ≤ L) (tail : ∀ (s1 : ZT_9) (s2 : ZT_10), Rel s1 s2 → ∀ (H : Heap) (locs : List Loc) (ls : Array Slot), va_P (dC, dI) vwCl (zc_9 a1 k1 s1 ++ zc_10 a2 k2 s2) H → va_D (fun q : Nat => s.heap.size ≤ q) (zc_9 a1 k1 s1 ++ zc_10 a2 k2 s2) → va_S (fun q : Nat => s.heap.size ≤ q) s.heap H locs → lv_has ls 4 [(0, .ref b), (1, .ref (a1 0)), (2, .ref (a2 0)), (3, .int (nI i))] → W p l e room_1 s m #[Value.ref b] below meth c H locs 92 2785 (lw_Z below #[Value.ref b] s) (F0 m 1383 ls [])) (s1 : ZT_9) (s2 : ZT_10) (hRel : Rel s1 s2) (H : Heap) (locs : List Loc) (ls : Array Slot) (hP : va_P (dC, dI) vwCl (zc_9 a1 k1 s1 ++ zc_10 a2 k2 s2) H) (hD : va_D (fun q : Nat => s.heap.size ≤ q) (zc_9 a1 k1 s1 ++ zc_10 a2 k2 s2)) (hS : va_S (fun q : Nat => s.heap.size ≤ q) s.heap H locs) (hl : lv_has ls 4 [(0, .ref b), (1, .ref (a1 0)), (2, .ref (a2 0)), (3, .int (nI i))]) : W p l e room_1 s m #[Value.ref b] below meth c H locs 92 2785 (lw_Z below #[Value.ref b] s) (F0 m 849 ls []) := by
  have hA : ∀ q : Nat, s.heap.size ≤ q → (fun q : Nat => s.heap.size ≤ q) q := fun _ h => h
  have hbA : ¬ (fun q : Nat => s.heap.size ≤ q) b := Nat.not_le.mpr hbl
  have j1 : vp_in ((nI i) + (1 : Int32)) L := sc_in 1 (1 : Int32) rfl (by omega) hL
  have j2 : vp_in ((nI i) + (2 : Int32)) L := sc_in 2 (2 : Int32) rfl (by omega) hL
  have j3 : vp_in ((nI i) + (3 : Int32)) L := sc_in 3 (3 : Int32) rfl (by omega) hL
  have j4 : vp_in ((nI i) + (4 : Int32)) L := sc_in 4 (4 : Int32) rfl (by omega) hL
  have j5 : vp_in ((nI i) + (5 : Int32)) L := sc_in 5 (5 : Int32) rfl (by omega) hL
  have j6 : vp_in ((nI i) + (6 : Int32)) L := sc_in 6 (6 : Int32) rfl (by omega) hL
  have j7 : vp_in ((nI i) + (7 : Int32)) L := sc_in 7 (7 : Int32) rfl (by omega) hL
  have j8 : vp_in ((nI i) + (8 : Int32)) L := sc_in 8 (8 : Int32) rfl (by omega) hL
  refine lv_aload_n hx hb dL_law_849 rfl (lv_at hl 1 rfl) ?_
  refine lv_aload_n hx hb dL_law_850 rfl (lv_at hl 0 rfl) ?_
  refine lv_iload_n hx hb dL_law_851 rfl (lv_at hl 3 rfl) ?_
  refine lv_iconst (v := (1 : Int32)) hx hb dL_law_852 (by decide) ?_
  refine lv_iadd hx hb dL_law_853 ?_
  refine va_sld hx hb hX hbl hbA hS j1 dL_law_854 ?_
  refine lv_aload_n hx hb dL_law_855 rfl (lv_at hl 0 rfl) ?_
  refine lv_iload_n hx hb dL_law_856 rfl (lv_at hl 3 rfl) ?_
  refine lv_iconst (v := (2 : Int32)) hx hb dL_law_857 (by decide) ?_
  refine lv_iadd hx hb dL_law_858 ?_
  refine va_sld hx hb hX hbl hbA hS j2 dL_law_859 ?_
  refine lv_aload_n hx hb dL_law_860 rfl (lv_at hl 0 rfl) ?_
  refine lv_iload_n hx hb dL_law_861 rfl (lv_at hl 3 rfl) ?_
  refine lv_iconst (v := (3 : Int32)) hx hb dL_law_862 (by decide) ?_
  refine lv_iadd hx hb dL_law_863 ?_
  refine va_sld hx hb hX hbl hbA hS j3 dL_law_864 ?_
  refine lv_aload_n hx hb dL_law_865 rfl (lv_at hl 0 rfl) ?_
  refine lv_iload_n hx hb dL_law_866 rfl (lv_at hl 3 rfl) ?_
  refine lv_iconst (v := (4 : Int32)) hx hb dL_law_867 (by decide) ?_
  refine lv_iadd hx hb dL_law_868 ?_
  refine va_sld hx hb hX hbl hbA hS j4 dL_law_869 ?_
  refine lv_aload_n hx hb dL_law_870 rfl (lv_at hl 0 rfl) ?_
  refine lv_iload_n hx hb dL_law_871 rfl (lv_at hl 3 rfl) ?_
  refine lv_iconst (v := (5 : Int32)) hx hb dL_law_872 (by decide) ?_
  refine lv_iadd hx hb dL_law_873 ?_
  refine va_sld hx hb hX hbl hbA hS j5 dL_law_874 ?_
  refine lv_aload_n hx hb dL_law_875 rfl (lv_at hl 0 rfl) ?_
  refine lv_iload_n hx hb dL_law_876 rfl (lv_at hl 3 rfl) ?_
  refine lv_bipush (v := (6 : Int32)) hx hb dL_law_877 (by decide) ?_
  refine lv_iadd hx hb dL_law_879 ?_
  refine va_sld hx hb hX hbl hbA hS j6 dL_law_880 ?_
  obtain ⟨r, c', m', e1, e2, hRel2⟩ := h_lent (xs ((nI i) + (1 : Int32)).toNatClampNeg) (xs ((nI i) + (2 : Int32)).toNatClampNeg) (xs ((nI i) + (3 : Int32)).toNatClampNeg) (xs ((nI i) + (4 : Int32)).toNatClampNeg) (xs ((nI i) + (5 : Int32)).toNatClampNeg) (xs ((nI i) + (6 : Int32)).toNatClampNeg) s1 s2 hRel
  refine va_calli (va_runV (As := [.int (xs ((nI i) + (1 : Int32)).toNatClampNeg), .int (xs ((nI i) + (2 : Int32)).toNatClampNeg), .int (xs ((nI i) + (3 : Int32)).toNatClampNeg), .int (xs ((nI i) + (4 : Int32)).toNatClampNeg), .int (xs ((nI i) + (5 : Int32)).toNatClampNeg), .int (xs ((nI i) + (6 : Int32)).toNatClampNeg)]) (rest := []) ⟨hx, hb, hml, hown, hts⟩ (cc_X9_lent l dC dI fu a1 k1 H.size (xs ((nI i) + (1 : Int32)).toNatClampNeg) (xs ((nI i) + (2 : Int32)).toNatClampNeg) (xs ((nI i) + (3 : Int32)).toNatClampNeg) (xs ((nI i) + (4 : Int32)).toNatClampNeg) (xs ((nI i) + (5 : Int32)).toNatClampNeg) (xs ((nI i) + (6 : Int32)).toNatClampNeg) s1 (r, c') e1) (cwV 6 hts gL_law_X9_lent rfl rfl rfl (by decide +kernel) ⟨Nat.le_of_ble_eq_true rfl, Nat.le_of_ble_eq_true rfl⟩) (pf_v (hK.sub (tys' := zt_9 k1) [0, 1, 2, 3, 4, 5, 6, 7, 8, 9, 10, 11, 12, 13, 14, 15, 16, 17, 18, 19, 20, 21, 22, 23, 24, 25, 26, 27, 28, 29, 30, 31, 32, 33, 34, 35, 36, 37, 38, 39, 40, 41, 42, 43, 44, 45, 46, 47, 48, 49, 50] rfl) (sub_P (sb_9_10__0c0 a1 a2 k1 k2 s1 s2) hP) (sub_D (sb_9_10__0c0 a1 a2 k1 k2 s1 s2) hD) 9 0 rfl rfl rfl) rfl rfl hl.1 rfl (lv_room (Nat.le_of_ble_eq_true rfl)) dL_law_881 ⟨Nat.le_of_ble_eq_true rfl, Nat.le_of_ble_eq_true rfl⟩) hS (fun q _ h => (sub_F (sb_9_10__0c0 a1 a2 k1 k2 s1 s2) hD hS hA) q h) (sub_F (sb_9_10__0c0 a1 a2 k1 k2 s1 s2) hD hS hA) (fun r1 v1 t1 H1 locs1 ht1 hvm1 hw1 hB1 hz1 hk1 hS1 => ?_)
  obtain rfl : r = r1 := congrArg Prod.fst hw1
  obtain rfl : c' = v1 := congrArg Prod.snd hw1
  obtain ⟨hP1, hD1⟩ := jn_sub (sb_9_10__0c0 a1 a2 k1 k2 s1 s2) (jo_9_10__0c0__0 a1 a2 k1 k2 s1 s2 c') rfl hP hD hk1 ht1 hB1
  have hP1 : va_P (dC, dI) vwCl (zc_9 a1 k1 c' ++ zc_10 a2 k2 s2) H1 := hP1
  have hD1 : va_D (fun q : Nat => s.heap.size ≤ q) (zc_9 a1 k1 c' ++ zc_10 a2 k2 s2) := hD1
  clear hP hD hS hB1 hk1 hvm1 hz1 ht1
  refine lv_aload_n hx hb dL_law_884 rfl (lv_at hl 2 rfl) ?_
  refine lv_aload_n hx hb dL_law_885 rfl (lv_at hl 0 rfl) ?_
  refine lv_iload_n hx hb dL_law_886 rfl (lv_at hl 3 rfl) ?_
  refine lv_iconst (v := (1 : Int32)) hx hb dL_law_887 (by decide) ?_
  refine lv_iadd hx hb dL_law_888 ?_
  refine va_sld hx hb hX hbl hbA hS1 j1 dL_law_889 ?_
  refine lv_aload_n hx hb dL_law_890 rfl (lv_at hl 0 rfl) ?_
  refine lv_iload_n hx hb dL_law_891 rfl (lv_at hl 3 rfl) ?_
  refine lv_iconst (v := (2 : Int32)) hx hb dL_law_892 (by decide) ?_
  refine lv_iadd hx hb dL_law_893 ?_
  refine va_sld hx hb hX hbl hbA hS1 j2 dL_law_894 ?_
  refine lv_aload_n hx hb dL_law_895 rfl (lv_at hl 0 rfl) ?_
  refine lv_iload_n hx hb dL_law_896 rfl (lv_at hl 3 rfl) ?_
  refine lv_iconst (v := (3 : Int32)) hx hb dL_law_897 (by decide) ?_
  refine lv_iadd hx hb dL_law_898 ?_
  refine va_sld hx hb hX hbl hbA hS1 j3 dL_law_899 ?_
  refine lv_aload_n hx hb dL_law_900 rfl (lv_at hl 0 rfl) ?_
  refine lv_iload_n hx hb dL_law_901 rfl (lv_at hl 3 rfl) ?_
  refine lv_iconst (v := (4 : Int32)) hx hb dL_law_902 (by decide) ?_
  refine lv_iadd hx hb dL_law_903 ?_
  refine va_sld hx hb hX hbl hbA hS1 j4 dL_law_904 ?_
  refine lv_aload_n hx hb dL_law_905 rfl (lv_at hl 0 rfl) ?_
  refine lv_iload_n hx hb dL_law_906 rfl (lv_at hl 3 rfl) ?_
  refine lv_iconst (v := (5 : Int32)) hx hb dL_law_907 (by decide) ?_
  refine lv_iadd hx hb dL_law_908 ?_
  refine va_sld hx hb hX hbl hbA hS1 j5 dL_law_909 ?_
  refine lv_aload_n hx hb dL_law_910 rfl (lv_at hl 0 rfl) ?_
  refine lv_iload_n hx hb dL_law_911 rfl (lv_at hl 3 rfl) ?_
  refine lv_bipush (v := (6 : Int32)) hx hb dL_law_912 (by decide) ?_
  refine lv_iadd hx hb dL_law_914 ?_
  refine va_sld hx hb hX hbl hbA hS1 j6 dL_law_915 ?_
  refine va_calli (va_runV (As := [.int (xs ((nI i) + (1 : Int32)).toNatClampNeg), .int (xs ((nI i) + (2 : Int32)).toNatClampNeg), .int (xs ((nI i) + (3 : Int32)).toNatClampNeg), .int (xs ((nI i) + (4 : Int32)).toNatClampNeg), .int (xs ((nI i) + (5 : Int32)).toNatClampNeg), .int (xs ((nI i) + (6 : Int32)).toNatClampNeg)]) (rest := [.int r]) ⟨hx, hb, hml, hown, hts⟩ (cc_X10_lent l dC dI fu a2 k2 H1.size (xs ((nI i) + (1 : Int32)).toNatClampNeg) (xs ((nI i) + (2 : Int32)).toNatClampNeg) (xs ((nI i) + (3 : Int32)).toNatClampNeg) (xs ((nI i) + (4 : Int32)).toNatClampNeg) (xs ((nI i) + (5 : Int32)).toNatClampNeg) (xs ((nI i) + (6 : Int32)).toNatClampNeg) s2 (r, m') e2) (cwV 6 hts gL_law_X10_lent rfl rfl rfl (by decide +kernel) ⟨Nat.le_of_ble_eq_true rfl, Nat.le_of_ble_eq_true rfl⟩) (pf_v (hK.sub (tys' := zt_10 k2) [51, 52, 53, 54, 55, 56, 57, 58, 59, 60, 61, 62, 63, 64, 65, 66, 67, 68, 69, 70, 71] rfl) (sub_P (sb_9_10__1c0 a1 a2 k1 k2 c' s2) hP1) (sub_D (sb_9_10__1c0 a1 a2 k1 k2 c' s2) hD1) 10 0 rfl rfl rfl) rfl rfl hl.1 rfl (lv_room (Nat.le_of_ble_eq_true rfl)) dL_law_916 ⟨Nat.le_of_ble_eq_true rfl, Nat.le_of_ble_eq_true rfl⟩) hS1 (fun q _ h => (sub_F (sb_9_10__1c0 a1 a2 k1 k2 c' s2) hD1 hS1 hA) q h) (sub_F (sb_9_10__1c0 a1 a2 k1 k2 c' s2) hD1 hS1 hA) (fun r2 v2 t2 H2 locs2 ht2 hvm2 hw2 hB2 hz2 hk2 hS2 => ?_)
  obtain rfl : r = r2 := congrArg Prod.fst hw2
  obtain rfl : m' = v2 := congrArg Prod.snd hw2
  obtain ⟨hP2, hD2⟩ := jn_sub (sb_9_10__1c0 a1 a2 k1 k2 c' s2) (jo_9_10__1c0__0 a1 a2 k1 k2 c' s2 m') rfl hP1 hD1 hk2 ht2 hB2
  have hP2 : va_P (dC, dI) vwCl (zc_9 a1 k1 c' ++ zc_10 a2 k2 m') H2 := hP2
  have hD2 : va_D (fun q : Nat => s.heap.size ≤ q) (zc_9 a1 k1 c' ++ zc_10 a2 k2 m') := hD2
  clear hP1 hD1 hS1 hB2 hk2 hvm2 hz2 ht2
  refine lv_icmp_eq (tgt := 1383) hx hb dL_law_919 (by decide) (fun _ => ?_) (fun c => absurd rfl c)
  exact tail c' m' hRel2 H2 locs2 ls hP2 hD2 hS2 hl
set_option maxHeartbeats 4000000 in
set_option maxRecDepth 100000 in
theorem lc_run {p : Program} {l : Launch} {e : Env} {s : State} {m : MethodId} {below : List Frame} {meth : Method} {c : Code} {dC : Nat → ClassId} {dI : Nat → Nat → Nat} {b L : Nat} {xs : Nat → Int32} {fu : Nat} {Rel : ZT_9 → ZT_10 → Prop} (h_run : St_run fu Rel) (a1 a2 : Nat → Nat) (k1 k2 : Nat → ClassId) (hL : L ≤ 4608) (hx : p.tables.exec = Jvm.exec) (hb : c.code = code) (hml : c.maxLocals = 4) (hown : s.vm.findClass RL = some m.cls) (hts : ∀ w ∈ wsL_law, w.before #[Value.ref b] s = true) (hX : va_X b L xs s s.heap) (hbl : b < s.heap.size) (hN : va_Nw nestW s) (hK : va_K (dC, dI) vwCl (zt_9 k1 ++ zt_10 k2) s) {i : Nat} (h9 : i + 9 ≤ L) (tail : ∀ (s1 : ZT_9) (s2 : ZT_10), Rel s1 s2 → ∀ (H : Heap) (locs : List Loc) (ls : Array Slot), va_P (dC, dI) vwCl (zc_9 a1 k1 s1 ++ zc_10 a2 k2 s2) H → va_D (fun q : Nat => s.heap.size ≤ q) (zc_9 a1 k1 s1 ++ zc_10 a2 k2 s2) → va_S (fun q : Nat => s.heap.size ≤ q) s.heap H locs → lv_has ls 4 [(0, .ref b), (1, .ref (a1 0)), (2, .ref (a2 0)), (3, .int (nI i))] → W p l e room_1 s m #[Value.ref b] below meth c H locs 92 2785 (lw_Z below #[Value.ref b] s) (F0 m 1383 ls [])) (s1 : ZT_9) (s2 : ZT_10) (hRel : Rel s1 s2) (H : Heap) (locs : List Loc) (ls : Array Slot) (hP : va_P (dC, dI) vwCl (zc_9 a1 k1 s1 ++ zc_10 a2 k2 s2) H) (hD : va_D (fun q : Nat => s.heap.size ≤ q) (zc_9 a1 k1 s1 ++ zc_10 a2 k2 s2)) (hS : va_S (fun q : Nat => s.heap.size ≤ q) s.heap H locs) (hl : lv_has ls 4 [(0, .ref b), (1, .ref (a1 0)), (2, .ref (a2 0)), (3, .int (nI i))]) : W p l e room_1 s m #[Value.ref b] below meth c H locs 92 2785 (lw_Z below #[Value.ref b] s) (F0 m 924 ls []) := by
  have hA : ∀ q : Nat, s.heap.size ≤ q → (fun q : Nat => s.heap.size ≤ q) q := fun _ h => h
  have hbA : ¬ (fun q : Nat => s.heap.size ≤ q) b := Nat.not_le.mpr hbl
  have j1 : vp_in ((nI i) + (1 : Int32)) L := sc_in 1 (1 : Int32) rfl (by omega) hL
  have j2 : vp_in ((nI i) + (2 : Int32)) L := sc_in 2 (2 : Int32) rfl (by omega) hL
  have j3 : vp_in ((nI i) + (3 : Int32)) L := sc_in 3 (3 : Int32) rfl (by omega) hL
  have j4 : vp_in ((nI i) + (4 : Int32)) L := sc_in 4 (4 : Int32) rfl (by omega) hL
  have j5 : vp_in ((nI i) + (5 : Int32)) L := sc_in 5 (5 : Int32) rfl (by omega) hL
  have j6 : vp_in ((nI i) + (6 : Int32)) L := sc_in 6 (6 : Int32) rfl (by omega) hL
  have j7 : vp_in ((nI i) + (7 : Int32)) L := sc_in 7 (7 : Int32) rfl (by omega) hL
  have j8 : vp_in ((nI i) + (8 : Int32)) L := sc_in 8 (8 : Int32) rfl (by omega) hL
  refine lv_aload_n hx hb dL_law_924 rfl (lv_at hl 1 rfl) ?_
  refine lv_aload_n hx hb dL_law_925 rfl (lv_at hl 0 rfl) ?_
  refine lv_iload_n hx hb dL_law_926 rfl (lv_at hl 3 rfl) ?_
  refine lv_iconst (v := (1 : Int32)) hx hb dL_law_927 (by decide) ?_
  refine lv_iadd hx hb dL_law_928 ?_
  refine va_sld hx hb hX hbl hbA hS j1 dL_law_929 ?_
  obtain ⟨r, c', m', e1, e2, hRel2⟩ := h_run (xs ((nI i) + (1 : Int32)).toNatClampNeg) s1 s2 hRel
  refine va_calli (va_runV (As := [.int (xs ((nI i) + (1 : Int32)).toNatClampNeg)]) (rest := []) ⟨hx, hb, hml, hown, hts⟩ (cc_X9_run l dC dI fu a1 k1 H.size (xs ((nI i) + (1 : Int32)).toNatClampNeg) s1 (r, c') e1) (cwV 1 hts gL_law_X9_run rfl rfl rfl (by decide +kernel) ⟨Nat.le_of_ble_eq_true rfl, Nat.le_of_ble_eq_true rfl⟩) (pf_v (hK.sub (tys' := zt_9 k1) [0, 1, 2, 3, 4, 5, 6, 7, 8, 9, 10, 11, 12, 13, 14, 15, 16, 17, 18, 19, 20, 21, 22, 23, 24, 25, 26, 27, 28, 29, 30, 31, 32, 33, 34, 35, 36, 37, 38, 39, 40, 41, 42, 43, 44, 45, 46, 47, 48, 49, 50] rfl) (sub_P (sb_9_10__0c0 a1 a2 k1 k2 s1 s2) hP) (sub_D (sb_9_10__0c0 a1 a2 k1 k2 s1 s2) hD) 9 0 rfl rfl rfl) rfl rfl hl.1 rfl (lv_room (Nat.le_of_ble_eq_true rfl)) dL_law_930 ⟨Nat.le_of_ble_eq_true rfl, Nat.le_of_ble_eq_true rfl⟩) hS (fun q _ h => (sub_F (sb_9_10__0c0 a1 a2 k1 k2 s1 s2) hD hS hA) q h) (sub_F (sb_9_10__0c0 a1 a2 k1 k2 s1 s2) hD hS hA) (fun r1 v1 t1 H1 locs1 ht1 hvm1 hw1 hB1 hz1 hk1 hS1 => ?_)
  obtain rfl : r = r1 := congrArg Prod.fst hw1
  obtain rfl : c' = v1 := congrArg Prod.snd hw1
  obtain ⟨hP1, hD1⟩ := jn_sub (sb_9_10__0c0 a1 a2 k1 k2 s1 s2) (jo_9_10__0c0__0 a1 a2 k1 k2 s1 s2 c') rfl hP hD hk1 ht1 hB1
  have hP1 : va_P (dC, dI) vwCl (zc_9 a1 k1 c' ++ zc_10 a2 k2 s2) H1 := hP1
  have hD1 : va_D (fun q : Nat => s.heap.size ≤ q) (zc_9 a1 k1 c' ++ zc_10 a2 k2 s2) := hD1
  clear hP hD hS hB1 hk1 hvm1 hz1 ht1
  refine lv_aload_n hx hb dL_law_933 rfl (lv_at hl 2 rfl) ?_
  refine lv_aload_n hx hb dL_law_934 rfl (lv_at hl 0 rfl) ?_
  refine lv_iload_n hx hb dL_law_935 rfl (lv_at hl 3 rfl) ?_
  refine lv_iconst (v := (1 : Int32)) hx hb dL_law_936 (by decide) ?_
  refine lv_iadd hx hb dL_law_937 ?_
  refine va_sld hx hb hX hbl hbA hS1 j1 dL_law_938 ?_
  refine va_calli (va_runV (As := [.int (xs ((nI i) + (1 : Int32)).toNatClampNeg)]) (rest := [.int r]) ⟨hx, hb, hml, hown, hts⟩ (cc_X10_run l dC dI fu a2 k2 H1.size (xs ((nI i) + (1 : Int32)).toNatClampNeg) s2 (r, m') e2) (cwV 1 hts gL_law_X10_run rfl rfl rfl (by decide +kernel) ⟨Nat.le_of_ble_eq_true rfl, Nat.le_of_ble_eq_true rfl⟩) (pf_v (hK.sub (tys' := zt_10 k2) [51, 52, 53, 54, 55, 56, 57, 58, 59, 60, 61, 62, 63, 64, 65, 66, 67, 68, 69, 70, 71] rfl) (sub_P (sb_9_10__1c0 a1 a2 k1 k2 c' s2) hP1) (sub_D (sb_9_10__1c0 a1 a2 k1 k2 c' s2) hD1) 10 0 rfl rfl rfl) rfl rfl hl.1 rfl (lv_room (Nat.le_of_ble_eq_true rfl)) dL_law_939 ⟨Nat.le_of_ble_eq_true rfl, Nat.le_of_ble_eq_true rfl⟩) hS1 (fun q _ h => (sub_F (sb_9_10__1c0 a1 a2 k1 k2 c' s2) hD1 hS1 hA) q h) (sub_F (sb_9_10__1c0 a1 a2 k1 k2 c' s2) hD1 hS1 hA) (fun r2 v2 t2 H2 locs2 ht2 hvm2 hw2 hB2 hz2 hk2 hS2 => ?_)
  obtain rfl : r = r2 := congrArg Prod.fst hw2
  obtain rfl : m' = v2 := congrArg Prod.snd hw2
  obtain ⟨hP2, hD2⟩ := jn_sub (sb_9_10__1c0 a1 a2 k1 k2 c' s2) (jo_9_10__1c0__0 a1 a2 k1 k2 c' s2 m') rfl hP1 hD1 hk2 ht2 hB2
  have hP2 : va_P (dC, dI) vwCl (zc_9 a1 k1 c' ++ zc_10 a2 k2 m') H2 := hP2
  have hD2 : va_D (fun q : Nat => s.heap.size ≤ q) (zc_9 a1 k1 c' ++ zc_10 a2 k2 m') := hD2
  clear hP1 hD1 hS1 hB2 hk2 hvm2 hz2 ht2
  refine lv_icmp_eq (tgt := 1383) hx hb dL_law_942 (by decide) (fun _ => ?_) (fun c => absurd rfl c)
  exact tail c' m' hRel2 H2 locs2 ls hP2 hD2 hS2 hl
set_option maxHeartbeats 4000000 in
set_option maxRecDepth 100000 in
theorem lc_where {p : Program} {l : Launch} {e : Env} {s : State} {m : MethodId} {below : List Frame} {meth : Method} {c : Code} {dC : Nat → ClassId} {dI : Nat → Nat → Nat} {b L : Nat} {xs : Nat → Int32} {fu : Nat} {Rel : ZT_9 → ZT_10 → Prop} (h_where : St_where fu Rel) (a1 a2 : Nat → Nat) (k1 k2 : Nat → ClassId) (hL : L ≤ 4608) (hx : p.tables.exec = Jvm.exec) (hb : c.code = code) (hml : c.maxLocals = 4) (hown : s.vm.findClass RL = some m.cls) (hts : ∀ w ∈ wsL_law, w.before #[Value.ref b] s = true) (hX : va_X b L xs s s.heap) (hbl : b < s.heap.size) (hN : va_Nw nestW s) (hK : va_K (dC, dI) vwCl (zt_9 k1 ++ zt_10 k2) s) {i : Nat} (h9 : i + 9 ≤ L) (tail : ∀ (s1 : ZT_9) (s2 : ZT_10), Rel s1 s2 → ∀ (H : Heap) (locs : List Loc) (ls : Array Slot), va_P (dC, dI) vwCl (zc_9 a1 k1 s1 ++ zc_10 a2 k2 s2) H → va_D (fun q : Nat => s.heap.size ≤ q) (zc_9 a1 k1 s1 ++ zc_10 a2 k2 s2) → va_S (fun q : Nat => s.heap.size ≤ q) s.heap H locs → lv_has ls 4 [(0, .ref b), (1, .ref (a1 0)), (2, .ref (a2 0)), (3, .int (nI i))] → W p l e room_1 s m #[Value.ref b] below meth c H locs 92 2785 (lw_Z below #[Value.ref b] s) (F0 m 1383 ls [])) (s1 : ZT_9) (s2 : ZT_10) (hRel : Rel s1 s2) (H : Heap) (locs : List Loc) (ls : Array Slot) (hP : va_P (dC, dI) vwCl (zc_9 a1 k1 s1 ++ zc_10 a2 k2 s2) H) (hD : va_D (fun q : Nat => s.heap.size ≤ q) (zc_9 a1 k1 s1 ++ zc_10 a2 k2 s2)) (hS : va_S (fun q : Nat => s.heap.size ≤ q) s.heap H locs) (hl : lv_has ls 4 [(0, .ref b), (1, .ref (a1 0)), (2, .ref (a2 0)), (3, .int (nI i))]) : W p l e room_1 s m #[Value.ref b] below meth c H locs 92 2785 (lw_Z below #[Value.ref b] s) (F0 m 947 ls []) := by
  have hA : ∀ q : Nat, s.heap.size ≤ q → (fun q : Nat => s.heap.size ≤ q) q := fun _ h => h
  have hbA : ¬ (fun q : Nat => s.heap.size ≤ q) b := Nat.not_le.mpr hbl
  have j1 : vp_in ((nI i) + (1 : Int32)) L := sc_in 1 (1 : Int32) rfl (by omega) hL
  have j2 : vp_in ((nI i) + (2 : Int32)) L := sc_in 2 (2 : Int32) rfl (by omega) hL
  have j3 : vp_in ((nI i) + (3 : Int32)) L := sc_in 3 (3 : Int32) rfl (by omega) hL
  have j4 : vp_in ((nI i) + (4 : Int32)) L := sc_in 4 (4 : Int32) rfl (by omega) hL
  have j5 : vp_in ((nI i) + (5 : Int32)) L := sc_in 5 (5 : Int32) rfl (by omega) hL
  have j6 : vp_in ((nI i) + (6 : Int32)) L := sc_in 6 (6 : Int32) rfl (by omega) hL
  have j7 : vp_in ((nI i) + (7 : Int32)) L := sc_in 7 (7 : Int32) rfl (by omega) hL
  have j8 : vp_in ((nI i) + (8 : Int32)) L := sc_in 8 (8 : Int32) rfl (by omega) hL
  refine lv_aload_n hx hb dL_law_947 rfl (lv_at hl 1 rfl) ?_
  refine lv_aload_n hx hb dL_law_948 rfl (lv_at hl 0 rfl) ?_
  refine lv_iload_n hx hb dL_law_949 rfl (lv_at hl 3 rfl) ?_
  refine lv_iconst (v := (1 : Int32)) hx hb dL_law_950 (by decide) ?_
  refine lv_iadd hx hb dL_law_951 ?_
  refine va_sld hx hb hX hbl hbA hS j1 dL_law_952 ?_
  refine lv_aload_n hx hb dL_law_953 rfl (lv_at hl 0 rfl) ?_
  refine lv_iload_n hx hb dL_law_954 rfl (lv_at hl 3 rfl) ?_
  refine lv_iconst (v := (2 : Int32)) hx hb dL_law_955 (by decide) ?_
  refine lv_iadd hx hb dL_law_956 ?_
  refine va_sld hx hb hX hbl hbA hS j2 dL_law_957 ?_
  obtain ⟨r, c', m', e1, e2, hRel2⟩ := h_where (xs ((nI i) + (1 : Int32)).toNatClampNeg) (xs ((nI i) + (2 : Int32)).toNatClampNeg) s1 s2 hRel
  refine va_calli (va_runV (As := [.int (xs ((nI i) + (1 : Int32)).toNatClampNeg), .int (xs ((nI i) + (2 : Int32)).toNatClampNeg)]) (rest := []) ⟨hx, hb, hml, hown, hts⟩ (cc_X9_where l dC dI fu a1 k1 H.size (xs ((nI i) + (1 : Int32)).toNatClampNeg) (xs ((nI i) + (2 : Int32)).toNatClampNeg) s1 (r, c') e1) (cwV 2 hts gL_law_X9_where rfl rfl rfl (by decide +kernel) ⟨Nat.le_of_ble_eq_true rfl, Nat.le_of_ble_eq_true rfl⟩) (pf_v (hK.sub (tys' := zt_9 k1) [0, 1, 2, 3, 4, 5, 6, 7, 8, 9, 10, 11, 12, 13, 14, 15, 16, 17, 18, 19, 20, 21, 22, 23, 24, 25, 26, 27, 28, 29, 30, 31, 32, 33, 34, 35, 36, 37, 38, 39, 40, 41, 42, 43, 44, 45, 46, 47, 48, 49, 50] rfl) (sub_P (sb_9_10__0c0 a1 a2 k1 k2 s1 s2) hP) (sub_D (sb_9_10__0c0 a1 a2 k1 k2 s1 s2) hD) 9 0 rfl rfl rfl) rfl rfl hl.1 rfl (lv_room (Nat.le_of_ble_eq_true rfl)) dL_law_958 ⟨Nat.le_of_ble_eq_true rfl, Nat.le_of_ble_eq_true rfl⟩) hS (fun q _ h => (sub_F (sb_9_10__0c0 a1 a2 k1 k2 s1 s2) hD hS hA) q h) (sub_F (sb_9_10__0c0 a1 a2 k1 k2 s1 s2) hD hS hA) (fun r1 v1 t1 H1 locs1 ht1 hvm1 hw1 hB1 hz1 hk1 hS1 => ?_)
  obtain rfl : r = r1 := congrArg Prod.fst hw1
  obtain rfl : c' = v1 := congrArg Prod.snd hw1
  obtain ⟨hP1, hD1⟩ := jn_sub (sb_9_10__0c0 a1 a2 k1 k2 s1 s2) (jo_9_10__0c0__0 a1 a2 k1 k2 s1 s2 c') rfl hP hD hk1 ht1 hB1
  have hP1 : va_P (dC, dI) vwCl (zc_9 a1 k1 c' ++ zc_10 a2 k2 s2) H1 := hP1
  have hD1 : va_D (fun q : Nat => s.heap.size ≤ q) (zc_9 a1 k1 c' ++ zc_10 a2 k2 s2) := hD1
  clear hP hD hS hB1 hk1 hvm1 hz1 ht1
  refine lv_aload_n hx hb dL_law_961 rfl (lv_at hl 2 rfl) ?_
  refine lv_aload_n hx hb dL_law_962 rfl (lv_at hl 0 rfl) ?_
  refine lv_iload_n hx hb dL_law_963 rfl (lv_at hl 3 rfl) ?_
  refine lv_iconst (v := (1 : Int32)) hx hb dL_law_964 (by decide) ?_
  refine lv_iadd hx hb dL_law_965 ?_
  refine va_sld hx hb hX hbl hbA hS1 j1 dL_law_966 ?_
  refine lv_aload_n hx hb dL_law_967 rfl (lv_at hl 0 rfl) ?_
  refine lv_iload_n hx hb dL_law_968 rfl (lv_at hl 3 rfl) ?_
  refine lv_iconst (v := (2 : Int32)) hx hb dL_law_969 (by decide) ?_
  refine lv_iadd hx hb dL_law_970 ?_
  refine va_sld hx hb hX hbl hbA hS1 j2 dL_law_971 ?_
  refine va_calli (va_runV (As := [.int (xs ((nI i) + (1 : Int32)).toNatClampNeg), .int (xs ((nI i) + (2 : Int32)).toNatClampNeg)]) (rest := [.int r]) ⟨hx, hb, hml, hown, hts⟩ (cc_X10_where l dC dI fu a2 k2 H1.size (xs ((nI i) + (1 : Int32)).toNatClampNeg) (xs ((nI i) + (2 : Int32)).toNatClampNeg) s2 (r, m') e2) (cwV 2 hts gL_law_X10_where rfl rfl rfl (by decide +kernel) ⟨Nat.le_of_ble_eq_true rfl, Nat.le_of_ble_eq_true rfl⟩) (pf_v (hK.sub (tys' := zt_10 k2) [51, 52, 53, 54, 55, 56, 57, 58, 59, 60, 61, 62, 63, 64, 65, 66, 67, 68, 69, 70, 71] rfl) (sub_P (sb_9_10__1c0 a1 a2 k1 k2 c' s2) hP1) (sub_D (sb_9_10__1c0 a1 a2 k1 k2 c' s2) hD1) 10 0 rfl rfl rfl) rfl rfl hl.1 rfl (lv_room (Nat.le_of_ble_eq_true rfl)) dL_law_972 ⟨Nat.le_of_ble_eq_true rfl, Nat.le_of_ble_eq_true rfl⟩) hS1 (fun q _ h => (sub_F (sb_9_10__1c0 a1 a2 k1 k2 c' s2) hD1 hS1 hA) q h) (sub_F (sb_9_10__1c0 a1 a2 k1 k2 c' s2) hD1 hS1 hA) (fun r2 v2 t2 H2 locs2 ht2 hvm2 hw2 hB2 hz2 hk2 hS2 => ?_)
  obtain rfl : r = r2 := congrArg Prod.fst hw2
  obtain rfl : m' = v2 := congrArg Prod.snd hw2
  obtain ⟨hP2, hD2⟩ := jn_sub (sb_9_10__1c0 a1 a2 k1 k2 c' s2) (jo_9_10__1c0__0 a1 a2 k1 k2 c' s2 m') rfl hP1 hD1 hk2 ht2 hB2
  have hP2 : va_P (dC, dI) vwCl (zc_9 a1 k1 c' ++ zc_10 a2 k2 m') H2 := hP2
  have hD2 : va_D (fun q : Nat => s.heap.size ≤ q) (zc_9 a1 k1 c' ++ zc_10 a2 k2 m') := hD2
  clear hP1 hD1 hS1 hB2 hk2 hvm2 hz2 ht2
  refine lv_icmp_eq (tgt := 1383) hx hb dL_law_975 (by decide) (fun _ => ?_) (fun c => absurd rfl c)
  exact tail c' m' hRel2 H2 locs2 ls hP2 hD2 hS2 hl
set_option maxHeartbeats 4000000 in
set_option maxRecDepth 100000 in
theorem lc_gain {p : Program} {l : Launch} {e : Env} {s : State} {m : MethodId} {below : List Frame} {meth : Method} {c : Code} {dC : Nat → ClassId} {dI : Nat → Nat → Nat} {b L : Nat} {xs : Nat → Int32} {fu : Nat} {Rel : ZT_9 → ZT_10 → Prop} (h_gain : St_gain fu Rel) (a1 a2 : Nat → Nat) (k1 k2 : Nat → ClassId) (hL : L ≤ 4608) (hx : p.tables.exec = Jvm.exec) (hb : c.code = code) (hml : c.maxLocals = 4) (hown : s.vm.findClass RL = some m.cls) (hts : ∀ w ∈ wsL_law, w.before #[Value.ref b] s = true) (hX : va_X b L xs s s.heap) (hbl : b < s.heap.size) (hN : va_Nw nestW s) (hK : va_K (dC, dI) vwCl (zt_9 k1 ++ zt_10 k2) s) {i : Nat} (h9 : i + 9 ≤ L) (tail : ∀ (s1 : ZT_9) (s2 : ZT_10), Rel s1 s2 → ∀ (H : Heap) (locs : List Loc) (ls : Array Slot), va_P (dC, dI) vwCl (zc_9 a1 k1 s1 ++ zc_10 a2 k2 s2) H → va_D (fun q : Nat => s.heap.size ≤ q) (zc_9 a1 k1 s1 ++ zc_10 a2 k2 s2) → va_S (fun q : Nat => s.heap.size ≤ q) s.heap H locs → lv_has ls 4 [(0, .ref b), (1, .ref (a1 0)), (2, .ref (a2 0)), (3, .int (nI i))] → W p l e room_1 s m #[Value.ref b] below meth c H locs 92 2785 (lw_Z below #[Value.ref b] s) (F0 m 1383 ls [])) (s1 : ZT_9) (s2 : ZT_10) (hRel : Rel s1 s2) (H : Heap) (locs : List Loc) (ls : Array Slot) (hP : va_P (dC, dI) vwCl (zc_9 a1 k1 s1 ++ zc_10 a2 k2 s2) H) (hD : va_D (fun q : Nat => s.heap.size ≤ q) (zc_9 a1 k1 s1 ++ zc_10 a2 k2 s2)) (hS : va_S (fun q : Nat => s.heap.size ≤ q) s.heap H locs) (hl : lv_has ls 4 [(0, .ref b), (1, .ref (a1 0)), (2, .ref (a2 0)), (3, .int (nI i))]) : W p l e room_1 s m #[Value.ref b] below meth c H locs 92 2785 (lw_Z below #[Value.ref b] s) (F0 m 980 ls []) := by
  have hA : ∀ q : Nat, s.heap.size ≤ q → (fun q : Nat => s.heap.size ≤ q) q := fun _ h => h
  have hbA : ¬ (fun q : Nat => s.heap.size ≤ q) b := Nat.not_le.mpr hbl
  have j1 : vp_in ((nI i) + (1 : Int32)) L := sc_in 1 (1 : Int32) rfl (by omega) hL
  have j2 : vp_in ((nI i) + (2 : Int32)) L := sc_in 2 (2 : Int32) rfl (by omega) hL
  have j3 : vp_in ((nI i) + (3 : Int32)) L := sc_in 3 (3 : Int32) rfl (by omega) hL
  have j4 : vp_in ((nI i) + (4 : Int32)) L := sc_in 4 (4 : Int32) rfl (by omega) hL
  have j5 : vp_in ((nI i) + (5 : Int32)) L := sc_in 5 (5 : Int32) rfl (by omega) hL
  have j6 : vp_in ((nI i) + (6 : Int32)) L := sc_in 6 (6 : Int32) rfl (by omega) hL
  have j7 : vp_in ((nI i) + (7 : Int32)) L := sc_in 7 (7 : Int32) rfl (by omega) hL
  have j8 : vp_in ((nI i) + (8 : Int32)) L := sc_in 8 (8 : Int32) rfl (by omega) hL
  refine lv_aload_n hx hb dL_law_980 rfl (lv_at hl 1 rfl) ?_
  refine lv_aload_n hx hb dL_law_981 rfl (lv_at hl 0 rfl) ?_
  refine lv_iload_n hx hb dL_law_982 rfl (lv_at hl 3 rfl) ?_
  refine lv_iconst (v := (1 : Int32)) hx hb dL_law_983 (by decide) ?_
  refine lv_iadd hx hb dL_law_984 ?_
  refine va_sld hx hb hX hbl hbA hS j1 dL_law_985 ?_
  refine lv_aload_n hx hb dL_law_986 rfl (lv_at hl 0 rfl) ?_
  refine lv_iload_n hx hb dL_law_987 rfl (lv_at hl 3 rfl) ?_
  refine lv_iconst (v := (2 : Int32)) hx hb dL_law_988 (by decide) ?_
  refine lv_iadd hx hb dL_law_989 ?_
  refine va_sld hx hb hX hbl hbA hS j2 dL_law_990 ?_
  refine lv_aload_n hx hb dL_law_991 rfl (lv_at hl 0 rfl) ?_
  refine lv_iload_n hx hb dL_law_992 rfl (lv_at hl 3 rfl) ?_
  refine lv_iconst (v := (3 : Int32)) hx hb dL_law_993 (by decide) ?_
  refine lv_iadd hx hb dL_law_994 ?_
  refine va_sld hx hb hX hbl hbA hS j3 dL_law_995 ?_
  obtain ⟨r, c', m', e1, e2, hRel2⟩ := h_gain (xs ((nI i) + (1 : Int32)).toNatClampNeg) (xs ((nI i) + (2 : Int32)).toNatClampNeg) (xs ((nI i) + (3 : Int32)).toNatClampNeg) s1 s2 hRel
  refine va_calli (va_runV (As := [.int (xs ((nI i) + (1 : Int32)).toNatClampNeg), .int (xs ((nI i) + (2 : Int32)).toNatClampNeg), .int (xs ((nI i) + (3 : Int32)).toNatClampNeg)]) (rest := []) ⟨hx, hb, hml, hown, hts⟩ (cc_X9_gain l dC dI fu a1 k1 H.size (xs ((nI i) + (1 : Int32)).toNatClampNeg) (xs ((nI i) + (2 : Int32)).toNatClampNeg) (xs ((nI i) + (3 : Int32)).toNatClampNeg) s1 (r, c') e1) (cwV 3 hts gL_law_X9_gain rfl rfl rfl (by decide +kernel) ⟨Nat.le_of_ble_eq_true rfl, Nat.le_of_ble_eq_true rfl⟩) (pf_v (hK.sub (tys' := zt_9 k1) [0, 1, 2, 3, 4, 5, 6, 7, 8, 9, 10, 11, 12, 13, 14, 15, 16, 17, 18, 19, 20, 21, 22, 23, 24, 25, 26, 27, 28, 29, 30, 31, 32, 33, 34, 35, 36, 37, 38, 39, 40, 41, 42, 43, 44, 45, 46, 47, 48, 49, 50] rfl) (sub_P (sb_9_10__0c0 a1 a2 k1 k2 s1 s2) hP) (sub_D (sb_9_10__0c0 a1 a2 k1 k2 s1 s2) hD) 9 0 rfl rfl rfl) rfl rfl hl.1 rfl (lv_room (Nat.le_of_ble_eq_true rfl)) dL_law_996 ⟨Nat.le_of_ble_eq_true rfl, Nat.le_of_ble_eq_true rfl⟩) hS (fun q _ h => (sub_F (sb_9_10__0c0 a1 a2 k1 k2 s1 s2) hD hS hA) q h) (sub_F (sb_9_10__0c0 a1 a2 k1 k2 s1 s2) hD hS hA) (fun r1 v1 t1 H1 locs1 ht1 hvm1 hw1 hB1 hz1 hk1 hS1 => ?_)
  obtain rfl : r = r1 := congrArg Prod.fst hw1
  obtain rfl : c' = v1 := congrArg Prod.snd hw1
  obtain ⟨hP1, hD1⟩ := jn_sub (sb_9_10__0c0 a1 a2 k1 k2 s1 s2) (jo_9_10__0c0__0 a1 a2 k1 k2 s1 s2 c') rfl hP hD hk1 ht1 hB1
  have hP1 : va_P (dC, dI) vwCl (zc_9 a1 k1 c' ++ zc_10 a2 k2 s2) H1 := hP1
  have hD1 : va_D (fun q : Nat => s.heap.size ≤ q) (zc_9 a1 k1 c' ++ zc_10 a2 k2 s2) := hD1
  clear hP hD hS hB1 hk1 hvm1 hz1 ht1
  refine lv_aload_n hx hb dL_law_999 rfl (lv_at hl 2 rfl) ?_
  refine lv_aload_n hx hb dL_law_1000 rfl (lv_at hl 0 rfl) ?_
  refine lv_iload_n hx hb dL_law_1001 rfl (lv_at hl 3 rfl) ?_
  refine lv_iconst (v := (1 : Int32)) hx hb dL_law_1002 (by decide) ?_
  refine lv_iadd hx hb dL_law_1003 ?_
  refine va_sld hx hb hX hbl hbA hS1 j1 dL_law_1004 ?_
  refine lv_aload_n hx hb dL_law_1005 rfl (lv_at hl 0 rfl) ?_
  refine lv_iload_n hx hb dL_law_1006 rfl (lv_at hl 3 rfl) ?_
  refine lv_iconst (v := (2 : Int32)) hx hb dL_law_1007 (by decide) ?_
  refine lv_iadd hx hb dL_law_1008 ?_
  refine va_sld hx hb hX hbl hbA hS1 j2 dL_law_1009 ?_
  refine lv_aload_n hx hb dL_law_1010 rfl (lv_at hl 0 rfl) ?_
  refine lv_iload_n hx hb dL_law_1011 rfl (lv_at hl 3 rfl) ?_
  refine lv_iconst (v := (3 : Int32)) hx hb dL_law_1012 (by decide) ?_
  refine lv_iadd hx hb dL_law_1013 ?_
  refine va_sld hx hb hX hbl hbA hS1 j3 dL_law_1014 ?_
  refine va_calli (va_runV (As := [.int (xs ((nI i) + (1 : Int32)).toNatClampNeg), .int (xs ((nI i) + (2 : Int32)).toNatClampNeg), .int (xs ((nI i) + (3 : Int32)).toNatClampNeg)]) (rest := [.int r]) ⟨hx, hb, hml, hown, hts⟩ (cc_X10_gain l dC dI fu a2 k2 H1.size (xs ((nI i) + (1 : Int32)).toNatClampNeg) (xs ((nI i) + (2 : Int32)).toNatClampNeg) (xs ((nI i) + (3 : Int32)).toNatClampNeg) s2 (r, m') e2) (cwV 3 hts gL_law_X10_gain rfl rfl rfl (by decide +kernel) ⟨Nat.le_of_ble_eq_true rfl, Nat.le_of_ble_eq_true rfl⟩) (pf_v (hK.sub (tys' := zt_10 k2) [51, 52, 53, 54, 55, 56, 57, 58, 59, 60, 61, 62, 63, 64, 65, 66, 67, 68, 69, 70, 71] rfl) (sub_P (sb_9_10__1c0 a1 a2 k1 k2 c' s2) hP1) (sub_D (sb_9_10__1c0 a1 a2 k1 k2 c' s2) hD1) 10 0 rfl rfl rfl) rfl rfl hl.1 rfl (lv_room (Nat.le_of_ble_eq_true rfl)) dL_law_1015 ⟨Nat.le_of_ble_eq_true rfl, Nat.le_of_ble_eq_true rfl⟩) hS1 (fun q _ h => (sub_F (sb_9_10__1c0 a1 a2 k1 k2 c' s2) hD1 hS1 hA) q h) (sub_F (sb_9_10__1c0 a1 a2 k1 k2 c' s2) hD1 hS1 hA) (fun r2 v2 t2 H2 locs2 ht2 hvm2 hw2 hB2 hz2 hk2 hS2 => ?_)
  obtain rfl : r = r2 := congrArg Prod.fst hw2
  obtain rfl : m' = v2 := congrArg Prod.snd hw2
  obtain ⟨hP2, hD2⟩ := jn_sub (sb_9_10__1c0 a1 a2 k1 k2 c' s2) (jo_9_10__1c0__0 a1 a2 k1 k2 c' s2 m') rfl hP1 hD1 hk2 ht2 hB2
  have hP2 : va_P (dC, dI) vwCl (zc_9 a1 k1 c' ++ zc_10 a2 k2 m') H2 := hP2
  have hD2 : va_D (fun q : Nat => s.heap.size ≤ q) (zc_9 a1 k1 c' ++ zc_10 a2 k2 m') := hD2
  clear hP1 hD1 hS1 hB2 hk2 hvm2 hz2 ht2
  refine lv_icmp_eq (tgt := 1383) hx hb dL_law_1018 (by decide) (fun _ => ?_) (fun c => absurd rfl c)
  exact tail c' m' hRel2 H2 locs2 ls hP2 hD2 hS2 hl
set_option maxHeartbeats 4000000 in
set_option maxRecDepth 100000 in
theorem lc_shows {p : Program} {l : Launch} {e : Env} {s : State} {m : MethodId} {below : List Frame} {meth : Method} {c : Code} {dC : Nat → ClassId} {dI : Nat → Nat → Nat} {b L : Nat} {xs : Nat → Int32} {fu : Nat} {Rel : ZT_9 → ZT_10 → Prop} (h_shows : St_shows fu Rel) (a1 a2 : Nat → Nat) (k1 k2 : Nat → ClassId) (hL : L ≤ 4608) (hx : p.tables.exec = Jvm.exec) (hb : c.code = code) (hml : c.maxLocals = 4) (hown : s.vm.findClass RL = some m.cls) (hts : ∀ w ∈ wsL_law, w.before #[Value.ref b] s = true) (hX : va_X b L xs s s.heap) (hbl : b < s.heap.size) (hN : va_Nw nestW s) (hK : va_K (dC, dI) vwCl (zt_9 k1 ++ zt_10 k2) s) {i : Nat} (h9 : i + 9 ≤ L) (tail : ∀ (s1 : ZT_9) (s2 : ZT_10), Rel s1 s2 → ∀ (H : Heap) (locs : List Loc) (ls : Array Slot), va_P (dC, dI) vwCl (zc_9 a1 k1 s1 ++ zc_10 a2 k2 s2) H → va_D (fun q : Nat => s.heap.size ≤ q) (zc_9 a1 k1 s1 ++ zc_10 a2 k2 s2) → va_S (fun q : Nat => s.heap.size ≤ q) s.heap H locs → lv_has ls 4 [(0, .ref b), (1, .ref (a1 0)), (2, .ref (a2 0)), (3, .int (nI i))] → W p l e room_1 s m #[Value.ref b] below meth c H locs 92 2785 (lw_Z below #[Value.ref b] s) (F0 m 1383 ls [])) (s1 : ZT_9) (s2 : ZT_10) (hRel : Rel s1 s2) (H : Heap) (locs : List Loc) (ls : Array Slot) (hP : va_P (dC, dI) vwCl (zc_9 a1 k1 s1 ++ zc_10 a2 k2 s2) H) (hD : va_D (fun q : Nat => s.heap.size ≤ q) (zc_9 a1 k1 s1 ++ zc_10 a2 k2 s2)) (hS : va_S (fun q : Nat => s.heap.size ≤ q) s.heap H locs) (hl : lv_has ls 4 [(0, .ref b), (1, .ref (a1 0)), (2, .ref (a2 0)), (3, .int (nI i))]) : W p l e room_1 s m #[Value.ref b] below meth c H locs 92 2785 (lw_Z below #[Value.ref b] s) (F0 m 1023 ls []) := by
  have hA : ∀ q : Nat, s.heap.size ≤ q → (fun q : Nat => s.heap.size ≤ q) q := fun _ h => h
  have hbA : ¬ (fun q : Nat => s.heap.size ≤ q) b := Nat.not_le.mpr hbl
  have j1 : vp_in ((nI i) + (1 : Int32)) L := sc_in 1 (1 : Int32) rfl (by omega) hL
  have j2 : vp_in ((nI i) + (2 : Int32)) L := sc_in 2 (2 : Int32) rfl (by omega) hL
  have j3 : vp_in ((nI i) + (3 : Int32)) L := sc_in 3 (3 : Int32) rfl (by omega) hL
  have j4 : vp_in ((nI i) + (4 : Int32)) L := sc_in 4 (4 : Int32) rfl (by omega) hL
  have j5 : vp_in ((nI i) + (5 : Int32)) L := sc_in 5 (5 : Int32) rfl (by omega) hL
  have j6 : vp_in ((nI i) + (6 : Int32)) L := sc_in 6 (6 : Int32) rfl (by omega) hL
  have j7 : vp_in ((nI i) + (7 : Int32)) L := sc_in 7 (7 : Int32) rfl (by omega) hL
  have j8 : vp_in ((nI i) + (8 : Int32)) L := sc_in 8 (8 : Int32) rfl (by omega) hL
  refine lv_aload_n hx hb dL_law_1023 rfl (lv_at hl 1 rfl) ?_
  refine lv_aload_n hx hb dL_law_1024 rfl (lv_at hl 0 rfl) ?_
  refine lv_iload_n hx hb dL_law_1025 rfl (lv_at hl 3 rfl) ?_
  refine lv_iconst (v := (1 : Int32)) hx hb dL_law_1026 (by decide) ?_
  refine lv_iadd hx hb dL_law_1027 ?_
  refine va_sld hx hb hX hbl hbA hS j1 dL_law_1028 ?_
  refine lv_aload_n hx hb dL_law_1029 rfl (lv_at hl 0 rfl) ?_
  refine lv_iload_n hx hb dL_law_1030 rfl (lv_at hl 3 rfl) ?_
  refine lv_iconst (v := (2 : Int32)) hx hb dL_law_1031 (by decide) ?_
  refine lv_iadd hx hb dL_law_1032 ?_
  refine va_sld hx hb hX hbl hbA hS j2 dL_law_1033 ?_
  obtain ⟨r, c', m', e1, e2, hRel2⟩ := h_shows (xs ((nI i) + (1 : Int32)).toNatClampNeg) (xs ((nI i) + (2 : Int32)).toNatClampNeg) s1 s2 hRel
  refine va_calli (va_runV (As := [.int (xs ((nI i) + (1 : Int32)).toNatClampNeg), .int (xs ((nI i) + (2 : Int32)).toNatClampNeg)]) (rest := []) ⟨hx, hb, hml, hown, hts⟩ (cc_X9_shows l dC dI fu a1 k1 H.size (xs ((nI i) + (1 : Int32)).toNatClampNeg) (xs ((nI i) + (2 : Int32)).toNatClampNeg) s1 (r, c') e1) (cwV 2 hts gL_law_X9_shows rfl rfl rfl (by decide +kernel) ⟨Nat.le_of_ble_eq_true rfl, Nat.le_of_ble_eq_true rfl⟩) (pf_v (hK.sub (tys' := zt_9 k1) [0, 1, 2, 3, 4, 5, 6, 7, 8, 9, 10, 11, 12, 13, 14, 15, 16, 17, 18, 19, 20, 21, 22, 23, 24, 25, 26, 27, 28, 29, 30, 31, 32, 33, 34, 35, 36, 37, 38, 39, 40, 41, 42, 43, 44, 45, 46, 47, 48, 49, 50] rfl) (sub_P (sb_9_10__0c0 a1 a2 k1 k2 s1 s2) hP) (sub_D (sb_9_10__0c0 a1 a2 k1 k2 s1 s2) hD) 9 0 rfl rfl rfl) rfl rfl hl.1 rfl (lv_room (Nat.le_of_ble_eq_true rfl)) dL_law_1034 ⟨Nat.le_of_ble_eq_true rfl, Nat.le_of_ble_eq_true rfl⟩) hS (fun q _ h => (sub_F (sb_9_10__0c0 a1 a2 k1 k2 s1 s2) hD hS hA) q h) (sub_F (sb_9_10__0c0 a1 a2 k1 k2 s1 s2) hD hS hA) (fun r1 v1 t1 H1 locs1 ht1 hvm1 hw1 hB1 hz1 hk1 hS1 => ?_)
  obtain rfl : r = r1 := congrArg Prod.fst hw1
  obtain rfl : c' = v1 := congrArg Prod.snd hw1
  obtain ⟨hP1, hD1⟩ := jn_sub (sb_9_10__0c0 a1 a2 k1 k2 s1 s2) (jo_9_10__0c0__0 a1 a2 k1 k2 s1 s2 c') rfl hP hD hk1 ht1 hB1
  have hP1 : va_P (dC, dI) vwCl (zc_9 a1 k1 c' ++ zc_10 a2 k2 s2) H1 := hP1
  have hD1 : va_D (fun q : Nat => s.heap.size ≤ q) (zc_9 a1 k1 c' ++ zc_10 a2 k2 s2) := hD1
  clear hP hD hS hB1 hk1 hvm1 hz1 ht1
  refine lv_aload_n hx hb dL_law_1037 rfl (lv_at hl 2 rfl) ?_
  refine lv_aload_n hx hb dL_law_1038 rfl (lv_at hl 0 rfl) ?_
  refine lv_iload_n hx hb dL_law_1039 rfl (lv_at hl 3 rfl) ?_
  refine lv_iconst (v := (1 : Int32)) hx hb dL_law_1040 (by decide) ?_
  refine lv_iadd hx hb dL_law_1041 ?_
  refine va_sld hx hb hX hbl hbA hS1 j1 dL_law_1042 ?_
  refine lv_aload_n hx hb dL_law_1043 rfl (lv_at hl 0 rfl) ?_
  refine lv_iload_n hx hb dL_law_1044 rfl (lv_at hl 3 rfl) ?_
  refine lv_iconst (v := (2 : Int32)) hx hb dL_law_1045 (by decide) ?_
  refine lv_iadd hx hb dL_law_1046 ?_
  refine va_sld hx hb hX hbl hbA hS1 j2 dL_law_1047 ?_
  refine va_calli (va_runV (As := [.int (xs ((nI i) + (1 : Int32)).toNatClampNeg), .int (xs ((nI i) + (2 : Int32)).toNatClampNeg)]) (rest := [.int r]) ⟨hx, hb, hml, hown, hts⟩ (cc_X10_shows l dC dI fu a2 k2 H1.size (xs ((nI i) + (1 : Int32)).toNatClampNeg) (xs ((nI i) + (2 : Int32)).toNatClampNeg) s2 (r, m') e2) (cwV 2 hts gL_law_X10_shows rfl rfl rfl (by decide +kernel) ⟨Nat.le_of_ble_eq_true rfl, Nat.le_of_ble_eq_true rfl⟩) (pf_v (hK.sub (tys' := zt_10 k2) [51, 52, 53, 54, 55, 56, 57, 58, 59, 60, 61, 62, 63, 64, 65, 66, 67, 68, 69, 70, 71] rfl) (sub_P (sb_9_10__1c0 a1 a2 k1 k2 c' s2) hP1) (sub_D (sb_9_10__1c0 a1 a2 k1 k2 c' s2) hD1) 10 0 rfl rfl rfl) rfl rfl hl.1 rfl (lv_room (Nat.le_of_ble_eq_true rfl)) dL_law_1048 ⟨Nat.le_of_ble_eq_true rfl, Nat.le_of_ble_eq_true rfl⟩) hS1 (fun q _ h => (sub_F (sb_9_10__1c0 a1 a2 k1 k2 c' s2) hD1 hS1 hA) q h) (sub_F (sb_9_10__1c0 a1 a2 k1 k2 c' s2) hD1 hS1 hA) (fun r2 v2 t2 H2 locs2 ht2 hvm2 hw2 hB2 hz2 hk2 hS2 => ?_)
  obtain rfl : r = r2 := congrArg Prod.fst hw2
  obtain rfl : m' = v2 := congrArg Prod.snd hw2
  obtain ⟨hP2, hD2⟩ := jn_sub (sb_9_10__1c0 a1 a2 k1 k2 c' s2) (jo_9_10__1c0__0 a1 a2 k1 k2 c' s2 m') rfl hP1 hD1 hk2 ht2 hB2
  have hP2 : va_P (dC, dI) vwCl (zc_9 a1 k1 c' ++ zc_10 a2 k2 m') H2 := hP2
  have hD2 : va_D (fun q : Nat => s.heap.size ≤ q) (zc_9 a1 k1 c' ++ zc_10 a2 k2 m') := hD2
  clear hP1 hD1 hS1 hB2 hk2 hvm2 hz2 ht2
  refine lv_icmp_eq (tgt := 1383) hx hb dL_law_1051 (by decide) (fun _ => ?_) (fun c => absurd rfl c)
  exact tail c' m' hRel2 H2 locs2 ls hP2 hD2 hS2 hl
