set_option maxHeartbeats 4000000 in
set_option maxRecDepth 100000 in
theorem lc_coin {p : Program} {l : Launch} {e : Env} {s : State} {m : MethodId} {below : List Frame} {meth : Method} {c : Code} {dC : Nat → ClassId} {dI : Nat → Nat → Nat} {b L : Nat} {xs : Nat → Int32} {fu : Nat} {Rel : ZT_9 → ZT_10 → Prop} (h_coin : St_coin fu Rel) (a1 a2 : Nat → Nat) (k1 k2 : Nat → ClassId) (hL : L ≤ 4608) (hx : p.tables.exec = Jvm.exec) (hb : c.code = code) (hml : c.maxLocals = 4) (hown : s.vm.findClass RL = some m.cls) (hts : ∀ w ∈ wsL_law, w.before #[Value.ref b] s = true) (hX : va_X b L xs s s.heap) (hbl : b < s.heap.size) (hN : va_Nw nestW s) (hK : va_K (dC, dI) vwCl (zt_9 k1 ++ zt_10 k2) s) {i : Nat} (h9 : i + 9 ≤ L) (tail : ∀ (s1 : ZT_9) (s2 : ZT_10), Rel s1 s2 → ∀ (H : Heap) (locs : List Loc) (ls : Array Slot), va_P (dC, dI) vwCl (zc_9 a1 k1 s1 ++ zc_10 a2 k2 s2) H → va_D (fun q : Nat => s.heap.size ≤ q) (zc_9 a1 k1 s1 ++ zc_10 a2 k2 s2) → va_S (fun q : Nat => s.heap.size ≤ q) s.heap H locs → lv_has ls 4 [(0, .ref b), (1, .ref (a1 0)), (2, .ref (a2 0)), (3, .int (nI i))] → W p l e room_1 s m #[Value.ref b] below meth c H locs 92 2785 (lw_Z below #[Value.ref b] s) (F0 m 1383 ls [])) (s1 : ZT_9) (s2 : ZT_10) (hRel : Rel s1 s2) (H : Heap) (locs : List Loc) (ls : Array Slot) (hP : va_P (dC, dI) vwCl (zc_9 a1 k1 s1 ++ zc_10 a2 k2 s2) H) (hD : va_D (fun q : Nat => s.heap.size ≤ q) (zc_9 a1 k1 s1 ++ zc_10 a2 k2 s2)) (hS : va_S (fun q : Nat => s.heap.size ≤ q) s.heap H locs) (hl : lv_has ls 4 [(0, .ref b), (1, .ref (a1 0)), (2, .ref (a2 0)), (3, .int (nI i))]) : W p l e room_1 s m #[Value.ref b] below meth c H locs 92 2785 (lw_Z below #[Value.ref b] s) (F0 m 172 ls []) := by
  have hA : ∀ q : Nat, s.heap.size ≤ q → (fun q : Nat => s.heap.size ≤ q) q := fun _ h => h
  have hbA : ¬ (fun q : Nat => s.heap.size ≤ q) b := Nat.not_le.mpr hbl
  have j1 : vp_in ((nI i) + (1 : Int32)) L := sc_in 1 (1 : Int32) rfl (by omega) hL
  have j2 : vp_in ((nI i) + (2 : Int32)) L := sc_in 2 (2 : Int32) rfl (by omega) hL
  have j3 : vp_in ((nI i) + (3 : Int32)) L := sc_in 3 (3 : Int32) rfl (by omega) hL
  have j4 : vp_in ((nI i) + (4 : Int32)) L := sc_in 4 (4 : Int32) rfl (by omega) hL
  have j5 : vp_in ((nI i) + (5 : Int32)) L := sc_in 5 (5 : Int32) rfl (by omega) hL
  have j6 : vp_in ((nI i) + (6 : Int32)) L := sc_in 6 (6 : Int32) rfl (by omega) hL
  have j7 : vp_in ((nI i) + (7 : Int32)) L := sc_in 7 (7 : Int32) rfl (by omega) hL
  have j8 : vp_in ((nI i) + (8 : Int32)) L := sc_in 8 (8 : Int32) rfl (by omega) hL
  refine lv_aload_n hx hb dL_law_172 rfl (lv_at hl 1 rfl) ?_
  refine lv_aload_n hx hb dL_law_173 rfl (lv_at hl 0 rfl) ?_
  refine lv_iload_n hx hb dL_law_174 rfl (lv_at hl 3 rfl) ?_
  refine lv_iconst (v := (1 : Int32)) hx hb dL_law_175 (by decide) ?_
  refine lv_iadd hx hb dL_law_176 ?_
  refine va_sld hx hb hX hbl hbA hS j1 dL_law_177 ?_
  refine lv_aload_n hx hb dL_law_178 rfl (lv_at hl 0 rfl) ?_
  refine lv_iload_n hx hb dL_law_179 rfl (lv_at hl 3 rfl) ?_
  refine lv_iconst (v := (2 : Int32)) hx hb dL_law_180 (by decide) ?_
  refine lv_iadd hx hb dL_law_181 ?_
  refine va_sld hx hb hX hbl hbA hS j2 dL_law_182 ?_
  refine lv_aload_n hx hb dL_law_183 rfl (lv_at hl 0 rfl) ?_
  refine lv_iload_n hx hb dL_law_184 rfl (lv_at hl 3 rfl) ?_
  refine lv_iconst (v := (3 : Int32)) hx hb dL_law_185 (by decide) ?_
  refine lv_iadd hx hb dL_law_186 ?_
  refine va_sld hx hb hX hbl hbA hS j3 dL_law_187 ?_
  refine lv_aload_n hx hb dL_law_188 rfl (lv_at hl 0 rfl) ?_
  refine lv_iload_n hx hb dL_law_189 rfl (lv_at hl 3 rfl) ?_
  refine lv_iconst (v := (4 : Int32)) hx hb dL_law_190 (by decide) ?_
  refine lv_iadd hx hb dL_law_191 ?_
  refine va_sld hx hb hX hbl hbA hS j4 dL_law_192 ?_
  obtain ⟨r, c', m', e1, e2, hRel2⟩ := h_coin (xs ((nI i) + (1 : Int32)).toNatClampNeg) (xs ((nI i) + (2 : Int32)).toNatClampNeg) (xs ((nI i) + (3 : Int32)).toNatClampNeg) (xs ((nI i) + (4 : Int32)).toNatClampNeg) s1 s2 hRel
  refine va_calli (va_runV (As := [.int (xs ((nI i) + (1 : Int32)).toNatClampNeg), .int (xs ((nI i) + (2 : Int32)).toNatClampNeg), .int (xs ((nI i) + (3 : Int32)).toNatClampNeg), .int (xs ((nI i) + (4 : Int32)).toNatClampNeg)]) (rest := []) ⟨hx, hb, hml, hown, hts⟩ (cc_X9_coin l dC dI fu a1 k1 H.size (xs ((nI i) + (1 : Int32)).toNatClampNeg) (xs ((nI i) + (2 : Int32)).toNatClampNeg) (xs ((nI i) + (3 : Int32)).toNatClampNeg) (xs ((nI i) + (4 : Int32)).toNatClampNeg) s1 (r, c') e1) (cwV 4 hts gL_law_X9_coin rfl rfl rfl (by decide +kernel) ⟨Nat.le_of_ble_eq_true rfl, Nat.le_of_ble_eq_true rfl⟩) (pf_v (hK.sub (tys' := zt_9 k1) [0, 1, 2, 3, 4, 5, 6, 7, 8, 9, 10, 11, 12, 13, 14, 15, 16, 17, 18, 19, 20, 21, 22, 23, 24, 25, 26, 27, 28, 29, 30, 31, 32, 33, 34, 35, 36, 37, 38, 39, 40, 41, 42, 43, 44, 45, 46, 47, 48, 49, 50] rfl) (sub_P (sb_9_10__0c0 a1 a2 k1 k2 s1 s2) hP) (sub_D (sb_9_10__0c0 a1 a2 k1 k2 s1 s2) hD) 9 0 rfl rfl rfl) rfl rfl hl.1 rfl (lv_room (Nat.le_of_ble_eq_true rfl)) dL_law_193 ⟨Nat.le_of_ble_eq_true rfl, Nat.le_of_ble_eq_true rfl⟩) hS (fun q _ h => (sub_F (sb_9_10__0c0 a1 a2 k1 k2 s1 s2) hD hS hA) q h) (sub_F (sb_9_10__0c0 a1 a2 k1 k2 s1 s2) hD hS hA) (fun r1 v1 t1 H1 locs1 ht1 hvm1 hw1 hB1 hz1 hk1 hS1 => ?_)
  obtain rfl : r = r1 := congrArg Prod.fst hw1
  obtain rfl : c' = v1 := congrArg Prod.snd hw1
  obtain ⟨hP1, hD1⟩ := jn_sub (sb_9_10__0c0 a1 a2 k1 k2 s1 s2) (jo_9_10__0c0__0 a1 a2 k1 k2 s1 s2 c') rfl hP hD hk1 ht1 hB1
  have hP1 : va_P (dC, dI) vwCl (zc_9 a1 k1 c' ++ zc_10 a2 k2 s2) H1 := hP1
  have hD1 : va_D (fun q : Nat => s.heap.size ≤ q) (zc_9 a1 k1 c' ++ zc_10 a2 k2 s2) := hD1
  clear hP hD hS hB1 hk1 hvm1 hz1 ht1
  refine lv_aload_n hx hb dL_law_196 rfl (lv_at hl 2 rfl) ?_
  refine lv_aload_n hx hb dL_law_197 rfl (lv_at hl 0 rfl) ?_
  refine lv_iload_n hx hb dL_law_198 rfl (lv_at hl 3 rfl) ?_
  refine lv_iconst (v := (1 : Int32)) hx hb dL_law_199 (by decide) ?_
  refine lv_iadd hx hb dL_law_200 ?_
  refine va_sld hx hb hX hbl hbA hS1 j1 dL_law_201 ?_
  refine lv_aload_n hx hb dL_law_202 rfl (lv_at hl 0 rfl) ?_
  refine lv_iload_n hx hb dL_law_203 rfl (lv_at hl 3 rfl) ?_
  refine lv_iconst (v := (2 : Int32)) hx hb dL_law_204 (by decide) ?_
  refine lv_iadd hx hb dL_law_205 ?_
  refine va_sld hx hb hX hbl hbA hS1 j2 dL_law_206 ?_
  refine lv_aload_n hx hb dL_law_207 rfl (lv_at hl 0 rfl) ?_
  refine lv_iload_n hx hb dL_law_208 rfl (lv_at hl 3 rfl) ?_
  refine lv_iconst (v := (3 : Int32)) hx hb dL_law_209 (by decide) ?_
  refine lv_iadd hx hb dL_law_210 ?_
  refine va_sld hx hb hX hbl hbA hS1 j3 dL_law_211 ?_
  refine lv_aload_n hx hb dL_law_212 rfl (lv_at hl 0 rfl) ?_
  refine lv_iload_n hx hb dL_law_213 rfl (lv_at hl 3 rfl) ?_
  refine lv_iconst (v := (4 : Int32)) hx hb dL_law_214 (by decide) ?_
  refine lv_iadd hx hb dL_law_215 ?_
  refine va_sld hx hb hX hbl hbA hS1 j4 dL_law_216 ?_
  refine va_calli (va_runV (As := [.int (xs ((nI i) + (1 : Int32)).toNatClampNeg), .int (xs ((nI i) + (2 : Int32)).toNatClampNeg), .int (xs ((nI i) + (3 : Int32)).toNatClampNeg), .int (xs ((nI i) + (4 : Int32)).toNatClampNeg)]) (rest := [.int r]) ⟨hx, hb, hml, hown, hts⟩ (cc_X10_coin l dC dI fu a2 k2 H1.size (xs ((nI i) + (1 : Int32)).toNatClampNeg) (xs ((nI i) + (2 : Int32)).toNatClampNeg) (xs ((nI i) + (3 : Int32)).toNatClampNeg) (xs ((nI i) + (4 : Int32)).toNatClampNeg) s2 (r, m') e2) (cwV 4 hts gL_law_X10_coin rfl rfl rfl (by decide +kernel) ⟨Nat.le_of_ble_eq_true rfl, Nat.le_of_ble_eq_true rfl⟩) (pf_v (hK.sub (tys' := zt_10 k2) [51, 52, 53, 54, 55, 56, 57, 58, 59, 60, 61, 62, 63, 64, 65, 66, 67, 68, 69, 70, 71] rfl) (sub_P (sb_9_10__1c0 a1 a2 k1 k2 c' s2) hP1) (sub_D (sb_9_10__1c0 a1 a2 k1 k2 c' s2) hD1) 10 0 rfl rfl rfl) rfl rfl hl.1 rfl (lv_room (Nat.le_of_ble_eq_true rfl)) dL_law_217 ⟨Nat.le_of_ble_eq_true rfl, Nat.le_of_ble_eq_true rfl⟩) hS1 (fun q _ h => (sub_F (sb_9_10__1c0 a1 a2 k1 k2 c' s2) hD1 hS1 hA) q h) (sub_F (sb_9_10__1c0 a1 a2 k1 k2 c' s2) hD1 hS1 hA) (fun r2 v2 t2 H2 locs2 ht2 hvm2 hw2 hB2 hz2 hk2 hS2 => ?_)
  obtain rfl : r = r2 := congrArg Prod.fst hw2
  obtain rfl : m' = v2 := congrArg Prod.snd hw2
  obtain ⟨hP2, hD2⟩ := jn_sub (sb_9_10__1c0 a1 a2 k1 k2 c' s2) (jo_9_10__1c0__0 a1 a2 k1 k2 c' s2 m') rfl hP1 hD1 hk2 ht2 hB2
  have hP2 : va_P (dC, dI) vwCl (zc_9 a1 k1 c' ++ zc_10 a2 k2 m') H2 := hP2
  have hD2 : va_D (fun q : Nat => s.heap.size ≤ q) (zc_9 a1 k1 c' ++ zc_10 a2 k2 m') := hD2
  clear hP1 hD1 hS1 hB2 hk2 hvm2 hz2 ht2
  refine lv_icmp_eq (tgt := 1383) hx hb dL_law_220 (by decide) (fun _ => ?_) (fun c => absurd rfl c)
  exact tail c' m' hRel2 H2 locs2 ls hP2 hD2 hS2 hl
set_option maxHeartbeats 4000000 in
set_option maxRecDepth 100000 in
theorem lc_stamp {p : Program} {l : Launch} {e : Env} {s : State} {m : MethodId} {below : List Frame} {meth : Method} {c : Code} {dC : Nat → ClassId} {dI : Nat → Nat → Nat} {b L : Nat} {xs : Nat → Int32} {fu : Nat} {Rel : ZT_9 → ZT_10 → Prop} (h_stamp : St_stamp fu Rel) (a1 a2 : Nat → Nat) (k1 k2 : Nat → ClassId) (hL : L ≤ 4608) (hx : p.tables.exec = Jvm.exec) (hb : c.code = code) (hml : c.maxLocals = 4) (hown : s.vm.findClass RL = some m.cls) (hts : ∀ w ∈ wsL_law, w.before #[Value.ref b] s = true) (hX : va_X b L xs s s.heap) (hbl : b < s.heap.size) (hN : va_Nw nestW s) (hK : va_K (dC, dI) vwCl (zt_9 k1 ++ zt_10 k2) s) {i : Nat} (h9 : i + 9 ≤ L) (tail : ∀ (s1 : ZT_9) (s2 : ZT_10), Rel s1 s2 → ∀ (H : Heap) (locs : List Loc) (ls : Array Slot), va_P (dC, dI) vwCl (zc_9 a1 k1 s1 ++ zc_10 a2 k2 s2) H → va_D (fun q : Nat => s.heap.size ≤ q) (zc_9 a1 k1 s1 ++ zc_10 a2 k2 s2) → va_S (fun q : Nat => s.heap.size ≤ q) s.heap H locs → lv_has ls 4 [(0, .ref b), (1, .ref (a1 0)), (2, .ref (a2 0)), (3, .int (nI i))] → W p l e room_1 s m #[Value.ref b] below meth c H locs 92 2785 (lw_Z below #[Value.ref b] s) (F0 m 1383 ls [])) (s1 : ZT_9) (s2 : ZT_10) (hRel : Rel s1 s2) (H : Heap) (locs : List Loc) (ls : Array Slot) (hP : va_P (dC, dI) vwCl (zc_9 a1 k1 s1 ++ zc_10 a2 k2 s2) H) (hD : va_D (fun q : Nat => s.heap.size ≤ q) (zc_9 a1 k1 s1 ++ zc_10 a2 k2 s2)) (hS : va_S (fun q : Nat => s.heap.size ≤ q) s.heap H locs) (hl : lv_has ls 4 [(0, .ref b), (1, .ref (a1 0)), (2, .ref (a2 0)), (3, .int (nI i))]) : W p l e room_1 s m #[Value.ref b] below meth c H locs 92 2785 (lw_Z below #[Value.ref b] s) (F0 m 225 ls []) := by
  have hA : ∀ q : Nat, s.heap.size ≤ q → (fun q : Nat => s.heap.size ≤ q) q := fun _ h => h
  have hbA : ¬ (fun q : Nat => s.heap.size ≤ q) b := Nat.not_le.mpr hbl
  have j1 : vp_in ((nI i) + (1 : Int32)) L := sc_in 1 (1 : Int32) rfl (by omega) hL
  have j2 : vp_in ((nI i) + (2 : Int32)) L := sc_in 2 (2 : Int32) rfl (by omega) hL
  have j3 : vp_in ((nI i) + (3 : Int32)) L := sc_in 3 (3 : Int32) rfl (by omega) hL
  have j4 : vp_in ((nI i) + (4 : Int32)) L := sc_in 4 (4 : Int32) rfl (by omega) hL
  have j5 : vp_in ((nI i) + (5 : Int32)) L := sc_in 5 (5 : Int32) rfl (by omega) hL
  have j6 : vp_in ((nI i) + (6 : Int32)) L := sc_in 6 (6 : Int32) rfl (by omega) hL
  have j7 : vp_in ((nI i) + (7 : Int32)) L := sc_in 7 (7 : Int32) rfl (by omega) hL
  have j8 : vp_in ((nI i) + (8 : Int32)) L := sc_in 8 (8 : Int32) rfl (by omega) hL
  refine lv_aload_n hx hb dL_law_225 rfl (lv_at hl 1 rfl) ?_
  refine lv_aload_n hx hb dL_law_226 rfl (lv_at hl 0 rfl) ?_
  refine lv_iload_n hx hb dL_law_227 rfl (lv_at hl 3 rfl) ?_
  refine lv_iconst (v := (1 : Int32)) hx hb dL_law_228 (by decide) ?_
  refine lv_iadd hx hb dL_law_229 ?_
  refine va_sld hx hb hX hbl hbA hS j1 dL_law_230 ?_
  refine lv_aload_n hx hb dL_law_231 rfl (lv_at hl 0 rfl) ?_
  refine lv_iload_n hx hb dL_law_232 rfl (lv_at hl 3 rfl) ?_
  refine lv_iconst (v := (2 : Int32)) hx hb dL_law_233 (by decide) ?_
  refine lv_iadd hx hb dL_law_234 ?_
  refine va_sld hx hb hX hbl hbA hS j2 dL_law_235 ?_
  obtain ⟨r, c', m', e1, e2, hRel2⟩ := h_stamp (xs ((nI i) + (1 : Int32)).toNatClampNeg) (xs ((nI i) + (2 : Int32)).toNatClampNeg) s1 s2 hRel
  refine va_calli (va_runV (As := [.int (xs ((nI i) + (1 : Int32)).toNatClampNeg), .int (xs ((nI i) + (2 : Int32)).toNatClampNeg)]) (rest := []) ⟨hx, hb, hml, hown, hts⟩ (cc_X9_stamp l dC dI fu a1 k1 H.size (xs ((nI i) + (1 : Int32)).toNatClampNeg) (xs ((nI i) + (2 : Int32)).toNatClampNeg) s1 (r, c') e1) (cwV 2 hts gL_law_X9_stamp rfl rfl rfl (by decide +kernel) ⟨Nat.le_of_ble_eq_true rfl, Nat.le_of_ble_eq_true rfl⟩) (pf_v (hK.sub (tys' := zt_9 k1) [0, 1, 2, 3, 4, 5, 6, 7, 8, 9, 10, 11, 12, 13, 14, 15, 16, 17, 18, 19, 20, 21, 22, 23, 24, 25, 26, 27, 28, 29, 30, 31, 32, 33, 34, 35, 36, 37, 38, 39, 40, 41, 42, 43, 44, 45, 46, 47, 48, 49, 50] rfl) (sub_P (sb_9_10__0c0 a1 a2 k1 k2 s1 s2) hP) (sub_D (sb_9_10__0c0 a1 a2 k1 k2 s1 s2) hD) 9 0 rfl rfl rfl) rfl rfl hl.1 rfl (lv_room (Nat.le_of_ble_eq_true rfl)) dL_law_236 ⟨Nat.le_of_ble_eq_true rfl, Nat.le_of_ble_eq_true rfl⟩) hS (fun q _ h => (sub_F (sb_9_10__0c0 a1 a2 k1 k2 s1 s2) hD hS hA) q h) (sub_F (sb_9_10__0c0 a1 a2 k1 k2 s1 s2) hD hS hA) (fun r1 v1 t1 H1 locs1 ht1 hvm1 hw1 hB1 hz1 hk1 hS1 => ?_)
  obtain rfl : r = r1 := congrArg Prod.fst hw1
  obtain rfl : c' = v1 := congrArg Prod.snd hw1
  obtain ⟨hP1, hD1⟩ := jn_sub (sb_9_10__0c0 a1 a2 k1 k2 s1 s2) (jo_9_10__0c0__0 a1 a2 k1 k2 s1 s2 c') rfl hP hD hk1 ht1 hB1
  have hP1 : va_P (dC, dI) vwCl (zc_9 a1 k1 c' ++ zc_10 a2 k2 s2) H1 := hP1
  have hD1 : va_D (fun q : Nat => s.heap.size ≤ q) (zc_9 a1 k1 c' ++ zc_10 a2 k2 s2) := hD1
  clear hP hD hS hB1 hk1 hvm1 hz1 ht1
  refine lv_aload_n hx hb dL_law_239 rfl (lv_at hl 2 rfl) ?_
  refine lv_aload_n hx hb dL_law_240 rfl (lv_at hl 0 rfl) ?_
  refine lv_iload_n hx hb dL_law_241 rfl (lv_at hl 3 rfl) ?_
  refine lv_iconst (v := (1 : Int32)) hx hb dL_law_242 (by decide) ?_
  refine lv_iadd hx hb dL_law_243 ?_
  refine va_sld hx hb hX hbl hbA hS1 j1 dL_law_244 ?_
  refine lv_aload_n hx hb dL_law_245 rfl (lv_at hl 0 rfl) ?_
  refine lv_iload_n hx hb dL_law_246 rfl (lv_at hl 3 rfl) ?_
  refine lv_iconst (v := (2 : Int32)) hx hb dL_law_247 (by decide) ?_
  refine lv_iadd hx hb dL_law_248 ?_
  refine va_sld hx hb hX hbl hbA hS1 j2 dL_law_249 ?_
  refine va_calli (va_runV (As := [.int (xs ((nI i) + (1 : Int32)).toNatClampNeg), .int (xs ((nI i) + (2 : Int32)).toNatClampNeg)]) (rest := [.int r]) ⟨hx, hb, hml, hown, hts⟩ (cc_X10_stamp l dC dI fu a2 k2 H1.size (xs ((nI i) + (1 : Int32)).toNatClampNeg) (xs ((nI i) + (2 : Int32)).toNatClampNeg) s2 (r, m') e2) (cwV 2 hts gL_law_X10_stamp rfl rfl rfl (by decide +kernel) ⟨Nat.le_of_ble_eq_true rfl, Nat.le_of_ble_eq_true rfl⟩) (pf_v (hK.sub (tys' := zt_10 k2) [51, 52, 53, 54, 55, 56, 57, 58, 59, 60, 61, 62, 63, 64, 65, 66, 67, 68, 69, 70, 71] rfl) (sub_P (sb_9_10__1c0 a1 a2 k1 k2 c' s2) hP1) (sub_D (sb_9_10__1c0 a1 a2 k1 k2 c' s2) hD1) 10 0 rfl rfl rfl) rfl rfl hl.1 rfl (lv_room (Nat.le_of_ble_eq_true rfl)) dL_law_250 ⟨Nat.le_of_ble_eq_true rfl, Nat.le_of_ble_eq_true rfl⟩) hS1 (fun q _ h => (sub_F (sb_9_10__1c0 a1 a2 k1 k2 c' s2) hD1 hS1 hA) q h) (sub_F (sb_9_10__1c0 a1 a2 k1 k2 c' s2) hD1 hS1 hA) (fun r2 v2 t2 H2 locs2 ht2 hvm2 hw2 hB2 hz2 hk2 hS2 => ?_)
  obtain rfl : r = r2 := congrArg Prod.fst hw2
  obtain rfl : m' = v2 := congrArg Prod.snd hw2
  obtain ⟨hP2, hD2⟩ := jn_sub (sb_9_10__1c0 a1 a2 k1 k2 c' s2) (jo_9_10__1c0__0 a1 a2 k1 k2 c' s2 m') rfl hP1 hD1 hk2 ht2 hB2
  have hP2 : va_P (dC, dI) vwCl (zc_9 a1 k1 c' ++ zc_10 a2 k2 m') H2 := hP2
  have hD2 : va_D (fun q : Nat => s.heap.size ≤ q) (zc_9 a1 k1 c' ++ zc_10 a2 k2 m') := hD2
  clear hP1 hD1 hS1 hB2 hk2 hvm2 hz2 ht2
  refine lv_icmp_eq (tgt := 1383) hx hb dL_law_253 (by decide) (fun _ => ?_) (fun c => absurd rfl c)
  exact tail c' m' hRel2 H2 locs2 ls hP2 hD2 hS2 hl
set_option maxHeartbeats 4000000 in
set_option maxRecDepth 100000 in
theorem lc_told {p : Program} {l : Launch} {e : Env} {s : State} {m : MethodId} {below : List Frame} {meth : Method} {c : Code} {dC : Nat → ClassId} {dI : Nat → Nat → Nat} {b L : Nat} {xs : Nat → Int32} {fu : Nat} {Rel : ZT_9 → ZT_10 → Prop} (h_told : St_told fu Rel) (a1 a2 : Nat → Nat) (k1 k2 : Nat → ClassId) (hL : L ≤ 4608) (hx : p.tables.exec = Jvm.exec) (hb : c.code = code) (hml : c.maxLocals = 4) (hown : s.vm.findClass RL = some m.cls) (hts : ∀ w ∈ wsL_law, w.before #[Value.ref b] s = true) (hX : va_X b L xs s s.heap) (hbl : b < s.heap.size) (hN : va_Nw nestW s) (hK : va_K (dC, dI) vwCl (zt_9 k1 ++ zt_10 k2) s) {i : Nat} (h9 : i + 9 ≤ L) (tail : ∀ (s1 : ZT_9) (s2 : ZT_10), Rel s1 s2 → ∀ (H : Heap) (locs : List Loc) (ls : Array Slot), va_P (dC, dI) vwCl (zc_9 a1 k1 s1 ++ zc_10 a2 k2 s2) H → va_D (fun q : Nat => s.heap.size ≤ q) (zc_9 a1 k1 s1 ++ zc_10 a2 k2 s2) → va_S (fun q : Nat => s.heap.size ≤ q) s.heap H locs → lv_has ls 4 [(0, .ref b), (1, .ref (a1 0)), (2, .ref (a2 0)), (3, .int (nI i))] → W p l e room_1 s m #[Value.ref b] below meth c H locs 92 2785 (lw_Z below #[Value.ref b] s) (F0 m 1383 ls [])) (s1 : ZT_9) (s2 : ZT_10) (hRel : Rel s1 s2) (H : Heap) (locs : List Loc) (ls : Array Slot) (hP : va_P (dC, dI) vwCl (zc_9 a1 k1 s1 ++ zc_10 a2 k2 s2) H) (hD : va_D (fun q : Nat => s.heap.size ≤ q) (zc_9 a1 k1 s1 ++ zc_10 a2 k2 s2)) (hS : va_S (fun q : Nat => s.heap.size ≤ q) s.heap H locs) (hl : lv_has ls 4 [(0, .ref b), (1, .ref (a1 0)), (2, .ref (a2 0)), (3, .int (nI i))]) : W p l e room_1 s m #[Value.ref b] below meth c H locs 92 2785 (lw_Z below #[Value.ref b] s) (F0 m 258 ls []) := by
  have hA : ∀ q : Nat, s.heap.size ≤ q → (fun q : Nat => s.heap.size ≤ q) q := fun _ h => h
  have hbA : ¬ (fun q : Nat => s.heap.size ≤ q) b := Nat.not_le.mpr hbl
  have j1 : vp_in ((nI i) + (1 : Int32)) L := sc_in 1 (1 : Int32) rfl (by omega) hL
  have j2 : vp_in ((nI i) + (2 : Int32)) L := sc_in 2 (2 : Int32) rfl (by omega) hL
  have j3 : vp_in ((nI i) + (3 : Int32)) L := sc_in 3 (3 : Int32) rfl (by omega) hL
  have j4 : vp_in ((nI i) + (4 : Int32)) L := sc_in 4 (4 : Int32) rfl (by omega) hL
  have j5 : vp_in ((nI i) + (5 : Int32)) L := sc_in 5 (5 : Int32) rfl (by omega) hL
  have j6 : vp_in ((nI i) + (6 : Int32)) L := sc_in 6 (6 : Int32) rfl (by omega) hL
  have j7 : vp_in ((nI i) + (7 : Int32)) L := sc_in 7 (7 : Int32) rfl (by omega) hL
  have j8 : vp_in ((nI i) + (8 : Int32)) L := sc_in 8 (8 : Int32) rfl (by omega) hL
  refine lv_aload_n hx hb dL_law_258 rfl (lv_at hl 1 rfl) ?_
  refine lv_aload_n hx hb dL_law_259 rfl (lv_at hl 0 rfl) ?_
  refine lv_iload_n hx hb dL_law_260 rfl (lv_at hl 3 rfl) ?_
  refine lv_iconst (v := (1 : Int32)) hx hb dL_law_261 (by decide) ?_
  refine lv_iadd hx hb dL_law_262 ?_
  refine va_sld hx hb hX hbl hbA hS j1 dL_law_263 ?_
  refine lv_aload_n hx hb dL_law_264 rfl (lv_at hl 0 rfl) ?_
  refine lv_iload_n hx hb dL_law_265 rfl (lv_at hl 3 rfl) ?_
  refine lv_iconst (v := (2 : Int32)) hx hb dL_law_266 (by decide) ?_
  refine lv_iadd hx hb dL_law_267 ?_
  refine va_sld hx hb hX hbl hbA hS j2 dL_law_268 ?_
  obtain ⟨r, e1, e2, hRel2⟩ := h_told (xs ((nI i) + (1 : Int32)).toNatClampNeg) (xs ((nI i) + (2 : Int32)).toNatClampNeg) s1 s2 hRel
  refine va_calli (va_runV (As := [.int (xs ((nI i) + (1 : Int32)).toNatClampNeg), .int (xs ((nI i) + (2 : Int32)).toNatClampNeg)]) (rest := []) ⟨hx, hb, hml, hown, hts⟩ (cc_X9_told l dC dI fu a1 k1 H.size (xs ((nI i) + (1 : Int32)).toNatClampNeg) (xs ((nI i) + (2 : Int32)).toNatClampNeg) s1 r e1) (cwV 2 hts gL_law_X9_told rfl rfl rfl (by decide +kernel) ⟨Nat.le_of_ble_eq_true rfl, Nat.le_of_ble_eq_true rfl⟩) (pf_v (hK.sub (tys' := zt_9 k1) [0, 1, 2, 3, 4, 5, 6, 7, 8, 9, 10, 11, 12, 13, 14, 15, 16, 17, 18, 19, 20, 21, 22, 23, 24, 25, 26, 27, 28, 29, 30, 31, 32, 33, 34, 35, 36, 37, 38, 39, 40, 41, 42, 43, 44, 45, 46, 47, 48, 49, 50] rfl) (sub_P (sb_9_10__0c0 a1 a2 k1 k2 s1 s2) hP) (sub_D (sb_9_10__0c0 a1 a2 k1 k2 s1 s2) hD) 9 0 rfl rfl rfl) rfl rfl hl.1 rfl (lv_room (Nat.le_of_ble_eq_true rfl)) dL_law_269 ⟨Nat.le_of_ble_eq_true rfl, Nat.le_of_ble_eq_true rfl⟩) hS (fun q _ h => (sub_F (sb_9_10__0c0 a1 a2 k1 k2 s1 s2) hD hS hA) q h) (sub_F (sb_9_10__0c0 a1 a2 k1 k2 s1 s2) hD hS hA) (fun r1 v1 t1 H1 locs1 ht1 hvm1 hw1 hB1 hz1 hk1 hS1 => ?_)
  subst hw1
  obtain ⟨hP1, hD1⟩ := jn_sub (sb_9_10__0c0 a1 a2 k1 k2 s1 s2) (jo_9_10__0c0__ a1 a2 k1 k2 s1 s2) rfl hP hD hk1 ht1 hB1
  have hP1 : va_P (dC, dI) vwCl (zc_9 a1 k1 s1 ++ zc_10 a2 k2 s2) H1 := hP1
  have hD1 : va_D (fun q : Nat => s.heap.size ≤ q) (zc_9 a1 k1 s1 ++ zc_10 a2 k2 s2) := hD1
  clear hP hD hS hB1 hk1 hvm1 hz1 ht1
  refine lv_aload_n hx hb dL_law_272 rfl (lv_at hl 2 rfl) ?_
  refine lv_aload_n hx hb dL_law_273 rfl (lv_at hl 0 rfl) ?_
  refine lv_iload_n hx hb dL_law_274 rfl (lv_at hl 3 rfl) ?_
  refine lv_iconst (v := (1 : Int32)) hx hb dL_law_275 (by decide) ?_
  refine lv_iadd hx hb dL_law_276 ?_
  refine va_sld hx hb hX hbl hbA hS1 j1 dL_law_277 ?_
  refine lv_aload_n hx hb dL_law_278 rfl (lv_at hl 0 rfl) ?_
  refine lv_iload_n hx hb dL_law_279 rfl (lv_at hl 3 rfl) ?_
  refine lv_iconst (v := (2 : Int32)) hx hb dL_law_280 (by decide) ?_
  refine lv_iadd hx hb dL_law_281 ?_
  refine va_sld hx hb hX hbl hbA hS1 j2 dL_law_282 ?_
  refine va_calli (va_runV (As := [.int (xs ((nI i) + (1 : Int32)).toNatClampNeg), .int (xs ((nI i) + (2 : Int32)).toNatClampNeg)]) (rest := [.int r]) ⟨hx, hb, hml, hown, hts⟩ (cc_X10_told l dC dI fu a2 k2 H1.size (xs ((nI i) + (1 : Int32)).toNatClampNeg) (xs ((nI i) + (2 : Int32)).toNatClampNeg) s2 r e2) (cwV 2 hts gL_law_X10_told rfl rfl rfl (by decide +kernel) ⟨Nat.le_of_ble_eq_true rfl, Nat.le_of_ble_eq_true rfl⟩) (pf_v (hK.sub (tys' := zt_10 k2) [51, 52, 53, 54, 55, 56, 57, 58, 59, 60, 61, 62, 63, 64, 65, 66, 67, 68, 69, 70, 71] rfl) (sub_P (sb_9_10__1c0 a1 a2 k1 k2 s1 s2) hP1) (sub_D (sb_9_10__1c0 a1 a2 k1 k2 s1 s2) hD1) 10 0 rfl rfl rfl) rfl rfl hl.1 rfl (lv_room (Nat.le_of_ble_eq_true rfl)) dL_law_283 ⟨Nat.le_of_ble_eq_true rfl, Nat.le_of_ble_eq_true rfl⟩) hS1 (fun q _ h => (sub_F (sb_9_10__1c0 a1 a2 k1 k2 s1 s2) hD1 hS1 hA) q h) (sub_F (sb_9_10__1c0 a1 a2 k1 k2 s1 s2) hD1 hS1 hA) (fun r2 v2 t2 H2 locs2 ht2 hvm2 hw2 hB2 hz2 hk2 hS2 => ?_)
  subst hw2
  obtain ⟨hP2, hD2⟩ := jn_sub (sb_9_10__1c0 a1 a2 k1 k2 s1 s2) (jo_9_10__1c0__ a1 a2 k1 k2 s1 s2) rfl hP1 hD1 hk2 ht2 hB2
  have hP2 : va_P (dC, dI) vwCl (zc_9 a1 k1 s1 ++ zc_10 a2 k2 s2) H2 := hP2
  have hD2 : va_D (fun q : Nat => s.heap.size ≤ q) (zc_9 a1 k1 s1 ++ zc_10 a2 k2 s2) := hD2
  clear hP1 hD1 hS1 hB2 hk2 hvm2 hz2 ht2
  refine lv_icmp_eq (tgt := 1383) hx hb dL_law_286 (by decide) (fun _ => ?_) (fun c => absurd rfl c)
  exact tail s1 s2 hRel2 H2 locs2 ls hP2 hD2 hS2 hl
set_option maxHeartbeats 4000000 in
set_option maxRecDepth 100000 in
theorem lc_give {p : Program} {l : Launch} {e : Env} {s : State} {m : MethodId} {below : List Frame} {meth : Method} {c : Code} {dC : Nat → ClassId} {dI : Nat → Nat → Nat} {b L : Nat} {xs : Nat → Int32} {fu : Nat} {Rel : ZT_9 → ZT_10 → Prop} (h_give : St_give fu Rel) (a1 a2 : Nat → Nat) (k1 k2 : Nat → ClassId) (hL : L ≤ 4608) (hx : p.tables.exec = Jvm.exec) (hb : c.code = code) (hml : c.maxLocals = 4) (hown : s.vm.findClass RL = some m.cls) (hts : ∀ w ∈ wsL_law, w.before #[Value.ref b] s = true) (hX : va_X b L xs s s.heap) (hbl : b < s.heap.size) (hN : va_Nw nestW s) (hK : va_K (dC, dI) vwCl (zt_9 k1 ++ zt_10 k2) s) {i : Nat} (h9 : i + 9 ≤ L) (tail : ∀ (s1 : ZT_9) (s2 : ZT_10), Rel s1 s2 → ∀ (H : Heap) (locs : List Loc) (ls : Array Slot), va_P (dC, dI) vwCl (zc_9 a1 k1 s1 ++ zc_10 a2 k2 s2) H → va_D (fun q : Nat => s.heap.size ≤ q) (zc_9 a1 k1 s1 ++ zc_10 a2 k2 s2) → va_S (fun q : Nat => s.heap.size ≤ q) s.heap H locs → lv_has ls 4 [(0, .ref b), (1, .ref (a1 0)), (2, .ref (a2 0)), (3, .int (nI i))] → W p l e room_1 s m #[Value.ref b] below meth c H locs 92 2785 (lw_Z below #[Value.ref b] s) (F0 m 1383 ls [])) (s1 : ZT_9) (s2 : ZT_10) (hRel : Rel s1 s2) (H : Heap) (locs : List Loc) (ls : Array Slot) (hP : va_P (dC, dI) vwCl (zc_9 a1 k1 s1 ++ zc_10 a2 k2 s2) H) (hD : va_D (fun q : Nat => s.heap.size ≤ q) (zc_9 a1 k1 s1 ++ zc_10 a2 k2 s2)) (hS : va_S (fun q : Nat => s.heap.size ≤ q) s.heap H locs) (hl : lv_has ls 4 [(0, .ref b), (1, .ref (a1 0)), (2, .ref (a2 0)), (3, .int (nI i))]) : W p l e room_1 s m #[Value.ref b] below meth c H locs 92 2785 (lw_Z below #[Value.ref b] s) (F0 m 291 ls []) := by
  have hA : ∀ q : Nat, s.heap.size ≤ q → (fun q : Nat => s.heap.size ≤ q) q := fun _ h => h
  have hbA : ¬ (fun q : Nat => s.heap.size ≤ q) b := Nat.not_le.mpr hbl
  have j1 : vp_in ((nI i) + (1 : Int32)) L := sc_in 1 (1 : Int32) rfl (by omega) hL
  have j2 : vp_in ((nI i) + (2 : Int32)) L := sc_in 2 (2 : Int32) rfl (by omega) hL
  have j3 : vp_in ((nI i) + (3 : Int32)) L := sc_in 3 (3 : Int32) rfl (by omega) hL
  have j4 : vp_in ((nI i) + (4 : Int32)) L := sc_in 4 (4 : Int32) rfl (by omega) hL
  have j5 : vp_in ((nI i) + (5 : Int32)) L := sc_in 5 (5 : Int32) rfl (by omega) hL
  have j6 : vp_in ((nI i) + (6 : Int32)) L := sc_in 6 (6 : Int32) rfl (by omega) hL
  have j7 : vp_in ((nI i) + (7 : Int32)) L := sc_in 7 (7 : Int32) rfl (by omega) hL
  have j8 : vp_in ((nI i) + (8 : Int32)) L := sc_in 8 (8 : Int32) rfl (by omega) hL
  refine lv_aload_n hx hb dL_law_291 rfl (lv_at hl 1 rfl) ?_
  refine lv_aload_n hx hb dL_law_292 rfl (lv_at hl 0 rfl) ?_
  refine lv_iload_n hx hb dL_law_293 rfl (lv_at hl 3 rfl) ?_
  refine lv_iconst (v := (1 : Int32)) hx hb dL_law_294 (by decide) ?_
  refine lv_iadd hx hb dL_law_295 ?_
  refine va_sld hx hb hX hbl hbA hS j1 dL_law_296 ?_
  refine lv_aload_n hx hb dL_law_297 rfl (lv_at hl 0 rfl) ?_
  refine lv_iload_n hx hb dL_law_298 rfl (lv_at hl 3 rfl) ?_
  refine lv_iconst (v := (2 : Int32)) hx hb dL_law_299 (by decide) ?_
  refine lv_iadd hx hb dL_law_300 ?_
  refine va_sld hx hb hX hbl hbA hS j2 dL_law_301 ?_
  obtain ⟨r, c', m', e1, e2, hRel2⟩ := h_give (xs ((nI i) + (1 : Int32)).toNatClampNeg) (xs ((nI i) + (2 : Int32)).toNatClampNeg) s1 s2 hRel
  refine va_calli (va_runV (As := [.int (xs ((nI i) + (1 : Int32)).toNatClampNeg), .int (xs ((nI i) + (2 : Int32)).toNatClampNeg)]) (rest := []) ⟨hx, hb, hml, hown, hts⟩ (cc_X9_give l dC dI fu a1 k1 H.size (xs ((nI i) + (1 : Int32)).toNatClampNeg) (xs ((nI i) + (2 : Int32)).toNatClampNeg) s1 (r, c') e1) (cwV 2 hts gL_law_X9_give rfl rfl rfl (by decide +kernel) ⟨Nat.le_of_ble_eq_true rfl, Nat.le_of_ble_eq_true rfl⟩) (pf_v (hK.sub (tys' := zt_9 k1) [0, 1, 2, 3, 4, 5, 6, 7, 8, 9, 10, 11, 12, 13, 14, 15, 16, 17, 18, 19, 20, 21, 22, 23, 24, 25, 26, 27, 28, 29, 30, 31, 32, 33, 34, 35, 36, 37, 38, 39, 40, 41, 42, 43, 44, 45, 46, 47, 48, 49, 50] rfl) (sub_P (sb_9_10__0c0 a1 a2 k1 k2 s1 s2) hP) (sub_D (sb_9_10__0c0 a1 a2 k1 k2 s1 s2) hD) 9 0 rfl rfl rfl) rfl rfl hl.1 rfl (lv_room (Nat.le_of_ble_eq_true rfl)) dL_law_302 ⟨Nat.le_of_ble_eq_true rfl, Nat.le_of_ble_eq_true rfl⟩) hS (fun q _ h => (sub_F (sb_9_10__0c0 a1 a2 k1 k2 s1 s2) hD hS hA) q h) (sub_F (sb_9_10__0c0 a1 a2 k1 k2 s1 s2) hD hS hA) (fun r1 v1 t1 H1 locs1 ht1 hvm1 hw1 hB1 hz1 hk1 hS1 => ?_)
  obtain rfl : r = r1 := congrArg Prod.fst hw1
  obtain rfl : c' = v1 := congrArg Prod.snd hw1
  obtain ⟨hP1, hD1⟩ := jn_sub (sb_9_10__0c0 a1 a2 k1 k2 s1 s2) (jo_9_10__0c0__0 a1 a2 k1 k2 s1 s2 c') rfl hP hD hk1 ht1 hB1
  have hP1 : va_P (dC, dI) vwCl (zc_9 a1 k1 c' ++ zc_10 a2 k2 s2) H1 := hP1
  have hD1 : va_D (fun q : Nat => s.heap.size ≤ q) (zc_9 a1 k1 c' ++ zc_10 a2 k2 s2) := hD1
  clear hP hD hS hB1 hk1 hvm1 hz1 ht1
  refine lv_aload_n hx hb dL_law_305 rfl (lv_at hl 2 rfl) ?_
  refine lv_aload_n hx hb dL_law_306 rfl (lv_at hl 0 rfl) ?_
  refine lv_iload_n hx hb dL_law_307 rfl (lv_at hl 3 rfl) ?_
  refine lv_iconst (v := (1 : Int32)) hx hb dL_law_308 (by decide) ?_
  refine lv_iadd hx hb dL_law_309 ?_
  refine va_sld hx hb hX hbl hbA hS1 j1 dL_law_310 ?_
  refine lv_aload_n hx hb dL_law_311 rfl (lv_at hl 0 rfl) ?_
  refine lv_iload_n hx hb dL_law_312 rfl (lv_at hl 3 rfl) ?_
  refine lv_iconst (v := (2 : Int32)) hx hb dL_law_313 (by decide) ?_
  refine lv_iadd hx hb dL_law_314 ?_
  refine va_sld hx hb hX hbl hbA hS1 j2 dL_law_315 ?_
  refine va_calli (va_runV (As := [.int (xs ((nI i) + (1 : Int32)).toNatClampNeg), .int (xs ((nI i) + (2 : Int32)).toNatClampNeg)]) (rest := [.int r]) ⟨hx, hb, hml, hown, hts⟩ (cc_X10_give l dC dI fu a2 k2 H1.size (xs ((nI i) + (1 : Int32)).toNatClampNeg) (xs ((nI i) + (2 : Int32)).toNatClampNeg) s2 (r, m') e2) (cwV 2 hts gL_law_X10_give rfl rfl rfl (by decide +kernel) ⟨Nat.le_of_ble_eq_true rfl, Nat.le_of_ble_eq_true rfl⟩) (pf_v (hK.sub (tys' := zt_10 k2) [51, 52, 53, 54, 55, 56, 57, 58, 59, 60, 61, 62, 63, 64, 65, 66, 67, 68, 69, 70, 71] rfl) (sub_P (sb_9_10__1c0 a1 a2 k1 k2 c' s2) hP1) (sub_D (sb_9_10__1c0 a1 a2 k1 k2 c' s2) hD1) 10 0 rfl rfl rfl) rfl rfl hl.1 rfl (lv_room (Nat.le_of_ble_eq_true rfl)) dL_law_316 ⟨Nat.le_of_ble_eq_true rfl, Nat.le_of_ble_eq_true rfl⟩) hS1 (fun q _ h => (sub_F (sb_9_10__1c0 a1 a2 k1 k2 c' s2) hD1 hS1 hA) q h) (sub_F (sb_9_10__1c0 a1 a2 k1 k2 c' s2) hD1 hS1 hA) (fun r2 v2 t2 H2 locs2 ht2 hvm2 hw2 hB2 hz2 hk2 hS2 => ?_)
  obtain rfl : r = r2 := congrArg Prod.fst hw2
  obtain rfl : m' = v2 := congrArg Prod.snd hw2
  obtain ⟨hP2, hD2⟩ := jn_sub (sb_9_10__1c0 a1 a2 k1 k2 c' s2) (jo_9_10__1c0__0 a1 a2 k1 k2 c' s2 m') rfl hP1 hD1 hk2 ht2 hB2
  have hP2 : va_P (dC, dI) vwCl (zc_9 a1 k1 c' ++ zc_10 a2 k2 m') H2 := hP2
  have hD2 : va_D (fun q : Nat => s.heap.size ≤ q) (zc_9 a1 k1 c' ++ zc_10 a2 k2 m') := hD2
  clear hP1 hD1 hS1 hB2 hk2 hvm2 hz2 ht2
  refine lv_icmp_eq (tgt := 1383) hx hb dL_law_319 (by decide) (fun _ => ?_) (fun c => absurd rfl c)
  exact tail c' m' hRel2 H2 locs2 ls hP2 hD2 hS2 hl
set_option maxHeartbeats 4000000 in
set_option maxRecDepth 100000 in
theorem lc_older {p : Program} {l : Launch} {e : Env} {s : State} {m : MethodId} {below : List Frame} {meth : Method} {c : Code} {dC : Nat → ClassId} {dI : Nat → Nat → Nat} {b L : Nat} {xs : Nat → Int32} {fu : Nat} {Rel : ZT_9 → ZT_10 → Prop} (h_older : St_older fu Rel) (a1 a2 : Nat → Nat) (k1 k2 : Nat → ClassId) (hL : L ≤ 4608) (hx : p.tables.exec = Jvm.exec) (hb : c.code = code) (hml : c.maxLocals = 4) (hown : s.vm.findClass RL = some m.cls) (hts : ∀ w ∈ wsL_law, w.before #[Value.ref b] s = true) (hX : va_X b L xs s s.heap) (hbl : b < s.heap.size) (hN : va_Nw nestW s) (hK : va_K (dC, dI) vwCl (zt_9 k1 ++ zt_10 k2) s) {i : Nat} (h9 : i + 9 ≤ L) (tail : ∀ (s1 : ZT_9) (s2 : ZT_10), Rel s1 s2 → ∀ (H : Heap) (locs : List Loc) (ls : Array Slot), va_P (dC, dI) vwCl (zc_9 a1 k1 s1 ++ zc_10 a2 k2 s2) H → va_D (fun q : Nat => s.heap.size ≤ q) (zc_9 a1 k1 s1 ++ zc_10 a2 k2 s2) → va_S (fun q : Nat => s.heap.size ≤ q) s.heap H locs → lv_has ls 4 [(0, .ref b), (1, .ref (a1 0)), (2, .ref (a2 0)), (3, .int (nI i))] → W p l e room_1 s m #[Value.ref b] below meth c H locs 92 2785 (lw_Z below #[Value.ref b] s) (F0 m 1383 ls [])) (s1 : ZT_9) (s2 : ZT_10) (hRel : Rel s1 s2) (H : Heap) (locs : List Loc) (ls : Array Slot) (hP : va_P (dC, dI) vwCl (zc_9 a1 k1 s1 ++ zc_10 a2 k2 s2) H) (hD : va_D (fun q : Nat => s.heap.size ≤ q) (zc_9 a1 k1 s1 ++ zc_10 a2 k2 s2)) (hS : va_S (fun q : Nat => s.heap.size ≤ q) s.heap H locs) (hl : lv_has ls 4 [(0, .ref b), (1, .ref (a1 0)), (2, .ref (a2 0)), (3, .int (nI i))]) : W p l e room_1 s m #[Value.ref b] below meth c H locs 92 2785 (lw_Z below #[Value.ref b] s) (F0 m 324 ls []) := by
  have hA : ∀ q : Nat, s.heap.size ≤ q → (fun q : Nat => s.heap.size ≤ q) q := fun _ h => h
  have hbA : ¬ (fun q : Nat => s.heap.size ≤ q) b := Nat.not_le.mpr hbl
  have j1 : vp_in ((nI i) + (1 : Int32)) L := sc_in 1 (1 : Int32) rfl (by omega) hL
  have j2 : vp_in ((nI i) + (2 : Int32)) L := sc_in 2 (2 : Int32) rfl (by omega) hL
  have j3 : vp_in ((nI i) + (3 : Int32)) L := sc_in 3 (3 : Int32) rfl (by omega) hL
  have j4 : vp_in ((nI i) + (4 : Int32)) L := sc_in 4 (4 : Int32) rfl (by omega) hL
  have j5 : vp_in ((nI i) + (5 : Int32)) L := sc_in 5 (5 : Int32) rfl (by omega) hL
  have j6 : vp_in ((nI i) + (6 : Int32)) L := sc_in 6 (6 : Int32) rfl (by omega) hL
  have j7 : vp_in ((nI i) + (7 : Int32)) L := sc_in 7 (7 : Int32) rfl (by omega) hL
  have j8 : vp_in ((nI i) + (8 : Int32)) L := sc_in 8 (8 : Int32) rfl (by omega) hL
  refine lv_aload_n hx hb dL_law_324 rfl (lv_at hl 1 rfl) ?_
  refine lv_aload_n hx hb dL_law_325 rfl (lv_at hl 0 rfl) ?_
  refine lv_iload_n hx hb dL_law_326 rfl (lv_at hl 3 rfl) ?_
  refine lv_iconst (v := (1 : Int32)) hx hb dL_law_327 (by decide) ?_
  refine lv_iadd hx hb dL_law_328 ?_
  refine va_sld hx hb hX hbl hbA hS j1 dL_law_329 ?_
  refine lv_aload_n hx hb dL_law_330 rfl (lv_at hl 0 rfl) ?_
  refine lv_iload_n hx hb dL_law_331 rfl (lv_at hl 3 rfl) ?_
  refine lv_iconst (v := (2 : Int32)) hx hb dL_law_332 (by decide) ?_
  refine lv_iadd hx hb dL_law_333 ?_
  refine va_sld hx hb hX hbl hbA hS j2 dL_law_334 ?_
  obtain ⟨r, e1, e2, hRel2⟩ := h_older (xs ((nI i) + (1 : Int32)).toNatClampNeg) (xs ((nI i) + (2 : Int32)).toNatClampNeg) s1 s2 hRel
  refine va_calli (va_runV (As := [.int (xs ((nI i) + (1 : Int32)).toNatClampNeg), .int (xs ((nI i) + (2 : Int32)).toNatClampNeg)]) (rest := []) ⟨hx, hb, hml, hown, hts⟩ (cc_X9_older l dC dI fu a1 k1 H.size (xs ((nI i) + (1 : Int32)).toNatClampNeg) (xs ((nI i) + (2 : Int32)).toNatClampNeg) s1 r e1) (cwV 2 hts gL_law_X9_older rfl rfl rfl (by decide +kernel) ⟨Nat.le_of_ble_eq_true rfl, Nat.le_of_ble_eq_true rfl⟩) (pf_v (hK.sub (tys' := zt_9 k1) [0, 1, 2, 3, 4, 5, 6, 7, 8, 9, 10, 11, 12, 13, 14, 15, 16, 17, 18, 19, 20, 21, 22, 23, 24, 25, 26, 27, 28, 29, 30, 31, 32, 33, 34, 35, 36, 37, 38, 39, 40, 41, 42, 43, 44, 45, 46, 47, 48, 49, 50] rfl) (sub_P (sb_9_10__0c0 a1 a2 k1 k2 s1 s2) hP) (sub_D (sb_9_10__0c0 a1 a2 k1 k2 s1 s2) hD) 9 0 rfl rfl rfl) rfl rfl hl.1 rfl (lv_room (Nat.le_of_ble_eq_true rfl)) dL_law_335 ⟨Nat.le_of_ble_eq_true rfl, Nat.le_of_ble_eq_true rfl⟩) hS (fun q _ h => (sub_F (sb_9_10__0c0 a1 a2 k1 k2 s1 s2) hD hS hA) q h) (sub_F (sb_9_10__0c0 a1 a2 k1 k2 s1 s2) hD hS hA) (fun r1 v1 t1 H1 locs1 ht1 hvm1 hw1 hB1 hz1 hk1 hS1 => ?_)
  subst hw1
  obtain ⟨hP1, hD1⟩ := jn_sub (sb_9_10__0c0 a1 a2 k1 k2 s1 s2) (jo_9_10__0c0__ a1 a2 k1 k2 s1 s2) rfl hP hD hk1 ht1 hB1
  have hP1 : va_P (dC, dI) vwCl (zc_9 a1 k1 s1 ++ zc_10 a2 k2 s2) H1 := hP1
  have hD1 : va_D (fun q : Nat => s.heap.size ≤ q) (zc_9 a1 k1 s1 ++ zc_10 a2 k2 s2) := hD1
  clear hP hD hS hB1 hk1 hvm1 hz1 ht1
  refine lv_aload_n hx hb dL_law_338 rfl (lv_at hl 2 rfl) ?_
  refine lv_aload_n hx hb dL_law_339 rfl (lv_at hl 0 rfl) ?_
  refine lv_iload_n hx hb dL_law_340 rfl (lv_at hl 3 rfl) ?_
  refine lv_iconst (v := (1 : Int32)) hx hb dL_law_341 (by decide) ?_
  refine lv_iadd hx hb dL_law_342 ?_
  refine va_sld hx hb hX hbl hbA hS1 j1 dL_law_343 ?_
  refine lv_aload_n hx hb dL_law_344 rfl (lv_at hl 0 rfl) ?_
  refine lv_iload_n hx hb dL_law_345 rfl (lv_at hl 3 rfl) ?_
  refine lv_iconst (v := (2 : Int32)) hx hb dL_law_346 (by decide) ?_
  refine lv_iadd hx hb dL_law_347 ?_
  refine va_sld hx hb hX hbl hbA hS1 j2 dL_law_348 ?_
  refine va_calli (va_runV (As := [.int (xs ((nI i) + (1 : Int32)).toNatClampNeg), .int (xs ((nI i) + (2 : Int32)).toNatClampNeg)]) (rest := [.int r]) ⟨hx, hb, hml, hown, hts⟩ (cc_X10_older l dC dI fu a2 k2 H1.size (xs ((nI i) + (1 : Int32)).toNatClampNeg) (xs ((nI i) + (2 : Int32)).toNatClampNeg) s2 r e2) (cwV 2 hts gL_law_X10_older rfl rfl rfl (by decide +kernel) ⟨Nat.le_of_ble_eq_true rfl, Nat.le_of_ble_eq_true rfl⟩) (pf_v (hK.sub (tys' := zt_10 k2) [51, 52, 53, 54, 55, 56, 57, 58, 59, 60, 61, 62, 63, 64, 65, 66, 67, 68, 69, 70, 71] rfl) (sub_P (sb_9_10__1c0 a1 a2 k1 k2 s1 s2) hP1) (sub_D (sb_9_10__1c0 a1 a2 k1 k2 s1 s2) hD1) 10 0 rfl rfl rfl) rfl rfl hl.1 rfl (lv_room (Nat.le_of_ble_eq_true rfl)) dL_law_349 ⟨Nat.le_of_ble_eq_true rfl, Nat.le_of_ble_eq_true rfl⟩) hS1 (fun q _ h => (sub_F (sb_9_10__1c0 a1 a2 k1 k2 s1 s2) hD1 hS1 hA) q h) (sub_F (sb_9_10__1c0 a1 a2 k1 k2 s1 s2) hD1 hS1 hA) (fun r2 v2 t2 H2 locs2 ht2 hvm2 hw2 hB2 hz2 hk2 hS2 => ?_)
  subst hw2
  obtain ⟨hP2, hD2⟩ := jn_sub (sb_9_10__1c0 a1 a2 k1 k2 s1 s2) (jo_9_10__1c0__ a1 a2 k1 k2 s1 s2) rfl hP1 hD1 hk2 ht2 hB2
  have hP2 : va_P (dC, dI) vwCl (zc_9 a1 k1 s1 ++ zc_10 a2 k2 s2) H2 := hP2
  have hD2 : va_D (fun q : Nat => s.heap.size ≤ q) (zc_9 a1 k1 s1 ++ zc_10 a2 k2 s2) := hD2
  clear hP1 hD1 hS1 hB2 hk2 hvm2 hz2 ht2
  refine lv_icmp_eq (tgt := 1383) hx hb dL_law_352 (by decide) (fun _ => ?_) (fun c => absurd rfl c)
  exact tail s1 s2 hRel2 H2 locs2 ls hP2 hD2 hS2 hl
set_option maxHeartbeats 4000000 in
set_option maxRecDepth 100000 in
theorem lc_rule {p : Program} {l : Launch} {e : Env} {s : State} {m : MethodId} {below : List Frame} {meth : Method} {c : Code} {dC : Nat → ClassId} {dI : Nat → Nat → Nat} {b L : Nat} {xs : Nat → Int32} {fu : Nat} {Rel : ZT_9 → ZT_10 → Prop} (h_rule : St_rule fu Rel) (a1 a2 : Nat → Nat) (k1 k2 : Nat → ClassId) (hL : L ≤ 4608) (hx : p.tables.exec = Jvm.exec) (hb : c.code = code) (hml : c.maxLocals = 4) (hown : s.vm.findClass RL = some m.cls) (hts : ∀ w ∈ wsL_law, w.before #[Value.ref b] s = true) (hX : va_X b L xs s s.heap) (hbl : b < s.heap.size) (hN : va_Nw nestW s) (hK : va_K (dC, dI) vwCl (zt_9 k1 ++ zt_10 k2) s) {i : Nat} (h9 : i + 9 ≤ L) (tail : ∀ (s1 : ZT_9) (s2 : ZT_10), Rel s1 s2 → ∀ (H : Heap) (locs : List Loc) (ls : Array Slot), va_P (dC, dI) vwCl (zc_9 a1 k1 s1 ++ zc_10 a2 k2 s2) H → va_D (fun q : Nat => s.heap.size ≤ q) (zc_9 a1 k1 s1 ++ zc_10 a2 k2 s2) → va_S (fun q : Nat => s.heap.size ≤ q) s.heap H locs → lv_has ls 4 [(0, .ref b), (1, .ref (a1 0)), (2, .ref (a2 0)), (3, .int (nI i))] → W p l e room_1 s m #[Value.ref b] below meth c H locs 92 2785 (lw_Z below #[Value.ref b] s) (F0 m 1383 ls [])) (s1 : ZT_9) (s2 : ZT_10) (hRel : Rel s1 s2) (H : Heap) (locs : List Loc) (ls : Array Slot) (hP : va_P (dC, dI) vwCl (zc_9 a1 k1 s1 ++ zc_10 a2 k2 s2) H) (hD : va_D (fun q : Nat => s.heap.size ≤ q) (zc_9 a1 k1 s1 ++ zc_10 a2 k2 s2)) (hS : va_S (fun q : Nat => s.heap.size ≤ q) s.heap H locs) (hl : lv_has ls 4 [(0, .ref b), (1, .ref (a1 0)), (2, .ref (a2 0)), (3, .int (nI i))]) : W p l e room_1 s m #[Value.ref b] below meth c H locs 92 2785 (lw_Z below #[Value.ref b] s) (F0 m 357 ls []) := by
  have hA : ∀ q : Nat, s.heap.size ≤ q → (fun q : Nat => s.heap.size ≤ q) q := fun _ h => h
  have hbA : ¬ (fun q : Nat => s.heap.size ≤ q) b := Nat.not_le.mpr hbl
  have j1 : vp_in ((nI i) + (1 : Int32)) L := sc_in 1 (1 : Int32) rfl (by omega) hL
  have j2 : vp_in ((nI i) + (2 : Int32)) L := sc_in 2 (2 : Int32) rfl (by omega) hL
  have j3 : vp_in ((nI i) + (3 : Int32)) L := sc_in 3 (3 : Int32) rfl (by omega) hL
  have j4 : vp_in ((nI i) + (4 : Int32)) L := sc_in 4 (4 : Int32) rfl (by omega) hL
  have j5 : vp_in ((nI i) + (5 : Int32)) L := sc_in 5 (5 : Int32) rfl (by omega) hL
  have j6 : vp_in ((nI i) + (6 : Int32)) L := sc_in 6 (6 : Int32) rfl (by omega) hL
  have j7 : vp_in ((nI i) + (7 : Int32)) L := sc_in 7 (7 : Int32) rfl (by omega) hL
  have j8 : vp_in ((nI i) + (8 : Int32)) L := sc_in 8 (8 : Int32) rfl (by omega) hL
  refine lv_aload_n hx hb dL_law_357 rfl (lv_at hl 1 rfl) ?_
  refine lv_aload_n hx hb dL_law_358 rfl (lv_at hl 0 rfl) ?_
  refine lv_iload_n hx hb dL_law_359 rfl (lv_at hl 3 rfl) ?_
  refine lv_iconst (v := (1 : Int32)) hx hb dL_law_360 (by decide) ?_
  refine lv_iadd hx hb dL_law_361 ?_
  refine va_sld hx hb hX hbl hbA hS j1 dL_law_362 ?_
  obtain ⟨r, c', m', e1, e2, hRel2⟩ := h_rule (xs ((nI i) + (1 : Int32)).toNatClampNeg) s1 s2 hRel
  refine va_calli (va_runV (As := [.int (xs ((nI i) + (1 : Int32)).toNatClampNeg)]) (rest := []) ⟨hx, hb, hml, hown, hts⟩ (cc_X9_rule l dC dI fu a1 k1 H.size (xs ((nI i) + (1 : Int32)).toNatClampNeg) s1 (r, c') e1) (cwV 1 hts gL_law_X9_rule rfl rfl rfl (by decide +kernel) ⟨Nat.le_of_ble_eq_true rfl, Nat.le_of_ble_eq_true rfl⟩) (pf_v (hK.sub (tys' := zt_9 k1) [0, 1, 2, 3, 4, 5, 6, 7, 8, 9, 10, 11, 12, 13, 14, 15, 16, 17, 18, 19, 20, 21, 22, 23, 24, 25, 26, 27, 28, 29, 30, 31, 32, 33, 34, 35, 36, 37, 38, 39, 40, 41, 42, 43, 44, 45, 46, 47, 48, 49, 50] rfl) (sub_P (sb_9_10__0c0 a1 a2 k1 k2 s1 s2) hP) (sub_D (sb_9_10__0c0 a1 a2 k1 k2 s1 s2) hD) 9 0 rfl rfl rfl) rfl rfl hl.1 rfl (lv_room (Nat.le_of_ble_eq_true rfl)) dL_law_363 ⟨Nat.le_of_ble_eq_true rfl, Nat.le_of_ble_eq_true rfl⟩) hS (fun q _ h => (sub_F (sb_9_10__0c0 a1 a2 k1 k2 s1 s2) hD hS hA) q h) (sub_F (sb_9_10__0c0 a1 a2 k1 k2 s1 s2) hD hS hA) (fun r1 v1 t1 H1 locs1 ht1 hvm1 hw1 hB1 hz1 hk1 hS1 => ?_)
  obtain rfl : r = r1 := congrArg Prod.fst hw1
  obtain rfl : c' = v1 := congrArg Prod.snd hw1
  obtain ⟨hP1, hD1⟩ := jn_sub (sb_9_10__0c0 a1 a2 k1 k2 s1 s2) (jo_9_10__0c0__0 a1 a2 k1 k2 s1 s2 c') rfl hP hD hk1 ht1 hB1
  have hP1 : va_P (dC, dI) vwCl (zc_9 a1 k1 c' ++ zc_10 a2 k2 s2) H1 := hP1
  have hD1 : va_D (fun q : Nat => s.heap.size ≤ q) (zc_9 a1 k1 c' ++ zc_10 a2 k2 s2) := hD1
  clear hP hD hS hB1 hk1 hvm1 hz1 ht1
  refine lv_aload_n hx hb dL_law_366 rfl (lv_at hl 2 rfl) ?_
  refine lv_aload_n hx hb dL_law_367 rfl (lv_at hl 0 rfl) ?_
  refine lv_iload_n hx hb dL_law_368 rfl (lv_at hl 3 rfl) ?_
  refine lv_iconst (v := (1 : Int32)) hx hb dL_law_369 (by decide) ?_
  refine lv_iadd hx hb dL_law_370 ?_
  refine va_sld hx hb hX hbl hbA hS1 j1 dL_law_371 ?_
  refine va_calli (va_runV (As := [.int (xs ((nI i) + (1 : Int32)).toNatClampNeg)]) (rest := [.int r]) ⟨hx, hb, hml, hown, hts⟩ (cc_X10_rule l dC dI fu a2 k2 H1.size (xs ((nI i) + (1 : Int32)).toNatClampNeg) s2 (r, m') e2) (cwV 1 hts gL_law_X10_rule rfl rfl rfl (by decide +kernel) ⟨Nat.le_of_ble_eq_true rfl, Nat.le_of_ble_eq_true rfl⟩) (pf_v (hK.sub (tys' := zt_10 k2) [51, 52, 53, 54, 55, 56, 57, 58, 59, 60, 61, 62, 63, 64, 65, 66, 67, 68, 69, 70, 71] rfl) (sub_P (sb_9_10__1c0 a1 a2 k1 k2 c' s2) hP1) (sub_D (sb_9_10__1c0 a1 a2 k1 k2 c' s2) hD1) 10 0 rfl rfl rfl) rfl rfl hl.1 rfl (lv_room (Nat.le_of_ble_eq_true rfl)) dL_law_372 ⟨Nat.le_of_ble_eq_true rfl, Nat.le_of_ble_eq_true rfl⟩) hS1 (fun q _ h => (sub_F (sb_9_10__1c0 a1 a2 k1 k2 c' s2) hD1 hS1 hA) q h) (sub_F (sb_9_10__1c0 a1 a2 k1 k2 c' s2) hD1 hS1 hA) (fun r2 v2 t2 H2 locs2 ht2 hvm2 hw2 hB2 hz2 hk2 hS2 => ?_)
  obtain rfl : r = r2 := congrArg Prod.fst hw2
  obtain rfl : m' = v2 := congrArg Prod.snd hw2
  obtain ⟨hP2, hD2⟩ := jn_sub (sb_9_10__1c0 a1 a2 k1 k2 c' s2) (jo_9_10__1c0__0 a1 a2 k1 k2 c' s2 m') rfl hP1 hD1 hk2 ht2 hB2
  have hP2 : va_P (dC, dI) vwCl (zc_9 a1 k1 c' ++ zc_10 a2 k2 m') H2 := hP2
  have hD2 : va_D (fun q : Nat => s.heap.size ≤ q) (zc_9 a1 k1 c' ++ zc_10 a2 k2 m') := hD2
  clear hP1 hD1 hS1 hB2 hk2 hvm2 hz2 ht2
  refine lv_icmp_eq (tgt := 1383) hx hb dL_law_375 (by decide) (fun _ => ?_) (fun c => absurd rfl c)
  exact tail c' m' hRel2 H2 locs2 ls hP2 hD2 hS2 hl
set_option maxHeartbeats 4000000 in
set_option maxRecDepth 100000 in
theorem lc_of {p : Program} {l : Launch} {e : Env} {s : State} {m : MethodId} {below : List Frame} {meth : Method} {c : Code} {dC : Nat → ClassId} {dI : Nat → Nat → Nat} {b L : Nat} {xs : Nat → Int32} {fu : Nat} {Rel : ZT_9 → ZT_10 → Prop} (h_of : St_of fu Rel) (a1 a2 : Nat → Nat) (k1 k2 : Nat → ClassId) (hL : L ≤ 4608) (hx : p.tables.exec = Jvm.exec) (hb : c.code = code) (hml : c.maxLocals = 4) (hown : s.vm.findClass RL = some m.cls) (hts : ∀ w ∈ wsL_law, w.before #[Value.ref b] s = true) (hX : va_X b L xs s s.heap) (hbl : b < s.heap.size) (hN : va_Nw nestW s) (hK : va_K (dC, dI) vwCl (zt_9 k1 ++ zt_10 k2) s) {i : Nat} (h9 : i + 9 ≤ L) (tail : ∀ (s1 : ZT_9) (s2 : ZT_10), Rel s1 s2 → ∀ (H : Heap) (locs : List Loc) (ls : Array Slot), va_P (dC, dI) vwCl (zc_9 a1 k1 s1 ++ zc_10 a2 k2 s2) H → va_D (fun q : Nat => s.heap.size ≤ q) (zc_9 a1 k1 s1 ++ zc_10 a2 k2 s2) → va_S (fun q : Nat => s.heap.size ≤ q) s.heap H locs → lv_has ls 4 [(0, .ref b), (1, .ref (a1 0)), (2, .ref (a2 0)), (3, .int (nI i))] → W p l e room_1 s m #[Value.ref b] below meth c H locs 92 2785 (lw_Z below #[Value.ref b] s) (F0 m 1383 ls [])) (s1 : ZT_9) (s2 : ZT_10) (hRel : Rel s1 s2) (H : Heap) (locs : List Loc) (ls : Array Slot) (hP : va_P (dC, dI) vwCl (zc_9 a1 k1 s1 ++ zc_10 a2 k2 s2) H) (hD : va_D (fun q : Nat => s.heap.size ≤ q) (zc_9 a1 k1 s1 ++ zc_10 a2 k2 s2)) (hS : va_S (fun q : Nat => s.heap.size ≤ q) s.heap H locs) (hl : lv_has ls 4 [(0, .ref b), (1, .ref (a1 0)), (2, .ref (a2 0)), (3, .int (nI i))]) : W p l e room_1 s m #[Value.ref b] below meth c H locs 92 2785 (lw_Z below #[Value.ref b] s) (F0 m 380 ls []) := by
  have hA : ∀ q : Nat, s.heap.size ≤ q → (fun q : Nat => s.heap.size ≤ q) q := fun _ h => h
  have hbA : ¬ (fun q : Nat => s.heap.size ≤ q) b := Nat.not_le.mpr hbl
  have j1 : vp_in ((nI i) + (1 : Int32)) L := sc_in 1 (1 : Int32) rfl (by omega) hL
  have j2 : vp_in ((nI i) + (2 : Int32)) L := sc_in 2 (2 : Int32) rfl (by omega) hL
  have j3 : vp_in ((nI i) + (3 : Int32)) L := sc_in 3 (3 : Int32) rfl (by omega) hL
  have j4 : vp_in ((nI i) + (4 : Int32)) L := sc_in 4 (4 : Int32) rfl (by omega) hL
  have j5 : vp_in ((nI i) + (5 : Int32)) L := sc_in 5 (5 : Int32) rfl (by omega) hL
  have j6 : vp_in ((nI i) + (6 : Int32)) L := sc_in 6 (6 : Int32) rfl (by omega) hL
  have j7 : vp_in ((nI i) + (7 : Int32)) L := sc_in 7 (7 : Int32) rfl (by omega) hL
  have j8 : vp_in ((nI i) + (8 : Int32)) L := sc_in 8 (8 : Int32) rfl (by omega) hL
  refine lv_aload_n hx hb dL_law_380 rfl (lv_at hl 1 rfl) ?_
  refine lv_aload_n hx hb dL_law_381 rfl (lv_at hl 0 rfl) ?_
  refine lv_iload_n hx hb dL_law_382 rfl (lv_at hl 3 rfl) ?_
  refine lv_iconst (v := (1 : Int32)) hx hb dL_law_383 (by decide) ?_
  refine lv_iadd hx hb dL_law_384 ?_
  refine va_sld hx hb hX hbl hbA hS j1 dL_law_385 ?_
  refine lv_aload_n hx hb dL_law_386 rfl (lv_at hl 0 rfl) ?_
  refine lv_iload_n hx hb dL_law_387 rfl (lv_at hl 3 rfl) ?_
  refine lv_iconst (v := (2 : Int32)) hx hb dL_law_388 (by decide) ?_
  refine lv_iadd hx hb dL_law_389 ?_
  refine va_sld hx hb hX hbl hbA hS j2 dL_law_390 ?_
  obtain ⟨r, c', m', e1, e2, hRel2⟩ := h_of (xs ((nI i) + (1 : Int32)).toNatClampNeg) (xs ((nI i) + (2 : Int32)).toNatClampNeg) s1 s2 hRel
  refine va_calli (va_runV (As := [.int (xs ((nI i) + (1 : Int32)).toNatClampNeg), .int (xs ((nI i) + (2 : Int32)).toNatClampNeg)]) (rest := []) ⟨hx, hb, hml, hown, hts⟩ (cc_X9_of l dC dI fu a1 k1 H.size (xs ((nI i) + (1 : Int32)).toNatClampNeg) (xs ((nI i) + (2 : Int32)).toNatClampNeg) s1 (r, c') e1) (cwV 2 hts gL_law_X9_of rfl rfl rfl (by decide +kernel) ⟨Nat.le_of_ble_eq_true rfl, Nat.le_of_ble_eq_true rfl⟩) (pf_v (hK.sub (tys' := zt_9 k1) [0, 1, 2, 3, 4, 5, 6, 7, 8, 9, 10, 11, 12, 13, 14, 15, 16, 17, 18, 19, 20, 21, 22, 23, 24, 25, 26, 27, 28, 29, 30, 31, 32, 33, 34, 35, 36, 37, 38, 39, 40, 41, 42, 43, 44, 45, 46, 47, 48, 49, 50] rfl) (sub_P (sb_9_10__0c0 a1 a2 k1 k2 s1 s2) hP) (sub_D (sb_9_10__0c0 a1 a2 k1 k2 s1 s2) hD) 9 0 rfl rfl rfl) rfl rfl hl.1 rfl (lv_room (Nat.le_of_ble_eq_true rfl)) dL_law_391 ⟨Nat.le_of_ble_eq_true rfl, Nat.le_of_ble_eq_true rfl⟩) hS (fun q _ h => (sub_F (sb_9_10__0c0 a1 a2 k1 k2 s1 s2) hD hS hA) q h) (sub_F (sb_9_10__0c0 a1 a2 k1 k2 s1 s2) hD hS hA) (fun r1 v1 t1 H1 locs1 ht1 hvm1 hw1 hB1 hz1 hk1 hS1 => ?_)
  obtain rfl : r = r1 := congrArg Prod.fst hw1
  obtain rfl : c' = v1 := congrArg Prod.snd hw1
  obtain ⟨hP1, hD1⟩ := jn_sub (sb_9_10__0c0 a1 a2 k1 k2 s1 s2) (jo_9_10__0c0__0 a1 a2 k1 k2 s1 s2 c') rfl hP hD hk1 ht1 hB1
  have hP1 : va_P (dC, dI) vwCl (zc_9 a1 k1 c' ++ zc_10 a2 k2 s2) H1 := hP1
  have hD1 : va_D (fun q : Nat => s.heap.size ≤ q) (zc_9 a1 k1 c' ++ zc_10 a2 k2 s2) := hD1
  clear hP hD hS hB1 hk1 hvm1 hz1 ht1
  refine lv_aload_n hx hb dL_law_394 rfl (lv_at hl 2 rfl) ?_
  refine lv_aload_n hx hb dL_law_395 rfl (lv_at hl 0 rfl) ?_
  refine lv_iload_n hx hb dL_law_396 rfl (lv_at hl 3 rfl) ?_
  refine lv_iconst (v := (1 : Int32)) hx hb dL_law_397 (by decide) ?_
  refine lv_iadd hx hb dL_law_398 ?_
  refine va_sld hx hb hX hbl hbA hS1 j1 dL_law_399 ?_
  refine lv_aload_n hx hb dL_law_400 rfl (lv_at hl 0 rfl) ?_
  refine lv_iload_n hx hb dL_law_401 rfl (lv_at hl 3 rfl) ?_
  refine lv_iconst (v := (2 : Int32)) hx hb dL_law_402 (by decide) ?_
  refine lv_iadd hx hb dL_law_403 ?_
  refine va_sld hx hb hX hbl hbA hS1 j2 dL_law_404 ?_
  refine va_calli (va_runV (As := [.int (xs ((nI i) + (1 : Int32)).toNatClampNeg), .int (xs ((nI i) + (2 : Int32)).toNatClampNeg)]) (rest := [.int r]) ⟨hx, hb, hml, hown, hts⟩ (cc_X10_of l dC dI fu a2 k2 H1.size (xs ((nI i) + (1 : Int32)).toNatClampNeg) (xs ((nI i) + (2 : Int32)).toNatClampNeg) s2 (r, m') e2) (cwV 2 hts gL_law_X10_of rfl rfl rfl (by decide +kernel) ⟨Nat.le_of_ble_eq_true rfl, Nat.le_of_ble_eq_true rfl⟩) (pf_v (hK.sub (tys' := zt_10 k2) [51, 52, 53, 54, 55, 56, 57, 58, 59, 60, 61, 62, 63, 64, 65, 66, 67, 68, 69, 70, 71] rfl) (sub_P (sb_9_10__1c0 a1 a2 k1 k2 c' s2) hP1) (sub_D (sb_9_10__1c0 a1 a2 k1 k2 c' s2) hD1) 10 0 rfl rfl rfl) rfl rfl hl.1 rfl (lv_room (Nat.le_of_ble_eq_true rfl)) dL_law_405 ⟨Nat.le_of_ble_eq_true rfl, Nat.le_of_ble_eq_true rfl⟩) hS1 (fun q _ h => (sub_F (sb_9_10__1c0 a1 a2 k1 k2 c' s2) hD1 hS1 hA) q h) (sub_F (sb_9_10__1c0 a1 a2 k1 k2 c' s2) hD1 hS1 hA) (fun r2 v2 t2 H2 locs2 ht2 hvm2 hw2 hB2 hz2 hk2 hS2 => ?_)
  obtain rfl : r = r2 := congrArg Prod.fst hw2
  obtain rfl : m' = v2 := congrArg Prod.snd hw2
  obtain ⟨hP2, hD2⟩ := jn_sub (sb_9_10__1c0 a1 a2 k1 k2 c' s2) (jo_9_10__1c0__0 a1 a2 k1 k2 c' s2 m') rfl hP1 hD1 hk2 ht2 hB2
  have hP2 : va_P (dC, dI) vwCl (zc_9 a1 k1 c' ++ zc_10 a2 k2 m') H2 := hP2
  have hD2 : va_D (fun q : Nat => s.heap.size ≤ q) (zc_9 a1 k1 c' ++ zc_10 a2 k2 m') := hD2
  clear hP1 hD1 hS1 hB2 hk2 hvm2 hz2 ht2
  refine lv_icmp_eq (tgt := 1383) hx hb dL_law_408 (by decide) (fun _ => ?_) (fun c => absurd rfl c)
  exact tail c' m' hRel2 H2 locs2 ls hP2 hD2 hS2 hl
set_option maxHeartbeats 4000000 in
set_option maxRecDepth 100000 in
theorem lc_type {p : Program} {l : Launch} {e : Env} {s : State} {m : MethodId} {below : List Frame} {meth : Method} {c : Code} {dC : Nat → ClassId} {dI : Nat → Nat → Nat} {b L : Nat} {xs : Nat → Int32} {fu : Nat} {Rel : ZT_9 → ZT_10 → Prop} (h_type : St_type fu Rel) (a1 a2 : Nat → Nat) (k1 k2 : Nat → ClassId) (hL : L ≤ 4608) (hx : p.tables.exec = Jvm.exec) (hb : c.code = code) (hml : c.maxLocals = 4) (hown : s.vm.findClass RL = some m.cls) (hts : ∀ w ∈ wsL_law, w.before #[Value.ref b] s = true) (hX : va_X b L xs s s.heap) (hbl : b < s.heap.size) (hN : va_Nw nestW s) (hK : va_K (dC, dI) vwCl (zt_9 k1 ++ zt_10 k2) s) {i : Nat} (h9 : i + 9 ≤ L) (tail : ∀ (s1 : ZT_9) (s2 : ZT_10), Rel s1 s2 → ∀ (H : Heap) (locs : List Loc) (ls : Array Slot), va_P (dC, dI) vwCl (zc_9 a1 k1 s1 ++ zc_10 a2 k2 s2) H → va_D (fun q : Nat => s.heap.size ≤ q) (zc_9 a1 k1 s1 ++ zc_10 a2 k2 s2) → va_S (fun q : Nat => s.heap.size ≤ q) s.heap H locs → lv_has ls 4 [(0, .ref b), (1, .ref (a1 0)), (2, .ref (a2 0)), (3, .int (nI i))] → W p l e room_1 s m #[Value.ref b] below meth c H locs 92 2785 (lw_Z below #[Value.ref b] s) (F0 m 1383 ls [])) (s1 : ZT_9) (s2 : ZT_10) (hRel : Rel s1 s2) (H : Heap) (locs : List Loc) (ls : Array Slot) (hP : va_P (dC, dI) vwCl (zc_9 a1 k1 s1 ++ zc_10 a2 k2 s2) H) (hD : va_D (fun q : Nat => s.heap.size ≤ q) (zc_9 a1 k1 s1 ++ zc_10 a2 k2 s2)) (hS : va_S (fun q : Nat => s.heap.size ≤ q) s.heap H locs) (hl : lv_has ls 4 [(0, .ref b), (1, .ref (a1 0)), (2, .ref (a2 0)), (3, .int (nI i))]) : W p l e room_1 s m #[Value.ref b] below meth c H locs 92 2785 (lw_Z below #[Value.ref b] s) (F0 m 413 ls []) := by
  have hA : ∀ q : Nat, s.heap.size ≤ q → (fun q : Nat => s.heap.size ≤ q) q := fun _ h => h
  have hbA : ¬ (fun q : Nat => s.heap.size ≤ q) b := Nat.not_le.mpr hbl
  have j1 : vp_in ((nI i) + (1 : Int32)) L := sc_in 1 (1 : Int32) rfl (by omega) hL
  have j2 : vp_in ((nI i) + (2 : Int32)) L := sc_in 2 (2 : Int32) rfl (by omega) hL
  have j3 : vp_in ((nI i) + (3 : Int32)) L := sc_in 3 (3 : Int32) rfl (by omega) hL
  have j4 : vp_in ((nI i) + (4 : Int32)) L := sc_in 4 (4 : Int32) rfl (by omega) hL
  have j5 : vp_in ((nI i) + (5 : Int32)) L := sc_in 5 (5 : Int32) rfl (by omega) hL
  have j6 : vp_in ((nI i) + (6 : Int32)) L := sc_in 6 (6 : Int32) rfl (by omega) hL
  have j7 : vp_in ((nI i) + (7 : Int32)) L := sc_in 7 (7 : Int32) rfl (by omega) hL
  have j8 : vp_in ((nI i) + (8 : Int32)) L := sc_in 8 (8 : Int32) rfl (by omega) hL
  refine lv_aload_n hx hb dL_law_413 rfl (lv_at hl 1 rfl) ?_
  refine lv_aload_n hx hb dL_law_414 rfl (lv_at hl 0 rfl) ?_
  refine lv_iload_n hx hb dL_law_415 rfl (lv_at hl 3 rfl) ?_
  refine lv_iconst (v := (1 : Int32)) hx hb dL_law_416 (by decide) ?_
  refine lv_iadd hx hb dL_law_417 ?_
  refine va_sld hx hb hX hbl hbA hS j1 dL_law_418 ?_
  refine lv_i2l (v := (xs ((nI i) + (1 : Int32)).toNatClampNeg).toInt64) hx hb dL_law_419 rfl ?_
  refine lv_bipush (v := (32 : Int32)) hx hb dL_law_420 (by decide) ?_
  refine lv_lshl (v := ((xs ((nI i) + (1 : Int32)).toNatClampNeg).toInt64 <<< ((32 : Int32).toInt64 &&& 63))) hx hb dL_law_422 rfl ?_
  refine lv_aload_n hx hb dL_law_423 rfl (lv_at hl 0 rfl) ?_
  refine lv_iload_n hx hb dL_law_424 rfl (lv_at hl 3 rfl) ?_
  refine lv_iconst (v := (2 : Int32)) hx hb dL_law_425 (by decide) ?_
  refine lv_iadd hx hb dL_law_426 ?_
  refine va_sld hx hb hX hbl hbA hS j2 dL_law_427 ?_
  refine lv_i2l (v := (xs ((nI i) + (2 : Int32)).toNatClampNeg).toInt64) hx hb dL_law_428 rfl ?_
  refine lv_ldc2 (v := (4294967295 : Int64)) hx hb hown (hts (.constantLong RL 44 (4294967295)) (List.mem_append_left _ (List.mem_append_left _ (List.mem_append_left _ (List.mem_append_left _ (List.mem_append_left _ (List.mem_append_left _ (List.mem_append_left _ (List.mem_append_left _ (List.mem_append_left _ (List.mem_append_left _ (List.mem_append_left _ (List.mem_append_left _ (List.mem_append_left _ (List.mem_of_getElem? (i := 6) rfl))))))))))))))) dL_law_429 ?_
  refine lv_land hx hb dL_law_432 ?_
  refine lv_lor hx hb dL_law_433 ?_
  refine lv_aload_n hx hb dL_law_434 rfl (lv_at hl 0 rfl) ?_
  refine lv_iload_n hx hb dL_law_435 rfl (lv_at hl 3 rfl) ?_
  refine lv_iconst (v := (3 : Int32)) hx hb dL_law_436 (by decide) ?_
  refine lv_iadd hx hb dL_law_437 ?_
  refine va_sld hx hb hX hbl hbA hS j3 dL_law_438 ?_
  obtain ⟨r, c', m', e1, e2, hRel2⟩ := h_type (((xs ((nI i) + (1 : Int32)).toNatClampNeg).toInt64 <<< ((32 : Int32).toInt64 &&& 63)) ||| ((xs ((nI i) + (2 : Int32)).toNatClampNeg).toInt64 &&& (4294967295 : Int64))) (xs ((nI i) + (3 : Int32)).toNatClampNeg) s1 s2 hRel
  refine va_calli (va_runV (As := [.long (((xs ((nI i) + (1 : Int32)).toNatClampNeg).toInt64 <<< ((32 : Int32).toInt64 &&& 63)) ||| ((xs ((nI i) + (2 : Int32)).toNatClampNeg).toInt64 &&& (4294967295 : Int64))), .int (xs ((nI i) + (3 : Int32)).toNatClampNeg)]) (rest := []) ⟨hx, hb, hml, hown, hts⟩ (cc_X9_type l dC dI fu a1 k1 H.size (((xs ((nI i) + (1 : Int32)).toNatClampNeg).toInt64 <<< ((32 : Int32).toInt64 &&& 63)) ||| ((xs ((nI i) + (2 : Int32)).toNatClampNeg).toInt64 &&& (4294967295 : Int64))) (xs ((nI i) + (3 : Int32)).toNatClampNeg) s1 (r, c') e1) (cwV 2 hts gL_law_X9_type rfl rfl rfl (by decide +kernel) ⟨Nat.le_of_ble_eq_true rfl, Nat.le_of_ble_eq_true rfl⟩) (pn_v hN (hK.sub (tys' := zt_9 k1) [0, 1, 2, 3, 4, 5, 6, 7, 8, 9, 10, 11, 12, 13, 14, 15, 16, 17, 18, 19, 20, 21, 22, 23, 24, 25, 26, 27, 28, 29, 30, 31, 32, 33, 34, 35, 36, 37, 38, 39, 40, 41, 42, 43, 44, 45, 46, 47, 48, 49, 50] rfl) (sub_P (sb_9_10__0c0 a1 a2 k1 k2 s1 s2) hP) (sub_D (sb_9_10__0c0 a1 a2 k1 k2 s1 s2) hD) 9 0 rfl rfl rfl) rfl rfl hl.1 rfl (lv_room (Nat.le_of_ble_eq_true rfl)) dL_law_439 ⟨Nat.le_of_ble_eq_true rfl, Nat.le_of_ble_eq_true rfl⟩) hS (fun q _ h => (sub_F (sb_9_10__0c0 a1 a2 k1 k2 s1 s2) hD hS hA) q h) (sub_F (sb_9_10__0c0 a1 a2 k1 k2 s1 s2) hD hS hA) (fun r1 v1 t1 H1 locs1 ht1 hvm1 hw1 hB1 hz1 hk1 hS1 => ?_)
  obtain rfl : r = r1 := congrArg Prod.fst hw1
  obtain rfl : c' = v1 := congrArg Prod.snd hw1
  obtain ⟨hP1, hD1⟩ := jn_sub (sb_9_10__0c0 a1 a2 k1 k2 s1 s2) (jo_9_10__0c0__0 a1 a2 k1 k2 s1 s2 c') rfl hP hD hk1 ht1 hB1
  have hP1 : va_P (dC, dI) vwCl (zc_9 a1 k1 c' ++ zc_10 a2 k2 s2) H1 := hP1
  have hD1 : va_D (fun q : Nat => s.heap.size ≤ q) (zc_9 a1 k1 c' ++ zc_10 a2 k2 s2) := hD1
  clear hP hD hS hB1 hk1 hvm1 hz1 ht1
  refine lv_aload_n hx hb dL_law_442 rfl (lv_at hl 2 rfl) ?_
  refine lv_aload_n hx hb dL_law_443 rfl (lv_at hl 0 rfl) ?_
  refine lv_iload_n hx hb dL_law_444 rfl (lv_at hl 3 rfl) ?_
  refine lv_iconst (v := (1 : Int32)) hx hb dL_law_445 (by decide) ?_
  refine lv_iadd hx hb dL_law_446 ?_
  refine va_sld hx hb hX hbl hbA hS1 j1 dL_law_447 ?_
  refine lv_i2l (v := (xs ((nI i) + (1 : Int32)).toNatClampNeg).toInt64) hx hb dL_law_448 rfl ?_
  refine lv_bipush (v := (32 : Int32)) hx hb dL_law_449 (by decide) ?_
  refine lv_lshl (v := ((xs ((nI i) + (1 : Int32)).toNatClampNeg).toInt64 <<< ((32 : Int32).toInt64 &&& 63))) hx hb dL_law_451 rfl ?_
  refine lv_aload_n hx hb dL_law_452 rfl (lv_at hl 0 rfl) ?_
  refine lv_iload_n hx hb dL_law_453 rfl (lv_at hl 3 rfl) ?_
  refine lv_iconst (v := (2 : Int32)) hx hb dL_law_454 (by decide) ?_
  refine lv_iadd hx hb dL_law_455 ?_
  refine va_sld hx hb hX hbl hbA hS1 j2 dL_law_456 ?_
  refine lv_i2l (v := (xs ((nI i) + (2 : Int32)).toNatClampNeg).toInt64) hx hb dL_law_457 rfl ?_
  refine lv_ldc2 (v := (4294967295 : Int64)) hx hb hown (hts (.constantLong RL 44 (4294967295)) (List.mem_append_left _ (List.mem_append_left _ (List.mem_append_left _ (List.mem_append_left _ (List.mem_append_left _ (List.mem_append_left _ (List.mem_append_left _ (List.mem_append_left _ (List.mem_append_left _ (List.mem_append_left _ (List.mem_append_left _ (List.mem_append_left _ (List.mem_append_left _ (List.mem_of_getElem? (i := 6) rfl))))))))))))))) dL_law_458 ?_
  refine lv_land hx hb dL_law_461 ?_
  refine lv_lor hx hb dL_law_462 ?_
  refine lv_aload_n hx hb dL_law_463 rfl (lv_at hl 0 rfl) ?_
  refine lv_iload_n hx hb dL_law_464 rfl (lv_at hl 3 rfl) ?_
  refine lv_iconst (v := (3 : Int32)) hx hb dL_law_465 (by decide) ?_
  refine lv_iadd hx hb dL_law_466 ?_
  refine va_sld hx hb hX hbl hbA hS1 j3 dL_law_467 ?_
  refine va_calli (va_runV (As := [.long (((xs ((nI i) + (1 : Int32)).toNatClampNeg).toInt64 <<< ((32 : Int32).toInt64 &&& 63)) ||| ((xs ((nI i) + (2 : Int32)).toNatClampNeg).toInt64 &&& (4294967295 : Int64))), .int (xs ((nI i) + (3 : Int32)).toNatClampNeg)]) (rest := [.int r]) ⟨hx, hb, hml, hown, hts⟩ (cc_X10_type l dC dI fu a2 k2 H1.size (((xs ((nI i) + (1 : Int32)).toNatClampNeg).toInt64 <<< ((32 : Int32).toInt64 &&& 63)) ||| ((xs ((nI i) + (2 : Int32)).toNatClampNeg).toInt64 &&& (4294967295 : Int64))) (xs ((nI i) + (3 : Int32)).toNatClampNeg) s2 (r, m') e2) (cwV 2 hts gL_law_X10_type rfl rfl rfl (by decide +kernel) ⟨Nat.le_of_ble_eq_true rfl, Nat.le_of_ble_eq_true rfl⟩) (pf_v (hK.sub (tys' := zt_10 k2) [51, 52, 53, 54, 55, 56, 57, 58, 59, 60, 61, 62, 63, 64, 65, 66, 67, 68, 69, 70, 71] rfl) (sub_P (sb_9_10__1c0 a1 a2 k1 k2 c' s2) hP1) (sub_D (sb_9_10__1c0 a1 a2 k1 k2 c' s2) hD1) 10 0 rfl rfl rfl) rfl rfl hl.1 rfl (lv_room (Nat.le_of_ble_eq_true rfl)) dL_law_468 ⟨Nat.le_of_ble_eq_true rfl, Nat.le_of_ble_eq_true rfl⟩) hS1 (fun q _ h => (sub_F (sb_9_10__1c0 a1 a2 k1 k2 c' s2) hD1 hS1 hA) q h) (sub_F (sb_9_10__1c0 a1 a2 k1 k2 c' s2) hD1 hS1 hA) (fun r2 v2 t2 H2 locs2 ht2 hvm2 hw2 hB2 hz2 hk2 hS2 => ?_)
  obtain rfl : r = r2 := congrArg Prod.fst hw2
  obtain rfl : m' = v2 := congrArg Prod.snd hw2
  obtain ⟨hP2, hD2⟩ := jn_sub (sb_9_10__1c0 a1 a2 k1 k2 c' s2) (jo_9_10__1c0__0 a1 a2 k1 k2 c' s2 m') rfl hP1 hD1 hk2 ht2 hB2
  have hP2 : va_P (dC, dI) vwCl (zc_9 a1 k1 c' ++ zc_10 a2 k2 m') H2 := hP2
  have hD2 : va_D (fun q : Nat => s.heap.size ≤ q) (zc_9 a1 k1 c' ++ zc_10 a2 k2 m') := hD2
  clear hP1 hD1 hS1 hB2 hk2 hvm2 hz2 ht2
  refine lv_icmp_eq (tgt := 1383) hx hb dL_law_471 (by decide) (fun _ => ?_) (fun c => absurd rfl c)
  exact tail c' m' hRel2 H2 locs2 ls hP2 hD2 hS2 hl
