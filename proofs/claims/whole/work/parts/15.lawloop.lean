theorem nestC_warm {s U : State} (hW : s.WarmedH U.vm) (h : nestC s) : nestC U := ⟨va_Nw.warmM hW h.1, va_Nw.warmM hW h.2.1, va_Nw.warmM hW h.2.2.1, va_Nw.warmM hW h.2.2.2.1, va_Nw.warmM hW h.2.2.2.2.1, va_Nw.warmM hW h.2.2.2.2.2⟩
theorem nestC_same {s U : State} (hv : s.vm = U.vm) (h : nestC s) : nestC U := ⟨va_Nw.same rfl hv h.1, va_Nw.same rfl hv h.2.1, va_Nw.same rfl hv h.2.2.1, va_Nw.same rfl hv h.2.2.2.1, va_Nw.same rfl hv h.2.2.2.2.1, va_Nw.same rfl hv h.2.2.2.2.2⟩
set_option maxHeartbeats 4000000 in
set_option maxRecDepth 100000 in
theorem law_loop {p : Program} {l : Launch} {e : Env} {s : State} {m : MethodId} {below : List Frame} {meth : Method} {c : Code} {dC : Nat → ClassId} {dI : Nat → Nat → Nat} {b L : Nat} {xs : Nat → Int32} {fu : Nat} {Rel : ZT_9 → ZT_10 → Prop} (hs : Steps_ fu Rel) (a1 a2 : Nat → Nat) (k1 k2 : Nat → ClassId) (hL : L ≤ 4608) (hx : p.tables.exec = Jvm.exec) (hb : c.code = code) (hml : c.maxLocals = 4) (hown : s.vm.findClass RL = some m.cls) (hts : ∀ w ∈ wsL_law, w.before #[Value.ref b] s = true) (hX : va_X b L xs s s.heap) (hbl : b < s.heap.size) (hN : va_Nw nestW s) (hr : meth.sig.returnType = ret) (hlocks : meth.locks = false) (hK : va_K (dC, dI) vwCl (zt_9 k1 ++ zt_10 k2) s) : ∀ (n i : Nat), i ≤ L → L + 1 ≤ i + n → ∀ (s1 : ZT_9) (s2 : ZT_10), Rel s1 s2 → ∀ (H : Heap) (locs : List Loc) (ls : Array Slot), va_P (dC, dI) vwCl (zc_9 a1 k1 s1 ++ zc_10 a2 k2 s2) H → va_D (fun q : Nat => s.heap.size ≤ q) (zc_9 a1 k1 s1 ++ zc_10 a2 k2 s2) → va_S (fun q : Nat => s.heap.size ≤ q) s.heap H locs → lv_has ls 4 [(0, .ref b), (1, .ref (a1 0)), (2, .ref (a2 0)), (3, .int (nI i))] → W p l e room_1 s m #[Value.ref b] below meth c H locs 92 2785 (lw_Z below #[Value.ref b] s) (F0 m 18 ls []) := by
  obtain ⟨h_coin, h_stamp, h_told, h_give, h_older, h_rule, h_of, h_type, h_purse, h_day, h_count, h_bill, h_would, h_even, h_least, h_errand, h_home, h_order, h_send, h_lent, h_run, h_where, h_gain, h_shows, h_image, h_restore, h_seen, h_sheet, h_drop, h_item, h_film⟩ := hs
  have hA : ∀ q : Nat, s.heap.size ≤ q → (fun q : Nat => s.heap.size ≤ q) q := fun _ h => h
  have hbA : ¬ (fun q : Nat => s.heap.size ≤ q) b := Nat.not_le.mpr hbl
  intro n
  induction n with
  | zero => intro i h1 h2; exact absurd h2 (by omega)
  | succ n ih =>
    intro i hi hin s1 s2 hRel H locs ls hP hD hS hl
    refine lv_iload_n hx hb dL_law_18 rfl (lv_at hl 3 rfl) ?_
    refine lv_aload_n hx hb dL_law_19 rfl (lv_at hl 0 rfl) ?_
    refine va_slen hx hb hX hbl hbA hS dL_law_20 ?_
    refine lv_bipush (v := (9 : Int32)) hx hb dL_law_21 (by decide) ?_
    refine lv_isub hx hb dL_law_23 ?_
    refine lv_icmp_gt (tgt := 1389) hx hb dL_law_24 (by decide) (fun c1 => ?_) (fun c1 => ?_)
    · refine lv_iconst (v := 1) hx hb dL_law_1389 (by decide) ?_
      refine va_forget (fun q hq => hS.2.2 q hq) ?_
      refine W.widen (k := 600000) (n := 7302250) (Nat.le_of_ble_eq_true rfl) (Nat.le_of_ble_eq_true rfl) ?_
      exact lw_ret hx hb hr hlocks dL_law_1390
    · have h9 : i + 9 ≤ L := sc_end hL hi c1
      have j0 : vp_in (nI i) L := vp_in_nI (by omega) (by omega)
      have tail : ∀ (s1 : ZT_9) (s2 : ZT_10), Rel s1 s2 → ∀ (H : Heap) (locs : List Loc) (ls : Array Slot), va_P (dC, dI) vwCl (zc_9 a1 k1 s1 ++ zc_10 a2 k2 s2) H → va_D (fun q : Nat => s.heap.size ≤ q) (zc_9 a1 k1 s1 ++ zc_10 a2 k2 s2) → va_S (fun q : Nat => s.heap.size ≤ q) s.heap H locs → lv_has ls 4 [(0, .ref b), (1, .ref (a1 0)), (2, .ref (a2 0)), (3, .int (nI i))] → W p l e room_1 s m #[Value.ref b] below meth c H locs 92 2785 (lw_Z below #[Value.ref b] s) (F0 m 1383 ls []) := by
        intro s1 s2 hRel H locs ls hP hD hS hl
        refine lv_iinc (v := nI (i + 9)) (lv' := [(3, .int (nI (i + 9))), (0, .ref b), (1, .ref (a1 0)), (2, .ref (a2 0))]) hx hb dL_law_1383 hl (k := 3) rfl (by exact nI_add i 9) (by decide) rfl (fun ls hl => ?_)
        refine lv_goto (tgt := 18) hx hb dL_law_1386 (by decide) ?_
        exact ih (i + 9) h9 (by omega) s1 s2 hRel H locs ls hP hD hS (lv_sub hl [1, 2, 3, 0] rfl)
      refine lv_aload_n hx hb dL_law_27 rfl (lv_at hl 0 rfl) ?_
      refine lv_iload_n hx hb dL_law_28 rfl (lv_at hl 3 rfl) ?_
      refine va_sld hx hb hX hbl hbA hS j0 dL_law_29 ?_
      refine lv_bipush (v := (31 : Int32)) hx hb dL_law_30 (by decide) ?_
      refine lv_iand hx hb dL_law_32 ?_
      refine lv_topi (fun x ex => ?_)
      by_cases c2_0 : x = (0 : Int32)
      · refine lv_tableIn (tgt := 172) (off := 139) hx hb dL_law_33 (by rw [c2_0]; decide) (by rw [c2_0]; decide) (by rw [c2_0]; decide) (by decide) ?_
        exact lc_coin h_coin a1 a2 k1 k2 hL hx hb hml hown hts hX hbl hN hK h9 tail s1 s2 hRel H locs ls hP hD hS hl
      by_cases c2_1 : x = (1 : Int32)
      · refine lv_tableIn (tgt := 225) (off := 192) hx hb dL_law_33 (by rw [c2_1]; decide) (by rw [c2_1]; decide) (by rw [c2_1]; decide) (by decide) ?_
        exact lc_stamp h_stamp a1 a2 k1 k2 hL hx hb hml hown hts hX hbl hN hK h9 tail s1 s2 hRel H locs ls hP hD hS hl
      by_cases c2_2 : x = (2 : Int32)
      · refine lv_tableIn (tgt := 258) (off := 225) hx hb dL_law_33 (by rw [c2_2]; decide) (by rw [c2_2]; decide) (by rw [c2_2]; decide) (by decide) ?_
        exact lc_told h_told a1 a2 k1 k2 hL hx hb hml hown hts hX hbl hN hK h9 tail s1 s2 hRel H locs ls hP hD hS hl
      by_cases c2_3 : x = (3 : Int32)
      · refine lv_tableIn (tgt := 291) (off := 258) hx hb dL_law_33 (by rw [c2_3]; decide) (by rw [c2_3]; decide) (by rw [c2_3]; decide) (by decide) ?_
        exact lc_give h_give a1 a2 k1 k2 hL hx hb hml hown hts hX hbl hN hK h9 tail s1 s2 hRel H locs ls hP hD hS hl
      by_cases c2_4 : x = (4 : Int32)
      · refine lv_tableIn (tgt := 324) (off := 291) hx hb dL_law_33 (by rw [c2_4]; decide) (by rw [c2_4]; decide) (by rw [c2_4]; decide) (by decide) ?_
        exact lc_older h_older a1 a2 k1 k2 hL hx hb hml hown hts hX hbl hN hK h9 tail s1 s2 hRel H locs ls hP hD hS hl
      by_cases c2_5 : x = (5 : Int32)
      · refine lv_tableIn (tgt := 357) (off := 324) hx hb dL_law_33 (by rw [c2_5]; decide) (by rw [c2_5]; decide) (by rw [c2_5]; decide) (by decide) ?_
        exact lc_rule h_rule a1 a2 k1 k2 hL hx hb hml hown hts hX hbl hN hK h9 tail s1 s2 hRel H locs ls hP hD hS hl
      by_cases c2_6 : x = (6 : Int32)
      · refine lv_tableIn (tgt := 380) (off := 347) hx hb dL_law_33 (by rw [c2_6]; decide) (by rw [c2_6]; decide) (by rw [c2_6]; decide) (by decide) ?_
        exact lc_of h_of a1 a2 k1 k2 hL hx hb hml hown hts hX hbl hN hK h9 tail s1 s2 hRel H locs ls hP hD hS hl
      by_cases c2_7 : x = (7 : Int32)
      · refine lv_tableIn (tgt := 413) (off := 380) hx hb dL_law_33 (by rw [c2_7]; decide) (by rw [c2_7]; decide) (by rw [c2_7]; decide) (by decide) ?_
        exact lc_type h_type a1 a2 k1 k2 hL hx hb hml hown hts hX hbl hN hK h9 tail s1 s2 hRel H locs ls hP hD hS hl
      by_cases c2_8 : x = (8 : Int32)
      · refine lv_tableIn (tgt := 476) (off := 443) hx hb dL_law_33 (by rw [c2_8]; decide) (by rw [c2_8]; decide) (by rw [c2_8]; decide) (by decide) ?_
        exact lc_purse h_purse a1 a2 k1 k2 hL hx hb hml hown hts hX hbl hN hK h9 tail s1 s2 hRel H locs ls hP hD hS hl
      by_cases c2_9 : x = (9 : Int32)
      · refine lv_tableIn (tgt := 499) (off := 466) hx hb dL_law_33 (by rw [c2_9]; decide) (by rw [c2_9]; decide) (by rw [c2_9]; decide) (by decide) ?_
        exact lc_day h_day a1 a2 k1 k2 hL hx hb hml hown hts hX hbl hN hK h9 tail s1 s2 hRel H locs ls hP hD hS hl
      by_cases c2_10 : x = (10 : Int32)
      · refine lv_tableIn (tgt := 512) (off := 479) hx hb dL_law_33 (by rw [c2_10]; decide) (by rw [c2_10]; decide) (by rw [c2_10]; decide) (by decide) ?_
        exact lc_count h_count a1 a2 k1 k2 hL hx hb hml hown hts hX hbl hN hK h9 tail s1 s2 hRel H locs ls hP hD hS hl
      by_cases c2_11 : x = (11 : Int32)
      · refine lv_tableIn (tgt := 535) (off := 502) hx hb dL_law_33 (by rw [c2_11]; decide) (by rw [c2_11]; decide) (by rw [c2_11]; decide) (by decide) ?_
        exact lc_bill h_bill a1 a2 k1 k2 hL hx hb hml hown hts hX hbl hN hK h9 tail s1 s2 hRel H locs ls hP hD hS hl
      by_cases c2_12 : x = (12 : Int32)
      · refine lv_tableIn (tgt := 578) (off := 545) hx hb dL_law_33 (by rw [c2_12]; decide) (by rw [c2_12]; decide) (by rw [c2_12]; decide) (by decide) ?_
        exact lc_would h_would a1 a2 k1 k2 hL hx hb hml hown hts hX hbl hN hK h9 tail s1 s2 hRel H locs ls hP hD hS hl
      by_cases c2_13 : x = (13 : Int32)
      · refine lv_tableIn (tgt := 631) (off := 598) hx hb dL_law_33 (by rw [c2_13]; decide) (by rw [c2_13]; decide) (by rw [c2_13]; decide) (by decide) ?_
        exact lc_even h_even a1 a2 k1 k2 hL hx hb hml hown hts hX hbl hN hK h9 tail s1 s2 hRel H locs ls hP hD hS hl
      by_cases c2_14 : x = (14 : Int32)
      · refine lv_tableIn (tgt := 664) (off := 631) hx hb dL_law_33 (by rw [c2_14]; decide) (by rw [c2_14]; decide) (by rw [c2_14]; decide) (by decide) ?_
        exact lc_least h_least a1 a2 k1 k2 hL hx hb hml hown hts hX hbl hN hK h9 tail s1 s2 hRel H locs ls hP hD hS hl
      by_cases c2_15 : x = (15 : Int32)
      · refine lv_tableIn (tgt := 717) (off := 684) hx hb dL_law_33 (by rw [c2_15]; decide) (by rw [c2_15]; decide) (by rw [c2_15]; decide) (by decide) ?_
        exact lc_errand h_errand a1 a2 k1 k2 hL hx hb hml hown hts hX hbl hN hK h9 tail s1 s2 hRel H locs ls hP hD hS hl
      by_cases c2_16 : x = (16 : Int32)
      · refine lv_tableIn (tgt := 750) (off := 717) hx hb dL_law_33 (by rw [c2_16]; decide) (by rw [c2_16]; decide) (by rw [c2_16]; decide) (by decide) ?_
        exact lc_home h_home a1 a2 k1 k2 hL hx hb hml hown hts hX hbl hN hK h9 tail s1 s2 hRel H locs ls hP hD hS hl
      by_cases c2_17 : x = (17 : Int32)
      · refine lv_tableIn (tgt := 763) (off := 730) hx hb dL_law_33 (by rw [c2_17]; decide) (by rw [c2_17]; decide) (by rw [c2_17]; decide) (by decide) ?_
        exact lc_order h_order a1 a2 k1 k2 hL hx hb hml hown hts hX hbl hN hK h9 tail s1 s2 hRel H locs ls hP hD hS hl
      by_cases c2_18 : x = (18 : Int32)
      · refine lv_tableIn (tgt := 796) (off := 763) hx hb dL_law_33 (by rw [c2_18]; decide) (by rw [c2_18]; decide) (by rw [c2_18]; decide) (by decide) ?_
        exact lc_send h_send a1 a2 k1 k2 hL hx hb hml hown hts hX hbl hN hK h9 tail s1 s2 hRel H locs ls hP hD hS hl
      by_cases c2_19 : x = (19 : Int32)
      · refine lv_tableIn (tgt := 849) (off := 816) hx hb dL_law_33 (by rw [c2_19]; decide) (by rw [c2_19]; decide) (by rw [c2_19]; decide) (by decide) ?_
        exact lc_lent h_lent a1 a2 k1 k2 hL hx hb hml hown hts hX hbl hN hK h9 tail s1 s2 hRel H locs ls hP hD hS hl
      by_cases c2_20 : x = (20 : Int32)
      · refine lv_tableIn (tgt := 924) (off := 891) hx hb dL_law_33 (by rw [c2_20]; decide) (by rw [c2_20]; decide) (by rw [c2_20]; decide) (by decide) ?_
        exact lc_run h_run a1 a2 k1 k2 hL hx hb hml hown hts hX hbl hN hK h9 tail s1 s2 hRel H locs ls hP hD hS hl
      by_cases c2_21 : x = (21 : Int32)
      · refine lv_tableIn (tgt := 947) (off := 914) hx hb dL_law_33 (by rw [c2_21]; decide) (by rw [c2_21]; decide) (by rw [c2_21]; decide) (by decide) ?_
        exact lc_where h_where a1 a2 k1 k2 hL hx hb hml hown hts hX hbl hN hK h9 tail s1 s2 hRel H locs ls hP hD hS hl
      by_cases c2_22 : x = (22 : Int32)
      · refine lv_tableIn (tgt := 980) (off := 947) hx hb dL_law_33 (by rw [c2_22]; decide) (by rw [c2_22]; decide) (by rw [c2_22]; decide) (by decide) ?_
        exact lc_gain h_gain a1 a2 k1 k2 hL hx hb hml hown hts hX hbl hN hK h9 tail s1 s2 hRel H locs ls hP hD hS hl
      by_cases c2_23 : x = (23 : Int32)
      · refine lv_tableIn (tgt := 1023) (off := 990) hx hb dL_law_33 (by rw [c2_23]; decide) (by rw [c2_23]; decide) (by rw [c2_23]; decide) (by decide) ?_
        exact lc_shows h_shows a1 a2 k1 k2 hL hx hb hml hown hts hX hbl hN hK h9 tail s1 s2 hRel H locs ls hP hD hS hl
      by_cases c2_24 : x = (24 : Int32)
      · refine lv_tableIn (tgt := 1056) (off := 1023) hx hb dL_law_33 (by rw [c2_24]; decide) (by rw [c2_24]; decide) (by rw [c2_24]; decide) (by decide) ?_
        exact lc_image h_image a1 a2 k1 k2 hL hx hb hml hown hts hX hbl hN hK h9 tail s1 s2 hRel H locs ls hP hD hS hl
      by_cases c2_25 : x = (25 : Int32)
      · refine lv_tableIn (tgt := 1069) (off := 1036) hx hb dL_law_33 (by rw [c2_25]; decide) (by rw [c2_25]; decide) (by rw [c2_25]; decide) (by decide) ?_
        exact lc_restore h_restore a1 a2 k1 k2 hL hx hb hml hown hts hX hbl hN hK h9 tail s1 s2 hRel H locs ls hP hD hS hl
      by_cases c2_26 : x = (26 : Int32)
      · refine lv_tableIn (tgt := 1082) (off := 1049) hx hb dL_law_33 (by rw [c2_26]; decide) (by rw [c2_26]; decide) (by rw [c2_26]; decide) (by decide) ?_
        exact lc_seen h_seen a1 a2 k1 k2 hL hx hb hml hown hts hX hbl hN hK h9 tail s1 s2 hRel H locs ls hP hD hS hl
      by_cases c2_27 : x = (27 : Int32)
      · refine lv_tableIn (tgt := 1181) (off := 1148) hx hb dL_law_33 (by rw [c2_27]; decide) (by rw [c2_27]; decide) (by rw [c2_27]; decide) (by decide) ?_
        exact lc_sheet h_sheet a1 a2 k1 k2 hL hx hb hml hown hts hX hbl hN hK h9 tail s1 s2 hRel H locs ls hP hD hS hl
      by_cases c2_28 : x = (28 : Int32)
      · refine lv_tableIn (tgt := 1224) (off := 1191) hx hb dL_law_33 (by rw [c2_28]; decide) (by rw [c2_28]; decide) (by rw [c2_28]; decide) (by decide) ?_
        exact lc_drop h_drop a1 a2 k1 k2 hL hx hb hml hown hts hX hbl hN hK h9 tail s1 s2 hRel H locs ls hP hD hS hl
      by_cases c2_29 : x = (29 : Int32)
      · refine lv_tableIn (tgt := 1247) (off := 1214) hx hb dL_law_33 (by rw [c2_29]; decide) (by rw [c2_29]; decide) (by rw [c2_29]; decide) (by decide) ?_
        exact lc_item h_item a1 a2 k1 k2 hL hx hb hml hown hts hX hbl hN hK h9 tail s1 s2 hRel H locs ls hP hD hS hl
      by_cases c2_30 : x = (30 : Int32)
      · refine lv_tableIn (tgt := 1330) (off := 1297) hx hb dL_law_33 (by rw [c2_30]; decide) (by rw [c2_30]; decide) (by rw [c2_30]; decide) (by decide) ?_
        exact lc_film h_film a1 a2 k1 k2 hL hx hb hml hown hts hX hbl hN hK h9 tail s1 s2 hRel H locs ls hP hD hS hl
      refine lv_tableOut (tgt := 1383) hx hb dL_law_33 (by have k0 := ne_i 0 (0 : Int32) (by decide) c2_0; have k1 := ne_i 1 (1 : Int32) (by decide) c2_1; have k2 := ne_i 2 (2 : Int32) (by decide) c2_2; have k3 := ne_i 3 (3 : Int32) (by decide) c2_3; have k4 := ne_i 4 (4 : Int32) (by decide) c2_4; have k5 := ne_i 5 (5 : Int32) (by decide) c2_5; have k6 := ne_i 6 (6 : Int32) (by decide) c2_6; have k7 := ne_i 7 (7 : Int32) (by decide) c2_7; have k8 := ne_i 8 (8 : Int32) (by decide) c2_8; have k9 := ne_i 9 (9 : Int32) (by decide) c2_9; have k10 := ne_i 10 (10 : Int32) (by decide) c2_10; have k11 := ne_i 11 (11 : Int32) (by decide) c2_11; have k12 := ne_i 12 (12 : Int32) (by decide) c2_12; have k13 := ne_i 13 (13 : Int32) (by decide) c2_13; have k14 := ne_i 14 (14 : Int32) (by decide) c2_14; have k15 := ne_i 15 (15 : Int32) (by decide) c2_15; have k16 := ne_i 16 (16 : Int32) (by decide) c2_16; have k17 := ne_i 17 (17 : Int32) (by decide) c2_17; have k18 := ne_i 18 (18 : Int32) (by decide) c2_18; have k19 := ne_i 19 (19 : Int32) (by decide) c2_19; have k20 := ne_i 20 (20 : Int32) (by decide) c2_20; have k21 := ne_i 21 (21 : Int32) (by decide) c2_21; have k22 := ne_i 22 (22 : Int32) (by decide) c2_22; have k23 := ne_i 23 (23 : Int32) (by decide) c2_23; have k24 := ne_i 24 (24 : Int32) (by decide) c2_24; have k25 := ne_i 25 (25 : Int32) (by decide) c2_25; have k26 := ne_i 26 (26 : Int32) (by decide) c2_26; have k27 := ne_i 27 (27 : Int32) (by decide) c2_27; have k28 := ne_i 28 (28 : Int32) (by decide) c2_28; have k29 := ne_i 29 (29 : Int32) (by decide) c2_29; have k30 := ne_i 30 (30 : Int32) (by decide) c2_30; omega) (by decide) ?_
      exact tail s1 s2 hRel H locs ls hP hD hS hl
set_option maxHeartbeats 4000000 in
set_option maxRecDepth 100000 in
theorem whole_open {p : Program} {e : Env} {s : State} {m : MethodId} {below : List Frame} {meth : Method} {c : Code} (l : Launch) {b L : Nat} {xs : Nat → Int32} (hL : L ≤ 4608) (C0 : lw_At p s m meth c b L xs) {fu : Nat} {Rel : ZT_9 → ZT_10 → Prop} (hs : Steps_ fu Rel) (hi : Rel zi_9 zi_10) : W p l e room_1 s m #[Value.ref b] below meth c s.heap [] 0 0 (lw_Z below #[Value.ref b] s) (entryFrame m ([Value.ref b] : List Value).toArray 4) := by
  obtain ⟨hx, hb, hr, hml, hown0, hts0, hX, hbl, hlocks, hgv⟩ := id C0
  have hown : s.vm.findClass RL = some m.cls := hown0
  have hts : ∀ w ∈ wsL_law, w.before #[Value.ref b] s = true := fun w h => hts0 w (wsL_law_in w h)
  have hN : va_Nw nestW s := va_Nw.of rfl (hts0 nestW (by decide +kernel))
  have hNC : nestC s := ⟨va_Nw.of rfl (hts0 (.methodLinkNest RX9 9 yX8_init RX9) (by decide +kernel)), va_Nw.of rfl (hts0 (.methodLinkNest RX9 21 yX4_init RX9) (by decide +kernel)), va_Nw.of rfl (hts0 (.methodLinkNest RX9 35 yX1_init RX9) (by decide +kernel)), va_Nw.of rfl (hts0 (.methodLinkNest RX9 45 yX7_init RX9) (by decide +kernel)), va_Nw.of rfl (hts0 (.methodLinkNest RX9 52 yX3_init RX9) (by decide +kernel)), va_Nw.of rfl (hts0 (.methodLinkNest RX9 59 yX6_init RX9) (by decide +kernel))⟩
  have hA : ∀ q : Nat, s.heap.size ≤ q → (fun q : Nat => s.heap.size ≤ q) q := fun _ h => h
  obtain ⟨c0, iS0, hKn0⟩ := u_known (C := RX0) (T := TX0) (N := 4) (n := 4) hts0 inX0 (hts0 (.instantiable RX0 4) (by decide +kernel))
  obtain ⟨c1, iS1, hKn1⟩ := u_known (C := RX1) (T := TX1) (N := 5) (n := 5) hts0 inX1 (hts0 (.instantiable RX1 5) (by decide +kernel))
  obtain ⟨c2, iS2, hKn2⟩ := u_known (C := RX2) (T := TX2) (N := 6) (n := 6) hts0 inX2 (hts0 (.instantiable RX2 6) (by decide +kernel))
  obtain ⟨c3, iS3, hKn3⟩ := u_known (C := RX3) (T := TX3) (N := 8) (n := 8) hts0 inX3 (hts0 (.instantiable RX3 8) (by decide +kernel))
  obtain ⟨c4, iS4, hKn4⟩ := u_known (C := RX4) (T := TX4) (N := 6) (n := 6) hts0 inX4 (hts0 (.instantiable RX4 6) (by decide +kernel))
  obtain ⟨c5, iS5, hKn5⟩ := u_known (C := RX5) (T := TX5) (N := 3) (n := 3) hts0 inX5 (hts0 (.instantiable RX5 3) (by decide +kernel))
  obtain ⟨c6, iS6, hKn6⟩ := u_known (C := RX6) (T := TX6) (N := 4) (n := 4) hts0 inX6 (hts0 (.instantiable RX6 4) (by decide +kernel))
  obtain ⟨c7, iS7, hKn7⟩ := u_known (C := RX7) (T := TX7) (N := 7) (n := 7) hts0 inX7 (hts0 (.instantiable RX7 7) (by decide +kernel))
  obtain ⟨c8, iS8, hKn8⟩ := u_known (C := RX8) (T := TX8) (N := 4) (n := 4) hts0 inX8 (hts0 (.instantiable RX8 4) (by decide +kernel))
  obtain ⟨c9, iS9, hKn9⟩ := u_known (C := RX9) (T := TX9) (N := 14) (n := 14) hts0 inX9 (hts0 (.instantiable RX9 14) (by decide +kernel))
  obtain ⟨c10, iS10, hKn10⟩ := u_known (C := RX10) (T := TX10) (N := 35) (n := 35) hts0 inX10 (hts0 (.instantiable RX10 35) (by decide +kernel))
  obtain ⟨dC, dI, hKc⟩ : ∃ (dC : Nat → ClassId) (dI : Nat → Nat → Nat), ∀ (k : Nat) (q : vw_C), vwCl[k]? = some q → u_Kn s q.1 q.2.1 q.2.2 (dC k) (dI k) := by
    refine ⟨fun k => [c0, c1, c2, c3, c4, c5, c6, c7, c8, c9, c10].getD k c0, fun k => [iS0, iS1, iS2, iS3, iS4, iS5, iS6, iS7, iS8, iS9, iS10].getD k iS0, ?_⟩
    intro k q hq
    match k, hq with
    | 0, hq => cases hq; exact hKn0
    | 1, hq => cases hq; exact hKn1
    | 2, hq => cases hq; exact hKn2
    | 3, hq => cases hq; exact hKn3
    | 4, hq => cases hq; exact hKn4
    | 5, hq => cases hq; exact hKn5
    | 6, hq => cases hq; exact hKn6
    | 7, hq => cases hq; exact hKn7
    | 8, hq => cases hq; exact hKn8
    | 9, hq => cases hq; exact hKn9
    | 10, hq => cases hq; exact hKn10
    | k + 11, hq => simp [vwCl] at hq
  have hS : va_S (fun q : Nat => s.heap.size ≤ q) s.heap s.heap [] := va_S.rf
  have hK : va_K (dC, dI) vwCl [] s := ⟨hKc, fun k q h => by simp at h⟩
  have hP : va_P (dC, dI) vwCl [] s.heap := nil_P
  have hD : va_D (fun q : Nat => s.heap.size ≤ q) [] := nil_D
  have hl := lv_entry ([.ref b]) (n := 4) (Nat.le_of_ble_eq_true rfl)
  rw [lg_entry_eq]
  generalize (lg_sl ([.ref b]) ++ List.replicate (4 - (lg_sl ([.ref b])).length) Slot.unset).toArray = ls at hl ⊢
  have hl : lv_has ls 4 [(0, .ref b)] := hl
  refine va_new (ci := 9) (fs := [.null, .null, .int 0, .null, .int 0, .null, .null, .null, .null, .null, .null, .null, .null, .null]) (C := RX9) (T := TX9) (N := 14) hx hb hts0 inX9 tyX9 tyX9_ok hown (hts (.classLink RL 7 RX9) (List.mem_append_left _ (List.mem_append_left _ (List.mem_append_left _ (List.mem_append_left _ (List.mem_append_left _ (List.mem_append_left _ (List.mem_append_left _ (List.mem_append_left _ (List.mem_append_left _ (List.mem_append_left _ (List.mem_append_left _ (List.mem_append_left _ (List.mem_append_left _ (List.mem_of_getElem? (i := 0) rfl))))))))))))))) (hts (.instantiable RX9 14) (List.mem_append_left _ (List.mem_append_left _ (List.mem_append_left _ (List.mem_append_left _ (List.mem_append_left _ (List.mem_append_left _ (List.mem_append_left _ (List.mem_append_left _ (List.mem_append_left _ (List.mem_append_left _ (List.mem_append_left _ (List.mem_append_left _ (List.mem_append_left _ (List.mem_of_getElem? (i := 1) rfl))))))))))))))) (hts (.initialized RX9) (List.mem_append_left _ (List.mem_append_left _ (List.mem_append_left _ (List.mem_append_left _ (List.mem_append_left _ (List.mem_append_left _ (List.mem_append_left _ (List.mem_append_left _ (List.mem_append_left _ (List.mem_append_left _ (List.mem_append_left _ (List.mem_append_left _ (List.mem_append_left _ (List.mem_of_getElem? (i := 2) rfl))))))))))))))) hK hP hD hS hA rfl (fun j hj => by rcases (show j = 0 ∨ j = 1 ∨ j = 2 ∨ j = 3 ∨ j = 4 ∨ j = 5 ∨ j = 6 ∨ j = 7 ∨ j = 8 ∨ j = 9 ∨ j = 10 ∨ j = 11 ∨ j = 12 ∨ j = 13 by omega) with rfl | rfl | rfl | rfl | rfl | rfl | rfl | rfl | rfl | rfl | rfl | rfl | rfl | rfl <;> rfl) (Nat.le_of_ble_eq_true rfl) (Nat.le_of_ble_eq_true rfl) dL_law_0 (fun q9 H9 hP9 hD9 hS9 => ?_)
  have hP9 : va_P (dC, dI) vwCl (([] : va_W) ++ [(q9, .inr (9, [.null, .null, .int 0, .null, .int 0, .null, .null, .null, .null, .null, .null, .null, .null, .null]))]) H9 := hP9
  have hD9 : va_D (fun q : Nat => s.heap.size ≤ q) (([] : va_W) ++ [(q9, .inr (9, [.null, .null, .int 0, .null, .int 0, .null, .null, .null, .null, .null, .null, .null, .null, .null]))]) := hD9
  refine W.widen (k := 1) (n := 14) (Nat.le_of_ble_eq_true rfl) (Nat.le_of_ble_eq_true rfl) ?_
  refine lv_dup hx hb dL_law_3 rfl ?_
  have hp9 : List.Perm (α := Nat × va_E) (([] : va_W) ++ [(q9, .inr (9, [.null, .null, .int 0, .null, .int 0, .null, .null, .null, .null, .null, .null, .null, .null, .null]))]) ([(q9, .inr (9, [.null, .null, .int 0, .null, .int 0, .null, .null, .null, .null, .null, .null, .null, .null, .null]))] ++ ([] : va_W)) := List.perm_append_comm
  refine va_callv (va_runI (As := []) (rest := [.ref q9]) ⟨hx, hb, hml, hown, hts⟩ (ci_X9 l dC dI q9 H9.size) (cwI 0 hts gL_law_X9_init rfl rfl rfl (hts (.initialized RX9) (List.mem_append_left _ (List.mem_append_left _ (List.mem_append_left _ (List.mem_append_left _ (List.mem_append_left _ (List.mem_append_left _ (List.mem_append_left _ (List.mem_append_left _ (List.mem_append_left _ (List.mem_append_left _ (List.mem_append_left _ (List.mem_append_left _ (List.mem_append_left _ (List.mem_of_getElem? (i := 2) rfl))))))))))))))) (hts0 (.methodLink RL 9 yX9_init) (by decide +kernel)) (hts0 (.instanceMethod yX9_init) (by decide +kernel)) rfl (by decide +kernel) ⟨Nat.le_of_ble_eq_true rfl, Nat.le_of_ble_eq_true rfl⟩) ⟨fun a U g mk q => by obtain ⟨q0, q1, qP, qK, qD, qN⟩ := q; exact ⟨q0, q1, qP, va_K.moved (u := U) (U := U.calling g mk a) (Vm.Alike.refl U.vm) qK, qD, nestC_same rfl qN⟩, fun U hU hW => ⟨rfl, by rw [hU], by rw [hU]; exact (sub_P hp9 hP9), va_K.moved hW.alike (nil_K hK), (sub_D hp9 hD9).weaken (fun _ _ _ _ => trivial), nestC_warm hW hNC⟩⟩ rfl rfl hl.1 rfl (lv_room (Nat.le_of_ble_eq_true rfl)) dL_law_4 ⟨Nat.le_of_ble_eq_true rfl, Nat.le_of_ble_eq_true rfl⟩) hS9 (fun q _ h => (sub_F hp9 hD9 hS9 hA) q h) (sub_F hp9 hD9 hS9 hA) (fun u9 t9 G9 locs9 ht9 hvm9 hw9 hB9 hz9 hk9 hT9 => ?_)
  obtain ⟨ua9, uk9⟩ := u9
  obtain ⟨hP9a, hK9a, hD9a⟩ := hB9
  rw [ht9] at hP9a
  have hK9a := va_K.moved hvm9.symm hK9a
  replace hw9 : ua9 0 = q9 := hw9
  obtain ⟨hP9b, hD9b⟩ := jn_new hp9 hP9 hD9 (sub_F hp9 hD9 hS9 hA) hk9 hP9a hD9a
  have hK9 := hK.app hK9a
  refine W.widen (k := 70) (n := 1702) (Nat.le_of_ble_eq_true rfl) (Nat.le_of_ble_eq_true rfl) ?_
  subst hw9
  have hP9c : va_P (dC, dI) vwCl (zc_9 ua9 uk9 zi_9) G9 := hP9b
  have hD9c : va_D (fun q : Nat => s.heap.size ≤ q) (zc_9 ua9 uk9 zi_9) := hD9b
  have hK9 : va_K (dC, dI) vwCl (zt_9 uk9) s := hK9
  refine lv_astore_n (lv' := [(1, .ref (ua9 0)), (0, .ref b)]) hx hb dL_law_7 rfl hl (by decide) rfl (fun ls2 hl2 => ?_)
  refine va_new (ci := 10) (fs := [.null, .null, .null, .null, .null, .int 0, .int 0, .null, .null, .int 0, .null, .int 0, .null, .int 0, .null, .int 0, .int 0, .int 0, .null, .long 0, .long 0, .int 0, .int 0, .int 0, .null, .null, .null, .null, .null, .int 0, .null, .null, .null, .null, .null]) (C := RX10) (T := TX10) (N := 35) hx hb hts0 inX10 tyX10 tyX10_ok hown (hts (.classLink RL 10 RX10) (List.mem_append_left _ (List.mem_append_left _ (List.mem_append_left _ (List.mem_append_left _ (List.mem_append_left _ (List.mem_append_left _ (List.mem_append_left _ (List.mem_append_left _ (List.mem_append_left _ (List.mem_append_left _ (List.mem_append_left _ (List.mem_append_left _ (List.mem_append_left _ (List.mem_of_getElem? (i := 3) rfl))))))))))))))) (hts (.instantiable RX10 35) (List.mem_append_left _ (List.mem_append_left _ (List.mem_append_left _ (List.mem_append_left _ (List.mem_append_left _ (List.mem_append_left _ (List.mem_append_left _ (List.mem_append_left _ (List.mem_append_left _ (List.mem_append_left _ (List.mem_append_left _ (List.mem_append_left _ (List.mem_append_left _ (List.mem_of_getElem? (i := 4) rfl))))))))))))))) (hts (.initialized RX10) (List.mem_append_left _ (List.mem_append_left _ (List.mem_append_left _ (List.mem_append_left _ (List.mem_append_left _ (List.mem_append_left _ (List.mem_append_left _ (List.mem_append_left _ (List.mem_append_left _ (List.mem_append_left _ (List.mem_append_left _ (List.mem_append_left _ (List.mem_append_left _ (List.mem_of_getElem? (i := 5) rfl))))))))))))))) hK9 hP9c hD9c hT9 hA rfl (fun j hj => by rcases (show j = 0 ∨ j = 1 ∨ j = 2 ∨ j = 3 ∨ j = 4 ∨ j = 5 ∨ j = 6 ∨ j = 7 ∨ j = 8 ∨ j = 9 ∨ j = 10 ∨ j = 11 ∨ j = 12 ∨ j = 13 ∨ j = 14 ∨ j = 15 ∨ j = 16 ∨ j = 17 ∨ j = 18 ∨ j = 19 ∨ j = 20 ∨ j = 21 ∨ j = 22 ∨ j = 23 ∨ j = 24 ∨ j = 25 ∨ j = 26 ∨ j = 27 ∨ j = 28 ∨ j = 29 ∨ j = 30 ∨ j = 31 ∨ j = 32 ∨ j = 33 ∨ j = 34 by omega) with rfl | rfl | rfl | rfl | rfl | rfl | rfl | rfl | rfl | rfl | rfl | rfl | rfl | rfl | rfl | rfl | rfl | rfl | rfl | rfl | rfl | rfl | rfl | rfl | rfl | rfl | rfl | rfl | rfl | rfl | rfl | rfl | rfl | rfl | rfl <;> rfl) (Nat.le_of_ble_eq_true rfl) (Nat.le_of_ble_eq_true rfl) dL_law_8 (fun q10 H10 hP10 hD10 hS10 => ?_)
  have hP10 : va_P (dC, dI) vwCl (zc_9 ua9 uk9 zi_9 ++ [(q10, .inr (10, [.null, .null, .null, .null, .null, .int 0, .int 0, .null, .null, .int 0, .null, .int 0, .null, .int 0, .null, .int 0, .int 0, .int 0, .null, .long 0, .long 0, .int 0, .int 0, .int 0, .null, .null, .null, .null, .null, .int 0, .null, .null, .null, .null, .null]))]) H10 := hP10
  have hD10 : va_D (fun q : Nat => s.heap.size ≤ q) (zc_9 ua9 uk9 zi_9 ++ [(q10, .inr (10, [.null, .null, .null, .null, .null, .int 0, .int 0, .null, .null, .int 0, .null, .int 0, .null, .int 0, .null, .int 0, .int 0, .int 0, .null, .long 0, .long 0, .int 0, .int 0, .int 0, .null, .null, .null, .null, .null, .int 0, .null, .null, .null, .null, .null]))]) := hD10
  refine W.widen (k := 71) (n := 1737) (Nat.le_of_ble_eq_true rfl) (Nat.le_of_ble_eq_true rfl) ?_
  refine lv_dup hx hb dL_law_11 rfl ?_
  have hp10 : List.Perm (α := Nat × va_E) (zc_9 ua9 uk9 zi_9 ++ [(q10, .inr (10, [.null, .null, .null, .null, .null, .int 0, .int 0, .null, .null, .int 0, .null, .int 0, .null, .int 0, .null, .int 0, .int 0, .int 0, .null, .long 0, .long 0, .int 0, .int 0, .int 0, .null, .null, .null, .null, .null, .int 0, .null, .null, .null, .null, .null]))]) ([(q10, .inr (10, [.null, .null, .null, .null, .null, .int 0, .int 0, .null, .null, .int 0, .null, .int 0, .null, .int 0, .null, .int 0, .int 0, .int 0, .null, .long 0, .long 0, .int 0, .int 0, .int 0, .null, .null, .null, .null, .null, .int 0, .null, .null, .null, .null, .null]))] ++ zc_9 ua9 uk9 zi_9) := List.perm_append_comm
  refine va_callv (va_runI (As := []) (rest := [.ref q10]) ⟨hx, hb, hml, hown, hts⟩ (ci_X10 l dC dI q10 H10.size) (cwI 0 hts gL_law_X10_init rfl rfl rfl (hts (.initialized RX10) (List.mem_append_left _ (List.mem_append_left _ (List.mem_append_left _ (List.mem_append_left _ (List.mem_append_left _ (List.mem_append_left _ (List.mem_append_left _ (List.mem_append_left _ (List.mem_append_left _ (List.mem_append_left _ (List.mem_append_left _ (List.mem_append_left _ (List.mem_append_left _ (List.mem_of_getElem? (i := 5) rfl))))))))))))))) (hts0 (.methodLink RL 12 yX10_init) (by decide +kernel)) (hts0 (.instanceMethod yX10_init) (by decide +kernel)) rfl (by decide +kernel) ⟨Nat.le_of_ble_eq_true rfl, Nat.le_of_ble_eq_true rfl⟩) (pf_s (nil_K hK9) (sub_P hp10 hP10) (sub_D hp10 hD10)) rfl rfl hl2.1 rfl (lv_room (Nat.le_of_ble_eq_true rfl)) dL_law_12 ⟨Nat.le_of_ble_eq_true rfl, Nat.le_of_ble_eq_true rfl⟩) hS10 (fun q _ h => (sub_F hp10 hD10 hS10 hA) q h) (sub_F hp10 hD10 hS10 hA) (fun u10 t10 G10 locs10 ht10 hvm10 hw10 hB10 hz10 hk10 hT10 => ?_)
  obtain ⟨ua10, uk10⟩ := u10
  obtain ⟨hP10a, hK10a, hD10a⟩ := hB10
  rw [ht10] at hP10a
  have hK10a := va_K.moved hvm10.symm hK10a
  replace hw10 : ua10 0 = q10 := hw10
  obtain ⟨hP10b, hD10b⟩ := jn_new hp10 hP10 hD10 (sub_F hp10 hD10 hS10 hA) hk10 hP10a hD10a
  have hK10 := hK9.app hK10a
  refine W.widen (k := 92) (n := 2785) (Nat.le_of_ble_eq_true rfl) (Nat.le_of_ble_eq_true rfl) ?_
  subst hw10
  refine lv_astore_n (lv' := [(2, .ref (ua10 0)), (1, .ref (ua9 0)), (0, .ref b)]) hx hb dL_law_15 rfl hl2 (by decide) rfl (fun ls3 hl3 => ?_)
  refine lv_iconst (v := (0 : Int32)) hx hb dL_law_16 (by decide) ?_
  refine lv_istore_n (lv' := [(3, .int (0 : Int32)), (2, .ref (ua10 0)), (1, .ref (ua9 0)), (0, .ref b)]) hx hb dL_law_17 rfl hl3 (by decide) rfl (fun ls4 hl4 => ?_)
  exact law_loop hs ua9 ua10 uk9 uk10 hL hx hb hml hown hts hX hbl hN hr hlocks hK10 (L + 1) 0 (Nat.zero_le L) (by omega) zi_9 zi_10 hi G10 locs10 ls4 hP10b hD10b hT10 (lv_sub hl4 [3, 2, 1, 0] rfl)
