theorem head_min {K : Nat → Int} {a x : Nat} {t : List Nat} (hs : Srt_ K (a :: t)) (hx : x ∈ a :: t) (hm : ∀ y ∈ a :: t, y ≠ x → K x < K y) : x = a := by
  rcases List.mem_cons.mp hx with e | e
  · exact e
  · have h1 := (List.pairwise_cons.mp hs).1 x e
    by_cases c : a = x
    · exact c.symm
    · have := hm a List.mem_cons_self c
      omega
theorem law_x1 {law : Int32} (h : 0 ≤ law ∧ law ≤ 3) : 0 ≤ law ^^^ 1 ∧ law ^^^ 1 ≤ 3 := by
  rcases lawCases h with rfl | rfl | rfl | rfl <;> decide
theorem st_of (fu : Nat) (hfu : 100 ≤ fu) : St_of fu Rel := by
  intro x i c m h
  unfold rr_X9_of rr_X10_of rr_X10_backLaw
  simp only [r9_within, r9_isHolder, r9_isYear, r9_isPurse, r9_isShop, r9_isSum, r9_isSheet, r9_isLane, r9_isCoin, r9_isBill, r10_isHolder, r10_isPurse, r10_isShop, r10_isSum, r10_isCoin, r10_isBill, r10_isSheet, in_1_99, in_0_99, in_0_3, in_0_4, in_1_50, in_0_5, in_m1_5, in_1_4, in_1_8, Option.bind_some, it_10, it_01, zk_b, zk_1, zk_0, lt_eq]
  have h0 := h
  by_cases hx : 0 ≤ x ∧ x ≤ 7
  · rw [if_neg (not_not_intro hx), if_neg (not_not_intro hx)]
    by_cases hi : 0 ≤ i ∧ i ≤ 3
    · rw [if_neg (not_not_intro hi), if_neg (not_not_intro hi)]
      obtain ⟨rk, f, N, l, el, hM, hR, hB, hC⟩ := r9_layOut fu hfu h
      have hl3 : 0 ≤ m.1.2.2.2.2.2.2 ∧ m.1.2.2.2.2.2.2 ≤ 3 := by
        obtain ⟨⟨_, _, _, _, _, _, hl, _⟩, _⟩ := h
        exact hl
      obtain ⟨hh, hh7, rfl⟩ := nat_of 7 (by omega) rfl hx.1 hx.2
      have hN := hM.2.1
      have hrel := rel_lay h hM hR (c.2.2.2.2.2.1, (f, c.2.2.2.2.2.2.1.2), c.2.2.2.2.2.2.2.1, c.2.2.2.2.2.2.2.2.1, c.2.2.2.2.2.2.2.2.2.1)
      rw [el]
      simp only [Option.bind_some, ck_in (show hh < 8 by omega) (show 8 < 2 ^ 31 by omega), nI_clamp (show hh < 2 ^ 31 by omega)]
      have hset := board_set hB (show hh < 8 by omega)
      have hrr := row_ranks hM hR (nI hh)
      have hbt : ∀ r, r < 64 → tb_ (f hh) r = decide (r < N ∧ m.1.2.2.2.2.1 (l.getD r 0) = nI hh) := fun r hr => hB hh (by omega) r hr
      unfold rr_X10_of_39
      rcases lawCases hi with rfl | rfl | rfl | rfl
      · obtain ⟨g, er, hg⟩ := r10_findRow fu hfu hM hl3 (nI hh)
        rw [if_pos rfl, if_neg (by decide), er, Option.bind_some, if_pos rfl]
        rw [count_set fu (show N ≤ 64 by omega) (fun r => m.1.2.2.2.2.1 (l.getD r 0) = nI hh) hbt, Option.bind_some]
        have hlen : ((List.range N).filter (fun r => decide (m.1.2.2.2.2.1 (l.getD r 0) = nI hh))).length = (rowM m m.1.2.2.2.2.2.2 (nI hh) N).length := by rw [← hrr, List.length_map]
        rw [hlen]
        exact ⟨_, _, _, rfl, rfl, hrel⟩
      · obtain ⟨g, er, hg⟩ := r10_findRow fu hfu hM hl3 (nI hh)
        rw [if_neg (by decide), if_pos rfl, if_neg (by decide), er, Option.bind_some, if_neg (by decide), if_pos rfl]
        obtain ⟨v, w1, w2⟩ := worth_eq fu hfu (m := (m.1, m.2.1, m.2.2.1, (g, nI (rowM m m.1.2.2.2.2.2.2 (nI hh) N).length), m.2.2.2.2)) hM hR hbt
        rw [w1, w2]
        exact ⟨_, _, _, rfl, rfl, hrel⟩
      · obtain ⟨g, er, hg⟩ := r10_findRow fu hfu hM hl3 (nI hh)
        rw [if_neg (show ¬ (2 : Int32) = 0 by decide), if_neg (show ¬ (2 : Int32) = 1 by decide), if_neg (show ¬ (2 : Int32) = 3 by decide), er, Option.bind_some, if_neg (show ¬ (2 : Int32) = 0 by decide), if_neg (show ¬ (2 : Int32) = 1 by decide)]
        cases hrs : (List.range N).filter (fun r => decide (m.1.2.2.2.2.1 (l.getD r 0) = nI hh)) with
        | nil =>
          rw [hrs] at hset hrr
          have hz := setL_nil hset
          rw [if_pos (lc_eq.mpr hz)]
          have hn : rowM m m.1.2.2.2.2.2.2 (nI hh) N = [] := hrr.symm
          rw [if_pos (by show nI _ = 0; rw [hn]; rfl)]
          exact ⟨_, _, _, rfl, rfl, hrel⟩
        | cons a t =>
          have hasc := range_asc N (fun r => decide (m.1.2.2.2.2.1 (l.getD r 0) = nI hh))
          have haN : a < N := List.mem_range.mp (List.mem_filter.mp (show a ∈ (List.range N).filter (fun r => decide (m.1.2.2.2.2.1 (l.getD r 0) = nI hh)) by rw [hrs]; exact List.mem_cons_self)).1
          rw [hrs] at hset hrr hasc
          rw [if_neg (fun e => setL_ne hset (by omega) (lc_eq.mp e)), if_pos (show (2 : Int32) = 2 from rfl), setL_next fu hset hasc (by omega), Option.bind_some, ck_in (show a < 64 by omega) (by omega), nI_clamp (show a < 2 ^ 31 by omega)]
          have hlen : 0 < (rowM m m.1.2.2.2.2.2.2 (nI hh) N).length := by rw [← hrr]; simp
          have hll : (rowM m m.1.2.2.2.2.2.2 (nI hh) N).length ≤ N := rowUp_len N
          rw [if_neg (show ¬ nI (rowM m m.1.2.2.2.2.2.2 (nI hh) N).length = 0 from nI_ne0 hlen (by omega))]
          have hg0 : g 0 = nI (l.getD a 0) := by
            rw [hg 0 hlen, ← hrr]
            rfl
          have e2 : ck_ (0 : Int32) 40 (some ((g (0 : Int32).toNatClampNeg), (m.1, m.2.1, m.2.2.1, (g, nI (rowM m m.1.2.2.2.2.2.2 (nI hh) N).length), m.2.2.2.2))) = some (g 0, (m.1, m.2.1, m.2.2.1, (g, nI (rowM m m.1.2.2.2.2.2.2 (nI hh) N).length), m.2.2.2.2)) := rfl
          have e3 : rk.2.1 a = nI (l.getD a 0) := hR.2.2.2.2.1 a haN
          rw [hg0] at e2
          refine ⟨nI (l.getD a 0), _, _, ?_, e2, hrel⟩
          rw [e3]
      · obtain ⟨g, er, hg⟩ := r10_findRow fu hfu hM (law_x1 hl3) (nI hh)
        rw [if_neg (show ¬ (3 : Int32) = 0 by decide), if_neg (show ¬ (3 : Int32) = 1 by decide), if_pos (show (3 : Int32) = 3 from rfl), er, Option.bind_some, if_neg (show ¬ (3 : Int32) = 0 by decide), if_neg (show ¬ (3 : Int32) = 1 by decide)]
        by_cases hz : f hh = 0
        · rw [if_pos (lc_eq.mpr hz)]
          have hn : rowM m (m.1.2.2.2.2.2.2 ^^^ 1) (nI hh) N = [] := by
            apply List.eq_nil_iff_forall_not_mem.mpr
            intro cc hcc
            have hm := (rowUp_mem N cc).mp hcc
            obtain ⟨r, hr, e⟩ := List.getElem_of_mem ((hR.2.1 cc).mpr hm.1)
            rw [hR.1] at hr
            have h1 := hbt r (by omega)
            rw [hz, tb_0] at h1
            have e' : l.getD r 0 = cc := by rw [getD_eq (by rw [hR.1]; exact hr)]; exact e
            rw [e'] at h1
            have : ¬ (r < N ∧ m.1.2.2.2.2.1 cc = nI hh) := by simpa using h1.symm
            exact this ⟨hr, hm.2⟩
          rw [if_pos (by show nI _ = 0; rw [hn]; rfl)]
          exact ⟨_, _, _, rfl, rfl, hrel⟩
        · obtain ⟨j, hjN, j1, j2, j3⟩ := nb_min fu hM hl3 hR (S := f hh) (fun r hr hb => by rw [hbt r hr] at hb; exact (of_decide_eq_true hb).1) hz
          rw [if_neg (fun e => hz (lc_eq.mp e)), if_neg (show ¬ (3 : Int32) = 2 by decide), j2, Option.bind_some, ck_in (show j < 64 by omega) (by omega), nI_clamp (show j < 2 ^ 31 by omega)]
          have hjm : l.getD j 0 ∈ rowM m (m.1.2.2.2.2.2.2 ^^^ 1) (nI hh) N := by
            rw [rowUp_mem]
            rw [hbt j (by omega)] at j1
            have := of_decide_eq_true j1
            exact ⟨by rw [getD_eq (by rw [hR.1]; exact hjN)]; exact (hR.2.1 _).mp (List.getElem_mem _), this.2⟩
          have hsrt : Srt_ (keyM m (m.1.2.2.2.2.2.2 ^^^ 1)) (rowM m (m.1.2.2.2.2.2.2 ^^^ 1) (nI hh) N) := rowUp_srt (M := 64) (fun a b ha hb e => keyF_inj ha hb e) N (by omega)
          have hmin : ∀ y ∈ rowM m (m.1.2.2.2.2.2.2 ^^^ 1) (nI hh) N, y ≠ l.getD j 0 → keyM m (m.1.2.2.2.2.2.2 ^^^ 1) (l.getD j 0) < keyM m (m.1.2.2.2.2.2.2 ^^^ 1) y := by
            intro y hy hne
            have hm := (rowUp_mem N y).mp hy
            obtain ⟨r, hr, e⟩ := List.getElem_of_mem ((hR.2.1 y).mpr hm.1)
            rw [hR.1] at hr
            have e' : l.getD r 0 = y := by rw [getD_eq (by rw [hR.1]; exact hr)]; exact e
            rw [← e']
            refine j3 r (by omega) ?_ (fun er => hne (by rw [← e', er]))
            rw [hbt r (by omega)]
            exact decide_eq_true ⟨hr, by rw [e']; exact hm.2⟩
          have hlen : 0 < (rowM m (m.1.2.2.2.2.2.2 ^^^ 1) (nI hh) N).length := List.length_pos_of_mem hjm
          have hll : (rowM m (m.1.2.2.2.2.2.2 ^^^ 1) (nI hh) N).length ≤ N := rowUp_len N
          rw [if_neg (show ¬ nI (rowM m (m.1.2.2.2.2.2.2 ^^^ 1) (nI hh) N).length = 0 from nI_ne0 hlen (by omega))]
          have hg0 : g 0 = nI (l.getD j 0) := by
            rw [hg 0 hlen]
            cases hrow : rowM m (m.1.2.2.2.2.2.2 ^^^ 1) (nI hh) N with
            | nil => rw [hrow] at hlen; exact absurd hlen (by decide)
            | cons a t =>
              rw [hrow] at hsrt hjm hmin
              rw [head_min hsrt hjm hmin]
              rfl
          have e2 : ck_ (0 : Int32) 40 (some ((g (0 : Int32).toNatClampNeg), (m.1, m.2.1, m.2.2.1, (g, nI (rowM m (m.1.2.2.2.2.2.2 ^^^ 1) (nI hh) N).length), m.2.2.2.2))) = some (g 0, (m.1, m.2.1, m.2.2.1, (g, nI (rowM m (m.1.2.2.2.2.2.2 ^^^ 1) (nI hh) N).length), m.2.2.2.2)) := rfl
          have e3 : rk.2.1 j = nI (l.getD j 0) := hR.2.2.2.2.1 j hjN
          rw [hg0] at e2
          refine ⟨nI (l.getD j 0), _, _, ?_, e2, hrel⟩
          rw [e3]
    · rw [if_pos hi, if_pos hi]; exact ⟨_, _, _, rfl, rfl, h0⟩
  · rw [if_pos hx, if_pos hx]; exact ⟨_, _, _, rfl, rfl, h0⟩
