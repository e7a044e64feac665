theorem row_lt {m : ZT_10} {N : Nat} {by_ h : Int32} : ∀ c ∈ rowM m by_ h N, c < N := fun c hc => ((rowUp_mem N c).mp hc).1
theorem st_film (fu : Nat) (hfu : 100 ≤ fu) : St_film fu Rel := by
  intro x y z w c m h
  unfold rr_X9_film rr_X10_film
  simp only [r9_within, r9_isHolder, r9_isYear, r9_isPurse, r9_isShop, r9_isSum, r9_isSheet, r9_isLane, r9_isCoin, r9_isBill, r10_isHolder, r10_isPurse, r10_isShop, r10_isSum, r10_isCoin, r10_isBill, r10_isSheet, in_1_99, in_0_99, in_0_3, in_0_4, in_1_50, in_0_5, in_m1_5, in_1_4, in_1_8, Option.bind_some, it_10, it_01, zk_b, zk_1, zk_0, lt_eq]
  have h0 := h
  by_cases hx : 0 ≤ x ∧ x ≤ 7
  · rw [if_neg (not_not_intro hx), if_neg (not_not_intro hx)]
    by_cases hy : 0 ≤ y ∧ y ≤ 3
    · rw [if_neg (not_not_intro hy)]
      by_cases hz : 0 ≤ z ∧ z ≤ 2
      · rw [if_neg (not_not_intro hz), if_neg (not_not_intro ⟨hy, hz⟩)]
        obtain ⟨rk, f, N, l, el, hM, hR, hB, hC⟩ := r9_layOut fu hfu h
        have hl3 : 0 ≤ m.1.2.2.2.2.2.2 ∧ m.1.2.2.2.2.2.2 ≤ 3 := by
          obtain ⟨⟨_, _, _, _, _, _, hl, _⟩, _⟩ := h
          exact hl
        obtain ⟨g, er, hg⟩ := r10_findRow fu hfu hM hl3 x
        obtain ⟨hh, hh7, rfl⟩ := nat_of 7 (by omega) rfl hx.1 hx.2
        obtain ⟨k, hk, rfl⟩ := nat_of 3 (by omega) rfl hy.1 hy.2
        have hN := hM.2.1
        rw [el, er]
        simp only [Option.bind_some, ck_in (show hh < 8 by omega) (show 8 < 2 ^ 31 by omega), nI_clamp (show hh < 2 ^ 31 by omega)]
        have hset := board_set hB (show hh < 8 by omega)
        have hrr := row_ranks hM hR (nI hh)
        have hcnt := count_set fu (S := f hh) (show N ≤ 64 by omega) (fun r => m.1.2.2.2.2.1 (l.getD r 0) = nI hh) (fun r hr => hB hh (by omega) r hr)
        have hlen : ((List.range N).filter (fun r => decide (m.1.2.2.2.2.1 (l.getD r 0) = nI hh))).length = (rowM m m.1.2.2.2.2.2.2 (nI hh) N).length := by rw [← hrr, List.length_map]
        have hrl : (rowM m m.1.2.2.2.2.2.2 (nI hh) N).length ≤ N := rowUp_len N
        rw [hcnt, hlen]
        simp only [Option.bind_some]
        have hS := h.2.2.2.1
        obtain ⟨q, f1, f2, hq⟩ := refus fu (m := (m.1, m.2.1, m.2.2.1, (g, nI (rowM m m.1.2.2.2.2.2.2 (nI hh) N).length), m.2.2.2.2)) hS (show k < 4 by omega) (show (rowM m m.1.2.2.2.2.2.2 (nI hh) N).length ≤ 40 by omega) hz w
        rw [f1, f2]
        simp only [Option.bind_some]
        have hrel := rel_lay h hM hR (c.2.2.2.2.2.1, (f, c.2.2.2.2.2.2.1.2), c.2.2.2.2.2.2.2.1, c.2.2.2.2.2.2.2.2.1, c.2.2.2.2.2.2.2.2.2.1)
        rcases hq with ⟨q1, q2⟩ | ⟨rfl, hla, hla2, n, p, hn, rfl, hfn, s1, s2, h3⟩
        · rw [if_neg q2, if_neg q1]
          exact ⟨_, _, _, rfl, rfl, hrel⟩
        · rw [if_pos rfl, if_pos (by decide)]
          have a1 := film71 fu (show k < 4 by omega) (show p + (rowM m m.1.2.2.2.2.2.2 (nI hh) N).length ≤ 24 by omega) hN (l := l) (u := (c.1, c.2.1, c.2.2.1, rk, (0 : Int32), c.2.2.2.2.2.1, (f, c.2.2.2.2.2.2.1.2), c.2.2.2.2.2.2.2)) hR.2.2.2.2.1 (fun r hr => by rw [getD_eq (by rw [hR.1]; exact hr)]; exact (hR.2.1 _).mp (List.getElem_mem _)) _ 0 fu (f hh) c.2.2.2.2.2.2.2.2.2.2.2.2.2.2.2 (by rw [Nat.zero_add]; exact hlen) (by omega) hset (range_asc N _) (fun r hr => List.mem_range.mp (List.mem_filter.mp hr).1)
          have a2 := film55 fu (show k < 4 by omega) (show p + (rowM m m.1.2.2.2.2.2.2 (nI hh) N).length ≤ 24 by omega) (l := rowM m m.1.2.2.2.2.2.2 (nI hh) N) rfl (m.1, m.2.1, m.2.2.1, (g, nI (rowM m m.1.2.2.2.2.2.2 (nI hh) N).length), m.2.2.2.2) hg (fun c hc => by have := row_lt c hc; omega) (rowM m m.1.2.2.2.2.2.2 (nI hh) N).length 0 fu m.2.2.2.2.2.2.2.2.2.2.2 (by omega) (by omega)
          rw [hrr] at a1
          refine ⟨_, _, _, a1, a2, ?_⟩
          obtain ⟨hT, hI, hP, hS', hK⟩ := hrel
          refine ⟨hT, hI, hP, ?_, hK⟩
          have hw := sheetR_wr (sh := c.2.2.2.2.2.2.2.2.2.2.2.2.2) (show k < 4 by omega) (rowM m m.1.2.2.2.2.2.2 (nI hh) N) p _ _ (by omega) hS
          exact hw
      · rw [if_pos hz, if_pos (fun e => hz e.2)]; exact ⟨_, _, _, rfl, rfl, h0⟩
    · rw [if_pos hy, if_pos (fun e => hy e.1)]; exact ⟨_, _, _, rfl, rfl, h0⟩
  · rw [if_pos hx, if_pos hx]; exact ⟨_, _, _, rfl, rfl, h0⟩
