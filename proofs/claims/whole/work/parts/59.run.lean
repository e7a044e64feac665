-- ===== run, where =====
theorem rel_day {c : ZT_9} {m : ZT_10} (h : Rel c m) : ∃ B : Nat, DayR c.1.2.2.1 m.2.2.1.1 B ∧ m.2.2.1.2 = nI B := by
  obtain ⟨⟨N, E, B, hC, e1, e2, hl, hE, e3, hB, e4⟩, _⟩ := h
  exact ⟨B, hB, e4⟩
theorem st_run (fu : Nat) (hfu : 2000 ≤ fu) : St_run fu Rel := by
  intro x c m h
  unfold rr_X9_run rr_X10_run
  simp only [r9_within, r9_isHolder, r9_isYear, r9_isPurse, r9_isShop, r9_isSum, r9_isSheet, r9_isLane, r9_isCoin, r9_isBill, r10_isHolder, r10_isPurse, r10_isShop, r10_isSum, r10_isCoin, r10_isBill, r10_isSheet, in_1_99, in_0_99, in_0_3, in_0_4, in_1_50, in_0_5, in_m1_5, in_1_4, in_1_8, Option.bind_some, it_10, it_01, zk_b, zk_1, zk_0, lt_eq]
  have h0 := h
  by_cases hx : 1 ≤ x ∧ x ≤ 50
  · rw [if_neg (not_not_intro hx), if_neg (not_not_intro hx)]
    obtain ⟨rk, f, N, l, el, hM, hR, hB, hC⟩ := r9_layOut fu (by omega) h
    have hl := rel_law h
    have hN := hM.2.1
    obtain ⟨B, hD, hb⟩ := rel_day h
    have hx0 : 0 ≤ x := by
      have h1 := hx.1
      have t0 : (0 : Int32).toInt = 0 := by decide
      have t4 : (1 : Int32).toInt = 1 := by decide
      rw [i32_le] at h1 ⊢
      omega
    obtain ⟨n, hn, rfl⟩ := nat_of 50 (by omega) rfl hx0 hx.2
    rw [el]
    simp only [Option.bind_some]
    obtain ⟨r, b', ho, g, pb, pa, s1, s2, s3, s4⟩ := runDay_b fu hfu (c := (c.1, c.2.1, c.2.2.1, rk, (0 : Int32), c.2.2.2.2.2.1, (f, c.2.2.2.2.2.2.1.2), c.2.2.2.2.2.2.2)) (m := m) (n := n) hM hl hR hD hb hn hB
    rw [s1, s2]
    simp only [Option.bind_some]
    obtain ⟨f', t1, t2⟩ := r9_takeOver fu (by omega) (c := (c.1, c.2.1, c.2.2.1, rk, (0 : Int32), c.2.2.2.2.2.1, b', c.2.2.2.2.2.2.2)) hN hR s4 s3
    rw [t1]
    simp only [Option.bind_some]
    exact ⟨_, _, _, rfl, rfl, rel_over h0 hM hR (c.2.2.2.2.2.1, b', c.2.2.2.2.2.2.2.1, c.2.2.2.2.2.2.2.2.1, c.2.2.2.2.2.2.2.2.2.1) t2 s3 g pb m.2.2.2.2.2.2.1 (pa, m.2.2.2.2.2.2.2.1.2)⟩
  · rw [if_pos hx, if_pos hx]; exact ⟨_, _, _, rfl, rfl, h0⟩
theorem st_where (fu : Nat) (hfu : 2000 ≤ fu) : St_where fu Rel := by
  intro y x c m h
  unfold rr_X9_where rr_X10_where
  simp only [r9_within, r9_isHolder, r9_isYear, r9_isPurse, r9_isShop, r9_isSum, r9_isSheet, r9_isLane, r9_isCoin, r9_isBill, r10_isHolder, r10_isPurse, r10_isShop, r10_isSum, r10_isCoin, r10_isBill, r10_isSheet, in_1_99, in_0_99, in_0_3, in_0_4, in_1_50, in_0_5, in_m1_5, in_1_4, in_1_8, Option.bind_some, it_10, it_01, zk_b, zk_1, zk_0, lt_eq]
  have h0 := h
  obtain ⟨rk, f, N, l, el, hM, hR, hB, hC⟩ := r9_layOut fu (by omega) h
  have hN := hM.2.1
  rw [hM.1, hC.1]
  by_cases hy : 0 ≤ y ∧ y ≤ nI N - 1
  · rw [if_neg (not_not_intro hy), if_neg (not_not_intro hy)]
    by_cases hx : 1 ≤ x ∧ x ≤ 50
    · rw [if_neg (not_not_intro hx), if_neg (not_not_intro hx)]
      obtain ⟨j, hj, rfl⟩ := (coin_of (by omega)).mp hy
      have hl := rel_law h
      obtain ⟨B, hD, hb⟩ := rel_day h
      have hx0 : 0 ≤ x := by
        have h1 := hx.1
        have t0 : (0 : Int32).toInt = 0 := by decide
        have t4 : (1 : Int32).toInt = 1 := by decide
        rw [i32_le] at h1 ⊢
        omega
      obtain ⟨n, hn, rfl⟩ := nat_of 50 (by omega) rfl hx0 hx.2
      obtain ⟨hd, k1, k2⟩ := m_keep fu (by omega) (m := m) hM.1 hN
      rw [el, k1]
      simp only [Option.bind_some]
      obtain ⟨r, b', ho, g, pb, pa, s1, s2, s3, s4⟩ := runDay_b fu hfu (c := (c.1, c.2.1, c.2.2.1, rk, (0 : Int32), c.2.2.2.2.2.1, (f, c.2.2.2.2.2.2.1.2), c.2.2.2.2.2.2.2)) (m := wK m hd) (n := n) hM hl hR hD hb hn hB
      rw [s1, s2]
      obtain ⟨r0, hr0, er⟩ := rank_at hR j hj
      have hro : rk.2.2.2.1 j = nI r0 := by rw [← er]; exact hR.2.2.2.2.2.2.1 r0 hr0
      have hat := c_holderAt fu (by omega) (b := b') hN s4 hr0 (by rw [er]; exact s3 j hj)
      obtain ⟨ho2, q1, q2⟩ := m_back fu (by omega) (m := wR (wK m hd) ho g pb pa) hM.1 hN
      simp only [Option.bind_some, ck_in (show j < 40 by omega) (show 40 < 2 ^ 31 by omega), nI_clamp (show j < 2 ^ 31 by omega), lt_eq, hro, hat, q1]
      rw [er]
      exact ⟨_, _, _, rfl, rfl, rel_over h0 hM hR (c.2.2.2.2.2.1, b', c.2.2.2.2.2.2.2.1, c.2.2.2.2.2.2.2.2.1, c.2.2.2.2.2.2.2.2.2.1) (f := c.1.2.1.2.1) (ho := ho2) (fun i hi => by rw [q2 i hi]; exact ((hC.2.2.1 i hi).1).trans (k2 i hi).symm) (fun i hi => by rw [q2 i hi]; show 0 ≤ hd i ∧ hd i ≤ 7; rw [k2 i hi]; exact (hM.2.2 i hi).2.2.2.2) g pb (hd, m.2.2.2.2.2.2.1.2) (pa, m.2.2.2.2.2.2.2.1.2)⟩
    · rw [if_pos hx, if_pos hx]; exact ⟨_, _, _, rfl, rfl, h0⟩
  · rw [if_pos hy, if_pos hy]; exact ⟨_, _, _, rfl, rfl, h0⟩
