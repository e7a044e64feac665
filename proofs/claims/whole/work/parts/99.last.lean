-- ===== calls that look at little =====
theorem add2 (fu : Nat) {n N : Nat} (hN : N < n) (hn : n < 2 ^ 31) {cs : ZT_2} (h : cs.1 = nI N) (x1 x2 x3 x4 x5 : Int32) : rr_X2_add fu n x1 x2 x3 x4 x5 cs = some (nI (N + 1), upd cs.2.1 N x1, upd cs.2.2.1 N x2, upd cs.2.2.2.1 N x3, upd cs.2.2.2.2.1 N x4, upd cs.2.2.2.2.2 N x5) := by
  unfold rr_X2_add
  rw [h, if_pos (show nI N < Int32.ofNat n from nI_lt hN hn)]
  simp only [ck_in hN hn, nI_clamp (show N < 2 ^ 31 by omega), lt_eq, nI_1]
theorem add0 (fu : Nat) {n N : Nat} (hN : N < n) (hn : n < 2 ^ 31) {bs : ZT_0} (h : bs.1 = nI N) (x1 x2 x3 : Int32) : rr_X0_add fu n x1 x2 x3 bs = some (nI (N + 1), upd bs.2.1 N x1, upd bs.2.2.1 N x2, upd bs.2.2.2 N x3) := by
  unfold rr_X0_add
  rw [h, if_pos (show nI N < Int32.ofNat n from nI_lt hN hn)]
  simp only [ck_in hN hn, nI_clamp (show N < 2 ^ 31 by omega), lt_eq, nI_1]
theorem add10 (fu : Nat) {N : Nat} (hN : N < 40) {m : ZT_10} (h : m.1.2.2.2.2.2.1 = nI N) (x1 x2 x3 x4 x5 : Int32) : rr_X10_add fu x1 x2 x3 x4 x5 m = some ((upd m.1.1 N x2, upd m.1.2.1 N x3, upd m.1.2.2.1 N x4, upd m.1.2.2.2.1 N x5, upd m.1.2.2.2.2.1 N x1, nI (N + 1), m.1.2.2.2.2.2.2), m.2) := by
  unfold rr_X10_add
  rw [h]
  simp only [ck_in hN (by omega), nI_clamp (show N < 2 ^ 31 by omega), lt_eq, nI_1]
theorem upd_all {f g : Nat → Int32} {N : Nat} {v : Int32} (h : ∀ i, i < N → f i = g i) : ∀ i, i < N + 1 → upd f N v i = upd g N v i := by
  intro i hi
  by_cases he : i = N
  · subst he; rw [pk_us, pk_us]
  · rw [pk_un he, pk_un he]; exact h i (by omega)
theorem coinsR_add {cs : ZT_2} {wo ye st ki ho : Nat → Int32} {N : Nat} (hC : CoinsR cs wo ye st ki ho N) (hN : N < 40) {w y s k h : Int32} (ok : CoinOK w y s k h) : CoinsR (nI (N + 1), upd cs.2.1 N h, upd cs.2.2.1 N w, upd cs.2.2.2.1 N y, upd cs.2.2.2.2.1 N s, upd cs.2.2.2.2.2 N k) (upd wo N w) (upd ye N y) (upd st N s) (upd ki N k) (upd ho N h) (N + 1) := by
  refine ⟨rfl, by omega, fun i hi => ⟨?_, ?_, ?_, ?_, ?_⟩, fun i hi => ?_⟩
  · exact upd_all (fun i hi => (hC.2.2.1 i hi).1) i hi
  · exact upd_all (fun i hi => (hC.2.2.1 i hi).2.1) i hi
  · exact upd_all (fun i hi => (hC.2.2.1 i hi).2.2.1) i hi
  · exact upd_all (fun i hi => (hC.2.2.1 i hi).2.2.2.1) i hi
  · exact upd_all (fun i hi => (hC.2.2.1 i hi).2.2.2.2) i hi
  · by_cases he : i = N
    · subst he; simp only [pk_us]; exact ok
    · simp only [pk_un he]; exact hC.2.2.2 i (by omega)
theorem st_coin (fu : Nat) : St_coin fu Rel := by
  intro x1 x2 x3 x4 c m h
  unfold rr_X9_coin rr_X10_coin
  simp only [r9_within, r9_isHolder, r9_isYear, r9_isPurse, r9_isShop, r9_isSum, r9_isSheet, r9_isLane, r9_isCoin, r9_isBill, r10_isHolder, r10_isPurse, r10_isShop, r10_isSum, r10_isCoin, r10_isBill, r10_isSheet, in_1_99, in_0_99, in_0_3, in_0_4, in_1_50, in_0_5, in_m1_5, in_1_4, in_1_8, Option.bind_some, it_10, it_01, zk_b, zk_1, zk_0, lt_eq]
  have h0 := h
  obtain ⟨⟨N, E, B, hC, e1, e2, hl, hE, e3, hB, e4⟩, hI, hP, hS, hK⟩ := h
  have hN := hC.2.1
  by_cases h1 : 0 ≤ x1 ∧ x1 ≤ 7
  · rw [if_neg (not_not_intro h1), if_neg (not_not_intro h1)]
    by_cases h2 : 1 ≤ x2 ∧ x2 ≤ 99
    · rw [if_neg (not_not_intro h2), if_neg (not_not_intro h2)]
      by_cases h3 : 0 ≤ x3 ∧ x3 ≤ 99
      · rw [if_neg (not_not_intro h3), if_neg (not_not_intro h3)]
        by_cases h4 : 0 ≤ x4 ∧ x4 ≤ 3
        · rw [if_neg (not_not_intro h4), if_neg (not_not_intro h4)]
          by_cases h5 : N < 40
          · rw [if_pos (show c.1.2.1.1 < 40 by rw [hC.1]; exact nI_lt (b := 40) h5 (by omega)), if_neg (show ¬ m.1.2.2.2.2.2.1 = 40 by rw [e1]; intro e; have := (nI_eq (a := N) (b := 40) (by omega) (by omega)).mp e; omega)]
            rw [add2 fu h5 (by omega) hC.1, add10 fu h5 e1]
            simp only [Option.bind_some, nI_pred]
            refine ⟨_, _, _, rfl, rfl, ?_⟩
            exact ⟨⟨N + 1, E, B, coinsR_add hC h5 ⟨h2, h3, h3, h4, h1⟩, rfl, e2, hl, hE, e3, hB, e4⟩, hI, hP, hS, Or.inl rfl⟩
          · have : N = 40 := by omega
            subst this
            rw [if_neg (show ¬ c.1.2.1.1 < 40 by rw [hC.1]; decide), if_pos (show m.1.2.2.2.2.2.1 = 40 from e1)]
            exact ⟨_, _, _, rfl, rfl, h0⟩
        · rw [if_pos h4, if_pos h4]; exact ⟨_, _, _, rfl, rfl, h0⟩
      · rw [if_pos h3, if_pos h3]; exact ⟨_, _, _, rfl, rfl, h0⟩
    · rw [if_pos h2, if_pos h2]; exact ⟨_, _, _, rfl, rfl, h0⟩
  · rw [if_pos h1, if_pos h1]; exact ⟨_, _, _, rfl, rfl, h0⟩
theorem st_stamp (fu : Nat) : St_stamp fu Rel := by
  intro x y c m h
  unfold rr_X9_stamp rr_X10_stamp
  simp only [r9_within, r9_isHolder, r9_isYear, r9_isPurse, r9_isShop, r9_isSum, r9_isSheet, r9_isLane, r9_isCoin, r9_isBill, r10_isHolder, r10_isPurse, r10_isShop, r10_isSum, r10_isCoin, r10_isBill, r10_isSheet, in_1_99, in_0_99, in_0_3, in_0_4, in_1_50, in_0_5, in_m1_5, in_1_4, in_1_8, Option.bind_some, it_10, it_01, zk_b, zk_1, zk_0, lt_eq]
  have h0 := h
  obtain ⟨⟨N, E, B, hC, e1, e2, hl, hE, e3, hB, e4⟩, hI, hP, hS, hK⟩ := h
  rw [e1, hC.1]
  have hN := hC.2.1
  by_cases hx : 0 ≤ x ∧ x ≤ nI N - 1
  · rw [if_neg (not_not_intro hx), if_neg (not_not_intro hx)]
    by_cases hy : 0 ≤ y ∧ y ≤ 99
    · rw [if_neg (not_not_intro hy), if_neg (not_not_intro hy)]
      obtain ⟨j, hj, rfl⟩ := (coin_of (by omega)).mp hx
      simp only [ck_in (show j < 40 by omega) (by omega), nI_clamp (show j < 2 ^ 31 by omega)]
      rw [(hC.2.2.1 j hj).2.2.2.1]
      refine ⟨_, _, _, rfl, rfl, ?_⟩
      refine ⟨⟨N, E, B, ⟨rfl, hC.2.1, ?_, ?_⟩, e1, e2, hl, hE, e3, hB, e4⟩, hI, hP, hS, Or.inl rfl⟩
      · intro i hi
        have h1 := hC.2.2.1 i hi
        exact ⟨h1.1, h1.2.1, h1.2.2.1, upd_at (fun i hi => (hC.2.2.1 i hi).2.2.2.1) i hi, h1.2.2.2.2⟩
      · intro i hi
        have h1 := hC.2.2.2 i hi
        refine ⟨h1.1, h1.2.1, ?_, h1.2.2.2⟩
        show 0 ≤ upd _ _ _ _ ∧ upd _ _ _ _ ≤ 99
        by_cases he : i = j
        · subst he; rw [pk_us]; exact hy
        · rw [pk_un he]; exact h1.2.2.1
    · rw [if_pos hy, if_pos hy]
      exact ⟨_, _, _, rfl, rfl, h0⟩
  · rw [if_pos hx, if_pos hx]
    exact ⟨_, _, _, rfl, rfl, h0⟩
theorem st_errand (fu : Nat) : St_errand fu Rel := by
  intro x y c m h
  unfold rr_X9_errand rr_X10_errand
  simp only [r9_within, r9_isHolder, r9_isYear, r9_isPurse, r9_isShop, r9_isSum, r9_isSheet, r9_isLane, r9_isCoin, r9_isBill, r10_isHolder, r10_isPurse, r10_isShop, r10_isSum, r10_isCoin, r10_isBill, r10_isSheet, in_1_99, in_0_99, in_0_3, in_0_4, in_1_50, in_0_5, in_m1_5, in_1_4, in_1_8, Option.bind_some, it_10, it_01, zk_b, zk_1, zk_0, lt_eq]
  have h0 := h
  obtain ⟨⟨N, E, B, hC, e1, e2, hl, hE, e3, hB, e4⟩, hI, hP, hS, hK⟩ := h
  have hE6 := hE.2.1
  by_cases hx : 4 ≤ x ∧ x ≤ 7
  · rw [if_neg (not_not_intro hx), if_neg (not_not_intro hx)]
    by_cases hy : 1 ≤ y ∧ y ≤ 999
    · rw [if_neg (not_not_intro hy), if_neg (not_not_intro hy)]
      by_cases h5 : E < 6
      · rw [if_pos (show c.1.2.2.2.1 < 6 by rw [hE.1]; exact nI_lt (b := 6) h5 (by omega)), if_neg (show ¬ m.2.1.2.2 = 6 by rw [e3]; intro e; have := (nI_eq (a := E) (b := 6) (by omega) (by omega)).mp e; omega)]
        rw [add0 fu h5 (by omega) hE.1, e3]
        simp only [Option.bind_some, nI_pred, ck_in h5 (show 6 < 2 ^ 31 by omega), nI_clamp (show E < 2 ^ 31 by omega), nI_1]
        refine ⟨_, _, _, rfl, rfl, ?_⟩
        refine ⟨⟨N, E + 1, B, hC, e1, e2, hl, ⟨rfl, by omega, fun i hi => ⟨?_, ?_⟩, fun i hi => ?_⟩, rfl, hB, e4⟩, hI, hP, hS, hK⟩
        · exact upd_all (fun i hi => (hE.2.2.1 i hi).1) i hi
        · exact upd_all (fun i hi => (hE.2.2.1 i hi).2) i hi
        · show (4 ≤ upd _ _ _ _ ∧ upd _ _ _ _ ≤ 7) ∧ (1 ≤ upd _ _ _ _ ∧ upd _ _ _ _ ≤ 999)
          by_cases he : i = E
          · subst he; rw [pk_us, pk_us]; exact ⟨hx, hy⟩
          · rw [pk_un he, pk_un he]; exact hE.2.2.2 i (by omega)
      · have : E = 6 := by omega
        subst this
        rw [if_neg (show ¬ c.1.2.2.2.1 < 6 by rw [hE.1]; decide), if_pos (show m.2.1.2.2 = 6 from e3)]
        exact ⟨_, _, _, rfl, rfl, h0⟩
    · rw [if_pos hy, if_pos hy]; exact ⟨_, _, _, rfl, rfl, h0⟩
  · rw [if_pos hx, if_pos hx]; exact ⟨_, _, _, rfl, rfl, h0⟩
theorem st_told (fu : Nat) : St_told fu Rel := by
  intro x y c m h
  unfold rr_X9_told rr_X10_told
  simp only [r9_within, r9_isHolder, r9_isYear, r9_isPurse, r9_isShop, r9_isSum, r9_isSheet, r9_isLane, r9_isCoin, r9_isBill, r10_isHolder, r10_isPurse, r10_isShop, r10_isSum, r10_isCoin, r10_isBill, r10_isSheet, in_1_99, in_0_99, in_0_3, in_0_4, in_1_50, in_0_5, in_m1_5, in_1_4, in_1_8, Option.bind_some, it_10, it_01, zk_b, zk_1, zk_0, lt_eq]
  have h0 := h
  obtain ⟨⟨N, E, B, hC, e1, e2, hl, hE, e3, hB, e4⟩, hI, hP, hS, hK⟩ := h
  rw [e1, hC.1]
  have hN := hC.2.1
  by_cases hx : 0 ≤ x ∧ x ≤ nI N - 1
  · rw [if_neg (not_not_intro hx), if_neg (not_not_intro hx)]
    obtain ⟨j, hj, rfl⟩ := (coin_of (by omega)).mp hx
    simp only [ck_in (show j < 40 by omega) (by omega), nI_clamp (show j < 2 ^ 31 by omega)]
    have h1 := hC.2.2.1 j hj
    rw [h1.1, h1.2.1, h1.2.2.1, h1.2.2.2.1, h1.2.2.2.2]
    by_cases hy : 0 ≤ y ∧ y ≤ 4
    · rw [if_neg (not_not_intro hy)]
      obtain ⟨k, hk, rfl⟩ := nat_of 4 (by omega) rfl hy.1 hy.2
      rcases (show k = 0 ∨ k = 1 ∨ k = 2 ∨ k = 3 ∨ k = 4 by omega) with rfl | rfl | rfl | rfl | rfl
      · exact ⟨_, rfl, rfl, h0⟩
      · exact ⟨_, rfl, rfl, h0⟩
      · exact ⟨_, rfl, rfl, h0⟩
      · exact ⟨_, rfl, rfl, h0⟩
      · exact ⟨_, rfl, rfl, h0⟩
    · rw [if_pos hy]
      have n0 : ¬ y = 0 := fun e => hy (by rw [e]; decide)
      have n1 : ¬ y = 1 := fun e => hy (by rw [e]; decide)
      have n2 : ¬ y = 2 := fun e => hy (by rw [e]; decide)
      have n3 : ¬ y = 3 := fun e => hy (by rw [e]; decide)
      have n4 : ¬ y = 4 := fun e => hy (by rw [e]; decide)
      rw [if_neg n0, if_neg n1, if_neg n2, if_neg n3, if_neg n4]
      exact ⟨_, rfl, rfl, h0⟩
  · rw [if_pos hx, if_pos hx]
    exact ⟨_, rfl, rfl, h0⟩
