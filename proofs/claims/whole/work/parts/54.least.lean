-- ===== least =====
abbrev wT (c : ZT_9) (t : ZT_1) : ZT_9 := (c.1, c.2.1, c.2.2.1, c.2.2.2.1, c.2.2.2.2.1, c.2.2.2.2.2.1, c.2.2.2.2.2.2.1, t, c.2.2.2.2.2.2.2.2)
theorem ls57 (fu : Nat) (hfu : 100 ≤ fu) {c : ZT_9} {m : ZT_10} {N : Nat} {l : List Nat} (hM : MOK m N) (hl : LawOK m) (hR : RankOK c.2.2.2.1 (keyM m m.1.2.2.2.2.2.2) m.1.1 m.1.2.2.2.2.2.2 N l) (hB : BoardOK c.2.2.2.2.2.2.1.1 m.1.2.2.2.2.1 N l) (hh : ∀ i, i < N → m.2.2.2.2.2.2.1.1 i = m.1.2.2.2.2.1 i) {x1 x2 x3 x4 : Int32} (h1 : 0 ≤ x1 ∧ x1 ≤ 3) (h2 : 4 ≤ x2 ∧ x2 ≤ 7) (h3 : 4 ≤ x3 ∧ x3 ≤ 7) : ∀ (d k n n' : Nat) (t : ZT_1) (ho : Nat → Int32) (g : (Nat → Int32) × Int32) (pb : Int64 × Int64 × Int32 × Int32 × Int32), k + d = 100 → d < n → d < n' → (∀ i, i < N → ho i = m.1.2.2.2.2.1 i) → ∃ (r : Int32) (t' : ZT_1) (ho' : Nat → Int32) (g' : (Nat → Int32) × Int32) (pb' : Int64 × Int64 × Int32 × Int32 × Int32), rr_X9_least_57 fu n x1 x2 x3 x4 (nI k) (wT c t) = some (r, wT c t') ∧ rr_X10_least_39 fu n' x1 x2 x3 x4 (nI k) (wB m ho g pb) = some (r, wB m ho' g' pb') ∧ ∀ i, i < N → ho' i = m.1.2.2.2.2.1 i := by
  have hN := hM.2.1
  intro d
  induction d with
  | zero =>
    intro k n n' t ho g pb hk hn hn' hho
    obtain ⟨n, rfl⟩ : ∃ q, n = q + 1 := ⟨n - 1, by omega⟩
    obtain ⟨n', rfl⟩ : ∃ q, n' = q + 1 := ⟨n' - 1, by omega⟩
    have : k = 100 := by omega
    subst this
    have e9 : rr_X9_least_57 fu (n + 1) = rr_X9_least_57_b fu (rr_X9_least_57 fu n) := rfl
    have e8 : rr_X10_least_39 fu (n' + 1) = rr_X10_least_39_b fu (rr_X10_least_39 fu n') := rfl
    rw [e9, e8]
    unfold rr_X9_least_57_b rr_X10_least_39_b
    rw [if_pos (show (99 : Int32) < nI 100 by decide), if_pos (show (100 : Int32) ≤ nI 100 by decide)]
    exact ⟨_, _, _, _, _, rfl, rfl, hho⟩
  | succ d ih =>
    intro k n n' t ho g pb hk hn hn' hho
    obtain ⟨n, rfl⟩ : ∃ q, n = q + 1 := ⟨n - 1, by omega⟩
    obtain ⟨n', rfl⟩ : ∃ q, n' = q + 1 := ⟨n' - 1, by omega⟩
    have e9 : rr_X9_least_57 fu (n + 1) = rr_X9_least_57_b fu (rr_X9_least_57 fu n) := rfl
    have e8 : rr_X10_least_39 fu (n' + 1) = rr_X10_least_39_b fu (rr_X10_least_39 fu n') := rfl
    rw [e9, e8]
    unfold rr_X9_least_57_b rr_X10_least_39_b
    rw [if_neg (show ¬ (99 : Int32) < nI k from nI_nlt (a := 99) (by omega) (by omega)), if_neg (show ¬ (100 : Int32) ≤ nI k from nI_ge (b := 100) (by omega) (by omega))]
    obtain ⟨f, ec, hf⟩ := c_copy fu hfu t c.2.2.2.2.2.2.1
    have h7 : ∀ i, i < N → 0 ≤ ho i ∧ ho i ≤ 7 := fun i hi => by rw [hho i hi]; exact (hM.2.2 i hi).2.2.2.2
    have hM1 : MOK (wB m ho g pb) N := mok_ho hM ⟨rfl, rfl, rfl, rfl, rfl⟩ h7
    have hB1 : BoardOK f ho N l := board_congr (rank_lt hR) hB hf hho
    have hback : ∀ (ho1 : Nat → Int32) (g1 : (Nat → Int32) × Int32) (pb1 : Int64 × Int64 × Int32 × Int32 × Int32), ∃ ho2 : Nat → Int32, rr_X10_bringBack fu (wB m ho1 g1 pb1) = some (wB m ho2 g1 pb1) ∧ ∀ i, i < N → ho2 i = m.1.2.2.2.2.1 i := by
      intro ho1 g1 pb1
      obtain ⟨ho2, b1, b2⟩ := m_back fu hfu (m := wB m ho1 g1 pb1) hM.1 hN
      exact ⟨ho2, b1, fun i hi => (b2 i hi).trans (hh i hi)⟩
    have ec' : rr_X1_copyFrom fu (wT c t).2.2.2.2.2.2.2.1 (wT c t).2.2.2.2.2.2.1 = some (f, t.2) := ec
    rw [ec', Option.bind_some]
    rcases bill_both fu hfu hM1 hl hR (b := (f, t.2)) hB1 (sum := nI k) h1 h2 with ⟨ho1, g1, pb1, b1, d1, d2, d3, d4, _⟩ | ⟨g1, pb1, b1, d1, d2, d3⟩
    · have d1' : rr_X1_meets fu x1 x2 (nI k) (f, t.2) (wT c t).2.2.2.1 = some ((1 : Int32), b1) := d1
      have d2' : rr_X10_doBill fu x1 x2 (nI k) (wB m ho g pb) = some ((1 : Int32), wB m ho1 g1 pb1) := d2
      rw [d1', d2', Option.bind_some, Option.bind_some, if_neg (show ¬ (1 : Int32) = 0 by decide), if_neg (show ¬ (1 : Int32) = 0 by decide)]
      have hM2 : MOK (wB m ho1 g1 pb1) N := mok_ho hM ⟨rfl, rfl, rfl, rfl, rfl⟩ d3
      obtain ⟨r, b2, g2, pb2, hr, f1, f2⟩ := even_both fu hfu hM2 hl hR (b := b1) d4 (sum := x4) h1 h3
      have f1' : rr_X1_meetsEvenly fu x1 x3 x4 ((1 : Int32), b1).2 (wT c t).2.2.2.1 = some (r, b2) := f1
      have f2' : rr_X10_isEven fu x1 x3 x4 ((1 : Int32), wB m ho1 g1 pb1).2 = some (r, wB m ho1 g2 pb2) := f2
      rw [f1', f2', Option.bind_some, Option.bind_some]
      obtain ⟨ho2, q1, q2⟩ := hback ho1 g2 pb2
      rcases hr with rfl | rfl
      · rw [if_pos rfl, if_pos rfl]
        unfold rr_X10_least_72 rr_X10_least_73 rr_X9_least_114
        have q1' : rr_X10_bringBack fu ((0 : Int32), wB m ho1 g2 pb2).2 = some (wB m ho2 g2 pb2) := q1
        rw [q1', Option.bind_some, if_pos rfl]
        simp only [lt_eq, nI_1]
        exact ih (k + 1) n n' b2 ho2 g2 pb2 (by omega) (by omega) (by omega) q2
      · rw [if_neg (show ¬ (1 : Int32) = 0 by decide), if_neg (show ¬ (1 : Int32) = 0 by decide)]
        unfold rr_X10_least_73
        have q1' : rr_X10_bringBack fu ((1 : Int32), wB m ho1 g2 pb2).2 = some (wB m ho2 g2 pb2) := q1
        rw [q1', Option.bind_some, if_neg (show ¬ (1 : Int32) = 0 by decide)]
        exact ⟨nI k, b2, ho2, g2, pb2, rfl, rfl, q2⟩
    · have d1' : rr_X1_meets fu x1 x2 (nI k) (f, t.2) (wT c t).2.2.2.1 = some ((0 : Int32), b1) := d1
      have d2' : rr_X10_doBill fu x1 x2 (nI k) (wB m ho g pb) = some ((0 : Int32), wB m ho g1 pb1) := d2
      rw [d1', d2', Option.bind_some, Option.bind_some, if_pos rfl, if_pos rfl]
      obtain ⟨ho2, q1, q2⟩ := hback ho g1 pb1
      unfold rr_X10_least_72 rr_X10_least_73 rr_X9_least_114
      have q1' : rr_X10_bringBack fu ((0 : Int32), wB m ho g1 pb1).2 = some (wB m ho2 g1 pb1) := q1
      rw [q1', Option.bind_some, if_pos rfl]
      simp only [lt_eq, nI_1]
      exact ih (k + 1) n n' b1 ho2 g1 pb1 (by omega) (by omega) (by omega) q2
theorem st_least (fu : Nat) (hfu : 200 ≤ fu) : St_least fu Rel := by
  intro x y z w c m h
  unfold rr_X9_least rr_X10_least
  simp only [r9_within, r9_isHolder, r9_isYear, r9_isPurse, r9_isShop, r9_isSum, r9_isSheet, r9_isLane, r9_isCoin, r9_isBill, r10_isHolder, r10_isPurse, r10_isShop, r10_isSum, r10_isCoin, r10_isBill, r10_isSheet, in_1_99, in_0_99, in_0_3, in_0_4, in_1_50, in_0_5, in_m1_5, in_1_4, in_1_8, Option.bind_some, it_10, it_01, zk_b, zk_1, zk_0, lt_eq]
  have h0 := h
  have hfu1 : 100 ≤ fu := by omega
  by_cases hx : (0 ≤ x ∧ x ≤ 3) ∧ (4 ≤ z ∧ z ≤ 7) ∧ (1 ≤ w ∧ w ≤ 999)
  · by_cases hy : 4 ≤ y ∧ y ≤ 7
    · rw [if_neg (not_not_intro hx), if_neg (not_not_intro hy), if_neg (not_not_intro ⟨hx.1, hy, hx.2.2⟩), if_neg (not_not_intro hx.2.1)]
      obtain ⟨rk, f, N, l, el, hM, hR, hB, hC⟩ := r9_layOut fu hfu1 h
      have hl := rel_law h
      have hN := hM.2.1
      rw [el]
      simp only [Option.bind_some]
      obtain ⟨f2, ec, hf2⟩ := c_copy fu hfu1 c.2.2.2.2.2.2.2.1 (f, c.2.2.2.2.2.2.1.2)
      rw [ec]
      simp only [Option.bind_some]
      have hB1 : BoardOK f2 m.1.2.2.2.2.1 N l := board_congr (rank_lt hR) hB hf2 (fun _ _ => rfl)
      obtain ⟨r, b2, g2, pb2, hr, q1, q2⟩ := even_both fu hfu1 hM hl hR (b := (f2, c.2.2.2.2.2.2.2.1.2)) hB1 (sum := w) hx.1 hx.2.1
      rw [q1, q2]
      simp only [Option.bind_some]
      have hrel : ∀ (ho : Nat → Int32) (g : (Nat → Int32) × Int32) pb hb t, (∀ i, i < N → ho i = m.1.2.2.2.2.1 i) → Rel (c.1, c.2.1, c.2.2.1, rk, (0 : Int32), c.2.2.2.2.2.1, (f, c.2.2.2.2.2.2.1.2), t, c.2.2.2.2.2.2.2.2) (wC m ho g pb hb m.2.2.2.2.2.2.2.1) := fun ho g pb hb t hho => rel_over h0 hM hR (c.2.2.2.2.2.1, (f, c.2.2.2.2.2.2.1.2), t, c.2.2.2.2.2.2.2.2.1, c.2.2.2.2.2.2.2.2.2.1) (f := c.1.2.1.2.1) (fun i hi => by rw [hho i hi]; exact (hC.2.2.1 i hi).1) (fun i hi => by rw [hho i hi]; exact (hM.2.2 i hi).2.2.2.2) g pb hb m.2.2.2.2.2.2.2.1
      rcases hr with rfl | rfl
      · rw [if_pos rfl, if_pos rfl]
        obtain ⟨hd, k1, k2⟩ := m_keep fu hfu1 (m := wB m m.1.2.2.2.2.1 g2 pb2) hM.1 hN
        rw [k1]
        simp only [Option.bind_some]
        obtain ⟨r, t', ho', g', pb', a1, a2, a3⟩ := ls57 fu hfu1 (c := (c.1, c.2.1, c.2.2.1, rk, (0 : Int32), c.2.2.2.2.2.1, (f, c.2.2.2.2.2.2.1.2), c.2.2.2.2.2.2.2)) (m := wK (wB m m.1.2.2.2.2.1 g2 pb2) hd) (x4 := w) hM hl hR hB k2 hx.1 hy hx.2.1 99 1 fu fu b2 m.1.2.2.2.2.1 g2 pb2 (by omega) (by omega) (by omega) (fun _ _ => rfl)
        exact ⟨r, _, _, a1, a2, hrel ho' g' pb' _ t' a3⟩
      · rw [if_neg (show ¬ (1 : Int32) = 0 by decide), if_neg (show ¬ (1 : Int32) = 0 by decide)]
        exact ⟨_, _, _, rfl, rfl, hrel _ g2 pb2 m.2.2.2.2.2.2.1 b2 (fun _ _ => rfl)⟩
    · rw [if_neg (not_not_intro hx), if_pos hy, if_pos (fun e => hy e.2.1)]; exact ⟨_, _, _, rfl, rfl, h0⟩
  · rw [if_pos hx]
    by_cases hx2 : (0 ≤ x ∧ x ≤ 3) ∧ (4 ≤ y ∧ y ≤ 7) ∧ (1 ≤ w ∧ w ≤ 999)
    · rw [if_neg (not_not_intro hx2), if_pos (fun e => hx ⟨hx2.1, e, hx2.2.2⟩)]; exact ⟨_, _, _, rfl, rfl, h0⟩
    · rw [if_pos hx2]; exact ⟨_, _, _, rfl, rfl, h0⟩
