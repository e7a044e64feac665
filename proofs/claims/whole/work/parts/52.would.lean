-- ===== how many are in a set =====
theorem and_pred {x : Int64} {k : Nat} (hk : k < 64) (h1 : tb_ x k = true) (h2 : ∀ j, j < k → tb_ x j = false) : x &&& (x - 1) = x ^^^ bitL k := by
  have hb : ∀ j, tb_ x j = (x.toBitVec.toNat).testBit j := fun _ => rfl
  have hb' : ∀ j, tb_ (x - 1) j = ((x - 1).toBitVec.toNat).testBit j := fun _ => rfl
  have hlt : x.toBitVec.toNat < 2 ^ 64 := x.toBitVec.isLt
  generalize hn : x.toBitVec.toNat = n at hb hlt
  have hd : n / 2 ^ k % 2 = 1 := by
    rw [hb k, Nat.testBit_eq_decide_div_mod_eq] at h1
    exact of_decide_eq_true h1
  have hm : n % 2 ^ k = 0 := by
    apply Nat.eq_of_testBit_eq
    intro j
    rw [Nat.testBit_mod_two_pow, Nat.zero_testBit]
    by_cases c : j < k
    · rw [← hb j, h2 j c]; simp
    · simp [c]
  have hdm := Nat.div_add_mod n (2 ^ k)
  have hp : 0 < 2 ^ k := Nat.two_pow_pos k
  obtain ⟨q, hq⟩ : ∃ q, n / 2 ^ k = 2 * q + 1 := ⟨n / 2 ^ k / 2, by omega⟩
  rw [hm, hq, Nat.mul_add, Nat.mul_one, Nat.add_zero] at hdm
  have hn1 : (x - 1).toBitVec.toNat = n - 1 := by
    rw [Int64.toBitVec_sub, BitVec.toNat_sub, hn]
    have : (1 : Int64).toBitVec.toNat = 1 := by decide
    rw [this]
    omega
  have hdiv : (n - 1) / 2 ^ k = 2 * q := by
    have e : n - 1 = (2 ^ k - 1) + 2 ^ k * (2 * q) := by omega
    rw [e, Nat.add_mul_div_left _ _ hp, Nat.div_eq_of_lt (by omega), Nat.zero_add]
  apply tb_ext
  intro i hi
  rw [tb_and, tb_xor, tb_bit hk]
  rcases Nat.lt_trichotomy i k with c | c | c
  · rw [h2 i c]
    simp [show ¬ i = k by omega]
  · subst c
    rw [hb' i, hn1, Nat.testBit_eq_decide_div_mod_eq, hdiv, h1]
    have : ¬ 2 * q % 2 = 1 := by omega
    simp [this]
  · obtain ⟨j, rfl⟩ : ∃ j, i = k + (j + 1) := ⟨i - k - 1, by omega⟩
    have e : tb_ (x - 1) (k + (j + 1)) = tb_ x (k + (j + 1)) := by
      rw [hb', hb, hn1, Nat.testBit_eq_decide_div_mod_eq, Nat.testBit_eq_decide_div_mod_eq, Nat.pow_add, ← Nat.div_div_eq_div_mul, ← Nat.div_div_eq_div_mul, hdiv, hq, Nat.pow_succ, Nat.mul_comm (2 ^ j) 2, ← Nat.div_div_eq_div_mul, ← Nat.div_div_eq_div_mul, show 2 * q / 2 = q by omega, show (2 * q + 1) / 2 = q by omega]
    rw [e]
    simp [show ¬ k + (j + 1) = k by omega]
theorem ones_set (fu : Nat) : ∀ (L : List Nat) (k g : Nat) (S : Int64), SetL S L → L.Pairwise (fun x y => x < y) → (∀ r ∈ L, r < 64) → L.length < g → rr_X10_ones_4 fu g (nI k) S = some (nI (k + L.length)) := by
  intro L
  induction L with
  | nil =>
    intro k g S hS _ _ hg
    obtain ⟨g, rfl⟩ : ∃ q, g = q + 1 := ⟨g - 1, by simp at hg; omega⟩
    have e9 : rr_X10_ones_4 fu (g + 1) = rr_X10_ones_4_b fu (rr_X10_ones_4 fu g) := rfl
    rw [e9]
    unfold rr_X10_ones_4_b
    rw [if_pos (lc_eq.mpr (setL_nil hS))]
    rfl
  | cons a t ih =>
    intro k g S hS hs h64 hg
    rw [List.length_cons] at hg
    obtain ⟨g, rfl⟩ : ∃ q, g = q + 1 := ⟨g - 1, by omega⟩
    have e9 : rr_X10_ones_4 fu (g + 1) = rr_X10_ones_4_b fu (rr_X10_ones_4 fu g) := rfl
    rw [e9]
    unfold rr_X10_ones_4_b
    have ha := h64 a List.mem_cons_self
    have h1 : tb_ S a = true := by rw [hS a ha]; simp
    have h2 : ∀ j, j < a → tb_ S j = false := by
      intro j hj
      rw [hS j (by omega)]
      apply decide_eq_false
      intro hm
      rcases List.mem_cons.mp hm with e | e
      · omega
      · have := (List.pairwise_cons.mp hs).1 j e
        omega
    rw [if_neg (fun h => setL_ne hS ha (lc_eq.mp h)), lt_eq, lt_eq, nI_1, and_pred ha h1 h2]
    have h3 := ih (k + 1) g _ (setL_tail hS hs ha) (List.pairwise_cons.mp hs).2 (fun r hr => h64 r (List.mem_cons_of_mem _ hr)) (by omega)
    rw [h3, List.length_cons, show k + 1 + t.length = k + (t.length + 1) by omega]
theorem payL_subl {wo : Nat → Int32} {sum : Int32} : ∀ (L : List Nat) (w : Int32), (payL wo sum L w).1.Sublist L := by
  intro L
  induction L with
  | nil => intro w; exact List.Sublist.refl _
  | cons a t ih =>
    intro w
    by_cases e : sum ≤ w
    · rw [payL_z e]; exact List.nil_sublist _
    · rw [payL_s e]; exact (ih _).cons_cons a
theorem bkL_subl {wo : Nat → Int32} : ∀ (L : List Nat) (w : Int32), (bkL wo L w).1.Sublist L := by
  intro L
  induction L with
  | nil => intro w; exact List.Sublist.refl _
  | cons a t ih =>
    intro w
    by_cases e : w ≤ 0
    · rw [bkL_z e]; exact List.nil_sublist _
    · by_cases e2 : w < wo a
      · rw [bkL_s e e2]; exact (ih _).cons a
      · rw [bkL_g e e2]; exact (ih _).cons_cons a
theorem row_nodup {m : ZT_10} {N : Nat} (hN : N ≤ 40) {by_ h : Int32} : (rowM m by_ h N).Nodup := srt_nodup (K := keyM m by_) (rowUp_srt (M := 64) (fun a b ha hb e => keyF_inj ha hb e) N (by omega))
theorem len_model (fu : Nat) (hfu : 100 ≤ fu) {L : List Nat} (hn : L.Nodup) (h64 : ∀ c ∈ L, c < 64) : rr_X10_ones fu (orB L 0) = some (nI L.length) := by
  have hS : SetL (orB L 0) ((List.range 64).filter (fun r => decide (r ∈ L))) := by
    intro r hr
    rw [tb_orB L 0 r h64, tb_0, Bool.false_or]
    apply decide_eq_decide.mpr
    rw [List.mem_filter, List.mem_range]
    exact ⟨fun h => ⟨hr, decide_eq_true h⟩, fun h => of_decide_eq_true h.2⟩
  have hasc := range_asc 64 (fun r => decide (r ∈ L))
  have hperm : ((List.range 64).filter (fun r => decide (r ∈ L))).Perm L := by
    refine (List.perm_ext_iff_of_nodup (by rw [List.nodup_iff_pairwise_ne]; exact hasc.imp (fun hab e => by omega)) hn).mpr (fun c => ?_)
    rw [List.mem_filter, List.mem_range]
    exact ⟨fun h => of_decide_eq_true h.2, fun h => ⟨h64 c h, decide_eq_true h⟩⟩
  have hle : ((List.range 64).filter (fun r => decide (r ∈ L))).length ≤ 64 := by
    have := List.length_filter_le (fun r => decide (r ∈ L)) (List.range 64)
    rw [List.length_range] at this
    exact this
  have h1 := ones_set fu _ 0 fu (orB L 0) hS hasc (fun r hr => List.mem_range.mp (List.mem_filter.mp hr).1) (by omega)
  rw [Nat.zero_add, hperm.length_eq] at h1
  exact h1
theorem len_class (fu : Nat) {rk : ZT_4} {K : Nat → Int} {wo : Nat → Int32} {law : Int32} {N : Nat} {l : List Nat} (hN : N ≤ 40) (hR : RankOK rk K wo law N l) {S : Int64} {L : List Nat} (hS : SetC S N l L) (hn : L.Nodup) (hL : ∀ c ∈ L, c < N) : rr_J13_bitCount_95d88 fu S = some (nI L.length) := by
  rw [count_set fu (show N ≤ 64 by omega) (fun r => l.getD r 0 ∈ L) hS]
  have hperm : (((List.range N).filter (fun r => decide (l.getD r 0 ∈ L))).map (fun r => l.getD r 0)).Perm L := by
    refine (List.perm_ext_iff_of_nodup ?_ hn).mpr (fun c => ?_)
    · rw [List.nodup_iff_pairwise_ne, List.pairwise_map]
      refine List.Pairwise.imp_of_mem ?_ (range_asc N (fun r => decide (l.getD r 0 ∈ L)))
      intro a b ha hb hab e
      have := rank_nd hR a b (List.mem_range.mp (List.mem_filter.mp ha).1) (List.mem_range.mp (List.mem_filter.mp hb).1) e
      omega
    · rw [List.mem_map]
      constructor
      · rintro ⟨r, hr, rfl⟩
        exact of_decide_eq_true (List.mem_filter.mp hr).2
      · intro hc
        obtain ⟨r, hr, e⟩ := rank_at hR c (hL c hc)
        exact ⟨r, List.mem_filter.mpr ⟨List.mem_range.mpr hr, decide_eq_true (by rw [e]; exact hc)⟩, e⟩
  have := hperm.length_eq
  rw [List.length_map] at this
  rw [this]
theorem st_would (fu : Nat) (hfu : 100 ≤ fu) : St_would fu Rel := by
  intro x y z w c m h
  unfold rr_X9_would rr_X10_would
  simp only [r9_within, r9_isHolder, r9_isYear, r9_isPurse, r9_isShop, r9_isSum, r9_isSheet, r9_isLane, r9_isCoin, r9_isBill, r10_isHolder, r10_isPurse, r10_isShop, r10_isSum, r10_isCoin, r10_isBill, r10_isSheet, in_1_99, in_0_99, in_0_3, in_0_4, in_1_50, in_0_5, in_m1_5, in_1_4, in_1_8, Option.bind_some, it_10, it_01, zk_b, zk_1, zk_0, lt_eq]
  have h0 := h
  by_cases hx : (0 ≤ x ∧ x ≤ 3) ∧ (4 ≤ y ∧ y ≤ 7) ∧ (1 ≤ z ∧ z ≤ 999)
  · rw [if_neg (not_not_intro hx), if_neg (not_not_intro hx)]
    by_cases hw : 0 ≤ w ∧ w ≤ 3
    · rw [if_neg (not_not_intro hw), if_neg (not_not_intro hw)]
      obtain ⟨rk, f, N, l, el, hM, hR, hB, hC⟩ := r9_layOut fu hfu h
      have hl := rel_law h
      have hN := hM.2.1
      rw [el]
      simp only [Option.bind_some]
      obtain ⟨p, hp3, rfl⟩ := nat_of 3 (by omega) rfl hx.1.1 hx.1.2
      obtain ⟨s, hs4, hs8, rfl⟩ := shop_of hx.2.1
      obtain ⟨g, e⟩ := m_findBill fu hfu hM hl (nI p) (nI s) z
      obtain ⟨c1, c2⟩ := c_meets fu hfu hM hl hR (b := (f, c.2.2.2.2.2.2.1.2)) hB (show p < 4 by omega) hs4 hs8 z
      have hrel : ∀ b' pb, Rel (c.1, c.2.1, c.2.2.1, rk, (0 : Int32), c.2.2.2.2.2.1, b', c.2.2.2.2.2.2.2) (wB m m.1.2.2.2.2.1 g pb) := fun b' pb => rel_over h0 hM hR (c.2.2.2.2.2.1, b', c.2.2.2.2.2.2.2.1, c.2.2.2.2.2.2.2.2.1, c.2.2.2.2.2.2.2.2.2.1) (f := c.1.2.1.2.1) (fun i hi => (hC.2.2.1 i hi).1) (fun i hi => (hM.2.2 i hi).2.2.2.2) g pb m.2.2.2.2.2.2.1 m.2.2.2.2.2.2.2.1
      by_cases cc : z ≤ (pyM m N (nI p) z).2
      · rw [if_pos cc] at e
        obtain ⟨b', d1, d2, d3, d4, d5, d6⟩ := c1 cc
        rw [d1, e]
        simp only [Option.bind_some]
        rw [if_neg (show ¬ (1 : Int32) = 0 by decide), if_neg (show ¬ (1 : Int32) = 0 by decide)]
        have n1 : (pyM m N (nI p) z).1.Nodup := (payL_subl _ _).nodup (row_nodup hN)
        have n2 : (bkM m N (nI p) (nI s) z).1.Nodup := (bkL_subl _ _).nodup (row_nodup hN)
        have l1 : ∀ c ∈ (pyM m N (nI p) z).1, c < N := fun c hc => (pyM_lt c hc).1
        have l2 : ∀ c ∈ (bkM m N (nI p) (nI s) z).1, c < N := fun c hc => (bkM_lt c hc).1
        rcases lawCases hw with rfl | rfl | rfl | rfl
        · rw [if_pos rfl, if_pos rfl, len_class fu hN hR d3 n1 l1, len_model fu hfu n1 (fun c hc => by have := l1 c hc; omega)]
          exact ⟨_, _, _, rfl, rfl, hrel _ _⟩
        · rw [if_neg (show ¬ (1 : Int32) = 0 by decide), if_pos rfl, if_neg (show ¬ (1 : Int32) = 0 by decide), if_pos rfl]
          refine ⟨(pyM m N (nI p) z).2, _, _, ?_, rfl, hrel b' _⟩
          rw [d5, Int32.add_comm, Int32.sub_add_cancel]
        · rw [if_neg (show ¬ (2 : Int32) = 0 by decide), if_neg (show ¬ (2 : Int32) = 1 by decide), if_pos rfl, if_neg (show ¬ (2 : Int32) = 0 by decide), if_neg (show ¬ (2 : Int32) = 1 by decide), if_pos rfl, len_class fu hN hR d4 n2 l2, len_model fu hfu n2 (fun c hc => by have := l2 c hc; omega)]
          exact ⟨_, _, _, rfl, rfl, hrel _ _⟩
        · rw [if_neg (show ¬ (3 : Int32) = 0 by decide), if_neg (show ¬ (3 : Int32) = 1 by decide), if_neg (show ¬ (3 : Int32) = 2 by decide), if_neg (show ¬ (3 : Int32) = 0 by decide), if_neg (show ¬ (3 : Int32) = 1 by decide), if_neg (show ¬ (3 : Int32) = 2 by decide)]
          refine ⟨(bkM m N (nI p) (nI s) z).2, _, _, ?_, rfl, hrel b' _⟩
          rw [d6]
      · rw [if_neg cc] at e
        obtain ⟨b', d1, d2⟩ := c2 cc
        rw [d1, e]
        simp only [Option.bind_some]
        rw [if_pos trivial, if_pos trivial]
        exact ⟨_, _, _, rfl, rfl, hrel _ _⟩
    · rw [if_pos hw, if_pos hw]; exact ⟨_, _, _, rfl, rfl, h0⟩
  · rw [if_pos hx, if_pos hx]; exact ⟨_, _, _, rfl, rfl, h0⟩
