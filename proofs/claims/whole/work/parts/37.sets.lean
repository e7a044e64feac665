-- ===== sets by rank and rows of coins =====
def cntB (f : Nat → Bool) : Nat → Nat
  | 0 => 0
  | n + 1 => cntB f n + (if f n then 1 else 0)
theorem tb_div (x : Int64) (j : Nat) : (if tb_ x j then 1 else 0) = U_ x / 2 ^ j % 2 := by
  have e : tb_ x j = (U_ x).testBit j := rfl
  rw [e, Nat.testBit_eq_decide_div_mod_eq]
  by_cases h : U_ x / 2 ^ j % 2 = 1
  · rw [h]; rfl
  · have : U_ x / 2 ^ j % 2 = 0 := by omega
    rw [this]; rfl
theorem cnt_sum (x : Int64) : ∀ k, sumN (fun i => pc4 (U_ x / 2 ^ (4 * i) % 2 ^ 4)) k = cntB (tb_ x) (4 * k) := by
  intro k
  induction k with
  | zero => rfl
  | succ k ih =>
    show sumN _ k + pc4 (U_ x / 2 ^ (4 * k) % 2 ^ 4) = cntB (tb_ x) (4 * k) + (if tb_ x (4 * k) then 1 else 0) + (if tb_ x (4 * k + 1) then 1 else 0) + (if tb_ x (4 * k + 2) then 1 else 0) + (if tb_ x (4 * k + 3) then 1 else 0)
    rw [ih, tb_div, tb_div, tb_div, tb_div, Nat.pow_add, Nat.pow_add, Nat.pow_add, ← Nat.div_div_eq_div_mul, ← Nat.div_div_eq_div_mul, ← Nat.div_div_eq_div_mul]
    generalize U_ x / 2 ^ (4 * k) = V
    unfold pc4
    omega
theorem cnt_filter (f : Nat → Bool) : ∀ n, cntB f n = ((List.range n).filter f).length := by
  intro n
  induction n with
  | zero => rfl
  | succ n ih =>
    show cntB f n + (if f n then 1 else 0) = _
    rw [List.range_succ, List.filter_append, List.length_append, ← ih]
    congr 1
    by_cases h : f n = true
    · rw [if_pos h]; simp [h]
    · rw [if_neg h]; simp [h]
theorem filter_cut {N : Nat} (P : Nat → Prop) [DecidablePred P] : ∀ t, (List.range (N + t)).filter (fun r => decide (r < N ∧ P r)) = (List.range N).filter (fun r => decide (P r)) := by
  intro t
  induction t with
  | zero =>
    rw [Nat.add_zero]
    apply List.filter_congr
    intro r hr
    have := List.mem_range.mp hr
    simp [this]
  | succ t ih =>
    rw [← Nat.add_assoc, List.range_succ, List.filter_append, ih]
    have : ¬ N + t < N := by omega
    simp [this]
/-- how many bits a set by rank has -/
theorem count_set (fu : Nat) {S : Int64} {N : Nat} (hN : N ≤ 64) (P : Nat → Prop) [DecidablePred P] (h : ∀ r, r < 64 → tb_ S r = decide (r < N ∧ P r)) : rr_J13_bitCount_95d88 fu S = some (nI ((List.range N).filter (fun r => decide (P r))).length) := by
  rw [r13_bitCount, cnt_sum, cnt_filter]
  congr 3
  obtain ⟨t, ht⟩ : ∃ t, 64 = N + t := ⟨64 - N, by omega⟩
  have e : (List.range (4 * 16)).filter (tb_ S) = (List.range 64).filter (fun r => decide (r < N ∧ P r)) := List.filter_congr (fun r hr => h r (List.mem_range.mp hr))
  rw [e, ht, filter_cut]
/-- the ranks of a holder's coins, mapped to the coins, are its row -/
theorem row_ranks {m : ZT_10} {N : Nat} (hM : MOK m N) {rk : ZT_4} {law : Int32} {l : List Nat} (hR : RankOK rk (keyM m law) m.1.1 law N l) (h : Int32) : ((List.range N).filter (fun r => decide (m.1.2.2.2.2.1 (l.getD r 0) = h))).map (fun r => l.getD r 0) = rowM m law h N := by
  obtain ⟨h1, h2, h3, h4⟩ := hR
  have hN := hM.2.1
  refine srt_uniq (K := keyM m law) ?_ (rowUp_srt (M := 64) (fun a b ha hb e => keyF_inj ha hb e) N (by omega)) (fun c => ?_)
  · show List.Pairwise _ _
    rw [List.pairwise_map]
    refine List.Pairwise.filter _ ?_
    rw [List.pairwise_iff_getElem]
    intro i j hi hj hij
    rw [List.length_range] at hi hj
    rw [List.getElem_range, List.getElem_range]
    exact srt_getD h3 hij (by omega)
  · rw [rowUp_mem, List.mem_map]
    constructor
    · rintro ⟨r, hr, rfl⟩
      rw [List.mem_filter, List.mem_range] at hr
      refine ⟨?_, of_decide_eq_true hr.2⟩
      rw [getD_eq (by omega)]
      exact (h2 _).mp (List.getElem_mem _)
    · rintro ⟨hc, hp⟩
      obtain ⟨r, hr, e⟩ := List.getElem_of_mem ((h2 c).mpr hc)
      have e' : l.getD r 0 = c := by rw [getD_eq hr]; exact e
      exact ⟨r, List.mem_filter.mpr ⟨List.mem_range.mpr (by omega), decide_eq_true (by rw [e']; exact hp)⟩, e'⟩
