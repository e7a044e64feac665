-- ===== even =====
def evE (i n : Int32) : Int32 := if i = -1 then n else -4
def evS (wo : Nat → Int32) (i : Int32) : List Nat → Int32 → Int32 → Int32
  | [], _, n => evE i n
  | c :: t, s, n => if s + wo c ≤ 999 then (if n = i then s + wo c else evS wo i t (s + wo c) (n + 1)) else evE i n
theorem evE_alt {i : Int32} (hi : -1 ≤ i) (n : Int32) (u : ZT_10) : (if (0 : Int32) ≤ i then some ((-4 : Int32), u) else some (n, u)) = some (evE i n, u) := by
  unfold evE
  have t1 : (-1 : Int32).toInt = -1 := by decide
  have t0 : (0 : Int32).toInt = 0 := by decide
  by_cases h : (0 : Int32) ≤ i
  · rw [if_pos h, if_neg]
    intro e
    rw [e] at h
    exact absurd h (by decide)
  · rw [if_neg h, if_pos]
    rw [i32_le, t1] at hi
    rw [i32_le, t0] at h
    rw [i32_eq, t1]
    omega
theorem ev37 (fu : Nat) {N : Nat} (hN : N ≤ 40) {wo : Nat → Int32} {l : List Nat} {u : ZT_9} (hw : ∀ r, r < N → u.2.2.2.1.2.2.1 r = wo (l.getD r 0)) (i : Int32) : ∀ (t : List Nat) (k g : Nat) (S : Int64) (s n : Int32), k + t.length ≤ 40 → t.length < g → SetL S t → t.Pairwise (fun x y => x < y) → (∀ r ∈ t, r < N) → rr_X9_even_37 fu g i S s n (nI k) u = some (evS wo i (t.map (fun r => l.getD r 0)) s n, u) := by
  intro t
  induction t with
  | nil =>
    intro k g S s n hk hg hS hs hr
    obtain ⟨g, rfl⟩ : ∃ q, g = q + 1 := ⟨g - 1, by simp at hg; omega⟩
    have e9 : rr_X9_even_37 fu (g + 1) = rr_X9_even_37_b fu (rr_X9_even_37 fu g) := rfl
    rw [e9]
    unfold rr_X9_even_37_b rr_X9_even_111
    have hz := setL_nil hS
    have e : (if i = (-1 : Int32) then some (n, u) else some ((-4 : Int32), u)) = some (evE i n, u) := by
      unfold evE
      by_cases h : i = -1
      · rw [if_pos h, if_pos h]
      · rw [if_neg h, if_neg h]
    rw [if_pos (lc_eq.mpr hz), e]
    show (if _ then _ else _) = some (evE i n, u)
    split <;> rfl
  | cons a t ih =>
    intro k g S s n hk hg hS hs hr
    rw [List.length_cons] at hk hg
    obtain ⟨g, rfl⟩ : ∃ q, g = q + 1 := ⟨g - 1, by omega⟩
    have e9 : rr_X9_even_37 fu (g + 1) = rr_X9_even_37_b fu (rr_X9_even_37 fu g) := rfl
    rw [e9]
    unfold rr_X9_even_37_b rr_X9_even_111
    have haN := hr a List.mem_cons_self
    have ha : a < 64 := by omega
    have e : (if i = (-1 : Int32) then some (n, u) else some ((-4 : Int32), u)) = some (evE i n, u) := by
      unfold evE
      by_cases h : i = -1
      · rw [if_pos h, if_pos h]
      · rw [if_neg h, if_neg h]
    rw [if_neg (show ¬ (40 : Int32) ≤ nI k from nI_ge (b := 40) (by omega) (by omega)), if_neg (fun h => setL_ne hS ha (lc_eq.mp h)), setL_next fu hS hs ha, Option.bind_some, lt_eq, ck_in ha (by omega)]
    simp only [nI_clamp (show a < 2 ^ 31 by omega), hw a haN, lt_eq, nI_1, e]
    show _ = some (if s + wo (l.getD a 0) ≤ 999 then _ else _, u)
    by_cases h1 : s + wo (l.getD a 0) ≤ 999
    · rw [if_pos h1, if_pos h1]
      by_cases h2 : n = i
      · rw [if_pos h2, if_pos h2]
      · rw [if_neg h2, if_neg h2]
        exact ih (k + 1) g _ _ _ (by omega) (by omega) (setL_tail hS hs ha) (List.pairwise_cons.mp hs).2 (fun r hm => hr r (List.mem_cons_of_mem _ hm))
    · rw [if_neg h1, if_neg h1]
theorem ev31 (fu : Nat) {i : Int32} (hi : -1 ≤ i) (u : ZT_10) {l : List Nat} (hl : l.length ≤ 40) (hrow : Arr_ u.2.2.2.1.1 l) (hsz : u.2.2.2.1.2 = nI l.length) (h40 : ∀ c ∈ l, c < 40) (hw : ∀ c ∈ l, 1 ≤ (u.1.1 c).toInt ∧ (u.1.1 c).toInt ≤ 99) : ∀ (d k g : Nat) (s n : Int32), k + d = l.length → d < g → 0 ≤ s.toInt → s.toInt ≤ 99 * k → rr_X10_even_31 fu g i n s (nI k) u = some (if s ≤ 999 then evS u.1.1 i (l.drop k) s n else evE i n, u) := by
  intro d
  have t9 : (999 : Int32).toInt = 999 := by decide
  induction d with
  | zero =>
    intro k g s n hk hg h0 h9
    obtain ⟨g, rfl⟩ : ∃ q, g = q + 1 := ⟨g - 1, by omega⟩
    have e9 : rr_X10_even_31 fu (g + 1) = rr_X10_even_31_b fu (rr_X10_even_31 fu g) := rfl
    rw [e9]
    unfold rr_X10_even_31_b
    rw [if_pos (by rw [hsz]; exact nI_le (by omega) (by omega)), evE_alt hi, List.drop_of_length_le (by omega)]
    show some (evE i n, u) = some (if s ≤ 999 then evE i n else evE i n, u)
    split <;> rfl
  | succ d ih =>
    intro k g s n hk hg h0 h9
    obtain ⟨g, rfl⟩ : ∃ q, g = q + 1 := ⟨g - 1, by omega⟩
    have e9 : rr_X10_even_31 fu (g + 1) = rr_X10_even_31_b fu (rr_X10_even_31 fu g) := rfl
    rw [e9]
    unfold rr_X10_even_31_b rr_X10_even_76
    have hkl : k < l.length := by omega
    have hmem : l.getD k 0 ∈ l := by rw [getD_eq hkl]; exact List.getElem_mem _
    have hc := h40 _ hmem
    have hwc := hw _ hmem
    rw [if_neg (by rw [hsz]; exact nI_ge (by omega) (by omega))]
    simp only [ck_in (show k < 40 by omega) (show 40 < 2 ^ 31 by omega), nI_clamp (show k < 2 ^ 31 by omega), hrow k hkl, ck_in hc (show 40 < 2 ^ 31 by omega), nI_clamp (show l.getD k 0 < 2 ^ 31 by omega), lt_eq, nI_1]
    have hd : l.drop k = l.getD k 0 :: l.drop (k + 1) := by rw [getD_eq hkl]; exact List.drop_eq_getElem_cons hkl
    have hs : (s + u.1.1 (l.getD k 0)).toInt = s.toInt + (u.1.1 (l.getD k 0)).toInt := by
      rw [Int32.toInt_add]
      exact Int.bmod_eq_of_le (by omega) (by omega)
    rw [hd]
    show _ = some (if s ≤ 999 then (if s + u.1.1 (l.getD k 0) ≤ 999 then _ else _) else _, u)
    by_cases c1 : (999 : Int32) < s + u.1.1 (l.getD k 0)
    · have c1' : ¬ s + u.1.1 (l.getD k 0) ≤ 999 := by rw [i32_le]; rw [i32_lt] at c1; omega
      rw [if_pos c1, ih (k + 1) g _ n (by omega) (by omega) (by omega) (by omega), if_neg c1', if_neg c1']
      split <;> rfl
    · have c1' : s + u.1.1 (l.getD k 0) ≤ 999 := by rw [i32_le]; rw [i32_lt] at c1; omega
      have c2 : s ≤ 999 := by rw [i32_le, t9]; rw [i32_le, t9] at c1'; omega
      rw [if_neg c1, if_pos c2, if_pos c1']
      by_cases c3 : n = i
      · rw [if_pos c3, if_pos c3]
      · rw [if_neg c3, if_neg c3, ih (k + 1) g _ _ (by omega) (by omega) (by omega) (by omega), if_pos c1']
theorem st_even (fu : Nat) (hfu : 100 ≤ fu) : St_even fu Rel := by
  intro x i c m h
  unfold rr_X9_even rr_X10_even
  simp only [r9_within, r9_isHolder, r9_isYear, r9_isPurse, r9_isShop, r9_isSum, r9_isSheet, r9_isLane, r9_isCoin, r9_isBill, r10_isHolder, r10_isPurse, r10_isShop, r10_isSum, r10_isCoin, r10_isBill, r10_isSheet, in_1_99, in_0_99, in_0_3, in_0_4, in_1_50, in_0_5, in_m1_5, in_1_4, in_1_8, Option.bind_some, it_10, it_01, zk_b, zk_1, zk_0, lt_eq]
  have h0 := h
  by_cases hx : 0 ≤ x ∧ x ≤ 3
  · rw [if_neg (not_not_intro hx), if_neg (not_not_intro hx)]
    by_cases hi : (-1 : Int32) ≤ i
    · rw [if_pos hi, if_pos hi]
      obtain ⟨rk, f, N, l, el, hM, hR, hB, hC⟩ := r9_layOut fu hfu h
      have hl3 : 0 ≤ m.1.2.2.2.2.2.2 ∧ m.1.2.2.2.2.2.2 ≤ 3 := by
        obtain ⟨⟨_, _, _, _, _, _, hl, _⟩, _⟩ := h
        exact hl
      obtain ⟨g, er, hg⟩ := r10_findRow fu hfu hM hl3 x
      obtain ⟨hh, hh3, rfl⟩ := nat_of 3 (by omega) rfl hx.1 hx.2
      have hN := hM.2.1
      rw [el, er]
      simp only [Option.bind_some, ck_in (show hh < 8 by omega) (show 8 < 2 ^ 31 by omega), nI_clamp (show hh < 2 ^ 31 by omega)]
      have hset := board_set hB (show hh < 8 by omega)
      have hrr := row_ranks hM hR (nI hh)
      have hrl : (rowM m m.1.2.2.2.2.2.2 (nI hh) N).length ≤ N := rowUp_len N
      have hlen : ((List.range N).filter (fun r => decide (m.1.2.2.2.2.1 (l.getD r 0) = nI hh))).length = (rowM m m.1.2.2.2.2.2.2 (nI hh) N).length := by rw [← hrr, List.length_map]
      have a1 := ev37 fu hN (wo := m.1.1) (l := l) (u := (c.1, c.2.1, c.2.2.1, rk, (0 : Int32), c.2.2.2.2.2.1, (f, c.2.2.2.2.2.2.1.2), c.2.2.2.2.2.2.2)) hR.2.2.2.2.2.1 i _ 0 fu (f hh) 0 0 (by omega) (by omega) hset (range_asc N _) (fun r hr => List.mem_range.mp (List.mem_filter.mp hr).1)
      have a2 := ev31 fu hi (m.1, m.2.1, m.2.2.1, (g, nI (rowM m m.1.2.2.2.2.2.2 (nI hh) N).length), m.2.2.2.2) (l := rowM m m.1.2.2.2.2.2.2 (nI hh) N) (by omega) hg rfl (fun c hc => by have := row_lt c hc; omega) (fun c hc => wo_in (hM.2.2 c (row_lt c hc))) (rowM m m.1.2.2.2.2.2.2 (nI hh) N).length 0 fu 0 0 (by omega) (by omega) (by decide) (by decide)
      rw [hrr] at a1
      rw [if_pos (show (0 : Int32) ≤ 999 by decide), List.drop_zero] at a2
      exact ⟨_, _, _, a1, a2, rel_lay h hM hR (c.2.2.2.2.2.1, (f, c.2.2.2.2.2.2.1.2), c.2.2.2.2.2.2.2.1, c.2.2.2.2.2.2.2.2.1, c.2.2.2.2.2.2.2.2.2.1)⟩
    · rw [if_neg hi, if_neg hi]; exact ⟨_, _, _, rfl, rfl, h0⟩
  · rw [if_pos hx, if_pos hx]; exact ⟨_, _, _, rfl, rfl, h0⟩
