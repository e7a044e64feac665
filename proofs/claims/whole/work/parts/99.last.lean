-- ===== coins are paid =====
def payR (wo : Nat → Int32) (sum : Int32) : List Nat → Int32 → List Nat × Int32
  | [], w => ([], w)
  | c :: t, w => if sum ≤ w then (c :: t, w) else payR wo sum t (w + wo c)
theorem take9 (fu : Nat) {N : Nat} (hN : N ≤ 40) {rk : ZT_4} (S0 : Int64) (sum : Int32) (b : ZT_1) : ∀ (t : List Nat) (k g : Nat) (S : Int64) (w : Int32), k + t.length ≤ 40 → t.length < g → SetL S t → t.Pairwise (fun x y => x < y) → (∀ r ∈ t, r < N) → ∃ S' : Int64, rr_X1_takeOut_9 fu rk g S0 sum S w (nI k) b = some ((payR rk.2.2.1 sum t w).2, (b.1, S0 &&& (S' ^^^ (-1 : Int64)), b.2.2)) ∧ SetL S' (payR rk.2.2.1 sum t w).1 := by
  intro t
  induction t with
  | nil =>
    intro k g S w hk hg hS hs hr
    obtain ⟨g, rfl⟩ : ∃ q, g = q + 1 := ⟨g - 1, by simp at hg; omega⟩
    have e9 : rr_X1_takeOut_9 fu rk (g + 1) = rr_X1_takeOut_9_b fu rk (rr_X1_takeOut_9 fu rk g) := rfl
    rw [e9]
    unfold rr_X1_takeOut_9_b rr_X1_takeOut_65
    have hz := setL_nil hS
    refine ⟨S, ?_, hS⟩
    rw [if_pos (lc_eq.mpr hz)]
    simp only [lt_eq]
    split <;> rfl
  | cons a t ih =>
    intro k g S w hk hg hS hs hr
    rw [List.length_cons] at hk hg
    obtain ⟨g, rfl⟩ : ∃ q, g = q + 1 := ⟨g - 1, by omega⟩
    have e9 : rr_X1_takeOut_9 fu rk (g + 1) = rr_X1_takeOut_9_b fu rk (rr_X1_takeOut_9 fu rk g) := rfl
    rw [e9]
    unfold rr_X1_takeOut_9_b rr_X1_takeOut_65
    have haN := hr a List.mem_cons_self
    have ha : a < 64 := by omega
    rw [if_neg (show ¬ (40 : Int32) ≤ nI k from nI_ge (b := 40) (by omega) (by omega)), if_neg (fun h => setL_ne hS ha (lc_eq.mp h))]
    by_cases c : sum ≤ w
    · rw [if_pos c]
      have e : payR rk.2.2.1 sum (a :: t) w = (a :: t, w) := by
        show (if sum ≤ w then _ else _) = _
        rw [if_pos c]
      rw [e]
      exact ⟨S, rfl, hS⟩
    · have e : payR rk.2.2.1 sum (a :: t) w = payR rk.2.2.1 sum t (w + rk.2.2.1 a) := by
        show (if sum ≤ w then _ else _) = _
        rw [if_neg c]
      rw [if_neg c, setL_next fu hS hs ha, Option.bind_some, lt_eq, ck_in ha (by omega), e]
      simp only [nI_clamp (show a < 2 ^ 31 by omega), lt_eq, nI_1]
      exact ih (k + 1) g _ _ (by omega) (by omega) (setL_tail hS hs ha) (List.pairwise_cons.mp hs).2 (fun r hm => hr r (List.mem_cons_of_mem _ hm))
