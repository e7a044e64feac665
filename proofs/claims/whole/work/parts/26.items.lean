-- ===== rows of sheets =====
def zr_ (f : Nat → Int64) (lo hi : Nat) : Nat → Int64 := fun j => if lo ≤ j ∧ j < hi then 0 else f j
theorem zr_self (f : Nat → Int64) (a : Nat) : zr_ f a a = f := by
  funext j; unfold zr_; rw [if_neg (by omega)]
theorem zr_step (f : Nat → Int64) {a b : Nat} (h : a < b) : zr_ (vp_updL f a 0) (a + 1) b = zr_ f a b := by
  funext j
  unfold zr_
  by_cases h1 : a + 1 ≤ j ∧ j < b
  · rw [if_pos h1, if_pos (by omega)]
  · rw [if_neg h1]
    by_cases h2 : j = a
    · subst h2; rw [pk_uLs, if_pos (by omega)]
    · rw [pk_uLn h2, if_neg (by omega)]
theorem mul24 {k i : Nat} : (nI k * (24 : Int32)) + nI i = nI (24 * k + i) := by
  rw [show (24 : Int32) = nI 24 from rfl, pk_mul, nI_add, Nat.mul_comm]
theorem mul24' {k i : Nat} : ((24 : Int32) * nI k) + nI i = nI (24 * k + i) := by
  rw [show (24 : Int32) = nI 24 from rfl, pk_mul, nI_add]
theorem lay17 (fu : Nat) {k n : Nat} (hk : k < 4) (hn : n ≤ 24) (a b : Nat → Int32) : ∀ (d i g : Nat) (f : Nat → Int64), i + d = n → d < g → rr_X5_lay_17 fu g (nI k) (nI n) (nI i) (a, b, f) = some (a, b, zr_ f (24 * k + i) (24 * k + n)) := by
  intro d
  induction d with
  | zero =>
    intro i g f hi hg
    obtain ⟨g, rfl⟩ : ∃ q, g = q + 1 := ⟨g - 1, by omega⟩
    have : i = n := by omega
    subst this
    show rr_X5_lay_17_b fu (rr_X5_lay_17 fu g) _ _ _ _ = _
    unfold rr_X5_lay_17_b
    rw [if_pos (nI_le (Nat.le_refl i) (by omega)), zr_self]
  | succ d ih =>
    intro i g f hi hg
    obtain ⟨g, rfl⟩ : ∃ q, g = q + 1 := ⟨g - 1, by omega⟩
    show rr_X5_lay_17_b fu (rr_X5_lay_17 fu g) _ _ _ _ = _
    unfold rr_X5_lay_17_b
    rw [if_neg (nI_ge (by omega) (by omega))]
    simp only [mul24, ck_in (show 24 * k + i < 96 by omega) (by omega), nI_clamp (show 24 * k + i < 2 ^ 31 by omega), lt_eq, nI_1]
    rw [ih (i + 1) g _ (by omega) (by omega), ← zr_step f (show 24 * k + i < 24 * k + n by omega)]
    rfl
theorem sheet40 (fu : Nat) {k : Nat} (hk : k < 4) (y : Int32) (u : ZT_10) : ∀ (d i g : Nat) (f : Nat → Int64), i + d = 24 → d < g → rr_X10_sheet_40 fu g (nI k) y (nI i) (u.1, u.2.1, u.2.2.1, u.2.2.2.1, u.2.2.2.2.1, u.2.2.2.2.2.1, u.2.2.2.2.2.2.1, u.2.2.2.2.2.2.2.1, u.2.2.2.2.2.2.2.2.1, (u.2.2.2.2.2.2.2.2.2.1, u.2.2.2.2.2.2.2.2.2.2.1, f)) = some (y, (u.1, u.2.1, u.2.2.1, u.2.2.2.1, u.2.2.2.2.1, u.2.2.2.2.2.1, u.2.2.2.2.2.2.1, u.2.2.2.2.2.2.2.1, u.2.2.2.2.2.2.2.2.1, (u.2.2.2.2.2.2.2.2.2.1, u.2.2.2.2.2.2.2.2.2.2.1, zr_ f (24 * k + i) (24 * k + 24)))) := by
  intro d
  induction d with
  | zero =>
    intro i g f hi hg
    obtain ⟨g, rfl⟩ : ∃ q, g = q + 1 := ⟨g - 1, by omega⟩
    have : i = 24 := by omega
    subst this
    have e9 : rr_X10_sheet_40 fu (g + 1) = rr_X10_sheet_40_b fu (rr_X10_sheet_40 fu g) := rfl
    rw [e9]
    unfold rr_X10_sheet_40_b
    rw [if_pos (by decide), zr_self]
  | succ d ih =>
    intro i g f hi hg
    obtain ⟨g, rfl⟩ : ∃ q, g = q + 1 := ⟨g - 1, by omega⟩
    have e9 : rr_X10_sheet_40 fu (g + 1) = rr_X10_sheet_40_b fu (rr_X10_sheet_40 fu g) := rfl
    rw [e9]
    unfold rr_X10_sheet_40_b
    rw [if_neg (show ¬ (24 : Int32) ≤ nI i from nI_ge (b := 24) (by omega) (by omega))]
    simp only [mul24', ck_in (show 24 * k + i < 96 by omega) (by omega), nI_clamp (show 24 * k + i < 2 ^ 31 by omega), lt_eq, nI_1]
    rw [ih (i + 1) g _ (by omega) (by omega), ← zr_step f (show 24 * k + i < 24 * k + 24 by omega)]
    rfl
theorem st_sheet (fu : Nat) (hfu : 100 ≤ fu) : St_sheet fu Rel := by
  intro x y z c m h
  unfold rr_X9_sheet rr_X10_sheet
  simp only [r9_within, r9_isHolder, r9_isYear, r9_isPurse, r9_isShop, r9_isSum, r9_isSheet, r9_isLane, r9_isCoin, r9_isBill, r10_isHolder, r10_isPurse, r10_isShop, r10_isSum, r10_isCoin, r10_isBill, r10_isSheet, in_1_99, in_0_99, in_0_3, in_0_4, in_1_50, in_0_5, in_m1_5, in_1_4, in_1_8, Option.bind_some, it_10, it_01, zk_b, zk_1, zk_0, lt_eq]
  have h0 := h
  obtain ⟨hT, hI, hP, hS, hK⟩ := h
  by_cases hx : 0 ≤ x ∧ x ≤ 3
  · rw [if_neg (not_not_intro hx)]
    by_cases hy : 0 ≤ y ∧ y ≤ 2
    · rw [if_neg (not_not_intro hy), if_neg (not_not_intro ⟨hx, hy⟩)]
      by_cases hz : z ≤ 24
      · rw [if_pos hz, if_pos hz]
        by_cases hz0 : 0 ≤ z
        · rw [if_pos hz0, if_pos hz0]
          obtain ⟨k, hk, rfl⟩ := nat_of 3 (by omega) rfl hx.1 hx.2
          obtain ⟨n, hn, rfl⟩ := nat_of 24 (by omega) rfl hz0 hz
          unfold rr_X5_lay
          simp only [ck_in (show k < 4 by omega) (by omega), nI_clamp (show k < 2 ^ 31 by omega)]
          have l1 := lay17 fu (show k < 4 by omega) hn (upd c.2.2.2.2.2.2.2.2.2.2.2.2.2.1 k y) (upd c.2.2.2.2.2.2.2.2.2.2.2.2.2.2.1 k (nI n)) n 0 fu c.2.2.2.2.2.2.2.2.2.2.2.2.2.2.2 (by omega) (by omega)
          have l2 := sheet40 fu (show k < 4 by omega) (nI n) (m.1, m.2.1, m.2.2.1, m.2.2.2.1, m.2.2.2.2.1, m.2.2.2.2.2.1, m.2.2.2.2.2.2.1, m.2.2.2.2.2.2.2.1, m.2.2.2.2.2.2.2.2.1, (upd m.2.2.2.2.2.2.2.2.2.1 k y, upd m.2.2.2.2.2.2.2.2.2.2.1 k (nI n), m.2.2.2.2.2.2.2.2.2.2.2)) 24 0 fu m.2.2.2.2.2.2.2.2.2.2.2 (by omega) (by omega)
          rw [show (0 : Int32) = nI 0 from rfl]
          rw [l1, l2]
          refine ⟨_, _, _, rfl, rfl, ⟨hT, hI, hP, ?_, hK⟩⟩
          intro j hj
          show upd _ _ _ _ = upd _ _ _ _ ∧ (upd _ _ _ _ = -1 ∨ ((0 ≤ upd _ _ _ _ ∧ upd _ _ _ _ ≤ 2) ∧ ∃ n' : Nat, n' ≤ 24 ∧ upd _ _ _ _ = nI n' ∧ upd _ _ _ _ = nI n' ∧ ∀ i, i < n' → zr_ _ _ _ _ = zr_ _ _ _ _))
          by_cases he : j = k
          · subst he
            simp only [pk_us]
            refine ⟨trivial, Or.inr ⟨hy, n, hn, rfl, rfl, fun i hi => ?_⟩⟩
            unfold zr_
            rw [if_pos (by omega), if_pos (by omega)]
          · simp only [pk_un he]
            have h1 := hS j hj
            refine ⟨h1.1, ?_⟩
            rcases h1.2 with h2 | ⟨h2, n', hn', s1, s2, h3⟩
            · exact Or.inl h2
            · refine Or.inr ⟨h2, n', hn', s1, s2, fun i hi => ?_⟩
              unfold zr_
              rw [if_neg (by omega), if_neg (by omega)]
              exact h3 i hi
        · rw [if_neg hz0, if_neg hz0]; exact ⟨_, _, _, rfl, rfl, h0⟩
      · rw [if_neg hz, if_neg hz]; exact ⟨_, _, _, rfl, rfl, h0⟩
    · rw [if_pos hy, if_pos (fun e => hy e.2)]; exact ⟨_, _, _, rfl, rfl, h0⟩
  · rw [if_pos hx, if_pos (fun e => hx e.1)]; exact ⟨_, _, _, rfl, rfl, h0⟩
/-- what the machine would find in a sheet -/
theorem refus (fu : Nat) {sh : ZT_5} {m : ZT_10} (hS : SheetR sh m.2.2.2.2.2.2.2.2.2.1 m.2.2.2.2.2.2.2.2.2.2.1 m.2.2.2.2.2.2.2.2.2.2.2) {k w : Nat} (hk : k < 4) (hw : w ≤ 40) {y : Int32} (hy : 0 ≤ y ∧ y ≤ 2) (z : Int32) : ∃ q : Int32, rr_X5_refusal fu (nI k) y z (nI w) sh = some q ∧ rr_X10_lacksRow fu (nI k) y z (nI w) m = some q ∧ ((¬ 0 ≤ q ∧ ¬ q = 0) ∨ (q = 0 ∧ m.2.2.2.2.2.2.2.2.2.1 k = y ∧ sh.1 k = y ∧ ∃ n f : Nat, n ≤ 24 ∧ z = nI f ∧ f + w ≤ n ∧ sh.2.1 k = nI n ∧ m.2.2.2.2.2.2.2.2.2.2.1 k = nI n ∧ ∀ i, i < n → sh.2.2 (24 * k + i) = m.2.2.2.2.2.2.2.2.2.2.2 (24 * k + i))) := by
  unfold rr_X5_refusal rr_X10_lacksRow
  simp only [ck_in hk (show 4 < 2 ^ 31 by omega), nI_clamp (show k < 2 ^ 31 by omega)]
  obtain ⟨h1, h2⟩ := hS k hk
  rw [h1]
  rcases h2 with h2 | ⟨h2, n, hn, s1, s2, h3⟩
  · rw [if_pos h2, if_neg (fun e => by rw [h2] at e; rw [← e] at hy; exact absurd hy.1 (by decide)), if_neg (by rw [h2]; decide)]
    exact ⟨_, rfl, rfl, Or.inl (by decide)⟩
  · rw [if_neg (fun e => by rw [e] at h2; exact absurd h2.1 (by decide))]
    by_cases hl : m.2.2.2.2.2.2.2.2.2.1 k = y
    · rw [if_pos hl, if_pos hl, s1, s2, r10_in2 fu z 0 (nI n - nI w) (by decide) rfl]
      simp only [Option.bind_some, it_10]
      by_cases hz : 0 ≤ z
      · have hz' : ¬ z < 0 := by rw [i32_lt]; rw [i32_le] at hz; omega
        rw [if_neg hz']
        by_cases hzn : z ≤ nI n - nI w
        · rw [if_pos hzn, if_neg (not_not_intro ⟨hz, hzn⟩)]
          obtain ⟨f, hf, rfl⟩ := nI_of hz'
          rw [i32_le, pk_sub_toInt (by omega) (by omega), nI_toInt hf] at hzn
          exact ⟨_, rfl, rfl, Or.inr ⟨rfl, hl, hl, n, f, hn, rfl, by omega, rfl, rfl, h3⟩⟩
        · rw [if_neg hzn, if_pos (fun e => hzn e.2)]
          exact ⟨_, rfl, rfl, Or.inl (by decide)⟩
      · have hz' : z < 0 := by rw [i32_lt]; rw [i32_le] at hz; omega
        rw [if_pos hz', if_pos (fun e => hz e.1)]
        exact ⟨_, rfl, rfl, Or.inl (by decide)⟩
    · rw [if_neg hl, if_neg hl, if_pos h2.1]
      exact ⟨_, rfl, rfl, Or.inl (by decide)⟩
