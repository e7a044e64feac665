-- ===== kept and brought back =====
abbrev wK (m : ZT_10) (f : Nat → Int32) : ZT_10 := (m.1, m.2.1, m.2.2.1, m.2.2.2.1, m.2.2.2.2.1, m.2.2.2.2.2.1, (f, m.2.2.2.2.2.2.1.2), m.2.2.2.2.2.2.2)
abbrev wO (m : ZT_10) (ho : Nat → Int32) : ZT_10 := ((m.1.1, m.1.2.1, m.1.2.2.1, m.1.2.2.2.1, ho, m.1.2.2.2.2.2), m.2)
theorem kp2 (fu : Nat) {m : ZT_10} {N : Nat} (hm : m.1.2.2.2.2.2.1 = nI N) (hN : N ≤ 40) : ∀ (d k n : Nat) (f : Nat → Int32), k + d = N → d < n → (∀ i, i < k → f i = m.1.2.2.2.2.1 i) → ∃ f' : Nat → Int32, rr_X10_keep_2 fu n (nI k) (wK m f) = some (wK m f') ∧ ∀ i, i < N → f' i = m.1.2.2.2.2.1 i := by
  intro d
  induction d with
  | zero =>
    intro k n f hk hn hf
    obtain ⟨n, rfl⟩ : ∃ q, n = q + 1 := ⟨n - 1, by omega⟩
    have : k = N := by omega
    subst this
    have e9 : rr_X10_keep_2 fu (n + 1) = rr_X10_keep_2_b fu (rr_X10_keep_2 fu n) := rfl
    rw [e9]
    unfold rr_X10_keep_2_b
    rw [if_pos (show m.1.2.2.2.2.2.1 ≤ nI k by rw [hm]; exact nI_le (Nat.le_refl k) (by omega))]
    exact ⟨f, rfl, hf⟩
  | succ d ih =>
    intro k n f hk hn hf
    obtain ⟨n, rfl⟩ : ∃ q, n = q + 1 := ⟨n - 1, by omega⟩
    have e9 : rr_X10_keep_2 fu (n + 1) = rr_X10_keep_2_b fu (rr_X10_keep_2 fu n) := rfl
    rw [e9]
    unfold rr_X10_keep_2_b
    rw [if_neg (show ¬ m.1.2.2.2.2.2.1 ≤ nI k by rw [hm]; exact nI_ge (by omega) (by omega))]
    simp only [ck_in (show k < 40 by omega) (show 40 < 2 ^ 31 by omega), nI_clamp (show k < 2 ^ 31 by omega), lt_eq, nI_1]
    refine ih (k + 1) n (upd f k (m.1.2.2.2.2.1 k)) (by omega) (by omega) (fun i hi => ?_)
    by_cases e : i = k
    · subst e; rw [pk_us]
    · rw [pk_un e]; exact hf i (by omega)
theorem m_keep (fu : Nat) (hfu : 100 ≤ fu) {m : ZT_10} {N : Nat} (hm : m.1.2.2.2.2.2.1 = nI N) (hN : N ≤ 40) : ∃ f' : Nat → Int32, rr_X10_keep fu m = some (wK m f') ∧ ∀ i, i < N → f' i = m.1.2.2.2.2.1 i :=
  kp2 fu hm hN N 0 fu m.2.2.2.2.2.2.1.1 (by omega) (by omega) (fun i hi => absurd hi (by omega))
theorem bb2 (fu : Nat) {m : ZT_10} {N : Nat} (hm : m.1.2.2.2.2.2.1 = nI N) (hN : N ≤ 40) : ∀ (d k n : Nat) (f : Nat → Int32), k + d = N → d < n → (∀ i, i < k → f i = m.2.2.2.2.2.2.1.1 i) → ∃ f' : Nat → Int32, rr_X10_bringBack_2 fu n (nI k) (wO m f) = some (wO m f') ∧ ∀ i, i < N → f' i = m.2.2.2.2.2.2.1.1 i := by
  intro d
  induction d with
  | zero =>
    intro k n f hk hn hf
    obtain ⟨n, rfl⟩ : ∃ q, n = q + 1 := ⟨n - 1, by omega⟩
    have : k = N := by omega
    subst this
    have e9 : rr_X10_bringBack_2 fu (n + 1) = rr_X10_bringBack_2_b fu (rr_X10_bringBack_2 fu n) := rfl
    rw [e9]
    unfold rr_X10_bringBack_2_b
    rw [if_pos (show m.1.2.2.2.2.2.1 ≤ nI k by rw [hm]; exact nI_le (Nat.le_refl k) (by omega))]
    exact ⟨f, rfl, hf⟩
  | succ d ih =>
    intro k n f hk hn hf
    obtain ⟨n, rfl⟩ : ∃ q, n = q + 1 := ⟨n - 1, by omega⟩
    have e9 : rr_X10_bringBack_2 fu (n + 1) = rr_X10_bringBack_2_b fu (rr_X10_bringBack_2 fu n) := rfl
    rw [e9]
    unfold rr_X10_bringBack_2_b
    rw [if_neg (show ¬ m.1.2.2.2.2.2.1 ≤ nI k by rw [hm]; exact nI_ge (by omega) (by omega))]
    simp only [ck_in (show k < 40 by omega) (show 40 < 2 ^ 31 by omega), nI_clamp (show k < 2 ^ 31 by omega), lt_eq, nI_1]
    refine ih (k + 1) n (upd f k (m.2.2.2.2.2.2.1.1 k)) (by omega) (by omega) (fun i hi => ?_)
    by_cases e : i = k
    · subst e; rw [pk_us]
    · rw [pk_un e]; exact hf i (by omega)
theorem m_back (fu : Nat) (hfu : 100 ≤ fu) {m : ZT_10} {N : Nat} (hm : m.1.2.2.2.2.2.1 = nI N) (hN : N ≤ 40) : ∃ f' : Nat → Int32, rr_X10_bringBack fu m = some (wO m f') ∧ ∀ i, i < N → f' i = m.2.2.2.2.2.2.1.1 i :=
  bb2 fu hm hN N 0 fu m.1.2.2.2.2.1 (by omega) (by omega) (fun i hi => absurd hi (by omega))
theorem cp2 (fu : Nat) (a b : ZT_1) : ∀ (d k n : Nat) (f : Nat → Int64), k + d = 8 → d < n → (∀ i, i < k → f i = b.1 i) → ∃ f' : Nat → Int64, rr_X1_copyFrom_2 fu b n (nI k) (f, a.2) = some (f', a.2) ∧ ∀ i, i < 8 → f' i = b.1 i := by
  intro d
  induction d with
  | zero =>
    intro k n f hk hn hf
    obtain ⟨n, rfl⟩ : ∃ q, n = q + 1 := ⟨n - 1, by omega⟩
    have : k = 8 := by omega
    subst this
    have e9 : rr_X1_copyFrom_2 fu b (n + 1) = rr_X1_copyFrom_2_b fu b (rr_X1_copyFrom_2 fu b n) := rfl
    rw [e9]
    unfold rr_X1_copyFrom_2_b
    rw [if_pos (by decide)]
    exact ⟨f, rfl, hf⟩
  | succ d ih =>
    intro k n f hk hn hf
    obtain ⟨n, rfl⟩ : ∃ q, n = q + 1 := ⟨n - 1, by omega⟩
    have e9 : rr_X1_copyFrom_2 fu b (n + 1) = rr_X1_copyFrom_2_b fu b (rr_X1_copyFrom_2 fu b n) := rfl
    rw [e9]
    unfold rr_X1_copyFrom_2_b
    rw [if_neg (show ¬ (8 : Int32) ≤ nI k from nI_ge (b := 8) (by omega) (by omega))]
    simp only [ck_in (show k < 8 by omega) (show 8 < 2 ^ 31 by omega), nI_clamp (show k < 2 ^ 31 by omega), lt_eq, nI_1]
    refine ih (k + 1) n (vp_updL f k (b.1 k)) (by omega) (by omega) (fun i hi => ?_)
    by_cases e : i = k
    · subst e; rw [pk_uLs]
    · rw [pk_uLn e]; exact hf i (by omega)
theorem c_copy (fu : Nat) (hfu : 100 ≤ fu) (a b : ZT_1) : ∃ f' : Nat → Int64, rr_X1_copyFrom fu a b = some (f', a.2) ∧ ∀ i, i < 8 → f' i = b.1 i :=
  cp2 fu a b 8 0 fu a.1 (by omega) (by omega) (fun i hi => absurd hi (by omega))
theorem board_congr {hd hd' : Nat → Int64} {ho ho' : Nat → Int32} {N : Nat} {l : List Nat} (hlt : ∀ r, r < N → l.getD r 0 < N) (hB : BoardOK hd ho N l) (h1 : ∀ i, i < 8 → hd' i = hd i) (h2 : ∀ i, i < N → ho' i = ho i) : BoardOK hd' ho' N l := by
  intro h hh r hr
  rw [h1 h hh, hB h hh r hr]
  apply decide_eq_decide.mpr
  constructor
  · rintro ⟨a, b⟩; exact ⟨a, by rw [h2 _ (hlt r a)]; exact b⟩
  · rintro ⟨a, b⟩; exact ⟨a, by rw [← h2 _ (hlt r a)]; exact b⟩
/-- is it even, where the reference only looks -/
theorem even_both (fu : Nat) (hfu : 100 ≤ fu) {m : ZT_10} {N : Nat} (hM : MOK m N) (hl : LawOK m) {rk : ZT_4} {l : List Nat} (hR : RankOK rk (keyM m m.1.2.2.2.2.2.2) m.1.1 m.1.2.2.2.2.2.2 N l) {b : ZT_1} (hB : BoardOK b.1 m.1.2.2.2.2.1 N l) {p s sum : Int32} (hp : 0 ≤ p ∧ p ≤ 3) (hs : 4 ≤ s ∧ s ≤ 7) : ∃ (r : Int32) (b' : ZT_1) (g : (Nat → Int32) × Int32) (pb : Int64 × Int64 × Int32 × Int32 × Int32), (r = 0 ∨ r = 1) ∧ rr_X1_meetsEvenly fu p s sum b rk = some (r, b') ∧ rr_X10_isEven fu p s sum m = some (r, wB m m.1.2.2.2.2.1 g pb) := by
  obtain ⟨p, hp3, rfl⟩ := nat_of 3 (by omega) rfl hp.1 hp.2
  obtain ⟨s, hs4, hs8, rfl⟩ := shop_of hs
  obtain ⟨g, e⟩ := m_findBill fu hfu hM hl (nI p) (nI s) sum
  obtain ⟨c1, c2⟩ := c_meets fu hfu hM hl hR hB (show p < 4 by omega) hs4 hs8 sum
  unfold rr_X1_meetsEvenly rr_X10_isEven
  by_cases c : sum ≤ (pyM m N (nI p) sum).2
  · rw [if_pos c] at e
    obtain ⟨b', d1, _, _, _, d5, _⟩ := c1 c
    rw [d1, e]
    simp only [Option.bind_some]
    rw [if_neg (show ¬ (1 : Int32) = 0 by decide), if_neg (show ¬ (1 : Int32) = 0 by decide), d5]
    by_cases c3 : (pyM m N (nI p) sum).2 - sum = 0
    · rw [if_pos c3, if_pos c3]
      exact ⟨_, _, _, _, Or.inr rfl, rfl, rfl⟩
    · rw [if_neg c3, if_neg c3]
      exact ⟨_, _, _, _, Or.inl rfl, rfl, rfl⟩
  · rw [if_neg c] at e
    obtain ⟨b', d1, d2⟩ := c2 c
    rw [d1, e]
    simp only [Option.bind_some]
    rw [if_pos trivial, if_pos trivial]
    exact ⟨_, _, _, _, Or.inl rfl, rfl, rfl⟩
/-- is it even, where the reference does it too -/
theorem evenD_both (fu : Nat) (hfu : 100 ≤ fu) {m : ZT_10} {N : Nat} (hM : MOK m N) (hl : LawOK m) {rk : ZT_4} {l : List Nat} (hR : RankOK rk (keyM m m.1.2.2.2.2.2.2) m.1.1 m.1.2.2.2.2.2.2 N l) {b : ZT_1} (hB : BoardOK b.1 m.1.2.2.2.2.1 N l) {p s sum : Int32} (hp : 0 ≤ p ∧ p ≤ 3) (hs : 4 ≤ s ∧ s ≤ 7) : ∃ (r v : Int32) (b' : ZT_1) (ho : Nat → Int32) (g : (Nat → Int32) × Int32) (pb : Int64 × Int64 × Int32 × Int32 × Int32), (r = 0 ∨ r = 1) ∧ r = (if v = 0 then 0 else if pb.2.2.2.1 = 0 then 1 else 0) ∧ rr_X1_meetsEvenly fu p s sum b rk = some (r, b') ∧ rr_X10_doBill fu p s sum m = some (v, wB m ho g pb) ∧ (∀ i, i < N → 0 ≤ ho i ∧ ho i ≤ 7) ∧ BoardOK b'.1 ho N l := by
  unfold rr_X1_meetsEvenly
  rcases bill_both fu hfu hM hl hR hB (sum := sum) hp hs with ⟨ho, g, pb, b', d1, d2, d3, d4, _, d5, d6⟩ | ⟨g, pb, b', d1, d2, d3⟩
  · rw [d1, d2]
    simp only [Option.bind_some]
    rw [if_neg (show ¬ (1 : Int32) = 0 by decide), d5]
    by_cases c3 : pb.2.2.2.1 = 0
    · rw [if_pos c3]
      exact ⟨1, 1, b', ho, g, pb, Or.inr rfl, by rw [if_neg (by decide), if_pos c3], rfl, rfl, d3, d4⟩
    · rw [if_neg c3]
      exact ⟨0, 1, b', ho, g, pb, Or.inl rfl, by rw [if_neg (by decide), if_neg c3], rfl, rfl, d3, d4⟩
  · rw [d1, d2]
    simp only [Option.bind_some]
    rw [if_pos trivial]
    exact ⟨0, 0, b', _, g, pb, Or.inl rfl, by rw [if_pos rfl], rfl, rfl, fun i hi => (hM.2.2 i hi).2.2.2.2, by rw [d3]; exact hB⟩
