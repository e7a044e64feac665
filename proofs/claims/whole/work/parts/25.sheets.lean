-- ===== counts, ages, sheets =====
def sumI (f : Nat → Int32) : Nat → Int32
  | 0 => 0
  | n + 1 => sumI f n + f n
theorem sumI_congr {f g : Nat → Int32} : ∀ n, (∀ i, i < n → f i = g i) → sumI f n = sumI g n := by
  intro n
  induction n with
  | zero => intro _; rfl
  | succ n ih =>
    intro h
    show sumI f n + f n = sumI g n + g n
    rw [ih (fun i hi => h i (by omega)), h n (by omega)]
theorem wall4 (fu : Nat) {N : Nat} (hN : N ≤ 40) {cs : ZT_2} (h : cs.1 = nI N) : ∀ (k i n : Nat), i + k = N → k < n → rr_X2_worthOfAll_4 fu 40 cs n (sumI cs.2.2.1 i) (nI i) = some (sumI cs.2.2.1 N) := by
  intro k
  induction k with
  | zero =>
    intro i n hi hn
    obtain ⟨n, rfl⟩ : ∃ q, n = q + 1 := ⟨n - 1, by omega⟩
    have : i = N := by omega
    subst this
    show rr_X2_worthOfAll_4_b fu 40 cs (rr_X2_worthOfAll_4 fu 40 cs n) _ _ = _
    unfold rr_X2_worthOfAll_4_b
    rw [h, if_pos (nI_le (Nat.le_refl i) (by omega))]
  | succ k ih =>
    intro i n hi hn
    obtain ⟨n, rfl⟩ : ∃ q, n = q + 1 := ⟨n - 1, by omega⟩
    show rr_X2_worthOfAll_4_b fu 40 cs (rr_X2_worthOfAll_4 fu 40 cs n) _ _ = _
    unfold rr_X2_worthOfAll_4_b
    rw [h, if_neg (nI_ge (by omega) (by omega))]
    simp only [ck_in (show i < 40 by omega) (by omega), nI_clamp (show i < 2 ^ 31 by omega), lt_eq, nI_1]
    exact ih (i + 1) n (by omega) (by omega)
theorem cnt4 (fu : Nat) {N : Nat} (hN : N ≤ 40) {m : ZT_10} (h : m.1.2.2.2.2.2.1 = nI N) (x : Int32) : ∀ (k i n : Nat), i + k = N → k < n → rr_X10_count_4 fu m n x (sumI m.1.1 i) (nI i) = (if x = (0 : Int32) then some (nI N) else (if x = (1 : Int32) then some (sumI m.1.1 N) else (if x = (2 : Int32) then some m.2.2.1.2 else (if x = (3 : Int32) then some m.2.1.2.2 else some (-1 : Int32))))) := by
  intro k
  induction k with
  | zero =>
    intro i n hi hn
    obtain ⟨n, rfl⟩ : ∃ q, n = q + 1 := ⟨n - 1, by omega⟩
    have : i = N := by omega
    subst this
    show rr_X10_count_4_b fu m (rr_X10_count_4 fu m n) _ _ _ = _
    unfold rr_X10_count_4_b
    rw [h, if_pos (nI_le (Nat.le_refl i) (by omega))]
  | succ k ih =>
    intro i n hi hn
    obtain ⟨n, rfl⟩ : ∃ q, n = q + 1 := ⟨n - 1, by omega⟩
    show rr_X10_count_4_b fu m (rr_X10_count_4 fu m n) _ _ _ = _
    unfold rr_X10_count_4_b
    rw [h, if_neg (nI_ge (by omega) (by omega))]
    simp only [ck_in (show i < 40 by omega) (by omega), nI_clamp (show i < 2 ^ 31 by omega), lt_eq, nI_1]
    exact ih (i + 1) n (by omega) (by omega)
theorem st_count (fu : Nat) (hfu : 100 ≤ fu) : St_count fu Rel := by
  intro x c m h
  have h0 := h
  obtain ⟨⟨N, E, B, hC, e1, e2, hl, hE, e3, hB, e4⟩, hI, hP, hS, hK⟩ := h
  have hN := hC.2.1
  unfold rr_X9_count rr_X10_count rr_X2_worthOfAll
  have a1 : rr_X10_count_4 fu m fu x 0 0 = _ := cnt4 fu hN e1 x N 0 fu (by omega) (by omega)
  have a2 : rr_X2_worthOfAll_4 fu 40 c.1.2.1 fu 0 0 = _ := wall4 fu hN hC.1 N 0 fu (by omega) (by omega)
  rw [a1, a2, hC.1, hE.1, hB.1, e3, e4, sumI_congr N (fun i hi => (hC.2.2.1 i hi).2.1)]
  by_cases n0 : x = 0
  · rw [if_pos n0, if_pos n0]; exact ⟨_, rfl, rfl, h0⟩
  · rw [if_neg n0, if_neg n0]
    by_cases n1 : x = 1
    · rw [if_pos n1, if_pos n1]; exact ⟨_, rfl, rfl, h0⟩
    · rw [if_neg n1, if_neg n1]
      by_cases n2 : x = 2
      · rw [if_pos n2]; exact ⟨_, rfl, rfl, h0⟩
      · rw [if_neg n2]
        by_cases n3 : x = 3
        · rw [if_pos n3]; exact ⟨_, rfl, rfl, h0⟩
        · rw [if_neg n3]; exact ⟨_, rfl, rfl, h0⟩
/-- the class' number for a coin's age -/
theorem old2 (fu : Nat) {N c : Nat} {cs : ZT_2} {wo ye st ki ho : Nat → Int32} (hC : CoinsR cs wo ye st ki ho N) (hc : c < N) : ∃ v : Int32, rr_X2_oldness fu 40 (nI c) cs = some v ∧ v.toInt = agI (ki c) (st c) (ye c) * 64 + c := by
  have hN := hC.2.1
  have h1 := hC.2.2.1 c hc
  have ok := hC.2.2.2 c hc
  have ha := agI_in ok
  unfold rr_X2_oldness rr_X2_oldnessAs
  simp only [ck_in (show c < 40 by omega) (by omega), nI_clamp (show c < 2 ^ 31 by omega), h1.2.2.1, h1.2.2.2.1, h1.2.2.2.2]
  have key : ∃ q : Int32, rr_X2_ageAs fu (ye c) (ki c) (st c) = some q ∧ q.toInt = agI (ki c) (st c) (ye c) := by
    obtain ⟨_, h2, h3, _, _⟩ := ok
    rw [i32_le, i32_le] at h2 h3
    have t0 : (0 : Int32).toInt = 0 := by decide
    have t99 : (99 : Int32).toInt = 99 := by decide
    have t1 : (1 : Int32).toInt = 1 := by decide
    rw [t0, t99] at h2 h3
    unfold rr_X2_ageAs agI
    by_cases k1 : ki c = 1
    · rw [if_pos k1, if_pos k1]
      refine ⟨_, rfl, ?_⟩
      rw [Int32.toInt_add, t1]
      exact Int.bmod_eq_of_le (by omega) (by omega)
    · rw [if_neg k1, if_neg k1]
      by_cases k2 : ki c = 2
      · rw [if_pos k2, if_pos k2]; exact ⟨_, rfl, t0⟩
      · rw [if_neg k2, if_neg k2]
        by_cases k3 : ki c = 3
        · rw [if_pos k3, if_pos k3]; exact ⟨_, rfl, by decide⟩
        · rw [if_neg k3, if_neg k3]
          refine ⟨_, rfl, ?_⟩
          rw [Int32.toInt_add, t1]
          exact Int.bmod_eq_of_le (by omega) (by omega)
  obtain ⟨q, e, hq⟩ := key
  rw [e]
  refine ⟨_, rfl, ?_⟩
  have t64 : (64 : Int32).toInt = 64 := by decide
  rw [Int32.toInt_add, Int32.toInt_mul, t64, nI_toInt (by omega), hq]
  rw [Int.bmod_eq_of_le (n := agI (ki c) (st c) (ye c) * 64) (by omega) (by omega)]
  exact Int.bmod_eq_of_le (by omega) (by omega)
theorem st_older (fu : Nat) : St_older fu Rel := by
  intro x y c m h
  unfold rr_X9_older rr_X10_older
  simp only [r9_within, r9_isHolder, r9_isYear, r9_isPurse, r9_isShop, r9_isSum, r9_isSheet, r9_isLane, r9_isCoin, r9_isBill, r10_isHolder, r10_isPurse, r10_isShop, r10_isSum, r10_isCoin, r10_isBill, r10_isSheet, in_1_99, in_0_99, in_0_3, in_0_4, in_1_50, in_0_5, in_m1_5, in_1_4, in_1_8, Option.bind_some, it_10, it_01, zk_b, zk_1, zk_0, lt_eq]
  have h0 := h
  obtain ⟨⟨N, E, B, hC, e1, e2, hl, hE, e3, hB, e4⟩, hI, hP, hS, hK⟩ := h
  rw [e1, hC.1]
  have hN := hC.2.1
  by_cases hx : 0 ≤ x ∧ x ≤ nI N - 1
  · rw [if_neg (not_not_intro hx), if_neg (not_not_intro hx)]
    by_cases hy : 0 ≤ y ∧ y ≤ nI N - 1
    · rw [if_neg (not_not_intro hy), if_neg (not_not_intro hy)]
      obtain ⟨a, ha, rfl⟩ := (coin_of (by omega)).mp hx
      obtain ⟨b, hb, rfl⟩ := (coin_of (by omega)).mp hy
      by_cases hab : nI a = nI b
      · rw [if_pos hab, if_pos hab]; exact ⟨_, rfl, rfl, h0⟩
      · rw [if_neg hab, if_neg hab]
        obtain ⟨u, f1, f2⟩ := old2 fu hC ha
        obtain ⟨v, g1, g2⟩ := old2 fu hC hb
        rw [f1, g1, r10_isOlder fu (show a < 40 by omega) (show b < 40 by omega)]
        simp only [Option.bind_some, it_10]
        have na : ¬ a = b := fun e => hab (by rw [e])
        have ea : oldM m a = u.toInt := f2.symm
        have eb : oldM m b = v.toInt := g2.symm
        by_cases hlt : oldM m a < oldM m b
        · rw [if_neg (show ¬ v ≤ u by rw [i32_le]; omega), if_neg (not_not_intro hlt)]
          exact ⟨_, rfl, rfl, h0⟩
        · rw [if_pos (show v ≤ u by rw [i32_le]; omega), if_pos hlt]
          exact ⟨_, rfl, rfl, h0⟩
    · rw [if_pos hy, if_pos hy]; exact ⟨_, rfl, rfl, h0⟩
  · rw [if_pos hx, if_pos hx]; exact ⟨_, rfl, rfl, h0⟩
/-- a sheet's lane is one of these -/
theorem st_drop (fu : Nat) : St_drop fu Rel := by
  intro x c m h
  unfold rr_X9_drop rr_X10_drop
  simp only [r9_within, r9_isHolder, r9_isYear, r9_isPurse, r9_isShop, r9_isSum, r9_isSheet, r9_isLane, r9_isCoin, r9_isBill, r10_isHolder, r10_isPurse, r10_isShop, r10_isSum, r10_isCoin, r10_isBill, r10_isSheet, in_1_99, in_0_99, in_0_3, in_0_4, in_1_50, in_0_5, in_m1_5, in_1_4, in_1_8, Option.bind_some, it_10, it_01, zk_b, zk_1, zk_0, lt_eq]
  have h0 := h
  obtain ⟨hT, hI, hP, hS, hK⟩ := h
  by_cases hx : 0 ≤ x ∧ x ≤ 3
  · rw [if_neg (not_not_intro hx), if_neg (not_not_intro hx)]
    obtain ⟨k, hk, rfl⟩ := nat_of 3 (by omega) rfl hx.1 hx.2
    simp only [ck_in (show k < 4 by omega) (by omega), nI_clamp (show k < 2 ^ 31 by omega)]
    have h1 := hS k (by omega)
    rw [h1.1]
    rcases h1.2 with h2 | ⟨h2, n, hn, s1, s2, h3⟩
    · rw [if_pos h2, if_neg (by rw [h2]; decide)]
      exact ⟨_, _, _, rfl, rfl, h0⟩
    · rw [if_neg (fun e => by rw [e] at h2; exact absurd h2.1 (by decide)), if_pos h2.1, s1, s2]
      refine ⟨_, _, _, rfl, rfl, ⟨hT, hI, hP, ?_, hK⟩⟩
      intro j hj
      show upd _ _ _ _ = upd _ _ _ _ ∧ (upd _ _ _ _ = -1 ∨ ((0 ≤ upd _ _ _ _ ∧ upd _ _ _ _ ≤ 2) ∧ _))
      by_cases he : j = k
      · subst he
        simp only [pk_us]
        exact ⟨trivial, Or.inl trivial⟩
      · simp only [pk_un he]
        exact hS j hj
  · rw [if_pos hx, if_pos hx]; exact ⟨_, _, _, rfl, rfl, h0⟩
