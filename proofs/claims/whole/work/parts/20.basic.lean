-- ===== what the read-back functions' words come to =====
theorem lt_eq {α β : Type} (e : α) (f : α → β) : lt_ e f = f e := rfl
theorem ck_in {α : Type} {k n : Nat} {x : Option α} (h : k < n) (hn : n < 2 ^ 31) : ck_ (nI k) n x = x := by
  unfold ck_
  rw [if_neg (nI_in h hn)]
theorem zk_b {α : Type} {c : Prop} [Decidable c] {x : Option α} : zk_ (if c then 1 else 0) x = x := by
  unfold zk_
  by_cases h : c
  · rw [if_pos h]; rfl
  · rw [if_neg h]; rfl
theorem zk_1 {α : Type} {x : Option α} : zk_ 1 x = x := rfl
theorem zk_0 {α : Type} {x : Option α} : zk_ 0 x = x := rfl
theorem it_10 {c : Prop} [Decidable c] : ((if c then (1 : Int32) else 0) = 0) ↔ ¬ c := by
  by_cases h : c
  · rw [if_pos h]; constructor
    · intro h2; exact absurd h2 (by decide)
    · intro h2; exact absurd h h2
  · rw [if_neg h]; exact ⟨fun _ => h, fun _ => rfl⟩
theorem it_01 {c : Prop} [Decidable c] : ((if c then (0 : Int32) else 1) = 0) ↔ c := by
  by_cases h : c
  · rw [if_pos h]; exact ⟨fun _ => h, fun _ => rfl⟩
  · rw [if_neg h]; constructor
    · intro h2; exact absurd h2 (by decide)
    · intro h2; exact absurd h2 h
theorem lc_lt {x y : Int64} : lg_cmp x y < 0 ↔ x < y := by
  unfold lg_cmp
  by_cases h : x > y
  · rw [if_pos h]
    constructor
    · intro h2; exact absurd h2 (by decide)
    · intro h2; rw [gt_iff_lt, Int64.lt_iff_toInt_lt] at h; rw [Int64.lt_iff_toInt_lt] at h2; omega
  · rw [if_neg h]
    by_cases h3 : x = y
    · rw [if_pos h3]
      constructor
      · intro h2; exact absurd h2 (by decide)
      · intro h2; rw [h3, Int64.lt_iff_toInt_lt] at h2; omega
    · rw [if_neg h3]
      constructor
      · intro _
        rw [gt_iff_lt, Int64.lt_iff_toInt_lt] at h
        rw [Int64.lt_iff_toInt_lt]
        have : ¬ x.toInt = y.toInt := fun e => h3 (Int64.toInt_inj.mp e)
        omega
      · intro _; decide
theorem lc_gt {x y : Int64} : 0 < lg_cmp x y ↔ y < x := by
  unfold lg_cmp
  by_cases h : x > y
  · rw [if_pos h]
    exact ⟨fun _ => h, fun _ => by decide⟩
  · rw [if_neg h]
    by_cases h3 : x = y
    · rw [if_pos h3]
      exact ⟨fun h2 => absurd h2 (by decide), fun h2 => absurd h2 h⟩
    · rw [if_neg h3]
      exact ⟨fun h2 => absurd h2 (by decide), fun h2 => absurd h2 h⟩
theorem lc_eq {x y : Int64} : lg_cmp x y = 0 ↔ x = y := by
  unfold lg_cmp
  by_cases h : x > y
  · rw [if_pos h]
    constructor
    · intro h2; exact absurd h2 (by decide)
    · intro h2; rw [h2, gt_iff_lt, Int64.lt_iff_toInt_lt] at h; omega
  · rw [if_neg h]
    by_cases h3 : x = y
    · rw [if_pos h3]; exact ⟨fun _ => h3, fun _ => rfl⟩
    · rw [if_neg h3]; exact ⟨fun h2 => absurd h2 (by decide), fun h2 => absurd h2 h3⟩
theorem r9_within (fu : Nat) (v lo hi : Int32) : rr_X9_isWithin fu v lo hi = some (if lo ≤ v ∧ v ≤ hi then 1 else 0) := by
  unfold rr_X9_isWithin
  by_cases h1 : v < lo
  · rw [if_pos h1, if_neg]
    rintro ⟨h2, _⟩
    rw [Int32.lt_iff_toInt_lt] at h1; rw [Int32.le_iff_toInt_le] at h2; omega
  · rw [if_neg h1]
    by_cases h2 : hi < v
    · rw [if_pos h2, if_neg]
      rintro ⟨_, h3⟩
      rw [Int32.lt_iff_toInt_lt] at h2; rw [Int32.le_iff_toInt_le] at h3; omega
    · rw [if_neg h2, if_pos]
      rw [Int32.lt_iff_toInt_lt] at h1 h2
      rw [Int32.le_iff_toInt_le, Int32.le_iff_toInt_le]
      omega
theorem r10_in (fu : Nat) (v lo hi : Int64) : rr_X10_in fu v lo hi = some (if lo ≤ v ∧ v ≤ hi then 1 else 0) := by
  unfold rr_X10_in
  by_cases h1 : v < lo
  · rw [if_pos (lc_lt.mpr h1), if_neg]
    rintro ⟨h2, _⟩
    rw [Int64.lt_iff_toInt_lt] at h1; rw [Int64.le_iff_toInt_le] at h2; omega
  · rw [if_neg (fun h => h1 (lc_lt.mp h))]
    by_cases h2 : hi < v
    · rw [if_pos (lc_gt.mpr h2), if_neg]
      rintro ⟨_, h3⟩
      rw [Int64.lt_iff_toInt_lt] at h2; rw [Int64.le_iff_toInt_le] at h3; omega
    · rw [if_neg (fun h => h2 (lc_gt.mp h)), if_pos]
      rw [Int64.lt_iff_toInt_lt] at h1 h2
      rw [Int64.le_iff_toInt_le, Int64.le_iff_toInt_le]
      omega
theorem r10_in2 (fu : Nat) (v lo hi : Int32) {a b : Int64} (ha : lo.toInt64 = a) (hb : hi.toInt64 = b) : rr_X10_in fu v.toInt64 a b = some (if lo ≤ v ∧ v ≤ hi then 1 else 0) := by
  subst ha; subst hb
  rw [r10_in]
  simp only [Int32.toInt64_le]
theorem r9_isHolder (fu : Nat) (x : Int32) : rr_X9_isHolder fu x = some (if 0 ≤ x ∧ x ≤ 7 then 1 else 0) := by
  unfold rr_X9_isHolder; simp only [r9_within, Option.bind_some, zk_b]
theorem r9_isYear (fu : Nat) (x : Int32) : rr_X9_isYear fu x = some (if 0 ≤ x ∧ x ≤ 99 then 1 else 0) := by
  unfold rr_X9_isYear; simp only [r9_within, Option.bind_some, zk_b]
theorem r9_isPurse (fu : Nat) (x : Int32) : rr_X9_isPurse fu x = some (if 0 ≤ x ∧ x ≤ 3 then 1 else 0) := by
  unfold rr_X9_isPurse; simp only [r9_within, Option.bind_some, zk_b]
theorem r9_isShop (fu : Nat) (x : Int32) : rr_X9_isShop fu x = some (if 4 ≤ x ∧ x ≤ 7 then 1 else 0) := by
  unfold rr_X9_isShop; simp only [r9_within, Option.bind_some, zk_b]
theorem r9_isSum (fu : Nat) (x : Int32) : rr_X9_isSum fu x = some (if 1 ≤ x ∧ x ≤ 999 then 1 else 0) := by
  unfold rr_X9_isSum; simp only [r9_within, Option.bind_some, zk_b]
theorem r9_isSheet (fu : Nat) (x : Int32) : rr_X9_isSheet fu x = some (if 0 ≤ x ∧ x ≤ 3 then 1 else 0) := by
  unfold rr_X9_isSheet; simp only [r9_within, Option.bind_some, zk_b]
theorem r9_isLane (fu : Nat) (x : Int32) : rr_X9_isLane fu x = some (if 0 ≤ x ∧ x ≤ 2 then 1 else 0) := by
  unfold rr_X9_isLane; simp only [r9_within, Option.bind_some, zk_b]
theorem r9_isCoin (fu : Nat) (x : Int32) (s : ZT_9) : rr_X9_isCoin fu x s = some (if 0 ≤ x ∧ x ≤ s.1.2.1.1 - 1 then 1 else 0) := by
  unfold rr_X9_isCoin; simp only [r9_within, Option.bind_some, zk_b]
theorem r9_isBill (fu : Nat) (x y z : Int32) : rr_X9_isBill fu x y z = some (if (0 ≤ x ∧ x ≤ 3) ∧ (4 ≤ y ∧ y ≤ 7) ∧ (1 ≤ z ∧ z ≤ 999) then 1 else 0) := by
  unfold rr_X9_isBill
  simp only [r9_isPurse, r9_isShop, r9_isSum, Option.bind_some, it_10]
  by_cases h1 : (0 ≤ x ∧ x ≤ 3) <;> by_cases h2 : (4 ≤ y ∧ y ≤ 7) <;> by_cases h3 : (1 ≤ z ∧ z ≤ 999) <;> simp [h1, h2, h3]
theorem r10_isHolder (fu : Nat) (x : Int32) : rr_X10_isHolder fu x = some (if 0 ≤ x ∧ x ≤ 7 then 1 else 0) := by
  unfold rr_X10_isHolder; rw [r10_in2 fu x 0 7 (by decide) (by decide)]; simp only [Option.bind_some, zk_b]
theorem r10_isPurse (fu : Nat) (x : Int32) : rr_X10_isPurse fu x = some (if 0 ≤ x ∧ x ≤ 3 then 1 else 0) := by
  unfold rr_X10_isPurse; rw [r10_in2 fu x 0 3 (by decide) (by decide)]; simp only [Option.bind_some, zk_b]
theorem r10_isShop (fu : Nat) (x : Int32) : rr_X10_isShop fu x = some (if 4 ≤ x ∧ x ≤ 7 then 1 else 0) := by
  unfold rr_X10_isShop; rw [r10_in2 fu x 4 7 (by decide) (by decide)]; simp only [Option.bind_some, zk_b]
theorem r10_isSum (fu : Nat) (x : Int32) : rr_X10_isSum fu x = some (if 1 ≤ x ∧ x ≤ 999 then 1 else 0) := by
  unfold rr_X10_isSum; rw [r10_in2 fu x 1 999 (by decide) (by decide)]; simp only [Option.bind_some, zk_b]
theorem r10_isCoin (fu : Nat) (x : Int32) (s : ZT_10) : rr_X10_isCoin fu x s = some (if 0 ≤ x ∧ x ≤ s.1.2.2.2.2.2.1 - 1 then 1 else 0) := by
  unfold rr_X10_isCoin; rw [r10_in2 fu x 0 _ (by decide) rfl]; simp only [Option.bind_some, zk_b]
theorem r10_isBill (fu : Nat) (x y z : Int32) : rr_X10_isBill fu x y z = some (if (0 ≤ x ∧ x ≤ 3) ∧ (4 ≤ y ∧ y ≤ 7) ∧ (1 ≤ z ∧ z ≤ 999) then 1 else 0) := by
  unfold rr_X10_isBill
  simp only [r10_isPurse, r10_isShop, r10_isSum, Option.bind_some, it_10]
  by_cases h1 : (0 ≤ x ∧ x ≤ 3) <;> by_cases h2 : (4 ≤ y ∧ y ≤ 7) <;> by_cases h3 : (1 ≤ z ∧ z ≤ 999) <;> simp [h1, h2, h3]
theorem r10_isSheet (fu : Nat) (x y : Int32) : rr_X10_isSheet fu x y = some (if (0 ≤ x ∧ x ≤ 3) ∧ (0 ≤ y ∧ y ≤ 2) then 1 else 0) := by
  unfold rr_X10_isSheet
  rw [r10_in2 fu x 0 3 (by decide) (by decide), r10_in2 fu y 0 2 (by decide) (by decide)]
  simp only [Option.bind_some, it_10]
  by_cases h1 : (0 ≤ x ∧ x ≤ 3) <;> by_cases h2 : (0 ≤ y ∧ y ≤ 2) <;> simp [h1, h2]
/-- a number within bounds, as a natural one -/
theorem nat_of {x : Int32} (k : Nat) (hk : k < 2 ^ 31) {y : Int32} (hy : y = nI k) (h0 : 0 ≤ x) (h1 : x ≤ y) : ∃ j : Nat, j ≤ k ∧ x = nI j := by
  subst hy
  refine nI_of2 (nI_toInt hk) ?_ h1
  intro h
  rw [Int32.lt_iff_toInt_lt] at h
  rw [Int32.le_iff_toInt_le] at h0
  omega
/-- a coin's number -/
theorem coin_of {x : Int32} {N : Nat} (hN : N < 2 ^ 31) : (0 ≤ x ∧ x ≤ nI N - 1) ↔ ∃ j : Nat, j < N ∧ x = nI j := by
  constructor
  · rintro ⟨h0, h1⟩
    cases N with
    | zero =>
      exfalso
      rw [Int32.le_iff_toInt_le] at h0 h1
      have e1 : (nI 0 - 1 : Int32).toInt = -1 := by decide
      have e2 : (0 : Int32).toInt = 0 := by decide
      rw [e1] at h1; rw [e2] at h0
      omega
    | succ N =>
      rw [nI_pred] at h1
      obtain ⟨j, hj, e⟩ := nat_of N (by omega) rfl h0 h1
      exact ⟨j, by omega, e⟩
  · rintro ⟨j, hj, rfl⟩
    cases N with
    | zero => omega
    | succ N =>
      rw [nI_pred]
      exact ⟨nI_pos' (by omega), nI_le (by omega) (by omega)⟩
