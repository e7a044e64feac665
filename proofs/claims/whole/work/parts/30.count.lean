-- ===== how many bits =====
def HH (w : Nat) (g : Nat → Nat) : Nat → Nat
  | 0 => 0
  | k + 1 => 2 ^ w * HH w (fun i => g (i + 1)) k + g 0
theorem hh_congr {w : Nat} : ∀ (k : Nat) {f g : Nat → Nat}, (∀ i, i < k → f i = g i) → HH w f k = HH w g k := by
  intro k
  induction k with
  | zero => intro f g _; rfl
  | succ k ih =>
    intro f g h
    show 2 ^ w * HH w (fun i => f (i + 1)) k + f 0 = 2 ^ w * HH w (fun i => g (i + 1)) k + g 0
    rw [ih (fun i hi => h (i + 1) (by omega)), h 0 (by omega)]
theorem hh_add {w : Nat} : ∀ (k : Nat) (f g : Nat → Nat), HH w f k + HH w g k = HH w (fun i => f i + g i) k := by
  intro k
  induction k with
  | zero => intro f g; rfl
  | succ k ih =>
    intro f g
    show (2 ^ w * HH w (fun i => f (i + 1)) k + f 0) + (2 ^ w * HH w (fun i => g (i + 1)) k + g 0) = 2 ^ w * HH w (fun i => f (i + 1) + g (i + 1)) k + (f 0 + g 0)
    rw [← ih (fun i => f (i + 1)) (fun i => g (i + 1)), Nat.mul_add]
    omega
theorem hh_lt {w : Nat} : ∀ (k : Nat) (g : Nat → Nat), (∀ i, g i < 2 ^ w) → HH w g k < 2 ^ (w * k) := by
  intro k
  induction k with
  | zero => intro g _; exact Nat.lt_of_lt_of_le (Nat.zero_lt_one) (by simp)
  | succ k ih =>
    intro g h
    have h1 := ih (fun i => g (i + 1)) (fun i => h (i + 1))
    have h2 := h 0
    show 2 ^ w * HH w (fun i => g (i + 1)) k + g 0 < 2 ^ (w * (k + 1))
    rw [Nat.mul_add, Nat.mul_one, Nat.pow_add, Nat.mul_comm (2 ^ (w * k))]
    calc 2 ^ w * HH w (fun i => g (i + 1)) k + g 0 < 2 ^ w * HH w (fun i => g (i + 1)) k + 2 ^ w := by omega
      _ = 2 ^ w * (HH w (fun i => g (i + 1)) k + 1) := by rw [Nat.mul_add, Nat.mul_one]
      _ ≤ 2 ^ w * 2 ^ (w * k) := Nat.mul_le_mul_left _ h1
theorem hh_dig {w : Nat} : ∀ (k : Nat) (g : Nat → Nat), (∀ i, g i < 2 ^ w) → ∀ i, i < k → HH w g k / 2 ^ (w * i) % 2 ^ w = g i := by
  intro k
  induction k with
  | zero => intro g _ i hi; omega
  | succ k ih =>
    intro g h i hi
    have hp : 0 < 2 ^ w := Nat.two_pow_pos w
    have h0 := h 0
    show (2 ^ w * HH w (fun i => g (i + 1)) k + g 0) / 2 ^ (w * i) % 2 ^ w = g i
    cases i with
    | zero =>
      rw [Nat.mul_zero, Nat.pow_zero, Nat.div_one, Nat.mul_add_mod, Nat.mod_eq_of_lt h0]
    | succ i =>
      rw [Nat.mul_add, Nat.mul_one, Nat.add_comm (w * i) w, Nat.pow_add, ← Nat.div_div_eq_div_mul, Nat.mul_add_div hp, Nat.div_eq_of_lt h0, Nat.add_zero]
      exact ih (fun i => g (i + 1)) (fun i => h (i + 1)) i (by omega)
theorem hh_self {w : Nat} : ∀ (k n : Nat), n < 2 ^ (w * k) → HH w (fun i => n / 2 ^ (w * i) % 2 ^ w) k = n := by
  intro k
  induction k with
  | zero => intro n h; rw [Nat.mul_zero, Nat.pow_zero] at h; show 0 = n; omega
  | succ k ih =>
    intro n h
    have hp : 0 < 2 ^ w := Nat.two_pow_pos w
    show 2 ^ w * HH w (fun i => n / 2 ^ (w * (i + 1)) % 2 ^ w) k + n / 2 ^ (w * 0) % 2 ^ w = n
    have e1 : ∀ i, n / 2 ^ (w * (i + 1)) = n / 2 ^ w / 2 ^ (w * i) := by
      intro i
      rw [Nat.mul_add, Nat.mul_one, Nat.add_comm (w * i) w, Nat.pow_add, Nat.div_div_eq_div_mul]
    rw [hh_congr k (g := fun i => n / 2 ^ w / 2 ^ (w * i) % 2 ^ w) (fun i _ => by rw [e1 i]), ih (n / 2 ^ w) (by
      rw [Nat.div_lt_iff_lt_mul hp, ← Nat.pow_add]
      rw [Nat.mul_add, Nat.mul_one] at h; exact h), Nat.mul_zero, Nat.pow_zero, Nat.div_one]
    exact Nat.div_add_mod n (2 ^ w)
theorem hh_sub {w : Nat} : ∀ (k : Nat) (f g : Nat → Nat), (∀ i, i < k → g i ≤ f i) → HH w g k ≤ HH w f k ∧ HH w f k - HH w g k = HH w (fun i => f i - g i) k := by
  intro k f g h
  have h1 := hh_add (w := w) k g (fun i => f i - g i)
  have h2 : HH w (fun i => g i + (f i - g i)) k = HH w f k := hh_congr k (fun i hi => by have := h i hi; omega)
  rw [h2] at h1
  constructor
  · omega
  · omega
theorem hh_tb {w : Nat} (hw : 0 < w) : ∀ (k : Nat) (g : Nat → Nat) (j : Nat), (∀ i, g i < 2 ^ w) → (HH w g k).testBit j = (decide (j < w * k) && (g (j / w)).testBit (j % w)) := by
  intro k
  induction k with
  | zero => intro g j _; show Nat.testBit 0 j = _; simp
  | succ k ih =>
    intro g j h
    show (2 ^ w * HH w (fun i => g (i + 1)) k + g 0).testBit j = _
    rw [Nat.testBit_two_pow_mul_add _ (h 0)]
    by_cases c : j < w
    · rw [if_pos c, Nat.div_eq_of_lt c, Nat.mod_eq_of_lt c]
      have : j < w * (k + 1) := by rw [Nat.mul_add]; omega
      simp [this]
    · rw [if_neg c, ih (fun i => g (i + 1)) (j - w) (fun i => h (i + 1))]
      obtain ⟨t, rfl⟩ : ∃ t, j = t + w := ⟨j - w, by omega⟩
      rw [Nat.add_sub_cancel, Nat.add_div_right _ hw, Nat.add_mod_right]
      have : (t < w * k) ↔ (t + w < w * (k + 1)) := by rw [Nat.mul_add, Nat.mul_one]; omega
      simp only [this]
theorem hh_mask {w : Nat} (hw : 0 < w) (k n s : Nat) (m : Nat → Nat) (hs : s < w) (hm : ∀ i, m i < 2 ^ (w - s)) : (n >>> s) &&& HH w m k = HH w (fun i => ((n / 2 ^ (w * i) % 2 ^ w) >>> s) &&& m i) k := by
  have hm2 : ∀ i, m i < 2 ^ w := fun i => Nat.lt_of_lt_of_le (hm i) (Nat.pow_le_pow_right (by omega) (by omega))
  apply Nat.eq_of_testBit_eq
  intro j
  rw [Nat.testBit_and, Nat.testBit_shiftRight, hh_tb hw k m j hm2, hh_tb hw k _ j (fun i => Nat.lt_of_le_of_lt Nat.and_le_right (hm2 i)), Nat.testBit_and, Nat.testBit_shiftRight, Nat.testBit_mod_two_pow, Nat.testBit_div_two_pow]
  by_cases c : (m (j / w)).testBit (j % w) = true
  · have h1 : j % w < w - s := by
      rcases Nat.lt_or_ge (j % w) (w - s) with d | d
      · exact d
      · have := Nat.ge_two_pow_of_testBit c
        have h2 := hm (j / w)
        have := Nat.pow_le_pow_right (n := 2) (by omega) d
        omega
    have h2 : s + j % w < w := by omega
    have h3 : s + j % w + w * (j / w) = s + j := by have := Nat.div_add_mod j w; omega
    rw [c, h3]
    simp [h2, Bool.and_comm]
  · have c' : (m (j / w)).testBit (j % w) = false := by simpa using c
    rw [c']
    simp
theorem hh_shr {w : Nat} : ∀ (t k : Nat) (g : Nat → Nat), (∀ i, g i < 2 ^ w) → HH w g (k + t) >>> (w * t) = HH w (fun i => g (i + t)) k := by
  intro t
  induction t with
  | zero => intro k g _; rw [Nat.mul_zero, Nat.shiftRight_zero]; rfl
  | succ t ih =>
    intro k g h
    have hp : 0 < 2 ^ w := Nat.two_pow_pos w
    rw [Nat.mul_add, Nat.mul_one, Nat.add_comm (w * t) w, Nat.shiftRight_add]
    have e : HH w g (k + (t + 1)) >>> w = HH w (fun i => g (i + 1)) (k + t) := by
      show (2 ^ w * HH w (fun i => g (i + 1)) (k + t) + g 0) >>> w = _
      rw [Nat.shiftRight_eq_div_pow, Nat.mul_add_div hp, Nat.div_eq_of_lt (h 0), Nat.add_zero]
    rw [e, ih k (fun i => g (i + 1)) (fun i => h (i + 1))]
    exact hh_congr k (fun i _ => by show g (i + t + 1) = g (i + (t + 1)); rfl)
/-- with as many places as before: what comes in from above is 0 -/
theorem hh_pad {w : Nat} : ∀ (t k : Nat) (g : Nat → Nat), (∀ i, k ≤ i → g i = 0) → HH w g (k + t) = HH w g k := by
  intro t k
  induction k with
  | zero =>
    intro g h
    induction t generalizing g with
    | zero => rfl
    | succ t ih =>
      show 2 ^ w * HH w (fun i => g (i + 1)) (0 + t) + g 0 = 0
      rw [ih (fun i => g (i + 1)) (fun i _ => h (i + 1) (by omega)), h 0 (by omega)]
      rfl
  | succ k ih =>
    intro g h
    rw [Nat.add_right_comm]
    show 2 ^ w * HH w (fun i => g (i + 1)) (k + t) + g 0 = 2 ^ w * HH w (fun i => g (i + 1)) k + g 0
    rw [ih (fun i => g (i + 1)) (fun i hi => h (i + 1) (by omega))]
theorem hh_48 : ∀ (k : Nat) (g : Nat → Nat), HH 4 g (2 * k) = HH 8 (fun j => g (2 * j) + 16 * g (2 * j + 1)) k := by
  intro k
  induction k with
  | zero => intro g; rfl
  | succ k ih =>
    intro g
    show 2 ^ 4 * (2 ^ 4 * HH 4 (fun i => g (i + 1 + 1)) (2 * k) + g (0 + 1)) + g 0 = 2 ^ 8 * HH 8 (fun j => g (2 * (j + 1)) + 16 * g (2 * (j + 1) + 1)) k + (g (2 * 0) + 16 * g (2 * 0 + 1))
    rw [ih (fun i => g (i + 1 + 1))]
    have e : HH 8 (fun j => g (2 * j + 1 + 1) + 16 * g (2 * j + 1 + 1 + 1)) k = HH 8 (fun j => g (2 * (j + 1)) + 16 * g (2 * (j + 1) + 1)) k := rfl
    rw [e]
    show 2 ^ 4 * (2 ^ 4 * _ + g 1) + g 0 = 2 ^ 8 * _ + (g 0 + 16 * g 1)
    omega
