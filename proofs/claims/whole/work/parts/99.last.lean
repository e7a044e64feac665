-- ===== sets as bits =====
theorem tb_or (a b : Int64) (i : Nat) : tb_ (a ||| b) i = (tb_ a i || tb_ b i) := by unfold tb_; rw [Int64.toBitVec_or, BitVec.getLsbD_or]
theorem tb_and (a b : Int64) (i : Nat) : tb_ (a &&& b) i = (tb_ a i && tb_ b i) := by unfold tb_; rw [Int64.toBitVec_and, BitVec.getLsbD_and]
theorem tb_xor (a b : Int64) (i : Nat) : tb_ (a ^^^ b) i = (tb_ a i ^^ tb_ b i) := by unfold tb_; rw [Int64.toBitVec_xor, BitVec.getLsbD_xor]
theorem tb_0 (i : Nat) : tb_ 0 i = false := by unfold tb_; simp
theorem tb_m1 {i : Nat} (h : i < 64) : tb_ (-1) i = true := by
  unfold tb_
  rw [show (-1 : Int64).toBitVec = BitVec.allOnes 64 by decide, BitVec.getLsbD_allOnes]
  simp [h]
theorem tb_ge {a : Int64} {i : Nat} (h : 64 ≤ i) : tb_ a i = false := by unfold tb_; exact BitVec.getLsbD_of_ge _ _ h
theorem tb_ext {a b : Int64} (h : ∀ i, i < 64 → tb_ a i = tb_ b i) : a = b := Int64.toBitVec_inj.mp (BitVec.eq_of_getLsbD_eq (fun i hi => h i hi))
theorem bit_bv : ∀ r, r < 64 → ((1 : Int64) <<< ((nI r).toInt64 &&& 63)).toBitVec = BitVec.twoPow 64 r := by decide +kernel
theorem tb_bit {r i : Nat} (hr : r < 64) : tb_ ((1 : Int64) <<< ((nI r).toInt64 &&& 63)) i = decide (i = r) := by
  unfold tb_
  rw [bit_bv r hr, BitVec.getLsbD_twoPow]
  by_cases h : i = r
  · subst h; simp [hr]
  · have : ¬ r = i := fun e => h e.symm
    simp [h, this]
theorem ne0_bit {a : Int64} (h : ¬ a = 0) : ∃ i, i < 64 ∧ tb_ a i = true := by
  apply Classical.byContradiction
  intro hn
  apply h
  apply tb_ext
  intro i hi
  rw [tb_0]
  cases hb : tb_ a i with
  | false => rfl
  | true => exact absurd ⟨i, hi, hb⟩ hn
/-- the least bit of a set -/
theorem least_bit {a : Int64} (h : ¬ a = 0) : ∃ k, k < 64 ∧ tb_ a k = true ∧ ∀ j, j < k → tb_ a j = false := by
  obtain ⟨k, ⟨h1, h2⟩, h3⟩ := pk_least (fun i => i < 64 ∧ tb_ a i = true) (ne0_bit h)
  refine ⟨k, h1, h2, fun j hj => ?_⟩
  cases hb : tb_ a j with
  | false => rfl
  | true => exact absurd ⟨by omega, hb⟩ (h3 j hj)
/-- the greatest bit of a set -/
theorem great_bit {a : Int64} (h : ¬ a = 0) : ∃ k, k < 64 ∧ tb_ a k = true ∧ ∀ j, k < j → tb_ a j = false := by
  obtain ⟨k, ⟨h1, h2⟩, h3⟩ := pk_least (fun i => i < 64 ∧ tb_ a (63 - i) = true) (by
    obtain ⟨i, hi, hb⟩ := ne0_bit h
    exact ⟨63 - i, by omega, by rw [show 63 - (63 - i) = i by omega]; exact hb⟩)
  refine ⟨63 - k, by omega, h2, fun j hj => ?_⟩
  rcases Nat.lt_or_ge j 64 with c | c
  · cases hb : tb_ a j with
    | false => rfl
    | true => exact absurd ⟨show 63 - j < 64 by omega, by rw [show 63 - (63 - j) = j by omega]; exact hb⟩ (h3 (63 - j) (by omega))
  · exact tb_ge c
theorem tz_nat {n k : Nat} (h1 : n.testBit k = true) (h2 : ∀ j, j < k → n.testBit j = false) : ∃ q, n = 2 ^ (k + 1) * q + 2 ^ k := by
  have hm : n % 2 ^ k = 0 := by
    apply Nat.eq_of_testBit_eq
    intro j
    rw [Nat.testBit_mod_two_pow, Nat.zero_testBit]
    by_cases hj : j < k
    · rw [h2 j hj]; simp
    · simp [hj]
  have hb : n / 2 ^ k % 2 = 1 := by
    rw [Nat.testBit_eq_decide_div_mod_eq] at h1
    simpa using h1
  refine ⟨n / 2 ^ k / 2, ?_⟩
  have e1 := Nat.div_add_mod n (2 ^ k)
  have e2 := Nat.div_add_mod (n / 2 ^ k) 2
  rw [hm, Nat.add_zero] at e1
  rw [hb] at e2
  generalize n / 2 ^ k = t at e1 e2 ⊢
  generalize t / 2 = u at e2 ⊢
  rw [← e1, ← e2, Nat.pow_succ, Nat.mul_add, Nat.mul_one, Nat.mul_assoc]
theorem tz_bv {X : BitVec 32} {k : Nat} (hk : k < 32) (h1 : X.getLsbD k = true) (h2 : ∀ j, j < k → X.getLsbD j = false) : ~~~X &&& (X - 1#32) = BitVec.ofNat 32 (2 ^ k - 1) := by
  obtain ⟨q, hq⟩ := tz_nat (n := X.toNat) (k := k) h1 h2
  have hp : 0 < 2 ^ k := Nat.two_pow_pos k
  have hle : 1#32 ≤ X := by
    rw [BitVec.le_def]
    show 1 ≤ X.toNat
    rw [hq]; omega
  apply BitVec.eq_of_getLsbD_eq
  intro i hi
  rw [BitVec.getLsbD_and, BitVec.getLsbD_not]
  have e1 : (X - 1#32).getLsbD i = (X.toNat - 1).testBit i := by
    show (X - 1#32).toNat.testBit i = _
    rw [BitVec.toNat_sub_of_le hle]
    rfl
  have e2 : X.getLsbD i = X.toNat.testBit i := rfl
  have e3 : (BitVec.ofNat 32 (2 ^ k - 1)).getLsbD i = decide (i < k) := by
    rw [BitVec.getLsbD_ofNat, Nat.testBit_two_pow_sub_one]
    simp [hi]
  rw [e1, e2, e3, hq, show 2 ^ (k + 1) * q + 2 ^ k - 1 = 2 ^ (k + 1) * q + (2 ^ k - 1) by omega]
  have hlt : 2 ^ k < 2 ^ (k + 1) := Nat.pow_lt_pow_right (by omega) (by omega)
  rw [Nat.testBit_two_pow_mul_add _ hlt, Nat.testBit_two_pow_mul_add _ (show 2 ^ k - 1 < 2 ^ (k + 1) by omega), Nat.testBit_two_pow_sub_one, Nat.testBit_two_pow]
  by_cases c1 : i < k + 1
  · rw [if_pos c1, if_pos c1]
    by_cases c2 : i < k
    · have : ¬ k = i := by omega
      simp [c2, hi, this]
    · have : k = i := by omega
      simp [c2, this]
  · rw [if_neg c1, if_neg c1]
    have : ¬ i < k := by omega
    simp [this]
theorem tz_i32 {x : Int32} {k : Nat} (hk : k < 32) (h1 : x.toBitVec.getLsbD k = true) (h2 : ∀ j, j < k → x.toBitVec.getLsbD j = false) : (x ^^^ (-1 : Int32)) &&& (x - (1 : Int32)) = Int32.ofNat (2 ^ k - 1) := by
  apply Int32.toBitVec_inj.mp
  rw [Int32.toBitVec_and, Int32.toBitVec_xor, Int32.toBitVec_sub, show (-1 : Int32).toBitVec = BitVec.allOnes 32 by decide, BitVec.xor_allOnes]
  exact tz_bv hk h1 h2
theorem tz_tab : ∀ k, k < 32 → (lt_ (α := Int32) (Int32.ofNat (2 ^ k - 1)) (fun z1 => (if (0 : Int32) < z1 then (if z1 ≤ (65536 : Int32) then rr_J6_numberOfTrailingZeros_0f7a4_34 0 z1 (1 : Int32) else lt_ (α := Int32) ((1 : Int32) + (16 : Int32)) (fun z6 => lt_ (α := Int32) (z1.toUInt32 >>> ((16 : Int32).toUInt32 &&& Int32.toUInt32 31)).toInt32 (fun z7 => rr_J6_numberOfTrailingZeros_0f7a4_34 0 z7 z6))) else some (z1 &&& (32 : Int32)))) : Option Int32) = some (nI k) := by decide +kernel
theorem tz_6 (fu : Nat) {x : Int32} {k : Nat} (hk : k < 32) (h1 : x.toBitVec.getLsbD k = true) (h2 : ∀ j, j < k → x.toBitVec.getLsbD j = false) : rr_J6_numberOfTrailingZeros_0f7a4 fu x = some (nI k) := by
  have e : rr_J6_numberOfTrailingZeros_0f7a4_34 fu = rr_J6_numberOfTrailingZeros_0f7a4_34 0 := rfl
  unfold rr_J6_numberOfTrailingZeros_0f7a4
  rw [tz_i32 hk h1 h2, e]
  exact tz_tab k hk
theorem lo_bits (x : Int64) {i : Nat} (h : i < 32) : x.toInt32.toBitVec.getLsbD i = tb_ x i := by
  unfold tb_
  rw [Int64.toBitVec_toInt32, BitVec.getLsbD_signExtend]
  simp [h, show i < 64 by omega]
theorem hi_bits (x : Int64) {i : Nat} (h : i < 32) : (x.toUInt64 >>> ((32 : Int32).toInt64.toUInt64 &&& Int64.toUInt64 63)).toInt64.toInt32.toBitVec.getLsbD i = tb_ x (32 + i) := by
  rw [lo_bits _ h]
  unfold tb_
  rw [show ((32 : Int32).toInt64.toUInt64 &&& Int64.toUInt64 63) = (32 : UInt64) by decide]
  have : (x.toUInt64 >>> (32 : UInt64)).toInt64.toBitVec = x.toBitVec >>> 32 := rfl
  rw [this, BitVec.getLsbD_ushiftRight]
theorem lo_zero {x : Int64} : x.toInt32 = 0 ↔ ∀ i, i < 32 → tb_ x i = false := by
  constructor
  · intro h i hi
    rw [← lo_bits x hi, h]
    simp
  · intro h
    apply Int32.toBitVec_inj.mp
    apply BitVec.eq_of_getLsbD_eq
    intro i hi
    rw [lo_bits x hi, h i hi]
    simp
theorem tz_13 (fu : Nat) {x : Int64} {k : Nat} (hk : k < 64) (h1 : tb_ x k = true) (h2 : ∀ j, j < k → tb_ x j = false) : rr_J13_numberOfTrailingZeros_95d88 fu x = some (nI k) := by
  unfold rr_J13_numberOfTrailingZeros_95d88
  rw [lt_eq]
  rcases Nat.lt_or_ge k 32 with c | c
  · rw [if_neg (fun e => by rw [lo_zero.mp e k c] at h1; exact absurd h1 (by decide))]
    rw [tz_6 fu c (by rw [lo_bits x c]; exact h1) (fun j hj => by rw [lo_bits x (by omega)]; exact h2 j hj)]
    rfl
  · rw [if_pos (lo_zero.mpr (fun i hi => h2 i (by omega)))]
    rw [tz_6 fu (show k - 32 < 32 by omega) (by rw [hi_bits x (by omega), show 32 + (k - 32) = k by omega]; exact h1) (fun j hj => by rw [hi_bits x (by omega)]; exact h2 _ (by omega))]
    rw [Option.bind_some, show (32 : Int32) = nI 32 from rfl, nI_add, show 32 + (k - 32) = k by omega]
theorem and63 : ∀ k, k < 64 → nI k &&& (63 : Int32) = nI k := by decide +kernel
theorem r4_nextPaid (fu : Nat) {x : Int64} {k : Nat} (hk : k < 64) (h1 : tb_ x k = true) (h2 : ∀ j, j < k → tb_ x j = false) (rk : ZT_4) : rr_X4_nextPaid fu x rk = some (nI k) := by
  unfold rr_X4_nextPaid
  rw [tz_13 fu hk h1 h2, Option.bind_some, and63 k hk]
