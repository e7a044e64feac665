-- ===== the greatest bit =====
theorem pw_div {n k s : Nat} (hs : s ≤ k) (h1 : 2 ^ k ≤ n) (h2 : n < 2 ^ (k + 1)) : 2 ^ (k - s) ≤ n / 2 ^ s ∧ n / 2 ^ s < 2 ^ (k - s + 1) := by
  have e : 2 ^ k = 2 ^ (k - s) * 2 ^ s := by rw [← Nat.pow_add]; congr 1; omega
  have hp : 0 < 2 ^ s := Nat.two_pow_pos s
  constructor
  · rw [Nat.le_div_iff_mul_le hp, ← e]; exact h1
  · rw [Nat.div_lt_iff_lt_mul hp, Nat.pow_succ, Nat.mul_assoc, Nat.mul_comm 2, ← Nat.mul_assoc, ← e]
    rw [Nat.pow_succ] at h2; exact h2
theorem pw_lt {n k s : Nat} (h1 : 2 ^ k ≤ n) (h2 : n < 2 ^ s) : k < s := by
  rcases Nat.lt_or_ge k s with c | c
  · exact c
  · have := Nat.pow_le_pow_right (n := 2) (by omega) c
    omega
theorem pw_ge {n k s : Nat} (h1 : n < 2 ^ (k + 1)) (h2 : 2 ^ s ≤ n) : s ≤ k := by
  rcases Nat.lt_or_ge k s with c | c
  · have := Nat.pow_le_pow_right (n := 2) (by omega) (show k + 1 ≤ s by omega)
    omega
  · exact c
theorem sub_lit {y d : Nat} (h : d ≤ y) {v : Int32} (hv : v = -nI d) : nI y + v = nI (y - d) := by
  rw [hv, ← Int32.sub_eq_add_neg]
  exact pk_sub h
theorem lz73 (fu : Nat) {n k y : Nat} (hk : k < 2) (hy : k ≤ y) (h1 : 2 ^ k ≤ n) (h2 : n < 2 ^ (k + 1)) : rr_J6_numberOfLeadingZeros_0f7a4_73 fu (nI n) (nI y) = some (nI (y - k)) := by
  unfold rr_J6_numberOfLeadingZeros_0f7a4_73
  have hn : n < 4 := by rcases (show k = 0 ∨ k = 1 by omega) with rfl | rfl <;> omega
  rw [pk_ushrN (by omega) (1 : Int32) 1 (by decide)]
  have : n / 2 ^ 1 = k := by rcases (show k = 0 ∨ k = 1 by omega) with rfl | rfl <;> omega
  rw [this, pk_sub hy]
theorem lz61 (fu : Nat) {n k y : Nat} (hk : k < 4) (hy : k ≤ y) (h1 : 2 ^ k ≤ n) (h2 : n < 2 ^ (k + 1)) : rr_J6_numberOfLeadingZeros_0f7a4_61 fu (nI n) (nI y) = some (nI (y - k)) := by
  unfold rr_J6_numberOfLeadingZeros_0f7a4_61
  have hn : n < 2 ^ 4 := Nat.lt_of_lt_of_le h2 (Nat.pow_le_pow_right (by omega) (by omega))
  by_cases c : n < 2 ^ 2
  · rw [if_pos (show nI n < (4 : Int32) from nI_lt (b := 4) (by omega) (by omega))]
    exact lz73 fu (pw_lt h1 c) hy h1 h2
  · rw [if_neg (show ¬ nI n < (4 : Int32) from nI_nlt (b := 4) (by omega) (by omega))]
    have hs := pw_ge h2 (show 2 ^ 2 ≤ n by omega)
    rw [lt_eq, lt_eq, pk_ushrN (by omega) (2 : Int32) 2 (by decide), sub_lit (y := y) (d := 2) (v := (-2 : Int32)) (by omega) (by decide)]
    have hd := pw_div hs h1 h2
    rw [lz73 fu (show k - 2 < 2 by omega) (by omega) hd.1 hd.2]
    congr 2; omega
theorem lz48 (fu : Nat) {n k y : Nat} (hk : k < 8) (hy : k ≤ y) (h1 : 2 ^ k ≤ n) (h2 : n < 2 ^ (k + 1)) : rr_J6_numberOfLeadingZeros_0f7a4_48 fu (nI n) (nI y) = some (nI (y - k)) := by
  unfold rr_J6_numberOfLeadingZeros_0f7a4_48
  have hn : n < 2 ^ 8 := Nat.lt_of_lt_of_le h2 (Nat.pow_le_pow_right (by omega) (by omega))
  by_cases c : n < 2 ^ 4
  · rw [if_pos (show nI n < (16 : Int32) from nI_lt (b := 16) (by omega) (by omega))]
    exact lz61 fu (pw_lt h1 c) hy h1 h2
  · rw [if_neg (show ¬ nI n < (16 : Int32) from nI_nlt (b := 16) (by omega) (by omega))]
    have hs := pw_ge h2 (show 2 ^ 4 ≤ n by omega)
    rw [lt_eq, lt_eq, pk_ushrN (by omega) (4 : Int32) 4 (by decide), sub_lit (y := y) (d := 4) (v := (-4 : Int32)) (by omega) (by decide)]
    have hd := pw_div hs h1 h2
    rw [lz61 fu (show k - 4 < 4 by omega) (by omega) hd.1 hd.2]
    congr 2; omega
theorem lz33 (fu : Nat) {n k y : Nat} (hk : k < 16) (hy : k ≤ y) (h1 : 2 ^ k ≤ n) (h2 : n < 2 ^ (k + 1)) : rr_J6_numberOfLeadingZeros_0f7a4_33 fu (nI n) (nI y) = some (nI (y - k)) := by
  unfold rr_J6_numberOfLeadingZeros_0f7a4_33
  have hn : n < 2 ^ 16 := Nat.lt_of_lt_of_le h2 (Nat.pow_le_pow_right (by omega) (by omega))
  by_cases c : n < 2 ^ 8
  · rw [if_pos (show nI n < (256 : Int32) from nI_lt (b := 256) (by omega) (by omega))]
    exact lz48 fu (pw_lt h1 c) hy h1 h2
  · rw [if_neg (show ¬ nI n < (256 : Int32) from nI_nlt (b := 256) (by omega) (by omega))]
    have hs := pw_ge h2 (show 2 ^ 8 ≤ n by omega)
    rw [lt_eq, lt_eq, pk_ushrN (by omega) (8 : Int32) 8 (by decide), sub_lit (y := y) (d := 8) (v := (-8 : Int32)) (by omega) (by decide)]
    have hd := pw_div hs h1 h2
    rw [lz48 fu (show k - 8 < 8 by omega) (by omega) hd.1 hd.2]
    congr 2; omega
theorem lz_6 (fu : Nat) {x : Int32} {k : Nat} (hk : k < 32) (h1 : x.toBitVec.getLsbD k = true) (h2 : ∀ j, k < j → x.toBitVec.getLsbD j = false) : rr_J6_numberOfLeadingZeros_0f7a4 fu x = some (nI (31 - k)) := by
  have g1 : 2 ^ k ≤ x.toBitVec.toNat := Nat.ge_two_pow_of_testBit h1
  have g2 : x.toBitVec.toNat < 2 ^ (k + 1) := Nat.lt_pow_two_of_testBit _ (fun i hi => h2 i (by omega))
  have ex : x = nI x.toBitVec.toNat := by
    apply Int32.toBitVec_inj.mp
    show x.toBitVec = BitVec.ofNat 32 x.toBitVec.toNat
    rw [BitVec.ofNat_toNat, BitVec.setWidth_eq]
  generalize x.toBitVec.toNat = n at g1 g2 ex
  unfold rr_J6_numberOfLeadingZeros_0f7a4
  rcases Nat.lt_or_ge k 31 with c | c
  · have hn : n < 2 ^ 31 := Nat.lt_of_lt_of_le g2 (Nat.pow_le_pow_right (by omega) (by omega))
    have hp : 0 < 2 ^ k := Nat.two_pow_pos k
    rw [ex, if_pos (show (0 : Int32) < nI n from nI_lt (a := 0) (by omega) (by omega))]
    by_cases c2 : n < 2 ^ 16
    · rw [if_pos (show nI n < (65536 : Int32) from nI_lt (b := 65536) (by omega) (by omega))]
      exact lz33 fu (y := 31) (pw_lt g1 c2) (by omega) g1 g2
    · rw [if_neg (show ¬ nI n < (65536 : Int32) from nI_nlt (b := 65536) (by omega) (by omega))]
      have hs := pw_ge g2 (show 2 ^ 16 ≤ n by omega)
      rw [lt_eq, lt_eq, pk_ushrN (by omega) (16 : Int32) 16 (by decide), show ((31 : Int32) + (-16 : Int32)) = nI 15 by decide]
      have hd := pw_div hs g1 g2
      rw [lz33 fu (show k - 16 < 16 by omega) (by omega) hd.1 hd.2]
      congr 2; omega
  · have e31 : k = 31 := by omega
    subst e31
    have hneg : ¬ (0 : Int32) < x := by
      intro h
      rw [i32_lt] at h
      have : x.toBitVec.msb = true := by rw [BitVec.msb_eq_getLsbD_last]; exact h1
      have h3 : x.toInt < 0 := by
        show x.toBitVec.toInt < 0
        exact BitVec.toInt_neg_of_msb_true this
      have e0 : (0 : Int32).toInt = 0 := by decide
      omega
    have hne : ¬ x = 0 := by
      intro h
      rw [h] at h1
      simp at h1
    rw [if_neg hneg, if_neg hne]
    rfl
theorem hi_zero {x : Int64} : (x.toUInt64 >>> ((32 : Int32).toInt64.toUInt64 &&& Int64.toUInt64 63)).toInt64.toInt32 = 0 ↔ ∀ i, i < 32 → tb_ x (32 + i) = false := by
  constructor
  · intro h i hi
    rw [← hi_bits x hi, h]
    simp
  · intro h
    apply Int32.toBitVec_inj.mp
    apply BitVec.eq_of_getLsbD_eq
    intro i hi
    rw [hi_bits x hi, h i hi]
    simp
theorem lz_13 (fu : Nat) {x : Int64} {k : Nat} (hk : k < 64) (h1 : tb_ x k = true) (h2 : ∀ j, k < j → tb_ x j = false) : rr_J13_numberOfLeadingZeros_95d88 fu x = some (nI (63 - k)) := by
  unfold rr_J13_numberOfLeadingZeros_95d88
  rw [lt_eq]
  rcases Nat.lt_or_ge k 32 with c | c
  · rw [if_pos (hi_zero.mpr (fun i hi => h2 _ (by omega)))]
    rw [lz_6 fu c (by rw [lo_bits x c]; exact h1) (fun j hj => by
      rcases Nat.lt_or_ge j 32 with d | d
      · rw [lo_bits x d]; exact h2 j hj
      · exact BitVec.getLsbD_of_ge _ _ d)]
    rw [Option.bind_some, show (32 : Int32) = nI 32 from rfl, nI_add]
    congr 2; omega
  · rw [if_neg (fun e => by have := hi_zero.mp e (k - 32) (by omega); rw [show 32 + (k - 32) = k by omega, h1] at this; exact absurd this (by decide))]
    rw [lz_6 fu (show k - 32 < 32 by omega) (by rw [hi_bits x (by omega), show 32 + (k - 32) = k by omega]; exact h1) (fun j hj => by
      rcases Nat.lt_or_ge j 32 with d | d
      · rw [hi_bits x d]; exact h2 _ (by omega)
      · exact BitVec.getLsbD_of_ge _ _ d)]
    rw [Option.bind_some]
    congr 2; omega
theorem nb63 : ∀ k, k < 64 → ((63 : Int32) - nI (63 - k)) &&& (63 : Int32) = nI k := by decide +kernel
theorem r4_nextBack (fu : Nat) {x : Int64} {k j : Nat} (hk : k < 64) (h1 : tb_ x k = true) (h2 : ∀ i, k < i → tb_ x i = false) (rk : ZT_4) (hj : j < 64) (h3 : tb_ (x &&& rk.2.2.2.2.2 k) j = true) (h4 : ∀ i, i < j → tb_ (x &&& rk.2.2.2.2.2 k) i = false) : rr_X4_nextBack fu x rk = some (nI j) := by
  unfold rr_X4_nextBack
  rw [lz_13 fu hk h1 h2, Option.bind_some, lt_eq, nb63 k hk, ck_in hk (by omega), nI_clamp (by omega), tz_13 fu hj h3 h4, Option.bind_some, and63 j hj]
