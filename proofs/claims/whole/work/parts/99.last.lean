def U_ (x : Int64) : Nat := x.toBitVec.toNat
theorem U_lt (x : Int64) : U_ x < 2 ^ 64 := x.toBitVec.isLt
theorem U_and (a b : Int64) : U_ (a &&& b) = U_ a &&& U_ b := by unfold U_; rw [Int64.toBitVec_and, BitVec.toNat_and]
theorem U_add {a b : Int64} (h : U_ a + U_ b < 2 ^ 64) : U_ (a + b) = U_ a + U_ b := by
  unfold U_ at *; rw [Int64.toBitVec_add, BitVec.toNat_add, Nat.mod_eq_of_lt h]
theorem U_sub {a b : Int64} (h : U_ b ≤ U_ a) : U_ (a - b) = U_ a - U_ b := by
  unfold U_ at *; rw [Int64.toBitVec_sub, BitVec.toNat_sub_of_le (BitVec.le_def.mpr h)]
theorem U_shr (x : Int64) {c : UInt64} {k : Nat} (hk : c.toBitVec % 64 = BitVec.ofNat 64 k) (h : k < 64) : U_ (x.toUInt64 >>> c).toInt64 = U_ x >>> k := by
  unfold U_
  show (x.toBitVec >>> (c.toBitVec % 64)).toNat = _
  rw [hk, BitVec.ushiftRight_eq', BitVec.toNat_ushiftRight, BitVec.toNat_ofNat, Nat.mod_eq_of_lt (by omega)]
/-- how many bits of a nibble -/
def pc4 (d : Nat) : Nat := d % 2 + d / 2 % 2 + d / 4 % 2 + d / 8 % 2
theorem pc_a : ∀ d, d < 16 → (d >>> 1) &&& 5 ≤ d := by decide
theorem pc_b : ∀ d, d < 16 → ((d - ((d >>> 1) &&& 5)) >>> 0 &&& 3) + ((d - ((d >>> 1) &&& 5)) >>> 2 &&& 3) = pc4 d := by decide
theorem pc_4 : ∀ d, d < 16 → pc4 d ≤ 4 := by decide
theorem pc_c : ∀ d, d < 9 → d >>> 0 &&& 15 = d := by decide
theorem hmask5 : U_ (6148914691236517205 : Int64) = HH 4 (fun _ => 5) 16 := by decide +kernel
theorem hmask3 : U_ (3689348814741910323 : Int64) = HH 4 (fun _ => 3) 16 := by decide +kernel
theorem hmaskF : U_ (1085102592571150095 : Int64) = HH 4 (fun i => if i % 2 = 0 then 15 else 0) 16 := by decide +kernel
/-- the nibbles' counts, then two by two, and so on -/
def cutAt (k : Nat) (g : Nat → Nat) : Nat → Nat := fun i => if i < k then g i else 0
theorem hh_cut {w k : Nat} (g : Nat → Nat) : HH w (cutAt k g) k = HH w g k := hh_congr k (fun i hi => by unfold cutAt; rw [if_pos hi])
/-- a row of bytes, and the same t places lower, together -/
theorem hh_fold {w : Nat} (t k : Nat) (g : Nat → Nat) (h : ∀ i, g i < 2 ^ w) (hz : ∀ i, k + t ≤ i → g i = 0) : HH w g (k + t) >>> (w * t) = HH w (fun i => g (i + t)) (k + t) := by
  rw [hh_shr t k g h, hh_pad t k (fun i => g (i + t)) (fun i hi => hz (i + t) (by omega))]
def sumN (f : Nat → Nat) : Nat → Nat
  | 0 => 0
  | n + 1 => sumN f n + f n
theorem r13_bitCount (fu : Nat) (x : Int64) : rr_J13_bitCount_95d88 fu x = some (nI (sumN (fun i => pc4 (U_ x / 2 ^ (4 * i) % 2 ^ 4)) 16)) := by
  unfold rr_J13_bitCount_95d88
  simp only [lt_eq]
  have hd : ∀ i, U_ x / 2 ^ (4 * i) % 2 ^ 4 < 16 := fun i => Nat.mod_lt _ (by omega)
  have hself := hh_self (w := 4) 16 (U_ x) (U_lt x)
  generalize he : (fun i => U_ x / 2 ^ (4 * i) % 2 ^ 4) = d at hself
  have hd : ∀ i, d i < 16 := fun i => by rw [← he]; exact Nat.mod_lt _ (by omega)
  have hdz : ∀ i, 16 ≤ i → d i = 0 := by
    intro i hi
    rw [← he]
    have h1 : 2 ^ 64 ≤ 2 ^ (4 * i) := Nat.pow_le_pow_right (by omega) (by omega)
    show U_ x / 2 ^ (4 * i) % 2 ^ 4 = 0
    rw [Nat.div_eq_of_lt (Nat.lt_of_lt_of_le (U_lt x) h1)]
  -- the first row
  generalize h1 : x - ((x.toUInt64 >>> ((1 : Int32).toInt64.toUInt64 &&& Int64.toUInt64 63)).toInt64 &&& (6148914691236517205 : Int64)) = z1
  have u1 : U_ z1 = HH 4 (fun i => d i - ((d i >>> 1) &&& 5)) 16 := by
    have e1 : U_ ((x.toUInt64 >>> ((1 : Int32).toInt64.toUInt64 &&& Int64.toUInt64 63)).toInt64 &&& (6148914691236517205 : Int64)) = HH 4 (fun i => (d i >>> 1) &&& 5) 16 := by
      rw [U_and, U_shr x (k := 1) (by decide) (by omega), hmask5, hh_mask (by omega) 16 _ 1 (fun _ => 5) (by omega) (fun _ => by omega), ← he]
    have e2 := hh_sub (w := 4) 16 d (fun i => (d i >>> 1) &&& 5) (fun i _ => pc_a (d i) (hd i))
    rw [hself] at e2
    rw [← h1, U_sub (by rw [e1]; exact e2.1), e1, e2.2]
  have b1 : ∀ i, d i - ((d i >>> 1) &&& 5) < 2 ^ 4 := fun i => by have := hd i; omega
  -- the second
  generalize h3 : (z1 &&& (3689348814741910323 : Int64)) + ((z1.toUInt64 >>> ((2 : Int32).toInt64.toUInt64 &&& Int64.toUInt64 63)).toInt64 &&& (3689348814741910323 : Int64)) = z3
  have u3 : U_ z3 = HH 4 (fun i => pc4 (d i)) 16 := by
    have e1 : U_ (z1 &&& (3689348814741910323 : Int64)) = HH 4 (fun i => (d i - ((d i >>> 1) &&& 5)) >>> 0 &&& 3) 16 := by
      rw [U_and, hmask3, ← Nat.shiftRight_zero (n := U_ z1), hh_mask (by omega) 16 _ 0 (fun _ => 3) (by omega) (fun _ => by omega), u1]
      exact hh_congr 16 (fun i hi => by rw [hh_dig 16 _ b1 i hi])
    have e2 : U_ ((z1.toUInt64 >>> ((2 : Int32).toInt64.toUInt64 &&& Int64.toUInt64 63)).toInt64 &&& (3689348814741910323 : Int64)) = HH 4 (fun i => (d i - ((d i >>> 1) &&& 5)) >>> 2 &&& 3) 16 := by
      rw [U_and, U_shr z1 (k := 2) (by decide) (by omega), hmask3, hh_mask (by omega) 16 _ 2 (fun _ => 3) (by omega) (fun _ => by omega), u1]
      exact hh_congr 16 (fun i hi => by rw [hh_dig 16 _ b1 i hi])
    have e3 : HH 4 (fun i => (d i - ((d i >>> 1) &&& 5)) >>> 0 &&& 3) 16 + HH 4 (fun i => (d i - ((d i >>> 1) &&& 5)) >>> 2 &&& 3) 16 = HH 4 (fun i => pc4 (d i)) 16 := by
      rw [hh_add]
      exact hh_congr 16 (fun i _ => pc_b (d i) (hd i))
    have e4 := hh_lt (w := 4) 16 (fun i => pc4 (d i)) (fun i => by have := pc_4 (d i) (hd i); omega)
    rw [← h3, U_add (by rw [e1, e2, e3]; exact e4), e1, e2, e3]
  have b3 : ∀ i, pc4 (d i) ≤ 4 := fun i => pc_4 (d i) (hd i)
  have z3z : ∀ i, 16 ≤ i → pc4 (d i) = 0 := fun i hi => by rw [hdz i hi]; rfl
  -- the third: by bytes
  generalize h5 : (z3 + (z3.toUInt64 >>> ((4 : Int32).toInt64.toUInt64 &&& Int64.toUInt64 63)).toInt64) &&& (1085102592571150095 : Int64) = z5
  have u5 : U_ z5 = HH 8 (fun j => pc4 (d (2 * j)) + pc4 (d (2 * j + 1))) 8 := by
    have e1 : U_ (z3.toUInt64 >>> ((4 : Int32).toInt64.toUInt64 &&& Int64.toUInt64 63)).toInt64 = HH 4 (fun i => pc4 (d (i + 1))) 16 := by
      rw [U_shr z3 (k := 4) (by decide) (by omega), u3]
      exact hh_fold (w := 4) 1 15 (fun i => pc4 (d i)) (fun i => by have := b3 i; omega) z3z
    have e2 : U_ z3 + U_ (z3.toUInt64 >>> ((4 : Int32).toInt64.toUInt64 &&& Int64.toUInt64 63)).toInt64 = HH 4 (fun i => pc4 (d i) + pc4 (d (i + 1))) 16 := by
      rw [e1, u3, hh_add]
    have b : ∀ i, pc4 (d i) + pc4 (d (i + 1)) < 2 ^ 4 := fun i => by have := b3 i; have := b3 (i + 1); omega
    rw [← h5, U_and, U_add (by rw [e2]; exact hh_lt (w := 4) 16 _ b), e2, hmaskF, ← Nat.shiftRight_zero (n := HH 4 _ 16), hh_mask (by omega) 16 _ 0 _ (by omega) (fun i => by split <;> omega)]
    rw [hh_congr 16 (g := fun i => if i % 2 = 0 then pc4 (d i) + pc4 (d (i + 1)) else 0) (fun i hi => by
      rw [hh_dig 16 _ b i hi]
      by_cases c : i % 2 = 0
      · rw [if_pos c, if_pos c]
        exact pc_c _ (by have := b3 i; have := b3 (i + 1); omega)
      · rw [if_neg c, if_neg c]; simp)]
    rw [show (16 : Nat) = 2 * 8 from rfl, hh_48]
    exact hh_congr 8 (fun j _ => by
      rw [if_pos (by omega), if_neg (by omega)]; omega)
  generalize hh : (fun j => pc4 (d (2 * j)) + pc4 (d (2 * j + 1))) = h at u5
  have bh : ∀ j, h j ≤ 8 := fun j => by rw [← hh]; have := b3 (2 * j); have := b3 (2 * j + 1); show pc4 _ + pc4 _ ≤ 8; omega
  have hz : ∀ j, 8 ≤ j → h j = 0 := fun j hj => by rw [← hh]; show pc4 _ + pc4 _ = 0; rw [z3z _ (by omega), z3z _ (by omega)]
  -- then the bytes together
  generalize h7 : z5 + (z5.toUInt64 >>> ((8 : Int32).toInt64.toUInt64 &&& Int64.toUInt64 63)).toInt64 = z7
  have u7 : U_ z7 = HH 8 (fun j => h j + h (j + 1)) 8 := by
    have e1 : U_ (z5.toUInt64 >>> ((8 : Int32).toInt64.toUInt64 &&& Int64.toUInt64 63)).toInt64 = HH 8 (fun j => h (j + 1)) 8 := by
      rw [U_shr z5 (k := 8) (by decide) (by omega), u5]
      exact hh_fold (w := 8) 1 7 h (fun i => by have := bh i; omega) hz
    have e2 : U_ z5 + U_ (z5.toUInt64 >>> ((8 : Int32).toInt64.toUInt64 &&& Int64.toUInt64 63)).toInt64 = HH 8 (fun j => h j + h (j + 1)) 8 := by rw [e1, u5, hh_add]
    rw [← h7, U_add (by rw [e2]; exact hh_lt (w := 8) 8 _ (fun i => by have := bh i; have := bh (i + 1); omega)), e2]
  generalize h9 : z7 + (z7.toUInt64 >>> ((16 : Int32).toInt64.toUInt64 &&& Int64.toUInt64 63)).toInt64 = z9
  have u9 : U_ z9 = HH 8 (fun j => (h j + h (j + 1)) + (h (j + 2) + h (j + 2 + 1))) 8 := by
    have e1 : U_ (z7.toUInt64 >>> ((16 : Int32).toInt64.toUInt64 &&& Int64.toUInt64 63)).toInt64 = HH 8 (fun j => h (j + 2) + h (j + 2 + 1)) 8 := by
      rw [U_shr z7 (k := 16) (by decide) (by omega), u7]
      exact hh_fold (w := 8) 2 6 (fun j => h j + h (j + 1)) (fun i => by have := bh i; have := bh (i + 1); omega) (fun i hi => by rw [hz i hi, hz (i + 1) (by omega)])
    have e2 : U_ z7 + U_ (z7.toUInt64 >>> ((16 : Int32).toInt64.toUInt64 &&& Int64.toUInt64 63)).toInt64 = HH 8 (fun j => (h j + h (j + 1)) + (h (j + 2) + h (j + 2 + 1))) 8 := by rw [e1, u7, hh_add]
    rw [← h9, U_add (by rw [e2]; exact hh_lt (w := 8) 8 _ (fun i => by have := bh i; have := bh (i + 1); have := bh (i + 2); have := bh (i + 2 + 1); omega)), e2]
  generalize h11 : z9 + (z9.toUInt64 >>> ((32 : Int32).toInt64.toUInt64 &&& Int64.toUInt64 63)).toInt64 = z11
  have u11 : U_ z11 = HH 8 (fun j => ((h j + h (j + 1)) + (h (j + 2) + h (j + 2 + 1))) + ((h (j + 4) + h (j + 4 + 1)) + (h (j + 4 + 2) + h (j + 4 + 2 + 1)))) 8 := by
    have e1 : U_ (z9.toUInt64 >>> ((32 : Int32).toInt64.toUInt64 &&& Int64.toUInt64 63)).toInt64 = HH 8 (fun j => (h (j + 4) + h (j + 4 + 1)) + (h (j + 4 + 2) + h (j + 4 + 2 + 1))) 8 := by
      rw [U_shr z9 (k := 32) (by decide) (by omega), u9]
      exact hh_fold (w := 8) 4 4 (fun j => (h j + h (j + 1)) + (h (j + 2) + h (j + 2 + 1))) (fun i => by have := bh i; have := bh (i + 1); have := bh (i + 2); have := bh (i + 2 + 1); omega) (fun i hi => by rw [hz i hi, hz (i + 1) (by omega), hz (i + 2) (by omega), hz (i + 2 + 1) (by omega)])
    have e2 : U_ z9 + U_ (z9.toUInt64 >>> ((32 : Int32).toInt64.toUInt64 &&& Int64.toUInt64 63)).toInt64 = HH 8 (fun j => ((h j + h (j + 1)) + (h (j + 2) + h (j + 2 + 1))) + ((h (j + 4) + h (j + 4 + 1)) + (h (j + 4 + 2) + h (j + 4 + 2 + 1)))) 8 := by rw [e1, u9, hh_add]
    rw [← h11, U_add (by rw [e2]; exact hh_lt (w := 8) 8 _ (fun i => by have := bh i; have := bh (i + 1); have := bh (i + 2); have := bh (i + 2 + 1); have := bh (i + 4); have := bh (i + 4 + 1); have := bh (i + 4 + 2); have := bh (i + 4 + 2 + 1); omega)), e2]
  rw [pk_and _ 7 (by decide)]
  congr 2
  have e1 : z11.toInt32.toBitVec.toNat = U_ z11 % 2 ^ 32 := by
    unfold U_
    rw [Int64.toBitVec_toInt32]
    show (BitVec.signExtend 32 z11.toBitVec).toNat = _
    rw [BitVec.signExtend_eq_setWidth_of_le _ (by omega), BitVec.toNat_setWidth]
  rw [e1, u11]
  show (2 ^ 8 * HH 8 _ 7 + (((h 0 + h 1) + (h 2 + h 3)) + ((h 4 + h 5) + (h 6 + h 7)))) % 2 ^ 32 % 2 ^ 7 = _
  generalize HH 8 _ 7 = Z
  have hs : sumN (fun i => pc4 (d i)) 16 = h 0 + h 1 + h 2 + h 3 + h 4 + h 5 + h 6 + h 7 := by
    rw [← hh]
    show 0 + pc4 (d 0) + pc4 (d 1) + pc4 (d 2) + pc4 (d 3) + pc4 (d 4) + pc4 (d 5) + pc4 (d 6) + pc4 (d 7) + pc4 (d 8) + pc4 (d 9) + pc4 (d 10) + pc4 (d 11) + pc4 (d 12) + pc4 (d 13) + pc4 (d 14) + pc4 (d 15) = (pc4 (d 0) + pc4 (d 1)) + (pc4 (d 2) + pc4 (d 3)) + (pc4 (d 4) + pc4 (d 5)) + (pc4 (d 6) + pc4 (d 7)) + (pc4 (d 8) + pc4 (d 9)) + (pc4 (d 10) + pc4 (d 11)) + (pc4 (d 12) + pc4 (d 13)) + (pc4 (d 14) + pc4 (d 15))
    omega
  have := bh 0; have := bh 1; have := bh 2; have := bh 3; have := bh 4; have := bh 5; have := bh 6; have := bh 7
  have e2 : (fun i => pc4 (U_ x / 2 ^ (4 * i) % 2 ^ 4)) = fun i => pc4 (d i) := by rw [← he]
  rw [e2, hs]
  omega
