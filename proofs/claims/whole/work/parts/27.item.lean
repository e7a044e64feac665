theorem cut8 (v : Int64) : (v <<< ((56 : Int32).toInt64 &&& 63)) >>> ((56 : Int32).toInt64 &&& 63) = v.toInt32.toInt8.toInt32.toInt64 := by
  apply Int64.toBitVec_inj.mp
  rw [show ((56 : Int32).toInt64 &&& 63) = (56 : Int64) by decide]
  rw [Int64.toBitVec_shiftRight, Int64.toBitVec_shiftLeft, show ((56 : Int64).toBitVec.smod 64) = 56#64 by decide]
  simp only [Int32.toBitVec_toInt64, Int8.toBitVec_toInt32, Int32.toBitVec_toInt8, Int64.toBitVec_toInt32]
  apply BitVec.eq_of_getLsbD_eq
  intro i hi
  simp only [BitVec.sshiftRight_eq', BitVec.shiftLeft_eq', BitVec.getLsbD_sshiftRight, BitVec.getLsbD_shiftLeft, BitVec.getLsbD_signExtend, BitVec.getLsbD_setWidth, BitVec.msb_eq_getLsbD_last, show (56#64).toNat = 56 by decide]
  by_cases h8 : i < 8
  · have h1 : 56 + i < 64 := by omega
    have h2 : ¬ 56 + i < 56 := by omega
    have h3 : 56 + i - 56 = i := by omega
    simp [hi, h8, h1, h2, h3, show i < 32 by omega]
  · have h1 : ¬ 56 + i < 64 := by omega
    have h4 : ¬ 64 ≤ i := by omega
    by_cases h32 : i < 32
    · simp [hi, h8, h1, h32, h4]
    · simp [hi, h8, h1, h32, h4]
theorem cut32 (v : Int64) : (v <<< ((32 : Int32).toInt64 &&& 63)) >>> ((32 : Int32).toInt64 &&& 63) = v.toInt32.toInt64 := by
  apply Int64.toBitVec_inj.mp
  rw [show ((32 : Int32).toInt64 &&& 63) = (32 : Int64) by decide]
  rw [Int64.toBitVec_shiftRight, Int64.toBitVec_shiftLeft, show ((32 : Int64).toBitVec.smod 64) = 32#64 by decide]
  simp only [Int32.toBitVec_toInt64, Int64.toBitVec_toInt32]
  apply BitVec.eq_of_getLsbD_eq
  intro i hi
  simp only [BitVec.sshiftRight_eq', BitVec.shiftLeft_eq', BitVec.getLsbD_sshiftRight, BitVec.getLsbD_shiftLeft, BitVec.getLsbD_signExtend, BitVec.getLsbD_setWidth, BitVec.msb_eq_getLsbD_last, show (32#64).toNat = 32 by decide]
  by_cases h8 : i < 32
  · have h1 : 32 + i < 64 := by omega
    have h2 : ¬ 32 + i < 32 := by omega
    have h3 : 32 + i - 32 = i := by omega
    simp [hi, h8, h1, h2, h3]
  · have h1 : ¬ 32 + i < 64 := by omega
    simp [hi, h8, h1]
/-- one item is put into a sheet -/
theorem sheetR_put {sh : ZT_5} {la rs : Nat → Int32} {it : Nat → Int64} (hS : SheetR sh la rs it) {k f : Nat} (hk : k < 4) (hf : f < 24) (v : Int64) : SheetR (sh.1, sh.2.1, vp_updL sh.2.2 (24 * k + f) v) la rs (vp_updL it (24 * k + f) v) := by
  intro j hj
  obtain ⟨h1, h2⟩ := hS j hj
  refine ⟨h1, ?_⟩
  rcases h2 with h2 | ⟨h2, n, hn, s1, s2, h3⟩
  · exact Or.inl h2
  · refine Or.inr ⟨h2, n, hn, s1, s2, fun i hi => ?_⟩
    show vp_updL _ _ _ _ = vp_updL _ _ _ _
    by_cases he : 24 * j + i = 24 * k + f
    · rw [he, pk_uLs, pk_uLs]
    · rw [pk_uLn he, pk_uLn he]; exact h3 i hi
theorem r5_write (fu : Nat) {sh : ZT_5} {k f : Nat} (hk : k < 4) (hf : f < 24) (v : Int64) : rr_X5_write fu (nI k) (nI f) v sh = some (sh.1, sh.2.1, vp_updL sh.2.2 (24 * k + f) (if sh.1 k = 0 then v.toInt32.toInt8.toInt32.toInt64 else if sh.1 k = 1 then v.toInt32.toInt64 else v)) := by
  unfold rr_X5_write rr_X5_write_36
  simp only [ck_in hk (show 4 < 2 ^ 31 by omega), nI_clamp (show k < 2 ^ 31 by omega), mul24, ck_in (show 24 * k + f < 96 by omega) (by omega), nI_clamp (show 24 * k + f < 2 ^ 31 by omega), lt_eq]
  split
  · rfl
  · split <;> rfl
theorem st_item (fu : Nat) : St_item fu Rel := by
  intro x y z v c m h
  unfold rr_X9_item rr_X10_item
  simp only [r9_within, r9_isHolder, r9_isYear, r9_isPurse, r9_isShop, r9_isSum, r9_isSheet, r9_isLane, r9_isCoin, r9_isBill, r10_isHolder, r10_isPurse, r10_isShop, r10_isSum, r10_isCoin, r10_isBill, r10_isSheet, in_1_99, in_0_99, in_0_3, in_0_4, in_1_50, in_0_5, in_m1_5, in_1_4, in_1_8, Option.bind_some, it_10, it_01, zk_b, zk_1, zk_0, lt_eq]
  have h0 := h
  obtain ⟨hT, hI, hP, hS, hK⟩ := h
  by_cases hx : 0 ≤ x ∧ x ≤ 3
  · rw [if_neg (not_not_intro hx)]
    by_cases hy : 0 ≤ y ∧ y ≤ 2
    · rw [if_neg (not_not_intro hy), if_neg (not_not_intro ⟨hx, hy⟩)]
      obtain ⟨k, hk, rfl⟩ := nat_of 3 (by omega) rfl hx.1 hx.2
      obtain ⟨q, f1, f2, hq⟩ := refus fu hS (show k < 4 by omega) (show 1 ≤ 40 by omega) hy z
      rw [show (1 : Int32) = nI 1 from rfl] at *
      rw [f1, f2]
      simp only [Option.bind_some]
      rcases hq with ⟨q1, q2⟩ | ⟨rfl, hl, hl2, n, f, hn, rfl, hfn, s1, s2, h3⟩
      · rw [if_neg q2, if_neg q1]
        exact ⟨_, _, _, rfl, rfl, h0⟩
      · rw [if_pos rfl, if_pos (by decide), r5_write fu (show k < 4 by omega) (show f < 24 by omega)]
        simp only [Option.bind_some, mul24', ck_in (show 24 * k + f < 96 by omega) (show 96 < 2 ^ 31 by omega), nI_clamp (show 24 * k + f < 2 ^ 31 by omega), cut8, cut32, hl2]
        by_cases y0 : y = 0
        · rw [if_pos y0, if_pos y0]
          exact ⟨_, _, _, rfl, rfl, ⟨hT, hI, hP, sheetR_put hS (by omega) (by omega) _, hK⟩⟩
        · rw [if_neg y0, if_neg y0]
          by_cases y1 : y = 1
          · rw [if_pos y1, if_pos (show y = nI 1 from y1)]
            exact ⟨_, _, _, rfl, rfl, ⟨hT, hI, hP, sheetR_put hS (by omega) (by omega) _, hK⟩⟩
          · rw [if_neg y1, if_neg (show ¬ y = nI 1 from y1)]
            exact ⟨_, _, _, rfl, rfl, ⟨hT, hI, hP, sheetR_put hS (by omega) (by omega) _, hK⟩⟩
    · rw [if_pos hy, if_pos (fun e => hy e.2)]; exact ⟨_, _, _, rfl, rfl, h0⟩
  · rw [if_pos hx, if_pos (fun e => hx e.1)]; exact ⟨_, _, _, rfl, rfl, h0⟩
