-- ===== type =====
theorem le01 {v : Int32} (h : 1 ≤ v) : (0 : Int32) ≤ v := by
  rw [Int32.le_iff_toInt_le] at h ⊢
  have e1 : (1 : Int32).toInt = 1 := by decide
  have e0 : (0 : Int32).toInt = 0 := by decide
  omega
theorem low8 (a : Int64) : ∃ k, k < 256 ∧ a &&& 255 = Int64.ofNat k := by
  refine ⟨a.toBitVec.toNat % 256, Nat.mod_lt _ (by decide), ?_⟩
  apply Int64.toBitVec_inj.mp
  apply BitVec.eq_of_toNat_eq
  rw [Int64.toBitVec_and, BitVec.toNat_and, Int64.toBitVec_ofNat', BitVec.toNat_ofNat]
  have h1 : (255 : Int64).toBitVec.toNat = 2 ^ 8 - 1 := by decide
  rw [h1, Nat.and_two_pow_sub_one_eq_mod]
  omega
theorem low8_a : ∀ j, j < 256 → (Int64.ofNat j).toInt32.toInt64 = Int64.ofNat j := by decide +kernel
theorem low8_b : ∀ j, j < 256 → (32 : Int32) ≤ (Int64.ofNat j).toInt32 ∧ (Int64.ofNat j).toInt32 ≤ 126 → (Int64.ofNat j).toInt32.toInt8.toInt32.toInt8.toInt32 = (Int64.ofNat j).toInt32 := by decide +kernel
theorem low8_c (x : Int64) : x.toInt32.toInt8 = (x &&& 255).toInt32.toInt8 := by
  apply Int8.toBitVec_inj.mp
  simp only [Int32.toBitVec_toInt8, Int64.toBitVec_toInt32, Int64.toBitVec_and]
  apply BitVec.eq_of_getLsbD_eq
  intro i hi
  have h1 : ∀ i, i < 8 → (255 : Int64).toBitVec.getLsbD i = true := by decide
  have h2 := h1 i hi
  simp only [BitVec.getLsbD_signExtend, BitVec.getLsbD_and, h2, hi, show i < 32 by omega, show i < 64 by omega, if_true, Bool.and_true]
abbrev shA (w : Int64) (k : Nat) : Int64 := w >>> (((8 : Int32) * nI k).toInt64 &&& 63)
abbrev byA (w : Int64) (k : Nat) : Int64 := shA w k &&& 255
abbrev OKb (w : Int64) (k : Nat) : Prop := 32 ≤ (byA w k).toInt32 ∧ (byA w k).toInt32 ≤ 126
theorem by_in (fu : Nat) (w : Int64) (k : Nat) : rr_X10_in fu (byA w k) (32 : Int64) (126 : Int64) = some (if OKb w k then 1 else 0) := by
  obtain ⟨j, hj, e⟩ := low8 (shA w k)
  have e2 : (byA w k).toInt32.toInt64 = byA w k := by
    show (shA w k &&& 255).toInt32.toInt64 = shA w k &&& 255
    rw [e]; exact low8_a j hj
  have h := r10_in2 fu (byA w k).toInt32 32 126 (a := 32) (b := 126) (by decide) (by decide)
  rw [e2] at h
  exact h
theorem by_byte {w : Int64} {k : Nat} (h : OKb w k) : vp_nar .byte (shA w k).toInt32.toInt8.toInt32 = (byA w k).toInt32 := by
  obtain ⟨j, hj, e⟩ := low8 (shA w k)
  have h2 : (32 : Int32) ≤ (shA w k &&& 255).toInt32 ∧ (shA w k &&& 255).toInt32 ≤ 126 := h
  rw [vp_nar_byte, low8_c]
  show (shA w k &&& 255).toInt32.toInt8.toInt32.toInt8.toInt32 = (shA w k &&& 255).toInt32
  rw [e] at h2 ⊢
  exact low8_b j hj h2
theorem mh2 (fu : Nat) (w : Int64) {n : Nat} (hn : n ≤ 8) : ∀ (d i g : Nat), i + d = n → d < g → ((∀ k, i ≤ k → k < n → OKb w k) → rr_X6_mayHold_2 fu g w (nI n) (nI i) = some (1 : Int32)) ∧ ((¬ ∀ k, i ≤ k → k < n → OKb w k) → rr_X6_mayHold_2 fu g w (nI n) (nI i) = some (0 : Int32)) := by
  intro d
  induction d with
  | zero =>
    intro i g hi hg
    obtain ⟨g, rfl⟩ : ∃ q, g = q + 1 := ⟨g - 1, by omega⟩
    have e9 : rr_X6_mayHold_2 fu (g + 1) = rr_X6_mayHold_2_b fu (rr_X6_mayHold_2 fu g) := rfl
    rw [e9]
    unfold rr_X6_mayHold_2_b
    rw [if_pos (nI_le (show n ≤ i by omega) (by omega))]
    exact ⟨fun _ => rfl, fun h => absurd (fun k h1 h2 => absurd h2 (by omega)) h⟩
  | succ d ih =>
    intro i g hi hg
    obtain ⟨g, rfl⟩ : ∃ q, g = q + 1 := ⟨g - 1, by omega⟩
    have e9 : rr_X6_mayHold_2 fu (g + 1) = rr_X6_mayHold_2_b fu (rr_X6_mayHold_2 fu g) := rfl
    rw [e9]
    unfold rr_X6_mayHold_2_b
    rw [if_neg (nI_ge (show i < n by omega) (by omega)), r9_within, Option.bind_some]
    simp only [it_10, lt_eq, nI_1]
    obtain ⟨h1, h2⟩ := ih (i + 1) g (by omega) (by omega)
    by_cases c : OKb w i
    · rw [if_neg (not_not_intro c)]
      refine ⟨fun h => h1 (fun k a b => h k (by omega) b), fun h => h2 (fun h' => h (fun k a b => ?_))⟩
      by_cases e : k = i
      · subst e; exact c
      · exact h' k (by omega) b
    · rw [if_pos c]
      exact ⟨fun h => absurd (h i (Nat.le_refl i) (by omega)) c, fun _ => rfl⟩
theorem nI_m1 {i : Nat} (h : i < 2 ^ 31) : nI (i + 1) - 1 = nI i := nI_pred i
theorem ty19 (fu : Nat) (w : Int64) {n : Nat} (hn : n ≤ 8) (m : ZT_10) : ∀ (i g : Nat), i ≤ n → i < g → ((∀ k, k < i → OKb w k) → rr_X10_type_19 fu g w (nI n) (nI i - 1) m = (if (m.2.2.2.2.1.2.1 + nI n) ≤ (160 : Int32) then rr_X10_type_75 fu fu w (nI n - 1) m else some ((-3 : Int32), m))) ∧ ((¬ ∀ k, k < i → OKb w k) → rr_X10_type_19 fu g w (nI n) (nI i - 1) m = some ((-1 : Int32), m)) := by
  intro i
  induction i with
  | zero =>
    intro g hi hg
    obtain ⟨g, rfl⟩ : ∃ q, g = q + 1 := ⟨g - 1, by omega⟩
    have e9 : rr_X10_type_19 fu (g + 1) = rr_X10_type_19_b fu (rr_X10_type_19 fu g) := rfl
    rw [e9]
    unfold rr_X10_type_19_b
    rw [if_pos (show nI 0 - 1 < (0 : Int32) by decide)]
    exact ⟨fun _ => rfl, fun h => absurd (fun k h2 => absurd h2 (by omega)) h⟩
  | succ i ih =>
    intro g hi hg
    obtain ⟨g, rfl⟩ : ∃ q, g = q + 1 := ⟨g - 1, by omega⟩
    have e9 : rr_X10_type_19 fu (g + 1) = rr_X10_type_19_b fu (rr_X10_type_19 fu g) := rfl
    rw [e9]
    unfold rr_X10_type_19_b
    rw [nI_m1 (show i < 2 ^ 31 by omega), if_neg (nI_pos (show i < 2 ^ 31 by omega)), by_in fu w i, Option.bind_some]
    simp only [it_10, lt_eq]
    obtain ⟨h1, h2⟩ := ih g (by omega) (by omega)
    rw [show nI i + (-1 : Int32) = nI i - 1 from (Int32.sub_eq_add_neg _ _).symm]
    by_cases c : OKb w i
    · rw [if_neg (not_not_intro c)]
      refine ⟨fun h => h1 (fun k a => h k (by omega)), fun h => h2 (fun h' => h (fun k a => ?_))⟩
      by_cases e : k = i
      · subst e; exact c
      · exact h' k (by omega)
    · rw [if_pos c]
      exact ⟨fun h => absurd (h i (by omega)) c, fun _ => rfl⟩
abbrev wTp (m : ZT_10) (ta : Nat → Int32) (tl : Int32) : ZT_10 := (m.1, m.2.1, m.2.2.1, m.2.2.2.1, (ta, tl, m.2.2.2.2.1.2.2), m.2.2.2.2.2)
theorem ap5 (fu : Nat) (w : Int64) (m : ZT_10) : ∀ (i g g' L : Nat) (tp : ZT_6) (ta : Nat → Int32), i < g → i < g' → L + i ≤ 160 → tp.1 = nI L → (∀ k, k < L → tp.2.2.2 k = ta k) → (∀ k, k < L → 32 ≤ ta k ∧ ta k ≤ 126) → (∀ k, k < i → OKb w k) → ∃ (tp' : ZT_6) (ta' : Nat → Int32), rr_X6_append_5 fu g w (nI i - 1) tp = some tp' ∧ rr_X10_type_75 fu g' w (nI i - 1) (wTp m ta (nI L)) = some (nI (L + i), wTp m ta' (nI (L + i))) ∧ tp'.1 = nI (L + i) ∧ (∀ k, k < L + i → tp'.2.2.2 k = ta' k) ∧ (∀ k, k < L + i → 32 ≤ ta' k ∧ ta' k ≤ 126) := by
  intro i
  induction i with
  | zero =>
    intro g g' L tp ta hg hg' hL e1 e2 e3 hok
    obtain ⟨g, rfl⟩ : ∃ q, g = q + 1 := ⟨g - 1, by omega⟩
    obtain ⟨g', rfl⟩ : ∃ q, g' = q + 1 := ⟨g' - 1, by omega⟩
    have e9 : rr_X6_append_5 fu (g + 1) = rr_X6_append_5_b fu (rr_X6_append_5 fu g) := rfl
    have e10 : rr_X10_type_75 fu (g' + 1) = rr_X10_type_75_b fu (rr_X10_type_75 fu g') := rfl
    rw [e9, e10]
    unfold rr_X6_append_5_b rr_X10_type_75_b
    rw [if_pos (show nI 0 - 1 < (0 : Int32) by decide), if_pos (show nI 0 - 1 < (0 : Int32) by decide)]
    exact ⟨tp, ta, rfl, rfl, e1, e2, e3⟩
  | succ i ih =>
    intro g g' L tp ta hg hg' hL e1 e2 e3 hok
    obtain ⟨g, rfl⟩ : ∃ q, g = q + 1 := ⟨g - 1, by omega⟩
    obtain ⟨g', rfl⟩ : ∃ q, g' = q + 1 := ⟨g' - 1, by omega⟩
    have e9 : rr_X6_append_5 fu (g + 1) = rr_X6_append_5_b fu (rr_X6_append_5 fu g) := rfl
    have e10 : rr_X10_type_75 fu (g' + 1) = rr_X10_type_75_b fu (rr_X10_type_75 fu g') := rfl
    rw [e9, e10]
    unfold rr_X6_append_5_b rr_X10_type_75_b
    have hb := by_byte (hok i (by omega))
    rw [nI_m1 (show i < 2 ^ 31 by omega), if_neg (nI_pos (show i < 2 ^ 31 by omega)), if_neg (nI_pos (show i < 2 ^ 31 by omega)), e1, if_neg (show ¬ (160 : Int32) ≤ nI L from nI_ge (b := 160) (by omega) (by omega))]
    simp only [lt_eq, ck_in (show L < 160 by omega) (show 160 < 2 ^ 31 by omega), nI_clamp (show L < 2 ^ 31 by omega), nI_1, hb]
    rw [show nI i + (-1 : Int32) = nI i - 1 from (Int32.sub_eq_add_neg _ _).symm]
    obtain ⟨tp', ta', f1, f2, f3, f4, f5⟩ := ih g g' (L + 1) (nI (L + 1), tp.2.1, tp.2.2.1, upd tp.2.2.2 L (byA w i).toInt32) (upd ta L (byA w i).toInt32) (by omega) (by omega) (by omega) rfl (fun k hk => by
      show upd tp.2.2.2 L _ k = upd ta L _ k
      by_cases e : k = L
      · subst e; rw [pk_us, pk_us]
      · rw [pk_un e, pk_un e]; exact e2 k (by omega)) (fun k hk => by
      by_cases e : k = L
      · subst e; rw [pk_us]; exact hok i (by omega)
      · rw [pk_un e]; exact e3 k (by omega)) (fun k hk => hok k (by omega))
    rw [show L + 1 + i = L + (i + 1) by omega] at f2 f3 f4 f5
    exact ⟨tp', ta', f1, f2, f3, f4, f5⟩
theorem st_type (fu : Nat) (hfu : 200 ≤ fu) : St_type fu Rel := by
  intro w x c m h
  unfold rr_X9_type rr_X10_type
  simp only [r9_within, r9_isHolder, r9_isYear, r9_isPurse, r9_isShop, r9_isSum, r9_isSheet, r9_isLane, r9_isCoin, r9_isBill, r10_isHolder, r10_isPurse, r10_isShop, r10_isSum, r10_isCoin, r10_isBill, r10_isSheet, in_1_99, in_0_99, in_0_3, in_0_4, in_1_50, in_0_5, in_m1_5, in_1_4, in_1_8, Option.bind_some, it_10, it_01, zk_b, zk_1, zk_0, lt_eq]
  have h0 := h
  obtain ⟨hT, hI, hP, hS, hK⟩ := h
  by_cases hx : 1 ≤ x ∧ x ≤ 8
  · rw [if_neg (not_not_intro hx), if_neg (not_not_intro hx)]
    obtain ⟨n, hn, rfl⟩ := nat_of 8 (by omega) rfl (le01 hx.1) hx.2
    obtain ⟨a1, a2⟩ := mh2 fu w hn n 0 fu (by omega) (by omega)
    obtain ⟨b1, b2⟩ := ty19 fu w hn m n fu (by omega) (by omega)
    have hH : rr_X6_mayHold fu w (nI n) = rr_X6_mayHold_2 fu fu w (nI n) (nI 0) := rfl
    rw [hH]
    by_cases hok : ∀ k, k < n → OKb w k
    · rw [a1 (fun k _ h2 => hok k h2), b1 hok]
      simp only [Option.bind_some]
      rw [if_neg (show ¬ (1 : Int32) = 0 by decide)]
      obtain ⟨L, hL, t1, t2, t3, t4⟩ := hP
      rw [t1, t2, nI_add]
      by_cases hf : L + n ≤ 160
      · rw [if_pos (show nI (L + n) ≤ (160 : Int32) from nI_le (b := 160) hf (by omega)), if_pos (show nI (L + n) ≤ (160 : Int32) from nI_le (b := 160) hf (by omega))]
        obtain ⟨tp', ta', f1, f2, f3, f4, f5⟩ := ap5 fu w m n fu fu L c.2.2.2.2.2.2.2.2.2.2.1 m.2.2.2.2.1.1 (by omega) (by omega) hf t1 t3 t4 hok
        have hA : rr_X6_append fu w (nI n) c.2.2.2.2.2.2.2.2.2.2.1 = some tp' := by
          unfold rr_X6_append
          rw [lt_eq]
          exact f1
        have f2' : rr_X10_type_75 fu fu w (nI n - 1) m = some (nI (L + n), wTp m ta' (nI (L + n))) := by
          have em : m = wTp m m.2.2.2.2.1.1 (nI L) := by rw [← t2]
          rw [em]
          exact f2
        rw [hA, f2', Option.bind_some, f3]
        refine ⟨_, _, _, rfl, rfl, ⟨hT, hI, ⟨L + n, hf, f3, rfl, f4, f5⟩, hS, hK⟩⟩
      · rw [if_neg (show ¬ nI (L + n) ≤ (160 : Int32) from nI_ge (a := 160) (by omega) (by omega)), if_neg (show ¬ nI (L + n) ≤ (160 : Int32) from nI_ge (a := 160) (by omega) (by omega))]
        exact ⟨_, _, _, rfl, rfl, h0⟩
    · rw [a2 (fun h => hok (fun k h2 => h k (Nat.zero_le k) h2)), b2 hok]
      simp only [Option.bind_some]
      rw [if_pos trivial]
      exact ⟨_, _, _, rfl, rfl, h0⟩
  · rw [if_pos hx, if_pos hx]; exact ⟨_, _, _, rfl, rfl, h0⟩
