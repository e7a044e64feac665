-- ===== what is on the board is so in the town =====
theorem c_holderAt (fu : Nat) (hfu : 100 ≤ fu) {b : ZT_1} {ho : Nat → Int32} {N : Nat} {l : List Nat} (hN : N ≤ 40) (hB : BoardOK b.1 ho N l) {r : Nat} (hr : r < N) (h7 : 0 ≤ ho (l.getD r 0) ∧ ho (l.getD r 0) ≤ 7) : rr_X1_holderAt fu (nI r) b = some (ho (l.getD r 0)) := by
  obtain ⟨h, hh, e⟩ := nat_of 7 (by omega) rfl h7.1 h7.2
  rw [e]
  have hb : ∀ k, k < 8 → (tb_ (b.1 k) r = decide (k = h)) := by
    intro k hk
    rw [hB k hk r (by omega), e]
    apply decide_eq_decide.mpr
    rw [nI_eq (by omega) (by omega)]
    exact ⟨fun x => x.2.symm, fun x => ⟨hr, x.symm⟩⟩
  have lp : ∀ d k n, k + d = h → d < n → rr_X1_holderAt_2 fu b n (nI r) (nI k) = some (nI h) := by
    intro d
    induction d with
    | zero =>
      intro k n hk hn
      obtain ⟨n, rfl⟩ : ∃ q, n = q + 1 := ⟨n - 1, by omega⟩
      have : k = h := by omega
      subst this
      have e9 : rr_X1_holderAt_2 fu b (n + 1) = rr_X1_holderAt_2_b fu b (rr_X1_holderAt_2 fu b n) := rfl
      rw [e9]
      unfold rr_X1_holderAt_2_b
      have hx : ¬ lg_cmp ((b.1 k >>> ((nI r).toInt64 &&& 63)) &&& 1) 0 = 0 := fun x => by
        have h1 := (shr_bit (show r < 64 by omega)).mp (lc_eq.mp x)
        rw [hb k (by omega)] at h1
        simp at h1
      rw [ck_in (show k < 8 by omega) (by omega), nI_clamp (show k < 2 ^ 31 by omega), if_neg hx]
      split <;> rfl
    | succ d ih =>
      intro k n hk hn
      obtain ⟨n, rfl⟩ : ∃ q, n = q + 1 := ⟨n - 1, by omega⟩
      have e9 : rr_X1_holderAt_2 fu b (n + 1) = rr_X1_holderAt_2_b fu b (rr_X1_holderAt_2 fu b n) := rfl
      rw [e9]
      unfold rr_X1_holderAt_2_b
      rw [if_neg (show ¬ (7 : Int32) ≤ nI k from nI_ge (b := 7) (by omega) (by omega)), ck_in (show k < 8 by omega) (by omega), nI_clamp (show k < 2 ^ 31 by omega), if_pos (lc_eq.mpr ((shr_bit (show r < 64 by omega)).mpr (by rw [hb k (by omega)]; exact decide_eq_false (by omega)))), lt_eq, nI_1]
      exact ih (k + 1) n (by omega) (by omega)
  exact lp h 0 fu (by omega) (by omega)
abbrev wH (c : ZT_9) (f : Nat → Int32) : ZT_9 := ((c.1.1, (c.1.2.1.1, f, c.1.2.1.2.2), c.1.2.2), c.2)
theorem tk2 (fu : Nat) (hfu : 100 ≤ fu) {c : ZT_9} {K : Nat → Int} {wo : Nat → Int32} {law : Int32} {N : Nat} {l : List Nat} (hN : N ≤ 40) (hR : RankOK c.2.2.2.1 K wo law N l) {ho : Nat → Int32} (hB : BoardOK c.2.2.2.2.2.2.1.1 ho N l) (h7 : ∀ i, i < N → 0 ≤ ho i ∧ ho i ≤ 7) : ∀ (d k n : Nat) (f : Nat → Int32), k + d = N → d < n → (∀ r, r < k → f (l.getD r 0) = ho (l.getD r 0)) → ∃ f' : Nat → Int32, rr_X9_takeOver_2 fu n (nI k) (wH c f) = some (wH c f') ∧ ∀ r, r < N → f' (l.getD r 0) = ho (l.getD r 0) := by
  intro d
  induction d with
  | zero =>
    intro k n f hk hn hf
    obtain ⟨n, rfl⟩ : ∃ q, n = q + 1 := ⟨n - 1, by omega⟩
    have : k = N := by omega
    subst this
    have e9 : rr_X9_takeOver_2 fu (n + 1) = rr_X9_takeOver_2_b fu (rr_X9_takeOver_2 fu n) := rfl
    rw [e9]
    unfold rr_X9_takeOver_2_b
    rw [if_pos (show c.2.2.2.1.1 ≤ nI k by rw [hR.2.2.2.1]; exact nI_le (Nat.le_refl k) (by omega))]
    exact ⟨f, rfl, hf⟩
  | succ d ih =>
    intro k n f hk hn hf
    obtain ⟨n, rfl⟩ : ∃ q, n = q + 1 := ⟨n - 1, by omega⟩
    have e9 : rr_X9_takeOver_2 fu (n + 1) = rr_X9_takeOver_2_b fu (rr_X9_takeOver_2 fu n) := rfl
    rw [e9]
    unfold rr_X9_takeOver_2_b
    have hlk := rank_lt hR k (by omega)
    have e1 : c.2.2.2.1.2.1 k = nI (l.getD k 0) := hR.2.2.2.2.1 k (by omega)
    have e2 : rr_X1_holderAt fu (nI k) c.2.2.2.2.2.2.1 = some (ho (l.getD k 0)) := c_holderAt fu hfu hN hB (show k < N by omega) (h7 _ hlk)
    rw [if_neg (show ¬ c.2.2.2.1.1 ≤ nI k by rw [hR.2.2.2.1]; exact nI_ge (by omega) (by omega)), ck_in (show k < 64 by omega) (by omega), nI_clamp (show k < 2 ^ 31 by omega)]
    simp only [e1, e2, Option.bind_some, ck_in (show l.getD k 0 < 40 by omega) (show 40 < 2 ^ 31 by omega), nI_clamp (show l.getD k 0 < 2 ^ 31 by omega), lt_eq, nI_1]
    refine ih (k + 1) n (upd f (l.getD k 0) (ho (l.getD k 0))) (by omega) (by omega) (fun r hr => ?_)
    by_cases e : r = k
    · subst e; rw [pk_us]
    · rw [pk_un (fun h => e (rank_nd hR r k (by omega) (by omega) h))]
      exact hf r (by omega)
theorem r9_takeOver (fu : Nat) (hfu : 100 ≤ fu) {c : ZT_9} {K : Nat → Int} {wo : Nat → Int32} {law : Int32} {N : Nat} {l : List Nat} (hN : N ≤ 40) (hR : RankOK c.2.2.2.1 K wo law N l) {ho : Nat → Int32} (hB : BoardOK c.2.2.2.2.2.2.1.1 ho N l) (h7 : ∀ i, i < N → 0 ≤ ho i ∧ ho i ≤ 7) : ∃ f' : Nat → Int32, rr_X9_takeOver fu c = some (wH c f') ∧ ∀ i, i < N → f' i = ho i := by
  obtain ⟨f', e, h⟩ := tk2 fu hfu hN hR hB h7 N 0 fu c.1.2.1.2.1 (by omega) (by omega) (fun r hr => absurd hr (by omega))
  refine ⟨f', e, fun i hi => ?_⟩
  obtain ⟨r, hr, er⟩ := rank_at hR i hi
  rw [← er]
  exact h r hr
/-- the reference's state with other holders and other scratch -/
abbrev wC (m : ZT_10) (ho : Nat → Int32) (g : (Nat → Int32) × Int32) (pb : Int64 × Int64 × Int32 × Int32 × Int32) (hb : (Nat → Int32) × (Nat → Int32) × (Nat → Int32)) (pa : (Nat → Int64) × (Nat → Int64)) : ZT_10 := ((m.1.1, m.1.2.1, m.1.2.2.1, m.1.2.2.2.1, ho, m.1.2.2.2.2.2), m.2.1, m.2.2.1, g, m.2.2.2.2.1, pb, hb, pa, m.2.2.2.2.2.2.2.2)
theorem rel_over {c : ZT_9} {m : ZT_10} (h : Rel c m) {rk : ZT_4} {N : Nat} {l : List Nat} (hM : MOK m N) (hR : RankOK rk (keyM m m.1.2.2.2.2.2.2) m.1.1 m.1.2.2.2.2.2.2 N l) (rest : ZT_4 × ZT_1 × ZT_1 × ZT_7 × ZT_3) {f ho : Nat → Int32} (hf : ∀ i, i < N → f i = ho i) (h7 : ∀ i, i < N → 0 ≤ ho i ∧ ho i ≤ 7) (g : (Nat → Int32) × Int32) (pb : Int64 × Int64 × Int32 × Int32 × Int32) (hb : (Nat → Int32) × (Nat → Int32) × (Nat → Int32)) (pa : (Nat → Int64) × (Nat → Int64)) : Rel ((c.1.1, (c.1.2.1.1, f, c.1.2.1.2.2), c.1.2.2), c.2.1, c.2.2.1, rk, (0 : Int32), rest.1, rest.2.1, rest.2.2.1, rest.2.2.2.1, rest.2.2.2.2, c.2.2.2.2.2.2.2.2.2.2) (wC m ho g pb hb pa) := by
  obtain ⟨⟨N', E, B, hC, e1, e2, hl, hE, e3, hD, e4⟩, hI, hP, hS, hK⟩ := h
  have hN := hM.2.1
  have hN' := hC.2.1
  have : N' = N := by
    have e5 := hM.1
    rw [e1] at e5
    exact (nI_eq (by omega) (by omega)).mp e5
  subst this
  refine ⟨⟨N', E, B, ⟨hC.1, hC.2.1, fun i hi => ?_, fun i hi => ?_⟩, e1, e2, hl, hE, e3, hD, e4⟩, hI, hP, hS, Or.inr ⟨rfl, N', l, hN, e1, hR⟩⟩
  · exact ⟨hf i hi, (hC.2.2.1 i hi).2⟩
  · have ok := hC.2.2.2 i hi
    exact ⟨ok.1, ok.2.1, ok.2.2.1, ok.2.2.2.1, h7 i hi⟩
theorem rel_law {c : ZT_9} {m : ZT_10} (h : Rel c m) : LawOK m := by
  obtain ⟨⟨_, _, _, _, _, _, hl, _⟩, _⟩ := h
  exact hl
theorem st_bill (fu : Nat) (hfu : 100 ≤ fu) : St_bill fu Rel := by
  intro x y z c m h
  unfold rr_X9_bill rr_X10_bill
  simp only [r9_within, r9_isHolder, r9_isYear, r9_isPurse, r9_isShop, r9_isSum, r9_isSheet, r9_isLane, r9_isCoin, r9_isBill, r10_isHolder, r10_isPurse, r10_isShop, r10_isSum, r10_isCoin, r10_isBill, r10_isSheet, in_1_99, in_0_99, in_0_3, in_0_4, in_1_50, in_0_5, in_m1_5, in_1_4, in_1_8, Option.bind_some, it_10, it_01, zk_b, zk_1, zk_0, lt_eq]
  have h0 := h
  by_cases hx : (0 ≤ x ∧ x ≤ 3) ∧ (4 ≤ y ∧ y ≤ 7) ∧ (1 ≤ z ∧ z ≤ 999)
  · rw [if_neg (not_not_intro hx), if_neg (not_not_intro hx)]
    obtain ⟨rk, f, N, l, el, hM, hR, hB, hC⟩ := r9_layOut fu hfu h
    have hl := rel_law h
    have hN := hM.2.1
    rw [el]
    simp only [Option.bind_some]
    rcases bill_both fu hfu hM hl hR (b := (f, c.2.2.2.2.2.2.1.2)) hB (sum := z) hx.1 hx.2.1 with ⟨ho, g, pb, b', d1, d2, d3, d4, _, d5, d6⟩ | ⟨g, pb, b', d1, d2, d3⟩
    · rw [d1, d2]
      simp only [Option.bind_some]
      rw [if_neg (show ¬ (1 : Int32) = 0 by decide), if_neg (show ¬ (1 : Int32) = 0 by decide)]
      obtain ⟨f', t1, t2⟩ := r9_takeOver fu hfu (c := (c.1, c.2.1, c.2.2.1, rk, (0 : Int32), c.2.2.2.2.2.1, b', c.2.2.2.2.2.2.2)) hN hR d4 d3
      rw [t1]
      simp only [Option.bind_some]
      refine ⟨pb.2.2.2.1 - pb.2.2.2.2, _, _, ?_, rfl, rel_over h0 hM hR (c.2.2.2.2.2.1, b', c.2.2.2.2.2.2.2.1, c.2.2.2.2.2.2.2.2.1, c.2.2.2.2.2.2.2.2.2.1) t2 d3 g pb m.2.2.2.2.2.2.1 m.2.2.2.2.2.2.2.1⟩
      rw [← d5, ← d6]
    · rw [d1, d2]
      simp only [Option.bind_some]
      rw [if_pos trivial, if_pos trivial]
      exact ⟨_, _, _, rfl, rfl, rel_over h0 hM hR (c.2.2.2.2.2.1, b', c.2.2.2.2.2.2.2.1, c.2.2.2.2.2.2.2.2.1, c.2.2.2.2.2.2.2.2.2.1) (f := c.1.2.1.2.1) (fun i hi => (hC.2.2.1 i hi).1) (fun i hi => (hM.2.2 i hi).2.2.2.2) g pb m.2.2.2.2.2.2.1 m.2.2.2.2.2.2.2.1⟩
  · rw [if_pos hx, if_pos hx]; exact ⟨_, _, _, rfl, rfl, h0⟩
