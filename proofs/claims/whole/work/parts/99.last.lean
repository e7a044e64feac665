-- ===== what a till gives first =====
theorem nb_min (fu : Nat) {m : ZT_10} {N : Nat} (hM : MOK m N) {law : Int32} (hl : 0 ≤ law ∧ law ≤ 3) {rk : ZT_4} {l : List Nat} (hR : RankOK rk (keyM m law) m.1.1 law N l) {S : Int64} (hS : ∀ r, r < 64 → tb_ S r = true → r < N) (hne : ¬ S = 0) : ∃ j, j < N ∧ tb_ S j = true ∧ rr_X4_nextBack fu S rk = some (nI j) ∧ ∀ r, r < 64 → tb_ S r = true → r ≠ j → keyM m (law ^^^ 1) (l.getD j 0) < keyM m (law ^^^ 1) (l.getD r 0) := by
  have hN := hM.2.1
  obtain ⟨k, hk, k1, k2⟩ := great_bit hne
  have hkN := hS k hk k1
  have hal := hR.2.2.2.2.2.2.2 k hkN
  have hT : ¬ (S &&& rk.2.2.2.2.2 k) = 0 := by
    intro e
    have : tb_ (S &&& rk.2.2.2.2.2 k) k = false := by rw [e, tb_0]
    rw [tb_and, k1, hal k hk] at this
    simp at this
  obtain ⟨j, hj, j1, j2⟩ := least_bit hT
  rw [tb_and, Bool.and_eq_true] at j1
  have hjN := hS j hj j1.1
  have hja := of_decide_eq_true ((hal j hj).symm.trans j1.2)
  refine ⟨j, hjN, j1.1, r4_nextBack fu hk k1 k2 rk hj (by rw [tb_and, j1.1, j1.2]; rfl) j2, ?_⟩
  intro r hr hrS hrj
  have hrN := hS r hr hrS
  have hlt : ∀ i, i < N → l.getD i 0 < N := fun i hi => by rw [getD_eq (by rw [hR.1]; exact hi)]; exact (hR.2.1 _).mp (List.getElem_mem _)
  have hrk : r ≤ k := by
    rcases Nat.lt_or_ge k r with c | c
    · rw [k2 r c] at hrS; exact absurd hrS (by decide)
    · exact c
  have hjk : j ≤ k := by rcases hja with e | ⟨_, e, _⟩ <;> omega
  have srt : ∀ a b, a < b → b < N → keyM m law (l.getD a 0) < keyM m law (l.getD b 0) := fun a b hab hb => srt_getD hR.2.2.1 hab (by rw [hR.1]; exact hb)
  have okj := hM.2.2 _ (hlt j hjN)
  have okr := hM.2.2 _ (hlt r hrN)
  have okk := hM.2.2 _ (hlt k hkN)
  have aj := agI_in okj
  have ar := agI_in okr
  have ak := agI_in okk
  have h40 : l.getD j 0 < 64 ∧ l.getD r 0 < 64 ∧ l.getD k 0 < 64 := ⟨by have := hlt j hjN; omega, by have := hlt r hrN; omega, by have := hlt k hkN; omega⟩
  -- r is not among the like ones below j
  have low : (2 : Int32) ≤ law → m.1.1 (l.getD r 0) = m.1.1 (l.getD k 0) → j < r := by
    intro h2 hw
    rcases Nat.lt_or_ge r j with c | c
    · have h3 := j2 r c
      rw [tb_and, hrS, hal r hr] at h3
      have : ¬ (r = k ∨ ((2 : Int32) ≤ law ∧ r < k ∧ m.1.1 (l.getD r 0) = m.1.1 (l.getD k 0))) := by simpa using h3
      exact absurd (Or.inr ⟨h2, by omega, hw⟩) this
    · omega
  have jw : (2 : Int32) ≤ law → m.1.1 (l.getD j 0) = m.1.1 (l.getD k 0) := by
    intro _
    rcases hja with e | ⟨_, _, e⟩
    · rw [e]
    · exact e
  have jk : ¬ (2 : Int32) ≤ law → j = k := by
    intro h2
    rcases hja with e | ⟨e, _⟩
    · exact e
    · exact absurd e h2
  rcases lawCases hl with rfl | rfl | rfl | rfl
  · have e := jk (by decide)
    have h1 := srt r j (by omega) hjN
    rw [show ((0 : Int32) ^^^ 1) = 1 by decide]
    unfold keyM keyF keyI at h1 ⊢
    rw [if_pos rfl, if_pos rfl] at h1
    rw [if_neg (by decide), if_pos rfl, if_neg (by decide), if_pos rfl]
    omega
  · have e := jk (by decide)
    have h1 := srt r j (by omega) hjN
    rw [show ((1 : Int32) ^^^ 1) = 0 by decide]
    unfold keyM keyF keyI at h1 ⊢
    rw [if_neg (by decide), if_pos rfl, if_neg (by decide), if_pos rfl] at h1
    rw [if_pos rfl, if_pos rfl]
    omega
  · have hjw := jw (by decide)
    have hlow := low (by decide)
    rw [show ((2 : Int32) ^^^ 1) = 3 by decide]
    have h1 : j < r → keyM m 2 (l.getD j 0) < keyM m 2 (l.getD r 0) := fun c => srt j r c hrN
    have h2 : r < k → keyM m 2 (l.getD r 0) < keyM m 2 (l.getD k 0) := fun c => srt r k c hkN
    have hwe : (m.1.1 (l.getD r 0)).toInt = (m.1.1 (l.getD k 0)).toInt → j < r := fun e => hlow (i32_eq.mpr e)
    have hre : r = k → (m.1.1 (l.getD r 0)).toInt = (m.1.1 (l.getD k 0)).toInt := fun e => by rw [e]
    unfold keyM keyF keyI at h1 h2 ⊢
    rw [if_neg (by decide), if_neg (by decide), if_pos rfl, if_neg (by decide), if_neg (by decide), if_pos rfl] at h1 h2
    rw [if_neg (by decide), if_neg (by decide), if_neg (by decide), if_neg (by decide), if_neg (by decide), if_neg (by decide)]
    rw [hjw] at h1 ⊢
    generalize (m.1.1 (l.getD r 0)).toInt = wr at *
    generalize (m.1.1 (l.getD k 0)).toInt = wk at *
    omega
  · have hjw := jw (by decide)
    have hlow := low (by decide)
    rw [show ((3 : Int32) ^^^ 1) = 2 by decide]
    have h1 : j < r → keyM m 3 (l.getD j 0) < keyM m 3 (l.getD r 0) := fun c => srt j r c hrN
    have h2 : r < k → keyM m 3 (l.getD r 0) < keyM m 3 (l.getD k 0) := fun c => srt r k c hkN
    have hwe : (m.1.1 (l.getD r 0)).toInt = (m.1.1 (l.getD k 0)).toInt → j < r := fun e => hlow (i32_eq.mpr e)
    have hre : r = k → (m.1.1 (l.getD r 0)).toInt = (m.1.1 (l.getD k 0)).toInt := fun e => by rw [e]
    unfold keyM keyF keyI at h1 h2 ⊢
    rw [if_neg (by decide), if_neg (by decide), if_neg (by decide), if_neg (by decide), if_neg (by decide), if_neg (by decide)] at h1 h2
    rw [if_neg (by decide), if_neg (by decide), if_pos rfl, if_neg (by decide), if_neg (by decide), if_pos rfl]
    rw [hjw] at h1 ⊢
    generalize (m.1.1 (l.getD r 0)).toInt = wr at *
    generalize (m.1.1 (l.getD k 0)).toInt = wk at *
    omega
