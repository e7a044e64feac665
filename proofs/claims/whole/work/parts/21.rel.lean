-- ===== what the class' state and the reference's have in common =====
def CoinOK (w y s k h : Int32) : Prop := (1 ≤ w ∧ w ≤ 99) ∧ (0 ≤ y ∧ y ≤ 99) ∧ (0 ≤ s ∧ s ≤ 99) ∧ (0 ≤ k ∧ k ≤ 3) ∧ (0 ≤ h ∧ h ≤ 7)
def CoinsR (cs : ZT_2) (wo ye st ki ho : Nat → Int32) (N : Nat) : Prop := cs.1 = nI N ∧ N ≤ 40 ∧ (∀ i, i < N → cs.2.1 i = ho i ∧ cs.2.2.1 i = wo i ∧ cs.2.2.2.1 i = ye i ∧ cs.2.2.2.2.1 i = st i ∧ cs.2.2.2.2.2 i = ki i) ∧ (∀ i, i < N → CoinOK (wo i) (ye i) (st i) (ki i) (ho i))
def ErrR (bs : ZT_0) (sh su : Nat → Int32) (E : Nat) : Prop := bs.1 = nI E ∧ E ≤ 6 ∧ (∀ i, i < E → bs.2.2.1 i = sh i ∧ bs.2.2.2 i = su i) ∧ (∀ i, i < E → (4 ≤ sh i ∧ sh i ≤ 7) ∧ (1 ≤ su i ∧ su i ≤ 999))
def DayR (bs : ZT_0) (bi : Nat → Int32) (B : Nat) : Prop := bs.1 = nI B ∧ B ≤ 24 ∧ (∀ i, i < B → bs.2.1 i = bi (3 * i) ∧ bs.2.2.1 i = bi (3 * i + 1) ∧ bs.2.2.2 i = bi (3 * i + 2)) ∧ (∀ i, i < B → (0 ≤ bi (3 * i) ∧ bi (3 * i) ≤ 3) ∧ (4 ≤ bi (3 * i + 1) ∧ bi (3 * i + 1) ≤ 7) ∧ (1 ≤ bi (3 * i + 2) ∧ bi (3 * i + 2) ≤ 999))
def TownR (t : ZT_8) (wo ye st ki ho sh su bi : Nat → Int32) (many law er bm : Int32) : Prop := ∃ N E B : Nat, CoinsR t.2.1 wo ye st ki ho N ∧ many = nI N ∧ t.1 = law ∧ (0 ≤ law ∧ law ≤ 3) ∧ ErrR t.2.2.2 sh su E ∧ er = nI E ∧ DayR t.2.2.1 bi B ∧ bm = nI B
def ImgR (has : Int32) (kt : ZT_8) (ik : Int32) (kp kc : Nat → Int32) : Prop := has = ik ∧ (ik = 0 ∨ (ik = 1 ∧ TownR kt (fun i => kp i) (fun i => kp (40 + i)) (fun i => kp (80 + i)) (fun i => kp (120 + i)) (fun i => kp (160 + i)) (fun i => kp (200 + i)) (fun i => kp (206 + i)) (fun i => kp (212 + i)) (kc 0) (kc 1) (kc 2) (kc 3)))
def TapeR (tp : ZT_6) (ta : Nat → Int32) (taped : Int32) : Prop := ∃ L : Nat, L ≤ 160 ∧ tp.1 = nI L ∧ taped = nI L ∧ (∀ i, i < L → tp.2.2.2 i = ta i) ∧ (∀ i, i < L → 32 ≤ ta i ∧ ta i ≤ 126)
def SheetR (sh : ZT_5) (la rs : Nat → Int32) (it : Nat → Int64) : Prop := ∀ k, k < 4 → sh.1 k = la k ∧ (la k = -1 ∨ ((0 ≤ la k ∧ la k ≤ 2) ∧ ∃ n : Nat, n ≤ 24 ∧ sh.2.1 k = nI n ∧ rs k = nI n ∧ ∀ i, i < n → sh.2.2 (24 * k + i) = it (24 * k + i)))
/-- the age of a coin: the less, the older -/
def agI (ki st ye : Int32) : Int := if ki = 1 then st.toInt + 1 else if ki = 2 then 0 else if ki = 3 then 101 else ye.toInt + 1
/-- by which number coins go -/
def keyI (law wo : Int32) (old : Int) : Int := if law = 0 then old else if law = 1 then -old else if law = 2 then wo.toInt * 6528 + old else -(wo.toInt * 6528) + old
def keyF (law : Int32) (wo ki st ye : Nat → Int32) (c : Nat) : Int := keyI law (wo c) (agI (ki c) (st c) (ye c) * 64 + c)
def tb_ (v : Int64) (i : Nat) : Bool := v.toBitVec.getLsbD i
/-- the ranks are those of these coins -/
def RankOK (rk : ZT_4) (K : Nat → Int) (wo : Nat → Int32) (law : Int32) (N : Nat) (l : List Nat) : Prop := l.length = N ∧ (∀ c, c ∈ l ↔ c < N) ∧ l.Pairwise (fun a b => K a < K b) ∧ rk.1 = nI N ∧ (∀ r, r < N → rk.2.1 r = nI (l.getD r 0)) ∧ (∀ r, r < N → rk.2.2.1 r = wo (l.getD r 0)) ∧ (∀ r, r < N → rk.2.2.2.1 (l.getD r 0) = nI r) ∧ (∀ r, r < N → ∀ j, j < 64 → tb_ (rk.2.2.2.2.2 r) j = decide (j = r ∨ ((2 : Int32) ≤ law ∧ j < r ∧ wo (l.getD j 0) = wo (l.getD r 0))))
def RkR (rk : ZT_4) (old : Int32) (wo ki st ye : Nat → Int32) (many law : Int32) : Prop := old = 1 ∨ (old = 0 ∧ ∃ (N : Nat) (l : List Nat), N ≤ 40 ∧ many = nI N ∧ RankOK rk (keyF law wo ki st ye) wo law N l)
/-- the class' state and the reference's say the same -/
def Rel (c : ZT_9) (m : ZT_10) : Prop := TownR c.1 m.1.1 m.1.2.1 m.1.2.2.1 m.1.2.2.2.1 m.1.2.2.2.2.1 m.2.1.1 m.2.1.2.1 m.2.2.1.1 m.1.2.2.2.2.2.1 m.1.2.2.2.2.2.2 m.2.1.2.2 m.2.2.1.2 ∧ ImgR c.2.2.1 c.2.1 m.2.2.2.2.2.2.2.2.1.1 m.2.2.2.2.2.2.2.2.1.2.1 m.2.2.2.2.2.2.2.2.1.2.2 ∧ TapeR c.2.2.2.2.2.2.2.2.2.2.1 m.2.2.2.2.1.1 m.2.2.2.2.1.2.1 ∧ SheetR c.2.2.2.2.2.2.2.2.2.2.2.2.2 m.2.2.2.2.2.2.2.2.2.1 m.2.2.2.2.2.2.2.2.2.2.1 m.2.2.2.2.2.2.2.2.2.2.2 ∧ RkR c.2.2.2.1 c.2.2.2.2.1 m.1.1 m.1.2.2.2.1 m.1.2.2.1 m.1.2.1 m.1.2.2.2.2.2.1 m.1.2.2.2.2.2.2
theorem rel_init : Rel zi_9 zi_10 := by
  refine ⟨⟨0, 0, 0, ⟨rfl, by omega, fun i h => absurd h (by omega), fun i h => absurd h (by omega)⟩, rfl, rfl, ⟨by decide, by decide⟩, ⟨rfl, by omega, fun i h => absurd h (by omega), fun i h => absurd h (by omega)⟩, rfl, ⟨rfl, by omega, fun i h => absurd h (by omega), fun i h => absurd h (by omega)⟩, rfl⟩, ⟨rfl, Or.inl rfl⟩, ⟨0, by omega, rfl, rfl, fun i h => absurd h (by omega), fun i h => absurd h (by omega)⟩, ?_, Or.inl rfl⟩
  intro k hk
  rcases (show k = 0 ∨ k = 1 ∨ k = 2 ∨ k = 3 by omega) with rfl | rfl | rfl | rfl <;> exact ⟨rfl, Or.inl rfl⟩
theorem in_1_99 (fu : Nat) (x : Int32) : rr_X10_in fu x.toInt64 (1 : Int64) (99 : Int64) = some (if 1 ≤ x ∧ x ≤ 99 then 1 else 0) := r10_in2 fu x 1 99 (by decide) (by decide)
theorem in_0_99 (fu : Nat) (x : Int32) : rr_X10_in fu x.toInt64 (0 : Int64) (99 : Int64) = some (if 0 ≤ x ∧ x ≤ 99 then 1 else 0) := r10_in2 fu x 0 99 (by decide) (by decide)
theorem in_0_3 (fu : Nat) (x : Int32) : rr_X10_in fu x.toInt64 (0 : Int64) (3 : Int64) = some (if 0 ≤ x ∧ x ≤ 3 then 1 else 0) := r10_in2 fu x 0 3 (by decide) (by decide)
theorem in_0_4 (fu : Nat) (x : Int32) : rr_X10_in fu x.toInt64 (0 : Int64) (4 : Int64) = some (if 0 ≤ x ∧ x ≤ 4 then 1 else 0) := r10_in2 fu x 0 4 (by decide) (by decide)
theorem in_1_50 (fu : Nat) (x : Int32) : rr_X10_in fu x.toInt64 (1 : Int64) (50 : Int64) = some (if 1 ≤ x ∧ x ≤ 50 then 1 else 0) := r10_in2 fu x 1 50 (by decide) (by decide)
theorem in_0_5 (fu : Nat) (x : Int32) : rr_X10_in fu x.toInt64 (0 : Int64) (5 : Int64) = some (if 0 ≤ x ∧ x ≤ 5 then 1 else 0) := r10_in2 fu x 0 5 (by decide) (by decide)
theorem in_m1_5 (fu : Nat) (x : Int32) : rr_X10_in fu x.toInt64 (-1 : Int64) (5 : Int64) = some (if -1 ≤ x ∧ x ≤ 5 then 1 else 0) := r10_in2 fu x (-1) 5 (by decide) (by decide)
theorem in_1_4 (fu : Nat) (x : Int32) : rr_X10_in fu x.toInt64 (1 : Int64) (4 : Int64) = some (if 1 ≤ x ∧ x ≤ 4 then 1 else 0) := r10_in2 fu x 1 4 (by decide) (by decide)
theorem in_1_8 (fu : Nat) (x : Int32) : rr_X10_in fu x.toInt64 (1 : Int64) (8 : Int64) = some (if 1 ≤ x ∧ x ≤ 8 then 1 else 0) := r10_in2 fu x 1 8 (by decide) (by decide)
theorem st_home (fu : Nat) : St_home fu Rel := by
  intro c m h
  obtain ⟨⟨N, E, B, hC, e1, e2, hl, hE, e3, hB, e4⟩, hI, hP, hS, hK⟩ := h
  unfold rr_X9_home rr_X10_home
  rw [hE.1, e3]
  refine ⟨_, _, _, rfl, rfl, ?_⟩
  exact ⟨⟨N, 0, B, hC, e1, e2, hl, ⟨rfl, by omega, fun i h => absurd h (by omega), fun i h => absurd h (by omega)⟩, rfl, hB, e4⟩, hI, hP, hS, hK⟩
theorem st_rule (fu : Nat) : St_rule fu Rel := by
  intro x c m h
  unfold rr_X9_rule rr_X10_rule
  simp only [r9_within, r9_isHolder, r9_isYear, r9_isPurse, r9_isShop, r9_isSum, r9_isSheet, r9_isLane, r9_isCoin, r9_isBill, r10_isHolder, r10_isPurse, r10_isShop, r10_isSum, r10_isCoin, r10_isBill, r10_isSheet, in_1_99, in_0_99, in_0_3, in_0_4, in_1_50, in_0_5, in_m1_5, in_1_4, in_1_8, Option.bind_some, it_10, it_01, zk_b, zk_1, zk_0, lt_eq]
  by_cases hv : 0 ≤ x ∧ x ≤ 3
  · obtain ⟨⟨N, E, B, hC, e1, e2, hl, hE, e3, hB, e4⟩, hI, hP, hS, hK⟩ := h
    rw [if_neg (not_not_intro hv), if_neg (not_not_intro hv), e2]
    refine ⟨_, _, _, rfl, rfl, ?_⟩
    exact ⟨⟨N, E, B, hC, e1, rfl, hv, hE, e3, hB, e4⟩, hI, hP, hS, Or.inl rfl⟩
  · rw [if_pos hv, if_pos hv]
    exact ⟨_, _, _, rfl, rfl, h⟩
theorem upd_at {f g : Nat → Int32} {j : Nat} {v : Int32} {N : Nat} (h : ∀ i, i < N → f i = g i) : ∀ i, i < N → upd f j v i = upd g j v i := by
  intro i hi
  by_cases he : i = j
  · subst he; rw [pk_us, pk_us]
  · rw [pk_un he, pk_un he]; exact h i hi
theorem st_give (fu : Nat) : St_give fu Rel := by
  intro x y c m h
  unfold rr_X9_give rr_X10_give
  simp only [r9_within, r9_isHolder, r9_isYear, r9_isPurse, r9_isShop, r9_isSum, r9_isSheet, r9_isLane, r9_isCoin, r9_isBill, r10_isHolder, r10_isPurse, r10_isShop, r10_isSum, r10_isCoin, r10_isBill, r10_isSheet, in_1_99, in_0_99, in_0_3, in_0_4, in_1_50, in_0_5, in_m1_5, in_1_4, in_1_8, Option.bind_some, it_10, it_01, zk_b, zk_1, zk_0, lt_eq]
  have h0 := h
  obtain ⟨⟨N, E, B, hC, e1, e2, hl, hE, e3, hB, e4⟩, hI, hP, hS, hK⟩ := h
  rw [e1, hC.1]
  have hN := hC.2.1
  by_cases hx : 0 ≤ x ∧ x ≤ nI N - 1
  · rw [if_neg (not_not_intro hx), if_neg (not_not_intro hx)]
    by_cases hy : 0 ≤ y ∧ y ≤ 7
    · rw [if_neg (not_not_intro hy), if_neg (not_not_intro hy)]
      obtain ⟨j, hj, rfl⟩ := (coin_of (by omega)).mp hx
      simp only [ck_in (show j < 40 by omega) (by omega), nI_clamp (show j < 2 ^ 31 by omega)]
      rw [(hC.2.2.1 j hj).1]
      refine ⟨_, _, _, rfl, rfl, ?_⟩
      refine ⟨⟨N, E, B, ⟨rfl, hC.2.1, ?_, ?_⟩, e1, e2, hl, hE, e3, hB, e4⟩, hI, hP, hS, hK⟩
      · intro i hi
        exact ⟨upd_at (fun i hi => (hC.2.2.1 i hi).1) i hi, (hC.2.2.1 i hi).2⟩
      · intro i hi
        have h1 := hC.2.2.2 i hi
        refine ⟨h1.1, h1.2.1, h1.2.2.1, h1.2.2.2.1, ?_⟩
        show 0 ≤ upd _ _ _ _ ∧ upd _ _ _ _ ≤ 7
        by_cases he : i = j
        · subst he; rw [pk_us]; exact hy
        · rw [pk_un he]; exact h1.2.2.2.2
    · rw [if_pos hy, if_pos hy]
      exact ⟨_, _, _, rfl, rfl, h0⟩
  · rw [if_pos hx, if_pos hx]
    exact ⟨_, _, _, rfl, rfl, h0⟩
