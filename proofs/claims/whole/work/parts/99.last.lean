-- ===== the reference's rows =====
def MOK (s : ZT_10) (N : Nat) : Prop := s.1.2.2.2.2.2.1 = nI N ∧ N ≤ 40 ∧ ∀ i, i < N → CoinOK (s.1.1 i) (s.1.2.1 i) (s.1.2.2.1 i) (s.1.2.2.2.1 i) (s.1.2.2.2.2.1 i)
def oldM (s : ZT_10) (c : Nat) : Int := agI (s.1.2.2.2.1 c) (s.1.2.2.1 c) (s.1.2.1 c) * 64 + c
abbrev keyM (s : ZT_10) (by_ : Int32) (c : Nat) : Int := keyF by_ s.1.1 s.1.2.2.2.1 s.1.2.2.1 s.1.2.1 c
theorem i32_le {x y : Int32} : x ≤ y ↔ x.toInt ≤ y.toInt := Int32.le_iff_toInt_le
theorem i32_lt {x y : Int32} : x < y ↔ x.toInt < y.toInt := Int32.lt_iff_toInt_lt
theorem i32_eq {x y : Int32} : x = y ↔ x.toInt = y.toInt := Int32.toInt_inj.symm
def agV (ki st ye : Int32) : Int32 := if ki = 2 then -1 else if ki = 3 then 100 else if ki = 1 then st else ye
theorem agV_agI (ki st ye : Int32) : (agV ki st ye).toInt + 1 = agI ki st ye := by
  unfold agV agI
  by_cases h2 : ki = 2
  · subst h2
    rw [if_pos rfl, if_neg (by decide), if_pos rfl]
    decide
  · rw [if_neg h2]
    by_cases h3 : ki = 3
    · subst h3
      rw [if_pos rfl, if_neg (by decide), if_neg (by decide), if_pos rfl]
      decide
    · rw [if_neg h3]
      by_cases h1 : ki = 1
      · rw [if_pos h1, if_pos h1]
      · rw [if_neg h1, if_neg h1, if_neg h2, if_neg h3]
theorem agI_in {w y s k h : Int32} (hc : CoinOK w y s k h) : 0 ≤ agI k s y ∧ agI k s y ≤ 101 := by
  obtain ⟨_, h2, h3, _, _⟩ := hc
  rw [i32_le, i32_le] at h2 h3
  have e0 : (0 : Int32).toInt = 0 := by decide
  have e99 : (99 : Int32).toInt = 99 := by decide
  rw [e0, e99] at h2 h3
  unfold agI
  split
  · omega
  · split
    · omega
    · split <;> omega
theorem wo_in {w y s k h : Int32} (hc : CoinOK w y s k h) : 1 ≤ w.toInt ∧ w.toInt ≤ 99 := by
  obtain ⟨h1, _⟩ := hc
  rw [i32_le, i32_le] at h1
  have e0 : (1 : Int32).toInt = 1 := by decide
  have e99 : (99 : Int32).toInt = 99 := by decide
  rw [e0, e99] at h1
  exact h1
theorem r10_age (fu : Nat) {c : Nat} (h : c < 40) (s : ZT_10) : rr_X10_age fu (nI c) s = some (agV (s.1.2.2.2.1 c) (s.1.2.2.1 c) (s.1.2.1 c)) := by
  unfold rr_X10_age agV
  simp only [ck_in h (by omega), nI_clamp (show c < 2 ^ 31 by omega)]
  split
  · rfl
  · split
    · rfl
    · split <;> rfl
theorem r10_isOlder (fu : Nat) {a b : Nat} (ha : a < 40) (hb : b < 40) (s : ZT_10) : rr_X10_isOlder fu (nI a) (nI b) s = some (if oldM s a < oldM s b then 1 else 0) := by
  unfold rr_X10_isOlder oldM
  simp only [r10_age fu ha, r10_age fu hb, Option.bind_some]
  have e1 := agV_agI (s.1.2.2.2.1 a) (s.1.2.2.1 a) (s.1.2.1 a)
  have e2 := agV_agI (s.1.2.2.2.1 b) (s.1.2.2.1 b) (s.1.2.1 b)
  generalize agV (s.1.2.2.2.1 a) (s.1.2.2.1 a) (s.1.2.1 a) = va at e1 ⊢
  generalize agV (s.1.2.2.2.1 b) (s.1.2.2.1 b) (s.1.2.1 b) = vb at e2 ⊢
  rw [← e1, ← e2]
  by_cases h1 : va < vb
  · rw [if_pos h1, if_pos]
    rw [i32_lt] at h1
    omega
  · rw [if_neg h1]
    rw [i32_lt] at h1
    by_cases h2 : va = vb
    · rw [if_pos h2]
      subst h2
      by_cases h3 : b ≤ a
      · rw [if_pos ((nI_leI (by omega) (by omega)).mpr h3), if_neg (by omega)]
      · rw [if_neg (fun h => h3 ((nI_leI (by omega) (by omega)).mp h)), if_pos (by omega)]
    · rw [if_neg h2, if_neg]
      rw [i32_eq] at h2
      omega
theorem lawCases {x : Int32} (h : 0 ≤ x ∧ x ≤ 3) : x = 0 ∨ x = 1 ∨ x = 2 ∨ x = 3 := by
  obtain ⟨j, hj, rfl⟩ := nat_of 3 (by omega) rfl h.1 h.2
  rcases (show j = 0 ∨ j = 1 ∨ j = 2 ∨ j = 3 by omega) with rfl | rfl | rfl | rfl
  · exact Or.inl rfl
  · exact Or.inr (Or.inl rfl)
  · exact Or.inr (Or.inr (Or.inl rfl))
  · exact Or.inr (Or.inr (Or.inr rfl))
theorem sub_small {x y : Int32} (hx : 1 ≤ x.toInt ∧ x.toInt ≤ 99) (hy : 1 ≤ y.toInt ∧ y.toInt ≤ 99) : (x - y).toInt = x.toInt - y.toInt := by
  rw [Int32.toInt_sub]
  exact Int.bmod_eq_of_le (by omega) (by omega)
theorem r10_ahead59 (fu : Nat) {a b : Nat} (ha : a < 40) (hb : b < 40) (s : ZT_10) (w : Int32) : rr_X10_isAhead_59 fu s (nI a) (nI b) w = some (if w.toInt < 0 ∨ (w.toInt = 0 ∧ oldM s a < oldM s b) then 1 else 0) := by
  unfold rr_X10_isAhead_59
  simp only [r10_isOlder fu ha hb, Option.bind_some, it_10]
  have e0 : (0 : Int32).toInt = 0 := by decide
  by_cases h1 : w < 0
  · rw [if_pos h1, if_pos]
    rw [i32_lt, e0] at h1
    exact Or.inl h1
  · rw [if_neg h1]
    rw [i32_lt, e0] at h1
    by_cases h2 : w = 0
    · rw [if_pos h2]
      subst h2
      rw [e0]
      by_cases h3 : oldM s a < oldM s b
      · rw [if_neg (by simp [h3]), if_pos (Or.inr ⟨rfl, h3⟩)]
      · rw [if_pos h3, if_neg (by omega)]
    · rw [if_neg h2, if_neg]
      rw [i32_eq, e0] at h2
      omega
theorem r10_isAhead (fu : Nat) {N a b : Nat} {s : ZT_10} (hM : MOK s N) (ha : a < N) (hb : b < N) {by_ : Int32} (hby : 0 ≤ by_ ∧ by_ ≤ 3) : rr_X10_isAhead fu (nI a) (nI b) by_ s = some (if keyM s by_ a < keyM s by_ b then 1 else 0) := by
  have hN := hM.2.1
  have ca := hM.2.2 a ha
  have cb := hM.2.2 b hb
  have wa := wo_in ca
  have wb := wo_in cb
  have aa := agI_in ca
  have ab := agI_in cb
  have e1 : ∀ c, oldM s c = agI (s.1.2.2.2.1 c) (s.1.2.2.1 c) (s.1.2.1 c) * 64 + c := fun _ => rfl
  unfold rr_X10_isAhead
  simp only [ck_in (show a < 40 by omega) (by omega), ck_in (show b < 40 by omega) (by omega), nI_clamp (show a < 2 ^ 31 by omega), nI_clamp (show b < 2 ^ 31 by omega), r10_isOlder fu (show a < 40 by omega) (show b < 40 by omega), r10_isOlder fu (show b < 40 by omega) (show a < 40 by omega), r10_ahead59 fu (show a < 40 by omega) (show b < 40 by omega), Option.bind_some, zk_b, sub_small wa wb, sub_small wb wa]
  unfold keyM keyF keyI
  rcases lawCases hby with rfl | rfl | rfl | rfl
  · rw [if_neg (by decide), if_pos rfl]
    simp only [if_pos rfl, e1]
    rfl
  · rw [if_neg (by decide), if_neg (by decide)]
    simp only [e1]
    congr 1
    simp only [show ¬ ((1 : Int32) = 0) by decide, if_false, if_true]
    by_cases h : agI (s.1.2.2.2.1 b) (s.1.2.2.1 b) (s.1.2.1 b) * 64 + b < agI (s.1.2.2.2.1 a) (s.1.2.2.1 a) (s.1.2.1 a) * 64 + a
    · rw [if_pos h, if_pos (by omega)]
    · rw [if_neg h, if_neg (by omega)]
  · rw [if_pos (by decide), if_pos rfl]
    simp only [e1, show ¬ ((2 : Int32) = 0) by decide, show ¬ ((2 : Int32) = 1) by decide, if_false, if_true]
    congr 1
    generalize (s.1.1 a).toInt = p at wa ⊢
    generalize (s.1.1 b).toInt = q at wb ⊢
    generalize agI (s.1.2.2.2.1 a) (s.1.2.2.1 a) (s.1.2.1 a) = u at aa ⊢
    generalize agI (s.1.2.2.2.1 b) (s.1.2.2.1 b) (s.1.2.1 b) = v at ab ⊢
    by_cases h : p - q < 0 ∨ (p - q = 0 ∧ u * 64 + a < v * 64 + b)
    · rw [if_pos h, if_pos (by omega)]
    · rw [if_neg h, if_neg (by omega)]
  · rw [if_pos (by decide), if_neg (by decide)]
    simp only [e1, show ¬ ((3 : Int32) = 0) by decide, show ¬ ((3 : Int32) = 1) by decide, show ¬ ((3 : Int32) = 2) by decide, if_false]
    congr 1
    generalize (s.1.1 a).toInt = p at wa ⊢
    generalize (s.1.1 b).toInt = q at wb ⊢
    generalize agI (s.1.2.2.2.1 a) (s.1.2.2.1 a) (s.1.2.1 a) = u at aa ⊢
    generalize agI (s.1.2.2.2.1 b) (s.1.2.2.1 b) (s.1.2.1 b) = v at ab ⊢
    by_cases h : q - p < 0 ∨ (q - p = 0 ∧ u * 64 + a < v * 64 + b)
    · rw [if_pos h, if_pos (by omega)]
    · rw [if_neg h, if_neg (by omega)]
theorem keyF_inj {law : Int32} {wo ki st ye : Nat → Int32} {a b : Nat} (ha : a < 64) (hb : b < 64) (h : keyF law wo ki st ye a = keyF law wo ki st ye b) : a = b := by
  unfold keyF keyI at h
  generalize agI (ki a) (st a) (ye a) = u at h
  generalize agI (ki b) (st b) (ye b) = v at h
  generalize (wo a).toInt = p at h
  generalize (wo b).toInt = q at h
  split at h
  · omega
  · split at h
    · omega
    · split at h <;> omega
/-- the coins for which P holds, in order -/
def rowUp (K : Nat → Int) (P : Nat → Prop) [DecidablePred P] : Nat → List Nat
  | 0 => []
  | n + 1 => if P n then ins_ K n (rowUp K P n) else rowUp K P n
theorem rowUp_mem {K : Nat → Int} {P : Nat → Prop} [DecidablePred P] : ∀ n c, c ∈ rowUp K P n ↔ c < n ∧ P c := by
  intro n
  induction n with
  | zero => intro c; unfold rowUp; constructor
            · intro h; exact absurd h List.not_mem_nil
            · intro h; omega
  | succ n ih =>
    intro c
    unfold rowUp
    by_cases h : P n
    · rw [if_pos h, ins_mem, ih]
      constructor
      · rintro (rfl | ⟨h1, h2⟩)
        · exact ⟨by omega, h⟩
        · exact ⟨by omega, h2⟩
      · rintro ⟨h1, h2⟩
        rcases Nat.lt_or_ge c n with c1 | c1
        · exact Or.inr ⟨c1, h2⟩
        · exact Or.inl (by omega)
    · rw [if_neg h, ih]
      constructor
      · rintro ⟨h1, h2⟩; exact ⟨by omega, h2⟩
      · rintro ⟨h1, h2⟩
        refine ⟨?_, h2⟩
        rcases Nat.lt_or_ge c n with c1 | c1
        · exact c1
        · have : c = n := by omega
          subst this; exact absurd h2 h
theorem rowUp_srt {K : Nat → Int} {P : Nat → Prop} [DecidablePred P] {M : Nat} (hK : ∀ a b, a < M → b < M → K a = K b → a = b) : ∀ n, n ≤ M → Srt_ K (rowUp K P n) := by
  intro n
  induction n with
  | zero => intro _; unfold rowUp; exact List.Pairwise.nil
  | succ n ih =>
    intro hn
    unfold rowUp
    by_cases h : P n
    · rw [if_pos h]
      refine ins_srt (ih (by omega)) (fun c hc e => ?_)
      have h1 := (rowUp_mem n c).mp hc
      have := hK c n (by omega) (by omega) e
      omega
    · rw [if_neg h]; exact ih (by omega)
theorem rowUp_len {K : Nat → Int} {P : Nat → Prop} [DecidablePred P] : ∀ n, (rowUp K P n).length ≤ n := by
  intro n
  induction n with
  | zero => unfold rowUp; exact Nat.le_refl 0
  | succ n ih =>
    unfold rowUp
    by_cases h : P n
    · rw [if_pos h, ins_len]; omega
    · rw [if_neg h]; omega
theorem fr31 (fu : Nat) {N c : Nat} {s : ZT_10} (hM : MOK s N) (hc : c < N) {by_ : Int32} (hby : 0 ≤ by_ ∧ by_ ≤ 3) (rec7 : Int32 → Int32 → Int32 → ZT_10 → Option ZT_10) (y1 z : Int32) {l : List Nat} (hl : ∀ x ∈ l, x < N) (hlen : l.length < 40) : ∀ (k n : Nat) (f : Nat → Int32), k < n → k ≤ l.length → (∀ r, r < k → f r = nI (l.getD r 0)) → rr_X10_findRow_31 fu rec7 n y1 by_ (nI c) (nI k) (s.1, s.2.1, s.2.2.1, (f, z), s.2.2.2.2) = rr_X10_findRow_76 fu rec7 y1 by_ (nI c) (nI (insP (keyM s by_) c l k)) (s.1, s.2.1, s.2.2.1, (shF f (insP (keyM s by_) c l k) k, z), s.2.2.2.2) := by
  intro k
  induction k with
  | zero =>
    intro n f hn _ _
    obtain ⟨n, rfl⟩ : ∃ q, n = q + 1 := ⟨n - 1, by omega⟩
    show rr_X10_findRow_31_b fu rec7 (rr_X10_findRow_31 fu rec7 n) y1 by_ (nI c) (nI 0) _ = _
    unfold rr_X10_findRow_31_b
    rw [if_pos (by decide)]
    unfold insP
    rw [shF_self]
  | succ k ih =>
    intro n f hn hk hf
    obtain ⟨n, rfl⟩ : ∃ q, n = q + 1 := ⟨n - 1, by omega⟩
    show rr_X10_findRow_31_b fu rec7 (rr_X10_findRow_31 fu rec7 n) y1 by_ (nI c) (nI (k + 1)) _ = _
    unfold rr_X10_findRow_31_b
    have hx : l.getD k 0 < N := by rw [getD_eq (by omega)]; exact hl _ (List.getElem_mem _)
    have hM2 : MOK (s.1, s.2.1, s.2.2.1, (f, z), s.2.2.2.2) N := hM
    rw [if_neg (nI_nle (by omega) (by omega))]
    simp only [nI_pred, pk_m1, ck_in (show k < 40 by omega) (by omega), ck_in (show k + 1 < 40 by omega) (by omega), nI_clamp (show k < 2 ^ 31 by omega), nI_clamp (show k + 1 < 2 ^ 31 by omega), hf k (by omega), r10_isAhead fu hM2 hc hx hby, Option.bind_some, it_10, lt_eq]
    have hkey : keyM (s.1, s.2.1, s.2.2.1, (f, z), s.2.2.2.2) by_ = keyM s by_ := rfl
    rw [hkey]
    by_cases h : keyM s by_ c < keyM s by_ (l.getD k 0)
    · rw [if_neg (not_not_intro h)]
      have e : insP (keyM s by_) c l (k + 1) = insP (keyM s by_) c l k := by
        show (if keyM s by_ c < keyM s by_ (l.getD k 0) then _ else _) = _
        rw [if_pos h]
      rw [e, ih n (upd f (k + 1) (nI (l.getD k 0))) (by omega) (by omega) (fun r hr => by rw [pk_un (by omega)]; exact hf r (by omega)), ← hf k (by omega), shF_step f (insP_le k)]
    · rw [if_pos h]
      have e : insP (keyM s by_) c l (k + 1) = k + 1 := by
        show (if keyM s by_ c < keyM s by_ (l.getD k 0) then _ else _) = _
        rw [if_neg h]
      rw [e, shF_self]
theorem fr7 (fu : Nat) (hfu : 100 ≤ fu) {N : Nat} {s : ZT_10} (hM : MOK s N) {by_ : Int32} (hby : 0 ≤ by_ ∧ by_ ≤ 3) (h : Int32) : ∀ (k c n : Nat) (f : Nat → Int32), c + k = N → k < n → Arr_ f (rowUp (keyM s by_) (fun i => s.1.2.2.2.2.1 i = h) c) → ∃ g : Nat → Int32, rr_X10_findRow_7 fu n h by_ (nI c) (s.1, s.2.1, s.2.2.1, (f, nI (rowUp (keyM s by_) (fun i => s.1.2.2.2.2.1 i = h) c).length), s.2.2.2.2) = some (s.1, s.2.1, s.2.2.1, (g, nI (rowUp (keyM s by_) (fun i => s.1.2.2.2.2.1 i = h) N).length), s.2.2.2.2) ∧ Arr_ g (rowUp (keyM s by_) (fun i => s.1.2.2.2.2.1 i = h) N) := by
  have hN := hM.2.1
  intro k
  induction k with
  | zero =>
    intro c n f hc hn hf
    obtain ⟨n, rfl⟩ : ∃ q, n = q + 1 := ⟨n - 1, by omega⟩
    have : c = N := by omega
    subst this
    refine ⟨f, ?_, hf⟩
    show rr_X10_findRow_7_b fu (rr_X10_findRow_7 fu n) h by_ (nI c) _ = _
    unfold rr_X10_findRow_7_b
    rw [if_pos]
    show s.1.2.2.2.2.2.1 ≤ nI c
    rw [hM.1]
    exact nI_le (Nat.le_refl c) (by omega)
  | succ k ih =>
    intro c n f hc hn hf
    obtain ⟨n, rfl⟩ : ∃ q, n = q + 1 := ⟨n - 1, by omega⟩
    show ∃ g : Nat → Int32, rr_X10_findRow_7_b fu (rr_X10_findRow_7 fu n) h by_ (nI c) _ = _ ∧ _
    unfold rr_X10_findRow_7_b
    rw [if_neg (show ¬ s.1.2.2.2.2.2.1 ≤ nI c by rw [hM.1]; exact nI_ge (by omega) (by omega))]
    simp only [ck_in (show c < 40 by omega) (by omega), nI_clamp (show c < 2 ^ 31 by omega)]
    have hll := rowUp_len (K := keyM s by_) (P := fun i => s.1.2.2.2.2.1 i = h) c
    by_cases hp : s.1.2.2.2.2.1 c = h
    · rw [if_pos hp]
      have hrow : rowUp (keyM s by_) (fun i => s.1.2.2.2.2.1 i = h) (c + 1) = ins_ (keyM s by_) c (rowUp (keyM s by_) (fun i => s.1.2.2.2.2.1 i = h) c) := by
        show (if _ then _ else _) = _
        rw [if_pos hp]
      rw [fr31 fu hM (show c < N by omega) hby (rr_X10_findRow_7 fu n) h _ (l := rowUp (keyM s by_) (fun i => s.1.2.2.2.2.1 i = h) c) (fun x hx => by have := ((rowUp_mem c x).mp hx).1; omega) (by omega) _ fu f (by omega) (Nat.le_refl _) hf]
      have hpl := insP_le (K := keyM s by_) (x := c) (l := rowUp (keyM s by_) (fun i => s.1.2.2.2.2.1 i = h) c) (rowUp (keyM s by_) (fun i => s.1.2.2.2.2.1 i = h) c).length
      unfold rr_X10_findRow_76 rr_X10_findRow_94
      simp only [ck_in (show insP (keyM s by_) c (rowUp (keyM s by_) (fun i => s.1.2.2.2.2.1 i = h) c) (rowUp (keyM s by_) (fun i => s.1.2.2.2.2.1 i = h) c).length < 40 by omega) (by omega), nI_clamp (show insP (keyM s by_) c (rowUp (keyM s by_) (fun i => s.1.2.2.2.2.1 i = h) c) (rowUp (keyM s by_) (fun i => s.1.2.2.2.2.1 i = h) c).length < 2 ^ 31 by omega), lt_eq, nI_1]
      have ha := arr_ins (x := c) hf hpl
      have hi := ih (c + 1) n _ (by omega) (by omega) (show Arr_ _ (rowUp (keyM s by_) (fun i => s.1.2.2.2.2.1 i = h) (c + 1)) by rw [hrow]; exact ha)
      rw [hrow, ins_len] at hi
      exact hi
    · rw [if_neg hp]
      have hrow : rowUp (keyM s by_) (fun i => s.1.2.2.2.2.1 i = h) (c + 1) = rowUp (keyM s by_) (fun i => s.1.2.2.2.2.1 i = h) c := by
        show (if _ then _ else _) = _
        rw [if_neg hp]
      unfold rr_X10_findRow_94
      simp only [lt_eq, nI_1]
      have hi := ih (c + 1) n f (by omega) (by omega) (by rw [hrow]; exact hf)
      rw [hrow] at hi
      exact hi
/-- the row of a holder by a law -/
abbrev rowM (s : ZT_10) (by_ h : Int32) (N : Nat) : List Nat := rowUp (keyM s by_) (fun i => s.1.2.2.2.2.1 i = h) N
theorem r10_findRow (fu : Nat) (hfu : 100 ≤ fu) {N : Nat} {s : ZT_10} (hM : MOK s N) {by_ : Int32} (hby : 0 ≤ by_ ∧ by_ ≤ 3) (h : Int32) : ∃ g : Nat → Int32, rr_X10_findRow fu h by_ s = some (s.1, s.2.1, s.2.2.1, (g, nI (rowM s by_ h N).length), s.2.2.2.2) ∧ Arr_ g (rowM s by_ h N) := by
  have hN := hM.2.1
  unfold rr_X10_findRow
  exact fr7 fu hfu hM hby h N 0 fu _ (by omega) (by omega) (fun r hr => absurd hr (by show ¬ r < 0; omega))
