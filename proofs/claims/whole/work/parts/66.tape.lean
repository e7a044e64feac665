-- ===== the tape, read =====
theorem ite_it {α : Type} {c : Prop} [Decidable c] {a b : α} : (if (if c then (1 : Int32) else 0) = 0 then a else b) = (if c then b else a) := by
  by_cases h : c
  · rw [if_pos h, if_pos h, if_neg (show ¬ (1 : Int32) = 0 by decide)]
  · rw [if_neg h, if_neg h, if_pos rfl]
def skp (f : Nat → Int32) : Nat → Nat → Nat
  | 0, p => p
  | d + 1, p => if f p = 32 then skp f d (p + 1) else p
theorem skp_bd (f : Nat → Int32) : ∀ d p, p ≤ skp f d p ∧ skp f d p ≤ p + d ∧ (skp f d p < p + d → f (skp f d p) ≠ 32) := by
  intro d
  induction d with
  | zero => intro p; exact ⟨Nat.le_refl p, Nat.le_refl p, fun h => absurd h (by show ¬ p < p + 0; omega)⟩
  | succ d ih =>
    intro p
    unfold skp
    by_cases c : f p = 32
    · rw [if_pos c]
      obtain ⟨h1, h2, h3⟩ := ih (p + 1)
      exact ⟨by omega, by omega, fun h => h3 (by omega)⟩
    · rw [if_neg c]
      exact ⟨Nat.le_refl p, by omega, fun _ => c⟩
abbrev sk (f : Nat → Int32) (L p : Nat) : Nat := skp f (L - p) p
abbrev sgn (f : Nat → Int32) (L q : Nat) : Int32 := if q < L then f q else -1
/-- where something stands that is no blank, or the end -/
abbrev StpT (f : Nat → Int32) (L q : Nat) : Prop := q ≤ L ∧ (q < L → f q ≠ 32)
theorem sk_stp {f : Nat → Int32} {L p : Nat} (hp : p ≤ L) : StpT f L (sk f L p) := by
  obtain ⟨h1, h2, h3⟩ := skp_bd f (L - p) p
  exact ⟨by show skp f (L - p) p ≤ L; omega, fun h => h3 (by have h' : skp f (L - p) p < L := h; omega)⟩
theorem sk_fix {f : Nat → Int32} {L q : Nat} (h : StpT f L q) : sk f L q = q := by
  show skp f (L - q) q = q
  cases e : L - q with
  | zero => rfl
  | succ d =>
    unfold skp
    rw [if_neg (h.2 (by omega))]
abbrev taM (m : ZT_10) : Nat → Int32 := m.2.2.2.2.1.1
/-- the class' tape and the reference's -/
def TM (bt : Nat → Int32) (m : ZT_10) (L : Nat) : Prop := L ≤ 160 ∧ m.2.2.2.2.1.2.1 = nI L ∧ (∀ i, i < L → bt i = taM m i) ∧ (∀ i, i < L → 32 ≤ taM m i ∧ taM m i ≤ 126)
abbrev wPl (m : ZT_10) (p rs : Int32) (rd : Nat → Int32) : ZT_10 := (m.1, m.2.1, m.2.2.1, m.2.2.2.1, (m.2.2.2.2.1.1, m.2.2.2.2.1.2.1, p, rs, rd), m.2.2.2.2.2)
theorem cbl (fu : Nat) {bt : Nat → Int32} {m : ZT_10} {L : Nat} (h : TM bt m L) (fl : Int32) : ∀ (d p n : Nat), p + d = L → d < n → rr_X6_passBlanks_0 fu n (nI L, fl, nI p, bt) = some (nI L, fl, nI (skp (taM m) d p), bt) := by
  have hL := h.1
  intro d
  induction d with
  | zero =>
    intro p n hp hn
    obtain ⟨n, rfl⟩ : ∃ q, n = q + 1 := ⟨n - 1, by omega⟩
    have e9 : rr_X6_passBlanks_0 fu (n + 1) = rr_X6_passBlanks_0_b fu (rr_X6_passBlanks_0 fu n) := rfl
    rw [e9]
    unfold rr_X6_passBlanks_0_b
    rw [if_pos (show nI L ≤ nI p from nI_le (by omega) (by omega))]
    rfl
  | succ d ih =>
    intro p n hp hn
    obtain ⟨n, rfl⟩ : ∃ q, n = q + 1 := ⟨n - 1, by omega⟩
    have e9 : rr_X6_passBlanks_0 fu (n + 1) = rr_X6_passBlanks_0_b fu (rr_X6_passBlanks_0 fu n) := rfl
    rw [e9]
    unfold rr_X6_passBlanks_0_b skp
    dsimp only
    rw [if_neg (show ¬ nI L ≤ nI p from nI_ge (by omega) (by omega)), ck_in (show p < 160 by omega) (by omega), nI_clamp (show p < 2 ^ 31 by omega)]
    have eb := h.2.2.1 p (by omega)
    by_cases c : taM m p = 32
    · rw [if_pos (eb.trans c), if_pos c, lt_eq, nI_1]
      exact ih (p + 1) n (by omega) (by omega)
    · rw [if_neg (fun e => c (eb.symm.trans e)), if_neg c]
theorem c_blank (fu : Nat) (hfu : 200 ≤ fu) {bt : Nat → Int32} {m : ZT_10} {L : Nat} (h : TM bt m L) (fl : Int32) {p : Nat} (hp : p ≤ L) : rr_X6_passBlanks fu (nI L, fl, nI p, bt) = some (nI L, fl, nI (sk (taM m) L p), bt) :=
  cbl fu h fl (L - p) p fu (by omega) (by have := h.1; omega)
theorem c_sign (fu : Nat) {bt : Nat → Int32} {m : ZT_10} {L : Nat} (h : TM bt m L) (fl : Int32) {q : Nat} (hq : q ≤ L) : rr_X6_signHere fu (nI L, fl, nI q, bt) = some (sgn (taM m) L q) := by
  have hL := h.1
  unfold rr_X6_signHere sgn
  dsimp only
  by_cases c : q < L
  · rw [if_neg (show ¬ nI L ≤ nI q from nI_ge (by omega) (by omega)), ck_in (show q < 160 by omega) (by omega), nI_clamp (show q < 2 ^ 31 by omega), h.2.2.1 q c, if_pos c]
  · rw [if_pos (show nI L ≤ nI q from nI_le (by omega) (by omega)), if_neg c]
theorem mnx (fu : Nat) {bt : Nat → Int32} {m : ZT_10} {L : Nat} (h : TM bt m L) (rs : Int32) (rd : Nat → Int32) : ∀ (d p n : Nat), p + d = L → d < n → rr_X10_nextByte_0 fu n (wPl m (nI p) rs rd) = some (sgn (taM m) L (skp (taM m) d p), wPl m (nI (skp (taM m) d p)) rs rd) := by
  have hL := h.1
  have ht := h.2.1
  have e38 : ∀ q, q ≤ L → rr_X10_nextByte_38 fu (wPl m (nI q) rs rd) = some (sgn (taM m) L q, wPl m (nI q) rs rd) := by
    intro q hq
    unfold rr_X10_nextByte_38 sgn
    show (if m.2.2.2.2.1.2.1 ≤ nI q then some ((-1 : Int32), wPl m (nI q) rs rd) else ck_ (nI q) 160 (some (taM m (nI q).toNatClampNeg, wPl m (nI q) rs rd))) = _
    rw [ht]
    by_cases c : q < L
    · rw [if_neg (show ¬ nI L ≤ nI q from nI_ge (by omega) (by omega)), ck_in (show q < 160 by omega) (by omega), nI_clamp (show q < 2 ^ 31 by omega), if_pos c]
    · rw [if_pos (show nI L ≤ nI q from nI_le (by omega) (by omega)), if_neg c]
  intro d
  induction d with
  | zero =>
    intro p n hp hn
    obtain ⟨n, rfl⟩ : ∃ q, n = q + 1 := ⟨n - 1, by omega⟩
    have e9 : rr_X10_nextByte_0 fu (n + 1) = rr_X10_nextByte_0_b fu (rr_X10_nextByte_0 fu n) := rfl
    rw [e9]
    unfold rr_X10_nextByte_0_b
    show (if m.2.2.2.2.1.2.1 ≤ nI p then rr_X10_nextByte_38 fu (wPl m (nI p) rs rd) else _) = _
    rw [ht, if_pos (show nI L ≤ nI p from nI_le (by omega) (by omega))]
    exact e38 p (by omega)
  | succ d ih =>
    intro p n hp hn
    obtain ⟨n, rfl⟩ : ∃ q, n = q + 1 := ⟨n - 1, by omega⟩
    have e9 : rr_X10_nextByte_0 fu (n + 1) = rr_X10_nextByte_0_b fu (rr_X10_nextByte_0 fu n) := rfl
    rw [e9]
    unfold rr_X10_nextByte_0_b skp
    show (if m.2.2.2.2.1.2.1 ≤ nI p then rr_X10_nextByte_38 fu (wPl m (nI p) rs rd) else ck_ (nI p) 160 (if taM m (nI p).toNatClampNeg = 32 then lt_ (α := Int32) (nI p + 1) (fun z4 => rr_X10_nextByte_0 fu n (wPl m z4 rs rd)) else rr_X10_nextByte_38 fu (wPl m (nI p) rs rd))) = _
    rw [ht, if_neg (show ¬ nI L ≤ nI p from nI_ge (by omega) (by omega)), ck_in (show p < 160 by omega) (by omega), nI_clamp (show p < 2 ^ 31 by omega)]
    by_cases c : taM m p = 32
    · rw [if_pos c, if_pos c, lt_eq, nI_1]
      exact ih (p + 1) n (by omega) (by omega)
    · rw [if_neg c, if_neg c]
      exact e38 p (by omega)
theorem m_next (fu : Nat) (hfu : 200 ≤ fu) {bt : Nat → Int32} {m : ZT_10} {L : Nat} (h : TM bt m L) (rs : Int32) (rd : Nat → Int32) {p : Nat} (hp : p ≤ L) : rr_X10_nextByte fu (wPl m (nI p) rs rd) = some (sgn (taM m) L (sk (taM m) L p), wPl m (nI (sk (taM m) L p)) rs rd) :=
  mnx fu h rs rd (L - p) p fu (by omega) (by have := h.1; omega)
theorem sgn_lt {f : Nat → Int32} {L q : Nat} {x : Int32} (hx : x ≠ -1) (h : sgn f L q = x) : q < L := by
  by_cases c : q < L
  · exact c
  · have h2 : (if q < L then f q else -1) = x := h
    rw [if_neg c] at h2
    exact absurd h2.symm hx
-- a sign is taken
theorem c_takes (fu : Nat) (hfu : 200 ≤ fu) {bt : Nat → Int32} {m : ZT_10} {L : Nat} (h : TM bt m L) {p : Nat} (hp : p ≤ L) (x : Int32) : rr_X6_takes fu x (nI L, (-1 : Int32), nI p, bt) = (if sgn (taM m) L (sk (taM m) L p) = x then some ((1 : Int32), (nI L, (-1 : Int32), nI (sk (taM m) L p + 1), bt)) else some ((0 : Int32), (nI L, (-1 : Int32), nI (sk (taM m) L p), bt))) := by
  unfold rr_X6_takes
  rw [c_blank fu hfu h (-1) hp, Option.bind_some]
  show (if (-1 : Int32) = -1 then _ else _) = _
  rw [if_pos rfl, c_sign fu h (-1) (sk_stp hp).1, Option.bind_some, lt_eq]
  show (if sgn (taM m) L (sk (taM m) L p) = x then some ((1 : Int32), (nI L, (-1 : Int32), nI (sk (taM m) L p) + 1, bt)) else _) = _
  rw [nI_1]
theorem c_takesF (fu : Nat) (hfu : 200 ≤ fu) {bt : Nat → Int32} {m : ZT_10} {L : Nat} (h : TM bt m L) {fl : Int32} (hf : ¬ fl = -1) {p : Nat} (hp : p ≤ L) (x : Int32) : rr_X6_takes fu x (nI L, fl, nI p, bt) = some ((0 : Int32), (nI L, fl, nI (sk (taM m) L p), bt)) := by
  unfold rr_X6_takes
  rw [c_blank fu hfu h fl hp, Option.bind_some]
  show (if fl = -1 then _ else _) = _
  rw [if_neg hf]
theorem m_takes (fu : Nat) (hfu : 200 ≤ fu) {bt : Nat → Int32} {m : ZT_10} {L : Nat} (h : TM bt m L) (rs : Int32) (rd : Nat → Int32) {p : Nat} (hp : p ≤ L) (x : Int32) : rr_X10_takes fu x (wPl m (nI p) rs rd) = (if sgn (taM m) L (sk (taM m) L p) = x then some ((1 : Int32), wPl m (nI (sk (taM m) L p + 1)) rs rd) else some ((0 : Int32), wPl m (nI (sk (taM m) L p)) rs rd)) := by
  unfold rr_X10_takes
  rw [m_next fu hfu h rs rd hp, Option.bind_some]
  show (if sgn (taM m) L (sk (taM m) L p) = x then rr_X10_takes_13 fu (1 : Int32) (wPl m (nI (sk (taM m) L p)) rs rd) else rr_X10_takes_13 fu (0 : Int32) (wPl m (nI (sk (taM m) L p)) rs rd)) = _
  have e1 : rr_X10_takes_13 fu (1 : Int32) (wPl m (nI (sk (taM m) L p)) rs rd) = some ((1 : Int32), wPl m (nI (sk (taM m) L p) + 1) rs rd) := by
    unfold rr_X10_takes_13 rr_X10_takes_28
    rw [if_neg (show ¬ (1 : Int32) = 0 by decide), lt_eq, zk_1]
  have e0 : rr_X10_takes_13 fu (0 : Int32) (wPl m (nI (sk (taM m) L p)) rs rd) = some ((0 : Int32), wPl m (nI (sk (taM m) L p) + 0) rs rd) := by
    unfold rr_X10_takes_13 rr_X10_takes_28
    rw [if_pos rfl, lt_eq, zk_0]
  rw [e1, e0, nI_1, Int32.add_zero]
theorem c_needs (fu : Nat) (hfu : 200 ≤ fu) {bt : Nat → Int32} {m : ZT_10} {L : Nat} (h : TM bt m L) {p : Nat} (hp : p ≤ L) (x : Int32) : rr_X6_needs fu x (nI L, (-1 : Int32), nI p, bt) = (if sgn (taM m) L (sk (taM m) L p) = x then some (nI L, (-1 : Int32), nI (sk (taM m) L p + 1), bt) else some (nI L, nI (sk (taM m) L p), nI (sk (taM m) L p), bt)) := by
  unfold rr_X6_needs
  rw [c_takes fu hfu h hp x]
  by_cases c : sgn (taM m) L (sk (taM m) L p) = x
  · rw [if_pos c, if_pos c, Option.bind_some]
    show (if (1 : Int32) = 0 then _ else _) = _
    rw [if_neg (show ¬ (1 : Int32) = 0 by decide)]
  · rw [if_neg c, if_neg c, Option.bind_some]
    show (if (0 : Int32) = 0 then (rr_X6_fail fu (nI (sk (taM m) L p)) (nI L, (-1 : Int32), nI (sk (taM m) L p), bt)).bind (fun q3 => some q3) else _) = _
    rw [if_pos rfl]
    unfold rr_X6_fail
    show (if (-1 : Int32) = -1 then some (nI L, nI (sk (taM m) L p), nI (sk (taM m) L p), bt) else _).bind (fun q3 => some q3) = _
    rw [if_pos rfl, Option.bind_some]
theorem c_needsF (fu : Nat) (hfu : 200 ≤ fu) {bt : Nat → Int32} {m : ZT_10} {L : Nat} (h : TM bt m L) {fl : Int32} (hf : ¬ fl = -1) {p : Nat} (hp : p ≤ L) (x : Int32) : rr_X6_needs fu x (nI L, fl, nI p, bt) = some (nI L, fl, nI (sk (taM m) L p), bt) := by
  unfold rr_X6_needs
  rw [c_takesF fu hfu h hf hp x, Option.bind_some]
  show (if (0 : Int32) = 0 then (rr_X6_fail fu (nI (sk (taM m) L p)) (nI L, fl, nI (sk (taM m) L p), bt)).bind (fun q3 => some q3) else _) = _
  rw [if_pos rfl]
  unfold rr_X6_fail
  show (if fl = -1 then _ else some (nI L, fl, nI (sk (taM m) L p), bt)).bind (fun q3 => some q3) = _
  rw [if_neg hf, Option.bind_some]
-- a digit is taken
theorem c_digit (fu : Nat) (hfu : 200 ≤ fu) {bt : Nat → Int32} {m : ZT_10} {L : Nat} (h : TM bt m L) {p : Nat} (hp : p ≤ L) (lo hi : Int32) : rr_X6_takeDigit fu lo hi (nI L, (-1 : Int32), nI p, bt) = (if lo ≤ sgn (taM m) L (sk (taM m) L p) - 48 ∧ sgn (taM m) L (sk (taM m) L p) - 48 ≤ hi then some (sgn (taM m) L (sk (taM m) L p) - 48, (nI L, (-1 : Int32), nI (sk (taM m) L p + 1), bt)) else some (lo, (nI L, nI (sk (taM m) L p), nI (sk (taM m) L p), bt))) := by
  unfold rr_X6_takeDigit
  rw [c_blank fu hfu h (-1) hp, Option.bind_some, c_sign fu h (-1) (sk_stp hp).1, Option.bind_some, lt_eq, r9_within, Option.bind_some]
  simp only [it_10, lt_eq]
  by_cases c : lo ≤ sgn (taM m) L (sk (taM m) L p) - 48 ∧ sgn (taM m) L (sk (taM m) L p) - 48 ≤ hi
  · rw [if_neg (not_not_intro c), if_pos c, nI_1]
  · rw [if_pos c, if_neg c]
    unfold rr_X6_fail
    show (if (-1 : Int32) = -1 then some (nI L, nI (sk (taM m) L p), nI (sk (taM m) L p), bt) else _).bind _ = _
    rw [if_pos rfl, Option.bind_some]
theorem c_digitF (fu : Nat) (hfu : 200 ≤ fu) {bt : Nat → Int32} {m : ZT_10} {L : Nat} (h : TM bt m L) {fl : Int32} (hf : ¬ fl = -1) {p : Nat} (hp : p ≤ L) {lo : Int32} (hlo : 0 ≤ lo) (hi : Int32) : ∃ (v : Int32) (p' : Nat), p' ≤ L ∧ rr_X6_takeDigit fu lo hi (nI L, fl, nI p, bt) = some (v, (nI L, fl, nI p', bt)) := by
  unfold rr_X6_takeDigit
  rw [c_blank fu hfu h fl hp, Option.bind_some, c_sign fu h fl (sk_stp hp).1, Option.bind_some, lt_eq, r9_within, Option.bind_some]
  simp only [it_10, lt_eq]
  by_cases c : lo ≤ sgn (taM m) L (sk (taM m) L p) - 48 ∧ sgn (taM m) L (sk (taM m) L p) - 48 ≤ hi
  · rw [if_neg (not_not_intro c), nI_1]
    refine ⟨_, sk (taM m) L p + 1, ?_, rfl⟩
    have hq := (sk_stp (f := taM m) hp).1
    by_cases e : sk (taM m) L p < L
    · omega
    · exfalso
      have h1 := c.1
      have h2 : sgn (taM m) L (sk (taM m) L p) = -1 := if_neg e
      rw [h2] at h1
      rw [Int32.le_iff_toInt_le] at h1 hlo
      have e1 : ((-1 : Int32) - 48).toInt = -49 := by decide
      have e2 : (0 : Int32).toInt = 0 := by decide
      omega
  · rw [if_pos c]
    unfold rr_X6_fail
    refine ⟨lo, sk (taM m) L p, (sk_stp hp).1, ?_⟩
    show (if fl = -1 then _ else some (nI L, fl, nI (sk (taM m) L p), bt)).bind _ = _
    rw [if_neg hf, Option.bind_some]
-- the end is needed
theorem c_end (fu : Nat) (hfu : 200 ≤ fu) {bt : Nat → Int32} {m : ZT_10} {L : Nat} (h : TM bt m L) {p : Nat} (hp : p ≤ L) : rr_X6_needsEnd fu (nI L, (-1 : Int32), nI p, bt) = (if sk (taM m) L p < L then some (nI L, nI (sk (taM m) L p), nI (sk (taM m) L p), bt) else some (nI L, (-1 : Int32), nI (sk (taM m) L p), bt)) := by
  have hL := h.1
  have hq := (sk_stp (f := taM m) hp).1
  unfold rr_X6_needsEnd
  rw [c_blank fu hfu h (-1) hp, Option.bind_some]
  show (if nI L ≤ nI (sk (taM m) L p) then some (nI L, (-1 : Int32), nI (sk (taM m) L p), bt) else (rr_X6_fail fu (nI (sk (taM m) L p)) (nI L, (-1 : Int32), nI (sk (taM m) L p), bt)).bind (fun q3 => some q3)) = _
  by_cases c : sk (taM m) L p < L
  · rw [if_neg (nI_ge c (by omega)), if_pos c]
    unfold rr_X6_fail
    show (if (-1 : Int32) = -1 then some (nI L, nI (sk (taM m) L p), nI (sk (taM m) L p), bt) else _).bind (fun q3 => some q3) = _
    rw [if_pos rfl, Option.bind_some]
  · rw [if_pos (nI_le (by omega) (by omega)), if_neg c]
theorem c_endF (fu : Nat) (hfu : 200 ≤ fu) {bt : Nat → Int32} {m : ZT_10} {L : Nat} (h : TM bt m L) {fl : Int32} (hf : ¬ fl = -1) {p : Nat} (hp : p ≤ L) : rr_X6_needsEnd fu (nI L, fl, nI p, bt) = some (nI L, fl, nI (sk (taM m) L p), bt) := by
  unfold rr_X6_needsEnd
  rw [c_blank fu hfu h fl hp, Option.bind_some]
  show (if nI L ≤ nI (sk (taM m) L p) then some (nI L, fl, nI (sk (taM m) L p), bt) else (rr_X6_fail fu (nI (sk (taM m) L p)) (nI L, fl, nI (sk (taM m) L p), bt)).bind (fun q3 => some q3)) = _
  unfold rr_X6_fail
  show (if nI L ≤ nI (sk (taM m) L p) then some (nI L, fl, nI (sk (taM m) L p), bt) else (if fl = -1 then _ else some (nI L, fl, nI (sk (taM m) L p), bt)).bind (fun q3 => some q3)) = _
  rw [if_neg hf, Option.bind_some]
  split <;> rfl
-- a number is read
theorem nat_dig {t : Int32} (h : 48 ≤ t ∧ t ≤ 57) : ∃ g : Nat, g ≤ 9 ∧ t = nI (48 + g) := by
  have h0 : (0 : Int32) ≤ t := by
    have := h.1
    rw [Int32.le_iff_toInt_le] at this ⊢
    have e1 : (48 : Int32).toInt = 48 := by decide
    have e0 : (0 : Int32).toInt = 0 := by decide
    omega
  obtain ⟨j, hj, e⟩ := nat_of 57 (by omega) (y := 57) rfl h0 h.2
  have h1 := h.1
  rw [e] at h1
  have h2 : 48 ≤ j := (nI_leI (a := 48) (by omega) (by omega)).mp h1
  exact ⟨j - 48, by omega, by rw [e, show 48 + (j - 48) = j by omega]⟩
def InvN (a b : Nat) : Prop := (a = b ∨ (10000 ≤ a ∧ 10000 ≤ b)) ∧ a ≤ 100000 ∧ b ≤ 99999
theorem num_loop (fu : Nat) {bt : Nat → Int32} {m : ZT_10} {L : Nat} (h : TM bt m L) (fl rs : Int32) (rd : Nat → Int32) (lo hi st : Int32) : ∀ (d p n n' a b : Nat), p + d = L → d < n → d < n' → InvN a b → ∃ (p' a' b' : Nat), p ≤ p' ∧ p' ≤ L ∧ InvN a' b' ∧ rr_X6_takeNumber_12 fu n lo hi st (nI a) (nI L, fl, nI p, bt) = rr_X6_takeNumber_80 fu lo hi st (nI a') (nI L, fl, nI p', bt) ∧ rr_X10_readNumber_13 fu n' lo hi st (nI b) (wPl m (nI p) rs rd) = rr_X10_readNumber_92 fu lo hi st (nI b') (wPl m (nI p') rs rd) := by
  have hL := h.1
  have ht := h.2.1
  intro d
  induction d with
  | zero =>
    intro p n n' a b hp hn hn' hI
    obtain ⟨n, rfl⟩ : ∃ q, n = q + 1 := ⟨n - 1, by omega⟩
    obtain ⟨n', rfl⟩ : ∃ q, n' = q + 1 := ⟨n' - 1, by omega⟩
    have e9 : rr_X6_takeNumber_12 fu (n + 1) = rr_X6_takeNumber_12_b fu (rr_X6_takeNumber_12 fu n) := rfl
    have e10 : rr_X10_readNumber_13 fu (n' + 1) = rr_X10_readNumber_13_b fu (rr_X10_readNumber_13 fu n') := rfl
    rw [e9, e10]
    unfold rr_X6_takeNumber_12_b rr_X10_readNumber_13_b
    refine ⟨p, a, b, Nat.le_refl p, by omega, hI, ?_, ?_⟩
    · rw [if_pos (show nI L ≤ nI p from nI_le (by omega) (by omega))]
    · show (if m.2.2.2.2.1.2.1 ≤ nI p then rr_X10_readNumber_92 fu lo hi st (nI b) (wPl m (nI p) rs rd) else _) = _
      rw [ht, if_pos (show nI L ≤ nI p from nI_le (by omega) (by omega))]
  | succ d ih =>
    intro p n n' a b hp hn hn' hI
    obtain ⟨n, rfl⟩ : ∃ q, n = q + 1 := ⟨n - 1, by omega⟩
    obtain ⟨n', rfl⟩ : ∃ q, n' = q + 1 := ⟨n' - 1, by omega⟩
    have e9 : rr_X6_takeNumber_12 fu (n + 1) = rr_X6_takeNumber_12_b fu (rr_X6_takeNumber_12 fu n) := rfl
    have e10 : rr_X10_readNumber_13 fu (n' + 1) = rr_X10_readNumber_13_b fu (rr_X10_readNumber_13 fu n') := rfl
    rw [e9, e10]
    unfold rr_X6_takeNumber_12_b rr_X10_readNumber_13_b rr_X10_readNumber_77
    have nle : ¬ nI L ≤ nI p := nI_ge (by omega) (by omega)
    have eb := h.2.2.1 p (by omega)
    have hin : rr_X10_in fu (taM m p).toInt64 (48 : Int64) (57 : Int64) = some (if 48 ≤ taM m p ∧ taM m p ≤ 57 then 1 else 0) := r10_in2 fu (taM m p) 48 57 (by decide) (by decide)
    have nle2 : ¬ (wPl m (nI p) rs rd).2.2.2.2.1.2.1 ≤ (wPl m (nI p) rs rd).2.2.2.2.1.2.2.1 := by
      show ¬ m.2.2.2.2.1.2.1 ≤ nI p
      rw [ht]; exact nle
    rw [if_neg nle, if_neg nle2]
    simp only [ck_in (show p < 160 by omega) (show 160 < 2 ^ 31 by omega), nI_clamp (show p < 2 ^ 31 by omega), eb, r9_within, hin, Option.bind_some, it_10, lt_eq, nI_1]
    by_cases c : 48 ≤ taM m p ∧ taM m p ≤ 57
    · rw [if_neg (not_not_intro c), if_neg (not_not_intro c)]
      obtain ⟨g, hg, eg⟩ := nat_dig c
      obtain ⟨i1, i2, i3⟩ := hI
      have ea : nI a * (10 : Int32) + taM m p - 48 = nI (a * 10 + g) := by
        rw [eg, show (10 : Int32) = nI 10 from rfl, show (48 : Int32) = nI 48 from rfl, mulN, nI_add, pk_sub (by omega), show a * 10 + (48 + g) - 48 = a * 10 + g by omega]
      have ebb : (10 : Int32) * nI b + taM m p - 48 = nI (b * 10 + g) := by
        rw [eg, show (10 : Int32) = nI 10 from rfl, show (48 : Int32) = nI 48 from rfl, mulN, nI_add, pk_sub (by omega), show 10 * b + (48 + g) - 48 = b * 10 + g by omega]
      rw [ea, ebb]
      have ha' : (if (100000 : Int32) < nI (a * 10 + g) then (100000 : Int32) else nI (a * 10 + g)) = nI (if 100000 < a * 10 + g then 100000 else a * 10 + g) := by
        by_cases q : 100000 < a * 10 + g
        · rw [if_pos (show (100000 : Int32) < nI (a * 10 + g) from nI_lt (a := 100000) q (by omega)), if_pos q]; rfl
        · rw [if_neg (show ¬ (100000 : Int32) < nI (a * 10 + g) from nI_nlt (a := 100000) (by omega) (by omega)), if_neg q]
      rw [ha']
      by_cases q9 : b ≤ 9999
      · rw [if_pos (show nI b ≤ (9999 : Int32) from nI_le (b := 9999) q9 (by omega))]
        obtain ⟨p', a', b', f1, f2, f3, f4, f5⟩ := ih (p + 1) n n' (if 100000 < a * 10 + g then 100000 else a * 10 + g) (b * 10 + g) (by omega) (by omega) (by omega) (by
          have hab : a = b := by rcases i1 with i1 | i1 <;> omega
          subst hab
          rw [if_neg (by omega)]
          exact ⟨Or.inl rfl, by omega, by omega⟩)
        exact ⟨p', a', b', by omega, f2, f3, f4, f5⟩
      · rw [if_neg (show ¬ nI b ≤ (9999 : Int32) from nI_ge (a := 9999) (by omega) (by omega))]
        obtain ⟨p', a', b', f1, f2, f3, f4, f5⟩ := ih (p + 1) n n' (if 100000 < a * 10 + g then 100000 else a * 10 + g) b (by omega) (by omega) (by omega) (by
          have hab : 10000 ≤ a := by rcases i1 with i1 | i1 <;> omega
          refine ⟨Or.inr ⟨?_, by omega⟩, ?_, i3⟩
          · split <;> omega
          · split <;> omega)
        exact ⟨p', a', b', by omega, f2, f3, f4, f5⟩
    · rw [if_pos c, if_pos c]
      exact ⟨p, a, b, Nat.le_refl p, by omega, hI, rfl, rfl⟩
theorem num_both (fu : Nat) (hfu : 200 ≤ fu) {bt : Nat → Int32} {m : ZT_10} {L : Nat} (h : TM bt m L) (rs : Int32) (rd : Nat → Int32) {p : Nat} (hp : p ≤ L) (l0 h0 : Nat) (hl : l0 ≤ h0) (hh : h0 ≤ 999) : (∃ (v q : Nat), q ≤ L ∧ l0 ≤ v ∧ v ≤ h0 ∧ rr_X6_takeNumber fu (nI l0) (nI h0) (nI L, (-1 : Int32), nI p, bt) = some (nI v, (nI L, (-1 : Int32), nI q, bt)) ∧ rr_X10_readNumber fu (nI l0) (nI h0) (wPl m (nI p) rs rd) = some (nI v, wPl m (nI q) rs rd)) ∨ (∃ q q' : Nat, StpT (taM m) L q ∧ q' ≤ L ∧ rr_X6_takeNumber fu (nI l0) (nI h0) (nI L, (-1 : Int32), nI p, bt) = some (nI l0, (nI L, nI q, nI q', bt)) ∧ rr_X10_readNumber fu (nI l0) (nI h0) (wPl m (nI p) rs rd) = some ((-1 : Int32), wPl m (nI q) rs rd)) := by
  have hL := h.1
  have hs := sk_stp (f := taM m) hp
  obtain ⟨p', a, b, f1, f2, ⟨f3, f3a, f3b⟩, f4, f5⟩ := num_loop fu h (-1) rs rd (nI l0) (nI h0) (nI (sk (taM m) L p)) (L - sk (taM m) L p) (sk (taM m) L p) fu fu 0 0 (by omega) (by omega) (by omega) ⟨Or.inl rfl, by omega, by omega⟩
  have ec : rr_X6_takeNumber fu (nI l0) (nI h0) (nI L, (-1 : Int32), nI p, bt) = rr_X6_takeNumber_80 fu (nI l0) (nI h0) (nI (sk (taM m) L p)) (nI a) (nI L, (-1 : Int32), nI p', bt) := by
    unfold rr_X6_takeNumber
    rw [c_blank fu hfu h (-1) hp, Option.bind_some]
    exact f4
  have em : rr_X10_readNumber fu (nI l0) (nI h0) (wPl m (nI p) rs rd) = rr_X10_readNumber_92 fu (nI l0) (nI h0) (nI (sk (taM m) L p)) (nI b) (wPl m (nI p') rs rd) := by
    unfold rr_X10_readNumber
    rw [m_next fu hfu h rs rd hp, Option.bind_some]
    exact f5
  rw [ec, em]
  unfold rr_X6_takeNumber_80 rr_X10_readNumber_92 rr_X6_takeNumber_98 rr_X6_fail
  have w1 : (nI L, (-1 : Int32), nI p', bt).2.2.1 = nI p' := rfl
  have w2 : (wPl m (nI p') rs rd).2.2.2.2.1.2.2.1 = nI p' := rfl
  rw [w1, r9_within, r10_in2 fu (nI b) (nI l0) (nI h0) rfl rfl]
  simp only [Option.bind_some, it_10]
  by_cases c : p' = sk (taM m) L p
  · rw [if_pos (congrArg nI c), if_pos (congrArg nI c)]
    right
    refine ⟨sk (taM m) L p, p', hs, f2, ?_, by rw [c]⟩
    first | rfl | simp
  · have ne : ¬ nI p' = nI (sk (taM m) L p) := fun e => c ((nI_eq (by omega) (by omega)).mp e)
    rw [if_neg ne, if_neg ne]
    simp only [nI_leI (show l0 < 2 ^ 31 by omega) (show a < 2 ^ 31 by omega), nI_leI (show l0 < 2 ^ 31 by omega) (show b < 2 ^ 31 by omega), nI_leI (show a < 2 ^ 31 by omega) (show h0 < 2 ^ 31 by omega), nI_leI (show b < 2 ^ 31 by omega) (show h0 < 2 ^ 31 by omega)]
    by_cases r : l0 ≤ a ∧ a ≤ h0
    · have hab : a = b := by rcases f3 with f3 | f3 <;> omega
      subst hab
      rw [if_neg (not_not_intro r), if_neg (not_not_intro r)]
      exact Or.inl ⟨a, p', f2, r.1, r.2, rfl, rfl⟩
    · have r2 : ¬ (l0 ≤ b ∧ b ≤ h0) := by rcases f3 with f3 | f3 <;> omega
      rw [if_pos r, if_pos r2]
      right
      refine ⟨sk (taM m) L p, p', hs, f2, ?_, rfl⟩
      first | rfl | simp
theorem c_numF (fu : Nat) (hfu : 200 ≤ fu) {bt : Nat → Int32} {m : ZT_10} {L : Nat} (h : TM bt m L) {fl : Int32} (hf : ¬ fl = -1) {p : Nat} (hp : p ≤ L) (lo hi : Int32) : ∃ (v : Int32) (q : Nat), q ≤ L ∧ rr_X6_takeNumber fu lo hi (nI L, fl, nI p, bt) = some (v, (nI L, fl, nI q, bt)) := by
  have hL := h.1
  have hs := sk_stp (f := taM m) hp
  obtain ⟨p', a, b, f1, f2, _, f4, _⟩ := num_loop fu h fl 0 (fun _ => 0) lo hi (nI (sk (taM m) L p)) (L - sk (taM m) L p) (sk (taM m) L p) fu fu 0 0 (by omega) (by omega) (by omega) ⟨Or.inl rfl, by omega, by omega⟩
  have ec : rr_X6_takeNumber fu lo hi (nI L, fl, nI p, bt) = rr_X6_takeNumber_80 fu lo hi (nI (sk (taM m) L p)) (nI a) (nI L, fl, nI p', bt) := by
    unfold rr_X6_takeNumber
    rw [c_blank fu hfu h fl hp, Option.bind_some]
    exact f4
  have e98 : rr_X6_takeNumber_98 fu lo (nI (sk (taM m) L p)) (nI L, fl, nI p', bt) = some (lo, (nI L, fl, nI p', bt)) := by
    unfold rr_X6_takeNumber_98 rr_X6_fail
    show (if fl = -1 then _ else some (nI L, fl, nI p', bt)).bind _ = _
    rw [if_neg hf, Option.bind_some]
  rw [ec]
  unfold rr_X6_takeNumber_80
  rw [e98, r9_within, Option.bind_some, ite_it]
  split
  · exact ⟨lo, p', f2, rfl⟩
  · split
    · exact ⟨nI a, p', f2, rfl⟩
    · exact ⟨lo, p', f2, rfl⟩
