-- ===== a bill, a coin is read =====
theorem digit_both (fu : Nat) (hfu : 200 ≤ fu) {bt : Nat → Int32} {m : ZT_10} {L : Nat} (h : TM bt m L) (rs : Int32) (rd : Nat → Int32) {p : Nat} (hp : p ≤ L) (l0 h0 : Nat) (hl : l0 ≤ h0) (hh : h0 ≤ 9) : ∃ (q : Nat) (s : Int32), StpT (taM m) L q ∧ rr_X10_nextByte fu (wPl m (nI p) rs rd) = some (s, wPl m (nI q) rs rd) ∧ ((∃ v : Nat, l0 ≤ v ∧ v ≤ h0 ∧ (nI l0 ≤ s - 48 ∧ s - 48 ≤ nI h0) ∧ s - 48 = nI v ∧ q + 1 ≤ L ∧ rr_X6_takeDigit fu (nI l0) (nI h0) (nI L, (-1 : Int32), nI p, bt) = some (nI v, (nI L, (-1 : Int32), nI (q + 1), bt))) ∨ (¬ (nI l0 ≤ s - 48 ∧ s - 48 ≤ nI h0) ∧ rr_X6_takeDigit fu (nI l0) (nI h0) (nI L, (-1 : Int32), nI p, bt) = some (nI l0, (nI L, nI q, nI q, bt)))) := by
  have hL := h.1
  refine ⟨sk (taM m) L p, sgn (taM m) L (sk (taM m) L p), sk_stp hp, m_next fu hfu h rs rd hp, ?_⟩
  rw [c_digit fu hfu h hp (nI l0) (nI h0)]
  by_cases c : nI l0 ≤ sgn (taM m) L (sk (taM m) L p) - 48 ∧ sgn (taM m) L (sk (taM m) L p) - 48 ≤ nI h0
  · rw [if_pos c]
    left
    have hq := (sk_stp (f := taM m) hp).1
    have c1 := c.1
    rw [Int32.le_iff_toInt_le, nI_toInt (show l0 < 2 ^ 31 by omega)] at c1
    by_cases e : sk (taM m) L p < L
    · have hr := h.2.2.2 _ e
      have es : sgn (taM m) L (sk (taM m) L p) = taM m (sk (taM m) L p) := if_pos e
      obtain ⟨j, hj, ej⟩ := nat_of 126 (by omega) (y := 126) rfl (show (0 : Int32) ≤ taM m (sk (taM m) L p) by
        have := hr.1
        rw [Int32.le_iff_toInt_le] at this ⊢
        have e1 : (32 : Int32).toInt = 32 := by decide
        have e0 : (0 : Int32).toInt = 0 := by decide
        omega) hr.2
      rw [es, ej] at c c1
      rw [es, ej]
      by_cases j48 : 48 ≤ j
      · have e48 : nI j - 48 = nI (j - 48) := pk_sub (b := 48) j48
        rw [e48] at c c1 ⊢
        have h2 := (nI_leI (by omega) (by omega)).mp c.2
        have h3 := (nI_leI (by omega) (by omega)).mp c.1
        exact ⟨j - 48, h3, h2, c, rfl, by omega, rfl⟩
      · exfalso
        have e3 : nI j - 48 < 0 := pk_sneg (b := 48) (by omega) (by omega)
        rw [Int32.lt_iff_toInt_lt] at e3
        have e0 : (0 : Int32).toInt = 0 := by decide
        omega
    · exfalso
      have es : sgn (taM m) L (sk (taM m) L p) = -1 := if_neg e
      rw [es] at c1
      have e1 : ((-1 : Int32) - 48).toInt = -49 := by decide
      omega
  · rw [if_neg c]
    exact Or.inr ⟨c, rfl⟩
theorem need_both (fu : Nat) (hfu : 200 ≤ fu) {bt : Nat → Int32} {m : ZT_10} {L : Nat} (h : TM bt m L) (rs : Int32) (rd : Nat → Int32) {p : Nat} (hp : p ≤ L) (x : Int32) (hx : x ≠ -1) : ∃ q : Nat, StpT (taM m) L q ∧ ((q + 1 ≤ L ∧ rr_X6_needs fu x (nI L, (-1 : Int32), nI p, bt) = some (nI L, (-1 : Int32), nI (q + 1), bt) ∧ rr_X10_takes fu x (wPl m (nI p) rs rd) = some ((1 : Int32), wPl m (nI (q + 1)) rs rd)) ∨ (rr_X6_needs fu x (nI L, (-1 : Int32), nI p, bt) = some (nI L, nI q, nI q, bt) ∧ rr_X10_takes fu x (wPl m (nI p) rs rd) = some ((0 : Int32), wPl m (nI q) rs rd))) := by
  refine ⟨sk (taM m) L p, sk_stp hp, ?_⟩
  rw [c_needs fu hfu h hp x, m_takes fu hfu h rs rd hp x]
  by_cases c : sgn (taM m) L (sk (taM m) L p) = x
  · rw [if_pos c, if_pos c]
    exact Or.inl ⟨sgn_lt hx c, rfl, rfl⟩
  · rw [if_neg c, if_neg c]
    exact Or.inr ⟨rfl, rfl⟩
theorem take_both (fu : Nat) (hfu : 200 ≤ fu) {bt : Nat → Int32} {m : ZT_10} {L : Nat} (h : TM bt m L) (rs : Int32) (rd : Nat → Int32) {p : Nat} (hp : p ≤ L) (x : Int32) (hx : x ≠ -1) : ∃ q : Nat, StpT (taM m) L q ∧ ((q + 1 ≤ L ∧ rr_X6_takes fu x (nI L, (-1 : Int32), nI p, bt) = some ((1 : Int32), (nI L, (-1 : Int32), nI (q + 1), bt)) ∧ rr_X10_takes fu x (wPl m (nI p) rs rd) = some ((1 : Int32), wPl m (nI (q + 1)) rs rd)) ∨ (rr_X6_takes fu x (nI L, (-1 : Int32), nI p, bt) = some ((0 : Int32), (nI L, (-1 : Int32), nI q, bt)) ∧ rr_X10_takes fu x (wPl m (nI p) rs rd) = some ((0 : Int32), wPl m (nI q) rs rd))) := by
  refine ⟨sk (taM m) L p, sk_stp hp, ?_⟩
  rw [c_takes fu hfu h hp x, m_takes fu hfu h rs rd hp x]
  by_cases c : sgn (taM m) L (sk (taM m) L p) = x
  · rw [if_pos c, if_pos c]
    exact Or.inl ⟨sgn_lt hx c, rfl, rfl⟩
  · rw [if_neg c, if_neg c]
    exact Or.inr ⟨rfl, rfl⟩
def GoodB (s2 : ZT_0) (rd : Nat → Int32) (K : Nat) : Prop := s2.1 = nI K ∧ ∀ i, i < K → (s2.2.1 i = rd (3 * i) ∧ s2.2.2.1 i = rd (3 * i + 1) ∧ s2.2.2.2 i = rd (3 * i + 2)) ∧ ((0 ≤ rd (3 * i) ∧ rd (3 * i) ≤ 3) ∧ (4 ≤ rd (3 * i + 1) ∧ rd (3 * i + 1) ≤ 7) ∧ (1 ≤ rd (3 * i + 2) ∧ rd (3 * i + 2) ≤ 999))
def GoodC (hd : Int32) (s2 : ZT_2) (rd : Nat → Int32) (K : Nat) : Prop := s2.1 = nI K ∧ ∀ i, i < K → (s2.2.1 i = hd ∧ s2.2.2.1 i = rd (4 * i) ∧ s2.2.2.2.1 i = rd (4 * i + 1) ∧ s2.2.2.2.2.1 i = rd (4 * i + 2) ∧ s2.2.2.2.2.2 i = rd (4 * i + 3)) ∧ CoinOK (rd (4 * i)) (rd (4 * i + 1)) (rd (4 * i + 2)) (rd (4 * i + 3)) hd
theorem goodB_step {s2 : ZT_0} {rd rd' : Nat → Int32} {k : Nat} (h : GoodB s2 rd k) {a b c : Int32} (ha : 0 ≤ a ∧ a ≤ 3) (hb : 4 ≤ b ∧ b ≤ 7) (hc : 1 ≤ c ∧ c ≤ 999) (e1 : rd' (3 * k) = a) (e2 : rd' (3 * k + 1) = b) (e3 : rd' (3 * k + 2) = c) (e4 : ∀ j, j < 3 * k → rd' j = rd j) : GoodB (nI (k + 1), upd s2.2.1 k a, upd s2.2.2.1 k b, upd s2.2.2.2 k c) rd' (k + 1) := by
  refine ⟨rfl, fun i hi => ?_⟩
  by_cases e : i = k
  · subst e
    rw [e1, e2, e3]
    exact ⟨⟨pk_us, pk_us, pk_us⟩, ha, hb, hc⟩
  · have h1 := h.2 i (by omega)
    rw [e4 (3 * i) (by omega), e4 (3 * i + 1) (by omega), e4 (3 * i + 2) (by omega)]
    exact ⟨⟨(pk_un e).trans h1.1.1, (pk_un e).trans h1.1.2.1, (pk_un e).trans h1.1.2.2⟩, h1.2⟩
theorem goodC_step {hd : Int32} {s2 : ZT_2} {rd rd' : Nat → Int32} {k : Nat} (h : GoodC hd s2 rd k) {a b c d : Int32} (ok : CoinOK a b c d hd) (e1 : rd' (4 * k) = a) (e2 : rd' (4 * k + 1) = b) (e3 : rd' (4 * k + 2) = c) (e3' : rd' (4 * k + 3) = d) (e4 : ∀ j, j < 4 * k → rd' j = rd j) : GoodC hd (nI (k + 1), upd s2.2.1 k hd, upd s2.2.2.1 k a, upd s2.2.2.2.1 k b, upd s2.2.2.2.2.1 k c, upd s2.2.2.2.2.2 k d) rd' (k + 1) := by
  refine ⟨rfl, fun i hi => ?_⟩
  by_cases e : i = k
  · subst e
    rw [e1, e2, e3, e3']
    exact ⟨⟨pk_us, pk_us, pk_us, pk_us, pk_us⟩, ok⟩
  · have h1 := h.2 i (by omega)
    rw [e4 (4 * i) (by omega), e4 (4 * i + 1) (by omega), e4 (4 * i + 2) (by omega), e4 (4 * i + 3) (by omega)]
    exact ⟨⟨(pk_un e).trans h1.1.1, (pk_un e).trans h1.1.2.1, (pk_un e).trans h1.1.2.2.1, (pk_un e).trans h1.1.2.2.2.1, (pk_un e).trans h1.1.2.2.2.2⟩, h1.2⟩
theorem nI_bt {l0 h0 v : Nat} (h : l0 ≤ v ∧ v ≤ h0) (hh : h0 < 2 ^ 31) : nI l0 ≤ nI v ∧ nI v ≤ nI h0 := ⟨nI_le h.1 (by omega), nI_le h.2 hh⟩
theorem rb_both (fu : Nat) (hfu : 200 ≤ fu) {bt : Nat → Int32} {m : ZT_10} {L : Nat} (h : TM bt m L) (rs : Int32) (rd : Nat → Int32) {p : Nat} (hp : p ≤ L) {k : Nat} (hk : k < 24) {s2 : ZT_0} (hg : GoodB s2 rd k) : (∃ (q : Nat) (s2' : ZT_0) (rd' : Nat → Int32), q ≤ L ∧ GoodB s2' rd' (k + 1) ∧ rr_X6_readBill fu 24 (nI L, (-1 : Int32), nI p, bt) s2 = some ((nI L, (-1 : Int32), nI q, bt), s2') ∧ rr_X10_readBill fu (nI (3 * k)) (wPl m (nI p) rs rd) = some ((1 : Int32), wPl m (nI q) rs rd')) ∨ (∃ (q p' : Nat) (s2' : ZT_0) (rd' : Nat → Int32), StpT (taM m) L q ∧ p' ≤ L ∧ rr_X6_readBill fu 24 (nI L, (-1 : Int32), nI p, bt) s2 = some ((nI L, nI q, nI p', bt), s2') ∧ rr_X10_readBill fu (nI (3 * k)) (wPl m (nI p) rs rd) = some ((0 : Int32), wPl m (nI q) rs rd')) := by
  have hL := h.1
  have h10 : ¬ (1 : Int32) = 0 := by decide
  have h00 : (0 : Int32) = 0 := rfl
  unfold rr_X6_readBill rr_X10_readBill
  obtain ⟨q1, s1, z1, n1, d1⟩ := digit_both fu hfu h rs rd hp 0 3 (by omega) (by omega)
  rw [n1, Option.bind_some, lt_eq, r10_isPurse, Option.bind_some, ite_it]
  rcases d1 with ⟨v1, hv1, hv1', c1, e1, b1, d1⟩ | ⟨c1, d1⟩
  rotate_left
  · -- no purse
    right
    have hf := nI_nm1 (show q1 < 2 ^ 31 by have := z1.1; omega)
    obtain ⟨v2, p2, l2, t2⟩ := c_digitF fu hfu h hf (sk_stp (f := taM m) z1.1).1 (lo := (4 : Int32)) (by decide) (7 : Int32)
    obtain ⟨v3, p3, l3, t3⟩ := c_numF fu hfu h hf (sk_stp (f := taM m) l2).1 (1 : Int32) (999 : Int32)
    refine ⟨q1, p3, (nI (k + 1), upd s2.2.1 k (nI 0), upd s2.2.2.1 k v2, upd s2.2.2.2 k v3), rd, z1, l3, ?_, ?_⟩
    · have d1' : rr_X6_takeDigit fu (0 : Int32) (3 : Int32) (nI L, (-1 : Int32), nI p, bt) = _ := d1
      rw [d1', Option.bind_some, c_needsF fu hfu h hf z1.1, Option.bind_some, t2, Option.bind_some, c_needsF fu hfu h hf l2, Option.bind_some, t3, Option.bind_some, r0_add fu hg.1 hk (by omega), Option.bind_some]
    · rw [if_neg (show ¬ ((0 : Int32) ≤ s1 - 48 ∧ s1 - 48 ≤ 3) from c1)]
  rw [if_pos (show (0 : Int32) ≤ s1 - 48 ∧ s1 - 48 ≤ 3 from c1), lt_eq, nI_1]
  have d1' : rr_X6_takeDigit fu (0 : Int32) (3 : Int32) (nI L, (-1 : Int32), nI p, bt) = _ := d1
  rw [d1', Option.bind_some]
  obtain ⟨q2, z2, n2⟩ := need_both fu hfu h rs rd b1 (62 : Int32) (by decide)
  rcases n2 with ⟨b2, n2, k2⟩ | ⟨n2, k2⟩
  rotate_left
  · right
    have hf := nI_nm1 (show q2 < 2 ^ 31 by have := z2.1; omega)
    obtain ⟨v2, p2, l2, t2⟩ := c_digitF fu hfu h hf z2.1 (lo := (4 : Int32)) (by decide) (7 : Int32)
    obtain ⟨v3, p3, l3, t3⟩ := c_numF fu hfu h hf (sk_stp (f := taM m) l2).1 (1 : Int32) (999 : Int32)
    refine ⟨q2, p3, (nI (k + 1), upd s2.2.1 k (nI v1), upd s2.2.2.1 k v2, upd s2.2.2.2 k v3), rd, z2, l3, ?_, ?_⟩
    · rw [n2, Option.bind_some, t2, Option.bind_some, c_needsF fu hfu h hf l2, Option.bind_some, t3, Option.bind_some, r0_add fu hg.1 hk (by omega), Option.bind_some]
    · rw [k2, Option.bind_some, if_pos h00]
  rw [n2, Option.bind_some, k2, Option.bind_some, if_neg h10]
  obtain ⟨q3, s3, z3, n3, d3⟩ := digit_both fu hfu h rs rd b2 4 7 (by omega) (by omega)
  rw [n3, Option.bind_some, lt_eq, r10_isShop, Option.bind_some, ite_it]
  rcases d3 with ⟨v3, hv3, hv3', c3, e3, b3, d3⟩ | ⟨c3, d3⟩
  rotate_left
  · right
    have hf := nI_nm1 (show q3 < 2 ^ 31 by have := z3.1; omega)
    have d3' : rr_X6_takeDigit fu (4 : Int32) (7 : Int32) (nI L, (-1 : Int32), nI (q2 + 1), bt) = _ := d3
    obtain ⟨v5, p5, l5, t5⟩ := c_numF fu hfu h hf (sk_stp (f := taM m) z3.1).1 (1 : Int32) (999 : Int32)
    refine ⟨q3, p5, (nI (k + 1), upd s2.2.1 k (nI v1), upd s2.2.2.1 k (nI 4), upd s2.2.2.2 k v5), rd, z3, l5, ?_, ?_⟩
    · rw [d3', Option.bind_some, c_needsF fu hfu h hf z3.1, Option.bind_some, t5, Option.bind_some, r0_add fu hg.1 hk (by omega), Option.bind_some]
    · rw [if_neg (show ¬ ((4 : Int32) ≤ s3 - 48 ∧ s3 - 48 ≤ 7) from c3)]
  have d3' : rr_X6_takeDigit fu (4 : Int32) (7 : Int32) (nI L, (-1 : Int32), nI (q2 + 1), bt) = _ := d3
  rw [if_pos (show (4 : Int32) ≤ s3 - 48 ∧ s3 - 48 ≤ 7 from c3), lt_eq, nI_1, d3', Option.bind_some]
  obtain ⟨q4, z4, n4⟩ := need_both fu hfu h rs rd b3 (58 : Int32) (by decide)
  rcases n4 with ⟨b4, n4, k4⟩ | ⟨n4, k4⟩
  rotate_left
  · right
    have hf := nI_nm1 (show q4 < 2 ^ 31 by have := z4.1; omega)
    obtain ⟨v5, p5, l5, t5⟩ := c_numF fu hfu h hf z4.1 (1 : Int32) (999 : Int32)
    refine ⟨q4, p5, (nI (k + 1), upd s2.2.1 k (nI v1), upd s2.2.2.1 k (nI v3), upd s2.2.2.2 k v5), rd, z4, l5, ?_, ?_⟩
    · rw [n4, Option.bind_some, t5, Option.bind_some, r0_add fu hg.1 hk (by omega), Option.bind_some]
    · rw [k4, Option.bind_some, if_pos h00]
  have a1 : nI (3 * k) + (1 : Int32) = nI (3 * k + 1) := nI_1 (3 * k)
  have a2 : nI (3 * k) + (2 : Int32) = nI (3 * k + 2) := nI_add (3 * k) 2
  rw [n4, Option.bind_some, k4, Option.bind_some, if_neg h10, a1, a2, ck_in (show 3 * k < 72 by omega) (by omega), ck_in (show 3 * k + 1 < 72 by omega) (by omega), nI_clamp (show 3 * k < 2 ^ 31 by omega), nI_clamp (show 3 * k + 1 < 2 ^ 31 by omega), nI_clamp (show 3 * k + 2 < 2 ^ 31 by omega)]
  rcases num_both fu hfu h rs (upd (upd rd (3 * k) (s1 - 48)) (3 * k + 1) (s3 - 48)) b4 1 999 (by omega) (by omega) with ⟨v5, q5, l5, u5, w5, t5, k5⟩ | ⟨q5, p5, z5, l5, t5, k5⟩
  · left
    have t5' : rr_X6_takeNumber fu (1 : Int32) (999 : Int32) (nI L, (-1 : Int32), nI (q4 + 1), bt) = _ := t5
    have k5' : rr_X10_readNumber fu (1 : Int32) (999 : Int32) (wPl m (nI (q4 + 1)) rs (upd (upd rd (3 * k) (s1 - 48)) (3 * k + 1) (s3 - 48))) = _ := k5
    refine ⟨q5, (nI (k + 1), upd s2.2.1 k (nI v1), upd s2.2.2.1 k (nI v3), upd s2.2.2.2 k (nI v5)), upd (upd (upd rd (3 * k) (s1 - 48)) (3 * k + 1) (s3 - 48)) (3 * k + 2) (nI v5), l5, ?_, ?_, ?_⟩
    · refine goodB_step hg (nI_bt (l0 := 0) (h0 := 3) ⟨hv1, hv1'⟩ (by omega)) (nI_bt (l0 := 4) (h0 := 7) ⟨hv3, hv3'⟩ (by omega)) (nI_bt (l0 := 1) (h0 := 999) ⟨u5, w5⟩ (by omega)) ?_ ?_ pk_us (fun j hj => ?_)
      · rw [pk_un (by omega), pk_un (by omega), pk_us, e1]
      · rw [pk_un (by omega), pk_us, e3]
      · rw [pk_un (by omega), pk_un (by omega), pk_un (by omega)]
    · rw [t5', Option.bind_some, r0_add fu hg.1 hk (by omega), Option.bind_some]
    · rw [k5', Option.bind_some, ck_in (show 3 * k + 2 < 72 by omega) (by omega), ck_in (show 3 * k + 2 < 72 by omega) (by omega), pk_us, if_neg (nI_pos (show v5 < 2 ^ 31 by omega))]
  · right
    have t5' : rr_X6_takeNumber fu (1 : Int32) (999 : Int32) (nI L, (-1 : Int32), nI (q4 + 1), bt) = _ := t5
    have k5' : rr_X10_readNumber fu (1 : Int32) (999 : Int32) (wPl m (nI (q4 + 1)) rs (upd (upd rd (3 * k) (s1 - 48)) (3 * k + 1) (s3 - 48))) = _ := k5
    refine ⟨q5, p5, (nI (k + 1), upd s2.2.1 k (nI v1), upd s2.2.2.1 k (nI v3), upd s2.2.2.2 k (nI 1)), upd (upd (upd rd (3 * k) (s1 - 48)) (3 * k + 1) (s3 - 48)) (3 * k + 2) (-1), z5, l5, ?_, ?_⟩
    · rw [t5', Option.bind_some, r0_add fu hg.1 hk (by omega), Option.bind_some]
    · rw [k5', Option.bind_some, ck_in (show 3 * k + 2 < 72 by omega) (by omega), ck_in (show 3 * k + 2 < 72 by omega) (by omega), pk_us, if_pos (show (-1 : Int32) < 0 by decide)]
