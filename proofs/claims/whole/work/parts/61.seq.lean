-- ===== what is paid, bill by bill =====
abbrev pyW (wo ye st ki : Nat → Int32) (law : Int32) (N : Nat) (ho : Nat → Int32) (p sum : Int32) : List Nat × Int32 := payL wo sum (rowUp (keyF law wo ki st ye) (fun i => ho i = p) N) 0
abbrev bkW (wo ye st ki : Nat → Int32) (law : Int32) (N : Nat) (ho : Nat → Int32) (p s sum : Int32) : List Nat × Int32 := bkL wo (rowUp (keyF (law ^^^ 1) wo ki st ye) (fun i => ho i = s) N) ((pyW wo ye st ki law N ho p sum).2 - sum)
abbrev hoW (wo ye st ki : Nat → Int32) (law : Int32) (N : Nat) (ho : Nat → Int32) (p s sum : Int32) : Nat → Int32 := hoS p s (pyW wo ye st ki law N ho p sum).1 (bkW wo ye st ki law N ho p s sum).1 N 0 ho
def SeqP (wo ye st ki : Nat → Int32) (law : Int32) (bi : Nat → Int32) (N B : Nat) : Nat → Nat → (Nat → Int32) → (Nat → Int64) → Prop
  | 0, _, _, _ => True
  | d + 1, i, ho, F => if bi (3 * i + 2) ≤ (pyW wo ye st ki law N ho (bi (3 * i)) (bi (3 * i + 2))).2 then (F i = orB (pyW wo ye st ki law N ho (bi (3 * i)) (bi (3 * i + 2))).1 0 ∧ SeqP wo ye st ki law bi N B d (i + 1) (hoW wo ye st ki law N ho (bi (3 * i)) (bi (3 * i + 1)) (bi (3 * i + 2))) F) else ∀ k, i ≤ k → k < B → F k = 0
theorem seq_congr {wo ye st ki : Nat → Int32} {law : Int32} {bi : Nat → Int32} {N B : Nat} {F F' : Nat → Int64} (h : ∀ k, k < B → F k = F' k) : ∀ (d i : Nat) (ho : Nat → Int32), i + d = B → SeqP wo ye st ki law bi N B d i ho F → SeqP wo ye st ki law bi N B d i ho F' := by
  intro d
  induction d with
  | zero => intro i ho _ _; trivial
  | succ d ih =>
    intro i ho hi hs
    unfold SeqP at hs ⊢
    by_cases c : bi (3 * i + 2) ≤ (pyW wo ye st ki law N ho (bi (3 * i)) (bi (3 * i + 2))).2
    · rw [if_pos c] at hs ⊢
      exact ⟨(h i (by omega)).symm.trans hs.1, ih (i + 1) _ (by omega) hs.2⟩
    · rw [if_neg c] at hs ⊢
      intro k h1 h2
      rw [← h k h2]
      exact hs k h1 h2
theorem sq4 (fu : Nat) (hfu : 100 ≤ fu) {m : ZT_10} {N B : Nat} (hM : MOK m N) (hl : LawOK m) (hB24 : B ≤ 24) (hb : m.2.2.1.2 = nI B) (hbi : ∀ i, i < B → (0 ≤ m.2.2.1.1 (3 * i) ∧ m.2.2.1.1 (3 * i) ≤ 3) ∧ (4 ≤ m.2.2.1.1 (3 * i + 1) ∧ m.2.2.1.1 (3 * i + 1) ≤ 7)) : ∀ (d i n4 : Nat) (ho : Nat → Int32) (g : (Nat → Int32) × Int32) (pb : Int64 × Int64 × Int32 × Int32 × Int32) (pa : Nat → Int64), i + d = B → d < n4 → (∀ i, i < N → 0 ≤ ho i ∧ ho i ≤ 7) → (∀ k, i ≤ k → k < 24 → pa k = 0) → ∃ (r : Int32) (ho' : Nat → Int32) (g' : (Nat → Int32) × Int32) (pb' : Int64 × Int64 × Int32 × Int32 × Int32) (pa' : Nat → Int64), rr_X10_runDay_4 fu n4 (1 : Int32) (nI i) (nI i) (wR m ho g pb pa) = some (r, wR m ho' g' pb' pa') ∧ (∀ i, i < N → 0 ≤ ho' i ∧ ho' i ≤ 7) ∧ SeqP m.1.1 m.1.2.1 m.1.2.2.1 m.1.2.2.2.1 m.1.2.2.2.2.2.2 m.2.2.1.1 N B d i ho pa' ∧ ∀ k, k < i → pa' k = pa k := by
  intro d
  induction d with
  | zero =>
    intro i n4 ho g pb pa hi hn4 h7 hz
    obtain ⟨n4, rfl⟩ : ∃ q, n4 = q + 1 := ⟨n4 - 1, by omega⟩
    have : i = B := by omega
    subst this
    have e8 : rr_X10_runDay_4 fu (n4 + 1) = rr_X10_runDay_4_b fu (rr_X10_runDay_4 fu n4) := rfl
    rw [e8]
    unfold rr_X10_runDay_4_b
    rw [if_pos (show (1 : Int32) * m.2.2.1.2 ≤ nI i by rw [hb, show (1 : Int32) = nI 1 from rfl, mulN, Nat.one_mul]; exact nI_le (Nat.le_refl i) (by omega))]
    exact ⟨_, ho, g, pb, pa, rfl, h7, trivial, fun _ _ => rfl⟩
  | succ d ih =>
    intro i n4 ho g pb pa hi hn4 h7 hz
    obtain ⟨n4, rfl⟩ : ∃ q, n4 = q + 1 := ⟨n4 - 1, by omega⟩
    have e8 : rr_X10_runDay_4 fu (n4 + 1) = rr_X10_runDay_4_b fu (rr_X10_runDay_4 fu n4) := rfl
    rw [e8]
    unfold rr_X10_runDay_4_b
    have hiB : i < B := by omega
    have hM1 : MOK (wR m ho g pb pa) N := mok_ho hM ⟨rfl, rfl, rfl, rfl, rfl⟩ h7
    obtain ⟨g', e⟩ := m_doBill fu hfu hM1 hl (m.2.2.1.1 (3 * i)) (m.2.2.1.1 (3 * i + 1)) (m.2.2.1.1 (3 * i + 2))
    have hz5 : (nI i - nI i / nI B * nI B : Int32) = nI i := by rw [pk_rem (by omega) (by omega) (by omega), Nat.mod_eq_of_lt hiB]
    have m3 : (3 : Int32) * nI i = nI (3 * i) := mulN 3 i
    have a2 : nI (3 * i) + (2 : Int32) = nI (3 * i + 2) := nI_add (3 * i) 2
    have m1 : (1 : Int32) * nI B = nI B := by rw [show (1 : Int32) = nI 1 from rfl, mulN, Nat.one_mul]
    simp only [hb, m1, hz5, lt_eq, m3, nI_1, a2, ck_in (show 3 * i < 72 by omega) (show 72 < 2 ^ 31 by omega), ck_in (show 3 * i + 1 < 72 by omega) (show 72 < 2 ^ 31 by omega), ck_in (show 3 * i + 2 < 72 by omega) (show 72 < 2 ^ 31 by omega), nI_clamp (show 3 * i < 2 ^ 31 by omega), nI_clamp (show 3 * i + 1 < 2 ^ 31 by omega), nI_clamp (show 3 * i + 2 < 2 ^ 31 by omega), nI_clamp (show i < 2 ^ 31 by omega), ck_in (show i < 24 by omega) (show 24 < 2 ^ 31 by omega)]
    rw [if_neg (show ¬ nI B ≤ nI i from nI_ge (by omega) (by omega))]
    unfold nz_
    rw [if_neg (nI_ne0 (show 0 < B by omega) (by omega)), e]
    obtain ⟨q1, q2⟩ := hbi i hiB
    obtain ⟨p, hp3, ep⟩ := nat_of 3 (by omega) rfl q1.1 q1.2
    obtain ⟨s, hs4, hs8, es⟩ := shop_of q2
    by_cases c : m.2.2.1.1 (3 * i + 2) ≤ (pyM (wR m ho g pb pa) N (m.2.2.1.1 (3 * i)) (m.2.2.1.1 (3 * i + 2))).2
    · rw [if_pos c, Option.bind_some]
      simp only []
      rw [if_neg (show ¬ (1 : Int32) = 0 by decide)]
      have hok := hoM_ok (p := p) (s := s) hM1 (by omega) (by omega) (m.2.2.1.1 (3 * i + 2))
      rw [← ep, ← es] at hok
      obtain ⟨r, ho2, g2, pb2, pa2, i1, i2, i3, i4⟩ := ih (i + 1) n4 (hoM (wR m ho g pb pa) N (m.2.2.1.1 (3 * i)) (m.2.2.1.1 (3 * i + 1)) (m.2.2.1.1 (3 * i + 2))) g' (orB (pyM (wR m ho g pb pa) N (m.2.2.1.1 (3 * i)) (m.2.2.1.1 (3 * i + 2))).1 0, orB (bkM (wR m ho g pb pa) N (m.2.2.1.1 (3 * i)) (m.2.2.1.1 (3 * i + 1)) (m.2.2.1.1 (3 * i + 2))).1 0, (pyM (wR m ho g pb pa) N (m.2.2.1.1 (3 * i)) (m.2.2.1.1 (3 * i + 2))).2, (pyM (wR m ho g pb pa) N (m.2.2.1.1 (3 * i)) (m.2.2.1.1 (3 * i + 2))).2 - m.2.2.1.1 (3 * i + 2), (bkM (wR m ho g pb pa) N (m.2.2.1.1 (3 * i)) (m.2.2.1.1 (3 * i + 1)) (m.2.2.1.1 (3 * i + 2))).2) (vp_updL pa i (orB (pyM (wR m ho g pb pa) N (m.2.2.1.1 (3 * i)) (m.2.2.1.1 (3 * i + 2))).1 0)) (by omega) (by omega) hok (fun k h1 h2 => by rw [pk_uLn (by omega)]; exact hz k (by omega) h2)
      refine ⟨r, ho2, g2, pb2, pa2, i1, i2, ?_, fun k hk => ?_⟩
      · have := i4 i (by omega)
        rw [pk_uLs] at this
        unfold SeqP
        rw [if_pos (show m.2.2.1.1 (3 * i + 2) ≤ (pyW m.1.1 m.1.2.1 m.1.2.2.1 m.1.2.2.2.1 m.1.2.2.2.2.2.2 N ho (m.2.2.1.1 (3 * i)) (m.2.2.1.1 (3 * i + 2))).2 from c)]
        exact ⟨this, i3⟩
      · rw [i4 k (by omega), pk_uLn (by omega)]
    · rw [if_neg c, Option.bind_some]
      simp only []
      rw [if_pos trivial]
      refine ⟨_, ho, g', _, pa, rfl, h7, ?_, fun _ _ => rfl⟩
      unfold SeqP
      rw [if_neg (show ¬ m.2.2.1.1 (3 * i + 2) ≤ (pyW m.1.1 m.1.2.1 m.1.2.2.1 m.1.2.2.2.1 m.1.2.2.2.2.2.2 N ho (m.2.2.1.1 (3 * i)) (m.2.2.1.1 (3 * i + 2))).2 from c)]
      exact fun k h1 h2 => hz k h1 (by omega)
theorem once_seq (fu : Nat) (hfu : 2000 ≤ fu) {m : ZT_10} {N B : Nat} (hM : MOK m N) (hl : LawOK m) (hB24 : B ≤ 24) (hb : m.2.2.1.2 = nI B) (hbi : ∀ i, i < B → (0 ≤ m.2.2.1.1 (3 * i) ∧ m.2.2.1.1 (3 * i) ≤ 3) ∧ (4 ≤ m.2.2.1.1 (3 * i + 1) ∧ m.2.2.1.1 (3 * i + 1) ≤ 7)) (x : Int32) : ∃ (v : Int32) (ho : Nat → Int32) (g : (Nat → Int32) × Int32) (pb : Int64 × Int64 × Int32 × Int32 × Int32) (hd : Nat → Int32) (pa : Nat → Int64), rr_X10_runOnce fu x m = some (v, wC m ho g pb (hd, m.2.2.2.2.2.2.1.2) (pa, m.2.2.2.2.2.2.2.1.2)) ∧ (∀ i, i < N → ho i = m.1.2.2.2.2.1 i) ∧ SeqP m.1.1 m.1.2.1 m.1.2.2.1 m.1.2.2.2.1 m.1.2.2.2.2.2.2 m.2.2.1.1 N B B 0 m.1.2.2.2.2.1 pa := by
  have hN := hM.2.1
  obtain ⟨z, hz, e1⟩ := once0 fu (by omega) m x
  obtain ⟨hd, k1, k2⟩ := m_keep fu (by omega) (m := wP m z) hM.1 hN
  obtain ⟨r, ho, g, pb, pa, s1, s2, s3, _⟩ := sq4 fu (by omega) (m := wK (wP m z) hd) hM hl hB24 hb hbi B 0 fu m.1.2.2.2.2.1 m.2.2.2.1 m.2.2.2.2.2.1 z (by omega) (by omega) (fun i hi => (hM.2.2 i hi).2.2.2.2) (fun k _ h2 => hz k h2)
  have hM2 : MOK (wR (wK (wP m z) hd) ho g pb pa) N := mok_ho hM ⟨rfl, rfl, rfl, rfl, rfl⟩ s2
  obtain ⟨v, hv⟩ : ∃ v, rr_X10_worthOf fu x (wR (wK (wP m z) hd) ho g pb pa) = some v := ⟨_, w10_4 fu hM2 x N 0 fu (by omega) (by omega)⟩
  obtain ⟨ho2, q1, q2⟩ := m_back fu (by omega) (m := wR (wK (wP m z) hd) ho g pb pa) hM.1 hN
  refine ⟨v, ho2, g, pb, hd, pa, ?_, fun i hi => (q2 i hi).trans (k2 i hi), s3⟩
  rw [e1, k1, Option.bind_some]
  have s1' : rr_X10_runDay fu (1 : Int32) (wK (wP m z) hd) = some (r, wR (wK (wP m z) hd) ho g pb pa) := s1
  rw [s1', Option.bind_some, hv, Option.bind_some, q1, Option.bind_some]
theorem nu5 (fu : Nat) {rk : ZT_4} {K : Nat → Int} {wo : Nat → Int32} {law : Int32} {N : Nat} {l : List Nat} (hN : N ≤ 40) (hR : RankOK rk K wo law N l) {S : Int64} {L : List Nat} (hS : SetC S N l L) : ∀ (d k n : Nat) (y : Int64), k + d = N → d < n → (∀ c, c < 64 → (tb_ y c = true ↔ ∃ r, r < k ∧ l.getD r 0 = c ∧ c ∈ L)) → ∃ y' : Int64, rr_X4_numbersOf_5 fu rk n S y (nI k) = some y' ∧ ∀ c, c < 64 → (tb_ y' c = true ↔ ∃ r, r < N ∧ l.getD r 0 = c ∧ c ∈ L) := by
  intro d
  induction d with
  | zero =>
    intro k n y hk hn hy
    obtain ⟨n, rfl⟩ : ∃ q, n = q + 1 := ⟨n - 1, by omega⟩
    have : k = N := by omega
    subst this
    have e9 : rr_X4_numbersOf_5 fu rk (n + 1) = rr_X4_numbersOf_5_b fu rk (rr_X4_numbersOf_5 fu rk n) := rfl
    rw [e9]
    unfold rr_X4_numbersOf_5_b
    rw [hR.2.2.2.1, if_pos (nI_le (Nat.le_refl k) (by omega))]
    exact ⟨y, rfl, hy⟩
  | succ d ih =>
    intro k n y hk hn hy
    obtain ⟨n, rfl⟩ : ∃ q, n = q + 1 := ⟨n - 1, by omega⟩
    have e9 : rr_X4_numbersOf_5 fu rk (n + 1) = rr_X4_numbersOf_5_b fu rk (rr_X4_numbersOf_5 fu rk n) := rfl
    rw [e9]
    unfold rr_X4_numbersOf_5_b rr_X4_numbersOf_37
    have hlk := rank_lt hR k (by omega)
    have e1 : rk.2.1 k = nI (l.getD k 0) := hR.2.2.2.2.1 k (by omega)
    have hSk := hS k (by omega)
    rw [hR.2.2.2.1, if_neg (nI_ge (by omega) (by omega))]
    simp only [ck_in (show k < 64 by omega) (show 64 < 2 ^ 31 by omega), nI_clamp (show k < 2 ^ 31 by omega), lt_eq, nI_1, e1]
    by_cases c : tb_ S k = false
    · rw [if_pos (lc_eq.mpr ((shr_bit (by omega)).mpr c))]
      have hn2 : l.getD k 0 ∉ L := fun hm => by
        rw [c] at hSk
        exact of_decide_eq_false hSk.symm ⟨by omega, hm⟩
      refine ih (k + 1) n y (by omega) (by omega) (fun x hx => ?_)
      rw [hy x hx]
      constructor
      · rintro ⟨r, h1, h2⟩; exact ⟨r, by omega, h2⟩
      · rintro ⟨r, h1, h2, h3⟩
        refine ⟨r, ?_, h2, h3⟩
        by_cases e : r = k
        · subst e; rw [← h2] at h3; exact absurd h3 hn2
        · omega
    · rw [if_neg (fun h => c ((shr_bit (by omega)).mp (lc_eq.mp h)))]
      have hm : l.getD k 0 ∈ L := by
        have : tb_ S k = true := by simpa using c
        rw [this] at hSk
        exact (of_decide_eq_true hSk.symm).2
      refine ih (k + 1) n _ (by omega) (by omega) (fun x hx => ?_)
      rw [tb_or, tb_bit (by omega), Bool.or_eq_true, hy x hx, decide_eq_true_iff]
      constructor
      · rintro (⟨r, h1, h2⟩ | h)
        · exact ⟨r, by omega, h2⟩
        · exact ⟨k, by omega, h.symm, by rw [h]; exact hm⟩
      · rintro ⟨r, h1, h2, h3⟩
        by_cases e : r = k
        · subst e; exact Or.inr h2.symm
        · exact Or.inl ⟨r, by omega, h2, h3⟩
theorem r4_numbers (fu : Nat) (hfu : 100 ≤ fu) {rk : ZT_4} {K : Nat → Int} {wo : Nat → Int32} {law : Int32} {N : Nat} {l : List Nat} (hN : N ≤ 40) (hR : RankOK rk K wo law N l) {S : Int64} {L : List Nat} (hS : SetC S N l L) (hL : ∀ c ∈ L, c < N) : rr_X4_numbersOf fu S rk = some (orB L 0) := by
  obtain ⟨y, e, hy⟩ := nu5 fu hN hR hS N 0 fu 0 (by omega) (by omega) (fun c hc => by
    rw [tb_0]
    constructor
    · intro h; exact absurd h (by decide)
    · rintro ⟨r, h, _⟩; omega)
  have : y = orB L 0 := by
    apply tb_ext
    intro i hi
    rw [tb_orB L 0 i (fun c hc => by have := hL c hc; omega), tb_0, Bool.false_or]
    apply Bool.eq_iff_iff.mpr
    rw [hy i hi, decide_eq_true_iff]
    constructor
    · rintro ⟨r, _, _, h⟩; exact h
    · intro h
      obtain ⟨r, hr, er⟩ := rank_at hR i (hL i h)
      exact ⟨r, hr, er, h⟩
  rw [← this]
  exact e
theorem orB_ne {L : List Nat} (h : L ≠ []) (hL : ∀ c ∈ L, c < 64) : orB L 0 ≠ 0 := by
  cases L with
  | nil => exact absurd rfl h
  | cons a t =>
    intro e
    have h1 := tb_orB (a :: t) 0 a hL
    rw [e, tb_0, Bool.false_or] at h1
    have h2 := of_decide_eq_false h1.symm
    exact h2 List.mem_cons_self
