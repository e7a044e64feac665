-- ===== the reference's bill =====
theorem bkL_z {wo : Nat → Int32} {a : Nat} {t : List Nat} {f : Int32} (h : f ≤ 0) : bkL wo (a :: t) f = ([], f) := by
  show (if f ≤ 0 then _ else _) = _
  rw [if_pos h]
theorem bkL_s {wo : Nat → Int32} {a : Nat} {t : List Nat} {f : Int32} (h : ¬ f ≤ 0) (h2 : f < wo a) : bkL wo (a :: t) f = bkL wo t f := by
  show (if f ≤ 0 then _ else if f < wo a then _ else _) = _
  rw [if_neg h, if_pos h2]
theorem bkL_g {wo : Nat → Int32} {a : Nat} {t : List Nat} {f : Int32} (h : ¬ f ≤ 0) (h2 : ¬ f < wo a) : bkL wo (a :: t) f = (a :: (bkL wo t (f - wo a)).1, (bkL wo t (f - wo a)).2) := by
  show (if f ≤ 0 then _ else if f < wo a then _ else _) = _
  rw [if_neg h, if_neg h2]
theorem payL_z {wo : Nat → Int32} {sum : Int32} {a : Nat} {t : List Nat} {w : Int32} (h : sum ≤ w) : payL wo sum (a :: t) w = ([], w) := by
  show (if sum ≤ w then _ else _) = _
  rw [if_pos h]
theorem payL_s {wo : Nat → Int32} {sum : Int32} {a : Nat} {t : List Nat} {w : Int32} (h : ¬ sum ≤ w) : payL wo sum (a :: t) w = (a :: (payL wo sum t (w + wo a)).1, (payL wo sum t (w + wo a)).2) := by
  show (if sum ≤ w then _ else _) = _
  rw [if_neg h]
theorem drop_at {L : List Nat} {k : Nat} (h : k < L.length) : L.drop k = L.getD k 0 :: L.drop (k + 1) := by
  rw [getD_eq h]; exact List.drop_eq_getElem_cons h
/-- the reference's state with other holders, row and bill -/
abbrev wB (m : ZT_10) (ho : Nat → Int32) (g : (Nat → Int32) × Int32) (pb : Int64 × Int64 × Int32 × Int32 × Int32) : ZT_10 := ((m.1.1, m.1.2.1, m.1.2.2.1, m.1.2.2.2.1, ho, m.1.2.2.2.2.2), m.2.1, m.2.2.1, g, m.2.2.2.2.1, pb, m.2.2.2.2.2.2)
theorem fb135 (fu : Nat) {L : List Nat} (hlen : L.length ≤ 40) (h40 : ∀ c ∈ L, c < 40) (m : ZT_10) (ho : Nat → Int32) {g : Nat → Int32} (hrow : Arr_ g L) : ∀ (d k n : Nat) (pd G : Int64) (pw du f : Int32), k + d = L.length → d < n → rr_X10_findBill_135 fu n (nI k) (wB m ho (g, nI L.length) (pd, G, pw, du, f)) = some ((1 : Int32), wB m ho (g, nI L.length) (pd, orB (bkL m.1.1 (L.drop k) f).1 G, pw, du, (bkL m.1.1 (L.drop k) f).2)) := by
  intro d
  induction d with
  | zero =>
    intro k n pd G pw du f hk hn
    obtain ⟨n, rfl⟩ : ∃ q, n = q + 1 := ⟨n - 1, by omega⟩
    have e9 : rr_X10_findBill_135 fu (n + 1) = rr_X10_findBill_135_b fu (rr_X10_findBill_135 fu n) := rfl
    rw [e9]
    unfold rr_X10_findBill_135_b
    rw [if_pos (show nI L.length ≤ nI k from nI_le (by omega) (by omega)), List.drop_of_length_le (by omega)]
    rfl
  | succ d ih =>
    intro k n pd G pw du f hk hn
    obtain ⟨n, rfl⟩ : ∃ q, n = q + 1 := ⟨n - 1, by omega⟩
    have e9 : rr_X10_findBill_135 fu (n + 1) = rr_X10_findBill_135_b fu (rr_X10_findBill_135 fu n) := rfl
    rw [e9]
    unfold rr_X10_findBill_135_b rr_X10_findBill_210 rr_X10_bit
    have hkl : k < L.length := by omega
    have hc : L.getD k 0 < 40 := by rw [getD_eq hkl]; exact h40 _ (List.getElem_mem _)
    rw [if_neg (show ¬ nI L.length ≤ nI k from nI_ge (by omega) (by omega)), drop_at hkl]
    by_cases c1 : f ≤ 0
    · rw [if_pos (show f ≤ 0 from c1), bkL_z c1]
      rfl
    · rw [if_neg (show ¬ f ≤ 0 from c1)]
      simp only [ck_in (show k < 40 by omega) (show 40 < 2 ^ 31 by omega), nI_clamp (show k < 2 ^ 31 by omega), hrow k hkl, ck_in hc (show 40 < 2 ^ 31 by omega), nI_clamp (show L.getD k 0 < 2 ^ 31 by omega), lt_eq, nI_1, Option.bind_some]
      by_cases c2 : f < m.1.1 (L.getD k 0)
      · rw [if_pos c2, bkL_s c1 c2]
        exact ih (k + 1) n pd G pw du f (by omega) (by omega)
      · rw [if_neg c2, bkL_g c1 c2]
        exact ih (k + 1) n pd (G ||| bitL (L.getD k 0)) pw du (f - m.1.1 (L.getD k 0)) (by omega) (by omega)
theorem fb27 (fu : Nat) {L : List Nat} (hlen : L.length ≤ 40) (h40 : ∀ c ∈ L, c < 40) (m : ZT_10) (ho : Nat → Int32) {g : Nat → Int32} (hrow : Arr_ g L) (y2 sum : Int32) (Gv : Int64) (r : Int32 × Int32) : ∀ (d k n : Nat) (pd : Int64) (pw : Int32), k + d = L.length → d < n → rr_X10_findBill_27 fu n y2 sum (nI k) (wB m ho (g, nI L.length) (pd, Gv, pw, r)) = rr_X10_findBill_90 fu y2 sum (wB m ho (g, nI L.length) (orB (payL m.1.1 sum (L.drop k) pw).1 pd, Gv, (payL m.1.1 sum (L.drop k) pw).2, r)) := by
  intro d
  induction d with
  | zero =>
    intro k n pd pw hk hn
    obtain ⟨n, rfl⟩ : ∃ q, n = q + 1 := ⟨n - 1, by omega⟩
    have e9 : rr_X10_findBill_27 fu (n + 1) = rr_X10_findBill_27_b fu (rr_X10_findBill_27 fu n) := rfl
    rw [e9]
    unfold rr_X10_findBill_27_b
    rw [if_pos (show nI L.length ≤ nI k from nI_le (by omega) (by omega)), List.drop_of_length_le (by omega)]
    rfl
  | succ d ih =>
    intro k n pd pw hk hn
    obtain ⟨n, rfl⟩ : ∃ q, n = q + 1 := ⟨n - 1, by omega⟩
    have e9 : rr_X10_findBill_27 fu (n + 1) = rr_X10_findBill_27_b fu (rr_X10_findBill_27 fu n) := rfl
    rw [e9]
    unfold rr_X10_findBill_27_b rr_X10_bit
    have hkl : k < L.length := by omega
    have hc : L.getD k 0 < 40 := by rw [getD_eq hkl]; exact h40 _ (List.getElem_mem _)
    rw [if_neg (show ¬ nI L.length ≤ nI k from nI_ge (by omega) (by omega)), drop_at hkl]
    by_cases c1 : sum ≤ pw
    · rw [if_pos (show sum ≤ pw from c1), payL_z c1]
      rfl
    · rw [if_neg (show ¬ sum ≤ pw from c1), payL_s c1]
      simp only [ck_in (show k < 40 by omega) (show 40 < 2 ^ 31 by omega), nI_clamp (show k < 2 ^ 31 by omega), hrow k hkl, ck_in hc (show 40 < 2 ^ 31 by omega), nI_clamp (show L.getD k 0 < 2 ^ 31 by omega), lt_eq, nI_1, Option.bind_some]
      exact ih (k + 1) n (pd ||| bitL (L.getD k 0)) (pw + m.1.1 (L.getD k 0)) (by omega) (by omega)
abbrev pyM (m : ZT_10) (N : Nat) (p sum : Int32) : List Nat × Int32 := payL m.1.1 sum (rowM m m.1.2.2.2.2.2.2 p N) 0
abbrev bkM (m : ZT_10) (N : Nat) (p s sum : Int32) : List Nat × Int32 := bkL m.1.1 (rowM m (m.1.2.2.2.2.2.2 ^^^ 1) s N) ((pyM m N p sum).2 - sum)
abbrev LawOK (m : ZT_10) : Prop := 0 ≤ m.1.2.2.2.2.2.2 ∧ m.1.2.2.2.2.2.2 ≤ 3
theorem m_findBill (fu : Nat) (hfu : 100 ≤ fu) {m : ZT_10} {N : Nat} (hM : MOK m N) (hl : LawOK m) (p s sum : Int32) : ∃ g, rr_X10_findBill fu p s sum m = if sum ≤ (pyM m N p sum).2 then some ((1 : Int32), wB m m.1.2.2.2.2.1 g (orB (pyM m N p sum).1 0, orB (bkM m N p s sum).1 0, (pyM m N p sum).2, (pyM m N p sum).2 - sum, (bkM m N p s sum).2)) else some ((0 : Int32), wB m m.1.2.2.2.2.1 g (0, 0, (pyM m N p sum).2, m.2.2.2.2.2.1.2.2.2)) := by
  have hN := hM.2.1
  obtain ⟨g, er, hg⟩ := r10_findRow fu hfu (s := wB m m.1.2.2.2.2.1 m.2.2.2.1 ((0 : Int64), (0 : Int64), (0 : Int32), m.2.2.2.2.2.1.2.2.2)) hM hl p
  have hlen1 : (rowM m m.1.2.2.2.2.2.2 p N).length ≤ N := rowUp_len N
  have e1 : rr_X10_findBill fu p s sum m = rr_X10_findBill_90 fu s sum (wB m m.1.2.2.2.2.1 (g, nI (rowM m m.1.2.2.2.2.2.2 p N).length) (orB (pyM m N p sum).1 0, 0, (pyM m N p sum).2, m.2.2.2.2.2.1.2.2.2)) := by
    have a1 := fb27 fu (L := rowM m m.1.2.2.2.2.2.2 p N) (by omega) (fun c hc => by have := row_lt c hc; omega) m m.1.2.2.2.2.1 hg s sum 0 m.2.2.2.2.2.1.2.2.2 (rowM m m.1.2.2.2.2.2.2 p N).length 0 fu 0 0 (by omega) (by omega)
    have a2 : rr_X10_findBill fu p s sum m = (rr_X10_findRow fu p m.1.2.2.2.2.2.2 (wB m m.1.2.2.2.2.1 m.2.2.2.1 ((0 : Int64), (0 : Int64), (0 : Int32), m.2.2.2.2.2.1.2.2.2))).bind (fun q4 => rr_X10_findBill_27 fu fu s sum (0 : Int32) q4) := rfl
    rw [a2, er]
    exact a1
  by_cases c : sum ≤ (pyM m N p sum).2
  · obtain ⟨g2, er2, hg2⟩ := r10_findRow fu hfu (s := wB m m.1.2.2.2.2.1 (g, nI (rowM m m.1.2.2.2.2.2.2 p N).length) (orB (pyM m N p sum).1 0, 0, (pyM m N p sum).2, (pyM m N p sum).2 - sum, (pyM m N p sum).2 - sum)) hM (law_x1 hl) s
    have hlen2 : (rowM m (m.1.2.2.2.2.2.2 ^^^ 1) s N).length ≤ N := rowUp_len N
    refine ⟨(g2, nI (rowM m (m.1.2.2.2.2.2.2 ^^^ 1) s N).length), ?_⟩
    rw [if_pos c, e1]
    unfold rr_X10_findBill_90 rr_X10_backLaw
    rw [if_pos (show sum ≤ (pyM m N p sum).2 from c)]
    have a1 := fb135 fu (L := rowM m (m.1.2.2.2.2.2.2 ^^^ 1) s N) (by omega) (fun c hc => by have := row_lt c hc; omega) m m.1.2.2.2.2.1 hg2 (rowM m (m.1.2.2.2.2.2.2 ^^^ 1) s N).length 0 fu (orB (pyM m N p sum).1 0) 0 (pyM m N p sum).2 ((pyM m N p sum).2 - sum) ((pyM m N p sum).2 - sum) (by omega) (by omega)
    show (rr_X10_findRow fu s (m.1.2.2.2.2.2.2 ^^^ 1) (wB m m.1.2.2.2.2.1 (g, nI (rowM m m.1.2.2.2.2.2.2 p N).length) (orB (pyM m N p sum).1 0, 0, (pyM m N p sum).2, (pyM m N p sum).2 - sum, (pyM m N p sum).2 - sum))).bind (fun q22 => rr_X10_findBill_135 fu fu (0 : Int32) q22) = _
    rw [er2]
    exact a1
  · refine ⟨(g, nI (rowM m m.1.2.2.2.2.2.2 p N).length), ?_⟩
    rw [if_neg c, e1]
    unfold rr_X10_findBill_90
    rw [if_neg (show ¬ sum ≤ (pyM m N p sum).2 from c)]
/-- who has what behind a bill -/
def hoS (p s : Int32) (P G : List Nat) (N c : Nat) (ho : Nat → Int32) : Nat → Int32 := fun i => if c ≤ i ∧ i < N then (if i ∈ P then s else if i ∈ G then p else ho i) else ho i
theorem hoS_end (p s : Int32) (P G : List Nat) (N : Nat) (ho : Nat → Int32) : hoS p s P G N N ho = ho := by
  funext i
  unfold hoS
  rw [if_neg (by omega)]
theorem hoS_step (p s : Int32) (P G : List Nat) {N c : Nat} (h : c < N) (ho : Nat → Int32) : hoS p s P G N (c + 1) (upd ho c (if c ∈ P then s else if c ∈ G then p else ho c)) = hoS p s P G N c ho := by
  funext i
  unfold hoS
  by_cases e : i = c
  · subst e
    rw [if_neg (show ¬ (i + 1 ≤ i ∧ i < N) by omega), pk_us, if_pos (show i ≤ i ∧ i < N from ⟨Nat.le_refl i, h⟩)]
  · rw [pk_un e]
    by_cases e2 : c ≤ i ∧ i < N
    · rw [if_pos (by omega), if_pos e2]
    · rw [if_neg (by omega), if_neg e2]
theorem and_bit {x : Int64} {c : Nat} (hc : c < 64) : (x &&& bitL c) = 0 ↔ tb_ x c = false := by
  constructor
  · intro h
    have h0 : tb_ (x &&& bitL c) c = false := by rw [h, tb_0]
    rw [tb_and, tb_bit hc] at h0
    simpa using h0
  · intro h
    apply tb_ext
    intro i hi
    rw [tb_and, tb_bit hc, tb_0]
    by_cases e : i = c
    · subst e; rw [h]; rfl
    · simp [e]
theorem orB_and {P : List Nat} {c : Nat} (hc : c < 64) (hP : ∀ x ∈ P, x < 64) : lg_cmp (orB P 0 &&& bitL c) 0 = 0 ↔ ¬ c ∈ P := by
  rw [lc_eq, and_bit hc, tb_orB P 0 c hP, tb_0]
  simp
theorem db15 (fu : Nat) {N : Nat} (m : ZT_10) (hm : m.1.2.2.2.2.2.1 = nI N) (hN : N ≤ 40) (p s : Int32) {P G : List Nat} (hP : ∀ c ∈ P, c < 64) (hG : ∀ c ∈ G, c < 64) (g : (Nat → Int32) × Int32) (r : Int32 × Int32 × Int32) : ∀ (d c n : Nat) (ho : Nat → Int32), c + d = N → d < n → rr_X10_doBill_15 fu n p s (nI c) (wB m ho g (orB P 0, orB G 0, r)) = some ((1 : Int32), wB m (hoS p s P G N c ho) g (orB P 0, orB G 0, r)) := by
  intro d
  induction d with
  | zero =>
    intro c n ho hc hn
    obtain ⟨n, rfl⟩ : ∃ q, n = q + 1 := ⟨n - 1, by omega⟩
    have : c = N := by omega
    subst this
    have e9 : rr_X10_doBill_15 fu (n + 1) = rr_X10_doBill_15_b fu (rr_X10_doBill_15 fu n) := rfl
    rw [e9]
    unfold rr_X10_doBill_15_b
    rw [if_pos (show m.1.2.2.2.2.2.1 ≤ nI c by rw [hm]; exact nI_le (Nat.le_refl c) (by omega)), hoS_end]
  | succ d ih =>
    intro c n ho hc hn
    obtain ⟨n, rfl⟩ : ∃ q, n = q + 1 := ⟨n - 1, by omega⟩
    have e9 : rr_X10_doBill_15 fu (n + 1) = rr_X10_doBill_15_b fu (rr_X10_doBill_15 fu n) := rfl
    rw [e9]
    unfold rr_X10_doBill_15_b rr_X10_doBill_75 rr_X10_bit
    rw [if_neg (show ¬ m.1.2.2.2.2.2.1 ≤ nI c by rw [hm]; exact nI_ge (by omega) (by omega))]
    simp only [ck_in (show c < 40 by omega) (show 40 < 2 ^ 31 by omega), nI_clamp (show c < 2 ^ 31 by omega), lt_eq, nI_1, Option.bind_some, orB_and (show c < 64 by omega) hP, orB_and (show c < 64 by omega) hG]
    have h2 := ih (c + 1) n (upd ho c (if c ∈ P then s else if c ∈ G then p else ho c)) (by omega) (by omega)
    rw [hoS_step p s P G (show c < N by omega) ho] at h2
    by_cases c1 : c ∈ P
    · rw [if_pos c1] at h2
      rw [if_neg (not_not_intro c1)]
      exact h2
    · rw [if_neg c1] at h2
      rw [if_pos c1]
      by_cases c2 : c ∈ G
      · rw [if_pos c2] at h2
        rw [if_neg (not_not_intro c2)]
        exact h2
      · rw [if_neg c2] at h2
        rw [if_pos c2]
        exact h2
abbrev hoM (m : ZT_10) (N : Nat) (p s sum : Int32) : Nat → Int32 := hoS p s (pyM m N p sum).1 (bkM m N p s sum).1 N 0 m.1.2.2.2.2.1
theorem pyM_lt {m : ZT_10} {N : Nat} {p sum : Int32} : ∀ c ∈ (pyM m N p sum).1, c < N ∧ m.1.2.2.2.2.1 c = p := fun c hc => (rowUp_mem N c).mp (payL_sub _ _ c hc)
theorem bkM_lt {m : ZT_10} {N : Nat} {p s sum : Int32} : ∀ c ∈ (bkM m N p s sum).1, c < N ∧ m.1.2.2.2.2.1 c = s := fun c hc => (rowUp_mem N c).mp (bkL_sub _ _ c hc)
theorem m_doBill (fu : Nat) (hfu : 100 ≤ fu) {m : ZT_10} {N : Nat} (hM : MOK m N) (hl : LawOK m) (p s sum : Int32) : ∃ g, rr_X10_doBill fu p s sum m = if sum ≤ (pyM m N p sum).2 then some ((1 : Int32), wB m (hoM m N p s sum) g (orB (pyM m N p sum).1 0, orB (bkM m N p s sum).1 0, (pyM m N p sum).2, (pyM m N p sum).2 - sum, (bkM m N p s sum).2)) else some ((0 : Int32), wB m m.1.2.2.2.2.1 g (0, 0, (pyM m N p sum).2, m.2.2.2.2.2.1.2.2.2)) := by
  have hN := hM.2.1
  obtain ⟨g, e⟩ := m_findBill fu hfu hM hl p s sum
  refine ⟨g, ?_⟩
  unfold rr_X10_doBill
  rw [e]
  by_cases c : sum ≤ (pyM m N p sum).2
  · rw [if_pos c, if_pos c, Option.bind_some, if_neg (show ¬ (1 : Int32) = 0 by decide)]
    exact db15 fu m hM.1 hN p s (fun c hc => by have := (pyM_lt c hc).1; omega) (fun c hc => by have := (bkM_lt c hc).1; omega) g _ N 0 fu m.1.2.2.2.2.1 (by omega) (by omega)
  · rw [if_neg c, if_neg c, Option.bind_some, if_pos rfl]
