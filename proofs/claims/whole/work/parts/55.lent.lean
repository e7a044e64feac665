-- ===== lent =====
theorem board_move {hd : Nat → Int64} {ho : Nat → Int32} {rk : ZT_4} {K : Nat → Int} {wo : Nat → Int32} {law : Int32} {N : Nat} {l : List Nat} (hN : N ≤ 40) (hR : RankOK rk K wo law N l) (hB : BoardOK hd ho N l) {p q r0 : Nat} (hp : p < 8) (hq : q < 8) (hpq : p ≠ q) (hr0 : r0 < N) (hc : ho (l.getD r0 0) = nI p) : BoardOK (vp_updL (vp_updL hd p (hd p &&& (bitL r0 ^^^ (-1 : Int64)))) q (hd q ||| bitL r0)) (upd ho (l.getD r0 0) (nI q)) N l := by
  intro h hh r hr
  have hBh := hB h hh r hr
  have hBp := hB p hp r hr
  have hBq := hB q hq r hr
  have hnd : r < N → (l.getD r 0 = l.getD r0 0 ↔ r = r0) := fun hrN => ⟨fun e => rank_nd hR r r0 hrN hr0 e, fun e => by rw [e]⟩
  have npq : ¬ nI p = nI q := fun e => hpq ((nI_eq (by omega) (by omega)).mp e)
  have nqp : ¬ nI q = nI p := fun e => npq e.symm
  by_cases hrN : r < N
  · have hnd := hnd hrN
    by_cases er : r = r0
    · subst er
      rw [pk_us]
      by_cases e1 : h = q
      · subst e1
        rw [pk_uLs, tb_or, tb_bit (by omega)]
        simp [hrN]
      · rw [pk_uLn e1]
        have nh : ¬ nI q = nI h := fun e => e1 ((nI_eq (by omega) (by omega)).mp e).symm
        by_cases e2 : h = p
        · subst e2
          rw [pk_uLs, tb_and, tb_xor, tb_bit (by omega), tb_m1 hr]
          simp [nqp]
        · rw [pk_uLn e2, hBh, hc]
          have nh2 : ¬ nI p = nI h := fun e => e2 ((nI_eq (by omega) (by omega)).mp e).symm
          simp [nh, nh2]
    · rw [pk_un (fun e => er (hnd.mp e))]
      by_cases e1 : h = q
      · subst e1
        rw [pk_uLs, tb_or, tb_bit (by omega), hBq]
        simp [er]
      · rw [pk_uLn e1]
        by_cases e2 : h = p
        · subst e2
          rw [pk_uLs, tb_and, tb_xor, tb_bit (by omega), tb_m1 hr, hBp]
          simp [er]
        · rw [pk_uLn e2, hBh]
  · have key : ∀ x : Prop, [Decidable x] → decide (r < N ∧ x) = false := fun x _ => decide_eq_false (fun y => hrN y.1)
    have er : ¬ r = r0 := by omega
    rw [key]
    by_cases e1 : h = q
    · subst e1
      rw [pk_uLs, tb_or, tb_bit (by omega), hBq, key]
      simp [er]
    · rw [pk_uLn e1]
      by_cases e2 : h = p
      · subst e2
        rw [pk_uLs, tb_and, tb_xor, tb_bit (by omega), tb_m1 hr, hBp, key]
        rfl
      · rw [pk_uLn e2, hBh, key]
theorem c_move (fu : Nat) {b : ZT_1} {p q r0 : Nat} (hp : p < 8) (hq : q < 8) (hpq : p ≠ q) : rr_X1_move fu (nI r0) (nI p) (nI q) b = some (vp_updL (vp_updL b.1 p (b.1 p &&& (bitL r0 ^^^ (-1 : Int64)))) q (b.1 q ||| bitL r0), b.2) := by
  unfold rr_X1_move
  simp only [ck_in hp (show 8 < 2 ^ 31 by omega), ck_in hq (show 8 < 2 ^ 31 by omega), nI_clamp (show p < 2 ^ 31 by omega), nI_clamp (show q < 2 ^ 31 by omega), lt_eq]
  rw [pk_uLn (show q ≠ p from fun e => hpq e.symm)]
/-- one turn of lent: both bills, and what is chosen -/
theorem lent_body (fu : Nat) (hfu : 100 ≤ fu) {c : ZT_9} {m : ZT_10} {N : Nat} {l : List Nat} (hM : MOK m N) (hl : LawOK m) (hR : RankOK c.2.2.2.1 (keyM m m.1.2.2.2.2.2.2) m.1.1 m.1.2.2.2.2.2.2 N l) {x1 x2 x3 x4 x5 x6 : Int32} (h1 : 0 ≤ x1 ∧ x1 ≤ 3) (h2 : 4 ≤ x2 ∧ x2 ≤ 7) (h4 : 0 ≤ x4 ∧ x4 ≤ 3) (h5 : 4 ≤ x5 ∧ x5 ≤ 7) (ch mo ch' mo' k : Int32) (r9 : Int32 → Int32 → Int32 → Int32 → Int32 → Int32 → Int32 → Int32 → Int32 → ZT_9 → Option (Int32 × ZT_9)) (r10 : Int32 → Int32 → Int32 → Int32 → Int32 → Int32 → Int32 → Int32 → Int32 → ZT_10 → Option (Int32 × ZT_10)) {t : ZT_1} {ho : Nat → Int32} (g : (Nat → Int32) × Int32) (pb : Int64 × Int64 × Int32 × Int32 × Int32) (h7 : ∀ i, i < N → 0 ≤ ho i ∧ ho i ≤ 7) (hB : BoardOK t.1 ho N l) : ∃ (e : Int32) (t' : ZT_1) (ho' : Nat → Int32) (g' : (Nat → Int32) × Int32) (pb' : Int64 × Int64 × Int32 × Int32 × Int32), (e = 0 ∨ e = 1 ∨ e = 2) ∧ rr_X9_lent_121 fu r9 x1 x2 x3 x4 x5 x6 ch mo k (wT c t) = r9 x1 x2 x3 x4 x5 x6 (if e ≤ mo then ch else if k = -1 then -4 else k) (if e ≤ mo then mo else e) (k + 1) (wT c t') ∧ rr_X10_lent_82 fu r10 x1 x2 x3 x4 x5 x6 mo' ch' k (wB m ho g pb) = r10 x1 x2 x3 x4 x5 x6 (if e ≤ mo' then mo' else e) (if e ≤ mo' then ch' else if 0 ≤ k then k else -4) (k + 1) (wB m ho' g' pb') ∧ ∀ i, i < N → ho' i = m.2.2.2.2.2.2.1.1 i := by
  have hN := hM.2.1
  have hM1 : MOK (wB m ho g pb) N := mok_ho hM ⟨rfl, rfl, rfl, rfl, rfl⟩ h7
  obtain ⟨ra, va, b1, ho1, g1, pb1, ha, ea, a1, a2, a3, a4⟩ := evenD_both fu hfu hM1 hl hR (b := t) hB (sum := x3) h1 h2
  have hM2 : MOK (wB m ho1 g1 pb1) N := mok_ho hM ⟨rfl, rfl, rfl, rfl, rfl⟩ a3
  obtain ⟨rb, vb, b2, ho2, g2, pb2, hb, eb, q1, q2, q3, q4⟩ := evenD_both fu hfu hM2 hl hR (b := b1) a4 (sum := x6) h4 h5
  obtain ⟨ho3, w1, w2⟩ := m_back fu hfu (m := wB m ho2 g2 pb2) hM.1 hN
  refine ⟨ra + rb, b2, ho3, g2, pb2, ?_, ?_, ?_, w2⟩
  · rcases ha with rfl | rfl <;> rcases hb with rfl | rfl <;> decide
  · have tail : ∀ (w0 w1 : Int32), rr_X9_lent_172 fu r9 x1 x2 x3 x4 x5 x6 ch mo k w0 w1 (wT c b2) = r9 x1 x2 x3 x4 x5 x6 (if w1 + w0 ≤ mo then ch else if k = -1 then -4 else k) (if w1 + w0 ≤ mo then mo else w1 + w0) (k + 1) (wT c b2) := by
      intro w0 w1
      unfold rr_X9_lent_172 rr_X9_lent_199 rr_X9_lent_201
      simp only [lt_eq]
      by_cases z : w1 + w0 ≤ mo
      · rw [if_pos z, if_pos z, if_pos z]
      · rw [if_neg z, if_neg z, if_neg z]
        by_cases z2 : k = -1
        · rw [if_pos z2, if_pos z2]
        · rw [if_neg z2, if_neg z2]
    have mid : ∀ w : Int32, rr_X9_lent_143 fu r9 x1 x2 x3 x4 x5 x6 ch mo k w (wT c b1) = rr_X9_lent_172 fu r9 x1 x2 x3 x4 x5 x6 ch mo k rb w (wT c b2) := by
      intro w
      unfold rr_X9_lent_143
      have q1' : rr_X1_meetsEvenly fu x4 x5 x6 (wT c b1).2.2.2.2.2.2.2.1 (wT c b1).2.2.2.1 = some (rb, b2) := q1
      rw [q1', Option.bind_some]
      rcases hb with rfl | rfl
      · rw [if_pos rfl]
      · rw [if_neg (show ¬ (1 : Int32) = 0 by decide)]
    unfold rr_X9_lent_121
    have a1' : rr_X1_meetsEvenly fu x1 x2 x3 (wT c t).2.2.2.2.2.2.2.1 (wT c t).2.2.2.1 = some (ra, b1) := a1
    rw [a1', Option.bind_some]
    have fin := (mid ra).trans (tail rb ra)
    rcases ha with rfl | rfl
    · rw [if_pos rfl]; exact fin
    · rw [if_neg (show ¬ (1 : Int32) = 0 by decide)]; exact fin
  · have tail : ∀ (w0 w1' : Int32), rr_X10_lent_133 fu r10 x1 x2 x3 x4 x5 x6 mo' ch' k w0 w1' (wB m ho2 g2 pb2) = r10 x1 x2 x3 x4 x5 x6 (if w1' + w0 ≤ mo' then mo' else w1' + w0) (if w1' + w0 ≤ mo' then ch' else if 0 ≤ k then k else -4) (k + 1) (wB m ho3 g2 pb2) := by
      intro w0 w1'
      unfold rr_X10_lent_133 rr_X10_lent_164 rr_X10_lent_180 rr_X10_lent_182
      have w1'' : rr_X10_bringBack fu (wB m ho2 g2 pb2) = some (wB m ho3 g2 pb2) := w1
      simp only [lt_eq]
      rw [w1'', Option.bind_some]
      by_cases z : w1' + w0 ≤ mo'
      · simp only [if_pos z]
      · by_cases z2 : 0 ≤ k
        · simp only [if_neg z, if_pos z2]
        · simp only [if_neg z, if_neg z2]
    have mid : ∀ w : Int32, rr_X10_lent_104 fu r10 x1 x2 x3 x4 x5 x6 mo' ch' k w (wB m ho1 g1 pb1) = rr_X10_lent_133 fu r10 x1 x2 x3 x4 x5 x6 mo' ch' k rb w (wB m ho2 g2 pb2) := by
      intro w
      unfold rr_X10_lent_104 rr_X10_lent_132
      have q2' : rr_X10_doBill fu x4 x5 x6 (wB m ho1 g1 pb1) = some (vb, wB m ho2 g2 pb2) := q2
      rw [q2', Option.bind_some, eb]
      by_cases z : vb = 0
      · rw [if_pos z, if_pos z]
      · rw [if_neg z, if_neg z]
        by_cases z2 : pb2.2.2.2.1 = 0
        · rw [if_pos z2, if_pos (show pb2.2.2.2.1 = 0 from z2)]
        · rw [if_neg z2, if_neg (show ¬ pb2.2.2.2.1 = 0 from z2)]
    unfold rr_X10_lent_82 rr_X10_lent_103
    have a2' : rr_X10_doBill fu x1 x2 x3 (wB m ho g pb) = some (va, wB m ho1 g1 pb1) := a2
    rw [a2', Option.bind_some]
    have fin := (mid ra).trans (tail rb ra)
    rw [← fin, ea]
    by_cases z : va = 0
    · rw [if_pos z, if_pos z]
    · rw [if_neg z, if_neg z]
      by_cases z2 : pb1.2.2.2.1 = 0
      · rw [if_pos z2, if_pos (show pb1.2.2.2.1 = 0 from z2)]
      · rw [if_neg z2, if_neg (show ¬ pb1.2.2.2.1 = 0 from z2)]
theorem nI_nm1 {k : Nat} (h : k < 2 ^ 31) : ¬ nI k = -1 := by
  intro e
  rw [i32_eq, nI_toInt h] at e
  have : (-1 : Int32).toInt = -1 := by decide
  omega
theorem lent43 (fu : Nat) (hfu : 100 ≤ fu) {c : ZT_9} {m : ZT_10} {N : Nat} {l : List Nat} (hM : MOK m N) (hl : LawOK m) (hR : RankOK c.2.2.2.1 (keyM m m.1.2.2.2.2.2.2) m.1.1 m.1.2.2.2.2.2.2 N l) (hB : BoardOK c.2.2.2.2.2.2.1.1 m.1.2.2.2.2.1 N l) (hh : ∀ i, i < N → m.2.2.2.2.2.2.1.1 i = m.1.2.2.2.2.1 i) (hcn : c.1.2.1.1 = nI N) (hch : ∀ i, i < N → c.1.2.1.2.1 i = m.1.2.2.2.2.1 i) {x1 x2 x3 x4 x5 x6 : Int32} (h1 : 0 ≤ x1 ∧ x1 ≤ 3) (h2 : 4 ≤ x2 ∧ x2 ≤ 7) (h4 : 0 ≤ x4 ∧ x4 ≤ 3) (h5 : 4 ≤ x5 ∧ x5 ≤ 7) (hne : x1 ≠ x4) : ∀ (d k n n' : Nat) (ch mo : Int32) (t : ZT_1) (ho : Nat → Int32) (g : (Nat → Int32) × Int32) (pb : Int64 × Int64 × Int32 × Int32 × Int32), k + d = N → d < n → d < n' → (∀ i, i < N → ho i = m.1.2.2.2.2.1 i) → ∃ (r : Int32) (t' : ZT_1) (ho' : Nat → Int32) (g' : (Nat → Int32) × Int32) (pb' : Int64 × Int64 × Int32 × Int32 × Int32), rr_X9_lent_43 fu n x1 x2 x3 x4 x5 x6 ch mo (nI k) (wT c t) = some (r, wT c t') ∧ rr_X10_lent_43 fu n' x1 x2 x3 x4 x5 x6 mo ch (nI k) (wB m ho g pb) = some (r, wB m ho' g' pb') ∧ ∀ i, i < N → ho' i = m.1.2.2.2.2.1 i := by
  have hN := hM.2.1
  intro d
  induction d with
  | zero =>
    intro k n n' ch mo t ho g pb hk hn hn' hho
    obtain ⟨n, rfl⟩ : ∃ q, n = q + 1 := ⟨n - 1, by omega⟩
    obtain ⟨n', rfl⟩ : ∃ q, n' = q + 1 := ⟨n' - 1, by omega⟩
    have : k = N := by omega
    subst this
    have e9 : rr_X9_lent_43 fu (n + 1) = rr_X9_lent_43_b fu (rr_X9_lent_43 fu n) := rfl
    have e8 : rr_X10_lent_43 fu (n' + 1) = rr_X10_lent_43_b fu (rr_X10_lent_43 fu n') := rfl
    rw [e9, e8]
    unfold rr_X9_lent_43_b rr_X10_lent_43_b
    rw [if_pos (show c.1.2.1.1 ≤ nI k by rw [hcn]; exact nI_le (Nat.le_refl k) (by omega)), if_pos (show m.1.2.2.2.2.2.1 ≤ nI k by rw [hM.1]; exact nI_le (Nat.le_refl k) (by omega))]
    exact ⟨_, _, _, _, _, rfl, rfl, hho⟩
  | succ d ih =>
    intro k n n' ch mo t ho g pb hk hn hn' hho
    obtain ⟨n, rfl⟩ : ∃ q, n = q + 1 := ⟨n - 1, by omega⟩
    obtain ⟨n', rfl⟩ : ∃ q, n' = q + 1 := ⟨n' - 1, by omega⟩
    have e9 : rr_X9_lent_43 fu (n + 1) = rr_X9_lent_43_b fu (rr_X9_lent_43 fu n) := rfl
    have e8 : rr_X10_lent_43 fu (n' + 1) = rr_X10_lent_43_b fu (rr_X10_lent_43 fu n') := rfl
    rw [e9, e8]
    unfold rr_X9_lent_43_b rr_X10_lent_43_b
    have hkN : k < N := by omega
    rw [if_neg (show ¬ c.1.2.1.1 ≤ nI k by rw [hcn]; exact nI_ge (by omega) (by omega)), if_neg (show ¬ m.1.2.2.2.2.2.1 ≤ nI k by rw [hM.1]; exact nI_ge (by omega) (by omega)), if_neg (nI_nm1 (show k < 2 ^ 31 by omega)), if_neg (show ¬ nI k < 0 from nI_pos (by omega)), ck_in (show k < 40 by omega) (by omega), ck_in (show k < 40 by omega) (by omega), nI_clamp (show k < 2 ^ 31 by omega)]
    by_cases c1 : m.1.2.2.2.2.1 k = x1
    · rw [if_pos (show c.1.2.1.2.1 k = x1 from (hch k hkN).trans c1), if_pos (show m.2.2.2.2.2.2.1.1 k = x1 from (hh k hkN).trans c1)]
      unfold rr_X9_lent_84 rr_X10_lent_68
      obtain ⟨f, ec, hf⟩ := c_copy fu hfu t c.2.2.2.2.2.2.1
      have ec' : rr_X1_copyFrom fu (wT c t).2.2.2.2.2.2.2.1 (wT c t).2.2.2.2.2.2.1 = some (f, t.2) := ec
      rw [ec', Option.bind_some, if_neg (nI_nm1 (show k < 2 ^ 31 by omega)), if_neg (show ¬ nI k < 0 from nI_pos (by omega)), ck_in (show k < 40 by omega) (by omega), ck_in (show k < 40 by omega) (by omega), nI_clamp (show k < 2 ^ 31 by omega)]
      obtain ⟨p, hp3, e1⟩ := nat_of 3 (by omega) rfl h1.1 h1.2
      obtain ⟨q, hq3, e4⟩ := nat_of 3 (by omega) rfl h4.1 h4.2
      have hpq : p ≠ q := fun e => hne (by rw [e1, e4, e])
      obtain ⟨r0, hr0, er⟩ := rank_at hR k hkN
      have hro : c.2.2.2.1.2.2.2.1 k = nI r0 := by rw [← er]; exact hR.2.2.2.2.2.2.1 r0 hr0
      have mv : rr_X1_move fu ((wT c t).2.2.2.1.2.2.2.1 k) x1 x4 (f, t.2) = some (vp_updL (vp_updL f p (f p &&& (bitL r0 ^^^ (-1 : Int64)))) q (f q ||| bitL r0), t.2) := by
        show rr_X1_move fu (c.2.2.2.1.2.2.2.1 k) x1 x4 (f, t.2) = _
        rw [hro, e1, e4]
        exact c_move fu (b := (f, t.2)) (by omega) (by omega) hpq
      rw [mv, Option.bind_some]
      have hB1 : BoardOK f ho N l := board_congr (rank_lt hR) hB hf hho
      have hB2 := board_move hN hR hB1 (show p < 8 by omega) (show q < 8 by omega) hpq hr0 (by rw [er, hho k hkN, c1, e1])
      rw [er, ← e4] at hB2
      have h7 : ∀ i, i < N → 0 ≤ upd ho k x4 i ∧ upd ho k x4 i ≤ 7 := by
        intro i hi
        by_cases e : i = k
        · subst e; rw [pk_us, e4]; exact ⟨nI_pos' (by omega), nI_le (b := 7) (by omega) (by omega)⟩
        · rw [pk_un e, hho i hi]; exact (hM.2.2 i hi).2.2.2.2
      obtain ⟨e, t', ho', g', pb', _, z1, z2, z3⟩ := lent_body fu hfu (c := c) hM hl hR (x3 := x3) (x6 := x6) h1 h2 h4 h5 ch mo ch mo (nI k) (rr_X9_lent_43 fu n) (rr_X10_lent_43 fu n') (t := (vp_updL (vp_updL f p (f p &&& (bitL r0 ^^^ (-1 : Int64)))) q (f q ||| bitL r0), t.2)) g pb h7 hB2
      have i1 := ih (k + 1) n n' (if e ≤ mo then ch else if nI k = -1 then -4 else nI k) (if e ≤ mo then mo else e) t' ho' g' pb' (by omega) (by omega) (by omega) (fun i hi => (z3 i hi).trans (hh i hi))
      rw [nI_1] at z1 z2
      rw [if_pos (show 0 ≤ nI k from nI_pos' (by omega))] at z2
      rw [if_neg (nI_nm1 (show k < 2 ^ 31 by omega))] at z1 i1
      rw [← z1, ← z2] at i1
      exact i1
    · rw [if_neg (show ¬ c.1.2.1.2.1 k = x1 from fun e => c1 ((hch k hkN).symm.trans e)), if_neg (show ¬ m.2.2.2.2.2.2.1.1 k = x1 from fun e => c1 ((hh k hkN).symm.trans e))]
      unfold rr_X9_lent_201 rr_X10_lent_182
      simp only [lt_eq, nI_1]
      exact ih (k + 1) n n' ch mo t ho g pb (by omega) (by omega) (by omega) hho
theorem st_lent (fu : Nat) (hfu : 100 ≤ fu) : St_lent fu Rel := by
  intro x1 x2 x3 x4 x5 x6 c m h
  unfold rr_X9_lent rr_X10_lent
  simp only [r9_within, r9_isHolder, r9_isYear, r9_isPurse, r9_isShop, r9_isSum, r9_isSheet, r9_isLane, r9_isCoin, r9_isBill, r10_isHolder, r10_isPurse, r10_isShop, r10_isSum, r10_isCoin, r10_isBill, r10_isSheet, in_1_99, in_0_99, in_0_3, in_0_4, in_1_50, in_0_5, in_m1_5, in_1_4, in_1_8, Option.bind_some, it_10, it_01, zk_b, zk_1, zk_0, lt_eq]
  have h0 := h
  by_cases hx : (0 ≤ x1 ∧ x1 ≤ 3) ∧ (4 ≤ x2 ∧ x2 ≤ 7) ∧ (1 ≤ x3 ∧ x3 ≤ 999)
  · rw [if_neg (not_not_intro hx), if_neg (not_not_intro hx)]
    by_cases hy : (0 ≤ x4 ∧ x4 ≤ 3) ∧ (4 ≤ x5 ∧ x5 ≤ 7) ∧ (1 ≤ x6 ∧ x6 ≤ 999)
    · rw [if_neg (not_not_intro hy), if_neg (not_not_intro hy)]
      by_cases hne : x1 = x4
      · rw [if_pos hne, if_pos hne]; exact ⟨_, _, _, rfl, rfl, h0⟩
      · rw [if_neg hne, if_neg hne]
        obtain ⟨rk, f, N, l, el, hM, hR, hB, hC⟩ := r9_layOut fu hfu h
        have hl := rel_law h
        have hN := hM.2.1
        obtain ⟨hd, k1, k2⟩ := m_keep fu hfu (m := m) hM.1 hN
        rw [el, k1]
        simp only [Option.bind_some]
        obtain ⟨n, hn⟩ : ∃ q, fu = q + 1 := ⟨fu - 1, by omega⟩
        obtain ⟨f2, ec, hf2⟩ := c_copy fu hfu c.2.2.2.2.2.2.2.1 (f, c.2.2.2.2.2.2.1.2)
        have hB1 : BoardOK f2 m.1.2.2.2.2.1 N l := board_congr (rank_lt hR) hB hf2 (fun _ _ => rfl)
        obtain ⟨e, t', ho', g', pb', he, z1, z2, z3⟩ := lent_body fu hfu (c := (c.1, c.2.1, c.2.2.1, rk, (0 : Int32), c.2.2.2.2.2.1, (f, c.2.2.2.2.2.2.1.2), c.2.2.2.2.2.2.2)) (m := wK m hd) hM hl hR (x3 := x3) (x6 := x6) hx.1 hx.2.1 hy.1 hy.2.1 (-4) 0 (-4) (-1) (-1) (rr_X9_lent_43 fu n) (rr_X10_lent_43 fu n) (t := (f2, c.2.2.2.2.2.2.2.1.2)) m.2.2.2.1 m.2.2.2.2.2.1 (fun i hi => (hM.2.2 i hi).2.2.2.2) hB1
        obtain ⟨r, t2, ho2, g2, pb2, a1, a2, a3⟩ := lent43 fu hfu (c := (c.1, c.2.1, c.2.2.1, rk, (0 : Int32), c.2.2.2.2.2.1, (f, c.2.2.2.2.2.2.1.2), c.2.2.2.2.2.2.2)) (m := wK m hd) hM hl hR hB k2 hC.1 (fun i hi => (hC.2.2.1 i hi).1) (x3 := x3) (x6 := x6) hx.1 hx.2.1 hy.1 hy.2.1 hne N 0 n n (-4) e t' ho' g' pb' (by omega) (by omega) (by omega) (fun i hi => (z3 i hi).trans (k2 i hi))
        refine ⟨r, _, _, ?_, ?_, rel_over h0 hM hR (c.2.2.2.2.2.1, (f, c.2.2.2.2.2.2.1.2), t2, c.2.2.2.2.2.2.2.2.1, c.2.2.2.2.2.2.2.2.2.1) (f := c.1.2.1.2.1) (ho := ho2) (fun i hi => by rw [a3 i hi]; exact (hC.2.2.1 i hi).1) (fun i hi => by rw [a3 i hi]; exact (hM.2.2 i hi).2.2.2.2) g2 pb2 (hd, m.2.2.2.2.2.2.1.2) m.2.2.2.2.2.2.2.1⟩
        · have e9 : rr_X9_lent_43 fu fu = rr_X9_lent_43_b fu (rr_X9_lent_43 fu n) := by
            have : rr_X9_lent_43 fu (n + 1) = rr_X9_lent_43_b fu (rr_X9_lent_43 fu n) := rfl
            rw [← this, ← hn]
          rw [e9]
          unfold rr_X9_lent_43_b rr_X9_lent_84
          rw [if_neg (show ¬ c.1.2.1.1 ≤ (-1 : Int32) by
            rw [hC.1, i32_le, nI_toInt (by omega)]
            have : (-1 : Int32).toInt = -1 := by decide
            omega), if_pos rfl]
          have ec' : rr_X1_copyFrom fu c.2.2.2.2.2.2.2.1 (f, c.2.2.2.2.2.2.1.2) = some (f2, c.2.2.2.2.2.2.2.1.2) := ec
          rw [ec', Option.bind_some, if_pos rfl]
          refine z1.trans ?_
          have e1 : (if e ≤ 0 then (-4 : Int32) else if (-1 : Int32) = -1 then -4 else -1) = -4 := by rcases he with rfl | rfl | rfl <;> decide
          have e2 : (if e ≤ 0 then (0 : Int32) else e) = e := by rcases he with rfl | rfl | rfl <;> decide
          rw [e1, e2]
          exact a1
        · have e9 : rr_X10_lent_43 fu fu = rr_X10_lent_43_b fu (rr_X10_lent_43 fu n) := by
            have : rr_X10_lent_43 fu (n + 1) = rr_X10_lent_43_b fu (rr_X10_lent_43 fu n) := rfl
            rw [← this, ← hn]
          rw [e9]
          unfold rr_X10_lent_43_b rr_X10_lent_68
          rw [if_neg (show ¬ m.1.2.2.2.2.2.1 ≤ (-1 : Int32) by
            rw [hM.1, i32_le, nI_toInt (by omega)]
            have : (-1 : Int32).toInt = -1 := by decide
            omega), if_pos (show (-1 : Int32) < 0 by decide), if_pos (show (-1 : Int32) < 0 by decide)]
          refine z2.trans ?_
          have e1 : (if e ≤ -1 then (-1 : Int32) else e) = e := by rcases he with rfl | rfl | rfl <;> decide
          have e2 : (if e ≤ -1 then (-4 : Int32) else if (0 : Int32) ≤ -1 then -1 else -4) = -4 := by rcases he with rfl | rfl | rfl <;> decide
          rw [e1, e2]
          exact a2
    · rw [if_pos hy, if_pos hy]; exact ⟨_, _, _, rfl, rfl, h0⟩
  · rw [if_pos hx, if_pos hx]; exact ⟨_, _, _, rfl, rfl, h0⟩
