-- ===== shows =====
abbrev wDT (c : ZT_9) (b t : ZT_1) : ZT_9 := (c.1, c.2.1, c.2.2.1, c.2.2.2.1, c.2.2.2.2.1, c.2.2.2.2.2.1, b, t, c.2.2.2.2.2.2.2.2)
abbrev mH (m : ZT_10) (ho : Nat → Int32) : ZT_10 := ((m.1.1, m.1.2.1, m.1.2.2.1, m.1.2.2.2.1, ho, m.1.2.2.2.2.2), m.2)
theorem pd_b (fu : Nat) (hfu : 100 ≤ fu) {c : ZT_9} {m : ZT_10} {N B : Nat} {l : List Nat} (hM : MOK m N) (hl : LawOK m) (hR : RankOK c.2.2.2.1 (keyM m m.1.2.2.2.2.2.2) m.1.1 m.1.2.2.2.2.2.2 N l) (hD : DayR c.1.2.2.1 m.2.2.1.1 B) {d i : Nat} (hi : i < B) (b t : ZT_1) {ho : Nat → Int32} (h7 : ∀ i, i < N → 0 ≤ ho i ∧ ho i ≤ 7) (hB : BoardOK b.1 ho N l) {F : Nat → Int64} (hs : SeqP m.1.1 m.1.2.1 m.1.2.2.1 m.1.2.2.2.1 m.1.2.2.2.2.2.2 m.2.2.1.1 N B (d + 1) i ho F) : ∃ b' : ZT_1, rr_X9_coinsPaid_b fu (nI i) (wDT c b t) = some (F i, wDT c b' t) ∧ ((F i ≠ 0 ∧ ∃ ho' : Nat → Int32, (∀ i, i < N → 0 ≤ ho' i ∧ ho' i ≤ 7) ∧ BoardOK b'.1 ho' N l ∧ SeqP m.1.1 m.1.2.1 m.1.2.2.1 m.1.2.2.2.1 m.1.2.2.2.2.2.2 m.2.2.1.1 N B d (i + 1) ho' F) ∨ (∀ k, i ≤ k → k < B → F k = 0)) := by
  have hB24 := hD.2.1
  have hM1 : MOK (mH m ho) N := mok_ho hM ⟨rfl, rfl, rfl, rfl, rfl⟩ h7
  have hd := hD.2.2.1 i hi
  have hd2 := hD.2.2.2 i hi
  have cls : ∀ v x, rr_X1_meets fu (m.2.2.1.1 (3 * i)) (m.2.2.1.1 (3 * i + 1)) (m.2.2.1.1 (3 * i + 2)) b c.2.2.2.1 = some (v, x) → (v = 0 ∨ v = 1) → rr_X9_runBill_b fu (nI i) (wDT c b t) = some (v, wDT c x t) := by
    intro v x h1 h2
    unfold rr_X9_runBill_b
    rw [ck_in (show i < 24 by omega) (by omega), ck_in (show i < 24 by omega) (by omega), ck_in (show i < 24 by omega) (by omega), nI_clamp (show i < 2 ^ 31 by omega)]
    have h3 : rr_X1_meets fu (c.1.2.2.1.2.1 i) (c.1.2.2.1.2.2.1 i) (c.1.2.2.1.2.2.2 i) b c.2.2.2.1 = some (v, x) := by rw [hd.1, hd.2.1, hd.2.2]; exact h1
    show (rr_X1_meets fu (c.1.2.2.1.2.1 i) (c.1.2.2.1.2.2.1 i) (c.1.2.2.1.2.2.2 i) b c.2.2.2.1).bind _ = _
    rw [h3, Option.bind_some]
    rcases h2 with rfl | rfl
    · rw [zk_0]
    · rw [zk_1]
  obtain ⟨p, hp3, ep⟩ := nat_of 3 (by omega) rfl hd2.1.1 hd2.1.2
  obtain ⟨s, hs4, hs8, es⟩ := shop_of hd2.2.1
  obtain ⟨c1, c2⟩ := c_meets fu hfu hM1 hl hR hB (show p < 4 by omega) hs4 hs8 (m.2.2.1.1 (3 * i + 2))
  unfold SeqP at hs
  by_cases hc : m.2.2.1.1 (3 * i + 2) ≤ (pyW m.1.1 m.1.2.1 m.1.2.2.1 m.1.2.2.2.1 m.1.2.2.2.2.2.2 N ho (m.2.2.1.1 (3 * i)) (m.2.2.1.1 (3 * i + 2))).2
  · rw [if_pos hc] at hs
    rw [ep, es] at hs
    have hc2 := hc
    rw [ep] at hc2
    obtain ⟨x, d1, d2, d3, _⟩ := c1 hc2
    refine ⟨x, ?_, Or.inl ⟨?_, _, hoM_ok hM1 (p := p) (s := s) (by omega) (by omega) (m.2.2.1.1 (3 * i + 2)), d2, hs.2⟩⟩
    · unfold rr_X9_coinsPaid_b
      rw [cls 1 x (by rw [ep, es]; exact d1) (Or.inr rfl), Option.bind_some]
      show (if (1 : Int32) = 0 then some ((0 : Int64), wDT c x t) else (rr_X4_numbersOf fu x.2.1 c.2.2.2.1).bind (fun q3 => some (q3, wDT c x t))) = _
      rw [if_neg (show ¬ (1 : Int32) = 0 by decide), r4_numbers fu hfu hM.2.1 hR d3 (fun c hc => (pyM_lt (m := mH m ho) c hc).1), Option.bind_some, hs.1]
    · rw [hs.1]
      exact orB_ne (pay_ne (m := mH m ho) hd2.2.2.1 hc2) (fun c hc => by have := (pyM_lt (m := mH m ho) c hc).1; have := hM.2.1; omega)
  · rw [if_neg hc] at hs
    have hc2 := hc
    rw [ep] at hc2
    obtain ⟨x, d1, d2⟩ := c2 hc2
    refine ⟨x, ?_, Or.inr hs⟩
    unfold rr_X9_coinsPaid_b
    rw [cls 0 x (by rw [ep, es]; exact d1) (Or.inl rfl), Option.bind_some, hs i (Nat.le_refl i) hi]
    show (if (0 : Int32) = 0 then some ((0 : Int64), wDT c x t) else (rr_X4_numbersOf fu x.2.1 c.2.2.2.1).bind (fun q3 => some (q3, wDT c x t))) = _
    rw [if_pos rfl]
theorem pd_t (fu : Nat) (hfu : 100 ≤ fu) {c : ZT_9} {m : ZT_10} {N B : Nat} {l : List Nat} (hM : MOK m N) (hl : LawOK m) (hR : RankOK c.2.2.2.2.2.1 (keyM m m.1.2.2.2.2.2.2) m.1.1 m.1.2.2.2.2.2.2 N l) (hD : DayR c.1.2.2.1 m.2.2.1.1 B) {d i : Nat} (hi : i < B) (b t : ZT_1) {ho : Nat → Int32} (h7 : ∀ i, i < N → 0 ≤ ho i ∧ ho i ≤ 7) (hB : BoardOK t.1 ho N l) {F : Nat → Int64} (hs : SeqP m.1.1 m.1.2.1 m.1.2.2.1 m.1.2.2.2.1 m.1.2.2.2.2.2.2 m.2.2.1.1 N B (d + 1) i ho F) : ∃ t' : ZT_1, rr_X9_coinsPaid_t fu (nI i) (wDT c b t) = some (F i, wDT c b t') ∧ ((F i ≠ 0 ∧ ∃ ho' : Nat → Int32, (∀ i, i < N → 0 ≤ ho' i ∧ ho' i ≤ 7) ∧ BoardOK t'.1 ho' N l ∧ SeqP m.1.1 m.1.2.1 m.1.2.2.1 m.1.2.2.2.1 m.1.2.2.2.2.2.2 m.2.2.1.1 N B d (i + 1) ho' F) ∨ (∀ k, i ≤ k → k < B → F k = 0)) := by
  have hB24 := hD.2.1
  have hM1 : MOK (mH m ho) N := mok_ho hM ⟨rfl, rfl, rfl, rfl, rfl⟩ h7
  have hd := hD.2.2.1 i hi
  have hd2 := hD.2.2.2 i hi
  have cls : ∀ v x, rr_X1_meets fu (m.2.2.1.1 (3 * i)) (m.2.2.1.1 (3 * i + 1)) (m.2.2.1.1 (3 * i + 2)) t c.2.2.2.2.2.1 = some (v, x) → (v = 0 ∨ v = 1) → rr_X9_runBill_t fu (nI i) (wDT c b t) = some (v, wDT c b x) := by
    intro v x h1 h2
    unfold rr_X9_runBill_t
    rw [ck_in (show i < 24 by omega) (by omega), ck_in (show i < 24 by omega) (by omega), ck_in (show i < 24 by omega) (by omega), nI_clamp (show i < 2 ^ 31 by omega)]
    have h3 : rr_X1_meets fu (c.1.2.2.1.2.1 i) (c.1.2.2.1.2.2.1 i) (c.1.2.2.1.2.2.2 i) t c.2.2.2.2.2.1 = some (v, x) := by rw [hd.1, hd.2.1, hd.2.2]; exact h1
    show (rr_X1_meets fu (c.1.2.2.1.2.1 i) (c.1.2.2.1.2.2.1 i) (c.1.2.2.1.2.2.2 i) t c.2.2.2.2.2.1).bind _ = _
    rw [h3, Option.bind_some]
    rcases h2 with rfl | rfl
    · rw [zk_0]
    · rw [zk_1]
  obtain ⟨p, hp3, ep⟩ := nat_of 3 (by omega) rfl hd2.1.1 hd2.1.2
  obtain ⟨s, hs4, hs8, es⟩ := shop_of hd2.2.1
  obtain ⟨c1, c2⟩ := c_meets fu hfu hM1 hl hR hB (show p < 4 by omega) hs4 hs8 (m.2.2.1.1 (3 * i + 2))
  unfold SeqP at hs
  by_cases hc : m.2.2.1.1 (3 * i + 2) ≤ (pyW m.1.1 m.1.2.1 m.1.2.2.1 m.1.2.2.2.1 m.1.2.2.2.2.2.2 N ho (m.2.2.1.1 (3 * i)) (m.2.2.1.1 (3 * i + 2))).2
  · rw [if_pos hc] at hs
    rw [ep, es] at hs
    have hc2 := hc
    rw [ep] at hc2
    obtain ⟨x, d1, d2, d3, _⟩ := c1 hc2
    refine ⟨x, ?_, Or.inl ⟨?_, _, hoM_ok hM1 (p := p) (s := s) (by omega) (by omega) (m.2.2.1.1 (3 * i + 2)), d2, hs.2⟩⟩
    · unfold rr_X9_coinsPaid_t
      rw [cls 1 x (by rw [ep, es]; exact d1) (Or.inr rfl), Option.bind_some]
      show (if (1 : Int32) = 0 then some ((0 : Int64), wDT c b x) else (rr_X4_numbersOf fu x.2.1 c.2.2.2.2.2.1).bind (fun q3 => some (q3, wDT c b x))) = _
      rw [if_neg (show ¬ (1 : Int32) = 0 by decide), r4_numbers fu hfu hM.2.1 hR d3 (fun c hc => (pyM_lt (m := mH m ho) c hc).1), Option.bind_some, hs.1]
    · rw [hs.1]
      exact orB_ne (pay_ne (m := mH m ho) hd2.2.2.1 hc2) (fun c hc => by have := (pyM_lt (m := mH m ho) c hc).1; have := hM.2.1; omega)
  · rw [if_neg hc] at hs
    have hc2 := hc
    rw [ep] at hc2
    obtain ⟨x, d1, d2⟩ := c2 hc2
    refine ⟨x, ?_, Or.inr hs⟩
    unfold rr_X9_coinsPaid_t
    rw [cls 0 x (by rw [ep, es]; exact d1) (Or.inl rfl), Option.bind_some, hs i (Nat.le_refl i) hi]
    show (if (0 : Int32) = 0 then some ((0 : Int64), wDT c b x) else (rr_X4_numbersOf fu x.2.1 c.2.2.2.2.2.1).bind (fun q3 => some (q3, wDT c b x))) = _
    rw [if_pos rfl]
theorem sh64_z (fu : Nat) {u : ZT_10} {B : Nat} (hB24 : B ≤ 24) (hb : u.2.2.1.2 = nI B) : ∀ (d i n : Nat), i + d = B → d < n → (∀ k, i ≤ k → k < B → u.2.2.2.2.2.2.2.1.2 k = u.2.2.2.2.2.2.2.1.1 k) → rr_X10_shows_64 fu n (nI i) u = some ((-4 : Int32), u) := by
  intro d
  induction d with
  | zero =>
    intro i n hi hn hz
    obtain ⟨n, rfl⟩ : ∃ q, n = q + 1 := ⟨n - 1, by omega⟩
    have e8 : rr_X10_shows_64 fu (n + 1) = rr_X10_shows_64_b fu (rr_X10_shows_64 fu n) := rfl
    rw [e8]
    unfold rr_X10_shows_64_b
    rw [hb, if_pos (nI_le (by omega) (by omega))]
  | succ d ih =>
    intro i n hi hn hz
    obtain ⟨n, rfl⟩ : ∃ q, n = q + 1 := ⟨n - 1, by omega⟩
    have e8 : rr_X10_shows_64 fu (n + 1) = rr_X10_shows_64_b fu (rr_X10_shows_64 fu n) := rfl
    rw [e8]
    unfold rr_X10_shows_64_b
    rw [hb, if_neg (nI_ge (by omega) (by omega)), ck_in (show i < 24 by omega) (by omega), ck_in (show i < 24 by omega) (by omega), nI_clamp (show i < 2 ^ 31 by omega), if_pos (lc_eq.mpr (hz i (Nat.le_refl i) (by omega))), lt_eq, nI_1]
    exact ih (i + 1) n (by omega) (by omega) (fun k h1 h2 => hz k (by omega) h2)
theorem sh29 (fu : Nat) (hfu : 100 ≤ fu) {c : ZT_9} {m mf : ZT_10} {N B : Nat} {l lF : List Nat} (hM : MOK m N) (hl : LawOK m) (hR : RankOK c.2.2.2.1 (keyM m m.1.2.2.2.2.2.2) m.1.1 m.1.2.2.2.2.2.2 N l) (hD : DayR c.1.2.2.1 m.2.2.1.1 B) (hMf : MOK mf N) (hlf : LawOK mf) (hRf : RankOK c.2.2.2.2.2.1 (keyM mf mf.1.2.2.2.2.2.2) mf.1.1 mf.1.2.2.2.2.2.2 N lF) (hDf : DayR c.1.2.2.1 mf.2.2.1.1 B) {F G : Nat → Int64} : ∀ (d i n : Nat) (ho ho2 : Nat → Int32) (b t : ZT_1), i + d = B → d < n → (∀ i, i < N → 0 ≤ ho i ∧ ho i ≤ 7) → (∀ i, i < N → 0 ≤ ho2 i ∧ ho2 i ≤ 7) → BoardOK b.1 ho N l → BoardOK t.1 ho2 N lF → SeqP m.1.1 m.1.2.1 m.1.2.2.1 m.1.2.2.2.1 m.1.2.2.2.2.2.2 m.2.2.1.1 N B d i ho F → SeqP mf.1.1 mf.1.2.1 mf.1.2.2.1 mf.1.2.2.2.1 mf.1.2.2.2.2.2.2 mf.2.2.1.1 N B d i ho2 G → ∃ (r : Int32) (b' t' : ZT_1), rr_X9_shows_29 fu n (nI i) (wDT c b t) = some (r, wDT c b' t') ∧ ∀ (n' : Nat) (u : ZT_10), d < n' → u.2.2.2.2.2.2.2.1.1 = F → u.2.2.2.2.2.2.2.1.2 = G → u.2.2.1.2 = nI B → rr_X10_shows_64 fu n' (nI i) u = some (r, u) := by
  have hB24 := hD.2.1
  intro d
  induction d with
  | zero =>
    intro i n ho ho2 b t hi hn h7 h72 hB hBf hs hsf
    obtain ⟨n, rfl⟩ : ∃ q, n = q + 1 := ⟨n - 1, by omega⟩
    have e8 : rr_X9_shows_29 fu (n + 1) = rr_X9_shows_29_b fu (rr_X9_shows_29 fu n) := rfl
    rw [e8]
    unfold rr_X9_shows_29_b
    refine ⟨-4, b, t, ?_, fun n' u hn' e1 e2 e3 => sh64_z fu hB24 e3 0 i n' (by omega) (by omega) (fun k h1 h2 => absurd h2 (by omega))⟩
    show (if c.1.2.2.1.1 ≤ nI i then some ((-4 : Int32), wDT c b t) else _) = _
    rw [hD.1, if_pos (nI_le (by omega) (by omega))]
  | succ d ih =>
    intro i n ho ho2 b t hi hn h7 h72 hB hBf hs hsf
    obtain ⟨n, rfl⟩ : ∃ q, n = q + 1 := ⟨n - 1, by omega⟩
    have e8 : rr_X9_shows_29 fu (n + 1) = rr_X9_shows_29_b fu (rr_X9_shows_29 fu n) := rfl
    rw [e8]
    unfold rr_X9_shows_29_b
    obtain ⟨b', e1, a1⟩ := pd_b fu hfu hM hl hR hD (show i < B by omega) b t h7 hB hs
    obtain ⟨t', e2, a2⟩ := pd_t fu hfu hMf hlf hRf hDf (show i < B by omega) b' t h72 hBf hsf
    have ec : (if c.1.2.2.1.1 ≤ nI i then some ((-4 : Int32), wDT c b t) else (rr_X9_coinsPaid_b fu (nI i) (wDT c b t)).bind (fun q9 => (rr_X9_coinsPaid_t fu (nI i) q9.2).bind (fun q11 => (if (lg_cmp q9.1 q11.1) = (0 : Int32) then (if (lg_cmp q9.1 (0 : Int64)) = (0 : Int32) then some ((-4 : Int32), q11.2) else lt_ (α := Int32) (nI i + (1 : Int32)) (fun z15 => rr_X9_shows_29 fu n z15 q11.2)) else some (nI i, q11.2))))) = (if (lg_cmp (F i) (G i)) = (0 : Int32) then (if (lg_cmp (F i) (0 : Int64)) = (0 : Int32) then some ((-4 : Int32), wDT c b' t') else rr_X9_shows_29 fu n (nI (i + 1)) (wDT c b' t')) else some (nI i, wDT c b' t')) := by
      rw [hD.1, if_neg (nI_ge (by omega) (by omega)), e1, Option.bind_some]
      show (rr_X9_coinsPaid_t fu (nI i) (wDT c b' t)).bind _ = _
      rw [e2, Option.bind_some, lt_eq, nI_1]
    have eu : ∀ (n' : Nat) (u : ZT_10), u.2.2.2.2.2.2.2.1.1 = F → u.2.2.2.2.2.2.2.1.2 = G → u.2.2.1.2 = nI B → rr_X10_shows_64 fu (n' + 1) (nI i) u = (if (lg_cmp (G i) (F i)) = (0 : Int32) then rr_X10_shows_64 fu n' (nI (i + 1)) u else some (nI i, u)) := by
      intro n' u u1 u2 u3
      have e9 : rr_X10_shows_64 fu (n' + 1) = rr_X10_shows_64_b fu (rr_X10_shows_64 fu n') := rfl
      rw [e9]
      unfold rr_X10_shows_64_b
      rw [u3, if_neg (nI_ge (by omega) (by omega)), ck_in (show i < 24 by omega) (by omega), ck_in (show i < 24 by omega) (by omega), nI_clamp (show i < 2 ^ 31 by omega), lt_eq, nI_1, u1, u2]
    have key : ∃ (r : Int32) (b2 t2 : ZT_1), (if (lg_cmp (F i) (G i)) = (0 : Int32) then (if (lg_cmp (F i) (0 : Int64)) = (0 : Int32) then some ((-4 : Int32), wDT c b' t') else rr_X9_shows_29 fu n (nI (i + 1)) (wDT c b' t')) else some (nI i, wDT c b' t')) = some (r, wDT c b2 t2) ∧ ∀ (n' : Nat) (u : ZT_10), d + 1 < n' → u.2.2.2.2.2.2.2.1.1 = F → u.2.2.2.2.2.2.2.1.2 = G → u.2.2.1.2 = nI B → rr_X10_shows_64 fu n' (nI i) u = some (r, u) := by
      by_cases q : F i = G i
      · rw [if_pos (lc_eq.mpr q)]
        by_cases q0 : F i = 0
        · rw [if_pos (lc_eq.mpr q0)]
          refine ⟨-4, b', t', rfl, fun n' u hn' u1 u2 u3 => ?_⟩
          have z1 : ∀ k, i ≤ k → k < B → F k = 0 := by
            rcases a1 with a1 | a1
            · exact absurd q0 a1.1
            · exact a1
          have z2 : ∀ k, i ≤ k → k < B → G k = 0 := by
            rcases a2 with a2 | a2
            · exact absurd (q.symm.trans q0) a2.1
            · exact a2
          exact sh64_z fu hB24 u3 (d + 1) i n' (by omega) (by omega) (fun k h1 h2 => by rw [u1, u2, z1 k h1 h2, z2 k h1 h2])
        · rw [if_neg (fun h => q0 (lc_eq.mp h))]
          rcases a1 with ⟨_, hoA, x1, x2, x3⟩ | a1
          · rcases a2 with ⟨_, hoB, y1, y2, y3⟩ | a2
            · obtain ⟨r, b2, t2, f1, f2⟩ := ih (i + 1) n hoA hoB b' t' (by omega) (by omega) x1 y1 x2 y2 x3 y3
              refine ⟨r, b2, t2, f1, fun n' u hn' u1 u2 u3 => ?_⟩
              obtain ⟨n', rfl⟩ : ∃ q, n' = q + 1 := ⟨n' - 1, by omega⟩
              rw [eu n' u u1 u2 u3, if_pos (lc_eq.mpr q.symm)]
              exact f2 n' u (by omega) u1 u2 u3
            · exact absurd (q.trans (a2 i (Nat.le_refl i) (by omega))) q0
          · exact absurd (a1 i (Nat.le_refl i) (by omega)) q0
      · rw [if_neg (fun h => q (lc_eq.mp h))]
        refine ⟨nI i, b', t', rfl, fun n' u hn' u1 u2 u3 => ?_⟩
        obtain ⟨n', rfl⟩ : ∃ q, n' = q + 1 := ⟨n' - 1, by omega⟩
        rw [eu n' u u1 u2 u3, if_neg (fun h => q (lc_eq.mp h).symm)]
    rw [← ec] at key
    exact key
abbrev wPT (m : ZT_10) (z : Nat → Int64) : ZT_10 := (m.1, m.2.1, m.2.2.1, m.2.2.2.1, m.2.2.2.2.1, m.2.2.2.2.2.1, m.2.2.2.2.2.2.1, (m.2.2.2.2.2.2.2.1.1, z), m.2.2.2.2.2.2.2.2)
theorem sw32 (fu : Nat) (m : ZT_10) : ∀ (d k n : Nat) (z : Nat → Int64), k + d = 24 → d < n → (∀ i, i < k → z i = m.2.2.2.2.2.2.2.1.1 i) → ∃ z' : Nat → Int64, (∀ i, i < 24 → z' i = m.2.2.2.2.2.2.2.1.1 i) ∧ rr_X10_shows_32 fu n (nI k) (wPT m z) = (rr_X10_runOnce fu (0 : Int32) (wPT m z')).bind (fun q8 => rr_X10_shows_64 fu fu (0 : Int32) q8.2) := by
  intro d
  induction d with
  | zero =>
    intro k n z hk hn hz
    obtain ⟨n, rfl⟩ : ∃ q, n = q + 1 := ⟨n - 1, by omega⟩
    have : k = 24 := by omega
    subst this
    have e9 : rr_X10_shows_32 fu (n + 1) = rr_X10_shows_32_b fu (rr_X10_shows_32 fu n) := rfl
    rw [e9]
    unfold rr_X10_shows_32_b
    rw [if_pos (show (24 : Int32) ≤ nI 24 by decide)]
    exact ⟨z, hz, rfl⟩
  | succ d ih =>
    intro k n z hk hn hz
    obtain ⟨n, rfl⟩ : ∃ q, n = q + 1 := ⟨n - 1, by omega⟩
    have e9 : rr_X10_shows_32 fu (n + 1) = rr_X10_shows_32_b fu (rr_X10_shows_32 fu n) := rfl
    rw [e9]
    unfold rr_X10_shows_32_b
    rw [if_neg (show ¬ (24 : Int32) ≤ nI k from nI_ge (b := 24) (by omega) (by omega)), ck_in (show k < 24 by omega) (by omega), lt_eq, ck_in (show k < 24 by omega) (by omega), lt_eq, nI_1, nI_clamp (show k < 2 ^ 31 by omega)]
    refine ih (k + 1) n (vp_updL z k (m.2.2.2.2.2.2.2.1.1 k)) (by omega) (by omega) (fun i hi => ?_)
    by_cases e : i = k
    · subst e; rw [pk_uLs]
    · rw [pk_uLn e]; exact hz i (by omega)
theorem st_shows (fu : Nat) (hfu : 2000 ≤ fu) : St_shows fu Rel := by
  intro y z c m h
  unfold rr_X9_shows rr_X10_shows
  simp only [r9_within, r9_isHolder, r9_isYear, r9_isPurse, r9_isShop, r9_isSum, r9_isSheet, r9_isLane, r9_isCoin, r9_isBill, r10_isHolder, r10_isPurse, r10_isShop, r10_isSum, r10_isCoin, r10_isBill, r10_isSheet, in_1_99, in_0_99, in_0_3, in_0_4, in_1_50, in_0_5, in_m1_5, in_1_4, in_1_8, Option.bind_some, it_10, it_01, zk_b, zk_1, zk_0, lt_eq]
  have h0 := h
  obtain ⟨rk, f, N, l, el, hM, hR, hB, hC⟩ := r9_layOut fu (by omega) h
  have hN := hM.2.1
  rw [hM.1, hC.1]
  by_cases hy : 0 ≤ y ∧ y ≤ nI N - 1
  · rw [if_neg (not_not_intro hy), if_neg (not_not_intro hy)]
    by_cases hz : 0 ≤ z ∧ z ≤ 99
    · rw [if_neg (not_not_intro hz), if_neg (not_not_intro hz)]
      obtain ⟨j, hj, rfl⟩ := (coin_of (by omega)).mp hy
      have hl := rel_law h
      obtain ⟨B, hD, hb⟩ := rel_day h
      rw [el]
      simp only [Option.bind_some]
      have e2 := rel_lawc h
      obtain ⟨rkF, fT, lF, eF, hRF, hBF⟩ := lay_forged fu (by omega) (c := (c.1, c.2.1, c.2.2.1, rk, (0 : Int32), c.2.2.2.2.2.1, (f, c.2.2.2.2.2.2.1.2), c.2.2.2.2.2.2.2)) hC e2 hl hj hz
      rw [eF]
      simp only [Option.bind_some]
      have hbi : ∀ i, i < B → (0 ≤ m.2.2.1.1 (3 * i) ∧ m.2.2.1.1 (3 * i) ≤ 3) ∧ (4 ≤ m.2.2.1.1 (3 * i + 1) ∧ m.2.2.1.1 (3 * i + 1) ≤ 7) := fun i hi => ⟨(hD.2.2.2 i hi).1, (hD.2.2.2 i hi).2.1⟩
      obtain ⟨v1, ho1, g1, pb1, hd1, pa1, o1, o2, o3⟩ := once_seq fu hfu (m := mF m j z) (mF_ok hM hz) hl hD.2.1 hb hbi (0 : Int32)
      have o1' := runForged_eq fu (show j < 40 by omega) z (0 : Int32) o1
      rw [o1']
      simp only [Option.bind_some]
      obtain ⟨pt, p1, p2⟩ := sw32 fu (wC m ho1 g1 pb1 (hd1, m.2.2.2.2.2.2.1.2) (pa1, m.2.2.2.2.2.2.2.1.2)) 24 0 fu m.2.2.2.2.2.2.2.1.2 (by omega) (by omega) (fun i hi => absurd hi (by omega))
      have p2' : rr_X10_shows_32 fu fu (0 : Int32) (wC m ho1 g1 pb1 (hd1, m.2.2.2.2.2.2.1.2) (pa1, m.2.2.2.2.2.2.2.1.2)) = _ := p2
      rw [p2']
      have hM2 : MOK (wPT (wC m ho1 g1 pb1 (hd1, m.2.2.2.2.2.2.1.2) (pa1, m.2.2.2.2.2.2.2.1.2)) pt) N := mok_ho hM ⟨rfl, rfl, rfl, rfl, rfl⟩ (fun i hi => by
        show 0 ≤ ho1 i ∧ ho1 i ≤ 7
        rw [o2 i hi]
        exact (hM.2.2 i hi).2.2.2.2)
      obtain ⟨v2, ho2, g2, pb2, hd2, pa2, q1, q2, q3⟩ := once_seq fu hfu (m := wPT (wC m ho1 g1 pb1 (hd1, m.2.2.2.2.2.2.1.2) (pa1, m.2.2.2.2.2.2.2.1.2)) pt) hM2 hl hD.2.1 hb hbi (0 : Int32)
      rw [q1]
      simp only [Option.bind_some]
      have o4 : SeqP m.1.1 m.1.2.1 (mF m j z).1.2.2.1 (mF m j z).1.2.2.2.1 m.1.2.2.2.2.2.2 m.2.2.1.1 N B B 0 m.1.2.2.2.2.1 pt := seq_congr (fun k hk => (p1 k (by have := hD.2.1; omega)).symm) B 0 _ (by omega) o3
      obtain ⟨r, b', t', s1, s2⟩ := sh29 fu (by omega) (c := (c.1, c.2.1, c.2.2.1, rk, (0 : Int32), rkF, (f, c.2.2.2.2.2.2.1.2), (fT, c.2.2.2.2.2.2.2.1.2), c.2.2.2.2.2.2.2.2)) (m := m) (mf := mF m j z) hM hl hR hD (mF_ok hM hz) hl hRF hD B 0 fu ho1 m.1.2.2.2.2.1 (f, c.2.2.2.2.2.2.1.2) (fT, c.2.2.2.2.2.2.2.1.2) (by omega) (by have := hD.2.1; omega) (fun i hi => by rw [o2 i hi]; exact (hM.2.2 i hi).2.2.2.2) (fun i hi => (hM.2.2 i hi).2.2.2.2) (board_congr (rank_lt hR) hB (fun _ _ => rfl) o2) hBF q3 o4
      have s1' : rr_X9_shows_29 fu fu (0 : Int32) (c.1, c.2.1, c.2.2.1, rk, (0 : Int32), rkF, (f, c.2.2.2.2.2.2.1.2), (fT, c.2.2.2.2.2.2.2.1.2), c.2.2.2.2.2.2.2.2) = _ := s1
      rw [s1']
      have s3 := s2 fu (wC (wPT (wC m ho1 g1 pb1 (hd1, m.2.2.2.2.2.2.1.2) (pa1, m.2.2.2.2.2.2.2.1.2)) pt) ho2 g2 pb2 (hd2, m.2.2.2.2.2.2.1.2) (pa2, pt)) (by have := hD.2.1; omega) rfl rfl hb
      have s3' : rr_X10_shows_64 fu fu (0 : Int32) (wC (wPT (wC m ho1 g1 pb1 (hd1, m.2.2.2.2.2.2.1.2) (pa1, m.2.2.2.2.2.2.2.1.2)) pt) ho2 g2 pb2 (hd2, m.2.2.2.2.2.2.1.2) (pa2, pt)) = _ := s3
      refine ⟨r, _, _, rfl, s3', ?_⟩
      exact rel_over h0 hM hR (rkF, b', t', c.2.2.2.2.2.2.2.2.1, c.2.2.2.2.2.2.2.2.2.1) (f := c.1.2.1.2.1) (ho := ho2) (fun i hi => by rw [q2 i hi]; show _ = ho1 i; rw [o2 i hi]; exact (hC.2.2.1 i hi).1) (fun i hi => by rw [q2 i hi]; show 0 ≤ ho1 i ∧ ho1 i ≤ 7; rw [o2 i hi]; exact (hM.2.2 i hi).2.2.2.2) g2 pb2 (hd2, m.2.2.2.2.2.2.1.2) (pa2, pt)
    · rw [if_pos hz, if_pos hz]; exact ⟨_, _, _, rfl, rfl, h0⟩
  · rw [if_pos hy, if_pos hy]; exact ⟨_, _, _, rfl, rfl, h0⟩
