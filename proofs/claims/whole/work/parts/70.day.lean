-- ===== day, purse =====
theorem rel_clear {c : ZT_9} {m : ZT_10} (h : Rel c m) (r : Int32 × Int32 × (Nat → Int32)) (tc : ZT_2) (td : ZT_0) (x : Int32 × Int32 × (Nat → Int32)) : Rel (c.1, c.2.1, c.2.2.1, c.2.2.2.1, c.2.2.2.2.1, c.2.2.2.2.2.1, c.2.2.2.2.2.2.1, c.2.2.2.2.2.2.2.1, c.2.2.2.2.2.2.2.2.1, c.2.2.2.2.2.2.2.2.2.1, ((0 : Int32), r), tc, td, c.2.2.2.2.2.2.2.2.2.2.2.2.2) (m.1, m.2.1, m.2.2.1, m.2.2.2.1, (m.2.2.2.2.1.1, (0 : Int32), x), m.2.2.2.2.2) := by
  obtain ⟨hT, hI, _, hS, hK⟩ := h
  exact ⟨hT, hI, ⟨0, by omega, rfl, rfl, fun i hi => absurd hi (by omega), fun i hi => absurd hi (by omega)⟩, hS, hK⟩
abbrev wBi (u : ZT_10) (bi : Nat → Int32) : ZT_10 := (u.1, u.2.1, (bi, u.2.2.1.2), u.2.2.2)
theorem dy42 (fu : Nat) {u : ZT_10} {K : Nat} (hK : K ≤ 24) (hu : u.2.2.2.2.1.2.2.2.1 = nI K) : ∀ (d k n : Nat) (bi : Nat → Int32), k + d = 3 * K → d < n → (∀ j, j < k → bi j = u.2.2.2.2.1.2.2.2.2 j) → ∃ bi' : Nat → Int32, (∀ j, j < 3 * K → bi' j = u.2.2.2.2.1.2.2.2.2 j) ∧ rr_X10_day_42 fu n (nI k) (wBi u bi) = some (nI K, wBi u bi') := by
  have e3 : (3 : Int32) * (wBi u u.2.2.1.1).2.2.2.2.1.2.2.2.1 = nI (3 * K) := by
    show (3 : Int32) * u.2.2.2.2.1.2.2.2.1 = _
    rw [hu]; exact mulN 3 K
  intro d
  induction d with
  | zero =>
    intro k n bi hk hn hz
    obtain ⟨n, rfl⟩ : ∃ q, n = q + 1 := ⟨n - 1, by omega⟩
    have : k = 3 * K := by omega
    subst this
    have e9 : rr_X10_day_42 fu (n + 1) = rr_X10_day_42_b fu (rr_X10_day_42 fu n) := rfl
    rw [e9]
    unfold rr_X10_day_42_b
    show ∃ bi', _ ∧ (if (3 : Int32) * u.2.2.2.2.1.2.2.2.1 ≤ nI (3 * K) then some (u.2.2.2.2.1.2.2.2.1, wBi u bi) else _) = _
    rw [show (3 : Int32) * u.2.2.2.2.1.2.2.2.1 = nI (3 * K) from e3, if_pos (nI_le (Nat.le_refl _) (by omega)), hu]
    exact ⟨bi, hz, rfl⟩
  | succ d ih =>
    intro k n bi hk hn hz
    obtain ⟨n, rfl⟩ : ∃ q, n = q + 1 := ⟨n - 1, by omega⟩
    have e9 : rr_X10_day_42 fu (n + 1) = rr_X10_day_42_b fu (rr_X10_day_42 fu n) := rfl
    rw [e9]
    unfold rr_X10_day_42_b
    show ∃ bi', _ ∧ (if (3 : Int32) * u.2.2.2.2.1.2.2.2.1 ≤ nI k then some (u.2.2.2.2.1.2.2.2.1, wBi u bi) else ck_ (nI k) 72 (lt_ (α := Int32) (u.2.2.2.2.1.2.2.2.2 (nI k).toNatClampNeg) (fun z11 => ck_ (nI k) 72 (lt_ (α := Int32) (nI k + (1 : Int32)) (fun z13 => rr_X10_day_42 fu n z13 (wBi u (upd bi (nI k).toNatClampNeg z11))))))) = _
    rw [show (3 : Int32) * u.2.2.2.2.1.2.2.2.1 = nI (3 * K) from e3, if_neg (nI_ge (by omega) (by omega)), ck_in (show k < 72 by omega) (by omega), lt_eq, ck_in (show k < 72 by omega) (by omega), lt_eq, nI_1, nI_clamp (show k < 2 ^ 31 by omega)]
    refine ih (k + 1) n (upd bi k (u.2.2.2.2.1.2.2.2.2 k)) (by omega) (by omega) (fun j hj => ?_)
    by_cases e : j = k
    · subst e; rw [pk_us]
    · rw [pk_un e]; exact hz j (by omega)
theorem st_day (fu : Nat) (hfu : 300 ≤ fu) : St_day fu Rel := by
  intro c m h
  have h0 := h
  obtain ⟨hT, hI, ⟨L, hL, t1, t2, t3, t4⟩, hS, hK⟩ := h
  have hTM : TM c.2.2.2.2.2.2.2.2.2.2.1.2.2.2 m L := ⟨hL, t2, t3, t4⟩
  have h10 : ¬ (1 : Int32) = 0 := by decide
  unfold rr_X9_day rr_X10_day
  have ec : rr_X6_readBills fu 24 c.2.2.2.2.2.2.2.2.2.2.1 c.2.2.2.2.2.2.2.2.2.2.2.2.1 = rr_X6_readBills_19 fu 24 fu (1 : Int32) (nI (0 + 1)) (nI L, (-1 : Int32), nI 0, c.2.2.2.2.2.2.2.2.2.2.1.2.2.2) ((0 : Int32), c.2.2.2.2.2.2.2.2.2.2.2.2.1.2) := by
    unfold rr_X6_readBills
    rw [t1]
    rfl
  have em : rr_X10_readAll fu (0 : Int32) m = rr_X10_readAll_19 fu fu (0 : Int32) (24 : Int32) (nI 0) (wPl m (nI 0) m.2.2.2.2.1.2.2.2.1 m.2.2.2.2.1.2.2.2.2) := by
    unfold rr_X10_readAll rr_X10_readAll_16
    rw [if_pos rfl]
    rfl
  rw [ec, em]
  rcases ra_B fu (by omega) hTM 23 0 fu fu 0 m.2.2.2.2.1.2.2.2.1 m.2.2.2.2.1.2.2.2.2 ((0 : Int32), c.2.2.2.2.2.2.2.2.2.2.2.2.1.2) (by omega) (by omega) (by omega) (by omega) ⟨rfl, fun i hi => absurd hi (by omega)⟩ with ⟨K, q, s2, rd, a1, a2, a3, a4, a5⟩ | ⟨q, p', s2, rs, rd, a1, a2, a3⟩
  · obtain ⟨u, b1, b2, b3⟩ := r0_copy fu (by omega) (n1 := 24) (n2 := 24) a3.1 a1 (by omega) a1 (by omega) c.1.2.2.1
    rw [a4, Option.bind_some, a5, Option.bind_some, if_neg h10]
    unfold rr_X6_clear rr_X10_day_15
    rw [Option.bind_some, if_neg h10]
    show ∃ (r : Int32) (c' : ZT_9) (m' : ZT_10), (if (-1 : Int32) < 0 then (rr_X0_copyFrom fu 24 24 c.1.2.2.1 s2).bind _ else _) = some (r, c') ∧ rr_X10_day_42 fu fu (nI 0) (wBi (m.1, m.2.1, (m.2.2.1.1, nI K), m.2.2.2.1, (m.2.2.2.2.1.1, (0 : Int32), nI q, nI K, rd), m.2.2.2.2.2) m.2.2.1.1) = some (r, m') ∧ Rel c' m'
    obtain ⟨bi, d1, d2⟩ := dy42 fu (u := (m.1, m.2.1, (m.2.2.1.1, nI K), m.2.2.2.1, (m.2.2.2.2.1.1, (0 : Int32), nI q, nI K, rd), m.2.2.2.2.2)) a1 rfl (3 * K) 0 fu m.2.2.1.1 (by omega) (by omega) (fun j hj => absurd hj (by omega))
    rw [if_pos (show (-1 : Int32) < 0 by decide), b1, Option.bind_some, d2, b2]
    refine ⟨_, _, _, rfl, rfl, ?_⟩
    have h1 := rel_clear h0 ((-1 : Int32), nI q, c.2.2.2.2.2.2.2.2.2.2.1.2.2.2) c.2.2.2.2.2.2.2.2.2.2.2.1 s2 (nI q, nI K, rd)
    obtain ⟨⟨N, E, B, hC, e1, e2, hl, hE, e3, hB, e4⟩, hI', hP', hS', hK'⟩ := h1
    refine ⟨⟨N, E, K, hC, e1, e2, hl, hE, e3, ⟨b2, a1, fun i hi => ?_, fun i hi => ?_⟩, rfl⟩, hI', hP', hS', hK'⟩
    · have g := (a3.2 i hi).1
      have f := b3 i hi
      show u.2.1 i = bi (3 * i) ∧ u.2.2.1 i = bi (3 * i + 1) ∧ u.2.2.2 i = bi (3 * i + 2)
      rw [d1 (3 * i) (by omega), d1 (3 * i + 1) (by omega), d1 (3 * i + 2) (by omega)]
      exact ⟨f.1.trans g.1, f.2.1.trans g.2.1, f.2.2.trans g.2.2⟩
    · have g := (a3.2 i hi).2
      show (0 ≤ bi (3 * i) ∧ bi (3 * i) ≤ 3) ∧ (4 ≤ bi (3 * i + 1) ∧ bi (3 * i + 1) ≤ 7) ∧ (1 ≤ bi (3 * i + 2) ∧ bi (3 * i + 2) ≤ 999)
      rw [d1 (3 * i) (by omega), d1 (3 * i + 1) (by omega), d1 (3 * i + 2) (by omega)]
      exact g
  · have zL := a1.1
    rw [a2, Option.bind_some, a3, Option.bind_some, if_pos rfl, m_next fu (by omega) hTM rs rd a1.1, sk_fix a1, Option.bind_some]
    unfold rr_X6_clear rr_X10_day_15
    rw [Option.bind_some, if_pos rfl]
    show ∃ (r : Int32) (c' : ZT_9) (m' : ZT_10), (if nI q < (0 : Int32) then _ else some ((-20 : Int32) - nI q, _)) = some (r, c') ∧ some ((-20 : Int32) - nI q, (m.1, m.2.1, m.2.2.1, m.2.2.2.1, (m.2.2.2.2.1.1, (0 : Int32), nI q, rs, rd), m.2.2.2.2.2)) = some (r, m') ∧ Rel c' m'
    rw [if_neg (nI_pos (show q < 2 ^ 31 by omega))]
    refine ⟨_, _, _, rfl, rfl, ?_⟩
    exact rel_clear h0 (nI q, nI p', c.2.2.2.2.2.2.2.2.2.2.1.2.2.2) c.2.2.2.2.2.2.2.2.2.2.2.1 s2 (nI q, rs, rd)
abbrev wCo (u : ZT_10) (wo ye st ki ho : Nat → Int32) (N : Int32) : ZT_10 := ((wo, ye, st, ki, ho, N, u.1.2.2.2.2.2.2), u.2)
theorem pu60 (fu : Nat) {u : ZT_10} {K N : Nat} (hK : K ≤ 10) (hN : N + K ≤ 40) (hu : u.2.2.2.2.1.2.2.2.1 = nI K) (hd : Int32) : ∀ (d k n : Nat) (wo ye st ki ho : Nat → Int32), k + d = K → d < n → ∃ (wo' ye' st' ki' ho' : Nat → Int32), rr_X10_purse_60 fu n hd (nI k) (wCo u wo ye st ki ho (nI (N + k))) = some (nI K, wCo u wo' ye' st' ki' ho' (nI (N + K))) ∧ (∀ i, i < N + k → wo' i = wo i ∧ ye' i = ye i ∧ st' i = st i ∧ ki' i = ki i ∧ ho' i = ho i) ∧ (∀ i, k ≤ i → i < K → wo' (N + i) = u.2.2.2.2.1.2.2.2.2 (4 * i) ∧ ye' (N + i) = u.2.2.2.2.1.2.2.2.2 (4 * i + 1) ∧ st' (N + i) = u.2.2.2.2.1.2.2.2.2 (4 * i + 2) ∧ ki' (N + i) = u.2.2.2.2.1.2.2.2.2 (4 * i + 3) ∧ ho' (N + i) = hd) := by
  intro d
  induction d with
  | zero =>
    intro k n wo ye st ki ho hk hn
    obtain ⟨n, rfl⟩ : ∃ q, n = q + 1 := ⟨n - 1, by omega⟩
    have : k = K := by omega
    subst this
    have e9 : rr_X10_purse_60 fu (n + 1) = rr_X10_purse_60_b fu (rr_X10_purse_60 fu n) := rfl
    rw [e9]
    unfold rr_X10_purse_60_b
    refine ⟨wo, ye, st, ki, ho, ?_, fun i _ => ⟨rfl, rfl, rfl, rfl, rfl⟩, fun i h1 h2 => absurd h2 (by omega)⟩
    show (if u.2.2.2.2.1.2.2.2.1 ≤ nI k then some (u.2.2.2.2.1.2.2.2.1, wCo u wo ye st ki ho (nI (N + k))) else _) = _
    rw [hu, if_pos (nI_le (Nat.le_refl _) (by omega))]
  | succ d ih =>
    intro k n wo ye st ki ho hk hn
    obtain ⟨n, rfl⟩ : ∃ q, n = q + 1 := ⟨n - 1, by omega⟩
    have e9 : rr_X10_purse_60 fu (n + 1) = rr_X10_purse_60_b fu (rr_X10_purse_60 fu n) := rfl
    rw [e9]
    unfold rr_X10_purse_60_b rr_X10_add
    have m4 : (4 : Int32) * nI k = nI (4 * k) := mulN 4 k
    have x1 : nI (4 * k) + (1 : Int32) = nI (4 * k + 1) := nI_1 (4 * k)
    have x2 : nI (4 * k) + (2 : Int32) = nI (4 * k + 2) := nI_add (4 * k) 2
    have x3 : nI (4 * k) + (3 : Int32) = nI (4 * k + 3) := nI_add (4 * k) 3
    simp only [m4, x1, x2, x3, ck_in (show 4 * k < 72 by omega) (show 72 < 2 ^ 31 by omega), ck_in (show 4 * k + 1 < 72 by omega) (show 72 < 2 ^ 31 by omega), ck_in (show 4 * k + 2 < 72 by omega) (show 72 < 2 ^ 31 by omega), ck_in (show 4 * k + 3 < 72 by omega) (show 72 < 2 ^ 31 by omega), nI_clamp (show 4 * k < 2 ^ 31 by omega), nI_clamp (show 4 * k + 1 < 2 ^ 31 by omega), nI_clamp (show 4 * k + 2 < 2 ^ 31 by omega), nI_clamp (show 4 * k + 3 < 2 ^ 31 by omega), hu, ck_in (show N + k < 40 by omega) (show 40 < 2 ^ 31 by omega), nI_clamp (show N + k < 2 ^ 31 by omega), lt_eq, nI_1, Option.bind_some]
    rw [if_neg (nI_ge (show k < K by omega) (by omega))]
    obtain ⟨wo', ye', st', ki', ho', f1, f2, f3⟩ := ih (k + 1) n (upd wo (N + k) (u.2.2.2.2.1.2.2.2.2 (4 * k))) (upd ye (N + k) (u.2.2.2.2.1.2.2.2.2 (4 * k + 1))) (upd st (N + k) (u.2.2.2.2.1.2.2.2.2 (4 * k + 2))) (upd ki (N + k) (u.2.2.2.2.1.2.2.2.2 (4 * k + 3))) (upd ho (N + k) hd) (by omega) (by omega)
    refine ⟨wo', ye', st', ki', ho', f1, fun i hi => ?_, fun i h1 h2 => ?_⟩
    · have ne : i ≠ N + k := by omega
      have g := f2 i (by omega)
      rw [pk_un ne, pk_un ne, pk_un ne, pk_un ne, pk_un ne] at g
      exact g
    · by_cases e : i = k
      · subst e
        have g := f2 (N + i) (by omega)
        rw [pk_us, pk_us, pk_us, pk_us, pk_us] at g
        exact g
      · exact f3 i (by omega) h2
theorem st_purse (fu : Nat) (hfu : 300 ≤ fu) : St_purse fu Rel := by
  intro x c m h
  have h0 := h
  obtain ⟨hT, hI, ⟨L, hL, t1, t2, t3, t4⟩, hS, hK⟩ := h
  have hTM : TM c.2.2.2.2.2.2.2.2.2.2.1.2.2.2 m L := ⟨hL, t2, t3, t4⟩
  have h10 : ¬ (1 : Int32) = 0 := by decide
  unfold rr_X9_purse rr_X10_purse
  rw [r9_isHolder, r10_isHolder, Option.bind_some, Option.bind_some, ite_it, ite_it]
  by_cases hx : 0 ≤ x ∧ x ≤ 7
  rotate_left
  · rw [if_neg hx, if_neg hx]; exact ⟨_, _, _, rfl, rfl, h0⟩
  rw [if_pos hx, if_pos hx]
  have ec : rr_X6_readCoins fu 10 x c.2.2.2.2.2.2.2.2.2.2.1 c.2.2.2.2.2.2.2.2.2.2.2.1 = rr_X6_readCoins_20 fu 10 fu x (1 : Int32) (nI (0 + 1)) (nI L, (-1 : Int32), nI 0, c.2.2.2.2.2.2.2.2.2.2.1.2.2.2) ((0 : Int32), c.2.2.2.2.2.2.2.2.2.2.2.1.2) := by
    unfold rr_X6_readCoins
    rw [t1]
    rfl
  have em : rr_X10_readAll fu (1 : Int32) m = rr_X10_readAll_19 fu fu (1 : Int32) (10 : Int32) (nI 0) (wPl m (nI 0) m.2.2.2.2.1.2.2.2.1 m.2.2.2.2.1.2.2.2.2) := by
    unfold rr_X10_readAll rr_X10_readAll_16
    rw [if_neg h10]
    rfl
  rw [ec, em]
  rcases ra_C fu (by omega) hTM hx 9 0 fu fu 0 m.2.2.2.2.1.2.2.2.1 m.2.2.2.2.1.2.2.2.2 ((0 : Int32), c.2.2.2.2.2.2.2.2.2.2.2.1.2) (by omega) (by omega) (by omega) (by omega) ⟨rfl, fun i hi => absurd hi (by omega)⟩ with ⟨K, q, s2, rd, a1, a2, a3, a4, a5⟩ | ⟨q, p', s2, rs, rd, a1, a2, a3⟩
  · rw [a4, Option.bind_some, a5, Option.bind_some, if_neg h10]
    unfold rr_X6_clear rr_X10_purse_24
    rw [Option.bind_some, if_neg h10]
    have h1 := rel_clear h0 ((-1 : Int32), nI q, c.2.2.2.2.2.2.2.2.2.2.1.2.2.2) s2 c.2.2.2.2.2.2.2.2.2.2.2.2.1 (nI q, nI K, rd)
    have h1' := h1
    obtain ⟨⟨N, E, B, hC, e1, e2, hl, hE, e3, hB, e4⟩, hI', hP', hS', hK'⟩ := h1
    have hN := hC.2.1
    have es : c.1.2.1.1 + s2.1 = nI (N + K) := by
      rw [show c.1.2.1.1 = nI N from hC.1, a3.1, nI_add]
    have er : m.1.2.2.2.2.2.1 + nI K = nI (N + K) := by
      rw [show m.1.2.2.2.2.2.1 = nI N from e1, nI_add]
    show ∃ (r : Int32) (c' : ZT_9) (m' : ZT_10), (if (-1 : Int32) < 0 then (if c.1.2.1.1 + s2.1 ≤ (40 : Int32) then (rr_X2_addAll fu 40 10 c.1.2.1 s2).bind _ else some ((-3 : Int32), _)) else _) = some (r, c') ∧ (if m.1.2.2.2.2.2.1 + nI K ≤ (40 : Int32) then rr_X10_purse_60 fu fu x (nI 0) (m.1, m.2.1, m.2.2.1, m.2.2.2.1, (m.2.2.2.2.1.1, (0 : Int32), nI q, nI K, rd), m.2.2.2.2.2) else some ((-3 : Int32), (m.1, m.2.1, m.2.2.1, m.2.2.2.1, (m.2.2.2.2.1.1, (0 : Int32), nI q, nI K, rd), m.2.2.2.2.2))) = some (r, m') ∧ Rel c' m'
    rw [if_pos (show (-1 : Int32) < 0 by decide), es, er]
    by_cases hf : N + K ≤ 40
    · rw [if_pos (show nI (N + K) ≤ (40 : Int32) from nI_le (b := 40) hf (by omega)), if_pos (show nI (N + K) ≤ (40 : Int32) from nI_le (b := 40) hf (by omega))]
      obtain ⟨u, b1, b2, b3, b4⟩ := all2 fu (n1 := 40) (n2 := 10) (S := N) a3.1 a1 (by omega) hf (by omega) K 0 fu c.1.2.1 (by omega) (by omega) hC.1
      have b1' : rr_X2_addAll fu 40 10 c.1.2.1 s2 = some u := b1
      obtain ⟨wo, ye, st, ki, ho, d1, d2, d3⟩ := pu60 fu (u := (m.1, m.2.1, m.2.2.1, m.2.2.2.1, (m.2.2.2.2.1.1, (0 : Int32), nI q, nI K, rd), m.2.2.2.2.2)) a1 hf rfl x K 0 fu m.1.1 m.1.2.1 m.1.2.2.1 m.1.2.2.2.1 m.1.2.2.2.2.1 (by omega) (by omega)
      have d1' : rr_X10_purse_60 fu fu x (nI 0) (m.1, m.2.1, m.2.2.1, m.2.2.2.1, (m.2.2.2.2.1.1, (0 : Int32), nI q, nI K, rd), m.2.2.2.2.2) = some (nI K, wCo (m.1, m.2.1, m.2.2.1, m.2.2.2.1, (m.2.2.2.2.1.1, (0 : Int32), nI q, nI K, rd), m.2.2.2.2.2) wo ye st ki ho (nI (N + K))) := by
        have ew : (m.1, m.2.1, m.2.2.1, m.2.2.2.1, (m.2.2.2.2.1.1, (0 : Int32), nI q, nI K, rd), m.2.2.2.2.2) = wCo (m.1, m.2.1, m.2.2.1, m.2.2.2.1, (m.2.2.2.2.1.1, (0 : Int32), nI q, nI K, rd), m.2.2.2.2.2) m.1.1 m.1.2.1 m.1.2.2.1 m.1.2.2.2.1 m.1.2.2.2.2.1 (nI (N + 0)) := by
          rw [Nat.add_zero, ← show m.1.2.2.2.2.2.1 = nI N from e1]
        exact (congrArg (rr_X10_purse_60 fu fu x (nI 0)) ew).trans d1
      rw [b1', Option.bind_some, d1', a3.1]
      refine ⟨_, _, _, rfl, rfl, ⟨⟨N + K, E, B, ⟨b2, hf, fun i hi => ?_, fun i hi => ?_⟩, rfl, e2, hl, hE, e3, hB, e4⟩, hI', hP', hS', Or.inl rfl⟩⟩
      · show u.2.1 i = ho i ∧ u.2.2.1 i = wo i ∧ u.2.2.2.1 i = ye i ∧ u.2.2.2.2.1 i = st i ∧ u.2.2.2.2.2 i = ki i
        by_cases q : i < N
        · have f := b3 i (by omega)
          have g := d2 i (by omega)
          have o := hC.2.2.1 i q
          rw [g.1, g.2.1, g.2.2.1, g.2.2.2.1, g.2.2.2.2]
          exact ⟨f.1.trans o.1, f.2.1.trans o.2.1, f.2.2.1.trans o.2.2.1, f.2.2.2.1.trans o.2.2.2.1, f.2.2.2.2.trans o.2.2.2.2⟩
        · obtain ⟨j, rfl⟩ : ∃ j, i = N + j := ⟨i - N, by omega⟩
          have f := b4 j (by omega) (by omega)
          have g := d3 j (by omega) (by omega)
          have o := (a3.2 j (by omega)).1
          rw [g.1, g.2.1, g.2.2.1, g.2.2.2.1, g.2.2.2.2]
          exact ⟨f.1.trans o.1, f.2.1.trans o.2.1, f.2.2.1.trans o.2.2.1, f.2.2.2.1.trans o.2.2.2.1, f.2.2.2.2.trans o.2.2.2.2⟩
      · show CoinOK (wo i) (ye i) (st i) (ki i) (ho i)
        by_cases q : i < N
        · have g := d2 i (by omega)
          rw [g.1, g.2.1, g.2.2.1, g.2.2.2.1, g.2.2.2.2]
          exact hC.2.2.2 i q
        · obtain ⟨j, rfl⟩ : ∃ j, i = N + j := ⟨i - N, by omega⟩
          have g := d3 j (by omega) (by omega)
          rw [g.1, g.2.1, g.2.2.1, g.2.2.2.1, g.2.2.2.2]
          exact (a3.2 j (by omega)).2
    · rw [if_neg (show ¬ nI (N + K) ≤ (40 : Int32) from nI_ge (a := 40) (by omega) (by omega)), if_neg (show ¬ nI (N + K) ≤ (40 : Int32) from nI_ge (a := 40) (by omega) (by omega))]
      exact ⟨_, _, _, rfl, rfl, h1'⟩
  · have zL := a1.1
    rw [a2, Option.bind_some, a3, Option.bind_some, if_pos rfl, m_next fu (by omega) hTM rs rd a1.1, sk_fix a1, Option.bind_some]
    unfold rr_X6_clear rr_X10_purse_24
    rw [Option.bind_some, if_pos rfl]
    show ∃ (r : Int32) (c' : ZT_9) (m' : ZT_10), (if nI q < (0 : Int32) then _ else some ((-20 : Int32) - nI q, _)) = some (r, c') ∧ some ((-20 : Int32) - nI q, (m.1, m.2.1, m.2.2.1, m.2.2.2.1, (m.2.2.2.2.1.1, (0 : Int32), nI q, rs, rd), m.2.2.2.2.2)) = some (r, m') ∧ Rel c' m'
    rw [if_neg (nI_pos (show q < 2 ^ 31 by omega))]
    refine ⟨_, _, _, rfl, rfl, ?_⟩
    exact rel_clear h0 (nI q, nI p', c.2.2.2.2.2.2.2.2.2.2.1.2.2.2) s2 c.2.2.2.2.2.2.2.2.2.2.2.2.1 (nI q, rs, rd)
