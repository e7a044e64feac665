-- ===== the whole tape is read =====
theorem ge0 {x : Int32} (h : 32 ≤ x) : 0 ≤ x := by
  rw [Int32.le_iff_toInt_le] at h ⊢
  have e1 : (32 : Int32).toInt = 32 := by decide
  have e0 : (0 : Int32).toInt = 0 := by decide
  omega
theorem ra_B (fu : Nat) (hfu : 200 ≤ fu) {bt : Nat → Int32} {m : ZT_10} {L : Nat} (h : TM bt m L) : ∀ (d k n n' p : Nat) (rs : Int32) (rd : Nat → Int32) (s2 : ZT_0), k + d + 1 = 24 → d + 2 < n → d + 2 < n' → p ≤ L → GoodB s2 rd k → (∃ (K q : Nat) (s2' : ZT_0) (rd' : Nat → Int32), K ≤ 24 ∧ q ≤ L ∧ GoodB s2' rd' K ∧ rr_X6_readBills_19 fu 24 n (1 : Int32) (nI (k + 1)) (nI L, (-1 : Int32), nI p, bt) s2 = some ((nI L, (-1 : Int32), nI q, bt), s2') ∧ rr_X10_readAll_19 fu n' (0 : Int32) (24 : Int32) (nI k) (wPl m (nI p) rs rd) = some ((1 : Int32), wPl m (nI q) (nI K) rd')) ∨ (∃ (q p' : Nat) (s2' : ZT_0) (rs' : Int32) (rd' : Nat → Int32), StpT (taM m) L q ∧ rr_X6_readBills_19 fu 24 n (1 : Int32) (nI (k + 1)) (nI L, (-1 : Int32), nI p, bt) s2 = some ((nI L, nI q, nI p', bt), s2') ∧ rr_X10_readAll_19 fu n' (0 : Int32) (24 : Int32) (nI k) (wPl m (nI p) rs rd) = some ((0 : Int32), wPl m (nI q) rs' rd')) := by
  have hL := h.1
  have h10 : ¬ (1 : Int32) = 0 := by decide
  have h00 : (0 : Int32) = 0 := rfl
  -- the last turn of the class' loop
  have fin : ∀ (n : Nat) (z : Int32) (st : ZT_6) (s2 : ZT_0), rr_X6_readBills_19 fu 24 (n + 1) (0 : Int32) z st s2 = (rr_X6_needsEnd fu st).bind (fun q12 => some (q12, s2)) := by
    intro n z st s2
    have e9 : rr_X6_readBills_19 fu 24 (n + 1) = rr_X6_readBills_19_b fu 24 (rr_X6_readBills_19 fu 24 n) := rfl
    rw [e9]
    unfold rr_X6_readBills_19_b
    rw [if_pos h00]
    rfl
  intro d
  induction d with
  | zero =>
    intro k n n' p rs rd s2 hk hn hn' hp hg
    obtain ⟨n, rfl⟩ : ∃ q, n = q + 2 := ⟨n - 2, by omega⟩
    obtain ⟨n', rfl⟩ : ∃ q, n' = q + 1 := ⟨n' - 1, by omega⟩
    have e9 : rr_X6_readBills_19 fu 24 (n + 2) = rr_X6_readBills_19_b fu 24 (rr_X6_readBills_19 fu 24 (n + 1)) := rfl
    have e10 : rr_X10_readAll_19 fu (n' + 1) = rr_X10_readAll_19_b fu (rr_X10_readAll_19 fu n') := rfl
    rw [e9, e10]
    unfold rr_X6_readBills_19_b rr_X10_readAll_19_b
    rw [if_neg h10, if_neg (show ¬ (24 : Int32) < nI (k + 1) from nI_nlt (a := 24) (by omega) (by omega)), if_neg (show ¬ (24 : Int32) ≤ nI k from nI_ge (b := 24) (by omega) (by omega)), if_pos h00, show (3 : Int32) * nI k = nI (3 * k) from mulN 3 k]
    rcases rb_both fu hfu h rs rd hp (show k < 24 by omega) hg with ⟨q, s2', rd', lq, g', f1, f2⟩ | ⟨q, p', s2', rd', zq, lp, f1, f2⟩
    · rw [f1, Option.bind_some, if_pos (show (24 : Int32) ≤ nI (k + 1) from nI_le (a := 24) (by omega) (by omega)), f2, Option.bind_some, if_neg h10]
      unfold rr_X10_readAll_53 rr_X6_readBills_53 rr_X6_readBills_54
      rw [lt_eq, fin, c_end fu hfu h lq, lt_eq, nI_1]
      have en := m_next fu hfu h (nI (k + 1)) rd' lq
      have en' : rr_X10_nextByte fu ((wPl m (nI q) rs rd').1, (wPl m (nI q) rs rd').2.1, (wPl m (nI q) rs rd').2.2.1, (wPl m (nI q) rs rd').2.2.2.1, ((wPl m (nI q) rs rd').2.2.2.2.1.1, (wPl m (nI q) rs rd').2.2.2.2.1.2.1, (wPl m (nI q) rs rd').2.2.2.2.1.2.2.1, nI (k + 1), (wPl m (nI q) rs rd').2.2.2.2.1.2.2.2.2), (wPl m (nI q) rs rd').2.2.2.2.2) = _ := en
      have en2 := congrArg (fun z => Option.bind z (fun q13 : Int32 × ZT_10 => (if (0 : Int32) ≤ q13.1 then (if q13.1 = (44 : Int32) then (if nI k = ((24 : Int32) - (1 : Int32)) then some ((0 : Int32), q13.2) else lt_ (α := Int32) (q13.2.2.2.2.2.1.2.2.1 + (1 : Int32)) (fun z18 => lt_ (α := Int32) (nI (k + 1)) (fun z20 => rr_X10_readAll_19 fu n' (0 : Int32) (24 : Int32) z20 (q13.2.1, q13.2.2.1, q13.2.2.2.1, q13.2.2.2.2.1, (q13.2.2.2.2.2.1.1, q13.2.2.2.2.2.1.2.1, z18, q13.2.2.2.2.2.1.2.2.2), q13.2.2.2.2.2.2)))) else some ((0 : Int32), q13.2)) else some ((1 : Int32), q13.2)))) en'
      rw [Option.bind_some] at en2
      have zq := sk_stp (f := taM m) lq
      by_cases c : sk (taM m) L q < L
      · rw [if_pos c, Option.bind_some]
        right
        refine ⟨sk (taM m) L q, sk (taM m) L q, s2', nI (k + 1), rd', zq, rfl, en2.trans ?_⟩
        have es : sgn (taM m) L (sk (taM m) L q) = taM m (sk (taM m) L q) := if_pos c
        show (if (0 : Int32) ≤ sgn (taM m) L (sk (taM m) L q) then (if sgn (taM m) L (sk (taM m) L q) = (44 : Int32) then (if nI k = ((24 : Int32) - (1 : Int32)) then some ((0 : Int32), wPl m (nI (sk (taM m) L q)) (nI (k + 1)) rd') else _) else some ((0 : Int32), wPl m (nI (sk (taM m) L q)) (nI (k + 1)) rd')) else _) = _
        rw [es, if_pos (ge0 (h.2.2.2 _ c).1), if_pos (show nI k = (24 : Int32) - 1 by rw [show k = 23 by omega]; decide), ite_self]
      · rw [if_neg c, Option.bind_some]
        left
        refine ⟨k + 1, sk (taM m) L q, s2', rd', by omega, zq.1, g', rfl, en2.trans ?_⟩
        have es : sgn (taM m) L (sk (taM m) L q) = -1 := if_neg c
        show (if (0 : Int32) ≤ sgn (taM m) L (sk (taM m) L q) then _ else some ((1 : Int32), wPl m (nI (sk (taM m) L q)) (nI (k + 1)) rd')) = _
        rw [es, if_neg (show ¬ (0 : Int32) ≤ -1 by decide)]
    · right
      have hf := nI_nm1 (show q < 2 ^ 31 by have := zq.1; omega)
      refine ⟨q, sk (taM m) L p', s2', rs, rd', zq, ?_, ?_⟩
      · rw [f1, Option.bind_some, if_pos (show (24 : Int32) ≤ nI (k + 1) from nI_le (a := 24) (by omega) (by omega))]
        unfold rr_X6_readBills_53 rr_X6_readBills_54
        rw [lt_eq, fin, c_endF fu hfu h hf lp, Option.bind_some]
      · rw [f2, Option.bind_some, if_pos h00]
  | succ d ih =>
    intro k n n' p rs rd s2 hk hn hn' hp hg
    obtain ⟨n, rfl⟩ : ∃ q, n = q + 2 := ⟨n - 2, by omega⟩
    obtain ⟨n', rfl⟩ : ∃ q, n' = q + 1 := ⟨n' - 1, by omega⟩
    have e9 : rr_X6_readBills_19 fu 24 (n + 2) = rr_X6_readBills_19_b fu 24 (rr_X6_readBills_19 fu 24 (n + 1)) := rfl
    have e10 : rr_X10_readAll_19 fu (n' + 1) = rr_X10_readAll_19_b fu (rr_X10_readAll_19 fu n') := rfl
    rw [e9, e10]
    unfold rr_X6_readBills_19_b rr_X10_readAll_19_b
    rw [if_neg h10, if_neg (show ¬ (24 : Int32) < nI (k + 1) from nI_nlt (a := 24) (by omega) (by omega)), if_neg (show ¬ (24 : Int32) ≤ nI k from nI_ge (b := 24) (by omega) (by omega)), if_pos h00, show (3 : Int32) * nI k = nI (3 * k) from mulN 3 k]
    rcases rb_both fu hfu h rs rd hp (show k < 24 by omega) hg with ⟨q, s2', rd', lq, g', f1, f2⟩ | ⟨q, p', s2', rd', zq, lp, f1, f2⟩
    · rw [f1, Option.bind_some, if_neg (show ¬ (24 : Int32) ≤ nI (k + 1) from nI_ge (b := 24) (by omega) (by omega)), f2, Option.bind_some, if_neg h10]
      unfold rr_X10_readAll_53 rr_X6_readBills_53 rr_X6_readBills_54
      rw [c_takes fu hfu h lq (44 : Int32), lt_eq, nI_1]
      have en := m_next fu hfu h (nI (k + 1)) rd' lq
      have en' : rr_X10_nextByte fu ((wPl m (nI q) rs rd').1, (wPl m (nI q) rs rd').2.1, (wPl m (nI q) rs rd').2.2.1, (wPl m (nI q) rs rd').2.2.2.1, ((wPl m (nI q) rs rd').2.2.2.2.1.1, (wPl m (nI q) rs rd').2.2.2.2.1.2.1, (wPl m (nI q) rs rd').2.2.2.2.1.2.2.1, nI (k + 1), (wPl m (nI q) rs rd').2.2.2.2.1.2.2.2.2), (wPl m (nI q) rs rd').2.2.2.2.2) = _ := en
      have en2 := congrArg (fun z => Option.bind z (fun q13 : Int32 × ZT_10 => (if (0 : Int32) ≤ q13.1 then (if q13.1 = (44 : Int32) then (if nI k = ((24 : Int32) - (1 : Int32)) then some ((0 : Int32), q13.2) else lt_ (α := Int32) (q13.2.2.2.2.2.1.2.2.1 + (1 : Int32)) (fun z18 => lt_ (α := Int32) (nI (k + 1)) (fun z20 => rr_X10_readAll_19 fu n' (0 : Int32) (24 : Int32) z20 (q13.2.1, q13.2.2.1, q13.2.2.2.1, q13.2.2.2.2.1, (q13.2.2.2.2.2.1.1, q13.2.2.2.2.2.1.2.1, z18, q13.2.2.2.2.2.1.2.2.2), q13.2.2.2.2.2.2)))) else some ((0 : Int32), q13.2)) else some ((1 : Int32), q13.2)))) en'
      rw [Option.bind_some] at en2
      have zq := sk_stp (f := taM m) lq
      by_cases c4 : sgn (taM m) L (sk (taM m) L q) = 44
      · have cl := sgn_lt (by decide) c4
        rw [if_pos c4, Option.bind_some, if_neg h10, lt_eq, nI_1]
        have en3 : _ = rr_X10_readAll_19 fu n' (0 : Int32) (24 : Int32) (nI (k + 1)) (wPl m (nI (sk (taM m) L q + 1)) (nI (k + 1)) rd') := en2.trans (by
          show (if (0 : Int32) ≤ sgn (taM m) L (sk (taM m) L q) then (if sgn (taM m) L (sk (taM m) L q) = (44 : Int32) then (if nI k = ((24 : Int32) - (1 : Int32)) then some ((0 : Int32), wPl m (nI (sk (taM m) L q)) (nI (k + 1)) rd') else rr_X10_readAll_19 fu n' (0 : Int32) (24 : Int32) (nI (k + 1)) (wPl m (nI (sk (taM m) L q) + 1) (nI (k + 1)) rd')) else _) else _) = _
          rw [c4, if_pos (show (0 : Int32) ≤ 44 by decide), if_pos rfl, if_neg (show ¬ nI k = (24 : Int32) - 1 from fun e => by
            rw [show (24 : Int32) - 1 = nI 23 by decide] at e
            have := (nI_eq (by omega) (by omega)).mp e
            omega), nI_1])
        rcases ih (k + 1) (n + 1) n' (sk (taM m) L q + 1) (nI (k + 1)) rd' s2' (by omega) (by omega) (by omega) cl g' with ⟨K, q', s3, rd3, a1, a2, a3, a4, a5⟩ | ⟨q', p', s3, rs3, rd3, a1, a2, a3⟩
        · exact Or.inl ⟨K, q', s3, rd3, a1, a2, a3, a4, en3.trans a5⟩
        · exact Or.inr ⟨q', p', s3, rs3, rd3, a1, a2, en3.trans a3⟩
      · rw [if_neg c4, Option.bind_some, if_pos h00, lt_eq, fin, c_end fu hfu h zq.1, sk_fix zq, nI_1 k]
        by_cases c : sk (taM m) L q < L
        · rw [if_pos c, Option.bind_some]
          right
          refine ⟨sk (taM m) L q, sk (taM m) L q, s2', nI (k + 1), rd', zq, rfl, en2.trans ?_⟩
          have es : sgn (taM m) L (sk (taM m) L q) = taM m (sk (taM m) L q) := if_pos c
          show (if (0 : Int32) ≤ sgn (taM m) L (sk (taM m) L q) then (if sgn (taM m) L (sk (taM m) L q) = (44 : Int32) then _ else some ((0 : Int32), wPl m (nI (sk (taM m) L q)) (nI (k + 1)) rd')) else _) = _
          rw [if_neg c4, es, if_pos (ge0 (h.2.2.2 _ c).1)]
        · rw [if_neg c, Option.bind_some]
          left
          refine ⟨k + 1, sk (taM m) L q, s2', rd', by omega, zq.1, g', rfl, en2.trans ?_⟩
          have es : sgn (taM m) L (sk (taM m) L q) = -1 := if_neg c
          show (if (0 : Int32) ≤ sgn (taM m) L (sk (taM m) L q) then _ else some ((1 : Int32), wPl m (nI (sk (taM m) L q)) (nI (k + 1)) rd')) = _
          rw [es, if_neg (show ¬ (0 : Int32) ≤ -1 by decide)]
    · right
      have hf := nI_nm1 (show q < 2 ^ 31 by have := zq.1; omega)
      refine ⟨q, sk (taM m) L (sk (taM m) L p'), s2', rs, rd', zq, ?_, ?_⟩
      · rw [f1, Option.bind_some, if_neg (show ¬ (24 : Int32) ≤ nI (k + 1) from nI_ge (b := 24) (by omega) (by omega)), c_takesF fu hfu h hf lp, Option.bind_some, if_pos h00]
        unfold rr_X6_readBills_53 rr_X6_readBills_54
        rw [lt_eq, fin, c_endF fu hfu h hf (sk_stp lp).1, Option.bind_some]
      · rw [f2, Option.bind_some, if_pos h00]
theorem ra_C (fu : Nat) (hfu : 200 ≤ fu) {bt : Nat → Int32} {m : ZT_10} {L : Nat} (h : TM bt m L) {hd : Int32} (hh : 0 ≤ hd ∧ hd ≤ 7) : ∀ (d k n n' p : Nat) (rs : Int32) (rd : Nat → Int32) (s2 : ZT_2), k + d + 1 = 10 → d + 2 < n → d + 2 < n' → p ≤ L → GoodC hd s2 rd k → (∃ (K q : Nat) (s2' : ZT_2) (rd' : Nat → Int32), K ≤ 10 ∧ q ≤ L ∧ GoodC hd s2' rd' K ∧ rr_X6_readCoins_20 fu 10 n hd (1 : Int32) (nI (k + 1)) (nI L, (-1 : Int32), nI p, bt) s2 = some ((nI L, (-1 : Int32), nI q, bt), s2') ∧ rr_X10_readAll_19 fu n' (1 : Int32) (10 : Int32) (nI k) (wPl m (nI p) rs rd) = some ((1 : Int32), wPl m (nI q) (nI K) rd')) ∨ (∃ (q p' : Nat) (s2' : ZT_2) (rs' : Int32) (rd' : Nat → Int32), StpT (taM m) L q ∧ rr_X6_readCoins_20 fu 10 n hd (1 : Int32) (nI (k + 1)) (nI L, (-1 : Int32), nI p, bt) s2 = some ((nI L, nI q, nI p', bt), s2') ∧ rr_X10_readAll_19 fu n' (1 : Int32) (10 : Int32) (nI k) (wPl m (nI p) rs rd) = some ((0 : Int32), wPl m (nI q) rs' rd')) := by
  have hL := h.1
  have h10 : ¬ (1 : Int32) = 0 := by decide
  have h00 : (0 : Int32) = 0 := rfl
  -- the last turn of the class' loop
  have fin : ∀ (n : Nat) (z : Int32) (st : ZT_6) (s2 : ZT_2), rr_X6_readCoins_20 fu 10 (n + 1) hd (0 : Int32) z st s2 = (rr_X6_needsEnd fu st).bind (fun q12 => some (q12, s2)) := by
    intro n z st s2
    have e9 : rr_X6_readCoins_20 fu 10 (n + 1) = rr_X6_readCoins_20_b fu 10 (rr_X6_readCoins_20 fu 10 n) := rfl
    rw [e9]
    unfold rr_X6_readCoins_20_b
    rw [if_pos h00]
    rfl
  intro d
  induction d with
  | zero =>
    intro k n n' p rs rd s2 hk hn hn' hp hg
    obtain ⟨n, rfl⟩ : ∃ q, n = q + 2 := ⟨n - 2, by omega⟩
    obtain ⟨n', rfl⟩ : ∃ q, n' = q + 1 := ⟨n' - 1, by omega⟩
    have e9 : rr_X6_readCoins_20 fu 10 (n + 2) = rr_X6_readCoins_20_b fu 10 (rr_X6_readCoins_20 fu 10 (n + 1)) := rfl
    have e10 : rr_X10_readAll_19 fu (n' + 1) = rr_X10_readAll_19_b fu (rr_X10_readAll_19 fu n') := rfl
    rw [e9, e10]
    unfold rr_X6_readCoins_20_b rr_X10_readAll_19_b
    rw [if_neg h10, if_neg (show ¬ (10 : Int32) < nI (k + 1) from nI_nlt (a := 10) (by omega) (by omega)), if_neg (show ¬ (10 : Int32) ≤ nI k from nI_ge (b := 10) (by omega) (by omega)), if_neg h10, show (4 : Int32) * nI k = nI (4 * k) from mulN 4 k]
    rcases rc_both fu hfu h rs rd hp hh (show k < 10 by omega) hg with ⟨q, s2', rd', lq, g', f1, f2⟩ | ⟨q, p', s2', rd', zq, lp, f1, f2⟩
    · rw [f1, Option.bind_some, if_pos (show (10 : Int32) ≤ nI (k + 1) from nI_le (a := 10) (by omega) (by omega)), f2, Option.bind_some, if_neg h10]
      unfold rr_X10_readAll_53 rr_X6_readCoins_57 rr_X6_readCoins_58
      rw [lt_eq, fin, c_end fu hfu h lq, lt_eq, nI_1]
      have en := m_next fu hfu h (nI (k + 1)) rd' lq
      have en' : rr_X10_nextByte fu ((wPl m (nI q) rs rd').1, (wPl m (nI q) rs rd').2.1, (wPl m (nI q) rs rd').2.2.1, (wPl m (nI q) rs rd').2.2.2.1, ((wPl m (nI q) rs rd').2.2.2.2.1.1, (wPl m (nI q) rs rd').2.2.2.2.1.2.1, (wPl m (nI q) rs rd').2.2.2.2.1.2.2.1, nI (k + 1), (wPl m (nI q) rs rd').2.2.2.2.1.2.2.2.2), (wPl m (nI q) rs rd').2.2.2.2.2) = _ := en
      have en2 := congrArg (fun z => Option.bind z (fun q13 : Int32 × ZT_10 => (if (0 : Int32) ≤ q13.1 then (if q13.1 = (44 : Int32) then (if nI k = ((10 : Int32) - (1 : Int32)) then some ((0 : Int32), q13.2) else lt_ (α := Int32) (q13.2.2.2.2.2.1.2.2.1 + (1 : Int32)) (fun z18 => lt_ (α := Int32) (nI (k + 1)) (fun z20 => rr_X10_readAll_19 fu n' (1 : Int32) (10 : Int32) z20 (q13.2.1, q13.2.2.1, q13.2.2.2.1, q13.2.2.2.2.1, (q13.2.2.2.2.2.1.1, q13.2.2.2.2.2.1.2.1, z18, q13.2.2.2.2.2.1.2.2.2), q13.2.2.2.2.2.2)))) else some ((0 : Int32), q13.2)) else some ((1 : Int32), q13.2)))) en'
      rw [Option.bind_some] at en2
      have zq := sk_stp (f := taM m) lq
      by_cases c : sk (taM m) L q < L
      · rw [if_pos c, Option.bind_some]
        right
        refine ⟨sk (taM m) L q, sk (taM m) L q, s2', nI (k + 1), rd', zq, rfl, en2.trans ?_⟩
        have es : sgn (taM m) L (sk (taM m) L q) = taM m (sk (taM m) L q) := if_pos c
        show (if (0 : Int32) ≤ sgn (taM m) L (sk (taM m) L q) then (if sgn (taM m) L (sk (taM m) L q) = (44 : Int32) then (if nI k = ((10 : Int32) - (1 : Int32)) then some ((0 : Int32), wPl m (nI (sk (taM m) L q)) (nI (k + 1)) rd') else _) else some ((0 : Int32), wPl m (nI (sk (taM m) L q)) (nI (k + 1)) rd')) else _) = _
        rw [es, if_pos (ge0 (h.2.2.2 _ c).1), if_pos (show nI k = (10 : Int32) - 1 by rw [show k = 9 by omega]; decide), ite_self]
      · rw [if_neg c, Option.bind_some]
        left
        refine ⟨k + 1, sk (taM m) L q, s2', rd', by omega, zq.1, g', rfl, en2.trans ?_⟩
        have es : sgn (taM m) L (sk (taM m) L q) = -1 := if_neg c
        show (if (0 : Int32) ≤ sgn (taM m) L (sk (taM m) L q) then _ else some ((1 : Int32), wPl m (nI (sk (taM m) L q)) (nI (k + 1)) rd')) = _
        rw [es, if_neg (show ¬ (0 : Int32) ≤ -1 by decide)]
    · right
      have hf := nI_nm1 (show q < 2 ^ 31 by have := zq.1; omega)
      refine ⟨q, sk (taM m) L p', s2', rs, rd', zq, ?_, ?_⟩
      · rw [f1, Option.bind_some, if_pos (show (10 : Int32) ≤ nI (k + 1) from nI_le (a := 10) (by omega) (by omega))]
        unfold rr_X6_readCoins_57 rr_X6_readCoins_58
        rw [lt_eq, fin, c_endF fu hfu h hf lp, Option.bind_some]
      · rw [f2, Option.bind_some, if_pos h00]
  | succ d ih =>
    intro k n n' p rs rd s2 hk hn hn' hp hg
    obtain ⟨n, rfl⟩ : ∃ q, n = q + 2 := ⟨n - 2, by omega⟩
    obtain ⟨n', rfl⟩ : ∃ q, n' = q + 1 := ⟨n' - 1, by omega⟩
    have e9 : rr_X6_readCoins_20 fu 10 (n + 2) = rr_X6_readCoins_20_b fu 10 (rr_X6_readCoins_20 fu 10 (n + 1)) := rfl
    have e10 : rr_X10_readAll_19 fu (n' + 1) = rr_X10_readAll_19_b fu (rr_X10_readAll_19 fu n') := rfl
    rw [e9, e10]
    unfold rr_X6_readCoins_20_b rr_X10_readAll_19_b
    rw [if_neg h10, if_neg (show ¬ (10 : Int32) < nI (k + 1) from nI_nlt (a := 10) (by omega) (by omega)), if_neg (show ¬ (10 : Int32) ≤ nI k from nI_ge (b := 10) (by omega) (by omega)), if_neg h10, show (4 : Int32) * nI k = nI (4 * k) from mulN 4 k]
    rcases rc_both fu hfu h rs rd hp hh (show k < 10 by omega) hg with ⟨q, s2', rd', lq, g', f1, f2⟩ | ⟨q, p', s2', rd', zq, lp, f1, f2⟩
    · rw [f1, Option.bind_some, if_neg (show ¬ (10 : Int32) ≤ nI (k + 1) from nI_ge (b := 10) (by omega) (by omega)), f2, Option.bind_some, if_neg h10]
      unfold rr_X10_readAll_53 rr_X6_readCoins_57 rr_X6_readCoins_58
      rw [c_takes fu hfu h lq (44 : Int32), lt_eq, nI_1]
      have en := m_next fu hfu h (nI (k + 1)) rd' lq
      have en' : rr_X10_nextByte fu ((wPl m (nI q) rs rd').1, (wPl m (nI q) rs rd').2.1, (wPl m (nI q) rs rd').2.2.1, (wPl m (nI q) rs rd').2.2.2.1, ((wPl m (nI q) rs rd').2.2.2.2.1.1, (wPl m (nI q) rs rd').2.2.2.2.1.2.1, (wPl m (nI q) rs rd').2.2.2.2.1.2.2.1, nI (k + 1), (wPl m (nI q) rs rd').2.2.2.2.1.2.2.2.2), (wPl m (nI q) rs rd').2.2.2.2.2) = _ := en
      have en2 := congrArg (fun z => Option.bind z (fun q13 : Int32 × ZT_10 => (if (0 : Int32) ≤ q13.1 then (if q13.1 = (44 : Int32) then (if nI k = ((10 : Int32) - (1 : Int32)) then some ((0 : Int32), q13.2) else lt_ (α := Int32) (q13.2.2.2.2.2.1.2.2.1 + (1 : Int32)) (fun z18 => lt_ (α := Int32) (nI (k + 1)) (fun z20 => rr_X10_readAll_19 fu n' (1 : Int32) (10 : Int32) z20 (q13.2.1, q13.2.2.1, q13.2.2.2.1, q13.2.2.2.2.1, (q13.2.2.2.2.2.1.1, q13.2.2.2.2.2.1.2.1, z18, q13.2.2.2.2.2.1.2.2.2), q13.2.2.2.2.2.2)))) else some ((0 : Int32), q13.2)) else some ((1 : Int32), q13.2)))) en'
      rw [Option.bind_some] at en2
      have zq := sk_stp (f := taM m) lq
      by_cases c4 : sgn (taM m) L (sk (taM m) L q) = 44
      · have cl := sgn_lt (by decide) c4
        rw [if_pos c4, Option.bind_some, if_neg h10, lt_eq, nI_1]
        have en3 : _ = rr_X10_readAll_19 fu n' (1 : Int32) (10 : Int32) (nI (k + 1)) (wPl m (nI (sk (taM m) L q + 1)) (nI (k + 1)) rd') := en2.trans (by
          show (if (0 : Int32) ≤ sgn (taM m) L (sk (taM m) L q) then (if sgn (taM m) L (sk (taM m) L q) = (44 : Int32) then (if nI k = ((10 : Int32) - (1 : Int32)) then some ((0 : Int32), wPl m (nI (sk (taM m) L q)) (nI (k + 1)) rd') else rr_X10_readAll_19 fu n' (1 : Int32) (10 : Int32) (nI (k + 1)) (wPl m (nI (sk (taM m) L q) + 1) (nI (k + 1)) rd')) else _) else _) = _
          rw [c4, if_pos (show (0 : Int32) ≤ 44 by decide), if_pos rfl, if_neg (show ¬ nI k = (10 : Int32) - 1 from fun e => by
            rw [show (10 : Int32) - 1 = nI 9 by decide] at e
            have := (nI_eq (by omega) (by omega)).mp e
            omega), nI_1])
        rcases ih (k + 1) (n + 1) n' (sk (taM m) L q + 1) (nI (k + 1)) rd' s2' (by omega) (by omega) (by omega) cl g' with ⟨K, q', s3, rd3, a1, a2, a3, a4, a5⟩ | ⟨q', p', s3, rs3, rd3, a1, a2, a3⟩
        · exact Or.inl ⟨K, q', s3, rd3, a1, a2, a3, a4, en3.trans a5⟩
        · exact Or.inr ⟨q', p', s3, rs3, rd3, a1, a2, en3.trans a3⟩
      · rw [if_neg c4, Option.bind_some, if_pos h00, lt_eq, fin, c_end fu hfu h zq.1, sk_fix zq, nI_1 k]
        by_cases c : sk (taM m) L q < L
        · rw [if_pos c, Option.bind_some]
          right
          refine ⟨sk (taM m) L q, sk (taM m) L q, s2', nI (k + 1), rd', zq, rfl, en2.trans ?_⟩
          have es : sgn (taM m) L (sk (taM m) L q) = taM m (sk (taM m) L q) := if_pos c
          show (if (0 : Int32) ≤ sgn (taM m) L (sk (taM m) L q) then (if sgn (taM m) L (sk (taM m) L q) = (44 : Int32) then _ else some ((0 : Int32), wPl m (nI (sk (taM m) L q)) (nI (k + 1)) rd')) else _) = _
          rw [if_neg c4, es, if_pos (ge0 (h.2.2.2 _ c).1)]
        · rw [if_neg c, Option.bind_some]
          left
          refine ⟨k + 1, sk (taM m) L q, s2', rd', by omega, zq.1, g', rfl, en2.trans ?_⟩
          have es : sgn (taM m) L (sk (taM m) L q) = -1 := if_neg c
          show (if (0 : Int32) ≤ sgn (taM m) L (sk (taM m) L q) then _ else some ((1 : Int32), wPl m (nI (sk (taM m) L q)) (nI (k + 1)) rd')) = _
          rw [es, if_neg (show ¬ (0 : Int32) ≤ -1 by decide)]
    · right
      have hf := nI_nm1 (show q < 2 ^ 31 by have := zq.1; omega)
      refine ⟨q, sk (taM m) L (sk (taM m) L p'), s2', rs, rd', zq, ?_, ?_⟩
      · rw [f1, Option.bind_some, if_neg (show ¬ (10 : Int32) ≤ nI (k + 1) from nI_ge (b := 10) (by omega) (by omega)), c_takesF fu hfu h hf lp, Option.bind_some, if_pos h00]
        unfold rr_X6_readCoins_57 rr_X6_readCoins_58
        rw [lt_eq, fin, c_endF fu hfu h hf (sk_stp lp).1, Option.bind_some]
      · rw [f2, Option.bind_some, if_pos h00]
