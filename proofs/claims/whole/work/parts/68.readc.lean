theorem coin_ok {v1 v2 v3 v4 : Nat} {hd : Int32} (hh : 0 ≤ hd ∧ hd ≤ 7) (h1 : 1 ≤ v1 ∧ v1 ≤ 99) (h2 : v2 ≤ 99) (h3 : v3 ≤ 99) (h4 : v4 ≤ 3) : CoinOK (nI v1) (nI v2) (nI v3) (nI v4) hd := ⟨nI_bt (l0 := 1) (h0 := 99) h1 (by omega), nI_bt (l0 := 0) (h0 := 99) ⟨by omega, h2⟩ (by omega), nI_bt (l0 := 0) (h0 := 99) ⟨by omega, h3⟩ (by omega), nI_bt (l0 := 0) (h0 := 3) ⟨by omega, h4⟩ (by omega), hh⟩
abbrev S5 (s2 : ZT_2) (k : Nat) (hd a b c d : Int32) : ZT_2 := (nI (k + 1), upd s2.2.1 k hd, upd s2.2.2.1 k a, upd s2.2.2.2.1 k b, upd s2.2.2.2.2.1 k c, upd s2.2.2.2.2.2 k d)
abbrev OutC (fu : Nat) (bt : Nat → Int32) (m : ZT_10) (L k : Nat) (hd rs : Int32) (x : Option (ZT_6 × ZT_2)) (y : Option (Int32 × ZT_10)) : Prop := (∃ (q : Nat) (s2' : ZT_2) (rd' : Nat → Int32), q ≤ L ∧ GoodC hd s2' rd' (k + 1) ∧ x = some ((nI L, (-1 : Int32), nI q, bt), s2') ∧ y = some ((1 : Int32), wPl m (nI q) rs rd')) ∨ (∃ (q p' : Nat) (s2' : ZT_2) (rd' : Nat → Int32), StpT (taM m) L q ∧ p' ≤ L ∧ x = some ((nI L, nI q, nI p', bt), s2') ∧ y = some ((0 : Int32), wPl m (nI q) rs rd'))
theorem rc_both (fu : Nat) (hfu : 200 ≤ fu) {bt : Nat → Int32} {m : ZT_10} {L : Nat} (h : TM bt m L) (rs : Int32) (rd : Nat → Int32) {p : Nat} (hp : p ≤ L) {hd : Int32} (hh : 0 ≤ hd ∧ hd ≤ 7) {k : Nat} (hk : k < 10) {s2 : ZT_2} (hg : GoodC hd s2 rd k) : OutC fu bt m L k hd rs (rr_X6_readCoin fu 10 hd (nI L, (-1 : Int32), nI p, bt) s2) (rr_X10_readCoin fu (nI (4 * k)) (wPl m (nI p) rs rd)) := by
  have hL := h.1
  have h10 : ¬ (1 : Int32) = 0 := by decide
  have h00 : (0 : Int32) = 0 := rfl
  have a1 : nI (4 * k) + (1 : Int32) = nI (4 * k + 1) := nI_1 (4 * k)
  have a2 : nI (4 * k) + (2 : Int32) = nI (4 * k + 2) := nI_add (4 * k) 2
  have a3 : nI (4 * k) + (3 : Int32) = nI (4 * k + 3) := nI_add (4 * k) 3
  have add : ∀ a b c d, rr_X2_add fu 10 hd a b c d s2 = some (nI (k + 1), upd s2.2.1 k hd, upd s2.2.2.1 k a, upd s2.2.2.2.1 k b, upd s2.2.2.2.2.1 k c, upd s2.2.2.2.2.2 k d) := fun a b c d => r2_add fu hg.1 hk (by omega) hd a b c d
  unfold rr_X6_readCoin rr_X10_readCoin rr_X6_readCoin_81 rr_X10_readCoin_161
  simp only [a1, a2, a3, ck_in (show 4 * k < 72 by omega) (show 72 < 2 ^ 31 by omega), ck_in (show 4 * k + 1 < 72 by omega) (show 72 < 2 ^ 31 by omega), ck_in (show 4 * k + 2 < 72 by omega) (show 72 < 2 ^ 31 by omega), ck_in (show 4 * k + 3 < 72 by omega) (show 72 < 2 ^ 31 by omega), nI_clamp (show 4 * k < 2 ^ 31 by omega), nI_clamp (show 4 * k + 1 < 2 ^ 31 by omega), nI_clamp (show 4 * k + 2 < 2 ^ 31 by omega), nI_clamp (show 4 * k + 3 < 2 ^ 31 by omega), lt_eq, pk_us, pk_un (show 4 * k + 1 ≠ 4 * k + 3 by omega), pk_un (show 4 * k + 1 ≠ 4 * k + 2 by omega), pk_un (show 4 * k + 2 ≠ 4 * k + 3 by omega), add, Option.bind_some]
  rcases num_both fu hfu h rs rd hp 1 99 (by omega) (by omega) with ⟨v1, q1, l1, u1, w1, t1, k1⟩ | ⟨q1, p1, z1, l1, t1, k1⟩
  rotate_left
  · right
    have hf := nI_nm1 (show q1 < 2 ^ 31 by have := z1.1; omega)
    have t1' : rr_X6_takeNumber fu (1 : Int32) (99 : Int32) (nI L, (-1 : Int32), nI p, bt) = _ := t1
    have k1' : rr_X10_readNumber fu (1 : Int32) (99 : Int32) (wPl m (nI p) rs rd) = _ := k1
    obtain ⟨v3, p3, l3, t3⟩ := c_numF fu hfu h hf (sk_stp (f := taM m) l1).1 (0 : Int32) (99 : Int32)
    have lA := (sk_stp (f := taM m) l3).1
    have lB := (sk_stp (f := taM m) lA).1
    have lC := (sk_stp (f := taM m) lB).1
    refine ⟨q1, _, S5 s2 k hd (nI 1) v3 v3 0, upd rd (4 * k) (-1), z1, lC, ?_, ?_⟩
    rotate_left
    · rw [k1', Option.bind_some, if_pos (show (-1 : Int32) < 0 by decide)]
    · rw [t1', Option.bind_some, c_needsF fu hfu h hf l1, Option.bind_some, t3, Option.bind_some, c_takesF fu hfu h hf l3, Option.bind_some, if_pos h00, c_takesF fu hfu h hf lA, Option.bind_some, if_pos h00, c_takesF fu hfu h hf lB, Option.bind_some, if_pos h00]
  have t1' : rr_X6_takeNumber fu (1 : Int32) (99 : Int32) (nI L, (-1 : Int32), nI p, bt) = _ := t1
  have k1' : rr_X10_readNumber fu (1 : Int32) (99 : Int32) (wPl m (nI p) rs rd) = _ := k1
  rw [t1', Option.bind_some, k1', Option.bind_some, if_neg (show ¬ nI v1 < (0 : Int32) from nI_pos (by omega))]
  obtain ⟨q2, z2, n2⟩ := need_both fu hfu h rs (upd rd (4 * k) (nI v1)) l1 (121 : Int32) (by decide)
  rcases n2 with ⟨b2, n2, k2⟩ | ⟨n2, k2⟩
  rotate_left
  · right
    have hf := nI_nm1 (show q2 < 2 ^ 31 by have := z2.1; omega)
    obtain ⟨v3, p3, l3, t3⟩ := c_numF fu hfu h hf z2.1 (0 : Int32) (99 : Int32)
    have lA := (sk_stp (f := taM m) l3).1
    have lB := (sk_stp (f := taM m) lA).1
    have lC := (sk_stp (f := taM m) lB).1
    refine ⟨q2, _, S5 s2 k hd (nI v1) v3 v3 0, upd rd (4 * k) (nI v1), z2, lC, ?_, ?_⟩
    rotate_left
    · rw [k2, Option.bind_some, if_pos h00]
    · rw [n2, Option.bind_some, t3, Option.bind_some, c_takesF fu hfu h hf l3, Option.bind_some, if_pos h00, c_takesF fu hfu h hf lA, Option.bind_some, if_pos h00, c_takesF fu hfu h hf lB, Option.bind_some, if_pos h00]
  rw [n2, Option.bind_some, k2, Option.bind_some, if_neg h10]
  rcases num_both fu hfu h rs (upd rd (4 * k) (nI v1)) b2 0 99 (by omega) (by omega) with ⟨v3, q3, l3, u3, w3, t3, k3⟩ | ⟨q3, p3, z3, l3, t3, k3⟩
  rotate_left
  · right
    have hf := nI_nm1 (show q3 < 2 ^ 31 by have := z3.1; omega)
    have t3' : rr_X6_takeNumber fu (0 : Int32) (99 : Int32) (nI L, (-1 : Int32), nI (q2 + 1), bt) = _ := t3
    have k3' : rr_X10_readNumber fu (0 : Int32) (99 : Int32) (wPl m (nI (q2 + 1)) rs (upd rd (4 * k) (nI v1))) = _ := k3
    have lA := (sk_stp (f := taM m) l3).1
    have lB := (sk_stp (f := taM m) lA).1
    have lC := (sk_stp (f := taM m) lB).1
    refine ⟨q3, _, S5 s2 k hd (nI v1) (nI 0) (nI 0) 0, upd (upd (upd (upd rd (4 * k) (nI v1)) (4 * k + 1) (-1)) (4 * k + 2) (-1)) (4 * k + 3) 0, z3, lC, ?_, ?_⟩
    rotate_left
    · rw [k3', Option.bind_some, if_neg (show ¬ (0 : Int32) ≤ -1 by decide)]
    · rw [t3', Option.bind_some, c_takesF fu hfu h hf l3, Option.bind_some, if_pos h00, c_takesF fu hfu h hf lA, Option.bind_some, if_pos h00, c_takesF fu hfu h hf lB, Option.bind_some, if_pos h00]
  have t3' : rr_X6_takeNumber fu (0 : Int32) (99 : Int32) (nI L, (-1 : Int32), nI (q2 + 1), bt) = _ := t3
  have k3' : rr_X10_readNumber fu (0 : Int32) (99 : Int32) (wPl m (nI (q2 + 1)) rs (upd rd (4 * k) (nI v1))) = _ := k3
  rw [t3', Option.bind_some, k3', Option.bind_some, if_pos (show (0 : Int32) ≤ nI v3 from nI_pos' (by omega))]
  obtain ⟨q4, z4, n4⟩ := take_both fu hfu h rs (upd (upd (upd (upd rd (4 * k) (nI v1)) (4 * k + 1) (nI v3)) (4 * k + 2) (nI v3)) (4 * k + 3) 0) l3 (102 : Int32) (by decide)
  have old : ∀ j, j < 4 * k → upd (upd (upd (upd rd (4 * k) (nI v1)) (4 * k + 1) (nI v3)) (4 * k + 2) (nI v3)) (4 * k + 3) 0 j = rd j := fun j hj => by rw [pk_un (by omega), pk_un (by omega), pk_un (by omega), pk_un (by omega)]
  have r0 : upd (upd (upd (upd rd (4 * k) (nI v1)) (4 * k + 1) (nI v3)) (4 * k + 2) (nI v3)) (4 * k + 3) 0 (4 * k) = nI v1 := by rw [pk_un (by omega), pk_un (by omega), pk_un (by omega), pk_us]
  have r1 : upd (upd (upd (upd rd (4 * k) (nI v1)) (4 * k + 1) (nI v3)) (4 * k + 2) (nI v3)) (4 * k + 3) 0 (4 * k + 1) = nI v3 := by rw [pk_un (by omega), pk_un (by omega), pk_us]
  have r2 : upd (upd (upd (upd rd (4 * k) (nI v1)) (4 * k + 1) (nI v3)) (4 * k + 2) (nI v3)) (4 * k + 3) 0 (4 * k + 2) = nI v3 := by rw [pk_un (by omega), pk_us]
  have r3 : upd (upd (upd (upd rd (4 * k) (nI v1)) (4 * k + 1) (nI v3)) (4 * k + 2) (nI v3)) (4 * k + 3) 0 (4 * k + 3) = 0 := pk_us
  generalize upd (upd (upd (upd rd (4 * k) (nI v1)) (4 * k + 1) (nI v3)) (4 * k + 2) (nI v3)) (4 * k + 3) 0 = rq at n4 old r0 r1 r2 r3 ⊢
  have v30 : ¬ nI v3 < (0 : Int32) := nI_pos (by omega)
  rcases n4 with ⟨b4, n4, k4⟩ | ⟨n4, k4⟩
  · rw [n4, Option.bind_some, if_neg h10, k4, Option.bind_some, if_neg h10]
    rcases num_both fu hfu h rs rq b4 0 99 (by omega) (by omega) with ⟨v5, q5, l5, u5, w5, t5, k5⟩ | ⟨q5, p5, z5, l5, t5, k5⟩
    · have t5' : rr_X6_takeNumber fu (0 : Int32) (99 : Int32) (nI L, (-1 : Int32), nI (q4 + 1), bt) = _ := t5
      have k5' : rr_X10_readNumber fu (0 : Int32) (99 : Int32) (wPl m (nI (q4 + 1)) rs rq) = _ := k5
      rw [t5', Option.bind_some, k5', Option.bind_some, if_neg (show ¬ nI v5 < (0 : Int32) from nI_pos (by omega))]
      refine Or.inl ⟨q5, _, upd (upd rq (4 * k + 2) (nI v5)) (4 * k + 3) 1, l5, goodC_step hg (coin_ok hh ⟨u1, w1⟩ w3 w5 (show 1 ≤ 3 by omega)) ?_ ?_ ?_ pk_us (fun j hj => ?_), rfl, rfl⟩
      · rw [pk_un (by omega), pk_un (by omega)]; exact r0
      · rw [pk_un (by omega), pk_un (by omega)]; exact r1
      · rw [pk_un (by omega), pk_us]
      · rw [pk_un (by omega), pk_un (by omega)]; exact old j hj
    · have t5' : rr_X6_takeNumber fu (0 : Int32) (99 : Int32) (nI L, (-1 : Int32), nI (q4 + 1), bt) = _ := t5
      have k5' : rr_X10_readNumber fu (0 : Int32) (99 : Int32) (wPl m (nI (q4 + 1)) rs rq) = _ := k5
      rw [t5', Option.bind_some, k5', Option.bind_some, if_pos (show (-1 : Int32) < 0 by decide)]
      exact Or.inr ⟨q5, p5, _, upd (upd rq (4 * k + 2) (-1)) (4 * k + 3) 1, z5, l5, rfl, rfl⟩
  · rw [n4, Option.bind_some, if_pos h00, k4, Option.bind_some, if_pos h00]
    obtain ⟨q5, z5, n5⟩ := take_both fu hfu h rs rq z4.1 (119 : Int32) (by decide)
    rcases n5 with ⟨b5, n5, k5⟩ | ⟨n5, k5⟩
    · rw [n5, Option.bind_some, if_neg h10, k5, Option.bind_some, if_neg h10]
      left
      refine ⟨q5 + 1, _, upd rq (4 * k + 3) 2, b5, goodC_step hg (coin_ok hh ⟨u1, w1⟩ w3 w3 (show 2 ≤ 3 by omega)) ?_ ?_ ?_ pk_us (fun j hj => ?_), rfl, ?_⟩
      · rw [pk_un (by omega)]; exact r0
      · rw [pk_un (by omega)]; exact r1
      · rw [pk_un (by omega)]; exact r2
      · rw [pk_un (by omega)]; exact old j hj
      · show (if rq (4 * k + 2) < (0 : Int32) then _ else some ((1 : Int32), wPl m (nI (q5 + 1)) rs (upd rq (4 * k + 3) 2))) = _
        rw [r2, if_neg v30]
    · rw [n5, Option.bind_some, if_pos h00, k5, Option.bind_some, if_pos h00]
      obtain ⟨q6, z6, n6⟩ := take_both fu hfu h rs rq z5.1 (98 : Int32) (by decide)
      rcases n6 with ⟨b6, n6, k6⟩ | ⟨n6, k6⟩
      · rw [n6, Option.bind_some, if_neg h10, k6, Option.bind_some, if_neg h10]
        left
        refine ⟨q6 + 1, _, upd rq (4 * k + 3) 3, b6, goodC_step hg (coin_ok hh ⟨u1, w1⟩ w3 w3 (show 3 ≤ 3 by omega)) ?_ ?_ ?_ pk_us (fun j hj => ?_), rfl, ?_⟩
        · rw [pk_un (by omega)]; exact r0
        · rw [pk_un (by omega)]; exact r1
        · rw [pk_un (by omega)]; exact r2
        · rw [pk_un (by omega)]; exact old j hj
        · show (if rq (4 * k + 2) < (0 : Int32) then _ else some ((1 : Int32), wPl m (nI (q6 + 1)) rs (upd rq (4 * k + 3) 3))) = _
          rw [r2, if_neg v30]
      · rw [n6, Option.bind_some, if_pos h00, k6, Option.bind_some, if_pos h00]
        left
        refine ⟨q6, _, rq, z6.1, goodC_step hg (coin_ok hh ⟨u1, w1⟩ w3 w3 (show 0 ≤ 3 by omega)) r0 r1 r2 r3 old, rfl, ?_⟩
        show (if rq (4 * k + 2) < (0 : Int32) then _ else some ((1 : Int32), wPl m (nI q6) rs rq)) = _
        rw [r2, if_neg v30]
