theorem rel_guess {c : ZT_9} {m : ZT_10} (h : Rel c m) (g : ZT_3) (o bs : Nat → Int32) : Rel (wGu c g) (wOB m o bs) := by
  obtain ⟨hT, hI, hP, hS, hK⟩ := h
  exact ⟨hT, hI, hP, hS, hK⟩
theorem st_seen (fu : Nat) (hfu : 1000 ≤ fu) : St_seen fu Rel := by
  intro x y z n sum paid ch K c m h
  have h0 := h
  obtain ⟨hT, hI, hP, hS, hKk⟩ := h
  unfold rr_X9_seen rr_X10_seen
  simp only [r9_within, r9_isHolder, r9_isYear, r9_isPurse, r9_isShop, r9_isSum, r9_isSheet, r9_isLane, r9_isCoin, r9_isBill, r10_isHolder, r10_isPurse, r10_isShop, r10_isSum, r10_isCoin, r10_isBill, r10_isSheet, in_1_99, in_0_99, in_0_3, in_0_4, in_1_50, in_0_5, in_m1_5, in_1_4, in_1_8, Option.bind_some, it_10, it_01, zk_b, zk_1, zk_0, lt_eq]
  by_cases hx : 0 ≤ x ∧ x ≤ 3
  rotate_left
  · rw [if_pos hx, if_pos (fun e => hx e.1)]; exact ⟨_, _, _, rfl, rfl, h0⟩
  rw [if_neg (not_not_intro hx)]
  by_cases hy : 0 ≤ y ∧ y ≤ 2
  rotate_left
  · rw [if_pos hy, if_pos (fun e => hy e.2)]; exact ⟨_, _, _, rfl, rfl, h0⟩
  rw [if_neg (not_not_intro hy), if_neg (show ¬ ¬ ((0 ≤ x ∧ x ≤ 3) ∧ (0 ≤ y ∧ y ≤ 2)) from not_not_intro ⟨hx, hy⟩)]
  by_cases hn : 1 ≤ n ∧ n ≤ 4
  rotate_left
  · rw [if_pos hn, if_pos hn]; exact ⟨_, _, _, rfl, rfl, h0⟩
  rw [if_neg (not_not_intro hn), if_neg (not_not_intro hn)]
  by_cases hs : 1 ≤ sum ∧ sum ≤ 999
  rotate_left
  · rw [if_pos hs, if_pos hs]; exact ⟨_, _, _, rfl, rfl, h0⟩
  rw [if_neg (not_not_intro hs), if_neg (not_not_intro hs)]
  by_cases hpd : 1 ≤ paid ∧ paid ≤ 4
  rotate_left
  · rw [if_pos hpd, if_pos hpd]; exact ⟨_, _, _, rfl, rfl, h0⟩
  rw [if_neg (not_not_intro hpd), if_neg (not_not_intro hpd)]
  by_cases hc : 0 ≤ ch ∧ ch ≤ 99
  rotate_left
  · rw [if_pos hc, if_pos hc]; exact ⟨_, _, _, rfl, rfl, h0⟩
  rw [if_neg (not_not_intro hc), if_neg (not_not_intro hc), r10_in2 fu K (-1) (n - 1) (by decide) rfl, Option.bind_some, ite_it]
  by_cases hk : -1 ≤ K ∧ K ≤ n - 1
  rotate_left
  · rw [if_pos hk, if_neg hk]; exact ⟨_, _, _, rfl, rfl, h0⟩
  rw [if_neg (not_not_intro hk), if_pos hk]
  have le0 : ∀ {v : Int32}, 1 ≤ v → (0 : Int32) ≤ v := fun {v} h => by
    rw [Int32.le_iff_toInt_le] at h ⊢
    have e1 : (1 : Int32).toInt = 1 := by decide
    have e0 : (0 : Int32).toInt = 0 := by decide
    omega
  obtain ⟨k, hk3, rfl⟩ := nat_of 3 (by omega) rfl hx.1 hx.2
  obtain ⟨N, hN4, rfl⟩ := nat_of 4 (by omega) rfl (le0 hn.1) hn.2
  obtain ⟨S, hS9, rfl⟩ := nat_of 999 (by omega) rfl (le0 hs.1) hs.2
  obtain ⟨P, hP4, rfl⟩ := nat_of 4 (by omega) rfl (le0 hpd.1) hpd.2
  obtain ⟨C, hC99, rfl⟩ := nat_of 99 (by omega) rfl hc.1 hc.2
  have hN1 : 1 ≤ N := (nI_leI (a := 1) (by omega) (by omega)).mp hn.1
  have hK : K = -1 ∨ ∃ j, j < N ∧ K = nI j := by
    by_cases e : K = -1
    · exact Or.inl e
    · right
      obtain ⟨N', rfl⟩ : ∃ q, N = q + 1 := ⟨N - 1, by omega⟩
      have h1 := hk.1
      have h2 := hk.2
      rw [nI_pred] at h2
      have h3 : (0 : Int32) ≤ K := by
        rw [Int32.le_iff_toInt_le] at h1 ⊢
        have e1 : (-1 : Int32).toInt = -1 := by decide
        have e0 : (0 : Int32).toInt = 0 := by decide
        have e3 : ¬ K.toInt = -1 := fun e4 => e (Int32.toInt_inj.mp (e4.trans e1.symm))
        omega
      obtain ⟨j, hj, e2⟩ := nat_of N' (by omega) rfl h3 h2
      exact ⟨j, by omega, e2⟩
  obtain ⟨q, f1, f2, hq⟩ := refus fu hS (show k < 4 by omega) (show N ≤ 40 by omega) hy z
  rw [f1, f2]
  simp only [Option.bind_some]
  rcases hq with ⟨q1, q2⟩ | ⟨rfl, hl, hl2, L, f, hL, rfl, hfn, s1, s2, h3⟩
  · rw [if_neg q2, if_neg q1]
    exact ⟨_, _, _, rfl, rfl, h0⟩
  rw [if_pos rfl, if_pos (by decide), mul24']
  rcases load fu (c := c) (m := m) (show k < 4 by omega) hN4 (show f + N ≤ 24 by omega) (fun i hi => h3 (f + i) (by omega)) (nI S) (nI P) (nI C) K N 0 fu fu c.2.2.2.2.2.2.2.2.2.1.1 (by omega) (by omega) (by omega) (fun j hj => absurd hj (by omega)) with ⟨wt, a1, a2⟩ | ⟨wt, w1, a1, a2⟩
  · have a1' : rr_X9_seen_93 fu fu (nI k) (nI f) (nI N) (nI S) (nI P) (nI C) K (0 : Int32) c = _ := a1
    have a2' : rr_X10_seen_104 fu fu (nI N) (nI S) (nI P) (nI C) K (nI (24 * k + f)) (0 : Int32) m = _ := a2
    rw [a1', a2']
    exact ⟨_, _, _, rfl, rfl, rel_guess h0 _ _ _⟩
  have a1' : rr_X9_seen_93 fu fu (nI k) (nI f) (nI N) (nI S) (nI P) (nI C) K (0 : Int32) c = _ := a1
  have a2' : rr_X10_seen_104 fu fu (nI N) (nI S) (nI P) (nI C) K (nI (24 * k + f)) (0 : Int32) m = _ := a2
  rw [a1', a2']
  -- the worths as numbers
  have hwv : ∃ wv : Nat → Nat, ∀ j, j < N → wv j ≤ 99 ∧ wt j = nI (wv j) ∧ itM m (24 * k + f + j) = lN (wv j) := by
    refine ⟨fun j => if h : j < N then Classical.choose (w1 j h) else 0, fun j hj => ?_⟩
    show (if h : j < N then Classical.choose (w1 j h) else 0) ≤ 99 ∧ wt j = nI (if h : j < N then Classical.choose (w1 j h) else 0) ∧ itM m (24 * k + f + j) = lN (if h : j < N then Classical.choose (w1 j h) else 0)
    rw [dif_pos hj]
    exact Classical.choose_spec (w1 j hj)
  obtain ⟨wv, hwv⟩ := hwv
  obtain ⟨k1, k2, k3⟩ := chk_all hN1 (show N ≤ 6 by omega)
  -- the class
  have hGU : GU (wt, c.2.2.2.2.2.2.2.2.2.1.2.1, (0 : Int32), c.2.2.2.2.2.2.2.2.2.1.2.2.2.1, nI N, nI S, nI P, nI C) wv N S P C := ⟨fun j hj => ⟨(hwv j hj).2.1, (hwv j hj).1⟩, rfl, rfl, rfl, rfl, hN4, hS9, hP4, hC99⟩
  obtain ⟨fs, pa, r1, r2, _⟩ := ar_ok fu (by omega) hGU N 6 [] 0 (0, []) c.2.2.2.2.2.2.2.2.2.1.2.1 c.2.2.2.2.2.2.2.2.2.1.2.2.2.1 (by rw [List.length_nil]; omega) (by omega) uok_0 (fun x hx => absurd hx (by simp)) (fun i hi => absurd hi (by rw [List.length_nil]; omega)) (fun h => absurd rfl h) (by show 0 + _ < _; omega)
  have hle := stS_le (P := PS wv S P C) (dfs N N []) (0, [])
  have hle2 : ((dfs N N []).foldl (stS (PS wv S P C)) (0, [])).1 ≤ 720 := by
    have : ((dfs N N []).foldl (stS (PS wv S P C)) (0, [])).1 ≤ 0 + (dfs N N []).length := hle
    omega
  have ec : ∃ g : ZT_3, rr_X9_seen_93 fu 1 (nI k) (nI f) (nI N) (nI S) (nI P) (nI C) K (nI N) (wGu c (wt, c.2.2.2.2.2.2.2.2.2.1.2)) = some (ansS K ((dfs N N []).foldl (stS (PS wv S P C)) (0, [])), wGu c g) := by
    have e9 : rr_X9_seen_93 fu 1 = rr_X9_seen_93_b fu (rr_X9_seen_93 fu 0) := rfl
    rw [e9]
    unfold rr_X9_seen_93_b rr_X3_countOrders
    have r1' : rr_X3_arrange fu 6 (0 : Int32) (0 : Int32) ((wGu c (wt, c.2.2.2.2.2.2.2.2.2.1.2)).2.2.2.2.2.2.2.2.2.1.1, (wGu c (wt, c.2.2.2.2.2.2.2.2.2.1.2)).2.2.2.2.2.2.2.2.2.1.2.1, (0 : Int32), (wGu c (wt, c.2.2.2.2.2.2.2.2.2.1.2)).2.2.2.2.2.2.2.2.2.1.2.2.2.1, nI N, nI S, nI P, nI C) = _ := r1
    rw [if_pos (nI_le (Nat.le_refl N) (by omega)), r1', Option.bind_some, Option.bind_some]
    generalize (dfs N N []).foldl (stS (PS wv S P C)) (0, []) = F at r2 hle2 ⊢
    unfold ansS
    by_cases e : F.1 = 0
    · rw [if_pos (show nI F.1 = 0 by rw [e]; rfl), if_pos e]
      exact ⟨_, rfl⟩
    · rw [if_neg (nI_ne0 (by omega) (by omega)), if_neg e]
      rcases hK with rfl | ⟨j, hj, rfl⟩
      · rw [if_pos rfl, if_neg (show ¬ (0 : Int32) ≤ -1 by decide)]
        exact ⟨_, rfl⟩
      · rw [if_neg (nI_nm1 (show j < 2 ^ 31 by omega)), if_pos (nI_pos' (show j < 2 ^ 31 by omega)), ck_in (show j < 4 by omega) (by omega), nI_clamp (show j < 2 ^ 31 by omega)]
        obtain ⟨g1, g2⟩ := r2 e
        refine ⟨(wt, fs, nI F.1, pa, nI N, nI S, nI P, nI C), ?_⟩
        show some (fs j, _) = _
        rw [g2 j (by omega)]
  -- the reference
  have em : ∃ o bs : Nat → Int32, rr_X10_seen_104 fu 1 (nI N) (nI S) (nI P) (nI C) K (nI (24 * k + f)) (nI N) m = some (ansS K ((dfs N N []).foldl (stS (PS wv S P C)) (0, [])), wOB m o bs) := by
    have e9 : rr_X10_seen_104 fu 1 = rr_X10_seen_104_b fu (rr_X10_seen_104 fu 0) := rfl
    rw [e9]
    unfold rr_X10_seen_104_b rr_X10_seen_159
    obtain ⟨o, o1, o2⟩ := m_first fu (by omega) m
    rw [if_pos (nI_le (Nat.le_refl N) (by omega)), o1, Option.bind_some]
    by_cases e : N < P
    · rw [if_pos (nI_lt e (by omega))]
      have hz : (dfs N N []).foldl (stS (PS wv S P C)) (0, []) = (0, []) := stS_none _ _ (fun p hp => by
        apply decide_eq_false
        intro h
        have := (jd_ge (wv := wv) (sum := S) p 0 0).2
        rw [h, chk_mem _ k1 p hp] at this
        have h2 : P ≤ 0 + N := this
        omega)
      rw [hz]
      obtain ⟨g, hg⟩ : ∃ q, fu = q + 1 := ⟨fu - 1, by omega⟩
      have := e161 fu hN4 (nI S) (nI P) (nI C) K (nI (24 * k + f)) hK m o (bs := m.2.2.2.2.2.2.1.2.2) (s := (0, [])) (by show 0 < _; omega) (fun h => absurd rfl h) g
      refine ⟨o, m.2.2.2.2.2.2.1.2.2, ?_⟩
      rw [show rr_X10_seen_161 fu fu = rr_X10_seen_161 fu (g + 1) from congrArg _ hg]
      exact this
    · rw [if_neg (nI_nlt (by omega) (by omega))]
      cases hd : dfs N N [] with
      | nil => rw [hd] at k1; exact absurd (show false = true from k1) (by decide)
      | cons p ps =>
        rw [hd] at k1 k2 k3
        have ep : p = List.range N := by simpa using k2
        have ha : Arr_ o p := fun i hi => by
          rw [ep, List.length_range] at hi
          rw [ep, List.getD_eq_getElem?_getD, List.getElem?_range hi]
          exact o2 i (by omega)
        rw [List.length_cons] at k3
        obtain ⟨o', bs', r⟩ := s161 fu (by omega) hN1 (m := m) (wv := wv) (at_ := 24 * k + f) ⟨hN4, by omega, fun j hj => ⟨(hwv j hj).2.2, (hwv j hj).1⟩⟩ hS9 hC99 (show P ≤ N by omega) hK ps p fu (0, []) o m.2.2.2.2.2.2.1.2.2 k1 (by omega) ha (fun h => absurd rfl h) (by show 0 + _ + 1 < _; omega)
        exact ⟨o', bs', r⟩
  obtain ⟨g, ec⟩ := ec
  obtain ⟨o, bs, em⟩ := em
  rw [ec, em]
  exact ⟨_, _, _, rfl, rfl, rel_guess h0 _ _ _⟩
