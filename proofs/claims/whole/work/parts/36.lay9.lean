theorem rankOK_congr {rk : ZT_4} {K K' : Nat → Int} {wo : Nat → Int32} {law : Int32} {N : Nat} {l : List Nat} (h : RankOK rk K wo law N l) (hK : ∀ c, c < N → K c = K' c) : RankOK rk K' wo law N l := by
  obtain ⟨h1, h2, h3, h4⟩ := h
  refine ⟨h1, h2, ?_, h4⟩
  refine h3.imp_of_mem (fun ha hb hab => ?_)
  rw [← hK _ ((h2 _).mp ha), ← hK _ ((h2 _).mp hb)]
  exact hab
theorem rank_nd {rk : ZT_4} {K : Nat → Int} {wo : Nat → Int32} {law : Int32} {N : Nat} {l : List Nat} (h : RankOK rk K wo law N l) : ∀ i j, i < N → j < N → l.getD i 0 = l.getD j 0 → i = j := by
  obtain ⟨h1, h2, h3, h4⟩ := h
  intro i j hi hj e
  rcases Nat.lt_trichotomy i j with c | c | c
  · have := srt_getD h3 c (by omega)
    rw [e] at this; omega
  · exact c
  · have := srt_getD h3 c (by omega)
    rw [e] at this; omega
theorem r1_layOut (fu : Nat) (hfu : 100 ≤ fu) {N : Nat} {cs : ZT_2} {wo ye st ki ho : Nat → Int32} (hC : CoinsR cs wo ye st ki ho N) {rk : ZT_4} {K : Nat → Int} {law : Int32} {l : List Nat} (hR : RankOK rk K wo law N l) (b : ZT_1) : ∃ f : Nat → Int64, rr_X1_layOut fu 40 b cs rk = some (f, b.2) ∧ BoardOK f ho N l := by
  unfold rr_X1_layOut
  have hN := hC.2.1
  obtain ⟨f1, e1, hz⟩ := ly2 fu cs rk b.2 8 0 fu b.1 (by omega) (by omega) (fun h hh => absurd hh (by omega))
  have e2 : rr_X1_layOut_2 fu 40 cs rk fu (0 : Int32) b = rr_X1_layOut_23 fu 40 cs rk fu (0 : Int32) (f1, b.2) := e1
  rw [e2]
  exact ly23 fu hC hR.1 hR.2.1 (rank_nd hR) hR.2.2.2.2.2.2.1 b.2 N 0 fu f1 (by omega) (by omega) (fun h hh r hr => by
    rw [hz h hh, tb_0]
    symm
    apply decide_eq_false
    rintro ⟨_, h2, _⟩
    omega)
theorem kiF_m1 (ki : Nat → Int32) {c : Nat} (h : c < 64) : kiF (-1) ki c = ki c := by
  unfold kiF
  rw [if_neg]
  intro e
  rw [i32_eq, nI_toInt (by omega)] at e
  have : (-1 : Int32).toInt = -1 := by decide
  omega
theorem stF_m1 (z : Int32) (st : Nat → Int32) {c : Nat} (h : c < 64) : stF (-1) z st c = st c := by
  unfold stF
  rw [if_neg]
  intro e
  rw [i32_eq, nI_toInt (by omega)] at e
  have : (-1 : Int32).toInt = -1 := by decide
  omega
/-- behind layOut: ranks and board are those of the coins, all else is as it was -/
theorem r9_layOut (fu : Nat) (hfu : 100 ≤ fu) {c : ZT_9} {m : ZT_10} (h : Rel c m) : ∃ (rk : ZT_4) (f : Nat → Int64) (N : Nat) (l : List Nat), rr_X9_layOut fu c = some (c.1, c.2.1, c.2.2.1, rk, (0 : Int32), c.2.2.2.2.2.1, (f, c.2.2.2.2.2.2.1.2), c.2.2.2.2.2.2.2) ∧ MOK m N ∧ RankOK rk (keyM m m.1.2.2.2.2.2.2) m.1.1 m.1.2.2.2.2.2.2 N l ∧ BoardOK f m.1.2.2.2.2.1 N l ∧ CoinsR c.1.2.1 m.1.1 m.1.2.1 m.1.2.2.1 m.1.2.2.2.1 m.1.2.2.2.2.1 N := by
  obtain ⟨⟨N, E, B, hC, e1, e2, hl, hE, e3, hB, e4⟩, hI, hP, hS, hK⟩ := h
  have hN := hC.2.1
  have hM : MOK m N := ⟨e1, hN, hC.2.2.2⟩
  unfold rr_X9_layOut rr_X9_layOut_25
  rcases hK with hK | ⟨hK, N', l, hN', e1', hR⟩
  · rw [if_neg (by rw [hK]; decide)]
    obtain ⟨rk, l, b1, hR⟩ := r4_build fu hfu hC (by rw [e2]; exact hl) (-1) (show (0 : Int32) ≤ 0 ∧ (0 : Int32) ≤ 99 by decide) c.2.2.2.1
    rw [e2] at hR
    have hR := rankOK_congr (K' := keyM m m.1.2.2.2.2.2.2) hR (fun c hc => by
      show keyF _ _ _ _ _ c = keyF _ _ _ _ _ c
      unfold keyF
      rw [kiF_m1 _ (by omega), stF_m1 _ _ (by omega)])
    obtain ⟨f, b2, hBd⟩ := r1_layOut fu hfu hC hR c.2.2.2.2.2.2.1
    refine ⟨rk, f, N, l, ?_, hM, hR, hBd, hC⟩
    rw [b1]
    simp only [Option.bind_some, b2]
  · have : N' = N := by rw [e1] at e1'; exact ((nI_eq (by omega) (by omega)).mp e1').symm
    subst this
    rw [if_pos hK]
    obtain ⟨f, b2, hBd⟩ := r1_layOut fu hfu hC hR c.2.2.2.2.2.2.1
    refine ⟨c.2.2.2.1, f, N', l, ?_, hM, hR, hBd, hC⟩
    rw [b2]
    simp only [Option.bind_some]
    rw [← hK]
theorem rel_lay {c : ZT_9} {m : ZT_10} (h : Rel c m) {rk : ZT_4} {N : Nat} {l : List Nat} (hM : MOK m N) (hR : RankOK rk (keyM m m.1.2.2.2.2.2.2) m.1.1 m.1.2.2.2.2.2.2 N l) (rest : ZT_4 × ZT_1 × ZT_1 × ZT_7 × ZT_3) : Rel (c.1, c.2.1, c.2.2.1, rk, (0 : Int32), rest.1, rest.2.1, rest.2.2.1, rest.2.2.2.1, rest.2.2.2.2, c.2.2.2.2.2.2.2.2.2.2) m := by
  obtain ⟨hT, hI, hP, hS, hK⟩ := h
  exact ⟨hT, hI, hP, hS, Or.inr ⟨rfl, N, l, hM.2.1, hM.1, hR⟩⟩
