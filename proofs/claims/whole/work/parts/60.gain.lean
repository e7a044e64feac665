-- ===== gain =====
theorem upd_back (f : Nat → Int32) (j : Nat) (v : Int32) : upd (upd f j v) j (f j) = f := by
  funext i
  by_cases e : i = j
  · subst e; rw [pk_us]
  · rw [pk_un e, pk_un e]
/-- the reference's state with one coin forged -/
abbrev mF (m : ZT_10) (j : Nat) (z : Int32) : ZT_10 := ((m.1.1, m.1.2.1, upd m.1.2.2.1 j z, upd m.1.2.2.2.1 j 1, m.1.2.2.2.2), m.2)
theorem mF_ok {m : ZT_10} {N j : Nat} (hM : MOK m N) {z : Int32} (hz : 0 ≤ z ∧ z ≤ 99) : MOK (mF m j z) N := by
  refine ⟨hM.1, hM.2.1, fun i hi => ?_⟩
  have ok := hM.2.2 i hi
  refine ⟨ok.1, ok.2.1, ?_, ?_, ok.2.2.2.2⟩
  · show 0 ≤ upd m.1.2.2.1 j z i ∧ upd m.1.2.2.1 j z i ≤ 99
    by_cases e : i = j
    · subst e; rw [pk_us]; exact hz
    · rw [pk_un e]; exact ok.2.2.1
  · show 0 ≤ upd m.1.2.2.2.1 j 1 i ∧ upd m.1.2.2.2.1 j 1 i ≤ 3
    by_cases e : i = j
    · subst e; rw [pk_us]; decide
    · rw [pk_un e]; exact ok.2.2.2.1
theorem lay_forged (fu : Nat) (hfu : 100 ≤ fu) {c : ZT_9} {m : ZT_10} {N j : Nat} (hC : CoinsR c.1.2.1 m.1.1 m.1.2.1 m.1.2.2.1 m.1.2.2.2.1 m.1.2.2.2.2.1 N) (e2 : c.1.1 = m.1.2.2.2.2.2.2) (hl : LawOK m) (hj : j < N) {z : Int32} (hz : 0 ≤ z ∧ z ≤ 99) : ∃ (rkF : ZT_4) (fT : Nat → Int64) (lF : List Nat), rr_X9_layOutForged fu (nI j) z c = some (c.1, c.2.1, c.2.2.1, c.2.2.2.1, c.2.2.2.2.1, rkF, c.2.2.2.2.2.2.1, (fT, c.2.2.2.2.2.2.2.1.2), c.2.2.2.2.2.2.2.2) ∧ RankOK rkF (keyM (mF m j z) m.1.2.2.2.2.2.2) m.1.1 m.1.2.2.2.2.2.2 N lF ∧ BoardOK fT m.1.2.2.2.2.1 N lF := by
  have hN := hC.2.1
  obtain ⟨rk, l, b1, hR⟩ := r4_build fu hfu hC (by rw [e2]; exact hl) (nI j) hz c.2.2.2.2.2.1
  rw [e2] at hR
  have hR2 := rankOK_congr (K' := keyM (mF m j z) m.1.2.2.2.2.2.2) hR (fun i hi => by
    show keyF _ _ _ _ _ i = keyF _ _ _ _ _ i
    unfold keyF kiF stF
    show _ = keyI _ _ (agI (upd m.1.2.2.2.1 j 1 i) (upd m.1.2.2.1 j z i) _ * 64 + i)
    by_cases e : i = j
    · subst e; rw [if_pos rfl, if_pos rfl, pk_us, pk_us]
    · have ne : ¬ nI i = nI j := fun x => e ((nI_eq (by omega) (by omega)).mp x)
      rw [if_neg ne, if_neg ne, pk_un e, pk_un e])
  obtain ⟨f, b2, hBd⟩ := r1_layOut fu hfu hC hR2 c.2.2.2.2.2.2.2.1
  refine ⟨rk, f, l, ?_, hR2, hBd⟩
  unfold rr_X9_layOutForged
  rw [b1, Option.bind_some, b2, Option.bind_some]
theorem runForged_eq (fu : Nat) {m : ZT_10} {j : Nat} (hj : j < 40) (z x : Int32) {v : Int32} {ho : Nat → Int32} {g : (Nat → Int32) × Int32} {pb : Int64 × Int64 × Int32 × Int32 × Int32} {hb : (Nat → Int32) × (Nat → Int32) × (Nat → Int32)} {pa : (Nat → Int64) × (Nat → Int64)} (h : rr_X10_runOnce fu x (mF m j z) = some (v, wC (mF m j z) ho g pb hb pa)) : rr_X10_runForged fu (nI j) z x m = some (v, wC m ho g pb hb pa) := by
  unfold rr_X10_runForged
  simp only [ck_in hj (show 40 < 2 ^ 31 by omega), nI_clamp (show j < 2 ^ 31 by omega), lt_eq]
  have h' : rr_X10_runOnce fu x ((m.1.1, m.1.2.1, (upd m.1.2.2.1 j z), (upd m.1.2.2.2.1 j (1 : Int32)), m.1.2.2.2.2), m.2) = some (v, wC (mF m j z) ho g pb hb pa) := h
  rw [h', Option.bind_some]
  show some (v, ((m.1.1, m.1.2.1, upd (upd m.1.2.2.1 j z) j (m.1.2.2.1 j), upd (upd m.1.2.2.2.1 j 1) j (m.1.2.2.2.1 j), ho, m.1.2.2.2.2.2), m.2.1, m.2.2.1, g, m.2.2.2.2.1, pb, hb, pa, m.2.2.2.2.2.2.2.2)) = _
  rw [upd_back, upd_back]
theorem rel_lawc {c : ZT_9} {m : ZT_10} (h : Rel c m) : c.1.1 = m.1.2.2.2.2.2.2 := by
  obtain ⟨⟨_, _, _, _, _, e2, _⟩, _⟩ := h
  exact e2
theorem st_gain (fu : Nat) (hfu : 2000 ≤ fu) : St_gain fu Rel := by
  intro x y z c m h
  unfold rr_X9_gain rr_X10_gain
  simp only [r9_within, r9_isHolder, r9_isYear, r9_isPurse, r9_isShop, r9_isSum, r9_isSheet, r9_isLane, r9_isCoin, r9_isBill, r10_isHolder, r10_isPurse, r10_isShop, r10_isSum, r10_isCoin, r10_isBill, r10_isSheet, in_1_99, in_0_99, in_0_3, in_0_4, in_1_50, in_0_5, in_m1_5, in_1_4, in_1_8, Option.bind_some, it_10, it_01, zk_b, zk_1, zk_0, lt_eq]
  have h0 := h
  obtain ⟨rk, f, N, l, el, hM, hR, hB, hC⟩ := r9_layOut fu (by omega) h
  have hN := hM.2.1
  rw [hM.1, hC.1]
  by_cases hx : 0 ≤ x ∧ x ≤ 3
  · rw [if_neg (not_not_intro hx), if_neg (not_not_intro hx)]
    by_cases hy : 0 ≤ y ∧ y ≤ nI N - 1
    · rw [if_neg (not_not_intro hy), if_neg (not_not_intro hy)]
      by_cases hz : 0 ≤ z ∧ z ≤ 99
      · rw [if_neg (not_not_intro hz), if_neg (not_not_intro hz)]
        obtain ⟨j, hj, rfl⟩ := (coin_of (by omega)).mp hy
        obtain ⟨p, hp3, rfl⟩ := nat_of 3 (by omega) rfl hx.1 hx.2
        have hl := rel_law h
        obtain ⟨B, hD, hb⟩ := rel_day h
        rw [el]
        simp only [Option.bind_some]
        have e2 := rel_lawc h
        obtain ⟨rkF, fT, lF, eF, hRF, hBF⟩ := lay_forged fu (by omega) (c := (c.1, c.2.1, c.2.2.1, rk, (0 : Int32), c.2.2.2.2.2.1, (f, c.2.2.2.2.2.2.1.2), c.2.2.2.2.2.2.2)) hC e2 hl hj hz
        rw [eF]
        simp only [Option.bind_some]
        obtain ⟨r1, v1, t1, ho1, g1, pb1, hd1, pa1, o1, o2, o3, o4⟩ := once_t fu hfu (c := (c.1, c.2.1, c.2.2.1, rk, (0 : Int32), rkF, (f, c.2.2.2.2.2.2.1.2), (fT, c.2.2.2.2.2.2.2.1.2), c.2.2.2.2.2.2.2.2)) (m := mF m j z) (p := p) (mF_ok hM hz) hl hRF hD hb hBF (by omega)
        have hM2 : MOK (wC m ho1 g1 pb1 (hd1, m.2.2.2.2.2.2.1.2) (pa1, m.2.2.2.2.2.2.2.1.2)) N := mok_ho hM ⟨rfl, rfl, rfl, rfl, rfl⟩ (fun i hi => by
          show 0 ≤ ho1 i ∧ ho1 i ≤ 7
          rw [o3 i hi]
          exact (hM.2.2 i hi).2.2.2.2)
        obtain ⟨r2, v2, b2, ho2, g2, pb2, hd2, pa2, p1, p2, p3, p4⟩ := once_b fu hfu (c := (c.1, c.2.1, c.2.2.1, rk, (0 : Int32), rkF, (f, c.2.2.2.2.2.2.1.2), (fT, c.2.2.2.2.2.2.2.1.2), c.2.2.2.2.2.2.2.2)) (m := wC m ho1 g1 pb1 (hd1, m.2.2.2.2.2.2.1.2) (pa1, m.2.2.2.2.2.2.2.1.2)) (p := p) hM2 hl hR hD hb (board_congr (rank_lt hR) hB (fun _ _ => rfl) o3) (by omega)
        obtain ⟨r3, v3, t3, ho3, g3, pb3, hd3, pa3, u1, u2, u3, u4⟩ := once_t fu hfu (c := (c.1, c.2.1, c.2.2.1, rk, (0 : Int32), rkF, b2, (fT, c.2.2.2.2.2.2.2.1.2), c.2.2.2.2.2.2.2.2)) (m := mF m j z) (p := p) (mF_ok hM hz) hl hRF hD hb hBF (by omega)
        have hv : v1 = v3 := congrArg Prod.fst (Option.some.inj (o2.symm.trans u2))
        have o2' := runForged_eq fu (show j < 40 by omega) z (nI p) o2
        rw [o2', p1]
        simp only [Option.bind_some]
        rw [p2, u1]
        simp only [Option.bind_some, ck_in (show p < 8 by omega) (show 8 < 2 ^ 31 by omega), nI_clamp (show p < 2 ^ 31 by omega)]
        rw [u4, p4]
        simp only [Option.bind_some]
        refine ⟨v3 - v2, _, _, rfl, by rw [hv], ?_⟩
        exact rel_over h0 hM hR (rkF, b2, t3, c.2.2.2.2.2.2.2.2.1, c.2.2.2.2.2.2.2.2.2.1) (f := c.1.2.1.2.1) (ho := ho2) (fun i hi => by rw [p3 i hi]; show _ = ho1 i; rw [o3 i hi]; exact (hC.2.2.1 i hi).1) (fun i hi => by rw [p3 i hi]; show 0 ≤ ho1 i ∧ ho1 i ≤ 7; rw [o3 i hi]; exact (hM.2.2 i hi).2.2.2.2) g2 pb2 _ _
      · rw [if_pos hz, if_pos hz]; exact ⟨_, _, _, rfl, rfl, h0⟩
    · rw [if_pos hy, if_pos hy]; exact ⟨_, _, _, rfl, rfl, h0⟩
  · rw [if_pos hx, if_pos hx]; exact ⟨_, _, _, rfl, rfl, h0⟩
