-- ===== the class' bill against the reference's =====
theorem rank_lt {rk : ZT_4} {K : Nat → Int} {wo : Nat → Int32} {law : Int32} {N : Nat} {l : List Nat} (hR : RankOK rk K wo law N l) : ∀ r, r < N → l.getD r 0 < N := fun r hr => by
  rw [getD_eq (by rw [hR.1]; exact hr)]
  exact (hR.2.1 _).mp (List.getElem_mem _)
theorem rank_at {rk : ZT_4} {K : Nat → Int} {wo : Nat → Int32} {law : Int32} {N : Nat} {l : List Nat} (hR : RankOK rk K wo law N l) : ∀ c, c < N → ∃ r, r < N ∧ l.getD r 0 = c := by
  intro c hc
  obtain ⟨r, hr, e⟩ := List.getElem_of_mem ((hR.2.1 c).mpr hc)
  exact ⟨r, by rw [← hR.1]; exact hr, by rw [getD_eq hr]; exact e⟩
theorem hoS_in {p s : Int32} {P G : List Nat} {N c : Nat} {ho : Nat → Int32} (h : c < N) : hoS p s P G N 0 ho c = if c ∈ P then s else if c ∈ G then p else ho c := by
  unfold hoS
  rw [if_pos ⟨Nat.zero_le _, h⟩]
theorem board_bill {hd : Nat → Int64} {ho : Nat → Int32} {N : Nat} {l : List Nat} (hlt : ∀ r, r < N → l.getD r 0 < N) (hB : BoardOK hd ho N l) {p s : Nat} (hp : p < 4) (hs4 : 4 ≤ s) (hs : s < 8) {P G : Int64} {PY BK : List Nat} (hP : SetC P N l PY) (hG : SetC G N l BK) (hPY : ∀ c ∈ PY, c < N ∧ ho c = nI p) (hBK : ∀ c ∈ BK, c < N ∧ ho c = nI s) : BoardOK (vp_updL (vp_updL hd p ((hd p &&& (P ^^^ (-1 : Int64))) ||| G)) s ((hd s &&& (G ^^^ (-1 : Int64))) ||| P)) (hoS (nI p) (nI s) PY BK N 0 ho) N l := by
  intro h hh r hr
  have hBh := hB h hh r hr
  have hBp := hB p (by omega) r hr
  have hBs := hB s hs r hr
  have hPr := hP r hr
  have hGr := hG r hr
  have hlr := hlt r
  generalize l.getD r 0 = c at hBh hBp hBs hPr hGr hlr ⊢
  have nps : ¬ nI p = nI s := fun e => by have := (nI_eq (by omega) (by omega)).mp e; omega
  have nsp : ¬ nI s = nI p := fun e => nps e.symm
  by_cases hrN : r < N
  · have hcN := hlr hrN
    rw [hoS_in hcN]
    by_cases e1 : h = s
    · subst e1
      rw [pk_uLs, tb_or, tb_and, tb_xor, tb_m1 hr, hBs, hGr, hPr]
      by_cases i1 : c ∈ PY
      · simp [hrN, i1]
      · by_cases i2 : c ∈ BK
        · simp [hrN, i1, i2, nps]
        · simp [hrN, i1, i2]
    · rw [pk_uLn e1]
      by_cases e2 : h = p
      · subst e2
        rw [pk_uLs, tb_or, tb_and, tb_xor, tb_m1 hr, hBp, hGr, hPr]
        by_cases i1 : c ∈ PY
        · have i2 : c ∉ BK := fun i2 => nps ((hPY c i1).2.symm.trans (hBK c i2).2)
          simp [hrN, i1, i2, nsp]
        · by_cases i2 : c ∈ BK
          · simp [hrN, i1, i2]
          · simp [hrN, i1, i2]
      · rw [pk_uLn e2, hBh]
        have nh1 : ¬ nI s = nI h := fun e => e1 ((nI_eq (by omega) (by omega)).mp e).symm
        have nh2 : ¬ nI p = nI h := fun e => e2 ((nI_eq (by omega) (by omega)).mp e).symm
        by_cases i1 : c ∈ PY
        · have := (hPY c i1).2
          simp [i1, this, nh1, nh2]
        · by_cases i2 : c ∈ BK
          · have := (hBK c i2).2
            simp [i1, i2, this, nh1, nh2]
          · simp [i1, i2]
  · have key : ∀ q : Prop, [Decidable q] → decide (r < N ∧ q) = false := fun q _ => decide_eq_false (fun x => hrN x.1)
    rw [key]
    by_cases e1 : h = s
    · subst e1
      rw [pk_uLs, tb_or, tb_and, tb_xor, tb_m1 hr, hBs, hGr, hPr, key, key, key]
      rfl
    · rw [pk_uLn e1]
      by_cases e2 : h = p
      · subst e2
        rw [pk_uLs, tb_or, tb_and, tb_xor, tb_m1 hr, hBp, hGr, hPr, key, key, key]
        rfl
      · rw [pk_uLn e2, hBh, key]
theorem c_meets (fu : Nat) (hfu : 100 ≤ fu) {m : ZT_10} {N : Nat} (hM : MOK m N) (hl : LawOK m) {rk : ZT_4} {l : List Nat} (hR : RankOK rk (keyM m m.1.2.2.2.2.2.2) m.1.1 m.1.2.2.2.2.2.2 N l) {b : ZT_1} (hB : BoardOK b.1 m.1.2.2.2.2.1 N l) {p s : Nat} (hp : p < 4) (hs4 : 4 ≤ s) (hs : s < 8) (sum : Int32) : (sum ≤ (pyM m N (nI p) sum).2 → ∃ b' : ZT_1, rr_X1_meets fu (nI p) (nI s) sum b rk = some ((1 : Int32), b') ∧ BoardOK b'.1 (hoM m N (nI p) (nI s) sum) N l ∧ SetC b'.2.1 N l (pyM m N (nI p) sum).1 ∧ SetC b'.2.2.1 N l (bkM m N (nI p) (nI s) sum).1 ∧ b'.2.2.2.1 = (pyM m N (nI p) sum).2 - sum ∧ b'.2.2.2.2 = (bkM m N (nI p) (nI s) sum).2) ∧ (¬ sum ≤ (pyM m N (nI p) sum).2 → ∃ b' : ZT_1, rr_X1_meets fu (nI p) (nI s) sum b rk = some ((0 : Int32), b') ∧ b'.1 = b.1) := by
  have hN := hM.2.1
  obtain ⟨P, e1, hP⟩ := r1_takeOut fu hfu hM hR hB (show p < 8 by omega) sum
  have hlen2 : (rowM m (m.1.2.2.2.2.2.2 ^^^ 1) (nI s) N).length ≤ N := rowUp_len N
  have hset : SetC (b.1 s) N l (rowM m (m.1.2.2.2.2.2.2 ^^^ 1) (nI s) N) := by
    intro r hr
    rw [hB s hs r hr]
    apply decide_eq_decide.mpr
    rw [rowUp_mem]
    exact ⟨fun h => ⟨h.1, rank_lt hR r h.1, h.2⟩, fun h => ⟨h.1, h.2.2⟩⟩
  have hsrt : Srt_ (keyM m (m.1.2.2.2.2.2.2 ^^^ 1)) (rowM m (m.1.2.2.2.2.2.2 ^^^ 1) (nI s) N) := rowUp_srt (M := 64) (fun a b ha hb e => keyF_inj ha hb e) N (by omega)
  obtain ⟨G, e2, hG⟩ := gb19 fu hM hl hR b.1 P ((pyM m N (nI p) sum).2 - sum) (rowM m (m.1.2.2.2.2.2.2 ^^^ 1) (nI s) N) 0 fu (b.1 s) 0 ((pyM m N (nI p) sum).2 - sum) (by omega) (by omega) hset hsrt row_lt
  have hG' : SetC G N l (bkM m N (nI p) (nI s) sum).1 := by
    intro r hr
    rw [hG r hr, tb_0, Bool.false_or]
  have e3 : rr_X1_giveBack fu (b.1 s) (b.1, P, b.2.2.1, (pyM m N (nI p) sum).2 - sum, b.2.2.2.2) rk = some (b.1, P, G, (pyM m N (nI p) sum).2 - sum, (bkM m N (nI p) (nI s) sum).2) := e2
  unfold rr_X1_meets
  simp only [ck_in (show p < 8 by omega) (show 8 < 2 ^ 31 by omega), ck_in hs (show 8 < 2 ^ 31 by omega), nI_clamp (show p < 2 ^ 31 by omega), nI_clamp (show s < 2 ^ 31 by omega)]
  rw [e1]
  simp only [Option.bind_some, lt_eq]
  constructor
  · intro c
    rw [if_pos c, e3]
    simp only [Option.bind_some]
    refine ⟨_, rfl, ?_, hP, hG', rfl, rfl⟩
    have hb := board_bill (rank_lt hR) hB hp hs4 hs (P := P) (G := G) hP hG' pyM_lt bkM_lt
    have e4 : vp_updL b.1 p ((b.1 p &&& (P ^^^ (-1 : Int64))) ||| G) s = b.1 s := pk_uLn (by omega)
    show BoardOK (vp_updL (vp_updL b.1 p ((b.1 p &&& (P ^^^ (-1 : Int64))) ||| G)) s (((vp_updL b.1 p ((b.1 p &&& (P ^^^ (-1 : Int64))) ||| G)) s &&& (G ^^^ (-1 : Int64))) ||| P)) _ _ _
    rw [e4]
    exact hb
  · intro c
    rw [if_neg c]
    exact ⟨_, rfl, rfl⟩
theorem hoM_ok {m : ZT_10} {N : Nat} (hM : MOK m N) {p s : Nat} (hp : p < 8) (hs : s < 8) (sum : Int32) : ∀ i, i < N → 0 ≤ hoM m N (nI p) (nI s) sum i ∧ hoM m N (nI p) (nI s) sum i ≤ 7 := by
  intro i hi
  have e9 : hoM m N (nI p) (nI s) sum i = _ := hoS_in hi
  rw [e9]
  have h7 : ∀ k, k < 8 → 0 ≤ nI k ∧ nI k ≤ 7 := fun k hk => ⟨nI_pos' (by omega), nI_le (b := 7) (by omega) (by omega)⟩
  split
  · exact h7 s hs
  · split
    · exact h7 p hp
    · exact (hM.2.2 i hi).2.2.2.2
theorem mok_ho {m : ZT_10} {N : Nat} (hM : MOK m N) {m' : ZT_10} (e : m'.1.1 = m.1.1 ∧ m'.1.2.1 = m.1.2.1 ∧ m'.1.2.2.1 = m.1.2.2.1 ∧ m'.1.2.2.2.1 = m.1.2.2.2.1 ∧ m'.1.2.2.2.2.2.1 = m.1.2.2.2.2.2.1) (h : ∀ i, i < N → 0 ≤ m'.1.2.2.2.2.1 i ∧ m'.1.2.2.2.2.1 i ≤ 7) : MOK m' N := by
  obtain ⟨a1, a2, a3, a4, a5⟩ := e
  refine ⟨a5.trans hM.1, hM.2.1, fun i hi => ?_⟩
  have ok := hM.2.2 i hi
  rw [a1, a2, a3, a4]
  exact ⟨ok.1, ok.2.1, ok.2.2.1, ok.2.2.2.1, h i hi⟩
theorem pay_ne {m : ZT_10} {N : Nat} {p sum : Int32} (h1 : 1 ≤ sum) (h : sum ≤ (pyM m N p sum).2) : (pyM m N p sum).1 ≠ [] := by
  have t0 : (0 : Int32).toInt = 0 := by decide
  have t1 : (1 : Int32).toInt = 1 := by decide
  have hns : ¬ sum ≤ 0 := by rw [i32_le] at h1 ⊢; omega
  intro e
  show False
  revert h e
  show sum ≤ (payL m.1.1 sum (rowM m m.1.2.2.2.2.2.2 p N) 0).2 → (payL m.1.1 sum (rowM m m.1.2.2.2.2.2.2 p N) 0).1 = [] → False
  cases rowM m m.1.2.2.2.2.2.2 p N with
  | nil => intro h _; exact hns h
  | cons a t =>
    rw [payL_s hns]
    intro _ e
    exact absurd e (List.cons_ne_nil _ _)
theorem shop_of {s : Int32} (hs : 4 ≤ s ∧ s ≤ 7) : ∃ k : Nat, 4 ≤ k ∧ k < 8 ∧ s = nI k := by
  have hs0 : 0 ≤ s := by
    have h1 := hs.1
    have t0 : (0 : Int32).toInt = 0 := by decide
    have t4 : (4 : Int32).toInt = 4 := by decide
    rw [i32_le] at h1 ⊢
    omega
  obtain ⟨s, hs7, rfl⟩ := nat_of 7 (by omega) rfl hs0 hs.2
  exact ⟨s, (nI_leI (a := 4) (by omega) (by omega)).mp hs.1, by omega, rfl⟩
/-- a bill on the board and in the reference -/
theorem bill_both (fu : Nat) (hfu : 100 ≤ fu) {m : ZT_10} {N : Nat} (hM : MOK m N) (hl : LawOK m) {rk : ZT_4} {l : List Nat} (hR : RankOK rk (keyM m m.1.2.2.2.2.2.2) m.1.1 m.1.2.2.2.2.2.2 N l) {b : ZT_1} (hB : BoardOK b.1 m.1.2.2.2.2.1 N l) {p s sum : Int32} (hp : 0 ≤ p ∧ p ≤ 3) (hs : 4 ≤ s ∧ s ≤ 7) : (∃ (ho : Nat → Int32) (g : (Nat → Int32) × Int32) (pb : Int64 × Int64 × Int32 × Int32 × Int32) (b' : ZT_1), rr_X1_meets fu p s sum b rk = some ((1 : Int32), b') ∧ rr_X10_doBill fu p s sum m = some ((1 : Int32), wB m ho g pb) ∧ (∀ i, i < N → 0 ≤ ho i ∧ ho i ≤ 7) ∧ BoardOK b'.1 ho N l ∧ (∃ PY : List Nat, (∀ c ∈ PY, c < N) ∧ pb.1 = orB PY 0 ∧ SetC b'.2.1 N l PY ∧ (1 ≤ sum → PY ≠ [])) ∧ b'.2.2.2.1 = pb.2.2.2.1 ∧ b'.2.2.2.2 = pb.2.2.2.2) ∨ (∃ (g : (Nat → Int32) × Int32) (pb : Int64 × Int64 × Int32 × Int32 × Int32) (b' : ZT_1), rr_X1_meets fu p s sum b rk = some ((0 : Int32), b') ∧ rr_X10_doBill fu p s sum m = some ((0 : Int32), wB m m.1.2.2.2.2.1 g pb) ∧ b'.1 = b.1) := by
  have hN := hM.2.1
  obtain ⟨p, hp3, rfl⟩ := nat_of 3 (by omega) rfl hp.1 hp.2
  obtain ⟨s, hs4, hs8, rfl⟩ := shop_of hs
  obtain ⟨g, e⟩ := m_doBill fu hfu hM hl (nI p) (nI s) sum
  obtain ⟨c1, c2⟩ := c_meets fu hfu hM hl hR hB (show p < 4 by omega) hs4 hs8 sum
  by_cases c : sum ≤ (pyM m N (nI p) sum).2
  · rw [if_pos c] at e
    obtain ⟨b', d1, d2, d3, d4, d5, d6⟩ := c1 c
    exact Or.inl ⟨_, g, _, b', d1, e, hoM_ok hM (by omega) (by omega) sum, d2, ⟨(pyM m N (nI p) sum).1, fun c hc => (pyM_lt c hc).1, rfl, d3, fun h => pay_ne h c⟩, d5, d6⟩
  · rw [if_neg c] at e
    obtain ⟨b', d1, d2⟩ := c2 c
    exact Or.inr ⟨g, _, b', d1, e, d2⟩
