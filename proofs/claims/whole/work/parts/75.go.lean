-- ===== errands, one behind the other =====
abbrev pyE (m : ZT_10) (N : Nat) (p : Int32) (x : Nat) (ho : Nat → Int32) : List Nat × Int32 := pyW m.1.1 m.1.2.1 m.1.2.2.1 m.1.2.2.2.1 m.1.2.2.2.2.2.2 N ho p (m.2.1.2.1 x)
abbrev hoE (m : ZT_10) (N : Nat) (p : Int32) (x : Nat) (ho : Nat → Int32) : Nat → Int32 := hoW m.1.1 m.1.2.1 m.1.2.2.1 m.1.2.2.2.1 m.1.2.2.2.2.2.2 N ho p (m.2.1.1 x) (m.2.1.2.1 x)
def eS (m : ZT_10) (N : Nat) (p : Int32) (x : Nat) (s : (Nat → Int32) × Nat) : (Nat → Int32) × Nat := if m.2.1.2.1 x ≤ (pyE m N p x s.1).2 then (hoE m N p x s.1, if (pyE m N p x s.1).2 - m.2.1.2.1 x = 0 then s.2 + 1 else s.2) else s
def eL (m : ZT_10) (N : Nat) (p : Int32) : List Nat → (Nat → Int32) × Nat → (Nat → Int32) × Nat
  | [], s => s
  | x :: r, s => eL m N p r (eS m N p x s)
theorem eL_app {m : ZT_10} {N : Nat} {p : Int32} : ∀ (a b : List Nat) (s : (Nat → Int32) × Nat), eL m N p (a ++ b) s = eL m N p b (eL m N p a s) := by
  intro a
  induction a with
  | nil => intro b s; rfl
  | cons x r ih => intro b s; exact ih b (eS m N p x s)
theorem eS_le {m : ZT_10} {N : Nat} {p : Int32} {x : Nat} {s : (Nat → Int32) × Nat} : s.2 ≤ (eS m N p x s).2 ∧ (eS m N p x s).2 ≤ s.2 + 1 := by
  unfold eS
  split
  · show s.2 ≤ (if _ then _ else _) ∧ (if _ then _ else _) ≤ _
    split
    · exact ⟨Nat.le_succ _, Nat.le_refl _⟩
    · exact ⟨Nat.le_refl _, Nat.le_succ _⟩
  · exact ⟨Nat.le_refl _, Nat.le_succ _⟩
theorem eL_le {m : ZT_10} {N : Nat} {p : Int32} : ∀ (l : List Nat) (s : (Nat → Int32) × Nat), (eL m N p l s).2 ≤ s.2 + l.length := by
  intro l
  induction l with
  | nil => intro s; exact Nat.le_refl _
  | cons x r ih =>
    intro s
    have h1 := ih (eS m N p x s)
    have h2 := (eS_le (m := m) (N := N) (p := p) (x := x) (s := s)).2
    rw [List.length_cons]
    show (eL m N p r (eS m N p x s)).2 ≤ _
    omega
theorem rowUp_congr {K : Nat → Int} {ho ho' : Nat → Int32} {p : Int32} : ∀ n, (∀ i, i < n → ho i = ho' i) → rowUp K (fun i => ho i = p) n = rowUp K (fun i => ho' i = p) n := by
  intro n
  induction n with
  | zero => intro _; rfl
  | succ n ih =>
    intro h
    unfold rowUp
    rw [ih (fun i hi => h i (by omega))]
    by_cases c : ho n = p
    · rw [if_pos c, if_pos ((h n (by omega)).symm.trans c)]
    · rw [if_neg c, if_neg (fun e => c ((h n (by omega)).trans e))]
theorem eS_congr {m : ZT_10} {N : Nat} {p : Int32} {x : Nat} {s t : (Nat → Int32) × Nat} (h1 : ∀ i, i < N → s.1 i = t.1 i) (h2 : s.2 = t.2) : (∀ i, i < N → (eS m N p x s).1 i = (eS m N p x t).1 i) ∧ (eS m N p x s).2 = (eS m N p x t).2 := by
  have e1 : pyE m N p x s.1 = pyE m N p x t.1 := by
    show payL _ _ (rowUp _ (fun i => s.1 i = p) N) 0 = payL _ _ (rowUp _ (fun i => t.1 i = p) N) 0
    rw [rowUp_congr N h1]
  have e2 : ∀ i, i < N → hoE m N p x s.1 i = hoE m N p x t.1 i := by
    intro i hi
    show hoS p _ (pyE m N p x s.1).1 (bkL _ (rowUp _ (fun i => s.1 i = m.2.1.1 x) N) ((pyE m N p x s.1).2 - _)).1 N 0 s.1 i = hoS p _ (pyE m N p x t.1).1 (bkL _ (rowUp _ (fun i => t.1 i = m.2.1.1 x) N) ((pyE m N p x t.1).2 - _)).1 N 0 t.1 i
    rw [e1, rowUp_congr N h1, hoS_in hi, hoS_in hi, h1 i hi]
  unfold eS
  rw [e1, h2]
  by_cases c : m.2.1.2.1 x ≤ (pyE m N p x t.1).2
  · rw [if_pos c, if_pos c]
    exact ⟨e2, rfl⟩
  · rw [if_neg c, if_neg c]
    exact ⟨h1, h2⟩
theorem eL_congr {m : ZT_10} {N : Nat} {p : Int32} : ∀ (l : List Nat) (s t : (Nat → Int32) × Nat), (∀ i, i < N → s.1 i = t.1 i) → s.2 = t.2 → (∀ i, i < N → (eL m N p l s).1 i = (eL m N p l t).1 i) ∧ (eL m N p l s).2 = (eL m N p l t).2 := by
  intro l
  induction l with
  | nil => intro s t h1 h2; exact ⟨h1, h2⟩
  | cons x r ih =>
    intro s t h1 h2
    obtain ⟨g1, g2⟩ := eS_congr (m := m) (N := N) (p := p) (x := x) h1 h2
    exact ih _ _ g1 g2
/-- the errands are as told -/
def EOK (m : ZT_10) (n : Nat) : Prop := n ≤ 6 ∧ m.2.1.2.2 = nI n ∧ ∀ x, x < n → 4 ≤ m.2.1.1 x ∧ m.2.1.1 x ≤ 7
abbrev R7 (N : Nat) (ho : Nat → Int32) : Prop := ∀ i, i < N → 0 ≤ ho i ∧ ho i ≤ 7
theorem eS_ok {m : ZT_10} {N n : Nat} (hM : MOK m N) (hE : EOK m n) {pp x : Nat} (hp : pp < 4) (hx : x < n) {s : (Nat → Int32) × Nat} (h7 : R7 N s.1) : R7 N (eS m N (nI pp) x s).1 := by
  obtain ⟨k, hk4, hk8, ek⟩ := shop_of (hE.2.2 x hx)
  have hM1 : MOK (mH m s.1) N := mok_ho hM ⟨rfl, rfl, rfl, rfl, rfl⟩ h7
  unfold eS
  split
  · have := hoM_ok (p := pp) (s := k) hM1 (by omega) (by omega) (m.2.1.2.1 x)
    rw [← ek] at this
    exact this
  · exact h7
theorem eL_ok {m : ZT_10} {N n : Nat} (hM : MOK m N) (hE : EOK m n) {pp : Nat} (hp : pp < 4) : ∀ (l : List Nat) (s : (Nat → Int32) × Nat), (∀ x ∈ l, x < n) → R7 N s.1 → R7 N (eL m N (nI pp) l s).1 := by
  intro l
  induction l with
  | nil => intro s _ h; exact h
  | cons x r ih =>
    intro s hx h
    exact ih _ (fun y hy => hx y (List.mem_cons_of_mem _ hy)) (eS_ok hM hE hp (hx x List.mem_cons_self) h)
abbrev wQ (m : ZT_10) (ho : Nat → Int32) (g : (Nat → Int32) × Int32) (pb : Int64 × Int64 × Int32 × Int32 × Int32) (hd o bs : Nat → Int32) : ZT_10 := wC m ho g pb (hd, o, bs) m.2.2.2.2.2.2.2.1
theorem go4 (fu : Nat) (hfu : 100 ≤ fu) {m : ZT_10} {N n : Nat} (hM : MOK m N) (hl : LawOK m) (hE : EOK m n) {pp : Nat} (hp : pp < 4) (hd bs : Nat → Int32) {o : Nat → Int32} {q : List Nat} (hlen : q.length = n) (hq : ∀ x ∈ q, x < n) (ha : Arr_ o q) : ∀ (d k g' : Nat) (s : (Nat → Int32) × Nat) (gg : (Nat → Int32) × Int32) (pb : Int64 × Int64 × Int32 × Int32 × Int32), k + d = n → d < g' → R7 N s.1 → ∃ (gg' : (Nat → Int32) × Int32) (pb' : Int64 × Int64 × Int32 × Int32 × Int32), rr_X10_goErrands_4 fu g' (nI pp) (nI s.2) (nI k) (wQ m s.1 gg pb hd o bs) = some (nI (eL m N (nI pp) (q.drop k) s).2, wQ m (eL m N (nI pp) (q.drop k) s).1 gg' pb' hd o bs) := by
  obtain ⟨n6, hn, hsh⟩ := hE
  intro d
  induction d with
  | zero =>
    intro k g' s gg pb hk hg h7
    obtain ⟨g', rfl⟩ : ∃ q, g' = q + 1 := ⟨g' - 1, by omega⟩
    have e9 : rr_X10_goErrands_4 fu (g' + 1) = rr_X10_goErrands_4_b fu (rr_X10_goErrands_4 fu g') := rfl
    rw [e9]
    unfold rr_X10_goErrands_4_b
    rw [if_pos (show (wQ m s.1 gg pb hd o bs).2.1.2.2 ≤ nI k by show m.2.1.2.2 ≤ nI k; rw [hn]; exact nI_le (by omega) (by omega)), List.drop_eq_nil_of_le (by omega)]
    exact ⟨gg, pb, rfl⟩
  | succ d ih =>
    intro k g' s gg pb hk hg h7
    obtain ⟨g', rfl⟩ : ∃ q, g' = q + 1 := ⟨g' - 1, by omega⟩
    have e9 : rr_X10_goErrands_4 fu (g' + 1) = rr_X10_goErrands_4_b fu (rr_X10_goErrands_4 fu g') := rfl
    rw [e9]
    unfold rr_X10_goErrands_4_b rr_X10_goErrands_54 rr_X10_goErrands_55
    have hx := getD_lt hlen hq k (by omega)
    have eo : (wQ m s.1 gg pb hd o bs).2.2.2.2.2.2.1.2.1 k = nI (q.getD k 0) := ha k (by omega)
    rw [if_neg (show ¬ (wQ m s.1 gg pb hd o bs).2.1.2.2 ≤ nI k by show ¬ m.2.1.2.2 ≤ nI k; rw [hn]; exact nI_ge (by omega) (by omega)), ck_in (show k < 6 by omega) (by omega), nI_clamp (show k < 2 ^ 31 by omega), eo, ck_in (show q.getD k 0 < 6 by omega) (by omega), ck_in (show k < 6 by omega) (by omega), ck_in (show q.getD k 0 < 6 by omega) (by omega), nI_clamp (show q.getD k 0 < 2 ^ 31 by omega), drop_at (show k < q.length by omega)]
    have hM1 : MOK (wQ m s.1 gg pb hd o bs) N := mok_ho hM ⟨rfl, rfl, rfl, rfl, rfl⟩ h7
    obtain ⟨g1, e⟩ := m_doBill fu hfu hM1 hl (nI pp) (m.2.1.1 (q.getD k 0)) (m.2.1.2.1 (q.getD k 0))
    have e' : rr_X10_doBill fu (nI pp) ((wQ m s.1 gg pb hd o bs).2.1.1 (q.getD k 0)) ((wQ m s.1 gg pb hd o bs).2.1.2.1 (q.getD k 0)) (wQ m s.1 gg pb hd o bs) = _ := e
    rw [e']
    have hok := eS_ok hM ⟨n6, hn, hsh⟩ hp hx h7
    show ∃ gg' pb', _ = some (nI (eL m N (nI pp) (q.drop (k + 1)) (eS m N (nI pp) (q.getD k 0) s)).2, wQ m (eL m N (nI pp) (q.drop (k + 1)) (eS m N (nI pp) (q.getD k 0) s)).1 gg' pb' hd o bs)
    by_cases c : m.2.1.2.1 (q.getD k 0) ≤ (pyE m N (nI pp) (q.getD k 0) s.1).2
    · rw [if_pos (show m.2.1.2.1 (q.getD k 0) ≤ (pyM (wQ m s.1 gg pb hd o bs) N (nI pp) (m.2.1.2.1 (q.getD k 0))).2 from c), Option.bind_some]
      by_cases c2 : (pyE m N (nI pp) (q.getD k 0) s.1).2 - m.2.1.2.1 (q.getD k 0) = 0
      · have es : eS m N (nI pp) (q.getD k 0) s = (hoE m N (nI pp) (q.getD k 0) s.1, s.2 + 1) := by unfold eS; rw [if_pos c, if_pos c2]
        obtain ⟨gg2, pb2, i1⟩ := ih (k + 1) g' (eS m N (nI pp) (q.getD k 0) s) g1 (orB (pyM (wQ m s.1 gg pb hd o bs) N (nI pp) (m.2.1.2.1 (q.getD k 0))).1 0, orB (bkM (wQ m s.1 gg pb hd o bs) N (nI pp) (m.2.1.1 (q.getD k 0)) (m.2.1.2.1 (q.getD k 0))).1 0, (pyM (wQ m s.1 gg pb hd o bs) N (nI pp) (m.2.1.2.1 (q.getD k 0))).2, (pyM (wQ m s.1 gg pb hd o bs) N (nI pp) (m.2.1.2.1 (q.getD k 0))).2 - m.2.1.2.1 (q.getD k 0), (bkM (wQ m s.1 gg pb hd o bs) N (nI pp) (m.2.1.1 (q.getD k 0)) (m.2.1.2.1 (q.getD k 0))).2) (by omega) (by omega) hok
        refine ⟨gg2, pb2, ?_⟩
        rw [← i1, es]
        show (if (1 : Int32) = 0 then _ else (if (pyE m N (nI pp) (q.getD k 0) s.1).2 - m.2.1.2.1 (q.getD k 0) = 0 then _ else _)) = _
        rw [if_neg (show ¬ (1 : Int32) = 0 by decide), if_pos c2, lt_eq, lt_eq, nI_1, nI_1]
      · have es : eS m N (nI pp) (q.getD k 0) s = (hoE m N (nI pp) (q.getD k 0) s.1, s.2) := by unfold eS; rw [if_pos c, if_neg c2]
        obtain ⟨gg2, pb2, i1⟩ := ih (k + 1) g' (eS m N (nI pp) (q.getD k 0) s) g1 (orB (pyM (wQ m s.1 gg pb hd o bs) N (nI pp) (m.2.1.2.1 (q.getD k 0))).1 0, orB (bkM (wQ m s.1 gg pb hd o bs) N (nI pp) (m.2.1.1 (q.getD k 0)) (m.2.1.2.1 (q.getD k 0))).1 0, (pyM (wQ m s.1 gg pb hd o bs) N (nI pp) (m.2.1.2.1 (q.getD k 0))).2, (pyM (wQ m s.1 gg pb hd o bs) N (nI pp) (m.2.1.2.1 (q.getD k 0))).2 - m.2.1.2.1 (q.getD k 0), (bkM (wQ m s.1 gg pb hd o bs) N (nI pp) (m.2.1.1 (q.getD k 0)) (m.2.1.2.1 (q.getD k 0))).2) (by omega) (by omega) hok
        refine ⟨gg2, pb2, ?_⟩
        rw [← i1, es]
        show (if (1 : Int32) = 0 then _ else (if (pyE m N (nI pp) (q.getD k 0) s.1).2 - m.2.1.2.1 (q.getD k 0) = 0 then _ else _)) = _
        rw [if_neg (show ¬ (1 : Int32) = 0 by decide), if_neg c2, lt_eq, lt_eq, nI_1, Int32.add_zero]
    · rw [if_neg (show ¬ m.2.1.2.1 (q.getD k 0) ≤ (pyM (wQ m s.1 gg pb hd o bs) N (nI pp) (m.2.1.2.1 (q.getD k 0))).2 from c), Option.bind_some]
      have es : eS m N (nI pp) (q.getD k 0) s = s := by unfold eS; rw [if_neg c]
      obtain ⟨gg2, pb2, i1⟩ := ih (k + 1) g' (eS m N (nI pp) (q.getD k 0) s) g1 (0, 0, (pyM (wQ m s.1 gg pb hd o bs) N (nI pp) (m.2.1.2.1 (q.getD k 0))).2, pb.2.2.2) (by omega) (by omega) hok
      refine ⟨gg2, pb2, ?_⟩
      rw [← i1, es]
      show (if (0 : Int32) = 0 then _ else _) = _
      rw [if_pos rfl, lt_eq, lt_eq, nI_1, Int32.add_zero]
theorem m_go (fu : Nat) (hfu : 100 ≤ fu) {m : ZT_10} {N n : Nat} (hM : MOK m N) (hl : LawOK m) (hE : EOK m n) {pp : Nat} (hp : pp < 4) (hd bs : Nat → Int32) {o : Nat → Int32} {q : List Nat} (hlen : q.length = n) (hq : ∀ x ∈ q, x < n) (ha : Arr_ o q) {ho : Nat → Int32} (hho : ∀ i, i < N → ho i = m.1.2.2.2.2.1 i) (gg : (Nat → Int32) × Int32) (pb : Int64 × Int64 × Int32 × Int32 × Int32) : ∃ (ho' : Nat → Int32) (gg' : (Nat → Int32) × Int32) (pb' : Int64 × Int64 × Int32 × Int32 × Int32), rr_X10_goErrands fu (nI pp) (wQ m ho gg pb hd o bs) = some (nI (eL m N (nI pp) q (m.1.2.2.2.2.1, 0)).2, wQ m ho' gg' pb' hd o bs) ∧ ∀ i, i < N → ho' i = (eL m N (nI pp) q (m.1.2.2.2.2.1, 0)).1 i := by
  have n6 := hE.1
  obtain ⟨g1, p1, e⟩ := go4 fu hfu hM hl hE hp hd bs hlen hq ha n 0 fu (ho, 0) gg pb (by omega) (by omega) (fun i hi => by show 0 ≤ ho i ∧ ho i ≤ 7; rw [hho i hi]; exact (hM.2.2 i hi).2.2.2.2)
  obtain ⟨c1, c2⟩ := eL_congr (m := m) (N := N) (p := nI pp) q (ho, 0) (m.1.2.2.2.2.1, 0) hho rfl
  refine ⟨_, g1, p1, ?_, c1⟩
  rw [← c2]
  exact e
