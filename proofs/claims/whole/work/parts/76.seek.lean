-- ===== the tour =====
/-- one order more: a better one is kept -/
def stO (W : List Nat → Nat) (s : Nat × List Nat) (p : List Nat) : Nat × List Nat := if W p + 1 ≤ s.1 then s else (W p + 1, p)
theorem stO_skip {W : List Nat → Nat} : ∀ (L : List (List Nat)) (s : Nat × List Nat), (∀ p ∈ L, W p + 1 ≤ s.1) → L.foldl (stO W) s = s := by
  intro L
  induction L with
  | nil => intro s _; rfl
  | cons p r ih =>
    intro s h
    rw [List.foldl_cons]
    have : stO W s p = s := by unfold stO; rw [if_pos (h p List.mem_cons_self)]
    rw [this]
    exact ih s (fun q hq => h q (List.mem_cons_of_mem _ hq))
theorem stO_ge {W : List Nat → Nat} : ∀ (L : List (List Nat)) (s : Nat × List Nat), s.1 ≤ (L.foldl (stO W) s).1 := by
  intro L
  induction L with
  | nil => intro s; exact Nat.le_refl _
  | cons p r ih =>
    intro s
    rw [List.foldl_cons]
    refine Nat.le_trans ?_ (ih _)
    unfold stO
    split
    · exact Nat.le_refl _
    · show s.1 ≤ W p + 1; omega
theorem dfs_mem {n : Nat} : ∀ (d : Nat) (pre p : List Nat), p ∈ dfs n d pre → ∃ q, p = pre ++ q ∧ q.length = d := by
  intro d
  induction d with
  | zero =>
    intro pre p h
    have h' : p ∈ [pre] := h
    rw [List.mem_singleton] at h'
    exact ⟨[], by rw [h', List.append_nil], rfl⟩
  | succ d ih =>
    intro pre p h
    unfold dfs at h
    rw [List.mem_flatMap] at h
    obtain ⟨x, _, hx⟩ := h
    by_cases c : x ∈ pre
    · rw [if_pos c] at hx; exact absurd hx (by simp)
    · rw [if_neg c] at hx
      obtain ⟨q, e, hq⟩ := ih _ _ hx
      refine ⟨x :: q, ?_, by rw [List.length_cons, hq]⟩
      rw [e, List.append_assoc]
      rfl
def GOI (b0 n : Nat) (fd : Nat → Int32) (s : Nat × List Nat) : Prop := b0 < s.1 → s.2.length = n ∧ Arr_ fd s.2
theorem le_b1 {v b : Nat} (hv : v < 1000) (hb : b < 1000) : nI v ≤ nI b - 1 ↔ v + 1 ≤ b := by
  cases b with
  | zero =>
    constructor
    · intro h
      rw [Int32.le_iff_toInt_le, nI_toInt (by omega)] at h
      have e : (nI 0 - 1 : Int32).toInt = -1 := by decide
      omega
    · intro h; omega
  | succ b =>
    rw [nI_pred, nI_leI (by omega) (by omega)]
    omega
theorem jt56 (fu : Nat) (b : ZT_1) {n : Nat} (hn : n ≤ 6) (p0 b1 e0 : Int32) (pa : Nat → Int32) (wt : Int64 × Int32) : ∀ (d k f : Nat) (fd : Nat → Int32), k + d = n → d < f → (∀ i, i < k → fd i = pa i) → ∃ fd' : Nat → Int32, rr_X7_judge_56 fu b f (nI n) (nI k) (p0, b1, e0, pa, fd, wt) = some (p0, b1, e0, pa, fd', wt) ∧ ∀ i, i < n → fd' i = pa i := by
  intro d
  induction d with
  | zero =>
    intro k f fd hk hf hz
    obtain ⟨f, rfl⟩ : ∃ q, f = q + 1 := ⟨f - 1, by omega⟩
    have e9 : rr_X7_judge_56 fu b (f + 1) = rr_X7_judge_56_b fu b (rr_X7_judge_56 fu b f) := rfl
    rw [e9]
    unfold rr_X7_judge_56_b
    rw [if_pos (nI_le (by omega) (by omega))]
    exact ⟨fd, rfl, fun i hi => hz i (by omega)⟩
  | succ d ih =>
    intro k f fd hk hf hz
    obtain ⟨f, rfl⟩ : ∃ q, f = q + 1 := ⟨f - 1, by omega⟩
    have e9 : rr_X7_judge_56 fu b (f + 1) = rr_X7_judge_56_b fu b (rr_X7_judge_56 fu b f) := rfl
    rw [e9]
    unfold rr_X7_judge_56_b
    rw [if_neg (nI_ge (by omega) (by omega)), ck_in (show k < 6 by omega) (by omega), lt_eq, ck_in (show k < 6 by omega) (by omega), lt_eq, nI_1, nI_clamp (show k < 2 ^ 31 by omega)]
    refine ih (k + 1) f (upd fd k (pa k)) (by omega) (by omega) (fun i hi => ?_)
    by_cases e : i = k
    · subst e; rw [pk_us]
    · rw [pk_un e]; exact hz i (by omega)
abbrev tt_ (pp : Nat) (e : Nat) (wt : Int64 × Int32) (bb : Nat) (pa fd : Nat → Int32) : ZT_7 := (nI pp, nI bb - 1, nI e, pa, fd, wt)
theorem jt38 (fu : Nat) (hfu : 100 ≤ fu) (b : ZT_1) {n : Nat} (hn : n ≤ 6) (pp e : Nat) (wt : Int64 × Int32) {W : List Nat → Nat} {b0 v : Nat} (hv : v ≤ 6) {s : Nat × List Nat} (hs : s.1 ≤ 8) {pa fd : Nat → Int32} {p : List Nat} (hlen : p.length = n) (ha : Arr_ pa p) (hG : GOI b0 n fd s) (hW : W p = v) : ∃ fd' : Nat → Int32, rr_X7_judge_38 fu b (nI n) (nI v) (tt_ pp e wt s.1 pa fd) = some (tt_ pp e wt (stO W s p).1 pa fd') ∧ GOI b0 n fd' (stO W s p) ∧ (stO W s p).1 ≤ 8 := by
  unfold rr_X7_judge_38 stO
  rw [hW]
  by_cases c : v + 1 ≤ s.1
  · rw [if_pos (show nI v ≤ (tt_ pp e wt s.1 pa fd).2.1 from (le_b1 (by omega) (by omega)).mpr c), if_pos c]
    exact ⟨fd, rfl, hG, hs⟩
  · rw [if_neg (show ¬ nI v ≤ (tt_ pp e wt s.1 pa fd).2.1 from fun h => c ((le_b1 (by omega) (by omega)).mp h)), if_neg c]
    obtain ⟨fd', f1, f2⟩ := jt56 fu b hn (nI pp) (nI v) (nI e) pa wt n 0 fu fd (by omega) (by omega) (fun i hi => absurd hi (by omega))
    refine ⟨fd', ?_, fun _ => ⟨hlen, fun i hi => by have hi' : i < p.length := hi; rw [f2 i (by omega)]; exact ha i hi'⟩, by show v + 1 ≤ 8; omega⟩
    show _ = some (nI pp, nI (v + 1) - 1, nI e, pa, fd', wt)
    rw [nI_pred]
    exact f1
theorem me_ok (fu : Nat) (hfu : 100 ≤ fu) {m : ZT_10} {N n : Nat} (hM : MOK m N) (hl : LawOK m) (hE : EOK m n) {rk : ZT_4} {l : List Nat} (hR : RankOK rk (keyM m m.1.2.2.2.2.2.2) m.1.1 m.1.2.2.2.2.2.2 N l) {pp x : Nat} (hp : pp < 4) (hx : x < n) {s : (Nat → Int32) × Nat} (h7 : R7 N s.1) {b : ZT_1} (hB : BoardOK b.1 s.1 N l) : ∃ (r : Int32) (b' : ZT_1), rr_X1_meetsEvenly fu (nI pp) (m.2.1.1 x) (m.2.1.2.1 x) b rk = some (r, b') ∧ BoardOK b'.1 (eS m N (nI pp) x s).1 N l ∧ ((r = 0 ∧ (eS m N (nI pp) x s).2 = s.2) ∨ (¬ r = 0 ∧ (eS m N (nI pp) x s).2 = s.2 + 1)) := by
  obtain ⟨k, hk4, hk8, ek⟩ := shop_of (hE.2.2 x hx)
  have hM1 : MOK (mH m s.1) N := mok_ho hM ⟨rfl, rfl, rfl, rfl, rfl⟩ h7
  obtain ⟨c1, c2⟩ := c_meets fu hfu hM1 hl hR hB hp hk4 hk8 (m.2.1.2.1 x)
  unfold rr_X1_meetsEvenly eS
  by_cases c : m.2.1.2.1 x ≤ (pyE m N (nI pp) x s.1).2
  · obtain ⟨b', d1, d2, _, _, d5, _⟩ := c1 c
    rw [← ek] at d1 d2
    rw [d1, Option.bind_some, if_pos c]
    show ∃ (r : Int32) (b1 : ZT_1), (if (1 : Int32) = 0 then _ else (if b'.2.2.2.1 = 0 then some ((1 : Int32), b') else some ((0 : Int32), b'))) = _ ∧ _
    rw [if_neg (show ¬ (1 : Int32) = 0 by decide), d5]
    by_cases c3 : (pyE m N (nI pp) x s.1).2 - m.2.1.2.1 x = 0
    · rw [if_pos (show (pyM (mH m s.1) N (nI pp) (m.2.1.2.1 x)).2 - m.2.1.2.1 x = 0 from c3), if_pos c3]
      exact ⟨1, b', rfl, d2, Or.inr ⟨by decide, rfl⟩⟩
    · rw [if_neg (show ¬ (pyM (mH m s.1) N (nI pp) (m.2.1.2.1 x)).2 - m.2.1.2.1 x = 0 from c3), if_neg c3]
      exact ⟨0, b', rfl, d2, Or.inl ⟨rfl, rfl⟩⟩
  · obtain ⟨b', d1, d2⟩ := c2 c
    rw [← ek] at d1
    rw [d1, Option.bind_some, if_neg c]
    show ∃ (r : Int32) (b1 : ZT_1), (if (0 : Int32) = 0 then some ((0 : Int32), b') else _) = _ ∧ _
    rw [if_pos rfl]
    exact ⟨0, b', rfl, by rw [d2]; exact hB, Or.inl ⟨rfl, rfl⟩⟩
theorem eS_hold {m : ZT_10} {N : Nat} {pp sx x : Nat} (hp : pp < 8) (hs : sx < 8) (es : m.2.1.1 x = nI sx) {s : (Nat → Int32) × Nat} {c h : Nat} (hc : c < N) (hh : h < 8) (h1 : h ≠ pp) (h2 : h ≠ sx) : (eS m N (nI pp) x s).1 c = nI h ↔ s.1 c = nI h := by
  have n1 : ¬ nI pp = nI h := fun e => h1 ((nI_eq (by omega) (by omega)).mp e).symm
  have n2 : ¬ nI sx = nI h := fun e => h2 ((nI_eq (by omega) (by omega)).mp e).symm
  unfold eS
  split
  · show hoS (nI pp) (m.2.1.1 x) (pyM (mH m s.1) N (nI pp) (m.2.1.2.1 x)).1 (bkM (mH m s.1) N (nI pp) (m.2.1.1 x) (m.2.1.2.1 x)).1 N 0 s.1 c = nI h ↔ s.1 c = nI h
    rw [hoS_in hc]
    by_cases c1 : c ∈ (pyM (mH m s.1) N (nI pp) (m.2.1.2.1 x)).1
    · rw [if_pos c1, es]
      have := (pyM_lt (m := mH m s.1) c c1).2
      have e : s.1 c = nI pp := this
      rw [e]
      exact ⟨fun h => absurd h n2, fun h => absurd h n1⟩
    · rw [if_neg c1]
      by_cases c2 : c ∈ (bkM (mH m s.1) N (nI pp) (m.2.1.1 x) (m.2.1.2.1 x)).1
      · rw [if_pos c2]
        have := (bkM_lt (m := mH m s.1) c c2).2
        have e : s.1 c = m.2.1.1 x := this
        rw [e, es]
        exact ⟨fun h => absurd h n1, fun h => absurd h n2⟩
      · rw [if_neg c2]
  · exact Iff.rfl
theorem board_restore {m : ZT_10} {N : Nat} {pp sx x : Nat} (hp : pp < 8) (hs : sx < 8) (es : m.2.1.1 x = nI sx) {s : (Nat → Int32) × Nat} {l : List Nat} (hlt : ∀ r, r < N → l.getD r 0 < N) {hd hd2 : Nat → Int64} (h1 : BoardOK hd s.1 N l) (h2 : BoardOK hd2 (eS m N (nI pp) x s).1 N l) : BoardOK (vp_updL (vp_updL hd2 pp (hd pp)) sx (hd sx)) s.1 N l := by
  intro h hh r hr
  by_cases e1 : h = sx
  · subst e1; rw [pk_uLs]; exact h1 h hh r hr
  · rw [pk_uLn e1]
    by_cases e2 : h = pp
    · subst e2; rw [pk_uLs]; exact h1 h hh r hr
    · rw [pk_uLn e2, h2 h hh r hr]
      apply decide_eq_decide.mpr
      constructor
      · rintro ⟨a, b⟩; exact ⟨a, (eS_hold hp hs es (hlt r a) hh e2 e1).mp b⟩
      · rintro ⟨a, b⟩; exact ⟨a, (eS_hold hp hs es (hlt r a) hh e2 e1).mpr b⟩
abbrev wS (c : ZT_9) (b : ZT_1) (t : ZT_7) : ZT_9 := (c.1, c.2.1, c.2.2.1, c.2.2.2.1, c.2.2.2.2.1, c.2.2.2.2.2.1, b, c.2.2.2.2.2.2.2.1, t, c.2.2.2.2.2.2.2.2.2)
/-- what an order is worth: by the board at its end, as the class judges it -/
def VJ (fu : Nat) (N n : Nat) (l : List Nat) (e : Nat) (wt : Int64 × Int32) (V : (Nat → Int32) × Nat → Nat) : Prop := (∀ (s : (Nat → Int32) × Nat) (b : ZT_1) (t : ZT_7), t.2.2.2.2.2 = wt → BoardOK b.1 s.1 N l → rr_X7_judge fu (nI n) (nI s.2) t b = rr_X7_judge_38 fu b (nI n) (nI (V s)) t) ∧ (∀ (X bb : Nat) (t : ZT_7), X < 100 → bb < 100 → t.2.2.2.2.2 = wt → t.2.1 = nI bb - 1 → rr_X7_mayGetBetter fu (nI X) t = some (1 : Int32) ∨ (rr_X7_mayGetBetter fu (nI X) t = some (0 : Int32) ∧ X + 1 ≤ bb ∧ ∀ s, V s ≤ s.2)) ∧ (∀ s, s.2 ≤ n → V s ≤ e) ∧ e ≤ 6
theorem seek_ok (fu : Nat) (hfu : 100 ≤ fu) {c : ZT_9} {m : ZT_10} {N n : Nat} (hM : MOK m N) (hl : LawOK m) (hE : EOK m n) (hC : c.1.2.2.2.1 = nI n ∧ ∀ x, x < n → c.1.2.2.2.2.2.1 x = m.2.1.1 x ∧ c.1.2.2.2.2.2.2 x = m.2.1.2.1 x) {l : List Nat} (hR : RankOK c.2.2.2.1 (keyM m m.1.2.2.2.2.2.2) m.1.1 m.1.2.2.2.2.2.2 N l) {pp : Nat} (hp : pp < 4) {e : Nat} {wt : Int64 × Int32} {V : (Nat → Int32) × Nat → Nat} (hV : VJ fu N n l e wt V) (b0 : Nat) (s0 : (Nat → Int32) × Nat) (hs0 : s0.2 = 0) : ∀ (d D : Nat) (pre : List Nat) (U : Nat) (s : (Nat → Int32) × Nat) (B : Nat × List Nat) (b : ZT_1) (pa fd : Nat → Int32), pre.length + d = n → d < D → UOK U pre → (∀ x ∈ pre, x < n) → s = eL m N (nI pp) pre s0 → Arr_ pa pre → R7 N s.1 → BoardOK b.1 s.1 N l → B.1 ≤ 8 → GOI b0 n fd B → ∃ (b' : ZT_1) (pa' fd' : Nat → Int32), rr_X9_seek fu D (nI pre.length) (nI U) (nI s.2) (wS c b (tt_ pp e wt B.1 pa fd)) = some (wS c b' (tt_ pp e wt ((dfs n d pre).foldl (stO (fun p => V (eL m N (nI pp) p s0))) B).1 pa' fd')) ∧ BoardOK b'.1 s.1 N l ∧ GOI b0 n fd' ((dfs n d pre).foldl (stO (fun p => V (eL m N (nI pp) p s0))) B) ∧ ((dfs n d pre).foldl (stO (fun p => V (eL m N (nI pp) p s0))) B).1 ≤ 8 ∧ ∀ i, i < pre.length → pa' i = pa i := by
  obtain ⟨v1, v2, v3, v4⟩ := hV
  have n6 := hE.1
  have hlt := rank_lt hR
  intro d
  induction d with
  | zero =>
    intro D pre U s B b pa fd hlen hD hU hx hs ha h7 hB hb hG
    obtain ⟨D, rfl⟩ : ∃ q, D = q + 1 := ⟨D - 1, by omega⟩
    have e9 : rr_X9_seek fu (D + 1) = rr_X9_seek_b fu (rr_X9_seek fu D) := rfl
    rw [e9]
    unfold rr_X9_seek_b rr_X9_seek_24
    have hsl : s.2 ≤ n := by
      have := eL_le (m := m) (N := N) (p := nI pp) pre s0
      rw [← hs] at this
      omega
    have hVs := v3 s hsl
    obtain ⟨fd', f1, f2, f3⟩ := jt38 fu hfu b n6 pp e wt (W := fun p => V (eL m N (nI pp) p s0)) (b0 := b0) (v := V s) (by omega) hb (p := pre) (by omega) ha hG (by show V (eL m N (nI pp) pre s0) = V s; rw [hs])
    refine ⟨b, pa, fd', ?_, hB, f2, f3, fun _ _ => rfl⟩
    rw [if_pos (show (wS c b (tt_ pp e wt B.1 pa fd)).1.2.2.2.1 ≤ nI pre.length by show c.1.2.2.2.1 ≤ _; rw [hC.1]; exact nI_le (by omega) (by omega))]
    have ej : rr_X7_judge fu (wS c b (tt_ pp e wt B.1 pa fd)).1.2.2.2.1 (nI s.2) (wS c b (tt_ pp e wt B.1 pa fd)).2.2.2.2.2.2.2.2.1 (wS c b (tt_ pp e wt B.1 pa fd)).2.2.2.2.2.2.1 = some (tt_ pp e wt (stO (fun p => V (eL m N (nI pp) p s0)) B pre).1 pa fd') := by
      show rr_X7_judge fu c.1.2.2.2.1 (nI s.2) (tt_ pp e wt B.1 pa fd) b = _
      rw [hC.1, v1 s b _ rfl hB]
      exact f1
    rw [ej, Option.bind_some]
    rfl
  | succ d ih =>
    intro D pre U s B b pa fd hlen hD hU hx hs ha h7 hB hb hG
    obtain ⟨D, rfl⟩ : ∃ q, D = q + 1 := ⟨D - 1, by omega⟩
    have e9 : rr_X9_seek fu (D + 1) = rr_X9_seek_b fu (rr_X9_seek fu D) := rfl
    rw [e9]
    unfold rr_X9_seek_b
    have hsl : s.2 ≤ pre.length := by
      have := eL_le (m := m) (N := N) (p := nI pp) pre s0
      rw [← hs] at this
      omega
    rw [if_neg (show ¬ (wS c b (tt_ pp e wt B.1 pa fd)).1.2.2.2.1 ≤ nI pre.length by show ¬ c.1.2.2.2.1 ≤ _; rw [hC.1]; exact nI_ge (by omega) (by omega)), if_pos (show nI pre.length < (6 : Int32) from nI_lt (b := 6) (by omega) (by omega))]
    have eX : nI s.2 + (wS c b (tt_ pp e wt B.1 pa fd)).1.2.2.2.1 - nI pre.length = nI (s.2 + n - pre.length) := by
      show nI s.2 + c.1.2.2.2.1 - nI pre.length = _
      rw [hC.1, nI_add, pk_sub (by omega)]
    rw [eX]
    have inner : ∀ (k x g : Nat) (B : Nat × List Nat) (b : ZT_1) (pa fd : Nat → Int32), x + k = n → k < g → Arr_ pa pre → BoardOK b.1 s.1 N l → B.1 ≤ 8 → GOI b0 n fd B → ∃ (b' : ZT_1) (pa' fd' : Nat → Int32), rr_X9_seek_59 fu (rr_X9_seek fu D) g (nI pre.length) (nI U) (nI s.2) (nI n) (nI x) (wS c b (tt_ pp e wt B.1 pa fd)) = some (wS c b' (tt_ pp e wt (((List.range' x k).flatMap (fun x => if x ∈ pre then [] else dfs n d (pre ++ [x]))).foldl (stO (fun p => V (eL m N (nI pp) p s0))) B).1 pa' fd')) ∧ BoardOK b'.1 s.1 N l ∧ GOI b0 n fd' (((List.range' x k).flatMap (fun x => if x ∈ pre then [] else dfs n d (pre ++ [x]))).foldl (stO (fun p => V (eL m N (nI pp) p s0))) B) ∧ (((List.range' x k).flatMap (fun x => if x ∈ pre then [] else dfs n d (pre ++ [x]))).foldl (stO (fun p => V (eL m N (nI pp) p s0))) B).1 ≤ 8 ∧ ∀ i, i < pre.length → pa' i = pa i := by
      intro k
      induction k with
      | zero =>
        intro x g B b pa fd hxk hg ha hB hb hG
        obtain ⟨g, rfl⟩ : ∃ q, g = q + 1 := ⟨g - 1, by omega⟩
        have e9 : rr_X9_seek_59 fu (rr_X9_seek fu D) (g + 1) = rr_X9_seek_59_b fu (rr_X9_seek fu D) (rr_X9_seek_59 fu (rr_X9_seek fu D) g) := rfl
        rw [e9]
        unfold rr_X9_seek_59_b
        refine ⟨b, pa, fd, ?_, hB, hG, hb, fun _ _ => rfl⟩
        rw [if_pos (nI_le (show n ≤ x by omega) (by omega))]
        rfl
      | succ k ihk =>
        intro x g B b pa fd hxk hg ha hB hb hG
        obtain ⟨g, rfl⟩ : ∃ q, g = q + 1 := ⟨g - 1, by omega⟩
        have e9 : rr_X9_seek_59 fu (rr_X9_seek fu D) (g + 1) = rr_X9_seek_59_b fu (rr_X9_seek fu D) (rr_X9_seek_59 fu (rr_X9_seek fu D) g) := rfl
        rw [e9]
        unfold rr_X9_seek_59_b rr_X9_seek_239
        rw [if_neg (nI_ge (show x < n by omega) (by omega))]
        by_cases ce : e + 1 ≤ B.1
        · -- it is enough
          rw [if_pos (show (wS c b (tt_ pp e wt B.1 pa fd)).2.2.2.2.2.2.2.2.1.2.2.1 ≤ (wS c b (tt_ pp e wt B.1 pa fd)).2.2.2.2.2.2.2.2.1.2.1 from (le_b1 (by omega) (by omega)).mpr ce), stO_skip _ B (fun p hpm => by
            rw [List.mem_flatMap] at hpm
            obtain ⟨y, _, hy⟩ := hpm
            by_cases cy : y ∈ pre
            · rw [if_pos cy] at hy; exact absurd hy (by simp)
            · rw [if_neg cy] at hy
              obtain ⟨q, eq, lq⟩ := dfs_mem _ _ _ hy
              have h2 := eL_le (m := m) (N := N) (p := nI pp) p s0
              have h3 : p.length ≤ n := by
                rw [eq, List.length_append, List.length_append, List.length_singleton]; omega
              have h4 := v3 (eL m N (nI pp) p s0) (by omega)
              show V (eL m N (nI pp) p s0) + 1 ≤ B.1
              omega)]
          exact ⟨b, pa, fd, rfl, hB, hG, hb, fun _ _ => rfl⟩
        · rw [if_neg (show ¬ (wS c b (tt_ pp e wt B.1 pa fd)).2.2.2.2.2.2.2.2.1.2.2.1 ≤ (wS c b (tt_ pp e wt B.1 pa fd)).2.2.2.2.2.2.2.2.1.2.1 from fun h => ce ((le_b1 (by omega) (by omega)).mp h))]
          rw [List.range'_succ, List.flatMap_cons, List.foldl_append]
          by_cases cx : x ∈ pre
          · rw [if_neg (fun h => (hU.2 x (by omega)).mp h cx), if_pos cx, List.foldl_nil, lt_eq, nI_1 x]
            exact ihk (x + 1) g B b pa fd (by omega) (by omega) ha hB hb hG
          · obtain ⟨sx, sx4, sx8, esx⟩ := shop_of (hE.2.2 x (by omega))
            obtain ⟨u1, u2⟩ := uok_s hU (show x < 6 by omega)
            obtain ⟨r, b1, m1, m2, m3⟩ := me_ok fu hfu hM hl hE hR hp (show x < n by omega) h7 hB
            have hcs := hC.2 x (by omega)
            have hs1 : eS m N (nI pp) x s = eL m N (nI pp) (pre ++ [x]) s0 := by
              rw [eL_app, ← hs]; rfl
            obtain ⟨b2, pa2, fd2, i1, i2, i3, i4, i5⟩ := ih D (pre ++ [x]) (U ||| 2 ^ x) (eS m N (nI pp) x s) B b1 (upd pa pre.length (nI x)) fd (by rw [List.length_append, List.length_singleton]; omega) (by omega) u2 (fun y hy => by
              rcases List.mem_append.mp hy with h | h
              · exact hx y h
              · rw [List.mem_singleton] at h; omega) hs1 (arr_snoc ha x) (eS_ok hM hE hp (show x < n by omega) h7) m2 hb hG
            rw [List.length_append, List.length_singleton] at i1 i5
            have ha2 : Arr_ pa2 pre := fun i hi => by
              rw [i5 i (by omega), pk_un (by omega)]
              exact ha i hi
            have hB2 := board_restore (show pp < 8 by omega) sx8 esx hlt hB i2
            obtain ⟨b3, pa3, fd3, j1, j2, j3, j4, j5⟩ := ihk (x + 1) g ((dfs n d (pre ++ [x])).foldl (stO (fun p => V (eL m N (nI pp) p s0))) B) (vp_updL (vp_updL b2.1 pp (b.1 pp)) sx (b.1 sx), b2.2) pa2 fd2 (by omega) (by omega) ha2 hB2 i4 i3
            rw [if_pos ((hU.2 x (by omega)).mpr cx), if_neg cx]
            refine ⟨b3, pa3, fd3, ?_, j2, j3, j4, fun i hi => by rw [j5 i hi, i5 i (by omega), pk_un (by omega)]⟩
            rw [← j1]
            -- the class' way
            have ps : (wS c b (tt_ pp e wt B.1 pa fd)).1.2.2.2.2.2.1 x = nI sx := hcs.1.trans esx
            have pu : (wS c b (tt_ pp e wt B.1 pa fd)).1.2.2.2.2.2.2 x = m.2.1.2.1 x := hcs.2
            have pt : (wS c b (tt_ pp e wt B.1 pa fd)).2.2.2.2.2.2.2.2.1.1 = nI pp := rfl
            rw [esx] at m1
            have m1' : rr_X1_meetsEvenly fu (nI pp) (nI sx) (m.2.1.2.1 x) (wS c b (tt_ pp e wt B.1 pa fd)).2.2.2.2.2.2.1 (wS c b (tt_ pp e wt B.1 pa fd)).2.2.2.1 = some (r, b1) := m1
            rw [ck_in (show x < 6 by omega) (by omega), nI_clamp (show x < 2 ^ 31 by omega), ps, pu, pt, lt_eq, ck_in (show pp < 8 by omega) (by omega), lt_eq, ck_in sx8 (by omega), lt_eq, ck_in (show x < 6 by omega) (by omega), m1', Option.bind_some, ck_in (show pre.length < 6 by omega) (by omega), nI_clamp (show pp < 2 ^ 31 by omega), nI_clamp (show sx < 2 ^ 31 by omega), nI_clamp (show pre.length < 2 ^ 31 by omega), u1]
            have e207 : ∀ w0 : Int32, w0 = nI (eS m N (nI pp) x s).2 → rr_X9_seek_207 fu (rr_X9_seek fu D) (rr_X9_seek_59 fu (rr_X9_seek fu D) g) (nI pre.length) (nI U) (nI s.2) (nI n) (nI x) (nI sx) (b.1 pp) (b.1 sx) w0 (nI (U ||| 2 ^ x)) (nI pre.length + 1) (wS c b1 (tt_ pp e wt B.1 (upd pa pre.length (nI x)) fd)) = rr_X9_seek_59 fu (rr_X9_seek fu D) g (nI pre.length) (nI U) (nI s.2) (nI n) (nI (x + 1)) (wS c (vp_updL (vp_updL b2.1 pp (b.1 pp)) sx (b.1 sx), b2.2) (tt_ pp e wt ((dfs n d (pre ++ [x])).foldl (stO (fun p => V (eL m N (nI pp) p s0))) B).1 pa2 fd2)) := by
              intro w0 hw
              unfold rr_X9_seek_207 rr_X9_seek_239
              rw [hw, nI_1, i1, Option.bind_some]
              have pt2 : (wS c b2 (tt_ pp e wt ((dfs n d (pre ++ [x])).foldl (stO (fun p => V (eL m N (nI pp) p s0))) B).1 pa2 fd2)).2.2.2.2.2.2.2.2.1.1 = nI pp := rfl
              rw [pt2, ck_in (show pp < 8 by omega) (by omega), ck_in sx8 (by omega), lt_eq, nI_1 x, nI_clamp (show pp < 2 ^ 31 by omega), nI_clamp (show sx < 2 ^ 31 by omega)]
            rcases m3 with ⟨r0, e0⟩ | ⟨r1, e1⟩
            · rw [if_pos (show (r, b1).1 = 0 from r0)]
              exact e207 (nI s.2) (by rw [e0])
            · rw [if_neg (show ¬ (r, b1).1 = 0 from r1)]
              exact e207 (nI s.2 + 1) (by rw [e1, nI_1])
    rcases v2 (s.2 + n - pre.length) B.1 (tt_ pp e wt B.1 pa fd) (by omega) (by omega) rfl rfl with g1 | ⟨g1, g2, g3⟩
    · have g1' : rr_X7_mayGetBetter fu (nI (s.2 + n - pre.length)) (wS c b (tt_ pp e wt B.1 pa fd)).2.2.2.2.2.2.2.2.1 = some (1 : Int32) := g1
      rw [g1', Option.bind_some, if_neg (show ¬ (1 : Int32) = 0 by decide)]
      have hc1 : (wS c b (tt_ pp e wt B.1 pa fd)).1.2.2.2.1 = nI n := hC.1
      rw [hc1]
      exact inner n 0 fu B b pa fd (by omega) (by omega) ha hB hb hG
    · have g1' : rr_X7_mayGetBetter fu (nI (s.2 + n - pre.length)) (wS c b (tt_ pp e wt B.1 pa fd)).2.2.2.2.2.2.2.2.1 = some (0 : Int32) := g1
      rw [g1', Option.bind_some, if_pos rfl, stO_skip _ B (fun p hpm => by
        obtain ⟨q, eq, lq⟩ := dfs_mem _ _ _ hpm
        have h2 := eL_le (m := m) (N := N) (p := nI pp) q s
        have h3 := g3 (eL m N (nI pp) p s0)
        have h4 : eL m N (nI pp) p s0 = eL m N (nI pp) q s := by rw [eq, eL_app, ← hs]
        show V (eL m N (nI pp) p s0) + 1 ≤ B.1
        rw [h4] at h3 ⊢
        omega)]
      exact ⟨b, pa, fd, rfl, hB, hG, hb, fun _ _ => rfl⟩
