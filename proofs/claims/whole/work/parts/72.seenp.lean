-- ===== what was seen: an order judged =====
def jd (wv : Nat → Nat) (sum : Nat) : List Nat → Nat → Nat → Nat × Nat
  | [], t, g => (t, g)
  | x :: r, t, g => if sum ≤ g then (t, g) else jd wv sum r (t + 1) (g + wv x)
def sn (wv : Nat → Nat) (sum ch : Nat) : Nat → List Nat → Nat → Bool
  | 0, _, g => decide (g = sum + ch)
  | _ + 1, [], _ => false
  | c + 1, x :: r, g => if sum ≤ g then false else sn wv sum ch c r (g + wv x)
theorem jd_bd {wv : Nat → Nat} {sum n : Nat} (hw : ∀ j, j < n → wv j ≤ 99) : ∀ (p : List Nat) (t g : Nat), (∀ x ∈ p, x < n) → t ≤ (jd wv sum p t g).1 ∧ (jd wv sum p t g).1 ≤ t + p.length ∧ (jd wv sum p t g).2 ≤ g + 99 * p.length := by
  intro p
  induction p with
  | nil => intro t g _; exact ⟨Nat.le_refl t, Nat.le_refl t, Nat.le_refl g⟩
  | cons x r ih =>
    intro t g hx
    unfold jd
    rw [List.length_cons]
    by_cases c : sum ≤ g
    · rw [if_pos c]; exact ⟨Nat.le_refl t, by show t ≤ _; omega, by show g ≤ _; omega⟩
    · rw [if_neg c]
      obtain ⟨h1, h2, h3⟩ := ih (t + 1) (g + wv x) (fun y hy => hx y (List.mem_cons_of_mem _ hy))
      have := hw x (hx x List.mem_cons_self)
      exact ⟨by omega, by omega, by omega⟩
theorem jd_ge {wv : Nat → Nat} {sum : Nat} : ∀ (p : List Nat) (t g : Nat), t ≤ (jd wv sum p t g).1 ∧ (jd wv sum p t g).1 ≤ t + p.length := by
  intro p
  induction p with
  | nil => intro t g; exact ⟨Nat.le_refl t, Nat.le_refl t⟩
  | cons x r ih =>
    intro t g
    unfold jd
    rw [List.length_cons]
    by_cases c : sum ≤ g
    · rw [if_pos c]; exact ⟨Nat.le_refl t, by show t ≤ _; omega⟩
    · rw [if_neg c]
      obtain ⟨h1, h2⟩ := ih (t + 1) (g + wv x)
      exact ⟨by omega, by omega⟩
theorem jd_sn {wv : Nat → Nat} {sum ch : Nat} : ∀ (p : List Nat) (c t g : Nat), c ≤ p.length → (jd wv sum p t g = (t + c, sum + ch) ↔ sn wv sum ch c p g = true) := by
  intro p
  induction p with
  | nil =>
    intro c t g hc
    have : c = 0 := by have : c ≤ 0 := hc; omega
    subst this
    unfold jd sn
    rw [decide_eq_true_iff, Prod.mk.injEq]
    constructor
    · intro h; exact h.2
    · intro h; exact ⟨rfl, h⟩
  | cons x r ih =>
    intro c t g hc
    cases c with
    | zero =>
      unfold jd sn
      rw [decide_eq_true_iff]
      by_cases q : sum ≤ g
      · rw [if_pos q, Prod.mk.injEq]
        constructor
        · intro h; exact h.2
        · intro h; exact ⟨rfl, h⟩
      · rw [if_neg q]
        constructor
        · intro h
          have := (jd_ge (wv := wv) (sum := sum) r (t + 1) (g + wv x)).1
          rw [h] at this
          have h2 : t + 1 ≤ t + 0 := this
          omega
        · intro h; omega
    | succ c =>
      unfold jd sn
      by_cases q : sum ≤ g
      · rw [if_pos q, if_pos q, Prod.mk.injEq]
        constructor
        · intro h; have := h.1; omega
        · intro h; exact absurd h (by decide)
      · rw [if_neg q, if_neg q, ← ih c (t + 1) (g + wv x) (by rw [List.length_cons] at hc; omega), show t + 1 + c = t + (c + 1) by omega]
/-- one order more -/
def stS (P : List Nat → Bool) (s : Nat × List Nat) (p : List Nat) : Nat × List Nat := if P p = true then (s.1 + 1, if s.1 = 0 then p else s.2) else s
theorem stS_le {P : List Nat → Bool} : ∀ (L : List (List Nat)) (s : Nat × List Nat), (L.foldl (stS P) s).1 ≤ s.1 + L.length := by
  intro L
  induction L with
  | nil => intro s; exact Nat.le_refl _
  | cons p r ih =>
    intro s
    rw [List.foldl_cons, List.length_cons]
    have h := ih (stS P s p)
    have h2 : (stS P s p).1 ≤ s.1 + 1 := by
      unfold stS
      split
      · exact Nat.le_refl _
      · omega
    omega
/-- the first order that fits is kept -/
def GI (n : Nat) (fs : Nat → Int32) (s : Nat × List Nat) : Prop := s.1 ≠ 0 → s.2.length = n ∧ Arr_ fs s.2
abbrev wG (u : ZT_3) (fs : Nat → Int32) (fd : Int32) (pa : Nat → Int32) : ZT_3 := (u.1, fs, fd, pa, u.2.2.2.2)
/-- the guess' numbers -/
def GU (u : ZT_3) (wv : Nat → Nat) (n sum paid ch : Nat) : Prop := (∀ j, j < n → u.1 j = nI (wv j) ∧ wv j ≤ 99) ∧ u.2.2.2.2.1 = nI n ∧ u.2.2.2.2.2.1 = nI sum ∧ u.2.2.2.2.2.2.1 = nI paid ∧ u.2.2.2.2.2.2.2 = nI ch ∧ n ≤ 4 ∧ sum ≤ 999 ∧ paid ≤ 4 ∧ ch ≤ 99
theorem jg71 (fu : Nat) {u : ZT_3} {wv : Nat → Nat} {n sum paid ch : Nat} (hu : GU u wv n sum paid ch) (fd : Int32) (pa : Nat → Int32) : ∀ (d k f : Nat) (fs : Nat → Int32), k + d = n → d < f → (∀ i, i < k → fs i = pa i) → ∃ fs' : Nat → Int32, rr_X3_judge_71 fu f (nI k) (wG u fs fd pa) = some (wG u fs' (fd + 1) pa) ∧ ∀ i, i < n → fs' i = pa i := by
  obtain ⟨_, h1, _, _, _, h4, _⟩ := hu
  intro d
  induction d with
  | zero =>
    intro k f fs hk hf hz
    obtain ⟨f, rfl⟩ : ∃ q, f = q + 1 := ⟨f - 1, by omega⟩
    have e9 : rr_X3_judge_71 fu (f + 1) = rr_X3_judge_71_b fu (rr_X3_judge_71 fu f) := rfl
    rw [e9]
    unfold rr_X3_judge_71_b rr_X3_judge_97
    refine ⟨fs, ?_, fun i hi => hz i (by omega)⟩
    show (if u.2.2.2.2.1 ≤ nI k then lt_ (α := Int32) (fd + 1) (fun z14 => some (wG u fs z14 pa)) else _) = _
    rw [h1, if_pos (nI_le (by omega) (by omega)), lt_eq]
  | succ d ih =>
    intro k f fs hk hf hz
    obtain ⟨f, rfl⟩ : ∃ q, f = q + 1 := ⟨f - 1, by omega⟩
    have e9 : rr_X3_judge_71 fu (f + 1) = rr_X3_judge_71_b fu (rr_X3_judge_71 fu f) := rfl
    rw [e9]
    unfold rr_X3_judge_71_b
    show ∃ fs', (if u.2.2.2.2.1 ≤ nI k then _ else ck_ (nI k) 4 (lt_ (α := Int32) (pa (nI k).toNatClampNeg) (fun z18 => ck_ (nI k) 4 (lt_ (α := Int32) (nI k + 1) (fun z20 => rr_X3_judge_71 fu f z20 (wG u (upd fs (nI k).toNatClampNeg z18) fd pa)))))) = _ ∧ _
    rw [h1, if_neg (nI_ge (by omega) (by omega)), ck_in (show k < 4 by omega) (by omega), lt_eq, ck_in (show k < 4 by omega) (by omega), lt_eq, nI_1, nI_clamp (show k < 2 ^ 31 by omega)]
    refine ih (k + 1) f (upd fs k (pa k)) (by omega) (by omega) (fun i hi => ?_)
    by_cases e : i = k
    · subst e; rw [pk_us]
    · rw [pk_un e]; exact hz i (by omega)
theorem jg4 (fu : Nat) {u : ZT_3} {wv : Nat → Nat} {n sum paid ch : Nat} (hu : GU u wv n sum paid ch) (fs : Nat → Int32) (fd : Int32) {pa : Nat → Int32} {p : List Nat} (hlen : p.length = n) (hp : ∀ x ∈ p, x < n) (ha : Arr_ pa p) : ∀ (d t f g : Nat), t + d = n → d < f → g ≤ 99 * t → rr_X3_judge_4 fu f (nI t) (nI g) (wG u fs fd pa) = rr_X3_judge_40 fu (nI (jd wv sum (p.drop t) t g).1) (nI (jd wv sum (p.drop t) t g).2) (wG u fs fd pa) := by
  obtain ⟨h0, h1, h2, h3, h3', h4, h5, _⟩ := hu
  intro d
  induction d with
  | zero =>
    intro t f g ht hf hg
    obtain ⟨f, rfl⟩ : ∃ q, f = q + 1 := ⟨f - 1, by omega⟩
    have e9 : rr_X3_judge_4 fu (f + 1) = rr_X3_judge_4_b fu (rr_X3_judge_4 fu f) := rfl
    rw [e9]
    unfold rr_X3_judge_4_b
    show (if u.2.2.2.2.1 ≤ nI t then rr_X3_judge_40 fu (nI t) (nI g) (wG u fs fd pa) else _) = _
    rw [h1, if_pos (nI_le (by omega) (by omega)), List.drop_eq_nil_of_le (by omega)]
    rfl
  | succ d ih =>
    intro t f g ht hf hg
    obtain ⟨f, rfl⟩ : ∃ q, f = q + 1 := ⟨f - 1, by omega⟩
    have e9 : rr_X3_judge_4 fu (f + 1) = rr_X3_judge_4_b fu (rr_X3_judge_4 fu f) := rfl
    rw [e9]
    unfold rr_X3_judge_4_b
    show (if u.2.2.2.2.1 ≤ nI t then _ else (if u.2.2.2.2.2.1 ≤ nI g then rr_X3_judge_40 fu (nI t) (nI g) (wG u fs fd pa) else ck_ (nI t) 4 (ck_ (pa (nI t).toNatClampNeg) 4 (lt_ (α := Int32) (nI g + u.1 (pa (nI t).toNatClampNeg).toNatClampNeg) (fun z7 => lt_ (α := Int32) (nI t + 1) (fun z9 => rr_X3_judge_4 fu f z9 z7 (wG u fs fd pa))))))) = _
    rw [h1, if_neg (nI_ge (by omega) (by omega)), h2, drop_at (show t < p.length by omega)]
    unfold jd
    by_cases c : sum ≤ g
    · rw [if_pos (nI_le c (by omega)), if_pos c]
    · have hx := getD_lt hlen hp t (by omega)
      rw [if_neg (nI_ge (by omega) (by omega)), if_neg c, ck_in (show t < 4 by omega) (by omega), nI_clamp (show t < 2 ^ 31 by omega), ha t (by omega), ck_in (show p.getD t 0 < 4 by omega) (by omega), nI_clamp (show p.getD t 0 < 2 ^ 31 by omega), (h0 _ hx).1, nI_add, lt_eq, lt_eq, nI_1]
      have := (h0 _ hx).2
      exact ih (t + 1) f (g + wv (p.getD t 0)) (by omega) (by omega) (by omega)
abbrev PS (wv : Nat → Nat) (sum paid ch : Nat) (p : List Nat) : Bool := decide (jd wv sum p 0 0 = (paid, sum + ch))
theorem judge_ok (fu : Nat) (hfu : 100 ≤ fu) {u : ZT_3} {wv : Nat → Nat} {n sum paid ch : Nat} (hu : GU u wv n sum paid ch) {fs : Nat → Int32} {s : Nat × List Nat} {pa : Nat → Int32} {p : List Nat} (hlen : p.length = n) (hp : ∀ x ∈ p, x < n) (ha : Arr_ pa p) (hG : GI n fs s) (hs : s.1 < 2 ^ 31) : ∃ fs' : Nat → Int32, rr_X3_judge fu (wG u fs (nI s.1) pa) = some (wG u fs' (nI (stS (PS wv sum paid ch) s p).1) pa) ∧ GI n fs' (stS (PS wv sum paid ch) s p) := by
  have hu' := hu
  obtain ⟨h0, h1, h2, h3, h3', h4, h5, h6, h7⟩ := hu
  have e0 : rr_X3_judge fu (wG u fs (nI s.1) pa) = rr_X3_judge_40 fu (nI (jd wv sum p 0 0).1) (nI (jd wv sum p 0 0).2) (wG u fs (nI s.1) pa) := jg4 fu hu' fs (nI s.1) hlen hp ha n 0 fu 0 (by omega) (by omega) (by omega)
  obtain ⟨_, b1, b2⟩ := jd_bd (sum := sum) (fun j hj => (h0 j hj).2) p 0 0 hp
  rw [e0]
  unfold rr_X3_judge_40 stS
  have ew : ∀ (x y : Option ZT_3), (if nI (jd wv sum p 0 0).1 = (wG u fs (nI s.1) pa).2.2.2.2.2.2.1 then (if nI (jd wv sum p 0 0).2 - (wG u fs (nI s.1) pa).2.2.2.2.2.1 = (wG u fs (nI s.1) pa).2.2.2.2.2.2.2 then x else y) else y) = (if PS wv sum paid ch p = true then x else y) := by
    intro x y
    show (if nI (jd wv sum p 0 0).1 = u.2.2.2.2.2.2.1 then (if nI (jd wv sum p 0 0).2 - u.2.2.2.2.2.1 = u.2.2.2.2.2.2.2 then x else y) else y) = _
    rw [h2, h3, h3']
    have q1 : (nI (jd wv sum p 0 0).1 = nI paid) ↔ (jd wv sum p 0 0).1 = paid := nI_eq (by omega) (by omega)
    have q2 : (nI (jd wv sum p 0 0).2 - nI sum = nI ch) ↔ (jd wv sum p 0 0).2 = sum + ch := by
      rw [Int32.sub_eq_iff_eq_add, nI_add, nI_eq (by omega) (by omega), Nat.add_comm]
    have q3 : (PS wv sum paid ch p = true) ↔ ((jd wv sum p 0 0).1 = paid ∧ (jd wv sum p 0 0).2 = sum + ch) := by
      rw [decide_eq_true_iff, Prod.ext_iff]
    by_cases c1 : (jd wv sum p 0 0).1 = paid
    · rw [if_pos (q1.mpr c1)]
      by_cases c2 : (jd wv sum p 0 0).2 = sum + ch
      · rw [if_pos (q2.mpr c2), if_pos (q3.mpr ⟨c1, c2⟩)]
      · rw [if_neg (fun h => c2 (q2.mp h)), if_neg (fun h => c2 (q3.mp h).2)]
    · rw [if_neg (fun h => c1 (q1.mp h)), if_neg (fun h => c1 (q3.mp h).1)]
  rw [ew]
  by_cases c : PS wv sum paid ch p = true
  · rw [if_pos c, if_pos c]
    by_cases z : s.1 = 0
    · rw [if_pos (show (wG u fs (nI s.1) pa).2.2.1 = 0 by show nI s.1 = 0; rw [z]; rfl), if_pos z]
      obtain ⟨fs', f1, f2⟩ := jg71 fu hu' (nI s.1) pa n 0 fu fs (by omega) (by omega) (fun i hi => absurd hi (by omega))
      refine ⟨fs', ?_, fun _ => ⟨hlen, fun i hi => by have hi' : i < p.length := hi; rw [f2 i (by omega)]; exact ha i hi'⟩⟩
      rw [nI_1] at f1
      exact f1
    · rw [if_neg (show ¬ (wG u fs (nI s.1) pa).2.2.1 = 0 from nI_ne0 (by omega) hs), if_neg z]
      unfold rr_X3_judge_97
      refine ⟨fs, ?_, fun _ => hG z⟩
      rw [lt_eq]
      show some (wG u fs (nI s.1 + 1) pa) = _
      rw [nI_1]
  · rw [if_neg c, if_neg c]
    exact ⟨fs, rfl, hG⟩
theorem ar_ok (fu : Nat) (hfu : 100 ≤ fu) {u : ZT_3} {wv : Nat → Nat} {n sum paid ch : Nat} (hu : GU u wv n sum paid ch) : ∀ (d D : Nat) (pre : List Nat) (U : Nat) (s : Nat × List Nat) (fs pa : Nat → Int32), pre.length + d = n → d < D → UOK U pre → (∀ x ∈ pre, x < n) → Arr_ pa pre → GI n fs s → s.1 + (dfs n d pre).length < 2 ^ 31 → ∃ fs' pa' : Nat → Int32, rr_X3_arrange fu D (nI pre.length) (nI U) (wG u fs (nI s.1) pa) = some (wG u fs' (nI ((dfs n d pre).foldl (stS (PS wv sum paid ch)) s).1) pa') ∧ GI n fs' ((dfs n d pre).foldl (stS (PS wv sum paid ch)) s) ∧ ∀ i, i < pre.length → pa' i = pa i := by
  have hu' := hu
  obtain ⟨h0, h1, h2, h3, h3', h4, h5, h6, h7⟩ := hu
  intro d
  induction d with
  | zero =>
    intro D pre U s fs pa hl hD hU hx ha hG hb
    obtain ⟨D, rfl⟩ : ∃ q, D = q + 1 := ⟨D - 1, by omega⟩
    have e9 : rr_X3_arrange fu (D + 1) = rr_X3_arrange_b fu (rr_X3_arrange fu D) := rfl
    rw [e9]
    unfold rr_X3_arrange_b rr_X3_arrange_13
    obtain ⟨fs', f1, f2⟩ := judge_ok fu hfu hu' (show pre.length = n by omega) hx ha hG (by omega)
    refine ⟨fs', pa, ?_, f2, fun _ _ => rfl⟩
    rw [if_pos (show (wG u fs (nI s.1) pa).2.2.2.2.1 ≤ nI pre.length by show u.2.2.2.2.1 ≤ _; rw [h1]; exact nI_le (by omega) (by omega)), f1, Option.bind_some]
    rfl
  | succ d ih =>
    intro D pre U s fs pa hl hD hU hx ha hG hb
    obtain ⟨D, rfl⟩ : ∃ q, D = q + 1 := ⟨D - 1, by omega⟩
    have e9 : rr_X3_arrange fu (D + 1) = rr_X3_arrange_b fu (rr_X3_arrange fu D) := rfl
    rw [e9]
    unfold rr_X3_arrange_b
    rw [if_neg (show ¬ (wG u fs (nI s.1) pa).2.2.2.2.1 ≤ nI pre.length by show ¬ u.2.2.2.2.1 ≤ _; rw [h1]; exact nI_ge (by omega) (by omega)), if_pos (show nI pre.length < (4 : Int32) from nI_lt (b := 4) (by omega) (by omega))]
    have inner : ∀ (k x g : Nat) (s : Nat × List Nat) (fs pa : Nat → Int32), x + k = n → k < g → Arr_ pa pre → GI n fs s → s.1 + ((List.range' x k).flatMap (fun x => if x ∈ pre then [] else dfs n d (pre ++ [x]))).length < 2 ^ 31 → ∃ fs' pa' : Nat → Int32, rr_X3_arrange_20 fu (rr_X3_arrange fu D) g (nI pre.length) (nI U) (nI x) (wG u fs (nI s.1) pa) = some (wG u fs' (nI (((List.range' x k).flatMap (fun x => if x ∈ pre then [] else dfs n d (pre ++ [x]))).foldl (stS (PS wv sum paid ch)) s).1) pa') ∧ GI n fs' (((List.range' x k).flatMap (fun x => if x ∈ pre then [] else dfs n d (pre ++ [x]))).foldl (stS (PS wv sum paid ch)) s) ∧ ∀ i, i < pre.length → pa' i = pa i := by
      intro k
      induction k with
      | zero =>
        intro x g s fs pa hxk hg ha hG hb
        obtain ⟨g, rfl⟩ : ∃ q, g = q + 1 := ⟨g - 1, by omega⟩
        have e9 : rr_X3_arrange_20 fu (rr_X3_arrange fu D) (g + 1) = rr_X3_arrange_20_b fu (rr_X3_arrange fu D) (rr_X3_arrange_20 fu (rr_X3_arrange fu D) g) := rfl
        rw [e9]
        unfold rr_X3_arrange_20_b
        refine ⟨fs, pa, ?_, hG, fun _ _ => rfl⟩
        rw [if_pos (show (wG u fs (nI s.1) pa).2.2.2.2.1 ≤ nI x by show u.2.2.2.2.1 ≤ _; rw [h1]; exact nI_le (by omega) (by omega))]
        rfl
      | succ k ihk =>
        intro x g s fs pa hxk hg ha hG hb
        obtain ⟨g, rfl⟩ : ∃ q, g = q + 1 := ⟨g - 1, by omega⟩
        have e9 : rr_X3_arrange_20 fu (rr_X3_arrange fu D) (g + 1) = rr_X3_arrange_20_b fu (rr_X3_arrange fu D) (rr_X3_arrange_20 fu (rr_X3_arrange fu D) g) := rfl
        rw [e9]
        unfold rr_X3_arrange_20_b rr_X3_arrange_55
        rw [List.range'_succ, List.flatMap_cons, List.length_append] at hb
        rw [List.range'_succ, List.flatMap_cons, List.foldl_append]
        rw [if_neg (show ¬ (wG u fs (nI s.1) pa).2.2.2.2.1 ≤ nI x by show ¬ u.2.2.2.2.1 ≤ _; rw [h1]; exact nI_ge (by omega) (by omega)), lt_eq, nI_1]
        by_cases c : x ∈ pre
        · rw [if_neg (fun h => (hU.2 x (by omega)).mp h c), if_pos c, List.foldl_nil, nI_1 x]
          rw [if_pos c] at hb
          exact ihk (x + 1) g s fs pa (by omega) (by omega) ha hG (by rw [List.length_nil] at hb; omega)
        · rw [if_pos ((hU.2 x (by omega)).mpr c), if_neg c, ck_in (show pre.length < 4 by omega) (by omega)]
          rw [if_neg c] at hb
          obtain ⟨u1, u2⟩ := uok_s hU (show x < 6 by omega)
          rw [u1]
          obtain ⟨fs', pa', f1, f2, f3⟩ := ih D (pre ++ [x]) (U ||| 2 ^ x) s fs (upd pa pre.length (nI x)) (by rw [List.length_append, List.length_singleton]; omega) (by omega) u2 (fun y hy => by
            rcases List.mem_append.mp hy with h | h
            · exact hx y h
            · rw [List.mem_singleton] at h; omega) (arr_snoc ha x) hG (by omega)
          rw [List.length_append, List.length_singleton] at f1 f3
          have f1' : rr_X3_arrange fu D (nI (pre.length + 1)) (nI (U ||| 2 ^ x)) (u.1, fs, nI s.1, upd pa (nI pre.length).toNatClampNeg (nI x), u.2.2.2.2) = some (wG u fs' (nI ((dfs n d (pre ++ [x])).foldl (stS (PS wv sum paid ch)) s).1) pa') := by
            rw [nI_clamp (show pre.length < 2 ^ 31 by omega)]
            exact f1
          rw [nI_1, f1', Option.bind_some, lt_eq]
          have ha' : Arr_ pa' pre := fun i hi => by
            rw [f3 i (by omega), pk_un (by omega)]
            exact ha i hi
          have hle := stS_le (P := PS wv sum paid ch) (dfs n d (pre ++ [x])) s
          obtain ⟨fs2, pa2, g1, g2, g3⟩ := ihk (x + 1) g ((dfs n d (pre ++ [x])).foldl (stS (PS wv sum paid ch)) s) fs' pa' (by omega) (by omega) ha' f2 (by omega)
          refine ⟨fs2, pa2, g1, g2, fun i hi => ?_⟩
          rw [g3 i hi, f3 i (by omega), pk_un (by omega)]
    exact inner n 0 fu s fs pa (by omega) (by omega) ha hG hb
