-- ===== a bill: what is paid, what is given back =====
def payL (wo : Nat → Int32) (sum : Int32) : List Nat → Int32 → List Nat × Int32
  | [], w => ([], w)
  | c :: t, w => if sum ≤ w then ([], w) else (c :: (payL wo sum t (w + wo c)).1, (payL wo sum t (w + wo c)).2)
def bkL (wo : Nat → Int32) : List Nat → Int32 → List Nat × Int32
  | [], f => ([], f)
  | c :: t, f => if f ≤ 0 then ([], f) else if f < wo c then bkL wo t f else (c :: (bkL wo t (f - wo c)).1, (bkL wo t (f - wo c)).2)
abbrev bitL (c : Nat) : Int64 := (1 : Int64) <<< ((nI c).toInt64 &&& 63)
def orB : List Nat → Int64 → Int64
  | [], p => p
  | c :: t, p => orB t (p ||| bitL c)
theorem tb_orB : ∀ (L : List Nat) (p : Int64) (i : Nat), (∀ c ∈ L, c < 64) → tb_ (orB L p) i = (tb_ p i || decide (i ∈ L)) := by
  intro L
  induction L with
  | nil => intro p i _; show tb_ p i = _; simp
  | cons c t ih =>
    intro p i h
    show tb_ (orB t (p ||| bitL c)) i = _
    rw [ih _ i (fun x hx => h x (List.mem_cons_of_mem _ hx)), tb_or, tb_bit (h c List.mem_cons_self), Bool.or_assoc, ← Bool.decide_or]
    congr 1
    exact decide_eq_decide.mpr List.mem_cons.symm
theorem payL_sub {wo : Nat → Int32} {sum : Int32} : ∀ (L : List Nat) (w : Int32) (c : Nat), c ∈ (payL wo sum L w).1 → c ∈ L := by
  intro L
  induction L with
  | nil => intro w c h; exact h
  | cons a t ih =>
    intro w c h
    unfold payL at h
    by_cases e : sum ≤ w
    · rw [if_pos e] at h; exact absurd h List.not_mem_nil
    · rw [if_neg e] at h
      rcases List.mem_cons.mp h with h1 | h1
      · exact List.mem_cons.mpr (Or.inl h1)
      · exact List.mem_cons_of_mem _ (ih _ c h1)
theorem bkL_sub {wo : Nat → Int32} : ∀ (L : List Nat) (w : Int32) (c : Nat), c ∈ (bkL wo L w).1 → c ∈ L := by
  intro L
  induction L with
  | nil => intro w c h; exact h
  | cons a t ih =>
    intro w c h
    unfold bkL at h
    by_cases e : w ≤ 0
    · rw [if_pos e] at h; exact absurd h List.not_mem_nil
    · rw [if_neg e] at h
      by_cases e2 : w < wo a
      · rw [if_pos e2] at h; exact List.mem_cons_of_mem _ (ih _ c h)
      · rw [if_neg e2] at h
        rcases List.mem_cons.mp h with h1 | h1
        · exact List.mem_cons.mpr (Or.inl h1)
        · exact List.mem_cons_of_mem _ (ih _ c h1)
theorem payR_payL {wa wo : Nat → Int32} {l : List Nat} {sum : Int32} : ∀ (rs : List Nat) (w : Int32), (∀ r ∈ rs, wa r = wo (l.getD r 0)) → ∃ pre, rs = pre ++ (payR wa sum rs w).1 ∧ pre.map (fun r => l.getD r 0) = (payL wo sum (rs.map (fun r => l.getD r 0)) w).1 ∧ (payR wa sum rs w).2 = (payL wo sum (rs.map (fun r => l.getD r 0)) w).2 := by
  intro rs
  induction rs with
  | nil => intro w _; exact ⟨[], rfl, rfl, rfl⟩
  | cons a t ih =>
    intro w h
    rw [List.map_cons]
    unfold payR payL
    by_cases e : sum ≤ w
    · rw [if_pos e, if_pos e]; exact ⟨[], rfl, rfl, rfl⟩
    · rw [if_neg e, if_neg e]
      obtain ⟨pre, p1, p2, p3⟩ := ih (w + wo (l.getD a 0)) (fun r hr => h r (List.mem_cons_of_mem _ hr))
      rw [h a List.mem_cons_self]
      refine ⟨a :: pre, ?_, ?_, p3⟩
      · rw [List.cons_append, ← p1]
      · rw [List.map_cons, p2]
/-- what the class takes out of a purse -/
theorem r1_takeOut (fu : Nat) (hfu : 100 ≤ fu) {m : ZT_10} {N : Nat} (hM : MOK m N) {law : Int32} {rk : ZT_4} {l : List Nat} (hR : RankOK rk (keyM m law) m.1.1 law N l) {b : ZT_1} (hB : BoardOK b.1 m.1.2.2.2.2.1 N l) {p : Nat} (hp : p < 8) (sum : Int32) : ∃ P : Int64, rr_X1_takeOut fu (b.1 p) sum b rk = some ((payL m.1.1 sum (rowM m law (nI p) N) 0).2, (b.1, P, b.2.2)) ∧ ∀ r, r < 64 → tb_ P r = decide (r < N ∧ l.getD r 0 ∈ (payL m.1.1 sum (rowM m law (nI p) N) 0).1) := by
  have hN := hM.2.1
  unfold rr_X1_takeOut
  have hset := board_set hB hp
  have hrr := row_ranks hM hR (nI p)
  have hrN : ∀ r ∈ (List.range N).filter (fun r => decide (m.1.2.2.2.2.1 (l.getD r 0) = nI p)), r < N := fun r hr => List.mem_range.mp (List.mem_filter.mp hr).1
  have hlen : ((List.range N).filter (fun r => decide (m.1.2.2.2.2.1 (l.getD r 0) = nI p))).length ≤ N := by
    have := List.length_filter_le (fun r => decide (m.1.2.2.2.2.1 (l.getD r 0) = nI p)) (List.range N)
    rw [List.length_range] at this
    exact this
  have hasc := range_asc N (fun r => decide (m.1.2.2.2.2.1 (l.getD r 0) = nI p))
  generalize (List.range N).filter (fun r => decide (m.1.2.2.2.2.1 (l.getD r 0) = nI p)) = rs at *
  obtain ⟨S', e1, hS'⟩ := take9 fu hN (rk := rk) (b.1 p) sum b rs 0 fu (b.1 p) 0 (by omega) (by omega) hset hasc hrN
  obtain ⟨pre, p1, p2, p3⟩ := payR_payL (wo := m.1.1) (sum := sum) rs 0 (fun r hr => hR.2.2.2.2.2.1 r (hrN r hr))
  rw [hrr] at p2 p3
  refine ⟨b.1 p &&& (S' ^^^ (-1 : Int64)), ?_, ?_⟩
  · rw [← p3]; exact e1
  · intro r hr
    rw [tb_and, tb_xor, tb_m1 hr, hset r hr, hS' r hr, ← p2]
    have hpre : (r < N ∧ l.getD r 0 ∈ pre.map (fun r => l.getD r 0)) ↔ r ∈ pre := by
      constructor
      · rintro ⟨h1, h2⟩
        obtain ⟨q, hq, e⟩ := List.mem_map.mp h2
        have hqN : q < N := hrN q (by rw [p1]; exact List.mem_append_left _ hq)
        have := rank_nd hR q r hqN h1 e
        rw [← this]; exact hq
      · intro h1
        exact ⟨hrN r (by rw [p1]; exact List.mem_append_left _ h1), List.mem_map.mpr ⟨r, h1, rfl⟩⟩
    have hpd : decide (r < N ∧ l.getD r 0 ∈ pre.map (fun r => l.getD r 0)) = decide (r ∈ pre) := decide_eq_decide.mpr hpre
    rw [hpd]
    rw [p1] at hasc
    have hdis := (List.pairwise_append.mp hasc).2.2
    have hm : r ∈ rs ↔ (r ∈ pre ∨ r ∈ (payR rk.2.2.1 sum rs 0).1) := by
      have := List.mem_append (a := r) (s := pre) (t := (payR rk.2.2.1 sum rs 0).1)
      rw [← p1] at this
      exact this
    by_cases h1 : r ∈ pre
    · have h2 : r ∉ (payR rk.2.2.1 sum rs 0).1 := fun h2 => by have := hdis r h1 r h2; omega
      have h3 : r ∈ rs := hm.mpr (Or.inl h1)
      simp [h1, h2, h3]
    · by_cases h2 : r ∈ (payR rk.2.2.1 sum rs 0).1
      · have h3 : r ∈ rs := hm.mpr (Or.inr h2)
        simp [h1, h2, h3]
      · have h3 : r ∉ rs := fun h => by rcases hm.mp h with h | h; exact h1 h; exact h2 h
        simp [h1, h2, h3]
/-- what the class gives back -/
theorem gb19 (fu : Nat) {m : ZT_10} {N : Nat} (hM : MOK m N) {law : Int32} (hl : 0 ≤ law ∧ law ≤ 3) {rk : ZT_4} {l : List Nat} (hR : RankOK rk (keyM m law) m.1.1 law N l) (hd : Nat → Int64) (pd : Int64) (du : Int32) : ∀ (L : List Nat) (k g : Nat) (S G : Int64) (f : Int32), k + L.length ≤ 40 → L.length < g → SetC S N l L → Srt_ (keyM m (law ^^^ 1)) L → (∀ c ∈ L, c < N) → ∃ G' : Int64, rr_X1_giveBack_19 fu rk g S (nI k) (hd, pd, G, du, f) = some (hd, pd, G', du, (bkL m.1.1 L f).2) ∧ ∀ r, r < 64 → tb_ G' r = (tb_ G r || decide (r < N ∧ l.getD r 0 ∈ (bkL m.1.1 L f).1)) := by
  have hN := hM.2.1
  intro L
  induction L with
  | nil =>
    intro k g S G f hk hg hS hs hr
    obtain ⟨g, rfl⟩ : ∃ q, g = q + 1 := ⟨g - 1, by simp at hg; omega⟩
    have e9 : rr_X1_giveBack_19 fu rk (g + 1) = rr_X1_giveBack_19_b fu rk (rr_X1_giveBack_19 fu rk g) := rfl
    rw [e9]
    unfold rr_X1_giveBack_19_b
    have hz : S = 0 := by
      apply tb_ext
      intro i hi
      rw [hS i hi, tb_0]
      simp
    refine ⟨G, ?_, fun r hr => ?_⟩
    · rw [if_pos (lc_eq.mpr hz)]
      show (if _ then _ else _) = some (hd, pd, G, du, f)
      split <;> rfl
    · show _ = (tb_ G r || decide (r < N ∧ l.getD r 0 ∈ []))
      have : ¬ (r < N ∧ l.getD r 0 ∈ ([] : List Nat)) := fun h => absurd h.2 List.not_mem_nil
      rw [decide_eq_false this, Bool.or_false]
  | cons a t ih =>
    intro k g S G f hk hg hS hs hr
    rw [List.length_cons] at hk hg
    obtain ⟨g, rfl⟩ : ∃ q, g = q + 1 := ⟨g - 1, by omega⟩
    have e9 : rr_X1_giveBack_19 fu rk (g + 1) = rr_X1_giveBack_19_b fu rk (rr_X1_giveBack_19 fu rk g) := rfl
    rw [e9]
    unfold rr_X1_giveBack_19_b rr_X1_giveBack_100
    obtain ⟨j, hjN, hja, j2, hne, hS2⟩ := back_step fu hM hl hR hS hs hr
    rw [if_neg (show ¬ (40 : Int32) ≤ nI k from nI_ge (b := 40) (by omega) (by omega)), if_neg (fun h => hne (lc_eq.mp h))]
    unfold bkL
    by_cases c1 : f ≤ 0
    · rw [if_pos (show (hd, pd, G, du, f).2.2.2.2 ≤ 0 from c1), if_pos c1]
      refine ⟨G, rfl, fun r hr => ?_⟩
      have : ¬ (r < N ∧ l.getD r 0 ∈ ([] : List Nat)) := fun h => absurd h.2 List.not_mem_nil
      rw [decide_eq_false this, Bool.or_false]
    · rw [if_neg (show ¬ (hd, pd, G, du, f).2.2.2.2 ≤ 0 from c1), if_neg c1, j2, Option.bind_some, lt_eq]
      have hwj : rk.2.2.1 j = m.1.1 a := by rw [hR.2.2.2.2.2.1 j hjN, hja]
      simp only [ck_in (show j < 64 by omega) (show 64 < 2 ^ 31 by omega), nI_clamp (show j < 2 ^ 31 by omega), hwj, lt_eq, nI_1]
      have hst : Srt_ (keyM m (law ^^^ 1)) t := (List.pairwise_cons.mp hs).2
      have hrt : ∀ c ∈ t, c < N := fun c hc => hr c (List.mem_cons_of_mem _ hc)
      by_cases c2 : f < m.1.1 a
      · rw [if_pos c2, if_pos c2]
        exact ih (k + 1) g _ G f (by omega) (by omega) hS2 hst hrt
      · rw [if_neg c2, if_neg c2]
        obtain ⟨G', i1, i2⟩ := ih (k + 1) g _ (G ||| bitL j) (f - m.1.1 a) (by omega) (by omega) hS2 hst hrt
        refine ⟨G', i1, fun r hr => ?_⟩
        rw [i2 r hr, tb_or, tb_bit (by omega), Bool.or_assoc, ← Bool.decide_or]
        congr 1
        apply decide_eq_decide.mpr
        rw [List.mem_cons]
        constructor
        · rintro (h | ⟨h1, h2⟩)
          · subst h; exact ⟨hjN, Or.inl hja⟩
          · exact ⟨h1, Or.inr h2⟩
        · rintro ⟨h1, h2 | h2⟩
          · exact Or.inl (rank_nd hR r j h1 hjN (by rw [h2, hja]))
          · exact Or.inr ⟨h1, h2⟩
