-- ===== film =====
def wrL (f : Nat → Int64) (p : Nat) : List Nat → (Nat → Int64)
  | [] => f
  | c :: t => wrL (vp_updL f p (lN c)) (p + 1) t
theorem sheetR_wr {sh : ZT_5} {la rs : Nat → Int32} {k : Nat} (hk : k < 4) : ∀ (t : List Nat) (p : Nat) (f g : Nat → Int64), p + t.length ≤ 24 → SheetR (sh.1, sh.2.1, f) la rs g → SheetR (sh.1, sh.2.1, wrL f (24 * k + p) t) la rs (wrL g (24 * k + p) t) := by
  intro t
  induction t with
  | nil => intro p f g _ h; exact h
  | cons c t ih =>
    intro p f g hp h
    rw [List.length_cons] at hp
    exact ih (p + 1) _ _ (by omega) (sheetR_put h hk (show p < 24 by omega) (lN c))
theorem cut_small : ∀ c, c < 40 → ((nI c).toInt64.toInt32.toInt8.toInt32.toInt64 = lN c ∧ (nI c).toInt64.toInt32.toInt64 = lN c ∧ (nI c).toInt64 = lN c) := by decide +kernel
theorem film71 (fu : Nat) {k p n N : Nat} (hk : k < 4) (hpn : p + n ≤ 24) (hN : N ≤ 40) {l : List Nat} {u : ZT_9} (hco : ∀ r, r < N → u.2.2.2.1.2.1 r = nI (l.getD r 0)) (hlt : ∀ r, r < N → l.getD r 0 < N) : ∀ (t : List Nat) (i g : Nat) (S : Int64) (f : Nat → Int64), i + t.length = n → t.length < g → SetL S t → t.Pairwise (fun x y => x < y) → (∀ r ∈ t, r < N) → rr_X9_film_71 fu g (nI k) (nI p) S (nI n) (nI i) (u.1, u.2.1, u.2.2.1, u.2.2.2.1, u.2.2.2.2.1, u.2.2.2.2.2.1, u.2.2.2.2.2.2.1, u.2.2.2.2.2.2.2.1, u.2.2.2.2.2.2.2.2.1, u.2.2.2.2.2.2.2.2.2.1, u.2.2.2.2.2.2.2.2.2.2.1, u.2.2.2.2.2.2.2.2.2.2.2.1, u.2.2.2.2.2.2.2.2.2.2.2.2.1, (u.2.2.2.2.2.2.2.2.2.2.2.2.2.1, u.2.2.2.2.2.2.2.2.2.2.2.2.2.2.1, f)) = some (nI n, (u.1, u.2.1, u.2.2.1, u.2.2.2.1, u.2.2.2.2.1, u.2.2.2.2.2.1, u.2.2.2.2.2.2.1, u.2.2.2.2.2.2.2.1, u.2.2.2.2.2.2.2.2.1, u.2.2.2.2.2.2.2.2.2.1, u.2.2.2.2.2.2.2.2.2.2.1, u.2.2.2.2.2.2.2.2.2.2.2.1, u.2.2.2.2.2.2.2.2.2.2.2.2.1, (u.2.2.2.2.2.2.2.2.2.2.2.2.2.1, u.2.2.2.2.2.2.2.2.2.2.2.2.2.2.1, wrL f (24 * k + (p + i)) (t.map (fun r => l.getD r 0))))) := by
  intro t
  induction t with
  | nil =>
    intro i g S f hi hg hS hs hr
    obtain ⟨g, rfl⟩ : ∃ q, g = q + 1 := ⟨g - 1, by simp at hg; omega⟩
    have : i = n := by simp at hi; exact hi
    subst this
    have e9 : rr_X9_film_71 fu (g + 1) = rr_X9_film_71_b fu (rr_X9_film_71 fu g) := rfl
    rw [e9]
    unfold rr_X9_film_71_b
    rw [if_pos (nI_le (Nat.le_refl i) (by omega))]
    rfl
  | cons a t ih =>
    intro i g S f hi hg hS hs hr
    rw [List.length_cons] at hi hg
    obtain ⟨g, rfl⟩ : ∃ q, g = q + 1 := ⟨g - 1, by omega⟩
    have e9 : rr_X9_film_71 fu (g + 1) = rr_X9_film_71_b fu (rr_X9_film_71 fu g) := rfl
    rw [e9]
    unfold rr_X9_film_71_b
    have haN := hr a List.mem_cons_self
    have ha : a < 64 := by omega
    have hla := hlt a haN
    have hc := cut_small (l.getD a 0) (by omega)
    rw [if_neg (nI_ge (by omega) (by omega)), setL_next fu hS hs ha, Option.bind_some, lt_eq, ck_in ha (by omega)]
    simp only [nI_clamp (show a < 2 ^ 31 by omega), hco a haN, nI_add]
    rw [r5_write fu hk (show p + i < 24 by omega), Option.bind_some, lt_eq, nI_1]
    have hv : ∀ x : Int32, (if x = 0 then (nI (l.getD a 0)).toInt64.toInt32.toInt8.toInt32.toInt64 else if x = 1 then (nI (l.getD a 0)).toInt64.toInt32.toInt64 else (nI (l.getD a 0)).toInt64) = lN (l.getD a 0) := by
      intro x
      rw [hc.1, hc.2.1, hc.2.2]
      split
      · rfl
      · split <;> rfl
    rw [hv]
    have h2 := ih (i + 1) g _ (vp_updL f (24 * k + (p + i)) (lN (l.getD a 0))) (by omega) (by omega) (setL_tail hS hs ha) (List.pairwise_cons.mp hs).2 (fun r hm => hr r (List.mem_cons_of_mem _ hm))
    exact h2
theorem film55 (fu : Nat) {k p n : Nat} (hk : k < 4) (hpn : p + n ≤ 24) {l : List Nat} (hl : l.length = n) (u : ZT_10) (hrow : Arr_ u.2.2.2.1.1 l) (h40 : ∀ c ∈ l, c < 40) : ∀ (d i g : Nat) (f : Nat → Int64), i + d = n → d < g → rr_X10_film_55 fu g (nI k) (nI p) (nI n) (nI i) (u.1, u.2.1, u.2.2.1, u.2.2.2.1, u.2.2.2.2.1, u.2.2.2.2.2.1, u.2.2.2.2.2.2.1, u.2.2.2.2.2.2.2.1, u.2.2.2.2.2.2.2.2.1, (u.2.2.2.2.2.2.2.2.2.1, u.2.2.2.2.2.2.2.2.2.2.1, f)) = some (nI n, (u.1, u.2.1, u.2.2.1, u.2.2.2.1, u.2.2.2.2.1, u.2.2.2.2.2.1, u.2.2.2.2.2.2.1, u.2.2.2.2.2.2.2.1, u.2.2.2.2.2.2.2.2.1, (u.2.2.2.2.2.2.2.2.2.1, u.2.2.2.2.2.2.2.2.2.2.1, wrL f (24 * k + (p + i)) (l.drop i)))) := by
  intro d
  induction d with
  | zero =>
    intro i g f hi hg
    obtain ⟨g, rfl⟩ : ∃ q, g = q + 1 := ⟨g - 1, by omega⟩
    have : i = n := by omega
    subst this
    have e9 : rr_X10_film_55 fu (g + 1) = rr_X10_film_55_b fu (rr_X10_film_55 fu g) := rfl
    rw [e9]
    unfold rr_X10_film_55_b
    rw [if_pos (nI_le (Nat.le_refl i) (by omega)), List.drop_of_length_le (by omega)]
    rfl
  | succ d ih =>
    intro i g f hi hg
    obtain ⟨g, rfl⟩ : ∃ q, g = q + 1 := ⟨g - 1, by omega⟩
    have e9 : rr_X10_film_55 fu (g + 1) = rr_X10_film_55_b fu (rr_X10_film_55 fu g) := rfl
    rw [e9]
    unfold rr_X10_film_55_b
    have hil : i < l.length := by omega
    have hc := cut_small (l.getD i 0) (by rw [getD_eq hil]; exact h40 _ (List.getElem_mem _))
    rw [if_neg (nI_ge (by omega) (by omega))]
    simp only [ck_in (show i < 40 by omega) (show 40 < 2 ^ 31 by omega), nI_clamp (show i < 2 ^ 31 by omega), hrow i hil, hc.2.2, mul24', nI_add, lt_eq, nI_1, show 24 * k + p + i = 24 * k + (p + i) by omega, ck_in (show 24 * k + (p + i) < 96 by omega) (show 96 < 2 ^ 31 by omega), nI_clamp (show 24 * k + (p + i) < 2 ^ 31 by omega)]
    have h2 := ih (i + 1) g (vp_updL f (24 * k + (p + i)) (lN (l.getD i 0))) (by omega) (by omega)
    have hd : l.drop i = l.getD i 0 :: l.drop (i + 1) := by rw [getD_eq hil]; exact List.drop_eq_getElem_cons hil
    rw [hd]
    exact h2
