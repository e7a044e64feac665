-- ===== rows in order =====
abbrev Srt_ (K : Nat → Int) (l : List Nat) : Prop := l.Pairwise (fun a b => K a < K b)
theorem srt_uniq {K : Nat → Int} : ∀ {l1 l2 : List Nat}, Srt_ K l1 → Srt_ K l2 → (∀ c, c ∈ l1 ↔ c ∈ l2) → l1 = l2 := by
  intro l1
  induction l1 with
  | nil =>
    intro l2 _ _ hm
    exact (List.eq_nil_iff_forall_not_mem.mpr (fun c hc => absurd ((hm c).mpr hc) List.not_mem_nil)).symm
  | cons a t ih =>
    intro l2 h1 h2 hm
    cases l2 with
    | nil => exact absurd ((hm a).mp List.mem_cons_self) List.not_mem_nil
    | cons b t2 =>
      rw [Srt_, List.pairwise_cons] at h1 h2
      have hab : a = b := by
        rcases List.mem_cons.mp ((hm a).mp List.mem_cons_self) with e | e
        · exact e
        · rcases List.mem_cons.mp ((hm b).mpr List.mem_cons_self) with e2 | e2
          · exact e2.symm
          · have := h1.1 b e2
            have := h2.1 a e
            omega
      subst hab
      congr 1
      refine ih h1.2 h2.2 (fun c => ⟨fun hc => ?_, fun hc => ?_⟩)
      · rcases List.mem_cons.mp ((hm c).mp (List.mem_cons_of_mem _ hc)) with e | e
        · have := h1.1 c hc; rw [e] at this; omega
        · exact e
      · rcases List.mem_cons.mp ((hm c).mpr (List.mem_cons_of_mem _ hc)) with e | e
        · have := h2.1 c hc; rw [e] at this; omega
        · exact e
/-- the place where x is put, looked for from p down -/
def insP (K : Nat → Int) (x : Nat) (l : List Nat) : Nat → Nat
  | 0 => 0
  | p + 1 => if K x < K (l.getD p 0) then insP K x l p else p + 1
theorem insP_le {K : Nat → Int} {x : Nat} {l : List Nat} : ∀ p, insP K x l p ≤ p := by
  intro p
  induction p with
  | zero => exact Nat.le_refl 0
  | succ p ih =>
    unfold insP
    split
    · omega
    · omega
theorem insP_hi {K : Nat → Int} {x : Nat} {l : List Nat} : ∀ p j, insP K x l p ≤ j → j < p → K x < K (l.getD j 0) := by
  intro p
  induction p with
  | zero => intro j _ h; omega
  | succ p ih =>
    intro j h1 h2
    unfold insP at h1
    split at h1
    · rename_i h
      rcases Nat.lt_or_ge j p with c | c
      · exact ih j h1 c
      · have : j = p := by omega
        subst this; exact h
    · omega
theorem insP_lo {K : Nat → Int} {x : Nat} {l : List Nat} : ∀ p j, insP K x l p = j + 1 → ¬ K x < K (l.getD j 0) := by
  intro p
  induction p with
  | zero => intro j h; unfold insP at h; omega
  | succ p ih =>
    intro j h
    unfold insP at h
    split at h
    · exact ih j h
    · rename_i h2
      have : p = j := by omega
      subst this; exact h2
/-- x put in its place -/
def ins_ (K : Nat → Int) (x : Nat) (l : List Nat) : List Nat := l.take (insP K x l l.length) ++ x :: l.drop (insP K x l l.length)
theorem ins_mem {K : Nat → Int} {x : Nat} {l : List Nat} {c : Nat} : c ∈ ins_ K x l ↔ c = x ∨ c ∈ l := by
  unfold ins_
  have h := List.take_append_drop (insP K x l l.length) l
  constructor
  · intro hc
    rcases List.mem_append.mp hc with h1 | h1
    · exact Or.inr (List.mem_of_mem_take h1)
    · rcases List.mem_cons.mp h1 with h2 | h2
      · exact Or.inl h2
      · exact Or.inr (List.mem_of_mem_drop h2)
  · intro hc
    rcases hc with h1 | h1
    · exact List.mem_append_right _ (List.mem_cons.mpr (Or.inl h1))
    · rw [← h] at h1
      rcases List.mem_append.mp h1 with h2 | h2
      · exact List.mem_append_left _ h2
      · exact List.mem_append_right _ (List.mem_cons_of_mem _ h2)
theorem ins_len {K : Nat → Int} {x : Nat} {l : List Nat} : (ins_ K x l).length = l.length + 1 := by
  unfold ins_
  have := insP_le (K := K) (x := x) (l := l) l.length
  simp only [List.length_append, List.length_cons, List.length_take, List.length_drop]
  omega
theorem getD_eq {l : List Nat} {j : Nat} (h : j < l.length) : l.getD j 0 = l[j] := by
  rw [List.getD_eq_getElem?_getD, List.getElem?_eq_getElem h]; rfl
theorem ins_srt {K : Nat → Int} {x : Nat} {l : List Nat} (h : Srt_ K l) (hx : ∀ c ∈ l, K c ≠ K x) : Srt_ K (ins_ K x l) := by
  unfold ins_ Srt_
  have hp := insP_le (K := K) (x := x) (l := l) l.length
  have hsp := List.pairwise_iff_getElem.mp h
  have hlo : ∀ a ∈ l.take (insP K x l l.length), K a < K x := by
    intro a ha
    obtain ⟨i, hi, e⟩ := List.getElem_of_mem ha
    rw [List.length_take] at hi
    rw [List.getElem_take] at e
    have h2 := insP_lo (K := K) (x := x) (l := l) l.length (insP K x l l.length - 1) (by omega)
    rw [getD_eq (by omega)] at h2
    have h3 := hx l[insP K x l l.length - 1] (List.getElem_mem _)
    rcases Nat.lt_or_ge i (insP K x l l.length - 1) with c | c
    · have := hsp i (insP K x l l.length - 1) (by omega) (by omega) c
      rw [← e]; omega
    · have : i = insP K x l l.length - 1 := by omega
      subst this
      rw [← e]; omega
  have hhi : ∀ b ∈ l.drop (insP K x l l.length), K x < K b := by
    intro b hb
    obtain ⟨i, hi, e⟩ := List.getElem_of_mem hb
    rw [List.length_drop] at hi
    rw [List.getElem_drop] at e
    have h2 := insP_hi (K := K) (x := x) (l := l) l.length (insP K x l l.length + i) (by omega) (by omega)
    rw [getD_eq (by omega), e] at h2
    exact h2
  rw [List.pairwise_append]
  refine ⟨h.sublist (List.take_sublist _ _), ?_, ?_⟩
  · rw [List.pairwise_cons]
    exact ⟨hhi, h.sublist (List.drop_sublist _ _)⟩
  · intro a ha b hb
    rcases List.mem_cons.mp hb with e | e
    · rw [e]; exact hlo a ha
    · have := hlo a ha
      have := hhi b e
      omega
/-- a row's places from p + 1 to k hold what stood one below -/
def shF (f : Nat → Int32) (p k : Nat) : Nat → Int32 := fun r => if p < r ∧ r ≤ k then f (r - 1) else f r
theorem shF_self (f : Nat → Int32) (k : Nat) : shF f k k = f := by
  funext r
  unfold shF
  rw [if_neg (by omega)]
theorem shF_step (f : Nat → Int32) {p k : Nat} (h : p ≤ k) : shF (upd f (k + 1) (f k)) p k = shF f p (k + 1) := by
  funext r
  unfold shF
  by_cases h1 : p < r ∧ r ≤ k
  · rw [if_pos h1, if_pos (by omega), pk_un (by omega)]
  · rw [if_neg h1]
    by_cases h2 : r = k + 1
    · subst h2
      rw [pk_us, if_pos (by omega)]
      rfl
    · rw [pk_un h2, if_neg (by omega)]
/-- an array's first places hold these numbers -/
def Arr_ (f : Nat → Int32) (l : List Nat) : Prop := ∀ r, r < l.length → f r = nI (l.getD r 0)
theorem arr_ins {f : Nat → Int32} {l : List Nat} {x : Nat} (h : Arr_ f l) {p : Nat} (hp : p ≤ l.length) : Arr_ (upd (shF f p l.length) p (nI x)) (l.take p ++ x :: l.drop p) := by
  intro r hr
  have hlen : (l.take p).length = p := by rw [List.length_take]; omega
  rw [List.length_append, List.length_cons, List.length_drop, hlen] at hr
  rcases Nat.lt_trichotomy r p with c | c | c
  · rw [pk_un (by omega)]
    unfold shF
    rw [if_neg (by omega), h r (by omega)]
    congr 1
    rw [List.getD_eq_getElem?_getD, List.getD_eq_getElem?_getD, List.getElem?_append_left (by omega), List.getElem?_take, if_pos c]
  · subst c
    rw [pk_us, List.getD_eq_getElem?_getD, List.getElem?_append_right (by omega), hlen, Nat.sub_self]
    rfl
  · rw [pk_un (by omega)]
    unfold shF
    rw [if_pos (by omega), h (r - 1) (by omega)]
    congr 1
    rw [List.getD_eq_getElem?_getD, List.getD_eq_getElem?_getD, List.getElem?_append_right (by omega), hlen]
    obtain ⟨q, hq⟩ : ∃ q, r - p = q + 1 := ⟨r - p - 1, by omega⟩
    rw [hq, List.getElem?_cons_succ, List.getElem?_drop]
    congr 2
    omega
