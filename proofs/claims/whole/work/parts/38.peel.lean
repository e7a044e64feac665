-- ===== a set by rank, taken apart from its least on =====
def SetL (S : Int64) (rs : List Nat) : Prop := ∀ r, r < 64 → tb_ S r = decide (r ∈ rs)
theorem setL_nil {S : Int64} (h : SetL S []) : S = 0 := by
  apply tb_ext
  intro i hi
  rw [h i hi, tb_0]
  simp
theorem setL_ne {S : Int64} {a : Nat} {t : List Nat} (h : SetL S (a :: t)) (ha : a < 64) : ¬ S = 0 := by
  intro e
  have := h a ha
  rw [e, tb_0] at this
  simp at this
theorem setL_next (fu : Nat) {S : Int64} {a : Nat} {t : List Nat} (h : SetL S (a :: t)) (hs : (a :: t).Pairwise (fun x y => x < y)) (ha : a < 64) (rk : ZT_4) : rr_X4_nextPaid fu S rk = some (nI a) := by
  refine r4_nextPaid fu ha (by rw [h a ha]; simp) (fun j hj => ?_) rk
  rw [h j (by omega)]
  apply decide_eq_false
  intro hm
  rcases List.mem_cons.mp hm with e | e
  · omega
  · have := (List.pairwise_cons.mp hs).1 j e
    omega
theorem setL_tail {S : Int64} {a : Nat} {t : List Nat} (h : SetL S (a :: t)) (hs : (a :: t).Pairwise (fun x y => x < y)) (ha : a < 64) : SetL (S ^^^ ((1 : Int64) <<< ((nI a).toInt64 &&& 63))) t := by
  intro r hr
  rw [tb_xor, h r hr, tb_bit ha]
  have h1 := (List.pairwise_cons.mp hs).1
  by_cases e : r = a
  · subst e
    have : r ∉ t := fun hm => by have := h1 r hm; omega
    simp [this]
  · simp [e]
theorem board_set {f : Nat → Int64} {ho : Nat → Int32} {N : Nat} {l : List Nat} (hB : BoardOK f ho N l) {h : Nat} (hh : h < 8) : SetL (f h) ((List.range N).filter (fun r => decide (ho (l.getD r 0) = nI h))) := by
  intro r hr
  rw [hB h hh r hr]
  apply decide_eq_decide.mpr
  rw [List.mem_filter, List.mem_range]
  constructor
  · rintro ⟨h1, h2⟩; exact ⟨h1, decide_eq_true h2⟩
  · rintro ⟨h1, h2⟩; exact ⟨h1, of_decide_eq_true h2⟩
theorem range_asc (N : Nat) (p : Nat → Bool) : ((List.range N).filter p).Pairwise (fun x y => x < y) := by
  refine List.Pairwise.filter _ ?_
  rw [List.pairwise_iff_getElem]
  intro i j hi hj hij
  rw [List.getElem_range, List.getElem_range]
  exact hij
