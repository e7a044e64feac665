-- ===== coins are given back, the first by the other law first =====
def SetC (S : Int64) (N : Nat) (l L : List Nat) : Prop := ∀ r, r < 64 → tb_ S r = decide (r < N ∧ l.getD r 0 ∈ L)
theorem back_step (fu : Nat) {m : ZT_10} {N : Nat} (hM : MOK m N) {law : Int32} (hl : 0 ≤ law ∧ law ≤ 3) {rk : ZT_4} {l : List Nat} (hR : RankOK rk (keyM m law) m.1.1 law N l) {S : Int64} {a : Nat} {t : List Nat} (hS : SetC S N l (a :: t)) (hs : Srt_ (keyM m (law ^^^ 1)) (a :: t)) (hN2 : ∀ c ∈ a :: t, c < N) : ∃ j, j < N ∧ l.getD j 0 = a ∧ rr_X4_nextBack fu S rk = some (nI j) ∧ (¬ S = 0) ∧ SetC (S ^^^ ((1 : Int64) <<< ((nI j).toInt64 &&& 63))) N l t := by
  have hN := hM.2.1
  have hat : ∀ c, c < N → ∃ r, r < N ∧ l.getD r 0 = c := by
    intro c hc
    obtain ⟨r, hr, e⟩ := List.getElem_of_mem ((hR.2.1 c).mpr hc)
    exact ⟨r, by rw [← hR.1]; exact hr, by rw [getD_eq hr]; exact e⟩
  have hne : ¬ S = 0 := by
    intro e
    obtain ⟨r, hr, er⟩ := hat a (hN2 a List.mem_cons_self)
    have := hS r (by omega)
    rw [e, tb_0, er] at this
    have h2 : ¬ (r < N ∧ a ∈ a :: t) := by simpa using this.symm
    exact h2 ⟨hr, List.mem_cons_self⟩
  obtain ⟨j, hjN, j1, j2, j3⟩ := nb_min fu hM hl hR (S := S) (fun r hr hb => by rw [hS r hr] at hb; exact (of_decide_eq_true hb).1) hne
  rw [hS j (by omega)] at j1
  have hjm := (of_decide_eq_true j1).2
  have hja : l.getD j 0 = a := head_min hs hjm (fun y hy hn => by
    obtain ⟨r, hr, er⟩ := hat y (hN2 y hy)
    rw [← er]
    exact j3 r (by omega) (by rw [hS r (by omega)]; exact decide_eq_true ⟨hr, by rw [er]; exact hy⟩) (fun e => hn (by rw [← er, e])))
  refine ⟨j, hjN, hja, j2, hne, ?_⟩
  intro r hr
  rw [tb_xor, hS r hr, tb_bit (by omega)]
  have h1 := (List.pairwise_cons.mp hs).1
  have hnt : a ∉ t := fun hm => by have := h1 a hm; omega
  by_cases e : r = j
  · subst e
    rw [hja]
    simp [hjN, hnt]
  · have hne2 : r < N → ¬ l.getD r 0 = a := fun hrN h2 => e (rank_nd hR r j hrN hjN (by rw [h2, hja]))
    by_cases hrN : r < N
    · have := hne2 hrN
      generalize l.getD r 0 = x at this ⊢
      simp [e, hrN, this]
    · simp [e, hrN]
