def RInv (wo : Nat → Int32) (law : Int32) (l : List Nat) (i : Nat) (wa ro : Nat → Int32) (al : Nat → Int64) : Prop := (∀ r, r < i → wa r = wo (l.getD r 0)) ∧ (∀ r, r < i → ro (l.getD r 0) = nI r) ∧ (∀ r, r < i → ∀ j, j < 64 → tb_ (al r) j = decide (j = r ∨ ((2 : Int32) ≤ law ∧ j < r ∧ wo (l.getD j 0) = wo (l.getD r 0))))
theorem srt_getD {K : Nat → Int} {l : List Nat} (h : Srt_ K l) {i j : Nat} (hij : i < j) (hj : j < l.length) : K (l.getD i 0) < K (l.getD j 0) := by
  rw [getD_eq (by omega), getD_eq hj]
  exact List.pairwise_iff_getElem.mp h i j (by omega) hj hij
theorem bd85 (fu : Nat) {N : Nat} {t : ZT_8} {wo ye st ki ho : Nat → Int32} (hC : CoinsR t.2.1 wo ye st ki ho N) {K : Nat → Int} {l : List Nat} (hlen : l.length = N) (hmem : ∀ c, c ∈ l ↔ c < N) (hs : Srt_ K l) (hmon : (2 : Int32) ≤ t.1 → ∀ a b c, a < N → b < N → c < N → K a < K b → K b < K c → wo a = wo c → wo b = wo c) {f g : Nat → Int32} (hf : Arr_ f l) : ∀ (k i n : Nat) (wa ro : Nat → Int32) (al : Nat → Int64), i + k = N → k < n → RInv wo t.1 l i wa ro al → ∃ (wa' ro' : Nat → Int32) (al' : Nat → Int64), rr_X4_build_85 fu t n (nI i) (nI N, f, wa, ro, g, al) = some (nI N, f, wa', ro', g, al') ∧ RInv wo t.1 l N wa' ro' al' := by
  have hN := hC.2.1
  have hlt : ∀ r, r < N → l.getD r 0 < N := fun r hr => by
    rw [getD_eq (by omega)]; exact (hmem _).mp (List.getElem_mem _)
  intro k
  induction k with
  | zero =>
    intro i n wa ro al hi hn hI
    obtain ⟨n, rfl⟩ : ∃ q, n = q + 1 := ⟨n - 1, by omega⟩
    have : i = N := by omega
    subst this
    refine ⟨wa, ro, al, ?_, hI⟩
    have e9 : rr_X4_build_85 fu t (n + 1) = rr_X4_build_85_b fu t (rr_X4_build_85 fu t n) := rfl
    rw [e9]
    unfold rr_X4_build_85_b
    rw [if_pos (nI_le (Nat.le_refl i) (by omega))]
  | succ k ih =>
    intro i n wa ro al hi hn hI
    obtain ⟨n, rfl⟩ : ∃ q, n = q + 1 := ⟨n - 1, by omega⟩
    have e9 : rr_X4_build_85 fu t (n + 1) = rr_X4_build_85_b fu t (rr_X4_build_85 fu t n) := rfl
    rw [e9]
    unfold rr_X4_build_85_b rr_X4_build_165
    have hli := hlt i (by omega)
    have hfi : f i = nI (l.getD i 0) := hf i (by omega)
    have hwi : t.2.1.2.2.1 (l.getD i 0) = wo (l.getD i 0) := (hC.2.2.1 _ hli).2.1
    rw [if_neg (nI_ge (by omega) (by omega))]
    simp only [ck_in (show i < 64 by omega) (show 64 < 2 ^ 31 by omega), nI_clamp (show i < 2 ^ 31 by omega), hfi, ck_in (show l.getD i 0 < 40 by omega) (show 40 < 2 ^ 31 by omega), nI_clamp (show l.getD i 0 < 2 ^ 31 by omega), lt_eq, hwi, pk_us]
    -- what the next turn starts with
    have next : ∀ v : Int64, (∀ j, j < 64 → tb_ v j = decide (j = i ∨ ((2 : Int32) ≤ t.1 ∧ j < i ∧ wo (l.getD j 0) = wo (l.getD i 0)))) → ∃ (wa' ro' : Nat → Int32) (al' : Nat → Int64), rr_X4_build_85 fu t n (nI (i + 1)) (nI N, f, upd wa i (wo (l.getD i 0)), upd ro (l.getD i 0) (nI i), g, vp_updL al i v) = some (nI N, f, wa', ro', g, al') ∧ RInv wo t.1 l N wa' ro' al' := by
      intro v hv
      refine ih (i + 1) n _ _ _ (by omega) (by omega) ⟨?_, ?_, ?_⟩
      · intro r hr
        by_cases e : r = i
        · subst e; rw [pk_us]
        · rw [pk_un e]; exact hI.1 r (by omega)
      · intro r hr
        by_cases e : r = i
        · subst e; rw [pk_us]
        · have hne : ¬ l.getD r 0 = l.getD i 0 := by
            intro h
            have := srt_getD hs (show r < i by omega) (show i < l.length by omega)
            rw [h] at this; omega
          rw [pk_un hne]; exact hI.2.1 r (by omega)
      · intro r hr j hj
        by_cases e : r = i
        · subst e; rw [pk_uLs]; exact hv j hj
        · rw [pk_uLn e]; exact hI.2.2 r (by omega) j hj
    have plain : (¬ ((2 : Int32) ≤ t.1 ∧ 0 < i ∧ wo (l.getD (i - 1) 0) = wo (l.getD i 0))) → ∃ (wa' ro' : Nat → Int32) (al' : Nat → Int64), rr_X4_build_166 fu t (rr_X4_build_85 fu t n) (nI i) (0 : Int32) (nI N, f, upd wa i (wo (l.getD i 0)), upd ro (l.getD i 0) (nI i), g, al) = some (nI N, f, wa', ro', g, al') ∧ RInv wo t.1 l N wa' ro' al' := by
      intro hno
      unfold rr_X4_build_166 rr_X4_build_196
      rw [if_pos rfl]
      simp only [ck_in (show i < 64 by omega) (show 64 < 2 ^ 31 by omega), nI_clamp (show i < 2 ^ 31 by omega), lt_eq, nI_1]
      refine next _ (fun j hj => ?_)
      rw [tb_or, tb_bit (by omega), tb_0, Bool.or_false]
      apply decide_eq_decide.mpr
      constructor
      · intro h; exact Or.inl h
      · rintro (h | ⟨h1, h2, h3⟩)
        · exact h
        · exfalso
          apply hno
          refine ⟨h1, by omega, ?_⟩
          rcases Nat.lt_or_ge j (i - 1) with c | c
          · exact hmon h1 _ _ _ (hlt j (by omega)) (hlt (i - 1) (by omega)) hli (srt_getD hs c (by omega)) (srt_getD hs (show i - 1 < i by omega) (by omega)) h3
          · have : j = i - 1 := by omega
            rw [← this]; exact h3
    by_cases c1 : t.1 < 2
    · rw [if_pos c1]
      exact plain (fun h => by have h2 := h.1; rw [i32_le] at h2; rw [i32_lt] at c1; omega)
    · rw [if_neg c1]
      have hl2 : (2 : Int32) ≤ t.1 := by rw [i32_le]; rw [i32_lt] at c1; omega
      by_cases c2 : i = 0
      · subst c2
        rw [if_pos (by decide)]
        exact plain (fun h => by have := h.2.1; omega)
      · rw [if_neg (nI_nle (by omega) (by omega))]
        obtain ⟨p, rfl⟩ : ∃ p, i = p + 1 := ⟨i - 1, by omega⟩
        simp only [nI_pred, ck_in (show p < 64 by omega) (show 64 < 2 ^ 31 by omega), nI_clamp (show p < 2 ^ 31 by omega), pk_un (show p ≠ p + 1 by omega), hI.1 p (by omega)]
        by_cases c3 : wo (l.getD p 0) = wo (l.getD (p + 1) 0)
        · rw [if_pos c3]
          unfold rr_X4_build_166 rr_X4_build_196
          rw [if_neg (by decide)]
          simp only [nI_pred, ck_in (show p < 64 by omega) (show 64 < 2 ^ 31 by omega), nI_clamp (show p < 2 ^ 31 by omega), ck_in (show p + 1 < 64 by omega) (show 64 < 2 ^ 31 by omega), nI_clamp (show p + 1 < 2 ^ 31 by omega), lt_eq, nI_1]
          refine next _ (fun j hj => ?_)
          rw [tb_or, tb_bit (by omega), hI.2.2 p (by omega) j hj, ← Bool.decide_or]
          apply decide_eq_decide.mpr
          constructor
          · rintro (h | h | ⟨h1, h2, h3⟩)
            · exact Or.inl h
            · subst h; exact Or.inr ⟨hl2, by omega, c3⟩
            · exact Or.inr ⟨h1, by omega, h3.trans c3⟩
          · rintro (h | ⟨h1, h2, h3⟩)
            · exact Or.inl h
            · rcases Nat.lt_or_ge j p with d | d
              · exact Or.inr (Or.inr ⟨h1, d, h3.trans c3.symm⟩)
              · exact Or.inr (Or.inl (by omega))
        · rw [if_neg c3]
          exact plain (fun h => c3 h.2.2)
