theorem key_mon {law : Int32} (hl : 0 ≤ law ∧ law ≤ 3) (h2 : (2 : Int32) ≤ law) {wo ki st ye : Nat → Int32} {a b c : Nat} (ha : CoinOK (wo a) (ye a) (st a) (ki a) 0) (hb : CoinOK (wo b) (ye b) (st b) (ki b) 0) (hc : CoinOK (wo c) (ye c) (st c) (ki c) 0) (la : a < 64) (lb : b < 64) (lc : c < 64) (h3 : keyF law wo ki st ye a < keyF law wo ki st ye b) (h4 : keyF law wo ki st ye b < keyF law wo ki st ye c) (h5 : wo a = wo c) : wo b = wo c := by
  have aa := agI_in ha
  have ab := agI_in hb
  have ac := agI_in hc
  rw [i32_eq] at h5 ⊢
  unfold keyF keyI at h3 h4
  generalize agI (ki a) (st a) (ye a) = u at aa h3
  generalize agI (ki b) (st b) (ye b) = v at ab h3 h4
  generalize agI (ki c) (st c) (ye c) = w at ac h4
  generalize (wo a).toInt = p at h3 h5
  generalize (wo b).toInt = q at h3 h4 ⊢
  generalize (wo c).toInt = r at h4 h5 ⊢
  rcases lawCases hl with rfl | rfl | rfl | rfl
  · exact absurd h2 (by decide)
  · exact absurd h2 (by decide)
  · rw [if_neg (by decide), if_neg (by decide), if_pos rfl, if_neg (by decide), if_neg (by decide), if_pos rfl] at h3 h4
    omega
  · rw [if_neg (by decide), if_neg (by decide), if_neg (by decide), if_neg (by decide), if_neg (by decide), if_neg (by decide)] at h3 h4
    omega
theorem r4_build (fu : Nat) (hfu : 100 ≤ fu) {N : Nat} {t : ZT_8} {wo ye st ki ho : Nat → Int32} (hC : CoinsR t.2.1 wo ye st ki ho N) (hl : 0 ≤ t.1 ∧ t.1 ≤ 3) (y : Int32) {z : Int32} (hz : 0 ≤ z ∧ z ≤ 99) (rk : ZT_4) : ∃ (rk' : ZT_4) (l : List Nat), rr_X4_build fu y z rk t = some rk' ∧ RankOK rk' (keyF t.1 wo (kiF y ki) (stF y z st) ye) wo t.1 N l := by
  have hN := hC.2.1
  obtain ⟨f, g, e1, hf⟩ := bd8 fu hfu hC hl y hz rk.2.2.1 rk.2.2.2.1 rk.2.2.2.2.2 N 0 fu rk.2.1 rk.2.2.2.2.1 (by omega) (by omega) (fun r hr => absurd hr (by show ¬ r < 0; omega)) (fun r hr => absurd hr (by show ¬ r < 0; omega))
  have hmem : ∀ c, c ∈ rowUp (keyF t.1 wo (kiF y ki) (stF y z st) ye) (fun _ => True) N ↔ c < N := fun c => by rw [rowUp_mem]; exact ⟨fun h => h.1, fun h => ⟨h, trivial⟩⟩
  have hs : Srt_ (keyF t.1 wo (kiF y ki) (stF y z st) ye) (rowUp (keyF t.1 wo (kiF y ki) (stF y z st) ye) (fun _ => True) N) := rowUp_srt (M := 64) (fun a b ha hb h => keyF_inj ha hb h) N (by omega)
  have okF : ∀ c, c < N → CoinOK (wo c) (ye c) (stF y z st c) (kiF y ki c) 0 := fun c hc => by
    have h1 := coinOKF (y := y) (c := c) hz (hC.2.2.2 c hc)
    exact ⟨h1.1, h1.2.1, h1.2.2.1, h1.2.2.2.1, by decide⟩
  obtain ⟨wa, ro, al, e2, hI⟩ := bd85 fu hC (rowUp_T N) hmem hs (fun h2 a b c ha hb hc h3 h4 h5 => key_mon hl h2 (okF a ha) (okF b hb) (okF c hc) (by omega) (by omega) (by omega) h3 h4 h5) (g := g) hf N 0 fu rk.2.2.1 rk.2.2.2.1 rk.2.2.2.2.2 (by omega) (by omega) ⟨fun r hr => absurd hr (by omega), fun r hr => absurd hr (by omega), fun r hr => absurd hr (by omega)⟩
  refine ⟨(nI N, f, wa, ro, g, al), rowUp (keyF t.1 wo (kiF y ki) (stF y z st) ye) (fun _ => True) N, ?_, ?_⟩
  · unfold rr_X4_build
    have e3 : rr_X4_build_8 fu t fu y z (0 : Int32) ((0 : Int32), rk.2) = rr_X4_build_85 fu t fu (0 : Int32) (nI N, f, rk.2.2.1, rk.2.2.2.1, g, rk.2.2.2.2.2) := e1
    rw [e3]
    exact e2
  · exact ⟨rowUp_T N, hmem, hs, rfl, fun r hr => hf r (by rw [rowUp_T]; exact hr), hI.1, hI.2.1, hI.2.2⟩
/-- the board: who has which coins, by rank -/
def BoardOK (had : Nat → Int64) (ho : Nat → Int32) (N : Nat) (l : List Nat) : Prop := ∀ h, h < 8 → ∀ r, r < 64 → tb_ (had h) r = decide (r < N ∧ ho (l.getD r 0) = nI h)
theorem ly23 (fu : Nat) {N : Nat} {cs : ZT_2} {wo ye st ki ho : Nat → Int32} (hC : CoinsR cs wo ye st ki ho N) {rk : ZT_4} {l : List Nat} (hlen : l.length = N) (hmem : ∀ c, c ∈ l ↔ c < N) (hnd : ∀ i j, i < N → j < N → l.getD i 0 = l.getD j 0 → i = j) (hro : ∀ r, r < N → rk.2.2.2.1 (l.getD r 0) = nI r) (b : Int64 × Int64 × Int32 × Int32) : ∀ (k c n : Nat) (f : Nat → Int64), c + k = N → k < n → (∀ h, h < 8 → ∀ r, r < 64 → tb_ (f h) r = decide (r < N ∧ l.getD r 0 < c ∧ ho (l.getD r 0) = nI h)) → ∃ f' : Nat → Int64, rr_X1_layOut_23 fu 40 cs rk n (nI c) (f, b) = some (f', b) ∧ BoardOK f' ho N l := by
  have hN := hC.2.1
  intro k
  induction k with
  | zero =>
    intro c n f hc hn hf
    obtain ⟨n, rfl⟩ : ∃ q, n = q + 1 := ⟨n - 1, by omega⟩
    have : c = N := by omega
    subst this
    refine ⟨f, ?_, fun h hh r hr => ?_⟩
    · have e9 : rr_X1_layOut_23 fu 40 cs rk (n + 1) = rr_X1_layOut_23_b fu 40 cs rk (rr_X1_layOut_23 fu 40 cs rk n) := rfl
      rw [e9]
      unfold rr_X1_layOut_23_b
      rw [if_pos (by rw [hC.1]; exact nI_le (Nat.le_refl c) (by omega))]
    · rw [hf h hh r hr]
      apply decide_eq_decide.mpr
      constructor
      · rintro ⟨h1, _, h3⟩; exact ⟨h1, h3⟩
      · rintro ⟨h1, h3⟩
        refine ⟨h1, ?_, h3⟩
        rw [getD_eq (by omega)]
        exact (hmem _).mp (List.getElem_mem _)
  | succ k ih =>
    intro c n f hc hn hf
    obtain ⟨n, rfl⟩ : ∃ q, n = q + 1 := ⟨n - 1, by omega⟩
    have e9 : rr_X1_layOut_23 fu 40 cs rk (n + 1) = rr_X1_layOut_23_b fu 40 cs rk (rr_X1_layOut_23 fu 40 cs rk n) := rfl
    rw [e9]
    unfold rr_X1_layOut_23_b
    have hcN : c < N := by omega
    obtain ⟨r0, hr0, hlr⟩ := List.getElem_of_mem ((hmem c).mpr hcN)
    have hlr' : l.getD r0 0 = c := by rw [getD_eq hr0]; exact hlr
    have hro0 : rk.2.2.2.1 c = nI r0 := by rw [← hlr']; exact hro r0 (by omega)
    have ok := hC.2.2.2 c hcN
    obtain ⟨hh, hh8, ehh⟩ := nat_of 7 (by omega) rfl ok.2.2.2.2.1 ok.2.2.2.2.2
    have hcs : cs.2.1 c = nI hh := by rw [(hC.2.2.1 c hcN).1]; exact ehh
    rw [if_neg (by rw [hC.1]; exact nI_ge (by omega) (by omega))]
    simp only [ck_in (show c < 40 by omega) (show 40 < 2 ^ 31 by omega), nI_clamp (show c < 2 ^ 31 by omega), hcs, ck_in (show hh < 8 by omega) (show 8 < 2 ^ 31 by omega), nI_clamp (show hh < 2 ^ 31 by omega), hro0, lt_eq, nI_1]
    refine ih (c + 1) n _ (by omega) (by omega) (fun h h8 r hr => ?_)
    have key : (r < N ∧ l.getD r 0 < c + 1 ∧ ho (l.getD r 0) = nI h) ↔ ((r < N ∧ l.getD r 0 < c ∧ ho (l.getD r 0) = nI h) ∨ (r = r0 ∧ h = hh)) := by
      constructor
      · rintro ⟨h1, h2, h3⟩
        rcases Nat.lt_or_ge (l.getD r 0) c with d | d
        · exact Or.inl ⟨h1, d, h3⟩
        · have e : l.getD r 0 = c := by omega
          refine Or.inr ⟨hnd r r0 h1 (by omega) (by rw [e, hlr']), ?_⟩
          rw [e, ehh] at h3
          exact ((nI_eq (by omega) (by omega)).mp h3).symm
      · rintro (⟨h1, h2, h3⟩ | ⟨rfl, rfl⟩)
        · exact ⟨h1, by omega, h3⟩
        · exact ⟨by omega, by omega, by rw [hlr']; exact ehh⟩
    by_cases e : h = hh
    · subst e
      rw [pk_uLs, tb_or, tb_bit (by omega), hf h h8 r hr, ← Bool.decide_or]
      apply decide_eq_decide.mpr
      rw [key]
      constructor
      · rintro (h1 | h1)
        · exact Or.inl h1
        · exact Or.inr ⟨h1, rfl⟩
      · rintro (h1 | ⟨h1, _⟩)
        · exact Or.inl h1
        · exact Or.inr h1
    · rw [pk_uLn e, hf h h8 r hr]
      apply decide_eq_decide.mpr
      rw [key]
      constructor
      · exact fun h1 => Or.inl h1
      · rintro (h1 | ⟨_, h1⟩)
        · exact h1
        · exact absurd h1 e
theorem ly2 (fu : Nat) (cs : ZT_2) (rk : ZT_4) (b : Int64 × Int64 × Int32 × Int32) : ∀ (k i n : Nat) (f : Nat → Int64), i + k = 8 → k < n → (∀ h, h < i → f h = 0) → ∃ f' : Nat → Int64, rr_X1_layOut_2 fu 40 cs rk n (nI i) (f, b) = rr_X1_layOut_23 fu 40 cs rk fu (0 : Int32) (f', b) ∧ ∀ h, h < 8 → f' h = 0 := by
  intro k
  induction k with
  | zero =>
    intro i n f hi hn hf
    obtain ⟨n, rfl⟩ : ∃ q, n = q + 1 := ⟨n - 1, by omega⟩
    have : i = 8 := by omega
    subst this
    refine ⟨f, ?_, hf⟩
    have e9 : rr_X1_layOut_2 fu 40 cs rk (n + 1) = rr_X1_layOut_2_b fu 40 cs rk (rr_X1_layOut_2 fu 40 cs rk n) := rfl
    rw [e9]
    unfold rr_X1_layOut_2_b
    rw [if_pos (by decide)]
  | succ k ih =>
    intro i n f hi hn hf
    obtain ⟨n, rfl⟩ : ∃ q, n = q + 1 := ⟨n - 1, by omega⟩
    have e9 : rr_X1_layOut_2 fu 40 cs rk (n + 1) = rr_X1_layOut_2_b fu 40 cs rk (rr_X1_layOut_2 fu 40 cs rk n) := rfl
    rw [e9]
    unfold rr_X1_layOut_2_b
    rw [if_neg (show ¬ (8 : Int32) ≤ nI i from nI_ge (b := 8) (by omega) (by omega))]
    simp only [ck_in (show i < 8 by omega) (show 8 < 2 ^ 31 by omega), nI_clamp (show i < 2 ^ 31 by omega), lt_eq, nI_1]
    refine ih (i + 1) n _ (by omega) (by omega) (fun h hh => ?_)
    by_cases e : h = i
    · subst e; rw [pk_uLs]
    · rw [pk_uLn e]; exact hf h (by omega)
