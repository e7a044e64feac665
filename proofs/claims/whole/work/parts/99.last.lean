-- ===== the ranks are built =====
theorem rowUp_T {K : Nat → Int} : ∀ n, (rowUp K (fun _ => True) n).length = n := by
  intro n
  induction n with
  | zero => rfl
  | succ n ih =>
    show (if True then ins_ K n (rowUp K (fun _ => True) n) else _).length = n + 1
    rw [if_pos trivial, ins_len, ih]
/-- kinds and stamps, if one coin were forged -/
def kiF (y : Int32) (ki : Nat → Int32) (c : Nat) : Int32 := if nI c = y then 1 else ki c
def stF (y z : Int32) (st : Nat → Int32) (c : Nat) : Int32 := if nI c = y then z else st c
theorem coinOKF {w ye s k h y z : Int32} {c : Nat} (hz : 0 ≤ z ∧ z ≤ 99) (ok : CoinOK w ye s k h) : CoinOK w ye (if nI c = y then z else s) (if nI c = y then 1 else k) h := by
  by_cases e : nI c = y
  · rw [if_pos e, if_pos e]
    exact ⟨ok.1, ok.2.1, hz, by decide, ok.2.2.2.2⟩
  · rw [if_neg e, if_neg e]; exact ok
theorem oldF (fu : Nat) {N c : Nat} {cs : ZT_2} {wo ye st ki ho : Nat → Int32} (hC : CoinsR cs wo ye st ki ho N) (hc : c < N) (y : Int32) {z : Int32} (hz : 0 ≤ z ∧ z ≤ 99) : ∃ v : Int32, (if nI c = y then rr_X2_oldnessAs fu 40 (nI c) 1 z cs else rr_X2_oldness fu 40 (nI c) cs) = some v ∧ v.toInt = agI (kiF y ki c) (stF y z st c) (ye c) * 64 + c := by
  unfold kiF stF
  by_cases e : nI c = y
  · rw [if_pos e, if_pos e, if_pos e]
    have hN := hC.2.1
    have h1 := hC.2.2.1 c hc
    have ok := coinOKF (y := y) (c := c) hz (hC.2.2.2 c hc)
    rw [if_pos e, if_pos e] at ok
    have ha := agI_in ok
    unfold rr_X2_oldnessAs rr_X2_ageAs
    simp only [ck_in (show c < 40 by omega) (by omega), nI_clamp (show c < 2 ^ 31 by omega), if_pos rfl, if_true, Option.bind_some]
    refine ⟨_, rfl, ?_⟩
    have t64 : (64 : Int32).toInt = 64 := by decide
    have t1 : (1 : Int32).toInt = 1 := by decide
    have t0 : (0 : Int32).toInt = 0 := by decide
    have t99 : (99 : Int32).toInt = 99 := by decide
    rw [i32_le, i32_le, t0, t99] at hz
    have eg : agI 1 z (ye c) = z.toInt + 1 := rfl
    rw [eg] at ha ⊢
    rw [Int32.toInt_add, Int32.toInt_mul, Int32.toInt_add, t64, t1, nI_toInt (by omega)]
    rw [Int.bmod_eq_of_le (n := z.toInt + 1) (by omega) (by omega), Int.bmod_eq_of_le (n := (z.toInt + 1) * 64) (by omega) (by omega)]
    exact Int.bmod_eq_of_le (by omega) (by omega)
  · rw [if_neg e, if_neg e, if_neg e]
    exact old2 fu hC hc
theorem bd8 (fu : Nat) (hfu : 100 ≤ fu) {N : Nat} {t : ZT_8} {wo ye st ki ho : Nat → Int32} (hC : CoinsR t.2.1 wo ye st ki ho N) (hl : 0 ≤ t.1 ∧ t.1 ≤ 3) (y : Int32) {z : Int32} (hz : 0 ≤ z ∧ z ≤ 99) (wa ro : Nat → Int32) (al : Nat → Int64) : ∀ (k c n : Nat) (f g : Nat → Int32), c + k = N → k < n → Arr_ f (rowUp (keyF t.1 wo (kiF y ki) (stF y z st) ye) (fun _ => True) c) → Keys_ (keyF t.1 wo (kiF y ki) (stF y z st) ye) g (rowUp (keyF t.1 wo (kiF y ki) (stF y z st) ye) (fun _ => True) c) → ∃ f' g' : Nat → Int32, rr_X4_build_8 fu t n y z (nI c) (nI c, f, wa, ro, g, al) = rr_X4_build_85 fu t fu (0 : Int32) (nI N, f', wa, ro, g', al) ∧ Arr_ f' (rowUp (keyF t.1 wo (kiF y ki) (stF y z st) ye) (fun _ => True) N) := by
  have hN := hC.2.1
  intro k
  induction k with
  | zero =>
    intro c n f g hc hn hf hg
    obtain ⟨n, rfl⟩ : ∃ q, n = q + 1 := ⟨n - 1, by omega⟩
    have : c = N := by omega
    subst this
    refine ⟨f, g, ?_, hf⟩
    have e9 : rr_X4_build_8 fu t (n + 1) = rr_X4_build_8_b fu t (rr_X4_build_8 fu t n) := rfl
    rw [e9]
    unfold rr_X4_build_8_b
    rw [if_pos (by rw [hC.1]; exact nI_le (Nat.le_refl c) (by omega))]
  | succ k ih =>
    intro c n f g hc hn hf hg
    obtain ⟨n, rfl⟩ : ∃ q, n = q + 1 := ⟨n - 1, by omega⟩
    have e9 : rr_X4_build_8 fu t (n + 1) = rr_X4_build_8_b fu t (rr_X4_build_8 fu t n) := rfl
    rw [e9]
    unfold rr_X4_build_8_b
    rw [if_neg (by rw [hC.1]; exact nI_ge (by omega) (by omega))]
    have hcN : c < N := by omega
    obtain ⟨v, e1, e2⟩ := oldF fu hC hcN y hz
    have ok := coinOKF (y := y) (c := c) hz (hC.2.2.2 c hcN)
    have ha := agI_in ok
    have hw := wo_in (hC.2.2.2 c hcN)
    obtain ⟨key, k1, k2⟩ := keyBy4 fu hl hw (show 0 ≤ v.toInt ∧ v.toInt < 6528 by
      rw [e2]
      show 0 ≤ agI (if nI c = y then 1 else ki c) (if nI c = y then z else st c) (ye c) * 64 + c ∧ agI (if nI c = y then 1 else ki c) (if nI c = y then z else st c) (ye c) * 64 + c < 6528
      omega)
    have hkey : key.toInt = keyF t.1 wo (kiF y ki) (stF y z st) ye c := by rw [k2, e2]; rfl
    have step : (if nI c = y then (rr_X2_oldnessAs fu 40 (nI c) (1 : Int32) z t.2.1).bind (fun q7 => rr_X4_build_49 fu t (rr_X4_build_8 fu t n) y z (nI c) q7 (nI c, f, wa, ro, g, al)) else (rr_X2_oldness fu 40 (nI c) t.2.1).bind (fun q6 => rr_X4_build_49 fu t (rr_X4_build_8 fu t n) y z (nI c) q6 (nI c, f, wa, ro, g, al))) = rr_X4_build_49 fu t (rr_X4_build_8 fu t n) y z (nI c) v (nI c, f, wa, ro, g, al) := by
      by_cases e : nI c = y
      · rw [if_pos e] at e1 ⊢; rw [e1]; rfl
      · rw [if_neg e] at e1 ⊢; rw [e1]; rfl
    rw [step]
    unfold rr_X4_build_49
    simp only [ck_in (show c < 40 by omega) (by omega), nI_clamp (show c < 2 ^ 31 by omega), (hC.2.2.1 c hcN).2.1, k1, Option.bind_some]
    have hlenT := rowUp_T (K := keyF t.1 wo (kiF y ki) (stF y z st) ye) c
    obtain ⟨f', g', i1, i2, i3⟩ := r4_insert fu hfu hkey (l := rowUp (keyF t.1 wo (kiF y ki) (stF y z st) ye) (fun _ => True) c) (by omega) (wa := wa) (ro := ro) (al := al) hf hg
    rw [ins_len, hlenT] at i1
    rw [i1, Option.bind_some, lt_eq, nI_1]
    have hrow : rowUp (keyF t.1 wo (kiF y ki) (stF y z st) ye) (fun _ => True) (c + 1) = ins_ (keyF t.1 wo (kiF y ki) (stF y z st) ye) c (rowUp (keyF t.1 wo (kiF y ki) (stF y z st) ye) (fun _ => True) c) := by
      show (if True then _ else _) = _
      rw [if_pos trivial]
    exact ih (c + 1) n f' g' (by omega) (by omega) (by rw [hrow]; exact i2) (by rw [hrow]; exact i3)
