-- ===== one run of the day, and all as it was =====
abbrev wP (m : ZT_10) (z : Nat → Int64) : ZT_10 := (m.1, m.2.1, m.2.2.1, m.2.2.2.1, m.2.2.2.2.1, m.2.2.2.2.2.1, m.2.2.2.2.2.2.1, (z, m.2.2.2.2.2.2.2.1.2), m.2.2.2.2.2.2.2.2)
theorem once2 (fu : Nat) (m : ZT_10) (x : Int32) : ∀ (d k n : Nat) (z : Nat → Int64), k + d = 24 → d < n → (∀ i, i < k → z i = 0) → ∃ z' : Nat → Int64, (∀ i, i < 24 → z' i = 0) ∧ rr_X10_runOnce_2 fu n x (nI k) (wP m z) = (rr_X10_keep fu (wP m z')).bind (fun q3 => (rr_X10_runDay fu (1 : Int32) q3).bind (fun q4 => (rr_X10_worthOf fu x q4.2).bind (fun q5 => (rr_X10_bringBack fu q4.2).bind (fun q7 => some (q5, q7))))) := by
  intro d
  induction d with
  | zero =>
    intro k n z hk hn hz
    obtain ⟨n, rfl⟩ : ∃ q, n = q + 1 := ⟨n - 1, by omega⟩
    have : k = 24 := by omega
    subst this
    have e9 : rr_X10_runOnce_2 fu (n + 1) = rr_X10_runOnce_2_b fu (rr_X10_runOnce_2 fu n) := rfl
    rw [e9]
    unfold rr_X10_runOnce_2_b
    rw [if_pos (show (24 : Int32) ≤ nI 24 by decide)]
    exact ⟨z, hz, rfl⟩
  | succ d ih =>
    intro k n z hk hn hz
    obtain ⟨n, rfl⟩ : ∃ q, n = q + 1 := ⟨n - 1, by omega⟩
    have e9 : rr_X10_runOnce_2 fu (n + 1) = rr_X10_runOnce_2_b fu (rr_X10_runOnce_2 fu n) := rfl
    rw [e9]
    unfold rr_X10_runOnce_2_b
    rw [if_neg (show ¬ (24 : Int32) ≤ nI k from nI_ge (b := 24) (by omega) (by omega)), ck_in (show k < 24 by omega) (by omega), lt_eq, nI_1, nI_clamp (show k < 2 ^ 31 by omega)]
    refine ih (k + 1) n (vp_updL z k 0) (by omega) (by omega) (fun i hi => ?_)
    by_cases e : i = k
    · subst e; rw [pk_uLs]
    · rw [pk_uLn e]; exact hz i (by omega)
theorem once0 (fu : Nat) (hfu : 100 ≤ fu) (m : ZT_10) (x : Int32) : ∃ z' : Nat → Int64, (∀ i, i < 24 → z' i = 0) ∧ rr_X10_runOnce fu x m = (rr_X10_keep fu (wP m z')).bind (fun q3 => (rr_X10_runDay fu (1 : Int32) q3).bind (fun q4 => (rr_X10_worthOf fu x q4.2).bind (fun q5 => (rr_X10_bringBack fu q4.2).bind (fun q7 => some (q5, q7))))) :=
  once2 fu m x 24 0 fu m.2.2.2.2.2.2.2.1.1 (by omega) (by omega) (fun i hi => absurd hi (by omega))
theorem once_b (fu : Nat) (hfu : 2000 ≤ fu) {c : ZT_9} {m : ZT_10} {N B : Nat} {l : List Nat} (hM : MOK m N) (hl : LawOK m) (hR : RankOK c.2.2.2.1 (keyM m m.1.2.2.2.2.2.2) m.1.1 m.1.2.2.2.2.2.2 N l) (hD : DayR c.1.2.2.1 m.2.2.1.1 B) (hb : m.2.2.1.2 = nI B) (hB : BoardOK c.2.2.2.2.2.2.1.1 m.1.2.2.2.2.1 N l) {p : Nat} (hp : p < 8) : ∃ (r v : Int32) (b' : ZT_1) (ho : Nat → Int32) (g : (Nat → Int32) × Int32) (pb : Int64 × Int64 × Int32 × Int32 × Int32) (hd : Nat → Int32) (pa : Nat → Int64), rr_X9_runDay_b fu (1 : Int32) c = some (r, wD c b') ∧ rr_X10_runOnce fu (nI p) m = some (v, wC m ho g pb (hd, m.2.2.2.2.2.2.1.2) (pa, m.2.2.2.2.2.2.2.1.2)) ∧ (∀ i, i < N → ho i = m.1.2.2.2.2.1 i) ∧ rr_X4_worthOf fu (b'.1 p) c.2.2.2.1 = some v := by
  have hN := hM.2.1
  obtain ⟨z, _, e1⟩ := once0 fu (by omega) m (nI p)
  obtain ⟨hd, k1, k2⟩ := m_keep fu (by omega) (m := wP m z) hM.1 hN
  obtain ⟨r, b', ho, g, pb, pa, s1, s2, s3, s4⟩ := runDay_b fu hfu (c := c) (m := wK (wP m z) hd) (n := 1) hM hl hR hD hb (by omega) hB
  have hM2 : MOK (wR (wK (wP m z) hd) ho g pb pa) N := mok_ho hM ⟨rfl, rfl, rfl, rfl, rfl⟩ s3
  obtain ⟨v, w1, w2⟩ := worth_eq fu (by omega) (m := wR (wK (wP m z) hd) ho g pb pa) (h := nI p) hM2 hR (S := b'.1 p) (fun r hr => s4 p hp r hr)
  obtain ⟨ho2, q1, q2⟩ := m_back fu (by omega) (m := wR (wK (wP m z) hd) ho g pb pa) hM.1 hN
  refine ⟨r, v, b', ho2, g, pb, hd, pa, s1, ?_, fun i hi => (q2 i hi).trans (k2 i hi), w1⟩
  rw [e1, k1, Option.bind_some]
  have s2' : rr_X10_runDay fu (1 : Int32) (wK (wP m z) hd) = some (r, wR (wK (wP m z) hd) ho g pb pa) := s2
  rw [s2', Option.bind_some, w2, Option.bind_some, q1, Option.bind_some]
theorem once_t (fu : Nat) (hfu : 2000 ≤ fu) {c : ZT_9} {m : ZT_10} {N B : Nat} {l : List Nat} (hM : MOK m N) (hl : LawOK m) (hR : RankOK c.2.2.2.2.2.1 (keyM m m.1.2.2.2.2.2.2) m.1.1 m.1.2.2.2.2.2.2 N l) (hD : DayR c.1.2.2.1 m.2.2.1.1 B) (hb : m.2.2.1.2 = nI B) (hB : BoardOK c.2.2.2.2.2.2.2.1.1 m.1.2.2.2.2.1 N l) {p : Nat} (hp : p < 8) : ∃ (r v : Int32) (b' : ZT_1) (ho : Nat → Int32) (g : (Nat → Int32) × Int32) (pb : Int64 × Int64 × Int32 × Int32 × Int32) (hd : Nat → Int32) (pa : Nat → Int64), rr_X9_runDay_t fu (1 : Int32) c = some (r, wT c b') ∧ rr_X10_runOnce fu (nI p) m = some (v, wC m ho g pb (hd, m.2.2.2.2.2.2.1.2) (pa, m.2.2.2.2.2.2.2.1.2)) ∧ (∀ i, i < N → ho i = m.1.2.2.2.2.1 i) ∧ rr_X4_worthOf fu (b'.1 p) c.2.2.2.2.2.1 = some v := by
  have hN := hM.2.1
  obtain ⟨z, _, e1⟩ := once0 fu (by omega) m (nI p)
  obtain ⟨hd, k1, k2⟩ := m_keep fu (by omega) (m := wP m z) hM.1 hN
  obtain ⟨r, b', ho, g, pb, pa, s1, s2, s3, s4⟩ := runDay_t fu hfu (c := c) (m := wK (wP m z) hd) (n := 1) hM hl hR hD hb (by omega) hB
  have hM2 : MOK (wR (wK (wP m z) hd) ho g pb pa) N := mok_ho hM ⟨rfl, rfl, rfl, rfl, rfl⟩ s3
  obtain ⟨v, w1, w2⟩ := worth_eq fu (by omega) (m := wR (wK (wP m z) hd) ho g pb pa) (h := nI p) hM2 hR (S := b'.1 p) (fun r hr => s4 p hp r hr)
  obtain ⟨ho2, q1, q2⟩ := m_back fu (by omega) (m := wR (wK (wP m z) hd) ho g pb pa) hM.1 hN
  refine ⟨r, v, b', ho2, g, pb, hd, pa, s1, ?_, fun i hi => (q2 i hi).trans (k2 i hi), w1⟩
  rw [e1, k1, Option.bind_some]
  have s2' : rr_X10_runDay fu (1 : Int32) (wK (wP m z) hd) = some (r, wR (wK (wP m z) hd) ho g pb pa) := s2
  rw [s2', Option.bind_some, w2, Option.bind_some, q1, Option.bind_some]
