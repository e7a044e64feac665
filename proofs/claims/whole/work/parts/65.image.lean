-- ===== coins and bills copied =====
abbrev F5 (a b : ZT_2) (i j : Nat) : Prop := a.2.1 i = b.2.1 j ∧ a.2.2.1 i = b.2.2.1 j ∧ a.2.2.2.1 i = b.2.2.2.1 j ∧ a.2.2.2.2.1 i = b.2.2.2.2.1 j ∧ a.2.2.2.2.2 i = b.2.2.2.2.2 j
abbrev F3 (a b : ZT_0) (i j : Nat) : Prop := a.2.1 i = b.2.1 j ∧ a.2.2.1 i = b.2.2.1 j ∧ a.2.2.2 i = b.2.2.2 j
theorem F5_trans {a b c : ZT_2} {i j k : Nat} (h1 : F5 a b i j) (h2 : F5 b c j k) : F5 a c i k := ⟨h1.1.trans h2.1, h1.2.1.trans h2.2.1, h1.2.2.1.trans h2.2.2.1, h1.2.2.2.1.trans h2.2.2.2.1, h1.2.2.2.2.trans h2.2.2.2.2⟩
theorem F3_trans {a b c : ZT_0} {i j k : Nat} (h1 : F3 a b i j) (h2 : F3 b c j k) : F3 a c i k := ⟨h1.1.trans h2.1, h1.2.1.trans h2.2.1, h1.2.2.trans h2.2.2⟩
theorem r2_add (fu : Nat) {n1 S : Nat} {s : ZT_2} (hs : s.1 = nI S) (h : S < n1) (h1 : n1 < 2 ^ 31) (a b c d e : Int32) : rr_X2_add fu n1 a b c d e s = some (nI (S + 1), upd s.2.1 S a, upd s.2.2.1 S b, upd s.2.2.2.1 S c, upd s.2.2.2.2.1 S d, upd s.2.2.2.2.2 S e) := by
  unfold rr_X2_add
  rw [hs, if_pos (show nI S < Int32.ofNat n1 from nI_lt h h1)]
  simp only [ck_in h h1, lt_eq, nI_1, nI_clamp (show S < 2 ^ 31 by omega)]
theorem r0_add (fu : Nat) {n1 S : Nat} {s : ZT_0} (hs : s.1 = nI S) (h : S < n1) (h1 : n1 < 2 ^ 31) (a b c : Int32) : rr_X0_add fu n1 a b c s = some (nI (S + 1), upd s.2.1 S a, upd s.2.2.1 S b, upd s.2.2.2 S c) := by
  unfold rr_X0_add
  rw [hs, if_pos (show nI S < Int32.ofNat n1 from nI_lt h h1)]
  simp only [ck_in h h1, lt_eq, nI_1, nI_clamp (show S < 2 ^ 31 by omega)]
theorem all2 (fu : Nat) {n1 n2 M S : Nat} {s2 : ZT_2} (hM : s2.1 = nI M) (hM2 : M ≤ n2) (hn2 : n2 < 2 ^ 31) (hS : S + M ≤ n1) (hn1 : n1 < 2 ^ 31) : ∀ (d k n : Nat) (u : ZT_2), k + d = M → d < n → u.1 = nI (S + k) → ∃ u' : ZT_2, rr_X2_addAll_2 fu n1 n2 s2 n (nI k) u = some u' ∧ u'.1 = nI (S + M) ∧ (∀ i, i < S + k → F5 u' u i i) ∧ (∀ i, k ≤ i → i < M → F5 u' s2 (S + i) i) := by
  intro d
  induction d with
  | zero =>
    intro k n u hk hn hu
    obtain ⟨n, rfl⟩ : ∃ q, n = q + 1 := ⟨n - 1, by omega⟩
    have : k = M := by omega
    subst this
    have e9 : rr_X2_addAll_2 fu n1 n2 s2 (n + 1) = rr_X2_addAll_2_b fu n1 n2 s2 (rr_X2_addAll_2 fu n1 n2 s2 n) := rfl
    rw [e9]
    unfold rr_X2_addAll_2_b
    rw [hM, if_pos (nI_le (Nat.le_refl k) (by omega))]
    exact ⟨u, rfl, hu, fun i _ => ⟨rfl, rfl, rfl, rfl, rfl⟩, fun i h1 h2 => absurd h2 (by omega)⟩
  | succ d ih =>
    intro k n u hk hn hu
    obtain ⟨n, rfl⟩ : ∃ q, n = q + 1 := ⟨n - 1, by omega⟩
    have e9 : rr_X2_addAll_2 fu n1 n2 s2 (n + 1) = rr_X2_addAll_2_b fu n1 n2 s2 (rr_X2_addAll_2 fu n1 n2 s2 n) := rfl
    rw [e9]
    unfold rr_X2_addAll_2_b
    rw [hM, if_neg (nI_ge (by omega) (by omega))]
    simp only [ck_in (show k < n2 by omega) hn2, nI_clamp (show k < 2 ^ 31 by omega), r2_add fu hu (show S + k < n1 by omega) hn1, Option.bind_some, lt_eq, nI_1]
    obtain ⟨u', f1, f2, f3, f4⟩ := ih (k + 1) n (nI (S + k + 1), upd u.2.1 (S + k) (s2.2.1 k), upd u.2.2.1 (S + k) (s2.2.2.1 k), upd u.2.2.2.1 (S + k) (s2.2.2.2.1 k), upd u.2.2.2.2.1 (S + k) (s2.2.2.2.2.1 k), upd u.2.2.2.2.2 (S + k) (s2.2.2.2.2.2 k)) (by omega) (by omega) rfl
    refine ⟨u', f1, f2, fun i hi => F5_trans (f3 i (by omega)) ?_, fun i h1 h2 => ?_⟩
    · have ne : i ≠ S + k := by omega
      exact ⟨pk_un ne, pk_un ne, pk_un ne, pk_un ne, pk_un ne⟩
    · by_cases e : i = k
      · subst e
        exact F5_trans (f3 (S + i) (by omega)) ⟨pk_us, pk_us, pk_us, pk_us, pk_us⟩
      · exact f4 i (by omega) h2
theorem cpy0 (fu : Nat) {n1 n2 M : Nat} {s2 : ZT_0} (hM : s2.1 = nI M) (hM2 : M ≤ n2) (hn2 : n2 < 2 ^ 31) (hS : M ≤ n1) (hn1 : n1 < 2 ^ 31) : ∀ (d k n : Nat) (u : ZT_0), k + d = M → d < n → u.1 = nI k → ∃ u' : ZT_0, rr_X0_copyFrom_7 fu n1 n2 s2 n (nI k) u = some u' ∧ u'.1 = nI M ∧ (∀ i, i < k → F3 u' u i i) ∧ (∀ i, k ≤ i → i < M → F3 u' s2 i i) := by
  intro d
  induction d with
  | zero =>
    intro k n u hk hn hu
    obtain ⟨n, rfl⟩ : ∃ q, n = q + 1 := ⟨n - 1, by omega⟩
    have : k = M := by omega
    subst this
    have e9 : rr_X0_copyFrom_7 fu n1 n2 s2 (n + 1) = rr_X0_copyFrom_7_b fu n1 n2 s2 (rr_X0_copyFrom_7 fu n1 n2 s2 n) := rfl
    rw [e9]
    unfold rr_X0_copyFrom_7_b
    rw [hM, if_pos (nI_le (Nat.le_refl k) (by omega))]
    exact ⟨u, rfl, hu, fun i _ => ⟨rfl, rfl, rfl⟩, fun i h1 h2 => absurd h2 (by omega)⟩
  | succ d ih =>
    intro k n u hk hn hu
    obtain ⟨n, rfl⟩ : ∃ q, n = q + 1 := ⟨n - 1, by omega⟩
    have e9 : rr_X0_copyFrom_7 fu n1 n2 s2 (n + 1) = rr_X0_copyFrom_7_b fu n1 n2 s2 (rr_X0_copyFrom_7 fu n1 n2 s2 n) := rfl
    rw [e9]
    unfold rr_X0_copyFrom_7_b
    rw [hM, if_neg (nI_ge (by omega) (by omega))]
    simp only [ck_in (show k < n2 by omega) hn2, nI_clamp (show k < 2 ^ 31 by omega), r0_add fu hu (show k < n1 by omega) hn1, Option.bind_some, lt_eq, nI_1]
    obtain ⟨u', f1, f2, f3, f4⟩ := ih (k + 1) n (nI (k + 1), upd u.2.1 k (s2.2.1 k), upd u.2.2.1 k (s2.2.2.1 k), upd u.2.2.2 k (s2.2.2.2 k)) (by omega) (by omega) rfl
    refine ⟨u', f1, f2, fun i hi => F3_trans (f3 i (by omega)) ?_, fun i h1 h2 => ?_⟩
    · have ne : i ≠ k := by omega
      exact ⟨pk_un ne, pk_un ne, pk_un ne⟩
    · by_cases e : i = k
      · subst e
        exact F3_trans (f3 i (by omega)) ⟨pk_us, pk_us, pk_us⟩
      · exact f4 i (by omega) h2
theorem r0_copy (fu : Nat) (hfu : 100 ≤ fu) {n1 n2 M : Nat} {s2 : ZT_0} (hM : s2.1 = nI M) (hM2 : M ≤ n2) (hn2 : n2 ≤ 40) (hS : M ≤ n1) (hn1 : n1 ≤ 40) (s1 : ZT_0) : ∃ u' : ZT_0, rr_X0_copyFrom fu n1 n2 s1 s2 = some u' ∧ u'.1 = nI M ∧ ∀ i, i < M → F3 u' s2 i i := by
  obtain ⟨u', f1, f2, _, f4⟩ := cpy0 fu hM hM2 (by omega) hS (by omega) M 0 fu ((0 : Int32), s1.2) (by omega) (by omega) rfl
  exact ⟨u', f1, f2, fun i hi => f4 i (Nat.zero_le i) hi⟩
theorem r2_copy (fu : Nat) (hfu : 100 ≤ fu) {M : Nat} {s2 : ZT_2} (hM : s2.1 = nI M) (hM2 : M ≤ 40) (s1 : ZT_2) : ∃ u' : ZT_2, rr_X2_copyFrom fu 40 40 s1 s2 = some u' ∧ u'.1 = nI M ∧ ∀ i, i < M → F5 u' s2 i i := by
  obtain ⟨u', f1, f2, _, f4⟩ := all2 fu (S := 0) hM hM2 (show 40 < 2 ^ 31 by omega) (show 0 + M ≤ 40 by omega) (by omega) M 0 fu ((0 : Int32), s1.2) (by omega) (by omega) rfl
  rw [Nat.zero_add] at f2
  refine ⟨u', ?_, f2, fun i hi => by have := f4 i (Nat.zero_le i) hi; rw [Nat.zero_add] at this; exact this⟩
  unfold rr_X2_copyFrom
  have f1' : rr_X2_addAll fu 40 40 ((0 : Int32), s1.2) s2 = some u' := f1
  rw [f1', Option.bind_some]
theorem town_copy (fu : Nat) (hfu : 100 ≤ fu) {t : ZT_8} {wo ye st ki ho sh su bi : Nat → Int32} {many law er bm : Int32} (h : TownR t wo ye st ki ho sh su bi many law er bm) (a : ZT_8) : ∃ t' : ZT_8, rr_X8_copyFrom fu a t = some t' ∧ TownR t' wo ye st ki ho sh su bi many law er bm := by
  obtain ⟨N, E, B, hC, e1, e2, hl, hE, e3, hB, e4⟩ := h
  obtain ⟨u1, a1, a2, a3⟩ := r2_copy fu hfu hC.1 hC.2.1 a.2.1
  obtain ⟨u2, b1, b2, b3⟩ := r0_copy fu hfu (n1 := 24) (n2 := 24) hB.1 hB.2.1 (by omega) hB.2.1 (by omega) a.2.2.1
  obtain ⟨u3, c1, c2, c3⟩ := r0_copy fu hfu (n1 := 6) (n2 := 6) hE.1 hE.2.1 (by omega) hE.2.1 (by omega) a.2.2.2
  refine ⟨(t.1, u1, u2, u3), ?_, N, E, B, ⟨a2, hC.2.1, fun i hi => ?_, hC.2.2.2⟩, e1, e2, hl, ⟨c2, hE.2.1, fun i hi => ?_, hE.2.2.2⟩, e3, ⟨b2, hB.2.1, fun i hi => ?_, hB.2.2.2⟩, e4⟩
  · unfold rr_X8_copyFrom
    rw [a1, Option.bind_some, b1, Option.bind_some, c1, Option.bind_some]
  · have h1 := a3 i hi
    have h2 := hC.2.2.1 i hi
    exact ⟨h1.1.trans h2.1, h1.2.1.trans h2.2.1, h1.2.2.1.trans h2.2.2.1, h1.2.2.2.1.trans h2.2.2.2.1, h1.2.2.2.2.trans h2.2.2.2.2⟩
  · have h1 := c3 i hi
    have h2 := hE.2.2.1 i hi
    exact ⟨h1.2.1.trans h2.1, h1.2.2.trans h2.2⟩
  · have h1 := b3 i hi
    have h2 := hB.2.2.1 i hi
    exact ⟨h1.1.trans h2.1, h1.2.1.trans h2.2.1, h1.2.2.trans h2.2.2⟩
theorem town_congr {t : ZT_8} {wo ye st ki ho sh su bi wo' ye' st' ki' ho' sh' su' bi' : Nat → Int32} {many law er bm : Int32} (h : TownR t wo ye st ki ho sh su bi many law er bm) (h1 : ∀ i, i < 40 → wo' i = wo i) (h2 : ∀ i, i < 40 → ye' i = ye i) (h3 : ∀ i, i < 40 → st' i = st i) (h4 : ∀ i, i < 40 → ki' i = ki i) (h5 : ∀ i, i < 40 → ho' i = ho i) (h6 : ∀ i, i < 6 → sh' i = sh i) (h7 : ∀ i, i < 6 → su' i = su i) (h8 : ∀ i, i < 72 → bi' i = bi i) : TownR t wo' ye' st' ki' ho' sh' su' bi' many law er bm := by
  obtain ⟨N, E, B, hC, e1, e2, hl, hE, e3, hB, e4⟩ := h
  refine ⟨N, E, B, ⟨hC.1, hC.2.1, fun i hi => ?_, fun i hi => ?_⟩, e1, e2, hl, ⟨hE.1, hE.2.1, fun i hi => ?_, fun i hi => ?_⟩, e3, ⟨hB.1, hB.2.1, fun i hi => ?_, fun i hi => ?_⟩, e4⟩
  · have hN := hC.2.1
    rw [h1 i (by omega), h2 i (by omega), h3 i (by omega), h4 i (by omega), h5 i (by omega)]
    exact hC.2.2.1 i hi
  · have hN := hC.2.1
    rw [h1 i (by omega), h2 i (by omega), h3 i (by omega), h4 i (by omega), h5 i (by omega)]
    exact hC.2.2.2 i hi
  · have hN := hE.2.1
    rw [h6 i (by omega), h7 i (by omega)]
    exact hE.2.2.1 i hi
  · have hN := hE.2.1
    rw [h6 i (by omega), h7 i (by omega)]
    exact hE.2.2.2 i hi
  · have hN := hB.2.1
    rw [h8 (3 * i) (by omega), h8 (3 * i + 1) (by omega), h8 (3 * i + 2) (by omega)]
    exact hB.2.2.1 i hi
  · have hN := hB.2.1
    rw [h8 (3 * i) (by omega), h8 (3 * i + 1) (by omega), h8 (3 * i + 2) (by omega)]
    exact hB.2.2.2 i hi
theorem ck4_0 {α : Type} {x : Option α} : ck_ (0 : Int32) 4 x = x := ck_in (k := 0) (n := 4) (by omega) (by omega)
theorem ck4_1 {α : Type} {x : Option α} : ck_ (1 : Int32) 4 x = x := ck_in (k := 1) (n := 4) (by omega) (by omega)
theorem ck4_2 {α : Type} {x : Option α} : ck_ (2 : Int32) 4 x = x := ck_in (k := 2) (n := 4) (by omega) (by omega)
theorem ck4_3 {α : Type} {x : Option α} : ck_ (3 : Int32) 4 x = x := ck_in (k := 3) (n := 4) (by omega) (by omega)
theorem cl_0 : (0 : Int32).toNatClampNeg = 0 := by decide
theorem cl_1 : (1 : Int32).toNatClampNeg = 1 := by decide
theorem cl_2 : (2 : Int32).toNatClampNeg = 2 := by decide
theorem cl_3 : (3 : Int32).toNatClampNeg = 3 := by decide
abbrev wKp (m : ZT_10) (kp : Nat → Int32) : ZT_10 := (m.1, m.2.1, m.2.2.1, m.2.2.2.1, m.2.2.2.2.1, m.2.2.2.2.2.1, m.2.2.2.2.2.2.1, m.2.2.2.2.2.2.2.1, (m.2.2.2.2.2.2.2.2.1.1, kp, m.2.2.2.2.2.2.2.2.1.2.2), m.2.2.2.2.2.2.2.2.2)
abbrev plM (m : ZT_10) (k : Nat) : Int32 := pl8 m.1.1 m.1.2.1 m.1.2.2.1 m.1.2.2.2.1 m.1.2.2.2.2.1 m.2.1.1 m.2.1.2.1 m.2.2.1.1 k
theorem im2 (fu : Nat) (m : ZT_10) : ∀ (d k n : Nat) (kp : Nat → Int32), k + d = 284 → d < n → (∀ j, j < k → kp j = plM m j) → ∃ kp' : Nat → Int32, (∀ j, j < 284 → kp' j = plM m j) ∧ rr_X10_image_2 fu n (nI k) (wKp m kp) = some ((1 : Int32), (m.1, m.2.1, m.2.2.1, m.2.2.2.1, m.2.2.2.2.1, m.2.2.2.2.2.1, m.2.2.2.2.2.2.1, m.2.2.2.2.2.2.2.1, ((1 : Int32), kp', upd (upd (upd (upd m.2.2.2.2.2.2.2.2.1.2.2 0 m.1.2.2.2.2.2.1) 1 m.1.2.2.2.2.2.2) 2 m.2.1.2.2) 3 m.2.2.1.2), m.2.2.2.2.2.2.2.2.2)) := by
  intro d
  induction d with
  | zero =>
    intro k n kp hk hn hz
    obtain ⟨n, rfl⟩ : ∃ q, n = q + 1 := ⟨n - 1, by omega⟩
    have : k = 284 := by omega
    subst this
    have e9 : rr_X10_image_2 fu (n + 1) = rr_X10_image_2_b fu (rr_X10_image_2 fu n) := rfl
    rw [e9]
    unfold rr_X10_image_2_b
    rw [if_pos (show (284 : Int32) ≤ nI 284 by decide), ck4_0, ck4_1, ck4_2, ck4_3, cl_0, cl_1, cl_2, cl_3]
    exact ⟨kp, hz, rfl⟩
  | succ d ih =>
    intro k n kp hk hn hz
    obtain ⟨n, rfl⟩ : ∃ q, n = q + 1 := ⟨n - 1, by omega⟩
    have e9 : rr_X10_image_2 fu (n + 1) = rr_X10_image_2_b fu (rr_X10_image_2 fu n) := rfl
    rw [e9]
    unfold rr_X10_image_2_b
    rw [if_neg (show ¬ (284 : Int32) ≤ nI k from nI_ge (b := 284) (by omega) (by omega)), ca0 fu (wKp m kp) (show k < 284 by omega), Option.bind_some, ck_in (show k < 284 by omega) (by omega), lt_eq, nI_1, nI_clamp (show k < 2 ^ 31 by omega)]
    refine ih (k + 1) n (upd kp k (plM m k)) (by omega) (by omega) (fun j hj => ?_)
    by_cases e : j = k
    · subst e; rw [pk_us]
    · rw [pk_un e]; exact hz j (by omega)
theorem re12 (fu : Nat) (m : ZT_10) : ∀ (d k n : Nat) (wo ye st ki ho sh su bi : Nat → Int32), k + d = 284 → d < n → (∀ j, j < k → pl8 wo ye st ki ho sh su bi j = m.2.2.2.2.2.2.2.2.1.2.1 j) → ∃ (wo' ye' st' ki' ho' sh' su' bi' : Nat → Int32), (∀ j, j < 284 → pl8 wo' ye' st' ki' ho' sh' su' bi' j = m.2.2.2.2.2.2.2.2.1.2.1 j) ∧ rr_X10_restore_12 fu n (nI k) (wTw m wo ye st ki ho sh su bi) = some ((1 : Int32), ((wo', ye', st', ki', ho', m.2.2.2.2.2.2.2.2.1.2.2 0, m.2.2.2.2.2.2.2.2.1.2.2 1), (sh', su', m.2.2.2.2.2.2.2.2.1.2.2 2), (bi', m.2.2.2.2.2.2.2.2.1.2.2 3), m.2.2.2)) := by
  intro d
  induction d with
  | zero =>
    intro k n wo ye st ki ho sh su bi hk hn hz
    obtain ⟨n, rfl⟩ : ∃ q, n = q + 1 := ⟨n - 1, by omega⟩
    have : k = 284 := by omega
    subst this
    have e9 : rr_X10_restore_12 fu (n + 1) = rr_X10_restore_12_b fu (rr_X10_restore_12 fu n) := rfl
    rw [e9]
    unfold rr_X10_restore_12_b
    rw [if_pos (show (284 : Int32) ≤ nI 284 by decide), ck4_0, lt_eq, ck4_1, lt_eq, ck4_2, lt_eq, ck4_3, lt_eq, cl_0, cl_1, cl_2, cl_3]
    exact ⟨wo, ye, st, ki, ho, sh, su, bi, hz, rfl⟩
  | succ d ih =>
    intro k n wo ye st ki ho sh su bi hk hn hz
    obtain ⟨n, rfl⟩ : ∃ q, n = q + 1 := ⟨n - 1, by omega⟩
    have e9 : rr_X10_restore_12 fu (n + 1) = rr_X10_restore_12_b fu (rr_X10_restore_12 fu n) := rfl
    rw [e9]
    unfold rr_X10_restore_12_b
    rw [if_neg (show ¬ (284 : Int32) ≤ nI k from nI_ge (b := 284) (by omega) (by omega)), ck_in (show k < 284 by omega) (by omega), nI_clamp (show k < 2 ^ 31 by omega)]
    obtain ⟨r, wo', ye', st', ki', ho', sh', su', bi', e, e1, e2⟩ := ca1 fu m (m.2.2.2.2.2.2.2.2.1.2.1 k) wo ye st ki ho sh su bi (show k < 284 by omega)
    have e' : rr_X10_carried fu (nI k) ((wTw m wo ye st ki ho sh su bi).2.2.2.2.2.2.2.2.1.2.1 k) (1 : Int32) (wTw m wo ye st ki ho sh su bi) = some (r, wTw m wo' ye' st' ki' ho' sh' su' bi') := e
    rw [e', Option.bind_some, lt_eq, nI_1]
    refine ih (k + 1) n wo' ye' st' ki' ho' sh' su' bi' (by omega) (by omega) (fun j hj => ?_)
    by_cases q : j = k
    · subst q; exact e1
    · rw [e2 j (by omega) q]; exact hz j (by omega)
theorem st_image (fu : Nat) (hfu : 300 ≤ fu) : St_image fu Rel := by
  intro c m h
  obtain ⟨hT, hI, hP, hS, hK⟩ := h
  unfold rr_X9_image rr_X10_image
  obtain ⟨t, a1, a2⟩ := town_copy fu (by omega) hT c.2.1
  obtain ⟨kp, b1, b2⟩ := im2 fu m 284 0 fu m.2.2.2.2.2.2.2.2.1.2.1 (by omega) (by omega) (fun j hj => absurd hj (by omega))
  have b2' : rr_X10_image_2 fu fu (0 : Int32) m = _ := b2
  rw [a1, Option.bind_some, b2']
  refine ⟨_, _, _, rfl, rfl, ⟨hT, ⟨rfl, Or.inr ⟨rfl, ?_⟩⟩, hP, hS, hK⟩⟩
  refine town_congr (many := m.1.2.2.2.2.2.1) (law := m.1.2.2.2.2.2.2) (er := m.2.1.2.2) (bm := m.2.2.1.2) a2 ?_ ?_ ?_ ?_ ?_ ?_ ?_ ?_
  · intro i hi
    have := (b1 (0 + i) (by omega)).trans (pl_wo _ _ _ _ _ _ _ _ hi)
    rw [Nat.zero_add] at this
    exact this
  · exact fun i hi => (b1 (40 + i) (by omega)).trans (pl_ye _ _ _ _ _ _ _ _ hi)
  · exact fun i hi => (b1 (80 + i) (by omega)).trans (pl_st _ _ _ _ _ _ _ _ hi)
  · exact fun i hi => (b1 (120 + i) (by omega)).trans (pl_ki _ _ _ _ _ _ _ _ hi)
  · exact fun i hi => (b1 (160 + i) (by omega)).trans (pl_ho _ _ _ _ _ _ _ _ hi)
  · exact fun i hi => (b1 (200 + i) (by omega)).trans (pl_sh _ _ _ _ _ _ _ _ hi)
  · exact fun i hi => (b1 (206 + i) (by omega)).trans (pl_su _ _ _ _ _ _ _ _ hi)
  · exact fun i hi => (b1 (212 + i) (by omega)).trans (pl_bi _ _ _ _ _ _ _ _ hi)
theorem st_restore (fu : Nat) (hfu : 300 ≤ fu) : St_restore fu Rel := by
  intro c m h
  have h0 := h
  obtain ⟨hT, ⟨i1, i2⟩, hP, hS, hK⟩ := h
  unfold rr_X9_restore rr_X10_restore
  rcases i2 with i2 | ⟨i2, i3⟩
  · rw [if_pos (i1.trans i2), if_pos i2]
    exact ⟨_, _, _, rfl, rfl, h0⟩
  · have ne : ¬ m.2.2.2.2.2.2.2.2.1.1 = 0 := by rw [i2]; decide
    rw [if_neg (by rw [i1]; exact ne), if_neg ne]
    obtain ⟨t, a1, a2⟩ := town_copy fu (by omega) i3 c.1
    obtain ⟨wo, ye, st, ki, ho, sh, su, bi, b1, b2⟩ := re12 fu m 284 0 fu m.1.1 m.1.2.1 m.1.2.2.1 m.1.2.2.2.1 m.1.2.2.2.2.1 m.2.1.1 m.2.1.2.1 m.2.2.1.1 (by omega) (by omega) (fun j hj => absurd hj (by omega))
    have b2' : rr_X10_restore_12 fu fu (0 : Int32) m = _ := b2
    rw [a1, Option.bind_some, b2']
    refine ⟨_, _, _, rfl, rfl, ⟨?_, ⟨i1, Or.inr ⟨i2, i3⟩⟩, hP, hS, Or.inl rfl⟩⟩
    refine town_congr a2 ?_ ?_ ?_ ?_ ?_ ?_ ?_ ?_
    · intro i hi
      have := (pl_wo wo ye st ki ho sh su bi hi).symm.trans (b1 (0 + i) (by omega))
      rw [Nat.zero_add] at this
      exact this
    · exact fun i hi => (pl_ye wo ye st ki ho sh su bi hi).symm.trans (b1 (40 + i) (by omega))
    · exact fun i hi => (pl_st wo ye st ki ho sh su bi hi).symm.trans (b1 (80 + i) (by omega))
    · exact fun i hi => (pl_ki wo ye st ki ho sh su bi hi).symm.trans (b1 (120 + i) (by omega))
    · exact fun i hi => (pl_ho wo ye st ki ho sh su bi hi).symm.trans (b1 (160 + i) (by omega))
    · exact fun i hi => (pl_sh wo ye st ki ho sh su bi hi).symm.trans (b1 (200 + i) (by omega))
    · exact fun i hi => (pl_su wo ye st ki ho sh su bi hi).symm.trans (b1 (206 + i) (by omega))
    · exact fun i hi => (pl_bi wo ye st ki ho sh su bi hi).symm.trans (b1 (212 + i) (by omega))
