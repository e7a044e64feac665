-- ===== the day is run (t) =====
def Simt (c : ZT_9) (m : ZT_10) (N : Nat) (l : List Nat) (x : Option (Int32 × ZT_9)) (y : Option (Int32 × ZT_10)) : Prop := ∃ (r : Int32) (b' : ZT_1) (ho : Nat → Int32) (g : (Nat → Int32) × Int32) (pb : Int64 × Int64 × Int32 × Int32 × Int32) (pa : Nat → Int64), x = some (r, wT c b') ∧ y = some (r, wR m ho g pb pa) ∧ (∀ i, i < N → 0 ≤ ho i ∧ ho i ≤ 7) ∧ BoardOK b'.1 ho N l
theorem dstep_t (fu : Nat) (hfu : 100 ≤ fu) {c : ZT_9} {m : ZT_10} {N B : Nat} {l : List Nat} (hM : MOK m N) (hl : LawOK m) (hR : RankOK c.2.2.2.2.2.1 (keyM m m.1.2.2.2.2.2.2) m.1.1 m.1.2.2.2.2.2.2 N l) (hD : DayR c.1.2.2.1 m.2.2.1.1 B) {i : Nat} (hi : i < B) {b : ZT_1} {ho : Nat → Int32} (g : (Nat → Int32) × Int32) (pb : Int64 × Int64 × Int32 × Int32 × Int32) (pa : Nat → Int64) (h7 : ∀ i, i < N → 0 ≤ ho i ∧ ho i ≤ 7) (hB : BoardOK b.1 ho N l) : ∃ (v : Int32) (b' : ZT_1) (ho' : Nat → Int32) (g' : (Nat → Int32) × Int32) (pb' : Int64 × Int64 × Int32 × Int32 × Int32), rr_X9_runBill_t fu (nI i) (wT c b) = some (v, wT c b') ∧ rr_X10_doBill fu (m.2.2.1.1 (3 * i)) (m.2.2.1.1 (3 * i + 1)) (m.2.2.1.1 (3 * i + 2)) (wR m ho g pb pa) = some (v, wR m ho' g' pb' pa) ∧ (∀ i, i < N → 0 ≤ ho' i ∧ ho' i ≤ 7) ∧ BoardOK b'.1 ho' N l := by
  have hB24 := hD.2.1
  have hM1 : MOK (wR m ho g pb pa) N := mok_ho hM ⟨rfl, rfl, rfl, rfl, rfl⟩ h7
  have hd := hD.2.2.1 i hi
  have hd2 := hD.2.2.2 i hi
  have cls : ∀ v b', rr_X1_meets fu (m.2.2.1.1 (3 * i)) (m.2.2.1.1 (3 * i + 1)) (m.2.2.1.1 (3 * i + 2)) b c.2.2.2.2.2.1 = some (v, b') → (v = 0 ∨ v = 1) → rr_X9_runBill_t fu (nI i) (wT c b) = some (v, wT c b') := by
    intro v b' h1 h2
    unfold rr_X9_runBill_t
    rw [ck_in (show i < 24 by omega) (by omega), ck_in (show i < 24 by omega) (by omega), ck_in (show i < 24 by omega) (by omega), nI_clamp (show i < 2 ^ 31 by omega)]
    have h3 : rr_X1_meets fu (c.1.2.2.1.2.1 i) (c.1.2.2.1.2.2.1 i) (c.1.2.2.1.2.2.2 i) b c.2.2.2.2.2.1 = some (v, b') := by rw [hd.1, hd.2.1, hd.2.2]; exact h1
    show (rr_X1_meets fu (c.1.2.2.1.2.1 i) (c.1.2.2.1.2.2.1 i) (c.1.2.2.1.2.2.2 i) b c.2.2.2.2.2.1).bind _ = _
    rw [h3, Option.bind_some]
    rcases h2 with rfl | rfl
    · rw [zk_0]
    · rw [zk_1]
  rcases bill_both fu hfu hM1 hl hR hB (sum := m.2.2.1.1 (3 * i + 2)) hd2.1 hd2.2.1 with ⟨ho', g', pb', b', d1, d2, d3, d4, _⟩ | ⟨g', pb', b', d1, d2, d3⟩
  · exact ⟨1, b', ho', g', pb', cls 1 b' d1 (Or.inr rfl), d2, d3, d4⟩
  · exact ⟨0, b', ho, g', pb', cls 0 b' d1 (Or.inl rfl), d2, h7, by rw [d3]; exact hB⟩
theorem run15_t (fu : Nat) (hfu : 100 ≤ fu) {c : ZT_9} {m : ZT_10} {N B : Nat} {l : List Nat} (hM : MOK m N) (hl : LawOK m) (hR : RankOK c.2.2.2.2.2.1 (keyM m m.1.2.2.2.2.2.2) m.1.1 m.1.2.2.2.2.2.2 N l) (hD : DayR c.1.2.2.1 m.2.2.1.1 B) (hb : m.2.2.1.2 = nI B) {n time : Nat} (hn : n ≤ 50) (ht : time < n) (r6 : Int32 → Int32 → Int32 → ZT_9 → Option (Int32 × ZT_9)) (IH : ∀ (n4 : Nat) (b : ZT_1) (ho : Nat → Int32) (g : (Nat → Int32) × Int32) (pb : Int64 × Int64 × Int32 × Int32 × Int32) (pa : Nat → Int64), n * B - (time + 1) * B < n4 → (∀ i, i < N → 0 ≤ ho i ∧ ho i ≤ 7) → BoardOK b.1 ho N l → Simt c m N l (r6 (nI n) (nI ((time + 1) * B)) (nI (time + 1)) (wT c b)) (rr_X10_runDay_4 fu n4 (nI n) (nI ((time + 1) * B)) (nI ((time + 1) * B)) (wR m ho g pb pa))) : ∀ (d i n15 n4 : Nat) (b : ZT_1) (ho : Nat → Int32) (g : (Nat → Int32) × Int32) (pb : Int64 × Int64 × Int32 × Int32 × Int32) (pa : Nat → Int64), i + d = B → d < n15 → n * B - (time * B + i) < n4 → (∀ i, i < N → 0 ≤ ho i ∧ ho i ≤ 7) → BoardOK b.1 ho N l → Simt c m N l (rr_X9_runDay_t_15 fu r6 n15 (nI n) (nI (time * B + i)) (nI time) (nI i) (wT c b)) (rr_X10_runDay_4 fu n4 (nI n) (nI (time * B + i)) (nI (time * B + i)) (wR m ho g pb pa)) := by
  have hB24 := hD.2.1
  have hnb : n * B ≤ 50 * 24 := Nat.mul_le_mul hn hB24
  have htb : (time + 1) * B ≤ n * B := Nat.mul_le_mul_right B ht
  have hts : (time + 1) * B = time * B + B := Nat.succ_mul time B
  intro d
  induction d with
  | zero =>
    intro i n15 n4 b ho g pb pa hi hn15 hn4 h7 hB
    obtain ⟨n15, rfl⟩ : ∃ q, n15 = q + 1 := ⟨n15 - 1, by omega⟩
    have : i = B := by omega
    subst this
    have e9 : rr_X9_runDay_t_15 fu r6 (n15 + 1) = rr_X9_runDay_t_15_b fu r6 (rr_X9_runDay_t_15 fu r6 n15) := rfl
    rw [e9]
    unfold rr_X9_runDay_t_15_b
    rw [if_pos (show c.1.2.2.1.1 ≤ nI i by rw [hD.1]; exact nI_le (Nat.le_refl i) (by omega)), lt_eq, nI_1, ← hts]
    exact IH n4 b ho g pb pa (by omega) h7 hB
  | succ d ih =>
    intro i n15 n4 b ho g pb pa hi hn15 hn4 h7 hB
    obtain ⟨n15, rfl⟩ : ∃ q, n15 = q + 1 := ⟨n15 - 1, by omega⟩
    obtain ⟨n4, rfl⟩ : ∃ q, n4 = q + 1 := ⟨n4 - 1, by omega⟩
    have e9 : rr_X9_runDay_t_15 fu r6 (n15 + 1) = rr_X9_runDay_t_15_b fu r6 (rr_X9_runDay_t_15 fu r6 n15) := rfl
    have e8 : rr_X10_runDay_4 fu (n4 + 1) = rr_X10_runDay_4_b fu (rr_X10_runDay_4 fu n4) := rfl
    rw [e9, e8]
    unfold rr_X9_runDay_t_15_b rr_X10_runDay_4_b
    have hiB : i < B := by omega
    have hmod : (time * B + i) % B = i := by rw [Nat.mul_comm time B, Nat.mul_add_mod, Nat.mod_eq_of_lt hiB]
    obtain ⟨v, b', ho', g', pb', s1, s2, s3, s4⟩ := dstep_t fu hfu (c := c) hM hl hR hD hiB (b := b) g pb pa h7 hB
    have hdoB : ∀ (k : (Int32 × ZT_10) → Option (Int32 × ZT_10)), (if nI n * nI B ≤ nI (time * B + i) then some (nI (time * B + i), wR m ho g pb pa) else nz_ (nI B) (lt_ (α := Int32) (nI (time * B + i) - nI (time * B + i) / nI B * nI B) (fun z5 => ck_ ((3 : Int32) * z5) 72 (ck_ (((3 : Int32) * z5) + (1 : Int32)) 72 (ck_ (((3 : Int32) * z5) + (2 : Int32)) 72 ((rr_X10_doBill fu (m.2.2.1.1 ((3 : Int32) * z5).toNatClampNeg) (m.2.2.1.1 (((3 : Int32) * z5) + (1 : Int32)).toNatClampNeg) (m.2.2.1.1 (((3 : Int32) * z5) + (2 : Int32)).toNatClampNeg) (wR m ho g pb pa)).bind k)))))) = k (v, wR m ho' g' pb' pa) := by
      intro k
      have e2 : nI (3 * i + 1) + 1 = nI (3 * i + 2) := nI_1 _
      have m1 : nI n * nI B = nI (n * B) := mulN n B
      have m3 : (3 : Int32) * nI i = nI (3 * i) := mulN 3 i
      have a2 : nI (3 * i) + (2 : Int32) = nI (3 * i + 2) := nI_add (3 * i) 2
      rw [m1, if_neg (show ¬ nI (n * B) ≤ nI (time * B + i) from nI_ge (by omega) (by omega))]
      unfold nz_
      rw [if_neg (nI_ne0 (show 0 < B by omega) (by omega)), pk_rem (by omega) (by omega) (by omega), hmod, lt_eq, m3, nI_1, a2, ck_in (show 3 * i < 72 by omega) (by omega), ck_in (show 3 * i + 1 < 72 by omega) (by omega), ck_in (show 3 * i + 2 < 72 by omega) (by omega), nI_clamp (show 3 * i < 2 ^ 31 by omega), nI_clamp (show 3 * i + 1 < 2 ^ 31 by omega), nI_clamp (show 3 * i + 2 < 2 ^ 31 by omega), s2, Option.bind_some]
    have hz : (nI (time * B + i) - nI (time * B + i) / nI B * nI B : Int32) = nI i := by rw [pk_rem (by omega) (by omega) (by omega), hmod]
    rw [if_neg (show ¬ c.1.2.2.1.1 ≤ nI i by rw [hD.1]; exact nI_ge (by omega) (by omega)), s1, Option.bind_some]
    simp only [hb, hz, lt_eq]
    simp only [hz, lt_eq] at hdoB
    rw [hdoB]
    by_cases hv : v = 0
    · rw [if_pos (show v = 0 from hv), if_pos (show v = 0 from hv)]
      exact ⟨_, b', ho', g', pb', pa, rfl, rfl, s3, s4⟩
    · rw [if_neg (show ¬ v = 0 from hv), if_neg (show ¬ v = 0 from hv), ck_in (show i < 24 by omega) (by omega)]
      simp only [nI_1, nI_clamp (show i < 2 ^ 31 by omega)]
      have h2 := ih (i + 1) n15 n4 b' ho' g' pb' (vp_updL pa i pb'.1) (by omega) (by omega) (by omega) s3 s4
      rw [← Nat.add_assoc] at h2
      exact h2
theorem run6_t (fu : Nat) (hfu : 100 ≤ fu) {c : ZT_9} {m : ZT_10} {N B : Nat} {l : List Nat} (hM : MOK m N) (hl : LawOK m) (hR : RankOK c.2.2.2.2.2.1 (keyM m m.1.2.2.2.2.2.2) m.1.1 m.1.2.2.2.2.2.2 N l) (hD : DayR c.1.2.2.1 m.2.2.1.1 B) (hb : m.2.2.1.2 = nI B) {n : Nat} (hn : n ≤ 50) : ∀ (e time n6 n4 : Nat) (b : ZT_1) (ho : Nat → Int32) (g : (Nat → Int32) × Int32) (pb : Int64 × Int64 × Int32 × Int32 × Int32) (pa : Nat → Int64), time + e = n → e < n6 → n * B - time * B < n4 → (∀ i, i < N → 0 ≤ ho i ∧ ho i ≤ 7) → BoardOK b.1 ho N l → Simt c m N l (rr_X9_runDay_t_6 fu n6 (nI n) (nI (time * B)) (nI time) (wT c b)) (rr_X10_runDay_4 fu n4 (nI n) (nI (time * B)) (nI (time * B)) (wR m ho g pb pa)) := by
  have hB24 := hD.2.1
  have hnb : n * B ≤ 50 * 24 := Nat.mul_le_mul hn hB24
  intro e
  induction e with
  | zero =>
    intro time n6 n4 b ho g pb pa ht hn6 hn4 h7 hB
    obtain ⟨n6, rfl⟩ : ∃ q, n6 = q + 1 := ⟨n6 - 1, by omega⟩
    obtain ⟨n4, rfl⟩ : ∃ q, n4 = q + 1 := ⟨n4 - 1, by omega⟩
    have : time = n := by omega
    subst this
    have e9 : rr_X9_runDay_t_6 fu (n6 + 1) = rr_X9_runDay_t_6_b fu (rr_X9_runDay_t_6 fu n6) := rfl
    have e8 : rr_X10_runDay_4 fu (n4 + 1) = rr_X10_runDay_4_b fu (rr_X10_runDay_4 fu n4) := rfl
    rw [e9, e8]
    unfold rr_X9_runDay_t_6_b rr_X10_runDay_4_b
    rw [if_pos (nI_le (Nat.le_refl time) (by omega)), if_pos (show nI time * m.2.2.1.2 ≤ nI (time * B) by rw [hb, mulN]; exact nI_le (Nat.le_refl _) (by omega))]
    exact ⟨_, b, ho, g, pb, pa, rfl, rfl, h7, hB⟩
  | succ e ih =>
    intro time n6 n4 b ho g pb pa ht hn6 hn4 h7 hB
    obtain ⟨n6, rfl⟩ : ∃ q, n6 = q + 1 := ⟨n6 - 1, by omega⟩
    have e9 : rr_X9_runDay_t_6 fu (n6 + 1) = rr_X9_runDay_t_6_b fu (rr_X9_runDay_t_6 fu n6) := rfl
    rw [e9]
    unfold rr_X9_runDay_t_6_b
    rw [if_neg (nI_ge (by omega) (by omega))]
    exact run15_t fu hfu hM hl hR hD hb hn (show time < n by omega) (rr_X9_runDay_t_6 fu n6) (fun n4' b' ho' g' pb' pa' q1 q2 q3 => ih (time + 1) n6 n4' b' ho' g' pb' pa' (by omega) (by omega) q1 q2 q3) B 0 fu n4 b ho g pb pa (by omega) (by omega) (by omega) h7 hB
theorem runDay_t (fu : Nat) (hfu : 2000 ≤ fu) {c : ZT_9} {m : ZT_10} {N B : Nat} {l : List Nat} (hM : MOK m N) (hl : LawOK m) (hR : RankOK c.2.2.2.2.2.1 (keyM m m.1.2.2.2.2.2.2) m.1.1 m.1.2.2.2.2.2.2 N l) (hD : DayR c.1.2.2.1 m.2.2.1.1 B) (hb : m.2.2.1.2 = nI B) {n : Nat} (hn : n ≤ 50) (hB : BoardOK c.2.2.2.2.2.2.2.1.1 m.1.2.2.2.2.1 N l) : Simt c m N l (rr_X9_runDay_t fu (nI n) c) (rr_X10_runDay fu (nI n) m) := by
  have hB24 := hD.2.1
  have hnb : n * B ≤ 50 * 24 := Nat.mul_le_mul hn hB24
  have h := run6_t fu (by omega) hM hl hR hD hb hn n 0 fu fu c.2.2.2.2.2.2.2.1 m.1.2.2.2.2.1 m.2.2.2.1 m.2.2.2.2.2.1 m.2.2.2.2.2.2.2.1.1 (by omega) (by omega) (by omega) (fun i hi => (hM.2.2 i hi).2.2.2.2) hB
  rw [Nat.zero_mul] at h
  exact h
