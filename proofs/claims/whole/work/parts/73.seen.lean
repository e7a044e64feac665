-- ===== seen =====
abbrev wOB (m : ZT_10) (o bs : Nat → Int32) : ZT_10 := (m.1, m.2.1, m.2.2.1, m.2.2.2.1, m.2.2.2.2.1, m.2.2.2.2.2.1, (m.2.2.2.2.2.2.1.1, o, bs), m.2.2.2.2.2.2.2)
abbrev itM (m : ZT_10) : Nat → Int64 := m.2.2.2.2.2.2.2.2.2.2.2
/-- the items are these worths -/
def IU (m : ZT_10) (wv : Nat → Nat) (n at_ : Nat) : Prop := n ≤ 4 ∧ at_ + n ≤ 96 ∧ ∀ j, j < n → itM m (at_ + j) = lN (wv j) ∧ wv j ≤ 99
theorem is6 (fu : Nat) {m : ZT_10} {wv : Nat → Nat} {n at_ : Nat} (hI : IU m wv n at_) {sum ch coins : Nat} (hs : sum ≤ 999) (hch : ch ≤ 99) (hc : coins ≤ n) {o bs : Nat → Int32} {p : List Nat} (hlen : p.length = n) (hp : ∀ x ∈ p, x < n) (ha : Arr_ o p) : ∀ (c k f g : Nat), k + c = coins → c < f → g ≤ 99 * k → rr_X10_isSeen_6 fu (wOB m o bs) f (nI at_) (nI sum) (nI coins) (nI ch) (lN g) (nI k) = some (if sn wv sum ch c (p.drop k) g = true then 1 else 0) := by
  obtain ⟨n4, h96, hit⟩ := hI
  intro c
  induction c with
  | zero =>
    intro k f g hk hf hg
    obtain ⟨f, rfl⟩ : ∃ q, f = q + 1 := ⟨f - 1, by omega⟩
    have e9 : rr_X10_isSeen_6 fu (wOB m o bs) (f + 1) = rr_X10_isSeen_6_b fu (wOB m o bs) (rr_X10_isSeen_6 fu (wOB m o bs) f) := rfl
    rw [e9]
    unfold rr_X10_isSeen_6_b
    rw [if_pos (nI_le (show coins ≤ k by omega) (by omega)), nI_l (show sum < 2 ^ 31 by omega), nI_l (show ch < 2 ^ 31 by omega)]
    have q : (lg_cmp (lN g - lN sum) (lN ch) = 0) ↔ (sn wv sum ch 0 (p.drop k) g = true) := by
      rw [lc_eq, Int64.sub_eq_iff_eq_add, lN_add, lN_eq (by omega) (by omega)]
      show _ ↔ decide (g = sum + ch) = true
      rw [decide_eq_true_iff, Nat.add_comm]
    by_cases c : sn wv sum ch 0 (p.drop k) g = true
    · rw [if_pos (q.mpr c), if_pos c]
    · rw [if_neg (fun h => c (q.mp h)), if_neg c]
  | succ c ih =>
    intro k f g hk hf hg
    obtain ⟨f, rfl⟩ : ∃ q, f = q + 1 := ⟨f - 1, by omega⟩
    have e9 : rr_X10_isSeen_6 fu (wOB m o bs) (f + 1) = rr_X10_isSeen_6_b fu (wOB m o bs) (rr_X10_isSeen_6 fu (wOB m o bs) f) := rfl
    rw [e9]
    unfold rr_X10_isSeen_6_b
    have hx := getD_lt hlen hp k (by omega)
    rw [if_neg (nI_ge (show k < coins by omega) (by omega)), nI_l (show sum < 2 ^ 31 by omega), drop_at (show k < p.length by omega)]
    unfold sn
    by_cases q : sum ≤ g
    · rw [if_neg (fun h => by have := (lN_lt (by omega) (by omega)).mp (lc_lt.mp h); omega), if_pos q]
      rw [if_neg (show ¬ (false = true) by decide)]
    · rw [if_pos (lc_lt.mpr ((lN_lt (by omega) (by omega)).mpr (by omega))), if_neg q, ck_in (show k < 6 by omega) (by omega), nI_clamp (show k < 2 ^ 31 by omega)]
      show ck_ (nI at_ + o k) 96 (lt_ (α := Int64) (lN g + itM m (nI at_ + o k).toNatClampNeg) (fun z8 => lt_ (α := Int32) (nI k + 1) (fun z10 => rr_X10_isSeen_6 fu (wOB m o bs) f (nI at_) (nI sum) (nI coins) (nI ch) z8 z10))) = _
      rw [ha k (by omega), nI_add, ck_in (show at_ + p.getD k 0 < 96 by omega) (by omega), nI_clamp (show at_ + p.getD k 0 < 2 ^ 31 by omega), (hit _ hx).1, lN_add, lt_eq, lt_eq, nI_1]
      have := (hit _ hx).2
      exact ih (k + 1) f (g + wv (p.getD k 0)) (by omega) (by omega) (by omega)
theorem sn184 (fu : Nat) (r161 : Int32 → Int32 → Int32 → Int32 → Int32 → Int32 → Int32 → Int32 → ZT_10 → Option (Int32 × ZT_10)) {n : Nat} (hn : n ≤ 4) (y5 y6 y7 y8 y10 : Int32) (m : ZT_10) (o : Nat → Int32) : ∀ (d k f : Nat) (bs : Nat → Int32), k + d = n → d < f → (∀ i, i < k → bs i = o i) → ∃ bs' : Nat → Int32, rr_X10_seen_184 fu r161 f (nI n) y5 y6 y7 y8 y10 (0 : Int32) (nI k) (wOB m o bs) = rr_X10_seen_216 fu r161 (nI n) y5 y6 y7 y8 y10 (0 : Int32) (wOB m o bs') ∧ ∀ i, i < n → bs' i = o i := by
  intro d
  induction d with
  | zero =>
    intro k f bs hk hf hz
    obtain ⟨f, rfl⟩ : ∃ q, f = q + 1 := ⟨f - 1, by omega⟩
    have e9 : rr_X10_seen_184 fu r161 (f + 1) = rr_X10_seen_184_b fu r161 (rr_X10_seen_184 fu r161 f) := rfl
    rw [e9]
    unfold rr_X10_seen_184_b
    refine ⟨bs, ?_, fun i hi => hz i (by omega)⟩
    rw [if_pos (nI_le (by omega) (by omega))]
  | succ d ih =>
    intro k f bs hk hf hz
    obtain ⟨f, rfl⟩ : ∃ q, f = q + 1 := ⟨f - 1, by omega⟩
    have e9 : rr_X10_seen_184 fu r161 (f + 1) = rr_X10_seen_184_b fu r161 (rr_X10_seen_184 fu r161 f) := rfl
    rw [e9]
    unfold rr_X10_seen_184_b
    rw [if_neg (nI_ge (by omega) (by omega)), if_pos rfl, ck_in (show k < 6 by omega) (by omega), lt_eq, ck_in (show k < 6 by omega) (by omega), lt_eq, nI_1, nI_clamp (show k < 2 ^ 31 by omega)]
    refine ih (k + 1) f (upd bs k (o k)) (by omega) (by omega) (fun i hi => ?_)
    by_cases e : i = k
    · subst e; rw [pk_us]
    · rw [pk_un e]; exact hz i (by omega)
def ansS (K : Int32) (s : Nat × List Nat) : Int32 := if s.1 = 0 then -4 else if 0 ≤ K then nI (s.2.getD K.toNatClampNeg 0) else nI s.1
theorem e161 (fu : Nat) {n : Nat} (hn : n ≤ 4) (y5 y6 y7 K y10 : Int32) (hK : K = -1 ∨ ∃ k, k < n ∧ K = nI k) (m : ZT_10) (o : Nat → Int32) {bs : Nat → Int32} {s : Nat × List Nat} (hs : s.1 < 2 ^ 31) (hG : GI n bs s) (g : Nat) : rr_X10_seen_161 fu (g + 1) (nI n) y5 y6 y7 K y10 (nI s.1) (0 : Int32) (wOB m o bs) = some (ansS K s, wOB m o bs) := by
  have e9 : rr_X10_seen_161 fu (g + 1) = rr_X10_seen_161_b fu (rr_X10_seen_161 fu g) := rfl
  rw [e9]
  unfold rr_X10_seen_161_b ansS
  rw [if_pos rfl]
  by_cases z : s.1 = 0
  · rw [if_pos (show nI s.1 = 0 by rw [z]; rfl), if_pos z]
  · rw [if_neg (nI_ne0 (by omega) hs), if_neg z]
    rcases hK with rfl | ⟨k, hk, rfl⟩
    · rw [if_neg (show ¬ (0 : Int32) ≤ -1 by decide), if_neg (show ¬ (0 : Int32) ≤ -1 by decide)]
    · obtain ⟨g1, g2⟩ := hG z
      rw [if_pos (nI_pos' (show k < 2 ^ 31 by omega)), if_pos (nI_pos' (show k < 2 ^ 31 by omega)), ck_in (show k < 6 by omega) (by omega), nI_clamp (show k < 2 ^ 31 by omega)]
      show some (bs k, wOB m o bs) = _
      rw [g2 k (by omega)]
theorem s161 (fu : Nat) (hfu : 100 ≤ fu) {m : ZT_10} {wv : Nat → Nat} {n at_ : Nat} (hn1 : 1 ≤ n) (hI : IU m wv n at_) {sum ch coins : Nat} (hs : sum ≤ 999) (hch : ch ≤ 99) (hc : coins ≤ n) {K : Int32} (hK : K = -1 ∨ ∃ k, k < n ∧ K = nI k) : ∀ (ps : List (List Nat)) (p : List Nat) (g : Nat) (s : Nat × List Nat) (o bs : Nat → Int32), chk n (p :: ps) = true → ps.length + 1 < g → Arr_ o p → GI n bs s → s.1 + ps.length + 1 < 2 ^ 31 → ∃ o' bs' : Nat → Int32, rr_X10_seen_161 fu g (nI n) (nI sum) (nI coins) (nI ch) K (nI at_) (nI s.1) (1 : Int32) (wOB m o bs) = some (ansS K ((p :: ps).foldl (stS (PS wv sum coins ch)) s), wOB m o' bs') := by
  have n4 := hI.1
  have h10 : ¬ (1 : Int32) = 0 := by decide
  intro ps
  induction ps with
  | nil =>
    intro p g s o bs hch2 hg ha hG hb
    obtain ⟨⟨hlen, hp⟩, hnx⟩ := chk_last hch2
    obtain ⟨g, rfl⟩ : ∃ q, g = q + 2 := ⟨g - 2, by rw [List.length_nil] at hg; omega⟩
    have e9 : rr_X10_seen_161 fu (g + 2) = rr_X10_seen_161_b fu (rr_X10_seen_161 fu (g + 1)) := rfl
    rw [e9]
    unfold rr_X10_seen_161_b
    have e6 : rr_X10_isSeen fu (nI at_) (nI sum) (nI coins) (nI ch) (wOB m o bs) = some (if sn wv sum ch coins p 0 = true then 1 else 0) := is6 fu hI hs hch hc (bs := bs) hlen hp ha coins 0 fu 0 (by omega) (by omega) (by omega)
    have eP : (sn wv sum ch coins p 0 = true) ↔ (PS wv sum coins ch p = true) := by
      rw [← jd_sn p coins 0 0 (by omega), Nat.zero_add, decide_eq_true_iff]
    rw [if_neg h10, e6, Option.bind_some, ite_it, List.foldl_cons, List.foldl_nil]
    unfold stS
    by_cases c : PS wv sum coins ch p = true
    · rw [if_pos (eP.mpr c), if_pos c]
      have fin : ∀ (bs' : Nat → Int32) (s' : Nat × List Nat), GI n bs' s' → s'.1 < 2 ^ 31 → rr_X10_seen_219 fu (rr_X10_seen_161 fu (g + 1)) (nI n) (nI sum) (nI coins) (nI ch) K (nI at_) (nI s'.1) (wOB m o bs') = some (ansS K s', wOB m o bs') := by
        intro bs' s' h1 h2
        unfold rr_X10_seen_219
        have en := (m_nextO fu hfu hn1 (by omega) hlen hp ha (wOB m o bs')).1 hnx
        have en' : rr_X10_nextOrder fu (nI n) (wOB m o bs') = some ((0 : Int32), wOB m o bs') := en
        rw [en', Option.bind_some]
        exact e161 fu n4 (nI sum) (nI coins) (nI ch) K (nI at_) hK m o h2 h1 g
      by_cases z : s.1 = 0
      · rw [if_pos z]
        obtain ⟨bs', b1, b2⟩ := sn184 fu (rr_X10_seen_161 fu (g + 1)) n4 (nI sum) (nI coins) (nI ch) K (nI at_) m o n 0 fu bs (by omega) (by omega) (fun i hi => absurd hi (by omega))
        have b1' : rr_X10_seen_184 fu (rr_X10_seen_161 fu (g + 1)) fu (nI n) (nI sum) (nI coins) (nI ch) K (nI at_) (nI s.1) (0 : Int32) (wOB m o bs) = rr_X10_seen_216 fu (rr_X10_seen_161 fu (g + 1)) (nI n) (nI sum) (nI coins) (nI ch) K (nI at_) (0 : Int32) (wOB m o bs') := by rw [z]; exact b1
        rw [b1']
        unfold rr_X10_seen_216
        rw [lt_eq]
        refine ⟨o, bs', ?_⟩
        have := fin bs' (s.1 + 1, p) (fun _ => ⟨hlen, fun i hi => by have hi' : i < p.length := hi; rw [b2 i (by omega)]; exact ha i hi'⟩) (by show s.1 + 1 < _; omega)
        rw [z] at this ⊢
        exact this
      · rw [if_neg z]
        have e8 : rr_X10_seen_184 fu (rr_X10_seen_161 fu (g + 1)) fu (nI n) (nI sum) (nI coins) (nI ch) K (nI at_) (nI s.1) (0 : Int32) (wOB m o bs) = rr_X10_seen_216 fu (rr_X10_seen_161 fu (g + 1)) (nI n) (nI sum) (nI coins) (nI ch) K (nI at_) (nI s.1) (wOB m o bs) := by
          obtain ⟨f, hf⟩ : ∃ q, fu = q + 1 := ⟨fu - 1, by omega⟩
          have e9 : rr_X10_seen_184 fu (rr_X10_seen_161 fu (g + 1)) (f + 1) = rr_X10_seen_184_b fu (rr_X10_seen_161 fu (g + 1)) (rr_X10_seen_184 fu (rr_X10_seen_161 fu (g + 1)) f) := rfl
          rw [show rr_X10_seen_184 fu (rr_X10_seen_161 fu (g + 1)) fu = rr_X10_seen_184 fu (rr_X10_seen_161 fu (g + 1)) (f + 1) from congrArg _ hf, e9]
          unfold rr_X10_seen_184_b
          rw [if_neg (show ¬ nI n ≤ (0 : Int32) from nI_nle (by omega) (by omega)), if_neg (nI_ne0 (by omega) (by omega))]
        rw [e8]
        unfold rr_X10_seen_216
        rw [lt_eq, nI_1]
        exact ⟨o, bs, fin bs (s.1 + 1, s.2) (fun _ => hG z) (by show s.1 + 1 < _; omega)⟩
    · rw [if_neg (fun h => c (eP.mp h)), if_neg c]
      unfold rr_X10_seen_219
      have en := (m_nextO fu hfu hn1 (by omega) hlen hp ha (wOB m o bs)).1 hnx
      have en' : rr_X10_nextOrder fu (nI n) (wOB m o bs) = some ((0 : Int32), wOB m o bs) := en
      rw [en', Option.bind_some]
      exact ⟨o, bs, e161 fu n4 (nI sum) (nI coins) (nI ch) K (nI at_) hK m o (by omega) hG g⟩
  | cons q ps ih =>
    intro p g s o bs hch2 hg ha hG hb
    rw [List.length_cons] at hg hb
    obtain ⟨⟨hlen, hp⟩, hnx, hrest⟩ := chk_cons hch2
    obtain ⟨g, rfl⟩ : ∃ q, g = q + 1 := ⟨g - 1, by omega⟩
    have e9 : rr_X10_seen_161 fu (g + 1) = rr_X10_seen_161_b fu (rr_X10_seen_161 fu g) := rfl
    rw [e9]
    unfold rr_X10_seen_161_b
    have e6 : rr_X10_isSeen fu (nI at_) (nI sum) (nI coins) (nI ch) (wOB m o bs) = some (if sn wv sum ch coins p 0 = true then 1 else 0) := is6 fu hI hs hch hc (bs := bs) hlen hp ha coins 0 fu 0 (by omega) (by omega) (by omega)
    have eP : (sn wv sum ch coins p 0 = true) ↔ (PS wv sum coins ch p = true) := by
      rw [← jd_sn p coins 0 0 (by omega), Nat.zero_add, decide_eq_true_iff]
    rw [if_neg h10, e6, Option.bind_some, ite_it, List.foldl_cons]
    have nxtS : ∀ (bs' : Nat → Int32) (s' : Nat × List Nat), GI n bs' s' → s'.1 + ps.length + 1 < 2 ^ 31 → ∃ o2 bs2 : Nat → Int32, rr_X10_seen_219 fu (rr_X10_seen_161 fu g) (nI n) (nI sum) (nI coins) (nI ch) K (nI at_) (nI s'.1) (wOB m o bs') = some (ansS K ((q :: ps).foldl (stS (PS wv sum coins ch)) s'), wOB m o2 bs2) := by
      intro bs' s' h1 h2
      unfold rr_X10_seen_219
      obtain ⟨o1, en, ha1⟩ := (m_nextO fu hfu hn1 (by omega) hlen hp ha (wOB m o bs')).2 q hnx
      have en' : rr_X10_nextOrder fu (nI n) (wOB m o bs') = some ((1 : Int32), wOB m o1 bs') := en
      rw [en', Option.bind_some]
      exact ih q g s' o1 bs' hrest (by omega) ha1 h1 h2
    have hst : (stS (PS wv sum coins ch) s p).1 ≤ s.1 + 1 := by
      unfold stS
      split
      · exact Nat.le_refl _
      · omega
    by_cases c : PS wv sum coins ch p = true
    · rw [if_pos (eP.mpr c)]
      by_cases z : s.1 = 0
      · obtain ⟨bs', b1, b2⟩ := sn184 fu (rr_X10_seen_161 fu g) n4 (nI sum) (nI coins) (nI ch) K (nI at_) m o n 0 fu bs (by omega) (by omega) (fun i hi => absurd hi (by omega))
        have b1' : rr_X10_seen_184 fu (rr_X10_seen_161 fu g) fu (nI n) (nI sum) (nI coins) (nI ch) K (nI at_) (nI s.1) (0 : Int32) (wOB m o bs) = rr_X10_seen_216 fu (rr_X10_seen_161 fu g) (nI n) (nI sum) (nI coins) (nI ch) K (nI at_) (0 : Int32) (wOB m o bs') := by rw [z]; exact b1
        rw [b1']
        unfold rr_X10_seen_216
        rw [lt_eq]
        have es : stS (PS wv sum coins ch) s p = (s.1 + 1, p) := by unfold stS; rw [if_pos c, if_pos z]
        have := nxtS bs' (stS (PS wv sum coins ch) s p) (by rw [es]; exact fun _ => ⟨hlen, fun i hi => by have hi' : i < p.length := hi; rw [b2 i (by omega)]; exact ha i hi'⟩) (by omega)
        have e1 : nI (stS (PS wv sum coins ch) s p).1 = (0 : Int32) + 1 := by rw [es, z]; rfl
        rw [e1] at this
        exact this
      · have e8 : rr_X10_seen_184 fu (rr_X10_seen_161 fu g) fu (nI n) (nI sum) (nI coins) (nI ch) K (nI at_) (nI s.1) (0 : Int32) (wOB m o bs) = rr_X10_seen_216 fu (rr_X10_seen_161 fu g) (nI n) (nI sum) (nI coins) (nI ch) K (nI at_) (nI s.1) (wOB m o bs) := by
          obtain ⟨f, hf⟩ : ∃ q, fu = q + 1 := ⟨fu - 1, by omega⟩
          have e9 : rr_X10_seen_184 fu (rr_X10_seen_161 fu g) (f + 1) = rr_X10_seen_184_b fu (rr_X10_seen_161 fu g) (rr_X10_seen_184 fu (rr_X10_seen_161 fu g) f) := rfl
          rw [show rr_X10_seen_184 fu (rr_X10_seen_161 fu g) fu = rr_X10_seen_184 fu (rr_X10_seen_161 fu g) (f + 1) from congrArg _ hf, e9]
          unfold rr_X10_seen_184_b
          rw [if_neg (show ¬ nI n ≤ (0 : Int32) from nI_nle (by omega) (by omega)), if_neg (nI_ne0 (by omega) (by omega))]
        rw [e8]
        unfold rr_X10_seen_216
        rw [lt_eq, nI_1]
        have es : stS (PS wv sum coins ch) s p = (s.1 + 1, s.2) := by unfold stS; rw [if_pos c, if_neg z]
        have := nxtS bs (stS (PS wv sum coins ch) s p) (by rw [es]; exact fun _ => hG z) (by omega)
        have e1 : nI (stS (PS wv sum coins ch) s p).1 = nI (s.1 + 1) := by rw [es]
        rw [e1] at this
        exact this
    · rw [if_neg (fun h => c (eP.mp h))]
      have es : stS (PS wv sum coins ch) s p = s := by unfold stS; rw [if_neg c]
      rw [es]
      exact nxtS bs s hG (by omega)
/-- none fits where more are paid than there are -/
theorem stS_none {P : List Nat → Bool} : ∀ (L : List (List Nat)) (s : Nat × List Nat), (∀ p ∈ L, P p = false) → L.foldl (stS P) s = s := by
  intro L
  induction L with
  | nil => intro s _; rfl
  | cons p r ih =>
    intro s h
    rw [List.foldl_cons]
    have : stS P s p = s := by unfold stS; rw [h p List.mem_cons_self]; rfl
    rw [this]
    exact ih s (fun q hq => h q (List.mem_cons_of_mem _ hq))
theorem chk_mem {n : Nat} : ∀ (L : List (List Nat)), chk n L = true → ∀ p ∈ L, p.length = n := by
  intro L
  induction L with
  | nil => intro _ p hp; exact absurd hp (by simp)
  | cons q r ih =>
    intro h p hp
    cases r with
    | nil =>
      rw [List.mem_singleton] at hp
      rw [hp]
      exact (chk_last h).1.1
    | cons q2 r =>
      obtain ⟨h1, _, h3⟩ := chk_cons h
      rcases List.mem_cons.mp hp with e | e
      · rw [e]; exact h1.1
      · exact ih h3 p e
abbrev wGu (c : ZT_9) (g : ZT_3) : ZT_9 := (c.1, c.2.1, c.2.2.1, c.2.2.2.1, c.2.2.2.2.1, c.2.2.2.2.2.1, c.2.2.2.2.2.2.1, c.2.2.2.2.2.2.2.1, c.2.2.2.2.2.2.2.2.1, g, c.2.2.2.2.2.2.2.2.2.2)
theorem lN_of {x : Int64} (h1 : 1 ≤ x) (h2 : x ≤ 99) : ∃ v : Nat, 1 ≤ v ∧ v ≤ 99 ∧ x = lN v := by
  rw [Int64.le_iff_toInt_le] at h1 h2
  have e1 : (1 : Int64).toInt = 1 := by decide
  have e2 : (99 : Int64).toInt = 99 := by decide
  refine ⟨x.toInt.toNat, by omega, by omega, ?_⟩
  apply Int64.toInt_inj.mp
  rw [lN_toInt (by omega)]
  omega
theorem load (fu : Nat) {c : ZT_9} {m : ZT_10} {k f n : Nat} (hk : k < 4) (hn : n ≤ 4) (hf : f + n ≤ 24) (hit : ∀ i, i < n → c.2.2.2.2.2.2.2.2.2.2.2.2.2.2.2 (24 * k + (f + i)) = itM m (24 * k + (f + i))) (y5 y6 y7 y8 : Int32) : ∀ (d i g g' : Nat) (wt : Nat → Int32), i + d = n → d < g → d < g' → (∀ j, j < i → ∃ v, v ≤ 99 ∧ wt j = nI v ∧ itM m (24 * k + f + j) = lN v) → (∃ wt' : Nat → Int32, rr_X9_seen_93 fu g (nI k) (nI f) (nI n) y5 y6 y7 y8 (nI i) (wGu c (wt, c.2.2.2.2.2.2.2.2.2.1.2)) = some ((-2 : Int32), wGu c (wt', c.2.2.2.2.2.2.2.2.2.1.2)) ∧ rr_X10_seen_104 fu g' (nI n) y5 y6 y7 y8 (nI (24 * k + f)) (nI i) m = some ((-2 : Int32), m)) ∨ (∃ wt' : Nat → Int32, (∀ j, j < n → ∃ v, v ≤ 99 ∧ wt' j = nI v ∧ itM m (24 * k + f + j) = lN v) ∧ rr_X9_seen_93 fu g (nI k) (nI f) (nI n) y5 y6 y7 y8 (nI i) (wGu c (wt, c.2.2.2.2.2.2.2.2.2.1.2)) = rr_X9_seen_93 fu 1 (nI k) (nI f) (nI n) y5 y6 y7 y8 (nI n) (wGu c (wt', c.2.2.2.2.2.2.2.2.2.1.2)) ∧ rr_X10_seen_104 fu g' (nI n) y5 y6 y7 y8 (nI (24 * k + f)) (nI i) m = rr_X10_seen_104 fu 1 (nI n) y5 y6 y7 y8 (nI (24 * k + f)) (nI n) m) := by
  intro d
  induction d with
  | zero =>
    intro i g g' wt hi hg hg' hw
    obtain ⟨g, rfl⟩ : ∃ q, g = q + 1 := ⟨g - 1, by omega⟩
    obtain ⟨g', rfl⟩ : ∃ q, g' = q + 1 := ⟨g' - 1, by omega⟩
    have : i = n := by omega
    subst this
    right
    refine ⟨wt, hw, ?_, ?_⟩
    · have e9 : ∀ g, rr_X9_seen_93 fu (g + 1) = rr_X9_seen_93_b fu (rr_X9_seen_93 fu g) := fun _ => rfl
      rw [e9 g, e9 0]
      unfold rr_X9_seen_93_b
      rw [if_pos (nI_le (Nat.le_refl i) (by omega)), if_pos (nI_le (Nat.le_refl i) (by omega))]
    · have e9 : ∀ g, rr_X10_seen_104 fu (g + 1) = rr_X10_seen_104_b fu (rr_X10_seen_104 fu g) := fun _ => rfl
      rw [e9 g', e9 0]
      unfold rr_X10_seen_104_b
      rw [if_pos (nI_le (Nat.le_refl i) (by omega)), if_pos (nI_le (Nat.le_refl i) (by omega))]
  | succ d ih =>
    intro i g g' wt hi hg hg' hw
    obtain ⟨g, rfl⟩ : ∃ q, g = q + 1 := ⟨g - 1, by omega⟩
    obtain ⟨g', rfl⟩ : ∃ q, g' = q + 1 := ⟨g' - 1, by omega⟩
    have e9 : rr_X9_seen_93 fu (g + 1) = rr_X9_seen_93_b fu (rr_X9_seen_93 fu g) := rfl
    have e10 : rr_X10_seen_104 fu (g' + 1) = rr_X10_seen_104_b fu (rr_X10_seen_104 fu g') := rfl
    have er : rr_X5_read fu (nI k) (nI f + nI i) c.2.2.2.2.2.2.2.2.2.2.2.2.2 = some (itM m (24 * k + f + i)) := by
      unfold rr_X5_read
      rw [nI_add, mul24, ck_in (show 24 * k + (f + i) < 96 by omega) (by omega), nI_clamp (show 24 * k + (f + i) < 2 ^ 31 by omega), hit i (by omega), show 24 * k + (f + i) = 24 * k + f + i by omega]
    rw [e9, e10]
    unfold rr_X9_seen_93_b rr_X10_seen_104_b
    have nle : ¬ nI n ≤ nI i := nI_ge (by omega) (by omega)
    have er' : rr_X5_read fu (nI k) (nI f + nI i) (wGu c (wt, c.2.2.2.2.2.2.2.2.2.1.2)).2.2.2.2.2.2.2.2.2.2.2.2.2 = some (itM m (24 * k + f + i)) := er
    rw [if_neg nle, if_neg nle, er', Option.bind_some, nI_add, ck_in (show 24 * k + f + i < 96 by omega) (by omega), nI_clamp (show 24 * k + f + i < 2 ^ 31 by omega), r10_in, Option.bind_some, ite_it]
    by_cases c1 : 1 ≤ itM m (24 * k + f + i) ∧ itM m (24 * k + f + i) ≤ 99
    · obtain ⟨v, v1, v2, ev⟩ := lN_of c1.1 c1.2
      rw [if_pos c1, if_neg (fun h => by
        have h2 := lc_lt.mp h
        have h3 := c1.1
        rw [Int64.lt_iff_toInt_lt] at h2
        rw [Int64.le_iff_toInt_le] at h3
        omega), if_pos (show lg_cmp (itM m (24 * k + f + i)) (99 : Int64) ≤ 0 from Int32.not_lt.mp (fun h => by
        have h2 := lc_gt.mp h
        have h3 := c1.2
        rw [Int64.lt_iff_toInt_lt] at h2
        rw [Int64.le_iff_toInt_le] at h3
        omega)), lt_eq, ck_in (show i < 4 by omega) (by omega), lt_eq, lt_eq, nI_1, nI_clamp (show i < 2 ^ 31 by omega)]
      refine ih (i + 1) g g' (upd wt i (itM m (24 * k + f + i)).toInt32) (by omega) (by omega) (by omega) (fun j hj => ?_)
      by_cases e : j = i
      · subst e
        exact ⟨v, v2, by rw [pk_us, ev, lN_i], ev⟩
      · rw [pk_un e]; exact hw j (by omega)
    · left
      refine ⟨wt, ?_, by rw [if_neg c1]⟩
      by_cases c2 : lg_cmp (itM m (24 * k + f + i)) (1 : Int64) < 0
      · rw [if_pos c2]
      · rw [if_neg c2, if_neg (fun h => c1 ⟨?_, ?_⟩)]
        · rw [Int64.le_iff_toInt_le]
          have h2 : ¬ itM m (24 * k + f + i) < 1 := fun h => c2 (lc_lt.mpr h)
          rw [Int64.lt_iff_toInt_lt] at h2
          omega
        · rw [Int64.le_iff_toInt_le]
          have h2 : ¬ (99 : Int64) < itM m (24 * k + f + i) := fun h3 => by
            have h4 := lc_gt.mpr h3
            rw [Int32.le_iff_toInt_le] at h
            rw [Int32.lt_iff_toInt_lt] at h4
            omega
          rw [Int64.lt_iff_toInt_lt] at h2
          omega
