-- ===== order, send =====
theorem vj_order (fu : Nat) {N n : Nat} (hn : n ≤ 6) (l : List Nat) : VJ fu N n l n ((0 : Int64), (0 : Int32)) (fun s => s.2) := by
  refine ⟨fun s b t ht hB => ?_, fun X bb t hX hb ht ht2 => ?_, fun s h => h, hn⟩
  · unfold rr_X7_judge
    rw [if_pos (lc_eq.mpr (by rw [ht]))]
  · unfold rr_X7_mayGetBetter
    rw [if_pos (lc_eq.mpr (by rw [ht])), ht2]
    by_cases c : X + 1 ≤ bb
    · rw [if_pos ((le_b1 (by omega) (by omega)).mpr c)]
      exact Or.inr ⟨rfl, c, fun s => Nat.le_refl _⟩
    · rw [if_neg (fun h => c ((le_b1 (by omega) (by omega)).mp h))]
      exact Or.inl rfl
theorem bitL_ne {r : Nat} (hr : r < 64) : ¬ bitL r = 0 := by
  intro e
  have h := tb_bit (r := r) (i := r) hr
  have h2 : tb_ (bitL r) r = decide (r = r) := h
  rw [e, tb_0] at h2
  simp at h2
abbrev VS (j t0 : Nat) (s : (Nat → Int32) × Nat) : Nat := if s.1 j = nI t0 then 1 else 0
theorem vj_send (fu : Nat) {N n : Nat} (hN : N ≤ 40) {l : List Nat} {r0 t0 : Nat} (hr : r0 < N) (ht0 : t0 < 8) : VJ fu N n l 1 (bitL r0, nI t0) (VS (l.getD r0 0) t0) := by
  refine ⟨fun s b t ht hB => ?_, fun X bb t hX hb ht ht2 => ?_, fun s h => ?_, by omega⟩
  · unfold rr_X7_judge rr_X7_judge_36
    have w1 : t.2.2.2.2.2.1 = bitL r0 := by rw [ht]
    have w2 : t.2.2.2.2.2.2 = nI t0 := by rw [ht]
    rw [w1, w2, if_neg (fun h => bitL_ne (show r0 < 64 by omega) (lc_eq.mp h)), ck_in ht0 (by omega), nI_clamp (show t0 < 2 ^ 31 by omega)]
    have h1 := hB t0 ht0 r0 (by omega)
    unfold VS
    by_cases c : s.1 (l.getD r0 0) = nI t0
    · rw [if_pos c, if_neg (fun h => by
        have h2 := (and_bit (show r0 < 64 by omega)).mp (lc_eq.mp h)
        rw [h2] at h1
        exact of_decide_eq_false h1.symm ⟨hr, c⟩)]
      rfl
    · rw [if_neg c, if_pos (lc_eq.mpr ((and_bit (show r0 < 64 by omega)).mpr (by
        rw [h1]
        exact decide_eq_false (fun h => c h.2))))]
      rfl
  · unfold rr_X7_mayGetBetter
    rw [if_neg (fun h => bitL_ne (show r0 < 64 by omega) ((by rw [ht] : t.2.2.2.2.2.1 = bitL r0).symm.trans (lc_eq.mp h)))]
    exact Or.inl rfl
  · show (if s.1 (l.getD r0 0) = nI t0 then 1 else 0) ≤ 1
    split <;> omega
theorem nx_step (fu : Nat) (hfu : 100 ≤ fu) {n : Nat} (hn1 : 1 ≤ n) (hn : n ≤ 6) {p : List Nat} {ps : List (List Nat)} (hch : chk n (p :: ps) = true) {o : Nat → Int32} (ha : Arr_ o p) (m : ZT_10) : (p.length = n ∧ ∀ x ∈ p, x < n) ∧ ((ps = [] ∧ rr_X10_nextOrder fu (nI n) (wOr m o) = some ((0 : Int32), wOr m o)) ∨ (∃ (q : List Nat) (r : List (List Nat)) (o' : Nat → Int32), ps = q :: r ∧ chk n (q :: r) = true ∧ rr_X10_nextOrder fu (nI n) (wOr m o) = some ((1 : Int32), wOr m o') ∧ Arr_ o' q)) := by
  cases ps with
  | nil =>
    obtain ⟨⟨hlen, hp⟩, hnx⟩ := chk_last hch
    exact ⟨⟨hlen, hp⟩, Or.inl ⟨rfl, (m_nextO fu hfu hn1 hn hlen hp ha m).1 hnx⟩⟩
  | cons q r =>
    obtain ⟨⟨hlen, hp⟩, hnx, hrest⟩ := chk_cons hch
    obtain ⟨o', e1, e2⟩ := (m_nextO fu hfu hn1 hn hlen hp ha m).2 q hnx
    exact ⟨⟨hlen, hp⟩, Or.inr ⟨q, r, o', rfl, hrest, e1, e2⟩⟩
theorem or73 (fu : Nat) (r54 : Int32 → Int32 → Int32 → Int32 → ZT_10 → Option (Int32 × ZT_10)) {m : ZT_10} {n : Nat} (hE : EOK m n) (y1 y2 : Int32) {y3 y5 : Int32} (hy : ¬ y5 ≤ y3) (ho : Nat → Int32) (gg : (Nat → Int32) × Int32) (pb : Int64 × Int64 × Int32 × Int32 × Int32) (hd o : Nat → Int32) : ∀ (d k f : Nat) (bs : Nat → Int32), k + d = n → d < f → (∀ i, i < k → bs i = o i) → ∃ bs' : Nat → Int32, rr_X10_order_73 fu r54 f y1 y2 y3 y5 (nI k) (wQ m ho gg pb hd o bs) = rr_X10_order_108 fu r54 y1 y2 y3 y5 (wQ m ho gg pb hd o bs') ∧ ∀ i, i < n → bs' i = o i := by
  obtain ⟨n6, hn, _⟩ := hE
  intro d
  induction d with
  | zero =>
    intro k f bs hk hf hz
    obtain ⟨f, rfl⟩ : ∃ q, f = q + 1 := ⟨f - 1, by omega⟩
    have e9 : rr_X10_order_73 fu r54 (f + 1) = rr_X10_order_73_b fu r54 (rr_X10_order_73 fu r54 f) := rfl
    rw [e9]
    unfold rr_X10_order_73_b
    refine ⟨bs, ?_, fun i hi => hz i (by omega)⟩
    rw [if_pos (show (wQ m ho gg pb hd o bs).2.1.2.2 ≤ nI k by show m.2.1.2.2 ≤ _; rw [hn]; exact nI_le (by omega) (by omega))]
  | succ d ih =>
    intro k f bs hk hf hz
    obtain ⟨f, rfl⟩ : ∃ q, f = q + 1 := ⟨f - 1, by omega⟩
    have e9 : rr_X10_order_73 fu r54 (f + 1) = rr_X10_order_73_b fu r54 (rr_X10_order_73 fu r54 f) := rfl
    rw [e9]
    unfold rr_X10_order_73_b
    rw [if_neg (show ¬ (wQ m ho gg pb hd o bs).2.1.2.2 ≤ nI k by show ¬ m.2.1.2.2 ≤ _; rw [hn]; exact nI_ge (by omega) (by omega)), if_neg hy, ck_in (show k < 6 by omega) (by omega), lt_eq, ck_in (show k < 6 by omega) (by omega), lt_eq, nI_1, nI_clamp (show k < 2 ^ 31 by omega)]
    refine ih (k + 1) f (upd bs k (o k)) (by omega) (by omega) (fun i hi => ?_)
    by_cases e : i = k
    · subst e; rw [pk_us]
    · rw [pk_un e]; exact hz i (by omega)
abbrev WE (m : ZT_10) (N pp : Nat) (V : (Nat → Int32) × Nat → Nat) (p : List Nat) : Nat := V (eL m N (nI pp) p (m.1.2.2.2.2.1, 0))
theorem or_body (fu : Nat) (hfu : 100 ≤ fu) {m : ZT_10} {N n : Nat} (hM : MOK m N) (hl : LawOK m) (hE : EOK m n) (hn1 : 1 ≤ n) {pp : Nat} (hp : pp < 4) {hd : Nat → Int32} (hhd : ∀ i, i < N → hd i = m.1.2.2.2.2.1 i) (I : Int32) (r54 : Int32 → Int32 → Int32 → Int32 → ZT_10 → Option (Int32 × ZT_10)) {p : List Nat} (hlen : p.length = n) (hq : ∀ x ∈ p, x < n) {o : Nat → Int32} (ha : Arr_ o p) {ho : Nat → Int32} (hho : ∀ i, i < N → ho i = m.1.2.2.2.2.1 i) (gg : (Nat → Int32) × Int32) (pb : Int64 × Int64 × Int32 × Int32 × Int32) {bs : Nat → Int32} {B : Nat × List Nat} (hB : B.1 ≤ 8) (hG : GOI 0 n bs B) : ∃ (ho2 : Nat → Int32) (gg2 : (Nat → Int32) × Int32) (pb2 : Int64 × Int64 × Int32 × Int32 × Int32) (bs2 : Nat → Int32), rr_X10_order_54_b fu r54 (nI pp) I (nI B.1 - 1) (1 : Int32) (wQ m ho gg pb hd o bs) = rr_X10_order_120 fu r54 (nI pp) I (nI (stO (WE m N pp (fun s => s.2)) B p).1 - 1) (wQ m ho2 gg2 pb2 hd o bs2) ∧ (∀ i, i < N → ho2 i = m.1.2.2.2.2.1 i) ∧ GOI 0 n bs2 (stO (WE m N pp (fun s => s.2)) B p) ∧ (stO (WE m N pp (fun s => s.2)) B p).1 ≤ 8 := by
  have hN := hM.2.1
  have n6 := hE.1
  unfold rr_X10_order_54_b
  obtain ⟨ho1, g1, p1, e1, _⟩ := m_go fu hfu hM hl hE hp hd bs hlen hq ha hho gg pb
  obtain ⟨f, e2, e3⟩ := m_back fu hfu (m := wQ m ho1 g1 p1 hd o bs) (N := N) hM.1 hN
  have e2' : rr_X10_bringBack fu (wQ m ho1 g1 p1 hd o bs) = some (wQ m f g1 p1 hd o bs) := e2
  have hf : ∀ i, i < N → f i = m.1.2.2.2.2.1 i := fun i hi => (e3 i hi).trans (hhd i hi)
  rw [if_neg (show ¬ (1 : Int32) = 0 by decide), e1, Option.bind_some, e2', Option.bind_some]
  have hw := eL_le (m := m) (N := N) (p := nI pp) p (m.1.2.2.2.2.1, 0)
  have hw6 : (eL m N (nI pp) p (m.1.2.2.2.2.1, 0)).2 ≤ 6 := by
    have : (eL m N (nI pp) p (m.1.2.2.2.2.1, 0)).2 ≤ 0 + p.length := hw
    omega
  unfold stO
  by_cases c : (eL m N (nI pp) p (m.1.2.2.2.2.1, 0)).2 + 1 ≤ B.1
  · have cc : nI (eL m N (nI pp) p (m.1.2.2.2.2.1, 0)).2 ≤ nI B.1 - 1 := (le_b1 (by omega) (by omega)).mpr c
    refine ⟨f, g1, p1, bs, ?_, hf, ?_, ?_⟩
    · rw [if_pos (show WE m N pp (fun s => s.2) p + 1 ≤ B.1 from c)]
      obtain ⟨k, hk⟩ : ∃ q, fu = q + 1 := ⟨fu - 1, by omega⟩
      have e9 : rr_X10_order_73 fu r54 (k + 1) = rr_X10_order_73_b fu r54 (rr_X10_order_73 fu r54 k) := rfl
      rw [show rr_X10_order_73 fu r54 fu = rr_X10_order_73 fu r54 (k + 1) from congrArg _ hk, e9]
      unfold rr_X10_order_73_b rr_X10_order_108
      rw [if_neg (show ¬ (wQ m f g1 p1 hd o bs).2.1.2.2 ≤ (0 : Int32) by show ¬ m.2.1.2.2 ≤ _; rw [hE.2.1]; exact nI_nle (by omega) (by omega)), if_pos cc, if_pos cc]
    · rw [if_pos (show WE m N pp (fun s => s.2) p + 1 ≤ B.1 from c)]; exact hG
    · rw [if_pos (show WE m N pp (fun s => s.2) p + 1 ≤ B.1 from c)]; exact hB
  · have cc : ¬ nI (eL m N (nI pp) p (m.1.2.2.2.2.1, 0)).2 ≤ nI B.1 - 1 := fun h => c ((le_b1 (by omega) (by omega)).mp h)
    obtain ⟨bs2, b1, b2⟩ := or73 fu r54 hE (nI pp) I cc f g1 p1 hd o n 0 fu bs (by omega) (by omega) (fun i hi => absurd hi (by omega))
    refine ⟨f, g1, p1, bs2, ?_, hf, ?_, ?_⟩
    · rw [if_neg (show ¬ WE m N pp (fun s => s.2) p + 1 ≤ B.1 from c)]
      have b1' : rr_X10_order_73 fu r54 fu (nI pp) I (nI B.1 - 1) (nI (eL m N (nI pp) p (m.1.2.2.2.2.1, 0)).2) (0 : Int32) (wQ m f g1 p1 hd o bs) = _ := b1
      rw [b1']
      unfold rr_X10_order_108
      rw [if_neg cc]
      show _ = rr_X10_order_120 fu r54 (nI pp) I (nI ((eL m N (nI pp) p (m.1.2.2.2.2.1, 0)).2 + 1) - 1) (wQ m f g1 p1 hd o bs2)
      rw [nI_pred]
    · rw [if_neg (show ¬ WE m N pp (fun s => s.2) p + 1 ≤ B.1 from c)]
      exact fun _ => ⟨hlen, fun i hi => by have hi' : i < p.length := hi; rw [b2 i (by omega)]; exact ha i hi'⟩
    · rw [if_neg (show ¬ WE m N pp (fun s => s.2) p + 1 ≤ B.1 from c)]
      show (eL m N (nI pp) p (m.1.2.2.2.2.1, 0)).2 + 1 ≤ 8
      omega
def ansO (I : Int32) (F : Nat × List Nat) : Int32 := if 0 ≤ I then nI (F.2.getD I.toNatClampNeg 0) else nI F.1 - 1
theorem or54 (fu : Nat) (hfu : 100 ≤ fu) {m : ZT_10} {N n : Nat} (hM : MOK m N) (hl : LawOK m) (hE : EOK m n) (hn1 : 1 ≤ n) {pp : Nat} (hp : pp < 4) {hd : Nat → Int32} (hhd : ∀ i, i < N → hd i = m.1.2.2.2.2.1 i) {I : Int32} (hI : I = -1 ∨ ∃ k, k < n ∧ I = nI k) : ∀ (ps : List (List Nat)) (p : List Nat) (g : Nat) (B : Nat × List Nat) (ho : Nat → Int32) (gg : (Nat → Int32) × Int32) (pb : Int64 × Int64 × Int32 × Int32 × Int32) (o bs : Nat → Int32), chk n (p :: ps) = true → ps.length + 1 < g → Arr_ o p → (∀ i, i < N → ho i = m.1.2.2.2.2.1 i) → B.1 ≤ 8 → GOI 0 n bs B → ∃ (ho' : Nat → Int32) (gg' : (Nat → Int32) × Int32) (pb' : Int64 × Int64 × Int32 × Int32 × Int32) (o' bs' : Nat → Int32), rr_X10_order_54 fu g (nI pp) I (nI B.1 - 1) (1 : Int32) (wQ m ho gg pb hd o bs) = some (ansO I ((p :: ps).foldl (stO (WE m N pp (fun s => s.2))) B), wQ m ho' gg' pb' hd o' bs') ∧ ∀ i, i < N → ho' i = m.1.2.2.2.2.1 i := by
  have n6 := hE.1
  intro ps
  induction ps with
  | nil =>
    intro p g B ho gg pb o bs hch hg ha hho hB hG
    obtain ⟨⟨hlen, hp2⟩, hnx⟩ := chk_last hch
    obtain ⟨g, rfl⟩ : ∃ q, g = q + 2 := ⟨g - 2, by rw [List.length_nil] at hg; omega⟩
    have e9 : rr_X10_order_54 fu (g + 2) = rr_X10_order_54_b fu (rr_X10_order_54 fu (g + 1)) := rfl
    have e8 : rr_X10_order_54 fu (g + 1) = rr_X10_order_54_b fu (rr_X10_order_54 fu g) := rfl
    obtain ⟨ho2, g2, p2, bs2, b1, b2, b3, b4⟩ := or_body fu hfu hM hl hE hn1 hp hhd I (rr_X10_order_54 fu (g + 1)) hlen hp2 ha hho gg pb hB hG
    refine ⟨ho2, g2, p2, o, bs2, ?_, b2⟩
    rw [e9, b1, List.foldl_cons, List.foldl_nil]
    unfold rr_X10_order_120
    have en := (m_nextO fu hfu hn1 n6 hlen hp2 ha (wQ m ho2 g2 p2 hd o bs2)).1 hnx
    have en' : rr_X10_nextOrder fu (wQ m ho2 g2 p2 hd o bs2).2.1.2.2 (wQ m ho2 g2 p2 hd o bs2) = some ((0 : Int32), wQ m ho2 g2 p2 hd o bs2) := by
      show rr_X10_nextOrder fu m.2.1.2.2 (wQ m ho2 g2 p2 hd o bs2) = _
      rw [hE.2.1]
      exact en
    have h1 : 0 < (stO (WE m N pp (fun s => s.2)) B p).1 := by
      unfold stO
      split
      · rename_i h; omega
      · show 0 < _ + 1; omega
    rw [en', Option.bind_some, e8]
    generalize stO (WE m N pp (fun s => s.2)) B p = F at b3 b4 h1 ⊢
    unfold rr_X10_order_54_b ansO
    rw [if_pos (show ((0 : Int32), wQ m ho2 g2 p2 hd o bs2).1 = 0 from rfl)]
    rcases hI with rfl | ⟨k, hk, rfl⟩
    · rw [if_neg (show ¬ (0 : Int32) ≤ -1 by decide), if_neg (show ¬ (0 : Int32) ≤ -1 by decide)]
    · rw [if_pos (nI_pos' (show k < 2 ^ 31 by omega)), if_pos (nI_pos' (show k < 2 ^ 31 by omega)), ck_in (show k < 6 by omega) (by omega), nI_clamp (show k < 2 ^ 31 by omega)]
      obtain ⟨q1, q2⟩ := b3 h1
      show some (bs2 k, wQ m ho2 g2 p2 hd o bs2) = _
      rw [q2 k (by omega)]
  | cons q ps ih =>
    intro p g B ho gg pb o bs hch hg ha hho hB hG
    rw [List.length_cons] at hg
    obtain ⟨⟨hlen, hp2⟩, hnx, hrest⟩ := chk_cons hch
    obtain ⟨g, rfl⟩ : ∃ q, g = q + 1 := ⟨g - 1, by omega⟩
    have e9 : rr_X10_order_54 fu (g + 1) = rr_X10_order_54_b fu (rr_X10_order_54 fu g) := rfl
    obtain ⟨ho2, g2, p2, bs2, b1, b2, b3, b4⟩ := or_body fu hfu hM hl hE hn1 hp hhd I (rr_X10_order_54 fu g) hlen hp2 ha hho gg pb hB hG
    rw [e9, b1, List.foldl_cons]
    unfold rr_X10_order_120
    obtain ⟨o1, en, ha1⟩ := (m_nextO fu hfu hn1 n6 hlen hp2 ha (wQ m ho2 g2 p2 hd o bs2)).2 q hnx
    have en' : rr_X10_nextOrder fu (wQ m ho2 g2 p2 hd o bs2).2.1.2.2 (wQ m ho2 g2 p2 hd o bs2) = some ((1 : Int32), wQ m ho2 g2 p2 hd o1 bs2) := by
      show rr_X10_nextOrder fu m.2.1.2.2 (wQ m ho2 g2 p2 hd o bs2) = _
      rw [hE.2.1]
      exact en
    rw [en', Option.bind_some]
    exact ih q g (stO (WE m N pp (fun s => s.2)) B p) ho2 g2 p2 o1 bs2 hrest (by omega) ha1 b2 b4 b3
theorem first_arr {n : Nat} (hn : n ≤ 6) {o : Nat → Int32} (ho : ∀ i, i < 6 → o i = nI i) : Arr_ o (List.range n) := fun i hi => by
  rw [List.length_range] at hi
  rw [List.getD_eq_getElem?_getD, List.getElem?_range hi]
  exact ho i (by omega)
theorem rel_err {c : ZT_9} {m : ZT_10} (h : Rel c m) : ∃ n : Nat, EOK m n ∧ (c.1.2.2.2.1 = nI n ∧ ∀ x, x < n → c.1.2.2.2.2.2.1 x = m.2.1.1 x ∧ c.1.2.2.2.2.2.2 x = m.2.1.2.1 x) := by
  obtain ⟨⟨N, E, B, hC, e1, e2, hl, hE, e3, hB, e4⟩, _⟩ := h
  exact ⟨E, ⟨hE.2.1, e3, fun x hx => (hE.2.2.2 x hx).1⟩, hE.1, hE.2.2.1⟩
theorem st_order (fu : Nat) (hfu : 1000 ≤ fu) : St_order fu Rel := by
  intro x y c m h
  unfold rr_X9_order rr_X10_order
  simp only [r9_within, r9_isHolder, r9_isYear, r9_isPurse, r9_isShop, r9_isSum, r9_isSheet, r9_isLane, r9_isCoin, r9_isBill, r10_isHolder, r10_isPurse, r10_isShop, r10_isSum, r10_isCoin, r10_isBill, r10_isSheet, in_1_99, in_0_99, in_0_3, in_0_4, in_1_50, in_0_5, in_m1_5, in_1_4, in_1_8, Option.bind_some, it_10, it_01, zk_b, zk_1, zk_0, lt_eq]
  have h0 := h
  obtain ⟨n, hE, hCE⟩ := rel_err h
  have n6 := hE.1
  by_cases hx : 0 ≤ x ∧ x ≤ 3
  rotate_left
  · rw [if_pos hx, if_pos hx]; exact ⟨_, _, _, rfl, rfl, h0⟩
  rw [if_neg (not_not_intro hx), if_neg (not_not_intro hx)]
  by_cases hy : -1 ≤ y ∧ y ≤ 5
  rotate_left
  · rw [if_pos hy, if_pos hy]; exact ⟨_, _, _, rfl, rfl, h0⟩
  rw [if_neg (not_not_intro hy), if_neg (not_not_intro hy), hCE.1, hE.2.1]
  by_cases hn0 : n = 0
  · subst hn0
    rw [if_pos (show nI 0 = (0 : Int32) by decide)]
    by_cases q : nI 0 ≤ y
    · rw [if_pos q]; exact ⟨_, _, _, rfl, rfl, h0⟩
    · rw [if_neg q, if_pos (show nI 0 = (0 : Int32) by decide)]; exact ⟨_, _, _, rfl, rfl, h0⟩
  have nn0 : ¬ nI n = 0 := nI_ne0 (by omega) (by omega)
  rw [if_neg nn0, if_neg nn0]
  by_cases hyn : y < nI n
  rotate_left
  · rw [if_neg hyn, if_pos (Int32.not_lt.mp hyn)]; exact ⟨_, _, _, rfl, rfl, h0⟩
  rw [if_pos hyn, if_neg (Int32.not_le.mpr hyn)]
  have hI : y = -1 ∨ ∃ k, k < n ∧ y = nI k := by
    by_cases e : y = -1
    · exact Or.inl e
    · right
      have h1 := hy.1
      have h3 : (0 : Int32) ≤ y := by
        rw [Int32.le_iff_toInt_le] at h1 ⊢
        have e1 : (-1 : Int32).toInt = -1 := by decide
        have e0 : (0 : Int32).toInt = 0 := by decide
        have e3 : ¬ y.toInt = -1 := fun e4 => e (Int32.toInt_inj.mp (e4.trans e1.symm))
        omega
      obtain ⟨j, hj, e2⟩ := nat_of 5 (by omega) rfl h3 hy.2
      rw [e2] at hyn
      exact ⟨j, (nI_ltI (by omega) (by omega)).mp hyn, e2⟩
  obtain ⟨pp, hp3, rfl⟩ := nat_of 3 (by omega) rfl hx.1 hx.2
  obtain ⟨rk, f, N, l, el, hM, hR, hB, hC⟩ := r9_layOut fu (by omega) h
  have hN := hM.2.1
  have hl := rel_law h
  obtain ⟨k1, k2, k3⟩ := chk_all (show 1 ≤ n by omega) n6
  -- the class
  obtain ⟨b', pa', fd', s1, s2, s3, s4, _⟩ := seek_ok fu (by omega) (c := (c.1, c.2.1, c.2.2.1, rk, (0 : Int32), c.2.2.2.2.2.1, (f, c.2.2.2.2.2.2.1.2), c.2.2.2.2.2.2.2)) hM hl hE hCE hR (show pp < 4 by omega) (vj_order fu n6 l) 0 (m.1.2.2.2.2.1, 0) rfl n 8 [] 0 (m.1.2.2.2.2.1, 0) (0, []) (f, c.2.2.2.2.2.2.1.2) c.2.2.2.2.2.2.2.2.1.2.2.2.1 c.2.2.2.2.2.2.2.2.1.2.2.2.2.1 (by rw [List.length_nil]; omega) (by omega) uok_0 (fun x hx => absurd hx (by simp)) rfl (fun i hi => absurd hi (by rw [List.length_nil]; omega)) (fun i hi => (hM.2.2 i hi).2.2.2.2) hB (by show 0 ≤ 8; omega) (fun h => absurd h (by show ¬ 0 < 0; omega))
  have hne : ∃ p ps, dfs n n [] = p :: ps := by
    cases hd : dfs n n [] with
    | nil => rw [hd] at k1; exact absurd (show false = true from k1) (by decide)
    | cons p ps => exact ⟨p, ps, rfl⟩
  obtain ⟨p, ps, hd⟩ := hne
  have hF1 : 0 < ((dfs n n []).foldl (stO (WE m N pp (fun s => s.2))) (0, [])).1 := by
    rw [hd, List.foldl_cons]
    refine Nat.lt_of_lt_of_le ?_ (stO_ge ps _)
    unfold stO
    rw [if_neg (show ¬ WE m N pp (fun s => s.2) p + 1 ≤ 0 by omega)]
    show 0 < _ + 1
    omega
  -- the reference
  obtain ⟨hd1, q1, q2⟩ := m_keep fu (by omega) (m := m) hM.1 hN
  obtain ⟨o, o1, o2⟩ := m_first fu (by omega) (wK m hd1)
  rw [hd] at k1 k2 k3
  have ep : p = List.range n := by simpa using k2
  rw [List.length_cons] at k3
  obtain ⟨ho2, g2, pb2, o2', bs2, r1, r2⟩ := or54 fu (by omega) hM hl hE (show 1 ≤ n by omega) (show pp < 4 by omega) (hd := hd1) q2 hI ps p fu (0, []) m.1.2.2.2.2.1 m.2.2.2.1 m.2.2.2.2.2.1 o m.2.2.2.2.2.2.1.2.2 k1 (by omega) (by rw [ep]; exact first_arr n6 o2) (fun _ _ => rfl) (by show 0 ≤ 8; omega) (fun h => absurd h (by show ¬ 0 < 0; omega))
  rw [el]
  simp only [Option.bind_some]
  unfold rr_X7_begin
  rw [Option.bind_some]
  have s1' : rr_X9_seek fu 8 (0 : Int32) (0 : Int32) (0 : Int32) (c.1, c.2.1, c.2.2.1, rk, (0 : Int32), c.2.2.2.2.2.1, (f, c.2.2.2.2.2.2.1.2), c.2.2.2.2.2.2.2.1, (nI pp, (-1 : Int32), c.1.2.2.2.1, c.2.2.2.2.2.2.2.2.1.2.2.2.1, c.2.2.2.2.2.2.2.2.1.2.2.2.2.1, (0 : Int64), (0 : Int32)), c.2.2.2.2.2.2.2.2.2) = some (wS (c.1, c.2.1, c.2.2.1, rk, (0 : Int32), c.2.2.2.2.2.1, (f, c.2.2.2.2.2.2.1.2), c.2.2.2.2.2.2.2) b' (tt_ pp n ((0 : Int64), (0 : Int32)) ((dfs n n []).foldl (stO (WE m N pp (fun s => s.2))) (0, [])).1 pa' fd')) := by
    rw [hCE.1, show (-1 : Int32) = nI 0 - 1 by decide]
    exact s1
  rw [s1', Option.bind_some, q1, Option.bind_some, o1, Option.bind_some]
  have r1' : rr_X10_order_54 fu fu (nI pp) y (-1 : Int32) (1 : Int32) (wOr (wK m hd1) o) = some (ansO y ((p :: ps).foldl (stO (WE m N pp (fun s => s.2))) (0, [])), wQ m ho2 g2 pb2 hd1 o2' bs2) := by
    rw [show (-1 : Int32) = nI 0 - 1 by decide]
    exact r1
  rw [r1']
  have relE : Rel (wS (c.1, c.2.1, c.2.2.1, rk, (0 : Int32), c.2.2.2.2.2.1, (f, c.2.2.2.2.2.2.1.2), c.2.2.2.2.2.2.2) b' (tt_ pp n ((0 : Int64), (0 : Int32)) ((dfs n n []).foldl (stO (WE m N pp (fun s => s.2))) (0, [])).1 pa' fd')) (wQ m ho2 g2 pb2 hd1 o2' bs2) := rel_over h0 hM hR (c.2.2.2.2.2.1, b', c.2.2.2.2.2.2.2.1, tt_ pp n ((0 : Int64), (0 : Int32)) ((dfs n n []).foldl (stO (WE m N pp (fun s => s.2))) (0, [])).1 pa' fd', c.2.2.2.2.2.2.2.2.2.1) (f := c.1.2.1.2.1) (ho := ho2) (fun i hi => by rw [r2 i hi]; exact (hC.2.2.1 i hi).1) (fun i hi => by rw [r2 i hi]; exact (hM.2.2 i hi).2.2.2.2) g2 pb2 (hd1, o2', bs2) m.2.2.2.2.2.2.2.1
  rw [← hd]
  generalize hFF : (dfs n n []).foldl (stO (WE m N pp (fun s => s.2))) (0, []) = F at *
  have s3' : GOI 0 n fd' F := s3
  rcases hI with rfl | ⟨k, hk, rfl⟩
  · rw [if_pos rfl]
    refine ⟨_, _, _, rfl, ?_, relE⟩
    unfold ansO
    rw [if_neg (show ¬ (0 : Int32) ≤ -1 by decide)]
  · rw [if_neg (nI_nm1 (show k < 2 ^ 31 by omega)), ck_in (show k < 6 by omega) (by omega), nI_clamp (show k < 2 ^ 31 by omega)]
    refine ⟨_, _, _, rfl, ?_, relE⟩
    unfold ansO
    rw [if_pos (nI_pos' (show k < 2 ^ 31 by omega)), nI_clamp (show k < 2 ^ 31 by omega)]
    obtain ⟨q3, q4⟩ := s3' hF1
    show some (nI (F.2.getD k 0), _) = some (fd' k, _)
    rw [q4 k (by omega)]
