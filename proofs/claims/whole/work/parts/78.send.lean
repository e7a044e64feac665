theorem se_body (fu : Nat) (hfu : 100 ≤ fu) {m : ZT_10} {N n : Nat} (hM : MOK m N) (hl : LawOK m) (hE : EOK m n) {pp : Nat} (hp : pp < 4) {hd : Nat → Int32} (hhd : ∀ i, i < N → hd i = m.1.2.2.2.2.1 i) {j t0 i0 : Nat} (hj : j < N) (hi0 : i0 < n) (r60 : Int32 → Int32 → Int32 → Int32 → Int32 → ZT_10 → Option (Int32 × ZT_10)) {p : List Nat} (hlen : p.length = n) (hq : ∀ x ∈ p, x < n) {o : Nat → Int32} (ha : Arr_ o p) {ho : Nat → Int32} (hho : ∀ i, i < N → ho i = m.1.2.2.2.2.1 i) (gg : (Nat → Int32) × Int32) (pb : Int64 × Int64 × Int32 × Int32 × Int32) (bs : Nat → Int32) : ∃ (ho2 : Nat → Int32) (gg2 : (Nat → Int32) × Int32) (pb2 : Int64 × Int64 × Int32 × Int32 × Int32), rr_X10_send_60_b fu r60 (nI pp) (nI j) (nI t0) (nI i0) (1 : Int32) (wQ m ho gg pb hd o bs) = (if WE m N pp (VS j t0) p = 1 then some (nI (p.getD i0 0), wQ m ho2 gg2 pb2 hd o bs) else (rr_X10_nextOrder fu (nI n) (wQ m ho2 gg2 pb2 hd o bs)).bind (fun q20 => r60 (nI pp) (nI j) (nI t0) (nI i0) q20.1 q20.2)) ∧ ∀ i, i < N → ho2 i = m.1.2.2.2.2.1 i := by
  have hN := hM.2.1
  have n6 := hE.1
  unfold rr_X10_send_60_b rr_X10_send_86
  obtain ⟨ho1, g1, p1, e1, e4⟩ := m_go fu hfu hM hl hE hp hd bs hlen hq ha hho gg pb
  obtain ⟨f, e2, e3⟩ := m_back fu hfu (m := wQ m ho1 g1 p1 hd o bs) (N := N) hM.1 hN
  have e2' : rr_X10_bringBack fu (wQ m ho1 g1 p1 hd o bs) = some (wQ m f g1 p1 hd o bs) := e2
  have hf : ∀ i, i < N → f i = m.1.2.2.2.2.1 i := fun i hi => (e3 i hi).trans (hhd i hi)
  refine ⟨f, g1, p1, ?_, hf⟩
  rw [if_neg (show ¬ (1 : Int32) = 0 by decide), e1, Option.bind_some, ck_in (show j < 40 by omega) (by omega), nI_clamp (show j < 2 ^ 31 by omega)]
  have e5 : (wQ m ho1 g1 p1 hd o bs).1.2.2.2.2.1 j = (eL m N (nI pp) p (m.1.2.2.2.2.1, 0)).1 j := e4 j hj
  have ee : (wQ m f g1 p1 hd o bs).2.1.2.2 = nI n := hE.2.1
  by_cases c : (eL m N (nI pp) p (m.1.2.2.2.2.1, 0)).1 j = nI t0
  · have hW : WE m N pp (VS j t0) p = 1 := if_pos c
    rw [if_pos (e5.trans c), if_pos hW, e2', Option.bind_some, if_neg (show ¬ (1 : Int32) = 0 by decide), ck_in (show i0 < 6 by omega) (by omega), nI_clamp (show i0 < 2 ^ 31 by omega)]
    show some (o i0, wQ m f g1 p1 hd o bs) = _
    rw [ha i0 (by omega)]
  · have hW : ¬ WE m N pp (VS j t0) p = 1 := fun h => by
      have h2 : WE m N pp (VS j t0) p = 0 := if_neg c
      omega
    rw [if_neg (fun h => c (e5.symm.trans h)), if_neg hW, e2', Option.bind_some, if_pos rfl, ee]
def ansE (i0 : Nat) (F : Nat × List Nat) : Int32 := if F.1 = 1 then -4 else nI (F.2.getD i0 0)
theorem vs_le {m : ZT_10} {N pp j t0 : Nat} {p : List Nat} : WE m N pp (VS j t0) p ≤ 1 := by
  show (if _ then 1 else 0) ≤ 1
  split <;> omega
theorem se60 (fu : Nat) (hfu : 100 ≤ fu) {m : ZT_10} {N n : Nat} (hM : MOK m N) (hl : LawOK m) (hE : EOK m n) (hn1 : 1 ≤ n) {pp : Nat} (hp : pp < 4) {hd : Nat → Int32} (hhd : ∀ i, i < N → hd i = m.1.2.2.2.2.1 i) {j t0 i0 : Nat} (hj : j < N) (hi0 : i0 < n) (bs : Nat → Int32) : ∀ (ps : List (List Nat)) (p : List Nat) (g : Nat) (ho : Nat → Int32) (gg : (Nat → Int32) × Int32) (pb : Int64 × Int64 × Int32 × Int32 × Int32) (o : Nat → Int32), chk n (p :: ps) = true → ps.length + 1 < g → Arr_ o p → (∀ i, i < N → ho i = m.1.2.2.2.2.1 i) → ∃ (ho' : Nat → Int32) (gg' : (Nat → Int32) × Int32) (pb' : Int64 × Int64 × Int32 × Int32 × Int32) (o' : Nat → Int32), rr_X10_send_60 fu g (nI pp) (nI j) (nI t0) (nI i0) (1 : Int32) (wQ m ho gg pb hd o bs) = some (ansE i0 ((p :: ps).foldl (stO (WE m N pp (VS j t0))) (1, [])), wQ m ho' gg' pb' hd o' bs) ∧ ∀ i, i < N → ho' i = m.1.2.2.2.2.1 i := by
  have n6 := hE.1
  intro ps
  induction ps with
  | nil =>
    intro p g ho gg pb o hch hg ha hho
    obtain ⟨⟨hlen, hp2⟩, hnx⟩ := chk_last hch
    obtain ⟨g, rfl⟩ : ∃ q, g = q + 2 := ⟨g - 2, by rw [List.length_nil] at hg; omega⟩
    have e9 : rr_X10_send_60 fu (g + 2) = rr_X10_send_60_b fu (rr_X10_send_60 fu (g + 1)) := rfl
    have e8 : rr_X10_send_60 fu (g + 1) = rr_X10_send_60_b fu (rr_X10_send_60 fu g) := rfl
    obtain ⟨ho2, g2, p2, b1, b2⟩ := se_body fu hfu hM hl hE hp hhd hj hi0 (t0 := t0) (rr_X10_send_60 fu (g + 1)) hlen hp2 ha hho gg pb bs
    refine ⟨ho2, g2, p2, o, ?_, b2⟩
    rw [e9, b1, List.foldl_cons, List.foldl_nil]
    by_cases c : WE m N pp (VS j t0) p = 1
    · have es : stO (WE m N pp (VS j t0)) (1, []) p = (2, p) := by
        unfold stO
        rw [c, if_neg (show ¬ 1 + 1 ≤ 1 by omega)]
      rw [if_pos c, es]
      rfl
    · have c0 : WE m N pp (VS j t0) p = 0 := by have := vs_le (m := m) (N := N) (pp := pp) (j := j) (t0 := t0) (p := p); omega
      have es : stO (WE m N pp (VS j t0)) (1, []) p = (1, []) := by
        unfold stO
        rw [c0, if_pos (show 0 + 1 ≤ 1 by omega)]
      rw [if_neg c, es]
      have en := (m_nextO fu hfu hn1 n6 hlen hp2 ha (wQ m ho2 g2 p2 hd o bs)).1 hnx
      have en' : rr_X10_nextOrder fu (nI n) (wQ m ho2 g2 p2 hd o bs) = some ((0 : Int32), wQ m ho2 g2 p2 hd o bs) := en
      rw [en', Option.bind_some, e8]
      unfold rr_X10_send_60_b
      rw [if_pos (show ((0 : Int32), wQ m ho2 g2 p2 hd o bs).1 = 0 from rfl)]
      rfl
  | cons q ps ih =>
    intro p g ho gg pb o hch hg ha hho
    rw [List.length_cons] at hg
    obtain ⟨⟨hlen, hp2⟩, hnx, hrest⟩ := chk_cons hch
    obtain ⟨g, rfl⟩ : ∃ q, g = q + 1 := ⟨g - 1, by omega⟩
    have e9 : rr_X10_send_60 fu (g + 1) = rr_X10_send_60_b fu (rr_X10_send_60 fu g) := rfl
    obtain ⟨ho2, g2, p2, b1, b2⟩ := se_body fu hfu hM hl hE hp hhd hj hi0 (t0 := t0) (rr_X10_send_60 fu g) hlen hp2 ha hho gg pb bs
    rw [e9, b1, List.foldl_cons]
    by_cases c : WE m N pp (VS j t0) p = 1
    · have es : stO (WE m N pp (VS j t0)) (1, []) p = (2, p) := by
        unfold stO
        rw [c, if_neg (show ¬ 1 + 1 ≤ 1 by omega)]
      rw [if_pos c, es, stO_skip (q :: ps) (2, p) (fun r _ => by have := vs_le (m := m) (N := N) (pp := pp) (j := j) (t0 := t0) (p := r); show _ + 1 ≤ 2; omega)]
      exact ⟨ho2, g2, p2, o, rfl, b2⟩
    · have c0 : WE m N pp (VS j t0) p = 0 := by have := vs_le (m := m) (N := N) (pp := pp) (j := j) (t0 := t0) (p := p); omega
      have es : stO (WE m N pp (VS j t0)) (1, []) p = (1, []) := by
        unfold stO
        rw [c0, if_pos (show 0 + 1 ≤ 1 by omega)]
      rw [if_neg c, es]
      obtain ⟨o1, en, ha1⟩ := (m_nextO fu hfu hn1 n6 hlen hp2 ha (wQ m ho2 g2 p2 hd o bs)).2 q hnx
      have en' : rr_X10_nextOrder fu (nI n) (wQ m ho2 g2 p2 hd o bs) = some ((1 : Int32), wQ m ho2 g2 p2 hd o1 bs) := en
      rw [en', Option.bind_some]
      exact ih q g ho2 g2 p2 o1 hrest (by omega) ha1 b2
theorem st_send (fu : Nat) (hfu : 1000 ≤ fu) : St_send fu Rel := by
  intro x y z w c m h
  unfold rr_X9_send rr_X10_send
  simp only [r9_within, r9_isHolder, r9_isYear, r9_isPurse, r9_isShop, r9_isSum, r9_isSheet, r9_isLane, r9_isCoin, r9_isBill, r10_isHolder, r10_isPurse, r10_isShop, r10_isSum, r10_isCoin, r10_isBill, r10_isSheet, in_1_99, in_0_99, in_0_3, in_0_4, in_1_50, in_0_5, in_m1_5, in_1_4, in_1_8, Option.bind_some, it_10, it_01, zk_b, zk_1, zk_0, lt_eq]
  have h0 := h
  obtain ⟨n, hE, hCE⟩ := rel_err h
  have n6 := hE.1
  obtain ⟨rk, f, N, l, el, hM, hR, hB, hC⟩ := r9_layOut fu (by omega) h
  have hN := hM.2.1
  rw [hM.1, hC.1]
  by_cases hx : 0 ≤ x ∧ x ≤ 3
  rotate_left
  · rw [if_pos hx, if_pos hx]; exact ⟨_, _, _, rfl, rfl, h0⟩
  rw [if_neg (not_not_intro hx), if_neg (not_not_intro hx)]
  by_cases hy : 0 ≤ y ∧ y ≤ nI N - 1
  rotate_left
  · rw [if_pos hy, if_pos hy]; exact ⟨_, _, _, rfl, rfl, h0⟩
  rw [if_neg (not_not_intro hy), if_neg (not_not_intro hy)]
  by_cases hz : 4 ≤ z ∧ z ≤ 7
  rotate_left
  · rw [if_pos hz, if_pos hz]; exact ⟨_, _, _, rfl, rfl, h0⟩
  rw [if_neg (not_not_intro hz), if_neg (not_not_intro hz)]
  by_cases hw : 0 ≤ w ∧ w ≤ 5
  rotate_left
  · rw [if_pos hw, if_pos hw]; exact ⟨_, _, _, rfl, rfl, h0⟩
  rw [if_neg (not_not_intro hw), if_neg (not_not_intro hw), hCE.1, hE.2.1]
  by_cases hwn : w < nI n
  rotate_left
  · rw [if_neg hwn, if_neg hwn]; exact ⟨_, _, _, rfl, rfl, h0⟩
  rw [if_pos hwn, if_pos hwn]
  obtain ⟨pp, hp3, rfl⟩ := nat_of 3 (by omega) rfl hx.1 hx.2
  obtain ⟨j, hj, rfl⟩ := (coin_of (by omega)).mp hy
  obtain ⟨t0, ht4, ht8, rfl⟩ := shop_of hz
  obtain ⟨i0, hi5, rfl⟩ := nat_of 5 (by omega) rfl hw.1 hw.2
  have hi0 : i0 < n := (nI_ltI (by omega) (by omega)).mp hwn
  have hl := rel_law h
  obtain ⟨k1, k2, k3⟩ := chk_all (show 1 ≤ n by omega) n6
  obtain ⟨r0, hr0, er0⟩ := rank_at hR j hj
  have hrk : rk.2.2.2.1 j = nI r0 := by
    have := hR.2.2.2.2.2.2.1 r0 hr0
    rw [er0] at this
    exact this
  -- the class
  have hV := vj_send fu (n := n) hN (l := l) hr0 (show t0 < 8 by omega)
  rw [er0] at hV
  obtain ⟨b', pa', fd', s1, s2, s3, s4, _⟩ := seek_ok fu (by omega) (c := (c.1, c.2.1, c.2.2.1, rk, (0 : Int32), c.2.2.2.2.2.1, (f, c.2.2.2.2.2.2.1.2), c.2.2.2.2.2.2.2)) hM hl hE hCE hR (show pp < 4 by omega) hV 1 (m.1.2.2.2.2.1, 0) rfl n 8 [] 0 (m.1.2.2.2.2.1, 0) (1, []) (f, c.2.2.2.2.2.2.1.2) c.2.2.2.2.2.2.2.2.1.2.2.2.1 c.2.2.2.2.2.2.2.2.1.2.2.2.2.1 (by rw [List.length_nil]; omega) (by omega) uok_0 (fun x hx => absurd hx (by simp)) rfl (fun i hi => absurd hi (by rw [List.length_nil]; omega)) (fun i hi => (hM.2.2 i hi).2.2.2.2) hB (by show 1 ≤ 8; omega) (fun h => absurd h (by show ¬ 1 < 1; omega))
  have hne : ∃ p ps, dfs n n [] = p :: ps := by
    cases hd : dfs n n [] with
    | nil => rw [hd] at k1; exact absurd (show false = true from k1) (by decide)
    | cons p ps => exact ⟨p, ps, rfl⟩
  obtain ⟨p, ps, hd⟩ := hne
  have hF1 : 1 ≤ ((dfs n n []).foldl (stO (WE m N pp (VS j t0))) (1, [])).1 := stO_ge (dfs n n []) (1, [])
  -- the reference
  obtain ⟨hd1, q1, q2⟩ := m_keep fu (by omega) (m := m) hM.1 hN
  obtain ⟨o, o1, o2⟩ := m_first fu (by omega) (wK m hd1)
  rw [hd] at k1 k2 k3
  have ep : p = List.range n := by simpa using k2
  rw [List.length_cons] at k3
  obtain ⟨ho2, g2, pb2, o2', r1, r2⟩ := se60 fu (by omega) hM hl hE (show 1 ≤ n by omega) (show pp < 4 by omega) (hd := hd1) q2 hj hi0 (t0 := t0) m.2.2.2.2.2.2.1.2.2 ps p fu m.1.2.2.2.2.1 m.2.2.2.1 m.2.2.2.2.2.1 o k1 (by omega) (by rw [ep]; exact first_arr n6 o2) (fun _ _ => rfl)
  rw [el]
  simp only [Option.bind_some]
  unfold rr_X7_begin
  rw [ck_in (show j < 40 by omega) (by omega), nI_clamp (show j < 2 ^ 31 by omega), hrk, Option.bind_some]
  have s1' : rr_X9_seek fu 8 (0 : Int32) (0 : Int32) (0 : Int32) (c.1, c.2.1, c.2.2.1, rk, (0 : Int32), c.2.2.2.2.2.1, (f, c.2.2.2.2.2.2.1.2), c.2.2.2.2.2.2.2.1, (nI pp, (0 : Int32), (1 : Int32), c.2.2.2.2.2.2.2.2.1.2.2.2.1, c.2.2.2.2.2.2.2.2.1.2.2.2.2.1, bitL r0, nI t0), c.2.2.2.2.2.2.2.2.2) = some (wS (c.1, c.2.1, c.2.2.1, rk, (0 : Int32), c.2.2.2.2.2.1, (f, c.2.2.2.2.2.2.1.2), c.2.2.2.2.2.2.2) b' (tt_ pp 1 (bitL r0, nI t0) ((dfs n n []).foldl (stO (WE m N pp (VS j t0))) (1, [])).1 pa' fd')) := by
    rw [show (nI pp, (0 : Int32), (1 : Int32), c.2.2.2.2.2.2.2.2.1.2.2.2.1, c.2.2.2.2.2.2.2.2.1.2.2.2.2.1, bitL r0, nI t0) = tt_ pp 1 (bitL r0, nI t0) 1 c.2.2.2.2.2.2.2.2.1.2.2.2.1 c.2.2.2.2.2.2.2.2.1.2.2.2.2.1 by
      show _ = (nI pp, nI 1 - 1, nI 1, _, _, bitL r0, nI t0)
      rw [show nI 1 - 1 = (0 : Int32) by decide]
      rfl]
    exact s1
  rw [s1', Option.bind_some, q1, Option.bind_some, o1, Option.bind_some]
  have r1' : rr_X10_send_60 fu fu (nI pp) (nI j) (nI t0) (nI i0) (1 : Int32) (wOr (wK m hd1) o) = some (ansE i0 ((p :: ps).foldl (stO (WE m N pp (VS j t0))) (1, [])), wQ m ho2 g2 pb2 hd1 o2' m.2.2.2.2.2.2.1.2.2) := r1
  rw [r1']
  have relE : Rel (wS (c.1, c.2.1, c.2.2.1, rk, (0 : Int32), c.2.2.2.2.2.1, (f, c.2.2.2.2.2.2.1.2), c.2.2.2.2.2.2.2) b' (tt_ pp 1 (bitL r0, nI t0) ((dfs n n []).foldl (stO (WE m N pp (VS j t0))) (1, [])).1 pa' fd')) (wQ m ho2 g2 pb2 hd1 o2' m.2.2.2.2.2.2.1.2.2) := rel_over h0 hM hR (c.2.2.2.2.2.1, b', c.2.2.2.2.2.2.2.1, tt_ pp 1 (bitL r0, nI t0) ((dfs n n []).foldl (stO (WE m N pp (VS j t0))) (1, [])).1 pa' fd', c.2.2.2.2.2.2.2.2.2.1) (f := c.1.2.1.2.1) (ho := ho2) (fun i hi => by rw [r2 i hi]; exact (hC.2.2.1 i hi).1) (fun i hi => by rw [r2 i hi]; exact (hM.2.2 i hi).2.2.2.2) g2 pb2 (hd1, o2', m.2.2.2.2.2.2.1.2.2) m.2.2.2.2.2.2.2.1
  rw [← hd]
  generalize hFF : (dfs n n []).foldl (stO (WE m N pp (VS j t0))) (1, []) = F at *
  have s3' : GOI 1 n fd' F := s3
  have s4' : F.1 ≤ 8 := s4
  unfold ansE
  by_cases e : F.1 = 1
  · rw [if_pos (show nI F.1 - 1 = (0 : Int32) by rw [e]; decide), if_pos e]
    exact ⟨_, _, _, rfl, rfl, relE⟩
  · have ne : ¬ nI F.1 - 1 = (0 : Int32) := by
      obtain ⟨k, hk⟩ : ∃ k, F.1 = k + 1 := ⟨F.1 - 1, by omega⟩
      rw [hk, nI_pred]
      exact nI_ne0 (by omega) (by omega)
    rw [if_neg ne, if_neg e, ck_in (show i0 < 6 by omega) (by omega), nI_clamp (show i0 < 2 ^ 31 by omega)]
    refine ⟨_, _, _, rfl, ?_, relE⟩
    obtain ⟨q3, q4⟩ := s3' (by omega)
    show some (nI (F.2.getD i0 0), _) = some (fd' i0, _)
    rw [q4 i0 (by omega)]
