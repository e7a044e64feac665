-- ===== orders, one behind the other =====
def dfs (n : Nat) : Nat → List Nat → List (List Nat)
  | 0, pre => [pre]
  | d + 1, pre => (List.range' 0 n).flatMap (fun x => if x ∈ pre then [] else dfs n d (pre ++ [x]))
def nxk (a : Nat → Nat) : Nat → Option Nat
  | 0 => none
  | k + 1 => if a k ≤ a (k + 1) then some k else nxk a k
def nxj (a : Nat → Nat) (x : Nat) : Nat → Nat
  | 0 => 0
  | j + 1 => if x ≤ a (j + 1) then j + 1 else nxj a x j
def swp (a : Nat → Nat) (i b : Nat) : Nat → Nat := fun k => if k = b then a i else if k = i then a b else a k
def nxr : Nat → (Nat → Nat) → Nat → Nat → (Nat → Nat)
  | 0, a, _, _ => a
  | f + 1, a, i, b => if b ≤ i then a else nxr f (swp a i b) (i + 1) (b - 1)
def nxt (n : Nat) (l : List Nat) : Option (List Nat) := match nxk (fun k => l.getD k 0) (n - 1) with
  | none => none
  | some k => some ((List.range n).map (nxr 6 (swp (fun k => l.getD k 0) k (nxj (fun k => l.getD k 0) (l.getD k 0) (n - 1))) (k + 1) (n - 1)))
def okp (n : Nat) (p : List Nat) : Bool := p.length == n && p.all (fun x => decide (x < n))
def chk (n : Nat) : List (List Nat) → Bool
  | [] => false
  | [p] => okp n p && (nxt n p == none)
  | p :: q :: r => okp n p && (nxt n p == some q) && chk n (q :: r)
theorem chk_1 : chk 1 (dfs 1 1 []) = true ∧ (dfs 1 1 []).head? = some (List.range 1) := by decide +kernel
theorem chk_2 : chk 2 (dfs 2 2 []) = true ∧ (dfs 2 2 []).head? = some (List.range 2) := by decide +kernel
theorem chk_3 : chk 3 (dfs 3 3 []) = true ∧ (dfs 3 3 []).head? = some (List.range 3) := by decide +kernel
theorem chk_4 : chk 4 (dfs 4 4 []) = true ∧ (dfs 4 4 []).head? = some (List.range 4) := by decide +kernel
theorem chk_5 : chk 5 (dfs 5 5 []) = true ∧ (dfs 5 5 []).head? = some (List.range 5) := by decide +kernel
theorem chk_6 : chk 6 (dfs 6 6 []) = true ∧ (dfs 6 6 []).head? = some (List.range 6) := by decide +kernel
theorem len_6 : (dfs 1 1 []).length ≤ 720 ∧ (dfs 2 2 []).length ≤ 720 ∧ (dfs 3 3 []).length ≤ 720 ∧ (dfs 4 4 []).length ≤ 720 ∧ (dfs 5 5 []).length ≤ 720 ∧ (dfs 6 6 []).length ≤ 720 := by decide +kernel
theorem chk_all {n : Nat} (h1 : 1 ≤ n) (h6 : n ≤ 6) : chk n (dfs n n []) = true ∧ (dfs n n []).head? = some (List.range n) ∧ (dfs n n []).length ≤ 720 := by
  rcases (show n = 1 ∨ n = 2 ∨ n = 3 ∨ n = 4 ∨ n = 5 ∨ n = 6 by omega) with rfl | rfl | rfl | rfl | rfl | rfl
  · exact ⟨chk_1.1, chk_1.2, len_6.1⟩
  · exact ⟨chk_2.1, chk_2.2, len_6.2.1⟩
  · exact ⟨chk_3.1, chk_3.2, len_6.2.2.1⟩
  · exact ⟨chk_4.1, chk_4.2, len_6.2.2.2.1⟩
  · exact ⟨chk_5.1, chk_5.2, len_6.2.2.2.2.1⟩
  · exact ⟨chk_6.1, chk_6.2, len_6.2.2.2.2.2⟩
theorem okp_iff {n : Nat} {p : List Nat} (h : okp n p = true) : p.length = n ∧ ∀ x ∈ p, x < n := by
  unfold okp at h
  rw [Bool.and_eq_true, beq_iff_eq, List.all_eq_true] at h
  exact ⟨h.1, fun x hx => of_decide_eq_true (h.2 x hx)⟩
theorem chk_last {n : Nat} {p : List Nat} (h : chk n [p] = true) : (p.length = n ∧ ∀ x ∈ p, x < n) ∧ nxt n p = none := by
  have h' : (okp n p && (nxt n p == none)) = true := h
  rw [Bool.and_eq_true, beq_iff_eq] at h'
  exact ⟨okp_iff h'.1, h'.2⟩
theorem chk_cons {n : Nat} {p q : List Nat} {r : List (List Nat)} (h : chk n (p :: q :: r) = true) : (p.length = n ∧ ∀ x ∈ p, x < n) ∧ nxt n p = some q ∧ chk n (q :: r) = true := by
  have h' : (okp n p && (nxt n p == some q) && chk n (q :: r)) = true := h
  rw [Bool.and_eq_true, Bool.and_eq_true, beq_iff_eq] at h'
  exact ⟨okp_iff h'.1.1, h'.1.2, h'.2⟩
abbrev wOr (m : ZT_10) (o : Nat → Int32) : ZT_10 := (m.1, m.2.1, m.2.2.1, m.2.2.2.1, m.2.2.2.2.1, m.2.2.2.2.2.1, (m.2.2.2.2.2.2.1.1, o, m.2.2.2.2.2.2.1.2.2), m.2.2.2.2.2.2.2)
theorem fo2 (fu : Nat) (m : ZT_10) : ∀ (d k n : Nat) (o : Nat → Int32), k + d = 6 → d < n → (∀ i, i < k → o i = nI i) → ∃ o' : Nat → Int32, rr_X10_firstOrder_2 fu n (nI k) (wOr m o) = some (wOr m o') ∧ ∀ i, i < 6 → o' i = nI i := by
  intro d
  induction d with
  | zero =>
    intro k n o hk hn hf
    obtain ⟨n, rfl⟩ : ∃ q, n = q + 1 := ⟨n - 1, by omega⟩
    have : k = 6 := by omega
    subst this
    have e9 : rr_X10_firstOrder_2 fu (n + 1) = rr_X10_firstOrder_2_b fu (rr_X10_firstOrder_2 fu n) := rfl
    rw [e9]
    unfold rr_X10_firstOrder_2_b
    rw [if_pos (show (6 : Int32) ≤ nI 6 by decide)]
    exact ⟨o, rfl, hf⟩
  | succ d ih =>
    intro k n o hk hn hf
    obtain ⟨n, rfl⟩ : ∃ q, n = q + 1 := ⟨n - 1, by omega⟩
    have e9 : rr_X10_firstOrder_2 fu (n + 1) = rr_X10_firstOrder_2_b fu (rr_X10_firstOrder_2 fu n) := rfl
    rw [e9]
    unfold rr_X10_firstOrder_2_b
    rw [if_neg (show ¬ (6 : Int32) ≤ nI k from nI_ge (b := 6) (by omega) (by omega)), ck_in (show k < 6 by omega) (by omega), lt_eq, nI_1, nI_clamp (show k < 2 ^ 31 by omega)]
    refine ih (k + 1) n (upd o k (nI k)) (by omega) (by omega) (fun i hi => ?_)
    by_cases e : i = k
    · subst e; rw [pk_us]
    · rw [pk_un e]; exact hf i (by omega)
theorem m_first (fu : Nat) (hfu : 100 ≤ fu) (m : ZT_10) : ∃ o' : Nat → Int32, rr_X10_firstOrder fu m = some (wOr m o') ∧ ∀ i, i < 6 → o' i = nI i :=
  fo2 fu m 6 0 fu m.2.2.2.2.2.2.1.2.1 (by omega) (by omega) (fun i hi => absurd hi (by omega))
theorem dec1 {b : Nat} (h : 1 ≤ b) : nI b + (-1 : Int32) = nI (b - 1) := sub_lit (d := 1) h (by decide)
theorem no100 (fu : Nat) (m : ZT_10) {n : Nat} (hn : n ≤ 6) : ∀ (f g i b : Nat) (a : Nat → Nat) (o : Nat → Int32), b < n → b ≤ i + f → f < g → i ≤ n → (∀ k, k < n → o k = nI (a k)) → ∃ o' : Nat → Int32, rr_X10_nextOrder_100 fu g (nI b) (nI i) (wOr m o) = some ((1 : Int32), wOr m o') ∧ ∀ k, k < n → o' k = nI (nxr f a i b k) := by
  intro f
  induction f with
  | zero =>
    intro g i b a o hb hbi hg hi ho
    obtain ⟨g, rfl⟩ : ∃ q, g = q + 1 := ⟨g - 1, by omega⟩
    have e9 : rr_X10_nextOrder_100 fu (g + 1) = rr_X10_nextOrder_100_b fu (rr_X10_nextOrder_100 fu g) := rfl
    rw [e9]
    unfold rr_X10_nextOrder_100_b nxr
    rw [if_pos (nI_le (by omega) (by omega))]
    exact ⟨o, rfl, ho⟩
  | succ f ih =>
    intro g i b a o hb hbi hg hi ho
    obtain ⟨g, rfl⟩ : ∃ q, g = q + 1 := ⟨g - 1, by omega⟩
    have e9 : rr_X10_nextOrder_100 fu (g + 1) = rr_X10_nextOrder_100_b fu (rr_X10_nextOrder_100 fu g) := rfl
    rw [e9]
    unfold rr_X10_nextOrder_100_b nxr
    by_cases c : b ≤ i
    · rw [if_pos (nI_le c (by omega)), if_pos c]
      exact ⟨o, rfl, ho⟩
    · rw [if_neg (nI_ge (by omega) (by omega)), if_neg c]
      simp only [ck_in (show i < 6 by omega) (show 6 < 2 ^ 31 by omega), ck_in (show b < 6 by omega) (show 6 < 2 ^ 31 by omega), nI_clamp (show i < 2 ^ 31 by omega), nI_clamp (show b < 2 ^ 31 by omega), lt_eq, nI_1, dec1 (show 1 ≤ b by omega)]
      refine ih g (i + 1) (b - 1) (swp a i b) (upd (upd o i (o b)) b (o i)) (by omega) (by omega) (by omega) (by omega) (fun k hk => ?_)
      unfold swp
      by_cases e : k = b
      · subst e; rw [pk_us, if_pos rfl]; exact ho i (by omega)
      · rw [pk_un e, if_neg e]
        by_cases e2 : k = i
        · subst e2; rw [pk_us, if_pos rfl]; exact ho b hb
        · rw [pk_un e2, if_neg e2]; exact ho k hk
theorem no41 (fu : Nat) (m : ZT_10) {n k : Nat} (hn : n ≤ 6) {a : Nat → Nat} (ha : ∀ i, i < n → a i < 6) {o : Nat → Int32} (ho : ∀ i, i < n → o i = nI (a i)) : ∀ (d g : Nat), k + d < n → d < g → (nxj a (a k) (k + d) < n ∧ rr_X10_nextOrder_41 fu g (nI n) (nI k) (nI (k + d)) (wOr m o) = rr_X10_nextOrder_100 fu fu (nI n - 1) (nI (k + 1)) (wOr m (upd (upd o k (o (nxj a (a k) (k + d)))) (nxj a (a k) (k + d)) (o k)))) := by
  intro d
  induction d with
  | zero =>
    intro g hd hg
    obtain ⟨g, rfl⟩ : ∃ q, g = q + 1 := ⟨g - 1, by omega⟩
    have e9 : rr_X10_nextOrder_41 fu (g + 1) = rr_X10_nextOrder_41_b fu (rr_X10_nextOrder_41 fu g) := rfl
    have ej : nxj a (a k) (k + 0) = k := by
      rw [Nat.add_zero]
      cases k with
      | zero => rfl
      | succ k => unfold nxj; rw [if_pos (Nat.le_refl _)]
    rw [e9, ej]
    unfold rr_X10_nextOrder_41_b
    rw [Nat.add_zero]
    simp only [ck_in (show k < 6 by omega) (show 6 < 2 ^ 31 by omega), nI_clamp (show k < 2 ^ 31 by omega), lt_eq, nI_1]
    rw [if_pos (Int32.le_refl _)]
    exact ⟨by omega, rfl⟩
  | succ d ih =>
    intro g hd hg
    obtain ⟨g, rfl⟩ : ∃ q, g = q + 1 := ⟨g - 1, by omega⟩
    have e9 : rr_X10_nextOrder_41 fu (g + 1) = rr_X10_nextOrder_41_b fu (rr_X10_nextOrder_41 fu g) := rfl
    rw [e9]
    unfold rr_X10_nextOrder_41_b
    rw [show k + (d + 1) = k + d + 1 by omega]
    have h1 := ha k (by omega)
    have h2 := ha (k + d + 1) (by omega)
    simp only [ck_in (show k < 6 by omega) (show 6 < 2 ^ 31 by omega), ck_in (show k + d + 1 < 6 by omega) (show 6 < 2 ^ 31 by omega), nI_clamp (show k < 2 ^ 31 by omega), nI_clamp (show k + d + 1 < 2 ^ 31 by omega), lt_eq, nI_1, dec1 (show 1 ≤ k + d + 1 by omega), show k + d + 1 - 1 = k + d by omega]
    unfold nxj
    by_cases c : a k ≤ a (k + d + 1)
    · rw [if_pos (show o k ≤ o (k + d + 1) by rw [ho k (by omega), ho (k + d + 1) (by omega)]; exact nI_le c (by omega)), if_pos c]
      exact ⟨by omega, rfl⟩
    · rw [if_neg (show ¬ o k ≤ o (k + d + 1) by rw [ho k (by omega), ho (k + d + 1) (by omega)]; exact nI_ge (by omega) (by omega)), if_neg c]
      exact ih g (by omega) (by omega)
theorem no4 (fu : Nat) (m : ZT_10) {n : Nat} (hn : n ≤ 6) {a : Nat → Nat} (ha : ∀ i, i < n → a i < 6) {o : Nat → Int32} (ho : ∀ i, i < n → o i = nI (a i)) : ∀ (t g : Nat), t < n → t < g → (nxk a t = none → rr_X10_nextOrder_4 fu g (nI n) (nI t - 1) (wOr m o) = some ((0 : Int32), wOr m o)) ∧ (∀ k, nxk a t = some k → k + 1 < n + 1 ∧ k < t ∧ rr_X10_nextOrder_4 fu g (nI n) (nI t - 1) (wOr m o) = rr_X10_nextOrder_41 fu fu (nI n) (nI k) (nI n - 1) (wOr m o)) := by
  intro t
  induction t with
  | zero =>
    intro g ht hg
    obtain ⟨g, rfl⟩ : ∃ q, g = q + 1 := ⟨g - 1, by omega⟩
    have e9 : rr_X10_nextOrder_4 fu (g + 1) = rr_X10_nextOrder_4_b fu (rr_X10_nextOrder_4 fu g) := rfl
    rw [e9]
    unfold rr_X10_nextOrder_4_b rr_X10_nextOrder_31 nxk
    rw [if_pos (show nI 0 - 1 < (0 : Int32) by decide), if_neg (show ¬ (0 : Int32) ≤ nI 0 - 1 by decide)]
    exact ⟨fun _ => rfl, fun k h => absurd h (by simp)⟩
  | succ t ih =>
    intro g ht hg
    obtain ⟨g, rfl⟩ : ∃ q, g = q + 1 := ⟨g - 1, by omega⟩
    have e9 : rr_X10_nextOrder_4 fu (g + 1) = rr_X10_nextOrder_4_b fu (rr_X10_nextOrder_4 fu g) := rfl
    rw [e9]
    unfold rr_X10_nextOrder_4_b nxk
    have h1 := ha t (by omega)
    have h2 := ha (t + 1) (by omega)
    rw [nI_pred, if_neg (nI_pos (show t < 2 ^ 31 by omega)), nI_1, ck_in (show t < 6 by omega) (by omega), ck_in (show t + 1 < 6 by omega) (by omega), nI_clamp (show t < 2 ^ 31 by omega), nI_clamp (show t + 1 < 2 ^ 31 by omega)]
    by_cases c : a t ≤ a (t + 1)
    · rw [if_pos (show o t ≤ o (t + 1) by rw [ho t (by omega), ho (t + 1) (by omega)]; exact nI_le c (by omega)), if_pos c]
      unfold rr_X10_nextOrder_31
      rw [if_pos (nI_pos' (show t < 2 ^ 31 by omega)), lt_eq]
      refine ⟨fun h => absurd h (by simp), fun k h => ?_⟩
      have : t = k := by simpa using h
      subst this
      exact ⟨by omega, by omega, rfl⟩
    · rw [if_neg (show ¬ o t ≤ o (t + 1) by rw [ho t (by omega), ho (t + 1) (by omega)]; exact nI_ge (by omega) (by omega)), if_neg c, lt_eq, show nI t + (-1 : Int32) = nI t - 1 from (Int32.sub_eq_add_neg _ _).symm]
      obtain ⟨i1, i2⟩ := ih g (by omega) (by omega)
      exact ⟨i1, fun k h => by obtain ⟨j1, j2, j3⟩ := i2 k h; exact ⟨j1, by omega, j3⟩⟩
theorem map_getD {F : Nat → Nat} {n k : Nat} (h : k < n) : ((List.range n).map F).getD k 0 = F k := by
  rw [List.getD_eq_getElem?_getD, List.getElem?_map, List.getElem?_range h]
  rfl
theorem getD_lt {l : List Nat} {n b : Nat} (hlen : l.length = n) (h : ∀ x ∈ l, x < b) : ∀ i, i < n → l.getD i 0 < b := by
  intro i hi
  have h2 : i < l.length := by omega
  rw [List.getD_eq_getElem?_getD, List.getElem?_eq_getElem h2]
  exact h _ (List.getElem_mem h2)
theorem m_nextO (fu : Nat) (hfu : 100 ≤ fu) {n : Nat} (hn1 : 1 ≤ n) (hn : n ≤ 6) {l : List Nat} (hlen : l.length = n) (h6 : ∀ x ∈ l, x < n) {o : Nat → Int32} (ho : Arr_ o l) (m : ZT_10) : (nxt n l = none → rr_X10_nextOrder fu (nI n) (wOr m o) = some ((0 : Int32), wOr m o)) ∧ (∀ q, nxt n l = some q → ∃ o' : Nat → Int32, rr_X10_nextOrder fu (nI n) (wOr m o) = some ((1 : Int32), wOr m o') ∧ Arr_ o' q) := by
  have ha : ∀ i, i < n → (fun k => l.getD k 0) i < 6 := fun i hi => Nat.lt_of_lt_of_le (getD_lt hlen h6 i hi) hn
  have ho' : ∀ i, i < n → o i = nI ((fun k => l.getD k 0) i) := fun i hi => ho i (by omega)
  have e0 : rr_X10_nextOrder fu (nI n) (wOr m o) = rr_X10_nextOrder_4 fu fu (nI n) (nI (n - 1) - 1) (wOr m o) := by
    unfold rr_X10_nextOrder
    rw [lt_eq]
    have : nI n - 2 = nI (n - 1) - 1 := by
      obtain ⟨k, rfl⟩ : ∃ k, n = k + 1 := ⟨n - 1, by omega⟩
      rw [show k + 1 - 1 = k by omega, ← nI_pred k]
      rw [Int32.sub_sub]
      rfl
    rw [this]
  obtain ⟨q1, q2⟩ := no4 fu m hn ha ho' (n - 1) fu (by omega) (by omega)
  rw [e0]
  constructor
  · intro h
    refine q1 ?_
    unfold nxt at h
    cases hk : nxk (fun k => l.getD k 0) (n - 1) with
    | none => rfl
    | some k => rw [hk] at h; exact absurd h (by simp)
  · intro q h
    unfold nxt at h
    cases hk : nxk (fun k => l.getD k 0) (n - 1) with
    | none => rw [hk] at h; exact absurd h (by simp)
    | some k =>
      rw [hk] at h
      obtain ⟨k1, k2, k3⟩ := q2 k hk
      have hq := Option.some.inj h
      obtain ⟨j1, j2⟩ := no41 fu m hn ha ho' (k := k) (n - 1 - k) fu (by omega) (by omega)
      rw [show k + (n - 1 - k) = n - 1 by omega] at j1 j2
      have en : nI n - 1 = nI (n - 1) := by
        obtain ⟨k, rfl⟩ : ∃ k, n = k + 1 := ⟨n - 1, by omega⟩
        exact nI_pred k
      rw [k3, en, j2, en]
      obtain ⟨o2, r1, r2⟩ := no100 fu m hn 6 fu (k + 1) (n - 1) (swp (fun k => l.getD k 0) k (nxj (fun k => l.getD k 0) (l.getD k 0) (n - 1))) (upd (upd o k (o (nxj (fun k => l.getD k 0) (l.getD k 0) (n - 1)))) (nxj (fun k => l.getD k 0) (l.getD k 0) (n - 1)) (o k)) (by omega) (by omega) (by omega) (by omega) (fun i hi => by
        unfold swp
        by_cases e : i = nxj (fun k => l.getD k 0) (l.getD k 0) (n - 1)
        · rw [e, pk_us, if_pos rfl]; exact ho' k (by omega)
        · rw [pk_un e, if_neg e]
          by_cases e2 : i = k
          · subst e2; rw [pk_us, if_pos rfl]; exact ho' _ j1
          · rw [pk_un e2, if_neg e2]; exact ho' i hi)
      refine ⟨o2, r1, fun i hi => ?_⟩
      rw [← hq] at hi ⊢
      rw [List.length_map, List.length_range] at hi
      rw [map_getD hi]
      exact r2 i hi
-- which ones are used
theorem us_1 : ∀ U, U < 64 → ∀ x, x < 6 → (nI U ||| ((1 : Int32) <<< (nI x &&& 31)) = nI (U ||| 2 ^ x) ∧ U ||| 2 ^ x < 64) := by decide +kernel
theorem us_2 : ∀ U, U < 64 → ∀ x, x < 6 → ∀ y, y < 6 → ((((nI (U ||| 2 ^ x) >>> (nI y &&& 31)) &&& (1 : Int32)) = 0) ↔ (y ≠ x ∧ ((nI U >>> (nI y &&& 31)) &&& (1 : Int32)) = 0)) := by decide +kernel
theorem us_0 : ∀ y, y < 6 → ((nI 0 >>> (nI y &&& 31)) &&& (1 : Int32)) = 0 := by decide +kernel
def UOK (U : Nat) (pre : List Nat) : Prop := U < 64 ∧ ∀ y, y < 6 → (((nI U >>> (nI y &&& 31)) &&& (1 : Int32)) = 0 ↔ y ∉ pre)
theorem uok_0 : UOK 0 [] := ⟨by omega, fun y hy => ⟨fun _ => by simp, fun _ => us_0 y hy⟩⟩
theorem uok_s {U : Nat} {pre : List Nat} (h : UOK U pre) {x : Nat} (hx : x < 6) : nI U ||| ((1 : Int32) <<< (nI x &&& 31)) = nI (U ||| 2 ^ x) ∧ UOK (U ||| 2 ^ x) (pre ++ [x]) := by
  obtain ⟨h1, h2⟩ := us_1 U h.1 x hx
  refine ⟨h1, h2, fun y hy => ?_⟩
  rw [us_2 U h.1 x hx y hy, h.2 y hy, List.mem_append, List.mem_singleton]
  constructor
  · rintro ⟨a, b⟩ (c | c)
    · exact b c
    · exact a c
  · intro a
    exact ⟨fun e => a (Or.inr e), fun e => a (Or.inl e)⟩
theorem arr_snoc {f : Nat → Int32} {l : List Nat} (h : Arr_ f l) (x : Nat) : Arr_ (upd f l.length (nI x)) (l ++ [x]) := by
  intro r hr
  rw [List.length_append, List.length_singleton] at hr
  by_cases e : r = l.length
  · subst e
    rw [pk_us, List.getD_eq_getElem?_getD, List.getElem?_append_right (Nat.le_refl _), Nat.sub_self]
    rfl
  · rw [pk_un e, h r (by omega), List.getD_eq_getElem?_getD, List.getD_eq_getElem?_getD, List.getElem?_append_left (by omega)]
