-- ===== the class' ranks =====
theorem keyBy4 (fu : Nat) {law wo old : Int32} (hl : 0 ≤ law ∧ law ≤ 3) (hw : 1 ≤ wo.toInt ∧ wo.toInt ≤ 99) (ho : 0 ≤ old.toInt ∧ old.toInt < 6528) : ∃ v : Int32, rr_X4_keyBy fu law wo old = some v ∧ v.toInt = keyI law wo old.toInt := by
  unfold rr_X4_keyBy keyI
  have t : (6528 : Int32).toInt = 6528 := by decide
  rcases lawCases hl with rfl | rfl | rfl | rfl
  · exact ⟨old, rfl, rfl⟩
  · refine ⟨-old, rfl, ?_⟩
    rw [if_neg (by decide), if_pos rfl, Int32.toInt_neg]
    exact Int.bmod_eq_of_le (by omega) (by omega)
  · refine ⟨_, rfl, ?_⟩
    rw [if_neg (by decide), if_neg (by decide), if_pos rfl, Int32.toInt_add, Int32.toInt_mul, t]
    rw [Int.bmod_eq_of_le (n := wo.toInt * 6528) (by omega) (by omega)]
    exact Int.bmod_eq_of_le (by omega) (by omega)
  · refine ⟨_, rfl, ?_⟩
    rw [if_neg (by decide), if_neg (by decide), if_neg (by decide), Int32.toInt_add, Int32.toInt_mul, Int32.toInt_neg, t]
    rw [Int.bmod_eq_of_le (n := -wo.toInt) (by omega) (by omega), Int.bmod_eq_of_le (n := -wo.toInt * 6528) (by omega) (by omega)]
    rw [Int.bmod_eq_of_le (by omega) (by omega)]
    omega
theorem in5 (fu : Nat) {K : Nat → Int} {c : Nat} {key : Int32} (hkey : key.toInt = K c) (sz : Int32) (wa ro : Nat → Int32) (al : Nat → Int64) {l : List Nat} (hlen : l.length < 63) : ∀ (k n : Nat) (f g : Nat → Int32), k < n → k ≤ l.length → (∀ r, r < k → (g r).toInt = K (l.getD r 0)) → rr_X4_insert_5 fu n (nI c) key (nI k) (sz, f, wa, ro, g, al) = rr_X4_insert_55 fu (nI c) key (nI (insP K c l k)) (sz, shF f (insP K c l k) k, wa, ro, shF g (insP K c l k) k, al) := by
  intro k
  induction k with
  | zero =>
    intro n f g hn _ _
    obtain ⟨n, rfl⟩ : ∃ q, n = q + 1 := ⟨n - 1, by omega⟩
    have e9 : rr_X4_insert_5 fu (n + 1) = rr_X4_insert_5_b fu (rr_X4_insert_5 fu n) := rfl
    rw [e9]
    unfold rr_X4_insert_5_b
    rw [if_pos (by decide)]
    unfold insP
    rw [shF_self, shF_self]
  | succ k ih =>
    intro n f g hn hk hg
    obtain ⟨n, rfl⟩ : ∃ q, n = q + 1 := ⟨n - 1, by omega⟩
    have e9 : rr_X4_insert_5 fu (n + 1) = rr_X4_insert_5_b fu (rr_X4_insert_5 fu n) := rfl
    rw [e9]
    unfold rr_X4_insert_5_b
    rw [if_neg (nI_nle (by omega) (by omega))]
    simp only [nI_pred, pk_m1, ck_in (show k < 64 by omega) (by omega), ck_in (show k + 1 < 64 by omega) (by omega), nI_clamp (show k < 2 ^ 31 by omega), nI_clamp (show k + 1 < 2 ^ 31 by omega), lt_eq]
    have hgk := hg k (by omega)
    by_cases h : K c < K (l.getD k 0)
    · rw [if_neg (show ¬ g k ≤ key by rw [i32_le]; omega)]
      have e : insP K c l (k + 1) = insP K c l k := by
        show (if K c < K (l.getD k 0) then _ else _) = _
        rw [if_pos h]
      rw [e, ih n (upd f (k + 1) (f k)) (upd g (k + 1) (g k)) (by omega) (by omega) (fun r hr => by rw [pk_un (by omega)]; exact hg r (by omega)), shF_step f (insP_le k), shF_step g (insP_le k)]
    · rw [if_pos (show g k ≤ key by rw [i32_le]; omega)]
      have e : insP K c l (k + 1) = k + 1 := by
        show (if K c < K (l.getD k 0) then _ else _) = _
        rw [if_neg h]
      rw [e, shF_self, shF_self]
/-- the keys of a row stand beside it -/
def Keys_ (K : Nat → Int) (g : Nat → Int32) (l : List Nat) : Prop := ∀ r, r < l.length → (g r).toInt = K (l.getD r 0)
theorem keys_ins {K : Nat → Int} {g : Nat → Int32} {l : List Nat} {x : Nat} {key : Int32} (h : Keys_ K g l) (hkey : key.toInt = K x) {p : Nat} (hp : p ≤ l.length) : Keys_ K (upd (shF g p l.length) p key) (l.take p ++ x :: l.drop p) := by
  intro r hr
  have hlen : (l.take p).length = p := by rw [List.length_take]; omega
  rw [List.length_append, List.length_cons, List.length_drop, hlen] at hr
  rcases Nat.lt_trichotomy r p with c | c | c
  · rw [pk_un (by omega)]
    unfold shF
    rw [if_neg (by omega), h r (by omega)]
    congr 1
    rw [List.getD_eq_getElem?_getD, List.getD_eq_getElem?_getD, List.getElem?_append_left (by omega), List.getElem?_take, if_pos c]
  · subst c
    rw [pk_us, List.getD_eq_getElem?_getD, List.getElem?_append_right (by omega), hlen, Nat.sub_self]
    exact hkey
  · rw [pk_un (by omega)]
    unfold shF
    rw [if_pos (by omega), h (r - 1) (by omega)]
    congr 1
    rw [List.getD_eq_getElem?_getD, List.getD_eq_getElem?_getD, List.getElem?_append_right (by omega), hlen]
    obtain ⟨q, hq⟩ : ∃ q, r - p = q + 1 := ⟨r - p - 1, by omega⟩
    rw [hq, List.getElem?_cons_succ, List.getElem?_drop]
    congr 2
    omega
theorem r4_insert (fu : Nat) (hfu : 100 ≤ fu) {K : Nat → Int} {c : Nat} {key : Int32} (hkey : key.toInt = K c) {l : List Nat} (hlen : l.length < 63) {f wa ro g : Nat → Int32} {al : Nat → Int64} (hf : Arr_ f l) (hg : Keys_ K g l) : ∃ f' g' : Nat → Int32, rr_X4_insert fu (nI c) key (nI l.length, f, wa, ro, g, al) = some (nI (ins_ K c l).length, f', wa, ro, g', al) ∧ Arr_ f' (ins_ K c l) ∧ Keys_ K g' (ins_ K c l) := by
  have hp := insP_le (K := K) (x := c) (l := l) l.length
  refine ⟨upd (shF f (insP K c l l.length) l.length) (insP K c l l.length) (nI c), upd (shF g (insP K c l l.length) l.length) (insP K c l l.length) key, ?_, arr_ins hf hp, keys_ins hg hkey hp⟩
  unfold rr_X4_insert
  show rr_X4_insert_5 fu fu (nI c) key (nI l.length) (nI l.length, f, wa, ro, g, al) = _
  rw [in5 fu hkey (nI l.length) wa ro al hlen l.length fu f g (by omega) (Nat.le_refl _) hg]
  unfold rr_X4_insert_55
  simp only [ck_in (show insP K c l l.length < 64 by omega) (show 64 < 2 ^ 31 by omega), nI_clamp (show insP K c l l.length < 2 ^ 31 by omega), lt_eq, nI_1, ins_len]
