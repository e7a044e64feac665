-- ===== BASE: checks of the read-back functions, what a call leaves of a world =====
/-- an index is looked at: none where it lies outside -/
def ck_ {α : Type} (i : Int32) (n : Nat) (x : Option α) : Option α := if i < 0 ∨ n ≤ i.toNatClampNeg then none else x
theorem ck_ok {α : Type} {i : Int32} {n : Nat} {x : Option α} {y : α} (h : ck_ i n x = some y) : vp_in i n ∧ x = some y := by
  unfold ck_ at h
  by_cases hc : (i < 0 ∨ n ≤ i.toNatClampNeg)
  · rw [if_pos hc] at h; cases h
  · rw [if_neg hc] at h; exact ⟨hc, h⟩
/-- a boolean is 0 or 1 -/
def zk_ {α : Type} (v : Int32) (x : Option α) : Option α := if v = 0 ∨ v = 1 then x else none
theorem zk_ok {α : Type} {v : Int32} {x : Option α} {y : α} (h : zk_ v x = some y) : (v = 0 ∨ v = 1) ∧ x = some y := by
  unfold zk_ at h
  by_cases hc : (v = 0 ∨ v = 1)
  · rw [if_pos hc] at h; exact ⟨hc, h⟩
  · rw [if_neg hc] at h; cases h
theorem zk_nar {v : Int32} (h : v = 0 ∨ v = 1) : narrow .boolean (.int v) = .int v := by rcases h with rfl | rfl <;> rfl
theorem zk_fit {v : Int32} (h : v = 0 ∨ v = 1) : fits .boolean (.int v) = true := by rcases h with rfl | rfl <;> rfl
/-- a divisor is not 0 -/
def nz_ {α : Type} (v : Int32) (x : Option α) : Option α := if v = 0 then none else x
theorem nz_ok {α : Type} {v : Int32} {x : Option α} {y : α} (h : nz_ v x = some y) : (¬ v = 0) ∧ x = some y := by
  unfold nz_ at h
  by_cases hc : v = 0
  · rw [if_pos hc] at h; cases h
  · rw [if_neg hc] at h; exact ⟨hc, h⟩
/-- a number gets a name -/
def lt_ {α β : Type} (e : α) (f : α → β) : β := f e
theorem lt_ok {α β : Type} {e y : α} {f : α → β} {z : β} (h : lt_ e f = z) (hy : y = e) : f y = z := by subst hy; exact h
theorem ob_ok {α β : Type} {x : Option α} {f : α → Option β} {y : β} (h : x.bind f = some y) : ∃ q, x = some q ∧ f q = some y := by
  cases x with
  | none => cases h
  | some q => exact ⟨q, rfl, h⟩
theorem ifp_ {α : Type} {c : Prop} [Decidable c] {t e z : α} (h : (if c then t else e) = z) (hc : c) : t = z := by rw [if_pos hc] at h; exact h
theorem ifn_ {α : Type} {c : Prop} [Decidable c] {t e z : α} (h : (if c then t else e) = z) (hc : ¬ c) : e = z := by rw [if_neg hc] at h; exact h
/-- a loop, run so often -/
def lp_ {α : Type} (z : α) (b : α → α) : Nat → α
  | 0 => z
  | n + 1 => b (lp_ z b n)
theorem lp_0 {α : Type} (z : α) (b : α → α) : lp_ z b 0 = z := rfl
theorem lp_s {α : Type} (z : α) (b : α → α) (n : Nat) : lp_ z b (n + 1) = b (lp_ z b n) := rfl
/-- addresses from one on -/
abbrev sh_ {α : Type} (f : Nat → α) (o : Nat) : Nat → α := fun i => f (i + o)
theorem ne_i {x : Int32} (n : Int) (c : Int32) (hc : c.toInt = n) (h : ¬ x = c) : ¬ x.toInt = n := fun e => h (Int32.toInt_inj.mp (e.trans hc.symm))
/-- what holds behind a method -/
def at3_ (D : va_G) (w : va_W) (T : List (ClassId × FieldType)) (A : Nat → Prop) (t : State) : Prop := va_P D vwCl w t.heap ∧ va_K D vwCl T t ∧ va_D A w
/-- what holds ahead of it -/
def PcF (av : List Value) (sz : Nat) (D : va_G) (w : va_W) (T : List (ClassId × FieldType)) : Array Value → State → Prop := va_Pc av (fun U => U.heap.size = sz ∧ va_P D vwCl w U.heap ∧ va_K D vwCl T U ∧ va_D (fun _ => True) w)
theorem pf_blind {av : List Value} {sz : Nat} {D : va_G} {w : va_W} {T : List (ClassId × FieldType)} : FrameBlind (PcF av sz D w T) := fun a U g mk q => by
  obtain ⟨q0, q1, qP, qK, qD⟩ := q
  exact ⟨q0, q1, qP, va_K.moved (u := U) (U := U.calling g mk a) (Vm.Alike.refl U.vm) qK, qD⟩
theorem pf_s {s : State} {H : Heap} {As : List Value} {D : va_G} {w : va_W} {T : List (ClassId × FieldType)} {A : Nat → Prop} (hK : va_K D vwCl T s) (hP : va_P D vwCl w H) (hD : va_D A w) : PreS s H (PcF As H.size D w T) As :=
  ⟨pf_blind, fun U hU hW => ⟨rfl, by rw [hU], by rw [hU]; exact hP, va_K.moved hW.alike hK, hD.weaken (fun _ _ _ _ => trivial)⟩⟩
theorem pf_v {s : State} {H : Heap} {b : Nat} {As : List Value} {D : va_G} {w : va_W} {T : List (ClassId × FieldType)} {A : Nat → Prop} {C : String} (hK : va_K D vwCl T s) (hP : va_P D vwCl w H) (hD : va_D A w) (ci q0 : Nat) {q : vw_C} {fs : List Value} (hc : vwCl[ci]? = some q) (hC : q.1 = C) (he : w[q0]? = some (b, .inr (ci, fs))) : PreV s H C b (PcF (.ref b :: As) H.size D w T) As :=
  ⟨pf_blind, by subst hC; exact va_recv hK hP hc he, (pf_s hK hP hD).2⟩
/-- the same, where a method of a nest mate is called -/
abbrev nestW : Cond := .methodLinkNest RX6 21 yX9_isWithin RX9
def PcN (av : List Value) (sz : Nat) (D : va_G) (w : va_W) (T : List (ClassId × FieldType)) : Array Value → State → Prop := va_Pc av (fun U => U.heap.size = sz ∧ va_P D vwCl w U.heap ∧ va_K D vwCl T U ∧ va_D (fun _ => True) w ∧ va_Nw nestW U)
theorem pn_blind {av : List Value} {sz : Nat} {D : va_G} {w : va_W} {T : List (ClassId × FieldType)} : FrameBlind (PcN av sz D w T) := fun a U g mk q => by
  obtain ⟨q0, q1, qP, qK, qD, qN⟩ := q
  exact ⟨q0, q1, qP, va_K.moved (u := U) (U := U.calling g mk a) (Vm.Alike.refl U.vm) qK, qD, va_Nw.same rfl (u := U) (U := U.calling g mk a) rfl qN⟩
theorem pn_s {s : State} {H : Heap} {As : List Value} {D : va_G} {w : va_W} {T : List (ClassId × FieldType)} {A : Nat → Prop} (hN : va_Nw nestW s) (hK : va_K D vwCl T s) (hP : va_P D vwCl w H) (hD : va_D A w) : PreS s H (PcN As H.size D w T) As :=
  ⟨pn_blind, fun U hU hW => ⟨rfl, by rw [hU], by rw [hU]; exact hP, va_K.moved hW.alike hK, hD.weaken (fun _ _ _ _ => trivial), va_Nw.warmM hW hN⟩⟩
theorem pn_v {s : State} {H : Heap} {b : Nat} {As : List Value} {D : va_G} {w : va_W} {T : List (ClassId × FieldType)} {A : Nat → Prop} {C : String} (hN : va_Nw nestW s) (hK : va_K D vwCl T s) (hP : va_P D vwCl w H) (hD : va_D A w) (ci q0 : Nat) {q : vw_C} {fs : List Value} (hc : vwCl[ci]? = some q) (hC : q.1 = C) (he : w[q0]? = some (b, .inr (ci, fs))) : PreV s H C b (PcN (.ref b :: As) H.size D w T) As :=
  ⟨pn_blind, by subst hC; exact va_recv hK hP hc he, (pn_s hN hK hP hD).2⟩
/-- the callee's cells are the caller's -/
theorem fr_all {A : Nat → Prop} {ws : va_W} {H0 H : Heap} {locs : List Loc} (hD : va_D A ws) (hS : va_S A H0 H locs) (hA : ∀ q, H0.size ≤ q → A q) : ∀ q, va_A ws H.size q → A q := by
  intro q h
  rcases h with ⟨k, e, hk⟩ | h
  · exact hD.2 k _ hk
  · exact hA q (Nat.le_trans hS.1 h)
/-- a part of a world, by places -/
def Sub_ (isC : List Nat) (ws wc : va_W) : Prop := isC.map (fun i => ws[i]?) = wc.map some
theorem sub_at {isC : List Nat} {ws wc : va_W} (h : Sub_ isC ws wc) {j : Nat} {q : Nat × va_E} (hj : wc[j]? = some q) : ∃ i, isC[j]? = some i ∧ ws[i]? = some q := by
  have h1 : (isC.map (fun i => ws[i]?))[j]? = (wc.map some)[j]? := by rw [h]
  rw [List.getElem?_map, List.getElem?_map, hj] at h1
  cases hi : isC[j]? with
  | none => rw [hi] at h1; simp at h1
  | some i => rw [hi] at h1; exact ⟨i, rfl, by simpa using h1⟩
theorem sub_of {isC : List Nat} {ws wc : va_W} (h : Sub_ isC ws wc) {i : Nat} (hi : i ∈ isC) : ∃ (j : Nat) (q : Nat × va_E), isC[j]? = some i ∧ wc[j]? = some q ∧ ws[i]? = some q := by
  obtain ⟨j, hj⟩ := List.getElem?_of_mem hi
  have h1 : (isC.map (fun i => ws[i]?))[j]? = (wc.map some)[j]? := by rw [h]
  rw [List.getElem?_map, List.getElem?_map, hj] at h1
  cases hq : wc[j]? with
  | none => rw [hq] at h1; simp at h1
  | some q => rw [hq] at h1; exact ⟨j, q, hj, hq, by simpa using h1⟩
theorem sub_P {D : va_G} {isC : List Nat} {ws wc : va_W} {H : Heap} (h : Sub_ isC ws wc) (hP : va_P D vwCl ws H) : va_P D vwCl wc H := fun j q hj => by
  obtain ⟨i, _, hi⟩ := sub_at h hj
  exact hP i q hi
theorem sub_D {A : Nat → Prop} {isC : List Nat} {ws wc : va_W} (h : Sub_ isC ws wc) (hn : va_nd isC = true) (hD : va_D A ws) : va_D A wc := hD.sub isC hn h
theorem sub_F {A : Nat → Prop} {isC : List Nat} {ws wc : va_W} {H0 H : Heap} {locs : List Loc} (h : Sub_ isC ws wc) (hD : va_D A ws) (hS : va_S A H0 H locs) (hA : ∀ q, H0.size ≤ q → A q) : ∀ q, va_A wc H.size q → A q := by
  intro q hq
  rcases hq with ⟨k, e, hk⟩ | hq
  · obtain ⟨i, _, hi⟩ := sub_at h hk
    exact hD.2 i _ hi
  · exact hA q (Nat.le_trans hS.1 hq)
/-- behind a call: the whole world came back -/
theorem jn_all {A : Nat → Prop} {D : va_G} {ws w1 : va_W} {T : List (ClassId × FieldType)} {H0 H H1 : Heap} {locs : List Loc} {t : State} (hD : va_D A ws) (hS : va_S A H0 H locs) (hA : ∀ q, H0.size ≤ q → A q) (ht : t.heap = H1) (hB : at3_ D w1 T (va_A ws H.size) t) : va_P D vwCl w1 H1 ∧ va_D A w1 := by
  obtain ⟨h1, _, h3⟩ := hB
  rw [ht] at h1
  exact ⟨h1, h3.weaken (fun k q _ h => fr_all hD hS hA q.1 h)⟩
theorem lt_of_P {D : va_G} {ws : va_W} {H : Heap} (hP : va_P D vwCl ws H) {k : Nat} {q : Nat × va_E} (hk : ws[k]? = some q) : q.1 < H.size := va_at.lt (hP k q hk)
/-- behind a call that has no cell of the world -/
theorem jn_none {D : va_G} {ws : va_W} {H H1 : Heap} (hP : va_P D vwCl ws H) (hk : ∀ q : Nat, q < H.size → ¬ va_A [] H.size q → H1[q]? = H[q]?) : va_P D vwCl ws H1 :=
  hP.kept (fun k q h => hk q.1 (lt_of_P hP h) (fun h2 => by
    rcases h2 with ⟨j, e, hj⟩ | h2
    · simp at hj
    · exact absurd (lt_of_P hP h) (Nat.not_lt.mpr h2)))
theorem fr_none {A : Nat → Prop} {H0 H : Heap} {locs : List Loc} (hS : va_S A H0 H locs) (hA : ∀ q, H0.size ≤ q → A q) : ∀ q, va_A [] H.size q → A q := by
  intro q h
  rcases h with ⟨k, e, hk⟩ | h
  · simp at hk
  · exact hA q (Nat.le_trans hS.1 h)
theorem nil_P {D : va_G} {H : Heap} : va_P D vwCl [] H := fun k q h => by simp at h
theorem nil_D {A : Nat → Prop} : va_D A [] := ⟨fun i j p q h => by simp at h, fun k q h => by simp at h⟩
theorem nil_K {D : va_G} {T : List (ClassId × FieldType)} {U : State} (h : va_K D vwCl T U) : va_K D vwCl [] U := ⟨h.1, fun k q h => by simp at h⟩
/-- behind a call of a part: the part came back, the rest is as it was -/
def Join_ (isC isR : List Nat) (ws wc w1 ws' : va_W) : Prop := Sub_ isC ws' w1 ∧ isR.map (fun i => ws'[i]?) = isR.map (fun i => ws[i]?) ∧ (List.range ws'.length).all (fun i => isC.contains i || isR.contains i) = true ∧ w1.map (fun q => q.1) = wc.map (fun q => q.1)
theorem jn_sub {A : Nat → Prop} {D : va_G} {ws wc w1 ws' : va_W} {T : List (ClassId × FieldType)} {H0 H H1 : Heap} {locs : List Loc} {t : State} {isC isR : List Nat} (hC : Sub_ isC ws wc) (J : Join_ isC isR ws wc w1 ws') (hn : (isR.all fun i => !isC.contains i) = true) (hP : va_P D vwCl ws H) (hD : va_D A ws) (hS : va_S A H0 H locs) (hA : ∀ q, H0.size ≤ q → A q) (hk : ∀ q : Nat, q < H.size → ¬ va_A wc H.size q → H1[q]? = H[q]?) (ht : t.heap = H1) (hB : at3_ D w1 T (va_A wc H.size) t) : va_P D vwCl ws' H1 ∧ va_D A ws' := by
  obtain ⟨h1, _, h3⟩ := hB
  rw [ht] at h1
  obtain ⟨j1, j2, j3, j4⟩ := J
  have hcase : ∀ (k : Nat) (q : Nat × va_E), ws'[k]? = some q → (k ∈ isC ∧ ∃ (j : Nat) (q0 : Nat × va_E), isC[j]? = some k ∧ w1[j]? = some q ∧ wc[j]? = some q0 ∧ ws[k]? = some q0 ∧ q0.1 = q.1) ∨ (k ∉ isC ∧ ws[k]? = some q) := by
    intro k q hq
    have hlt : k < ws'.length := (List.getElem?_eq_some_iff.mp hq).1
    have hm := List.all_eq_true.mp j3 k (List.mem_range.mpr hlt)
    by_cases hkc : k ∈ isC
    · left
      refine ⟨hkc, ?_⟩
      obtain ⟨j, q1, a1, a2, a3⟩ := sub_of j1 hkc
      have e1 : q1 = q := by rw [hq] at a3; exact (Option.some.inj a3).symm
      subst e1
      have e2 : (w1.map (fun q => q.1))[j]? = (wc.map (fun q => q.1))[j]? := by rw [j4]
      rw [List.getElem?_map, List.getElem?_map, a2] at e2
      cases hc : wc[j]? with
      | none => rw [hc] at e2; simp at e2
      | some q0 =>
        rw [hc] at e2
        obtain ⟨i, b1, b2⟩ := sub_at hC hc
        have : i = k := by rw [a1] at b1; exact (Option.some.inj b1).symm
        subst this
        exact ⟨j, q0, a1, a2, hc, b2, by simpa using e2.symm⟩
    · right
      have hkr : k ∈ isR := by
        rcases Bool.or_eq_true_iff.mp hm with h | h
        · exact absurd (List.contains_iff_mem.mp h) hkc
        · exact List.contains_iff_mem.mp h
      refine ⟨hkc, ?_⟩
      obtain ⟨j, hj⟩ := List.getElem?_of_mem hkr
      have e2 : (isR.map (fun i => ws'[i]?))[j]? = (isR.map (fun i => ws[i]?))[j]? := by rw [j2]
      rw [List.getElem?_map, List.getElem?_map, hj] at e2
      simp only [Option.map_some, Option.some.injEq] at e2
      rw [← e2]; exact hq
  refine ⟨?_, ?_, ?_⟩
  · intro k q hq
    rcases hcase k q hq with ⟨_, j, q0, _, a2, _, _, _⟩ | ⟨hkc, hw⟩
    · exact h1 j q a2
    · refine (hP k q hw).kept (hk q.1 (lt_of_P hP hw) ?_)
      intro h2
      rcases h2 with ⟨j, e, hj⟩ | h2
      · obtain ⟨i, b1, b2⟩ := sub_at hC hj
        have := hD.1 i k _ _ b2 hw rfl
        subst this
        exact hkc (List.mem_of_getElem? b1)
      · exact absurd (lt_of_P hP hw) (Nat.not_lt.mpr h2)
  · intro i j p q hi hj hpq
    have key : ∀ (k : Nat) (q : Nat × va_E), ws'[k]? = some q → ∃ q0 : Nat × va_E, ws[k]? = some q0 ∧ q0.1 = q.1 := by
      intro k q hq
      rcases hcase k q hq with ⟨_, j, q0, _, _, _, b, b2⟩ | ⟨_, hw⟩
      · exact ⟨q0, b, b2⟩
      · exact ⟨q, hw, rfl⟩
    obtain ⟨p0, c1, c2⟩ := key i p hi
    obtain ⟨q0, d1, d2⟩ := key j q hj
    exact hD.1 i j p0 q0 c1 d1 (by rw [c2, d2]; exact hpq)
  · intro k q hq
    rcases hcase k q hq with ⟨_, j, q0, _, _, _, b, b2⟩ | ⟨_, hw⟩
    · rw [← b2]; exact hD.2 k q0 b
    · exact hD.2 k q hw
