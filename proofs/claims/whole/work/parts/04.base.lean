-- ===== BASE: checks of the read-back functions, what a call leaves of a world =====
/-- an index is looked at: none where it lies outside -/
def ck_ {α : Type} (i : Int32) (n : Nat) (x : Option α) : Option α := if i < 0 ∨ n ≤ i.toNatClampNeg then none else x
theorem ck_ok {α : Type} {i : Int32} {n : Nat} {x : Option α} {y : α} (h : ck_ i n x = some y) : vp_in i n ∧ x = some y := by
  unfold ck_ at h
  by_cases hc : (i < 0 ∨ n ≤ i.toNatClampNeg)
  · rw [if_pos hc] at h; cases h
  · rw [if_neg hc] at h; exact ⟨hc, h⟩
/-- a boolean is 0 or 1 -/
def zk_ {α : Type} (v : Int32) (x : Option α) : Option α := if v = 0 ∨ v = 1 then x else none
theorem zk_ok {α : Type} {v : Int32} {x : Option α} {y : α} (h : zk_ v x = some y) : (v = 0 ∨ v = 1) ∧ x = some y := by
  unfold zk_ at h
  by_cases hc : (v = 0 ∨ v = 1)
  · rw [if_pos hc] at h; exact ⟨hc, h⟩
  · rw [if_neg hc] at h; cases h
theorem zk_nar {v : Int32} (h : v = 0 ∨ v = 1) : narrow .boolean (.int v) = .int v := by rcases h with rfl | rfl <;> rfl
theorem zk_fit {v : Int32} (h : v = 0 ∨ v = 1) : fits .boolean (.int v) = true := by rcases h with rfl | rfl <;> rfl
/-- a divisor is not 0 -/
def nz_ {α : Type} (v : Int32) (x : Option α) : Option α := if v = 0 then none else x
theorem nz_ok {α : Type} {v : Int32} {x : Option α} {y : α} (h : nz_ v x = some y) : (¬ v = 0) ∧ x = some y := by
  unfold nz_ at h
  by_cases hc : v = 0
  · rw [if_pos hc] at h; cases h
  · rw [if_neg hc] at h; exact ⟨hc, h⟩
/-- a number gets a name -/
def lt_ {α β : Type} (e : α) (f : α → β) : β := f e
theorem lt_ok {α β : Type} {e y : α} {f : α → β} {z : β} (h : lt_ e f = z) (hy : y = e) : f y = z := by subst hy; exact h
theorem ob_ok {α β : Type} {x : Option α} {f : α → Option β} {y : β} (h : x.bind f = some y) : ∃ q, x = some q ∧ f q = some y := by
  cases x with
  | none => cases h
  | some q => exact ⟨q, rfl, h⟩
theorem ifp_ {α : Type} {c : Prop} [Decidable c] {t e z : α} (h : (if c then t else e) = z) (hc : c) : t = z := by rw [if_pos hc] at h; exact h
theorem ifn_ {α : Type} {c : Prop} [Decidable c] {t e z : α} (h : (if c then t else e) = z) (hc : ¬ c) : e = z := by rw [if_neg hc] at h; exact h
/-- a loop, run so often -/
def lp_ {α : Type} (z : α) (b : α → α) : Nat → α
  | 0 => z
  | n + 1 => b (lp_ z b n)
theorem lp_0 {α : Type} (z : α) (b : α → α) : lp_ z b 0 = z := rfl
theorem lp_s {α : Type} (z : α) (b : α → α) (n : Nat) : lp_ z b (n + 1) = b (lp_ z b n) := rfl
/-- addresses from one on -/
abbrev sh_ {α : Type} (f : Nat → α) (o : Nat) : Nat → α := fun i => f (i + o)
theorem ne_i {x : Int32} (n : Int) (c : Int32) (hc : c.toInt = n) (h : ¬ x = c) : ¬ x.toInt = n := fun e => h (Int32.toInt_inj.mp (e.trans hc.symm))
/-- what holds behind a method -/
def at3_ (D : va_G) (w : va_W) (T : List (ClassId × FieldType)) (A : Nat → Prop) (t : State) : Prop := va_P D vwCl w t.heap ∧ va_K D vwCl T t ∧ va_D A w
/-- what holds ahead of it -/
def PcF (av : List Value) (sz : Nat) (D : va_G) (w : va_W) (T : List (ClassId × FieldType)) : Array Value → State → Prop := va_Pc av (fun U => U.heap.size = sz ∧ va_P D vwCl w U.heap ∧ va_K D vwCl T U ∧ va_D (fun _ => True) w)
theorem pf_blind {av : List Value} {sz : Nat} {D : va_G} {w : va_W} {T : List (ClassId × FieldType)} : FrameBlind (PcF av sz D w T) := fun a U g mk q => by
  obtain ⟨q0, q1, qP, qK, qD⟩ := q
  exact ⟨q0, q1, qP, va_K.moved (u := U) (U := U.calling g mk a) (Vm.Alike.refl U.vm) qK, qD⟩
theorem pf_s {s : State} {H : Heap} {As : List Value} {D : va_G} {w : va_W} {T : List (ClassId × FieldType)} {A : Nat → Prop} (hK : va_K D vwCl T s) (hP : va_P D vwCl w H) (hD : va_D A w) : PreS s H (PcF As H.size D w T) As :=
  ⟨pf_blind, fun U hU hW => ⟨rfl, by rw [hU], by rw [hU]; exact hP, va_K.moved hW.alike hK, hD.weaken (fun _ _ _ _ => trivial)⟩⟩
theorem pf_v {s : State} {H : Heap} {b : Nat} {As : List Value} {D : va_G} {w : va_W} {T : List (ClassId × FieldType)} {A : Nat → Prop} {C : String} (hK : va_K D vwCl T s) (hP : va_P D vwCl w H) (hD : va_D A w) (ci q0 : Nat) {q : vw_C} {fs : List Value} (hc : vwCl[ci]? = some q) (hC : q.1 = C) (he : w[q0]? = some (b, .inr (ci, fs))) : PreV s H C b (PcF (.ref b :: As) H.size D w T) As :=
  ⟨pf_blind, by subst hC; exact va_recv hK hP hc he, (pf_s hK hP hD).2⟩
/-- the same, where a method of a nest mate is called -/
abbrev nestW : Cond := .methodLinkNest RX6 21 yX9_isWithin RX9
def PcN (av : List Value) (sz : Nat) (D : va_G) (w : va_W) (T : List (ClassId × FieldType)) : Array Value → State → Prop := va_Pc av (fun U => U.heap.size = sz ∧ va_P D vwCl w U.heap ∧ va_K D vwCl T U ∧ va_D (fun _ => True) w ∧ va_Nw nestW U)
theorem pn_blind {av : List Value} {sz : Nat} {D : va_G} {w : va_W} {T : List (ClassId × FieldType)} : FrameBlind (PcN av sz D w T) := fun a U g mk q => by
  obtain ⟨q0, q1, qP, qK, qD, qN⟩ := q
  exact ⟨q0, q1, qP, va_K.moved (u := U) (U := U.calling g mk a) (Vm.Alike.refl U.vm) qK, qD, va_Nw.same rfl (u := U) (U := U.calling g mk a) rfl qN⟩
theorem pn_s {s : State} {H : Heap} {As : List Value} {D : va_G} {w : va_W} {T : List (ClassId × FieldType)} {A : Nat → Prop} (hN : va_Nw nestW s) (hK : va_K D vwCl T s) (hP : va_P D vwCl w H) (hD : va_D A w) : PreS s H (PcN As H.size D w T) As :=
  ⟨pn_blind, fun U hU hW => ⟨rfl, by rw [hU], by rw [hU]; exact hP, va_K.moved hW.alike hK, hD.weaken (fun _ _ _ _ => trivial), va_Nw.warmM hW hN⟩⟩
theorem pn_v {s : State} {H : Heap} {b : Nat} {As : List Value} {D : va_G} {w : va_W} {T : List (ClassId × FieldType)} {A : Nat → Prop} {C : String} (hN : va_Nw nestW s) (hK : va_K D vwCl T s) (hP : va_P D vwCl w H) (hD : va_D A w) (ci q0 : Nat) {q : vw_C} {fs : List Value} (hc : vwCl[ci]? = some q) (hC : q.1 = C) (he : w[q0]? = some (b, .inr (ci, fs))) : PreV s H C b (PcN (.ref b :: As) H.size D w T) As :=
  ⟨pn_blind, by subst hC; exact va_recv hK hP hc he, (pn_s hN hK hP hD).2⟩
/-- the callee's cells are the caller's -/
theorem fr_all {A : Nat → Prop} {ws : va_W} {H0 H : Heap} {locs : List Loc} (hD : va_D A ws) (hS : va_S A H0 H locs) (hA : ∀ q, H0.size ≤ q → A q) : ∀ q, va_A ws H.size q → A q := by
  intro q h
  rcases h with ⟨k, e, hk⟩ | h
  · exact hD.2 k _ hk
  · exact hA q (Nat.le_trans hS.1 h)
/-- worlds by their members -/
theorem mP_iff {D : va_G} {ws : va_W} {H : Heap} : va_P D vwCl ws H ↔ ∀ q ∈ ws, va_at D vwCl q H := by
  constructor
  · intro h q hq
    obtain ⟨k, hk⟩ := List.getElem?_of_mem hq
    exact h k q hk
  · intro h k q hk
    exact h q (List.mem_of_getElem? hk)
theorem mD_iff {A : Nat → Prop} {ws : va_W} : va_D A ws ↔ (ws.map (fun q => q.1)).Nodup ∧ ∀ q ∈ ws, A q.1 := by
  constructor
  · intro h
    refine ⟨?_, fun q hq => ?_⟩
    · rw [List.nodup_iff_pairwise_ne, List.pairwise_iff_getElem]
      intro i j hi hj hij he
      rw [List.length_map] at hi hj
      rw [List.getElem_map, List.getElem_map] at he
      have := h.1 i j ws[i] ws[j] (List.getElem?_eq_getElem hi) (List.getElem?_eq_getElem hj) he
      omega
    · obtain ⟨k, hk⟩ := List.getElem?_of_mem hq
      exact h.2 k q hk
  · intro h
    refine ⟨fun i j p q hi hj he => ?_, fun k q hk => h.2 q (List.mem_of_getElem? hk)⟩
    have h1 := h.1
    rw [List.nodup_iff_pairwise_ne, List.pairwise_iff_getElem] at h1
    obtain ⟨li, ei⟩ := List.getElem?_eq_some_iff.mp hi
    obtain ⟨lj, ej⟩ := List.getElem?_eq_some_iff.mp hj
    rcases Nat.lt_trichotomy i j with c | c | c
    · have := h1 i j (by rw [List.length_map]; exact li) (by rw [List.length_map]; exact lj) c
      rw [List.getElem_map, List.getElem_map, ei, ej] at this
      exact absurd he this
    · exact c
    · have := h1 j i (by rw [List.length_map]; exact lj) (by rw [List.length_map]; exact li) c
      rw [List.getElem_map, List.getElem_map, ei, ej] at this
      exact absurd he.symm this
theorem sub_P {D : va_G} {ws wc wr : va_W} {H : Heap} (h : ws.Perm (wc ++ wr)) (hP : va_P D vwCl ws H) : va_P D vwCl wc H :=
  mP_iff.mpr (fun q hq => mP_iff.mp hP q (h.mem_iff.mpr (List.mem_append_left _ hq)))
theorem sub_D {A : Nat → Prop} {ws wc wr : va_W} (h : ws.Perm (wc ++ wr)) (hD : va_D A ws) : va_D A wc := by
  rw [mD_iff] at hD ⊢
  have hn := ((h.map (fun q => q.1)).nodup_iff).mp hD.1
  rw [List.map_append] at hn
  exact ⟨(List.nodup_append.mp hn).1, fun q hq => hD.2 q (h.mem_iff.mpr (List.mem_append_left _ hq))⟩
theorem sub_F {A : Nat → Prop} {ws wc wr : va_W} {H0 H : Heap} {locs : List Loc} (h : ws.Perm (wc ++ wr)) (hD : va_D A ws) (hS : va_S A H0 H locs) (hA : ∀ q, H0.size ≤ q → A q) : ∀ q, va_A wc H.size q → A q :=
  fr_all (sub_D h hD) hS hA
/-- behind a call: the whole world came back -/
theorem jn_all {A : Nat → Prop} {D : va_G} {ws w1 : va_W} {T : List (ClassId × FieldType)} {H0 H H1 : Heap} {locs : List Loc} {t : State} (hD : va_D A ws) (hS : va_S A H0 H locs) (hA : ∀ q, H0.size ≤ q → A q) (ht : t.heap = H1) (hB : at3_ D w1 T (va_A ws H.size) t) : va_P D vwCl w1 H1 ∧ va_D A w1 := by
  obtain ⟨h1, _, h3⟩ := hB
  rw [ht] at h1
  exact ⟨h1, h3.weaken (fun k q _ h => fr_all hD hS hA q.1 h)⟩
theorem lt_of_P {D : va_G} {ws : va_W} {H : Heap} (hP : va_P D vwCl ws H) {k : Nat} {q : Nat × va_E} (hk : ws[k]? = some q) : q.1 < H.size := va_at.lt (hP k q hk)
/-- behind a call that has no cell of the world -/
theorem jn_none {D : va_G} {ws : va_W} {H H1 : Heap} (hP : va_P D vwCl ws H) (hk : ∀ q : Nat, q < H.size → ¬ va_A [] H.size q → H1[q]? = H[q]?) : va_P D vwCl ws H1 :=
  hP.kept (fun k q h => hk q.1 (lt_of_P hP h) (fun h2 => by
    rcases h2 with ⟨j, e, hj⟩ | h2
    · simp at hj
    · exact absurd (lt_of_P hP h) (Nat.not_lt.mpr h2)))
theorem fr_none {A : Nat → Prop} {H0 H : Heap} {locs : List Loc} (hS : va_S A H0 H locs) (hA : ∀ q, H0.size ≤ q → A q) : ∀ q, va_A [] H.size q → A q := by
  intro q h
  rcases h with ⟨k, e, hk⟩ | h
  · simp at hk
  · exact hA q (Nat.le_trans hS.1 h)
theorem nil_P {D : va_G} {H : Heap} : va_P D vwCl [] H := fun k q h => by simp at h
theorem nil_D {A : Nat → Prop} : va_D A [] := ⟨fun i j p q h => by simp at h, fun k q h => by simp at h⟩
theorem nil_K {D : va_G} {T : List (ClassId × FieldType)} {U : State} (h : va_K D vwCl T U) : va_K D vwCl [] U := ⟨h.1, fun k q h => by simp at h⟩
/-- behind a call of a part: the part came back, the rest is as it was -/
theorem jn_sub {A : Nat → Prop} {D : va_G} {ws wc wr w1 ws' : va_W} {T : List (ClassId × FieldType)} {H H1 : Heap} {t : State} (h1 : ws.Perm (wc ++ wr)) (h2 : ws'.Perm (w1 ++ wr)) (h3 : w1.map (fun q => q.1) = wc.map (fun q => q.1)) (hP : va_P D vwCl ws H) (hD : va_D A ws) (hk : ∀ q : Nat, q < H.size → ¬ va_A wc H.size q → H1[q]? = H[q]?) (ht : t.heap = H1) (hB : at3_ D w1 T (va_A wc H.size) t) : va_P D vwCl ws' H1 ∧ va_D A ws' := by
  obtain ⟨b1, _, _⟩ := hB
  rw [ht] at b1
  have hD0 := mD_iff.mp hD
  have hn := ((h1.map (fun q => q.1)).nodup_iff).mp hD0.1
  rw [List.map_append] at hn
  have hP0 := mP_iff.mp hP
  constructor
  · refine mP_iff.mpr (fun q hq => ?_)
    rcases List.mem_append.mp (h2.mem_iff.mp hq) with m1 | m2
    · exact mP_iff.mp b1 q m1
    · have mq : q ∈ ws := h1.mem_iff.mpr (List.mem_append_right _ m2)
      have hlt : q.1 < H.size := va_at.lt (hP0 q mq)
      refine (hP0 q mq).kept (hk q.1 hlt ?_)
      intro h
      rcases h with ⟨j, e, hj⟩ | h
      · have m3 : q.1 ∈ wc.map (fun q => q.1) := List.mem_map.mpr ⟨(q.1, e), List.mem_of_getElem? hj, rfl⟩
        have m4 : q.1 ∈ wr.map (fun q => q.1) := List.mem_map.mpr ⟨q, m2, rfl⟩
        exact (List.nodup_append.mp hn).2.2 _ m3 _ m4 rfl
      · exact absurd hlt (Nat.not_lt.mpr h)
  · have hm : (ws'.map (fun q => q.1)).Perm (ws.map (fun q => q.1)) := by
      refine (h2.map _).trans ?_
      rw [List.map_append, h3, ← List.map_append]
      exact (h1.map _).symm
    refine mD_iff.mpr ⟨hm.nodup_iff.mpr hD0.1, fun q hq => ?_⟩
    have m1 : q.1 ∈ ws.map (fun q => q.1) := hm.mem_iff.mp (List.mem_map.mpr ⟨q, hq, rfl⟩)
    obtain ⟨p, mp, e⟩ := List.mem_map.mp m1
    rw [← e]
    exact hD0.2 p mp
/-- a part is taken out of a world -/
theorem pu_1 (x : va_W) : x.Perm (x ++ []) := List.Perm.of_eq (List.append_nil x).symm
theorem pu_l {L x L' : va_W} (R : va_W) (h : L.Perm (x ++ L')) : (L ++ R).Perm (x ++ (L' ++ R)) := (h.append_right R).trans (List.Perm.of_eq (List.append_assoc x L' R))
theorem pu_r {R x R' : va_W} (L : va_W) (h : R.Perm (x ++ R')) : (L ++ R).Perm (x ++ (L ++ R')) := (h.append_left L).trans (List.perm_append_comm_assoc L x R')
theorem pu_2 {W x r y r' : va_W} (h1 : W.Perm (x ++ r)) (h2 : r.Perm (y ++ r')) : W.Perm ((x ++ y) ++ r') := h1.trans ((h2.append_left x).trans (List.Perm.of_eq (List.append_assoc x y r').symm))
