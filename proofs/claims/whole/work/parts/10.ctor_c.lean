-- ===== behind a constructor's call: new cells have come =====
theorem perm_P {D : va_G} {ws ws' : va_W} {H : Heap} (h : ws.Perm ws') (hP : va_P D vwCl ws H) : va_P D vwCl ws' H := mP_iff.mpr (fun q hq => mP_iff.mp hP q (h.mem_iff.mpr hq))
theorem perm_D {A : Nat → Prop} {ws ws' : va_W} (h : ws.Perm ws') (hD : va_D A ws) : va_D A ws' := by
  rw [mD_iff] at hD ⊢
  exact ⟨((h.map (fun q => q.1)).nodup_iff).mp hD.1, fun q hq => hD.2 q (h.mem_iff.mpr hq)⟩
theorem jn_new {A : Nat → Prop} {D : va_G} {ws wc wr w1 : va_W} {H H1 : Heap} (h1 : ws.Perm (wc ++ wr)) (hP : va_P D vwCl ws H) (hD : va_D A ws) (hF : ∀ q, va_A wc H.size q → A q) (hk : ∀ q : Nat, q < H.size → ¬ va_A wc H.size q → H1[q]? = H[q]?) (b1 : va_P D vwCl w1 H1) (b2 : va_D (va_A wc H.size) w1) : va_P D vwCl (wr ++ w1) H1 ∧ va_D A (wr ++ w1) := by
  have hD0 := mD_iff.mp hD
  have hn := ((h1.map (fun q => q.1)).nodup_iff).mp hD0.1
  rw [List.map_append] at hn
  have hP0 := mP_iff.mp hP
  have b20 := mD_iff.mp b2
  have hout : ∀ q ∈ wr, q.1 < H.size ∧ ¬ va_A wc H.size q.1 := by
    intro q m2
    have mq : q ∈ ws := h1.mem_iff.mpr (List.mem_append_right _ m2)
    have hlt : q.1 < H.size := va_at.lt (hP0 q mq)
    refine ⟨hlt, ?_⟩
    intro h
    rcases h with ⟨j, e, hj⟩ | h
    · have m3 : q.1 ∈ wc.map (fun q => q.1) := List.mem_map.mpr ⟨(q.1, e), List.mem_of_getElem? hj, rfl⟩
      have m4 : q.1 ∈ wr.map (fun q => q.1) := List.mem_map.mpr ⟨q, m2, rfl⟩
      exact (List.nodup_append.mp hn).2.2 _ m3 _ m4 rfl
    · exact absurd hlt (Nat.not_lt.mpr h)
  constructor
  · refine mP_iff.mpr (fun q hq => ?_)
    rcases List.mem_append.mp hq with m2 | m1
    · have mq : q ∈ ws := h1.mem_iff.mpr (List.mem_append_right _ m2)
      exact (hP0 q mq).kept (hk q.1 (hout q m2).1 (hout q m2).2)
    · exact mP_iff.mp b1 q m1
  · refine mD_iff.mpr ⟨?_, fun q hq => ?_⟩
    · rw [List.map_append]
      refine List.nodup_append.mpr ⟨(List.nodup_append.mp hn).2.1, b20.1, ?_⟩
      intro a ha b hb he
      obtain ⟨p, mp, e1⟩ := List.mem_map.mp ha
      obtain ⟨q, mq, e2⟩ := List.mem_map.mp hb
      subst e1
      subst e2
      exact (hout p mp).2 (by rw [he]; exact b20.2 q mq)
    · rcases List.mem_append.mp hq with m2 | m1
      · exact hD0.2 q (h1.mem_iff.mpr (List.mem_append_right _ m2))
      · exact hF q.1 (b20.2 q m1)
