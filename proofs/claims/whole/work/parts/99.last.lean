theorem srt_nodup {K : Nat → Int} {l : List Nat} (h : Srt_ K l) : l.Nodup := by
  rw [List.nodup_iff_pairwise_ne]
  exact h.imp (fun hab e => by rw [e] at hab; omega)
theorem row_perm {m : ZT_10} {N : Nat} (hM : MOK m N) {by_ : Int32} (h : Int32) : (rowM m by_ h N).Perm ((List.range N).filter (fun c => decide (m.1.2.2.2.2.1 c = h))) := by
  have hN := hM.2.1
  refine (List.perm_ext_iff_of_nodup (srt_nodup (K := keyM m by_) (rowUp_srt (M := 64) (fun a b ha hb e => keyF_inj ha hb e) N (by omega))) (by rw [List.nodup_iff_pairwise_ne]; exact (range_asc N _).imp (fun hab e => by omega))).mpr (fun c => ?_)
  rw [rowUp_mem, List.mem_filter, List.mem_range]
  constructor
  · rintro ⟨h1, h2⟩; exact ⟨h1, decide_eq_true h2⟩
  · rintro ⟨h1, h2⟩; exact ⟨h1, of_decide_eq_true h2⟩
theorem worth_eq (fu : Nat) (hfu : 100 ≤ fu) {m : ZT_10} {N : Nat} (hM : MOK m N) {rk : ZT_4} {law : Int32} {l : List Nat} (hR : RankOK rk (keyM m law) m.1.1 law N l) {S : Int64} {h : Int32} (hS : ∀ r, r < 64 → tb_ S r = decide (r < N ∧ m.1.2.2.2.2.1 (l.getD r 0) = h)) : ∃ v : Int32, rr_X4_worthOf fu S rk = some v ∧ rr_X10_worthOf fu h m = some v := by
  have hN := hM.2.1
  have a1 : rr_X4_worthOf_5 fu rk fu S 0 0 = _ := w4_5 fu hN hR.2.2.2.1 S N 0 fu (by omega) (by omega)
  have a2 : rr_X10_worthOf_4 fu m fu h 0 0 = _ := w10_4 fu hM h N 0 fu (by omega) (by omega)
  refine ⟨_, a1, ?_⟩
  unfold rr_X10_worthOf
  rw [a2]
  congr 1
  rw [← sumC_perm (row_perm hM (by_ := law) h), ← row_ranks hM hR h, sumC_map]
  have e : (List.range N).filter (tb_ S) = (List.range N).filter (fun r => decide (m.1.2.2.2.2.1 (l.getD r 0) = h)) := List.filter_congr (fun r hr => by
    have := List.mem_range.mp hr
    rw [hS r (by omega)]
    apply decide_eq_decide.mpr
    exact ⟨fun x => x.2, fun x => ⟨this, x⟩⟩)
  rw [e]
  refine (sumC_congr _ (fun r hr => ?_)).symm
  exact hR.2.2.2.2.2.1 r (List.mem_range.mp (List.mem_filter.mp hr).1)
