theorem pl_split {k : Nat} (hk : k < 284) : (∃ c, c < 40 ∧ k = 0 + c) ∨ (∃ c, c < 40 ∧ k = 40 + c) ∨ (∃ c, c < 40 ∧ k = 80 + c) ∨ (∃ c, c < 40 ∧ k = 120 + c) ∨ (∃ c, c < 40 ∧ k = 160 + c) ∨ (∃ c, c < 6 ∧ k = 200 + c) ∨ (∃ c, c < 6 ∧ k = 206 + c) ∨ (∃ c, c < 72 ∧ k = 212 + c) := by
  by_cases h1 : k < 40
  · exact Or.inl ⟨k, h1, by omega⟩
  by_cases h2 : k < 80
  · exact Or.inr (Or.inl ⟨k - 40, by omega, by omega⟩)
  by_cases h3 : k < 120
  · exact Or.inr (Or.inr (Or.inl ⟨k - 80, by omega, by omega⟩))
  by_cases h4 : k < 160
  · exact Or.inr (Or.inr (Or.inr (Or.inl ⟨k - 120, by omega, by omega⟩)))
  by_cases h5 : k < 200
  · exact Or.inr (Or.inr (Or.inr (Or.inr (Or.inl ⟨k - 160, by omega, by omega⟩))))
  by_cases h6 : k < 206
  · exact Or.inr (Or.inr (Or.inr (Or.inr (Or.inr (Or.inl ⟨k - 200, by omega, by omega⟩)))))
  by_cases h7 : k < 212
  · exact Or.inr (Or.inr (Or.inr (Or.inr (Or.inr (Or.inr (Or.inl ⟨k - 206, by omega, by omega⟩))))))
  · exact Or.inr (Or.inr (Or.inr (Or.inr (Or.inr (Or.inr (Or.inr ⟨k - 212, by omega, by omega⟩))))))
theorem ca0 (fu : Nat) (m : ZT_10) {k : Nat} (hk : k < 284) : rr_X10_carried fu (nI k) (0 : Int32) (0 : Int32) m = some (pl8 m.1.1 m.1.2.1 m.1.2.2.1 m.1.2.2.2.1 m.1.2.2.2.2.1 m.2.1.1 m.2.1.2.1 m.2.2.1.1 k, m) := by
  rcases pl_split hk with ⟨c, hc, rfl⟩ | ⟨c, hc, rfl⟩ | ⟨c, hc, rfl⟩ | ⟨c, hc, rfl⟩ | ⟨c, hc, rfl⟩ | ⟨c, hc, rfl⟩ | ⟨c, hc, rfl⟩ | ⟨c, hc, rfl⟩
  · rw [pl_wo _ _ _ _ _ _ _ _ hc]; exact ca0_wo fu m hc
  · rw [pl_ye _ _ _ _ _ _ _ _ hc]; exact ca0_ye fu m hc
  · rw [pl_st _ _ _ _ _ _ _ _ hc]; exact ca0_st fu m hc
  · rw [pl_ki _ _ _ _ _ _ _ _ hc]; exact ca0_ki fu m hc
  · rw [pl_ho _ _ _ _ _ _ _ _ hc]; exact ca0_ho fu m hc
  · rw [pl_sh _ _ _ _ _ _ _ _ hc]; exact ca0_sh fu m hc
  · rw [pl_su _ _ _ _ _ _ _ _ hc]; exact ca0_su fu m hc
  · rw [pl_bi _ _ _ _ _ _ _ _ hc]; exact ca0_bi fu m hc
theorem ca1 (fu : Nat) (m : ZT_10) (v : Int32) (wo ye st ki ho sh su bi : Nat → Int32) {k : Nat} (hk : k < 284) : ∃ (r : Int32) (wo' ye' st' ki' ho' sh' su' bi' : Nat → Int32), rr_X10_carried fu (nI k) v (1 : Int32) (wTw m wo ye st ki ho sh su bi) = some (r, wTw m wo' ye' st' ki' ho' sh' su' bi') ∧ pl8 wo' ye' st' ki' ho' sh' su' bi' k = v ∧ ∀ j, j < 284 → j ≠ k → pl8 wo' ye' st' ki' ho' sh' su' bi' j = pl8 wo ye st ki ho sh su bi j := by
  rcases pl_split hk with ⟨c, hc, rfl⟩ | ⟨c, hc, rfl⟩ | ⟨c, hc, rfl⟩ | ⟨c, hc, rfl⟩ | ⟨c, hc, rfl⟩ | ⟨c, hc, rfl⟩ | ⟨c, hc, rfl⟩ | ⟨c, hc, rfl⟩
  · obtain ⟨r, e⟩ := ca1_wo fu m v wo ye st ki ho sh su bi hc
    refine ⟨r, upd wo c v, ye, st, ki, ho, sh, su, bi, e, by rw [pl_wo _ _ _ _ _ _ _ _ hc, pk_us], fun j hj hne => ?_⟩
    rcases pl_split hj with ⟨d, hd, rfl⟩ | ⟨d, hd, rfl⟩ | ⟨d, hd, rfl⟩ | ⟨d, hd, rfl⟩ | ⟨d, hd, rfl⟩ | ⟨d, hd, rfl⟩ | ⟨d, hd, rfl⟩ | ⟨d, hd, rfl⟩
    · rw [pl_wo _ _ _ _ _ _ _ _ hd, pl_wo _ _ _ _ _ _ _ _ hd, pk_un (by omega)]
    · rw [pl_ye _ _ _ _ _ _ _ _ hd, pl_ye _ _ _ _ _ _ _ _ hd]
    · rw [pl_st _ _ _ _ _ _ _ _ hd, pl_st _ _ _ _ _ _ _ _ hd]
    · rw [pl_ki _ _ _ _ _ _ _ _ hd, pl_ki _ _ _ _ _ _ _ _ hd]
    · rw [pl_ho _ _ _ _ _ _ _ _ hd, pl_ho _ _ _ _ _ _ _ _ hd]
    · rw [pl_sh _ _ _ _ _ _ _ _ hd, pl_sh _ _ _ _ _ _ _ _ hd]
    · rw [pl_su _ _ _ _ _ _ _ _ hd, pl_su _ _ _ _ _ _ _ _ hd]
    · rw [pl_bi _ _ _ _ _ _ _ _ hd, pl_bi _ _ _ _ _ _ _ _ hd]
  · obtain ⟨r, e⟩ := ca1_ye fu m v wo ye st ki ho sh su bi hc
    refine ⟨r, wo, upd ye c v, st, ki, ho, sh, su, bi, e, by rw [pl_ye _ _ _ _ _ _ _ _ hc, pk_us], fun j hj hne => ?_⟩
    rcases pl_split hj with ⟨d, hd, rfl⟩ | ⟨d, hd, rfl⟩ | ⟨d, hd, rfl⟩ | ⟨d, hd, rfl⟩ | ⟨d, hd, rfl⟩ | ⟨d, hd, rfl⟩ | ⟨d, hd, rfl⟩ | ⟨d, hd, rfl⟩
    · rw [pl_wo _ _ _ _ _ _ _ _ hd, pl_wo _ _ _ _ _ _ _ _ hd]
    · rw [pl_ye _ _ _ _ _ _ _ _ hd, pl_ye _ _ _ _ _ _ _ _ hd, pk_un (by omega)]
    · rw [pl_st _ _ _ _ _ _ _ _ hd, pl_st _ _ _ _ _ _ _ _ hd]
    · rw [pl_ki _ _ _ _ _ _ _ _ hd, pl_ki _ _ _ _ _ _ _ _ hd]
    · rw [pl_ho _ _ _ _ _ _ _ _ hd, pl_ho _ _ _ _ _ _ _ _ hd]
    · rw [pl_sh _ _ _ _ _ _ _ _ hd, pl_sh _ _ _ _ _ _ _ _ hd]
    · rw [pl_su _ _ _ _ _ _ _ _ hd, pl_su _ _ _ _ _ _ _ _ hd]
    · rw [pl_bi _ _ _ _ _ _ _ _ hd, pl_bi _ _ _ _ _ _ _ _ hd]
  · obtain ⟨r, e⟩ := ca1_st fu m v wo ye st ki ho sh su bi hc
    refine ⟨r, wo, ye, upd st c v, ki, ho, sh, su, bi, e, by rw [pl_st _ _ _ _ _ _ _ _ hc, pk_us], fun j hj hne => ?_⟩
    rcases pl_split hj with ⟨d, hd, rfl⟩ | ⟨d, hd, rfl⟩ | ⟨d, hd, rfl⟩ | ⟨d, hd, rfl⟩ | ⟨d, hd, rfl⟩ | ⟨d, hd, rfl⟩ | ⟨d, hd, rfl⟩ | ⟨d, hd, rfl⟩
    · rw [pl_wo _ _ _ _ _ _ _ _ hd, pl_wo _ _ _ _ _ _ _ _ hd]
    · rw [pl_ye _ _ _ _ _ _ _ _ hd, pl_ye _ _ _ _ _ _ _ _ hd]
    · rw [pl_st _ _ _ _ _ _ _ _ hd, pl_st _ _ _ _ _ _ _ _ hd, pk_un (by omega)]
    · rw [pl_ki _ _ _ _ _ _ _ _ hd, pl_ki _ _ _ _ _ _ _ _ hd]
    · rw [pl_ho _ _ _ _ _ _ _ _ hd, pl_ho _ _ _ _ _ _ _ _ hd]
    · rw [pl_sh _ _ _ _ _ _ _ _ hd, pl_sh _ _ _ _ _ _ _ _ hd]
    · rw [pl_su _ _ _ _ _ _ _ _ hd, pl_su _ _ _ _ _ _ _ _ hd]
    · rw [pl_bi _ _ _ _ _ _ _ _ hd, pl_bi _ _ _ _ _ _ _ _ hd]
  · obtain ⟨r, e⟩ := ca1_ki fu m v wo ye st ki ho sh su bi hc
    refine ⟨r, wo, ye, st, upd ki c v, ho, sh, su, bi, e, by rw [pl_ki _ _ _ _ _ _ _ _ hc, pk_us], fun j hj hne => ?_⟩
    rcases pl_split hj with ⟨d, hd, rfl⟩ | ⟨d, hd, rfl⟩ | ⟨d, hd, rfl⟩ | ⟨d, hd, rfl⟩ | ⟨d, hd, rfl⟩ | ⟨d, hd, rfl⟩ | ⟨d, hd, rfl⟩ | ⟨d, hd, rfl⟩
    · rw [pl_wo _ _ _ _ _ _ _ _ hd, pl_wo _ _ _ _ _ _ _ _ hd]
    · rw [pl_ye _ _ _ _ _ _ _ _ hd, pl_ye _ _ _ _ _ _ _ _ hd]
    · rw [pl_st _ _ _ _ _ _ _ _ hd, pl_st _ _ _ _ _ _ _ _ hd]
    · rw [pl_ki _ _ _ _ _ _ _ _ hd, pl_ki _ _ _ _ _ _ _ _ hd, pk_un (by omega)]
    · rw [pl_ho _ _ _ _ _ _ _ _ hd, pl_ho _ _ _ _ _ _ _ _ hd]
    · rw [pl_sh _ _ _ _ _ _ _ _ hd, pl_sh _ _ _ _ _ _ _ _ hd]
    · rw [pl_su _ _ _ _ _ _ _ _ hd, pl_su _ _ _ _ _ _ _ _ hd]
    · rw [pl_bi _ _ _ _ _ _ _ _ hd, pl_bi _ _ _ _ _ _ _ _ hd]
  · obtain ⟨r, e⟩ := ca1_ho fu m v wo ye st ki ho sh su bi hc
    refine ⟨r, wo, ye, st, ki, upd ho c v, sh, su, bi, e, by rw [pl_ho _ _ _ _ _ _ _ _ hc, pk_us], fun j hj hne => ?_⟩
    rcases pl_split hj with ⟨d, hd, rfl⟩ | ⟨d, hd, rfl⟩ | ⟨d, hd, rfl⟩ | ⟨d, hd, rfl⟩ | ⟨d, hd, rfl⟩ | ⟨d, hd, rfl⟩ | ⟨d, hd, rfl⟩ | ⟨d, hd, rfl⟩
    · rw [pl_wo _ _ _ _ _ _ _ _ hd, pl_wo _ _ _ _ _ _ _ _ hd]
    · rw [pl_ye _ _ _ _ _ _ _ _ hd, pl_ye _ _ _ _ _ _ _ _ hd]
    · rw [pl_st _ _ _ _ _ _ _ _ hd, pl_st _ _ _ _ _ _ _ _ hd]
    · rw [pl_ki _ _ _ _ _ _ _ _ hd, pl_ki _ _ _ _ _ _ _ _ hd]
    · rw [pl_ho _ _ _ _ _ _ _ _ hd, pl_ho _ _ _ _ _ _ _ _ hd, pk_un (by omega)]
    · rw [pl_sh _ _ _ _ _ _ _ _ hd, pl_sh _ _ _ _ _ _ _ _ hd]
    · rw [pl_su _ _ _ _ _ _ _ _ hd, pl_su _ _ _ _ _ _ _ _ hd]
    · rw [pl_bi _ _ _ _ _ _ _ _ hd, pl_bi _ _ _ _ _ _ _ _ hd]
  · obtain ⟨r, e⟩ := ca1_sh fu m v wo ye st ki ho sh su bi hc
    refine ⟨r, wo, ye, st, ki, ho, upd sh c v, su, bi, e, by rw [pl_sh _ _ _ _ _ _ _ _ hc, pk_us], fun j hj hne => ?_⟩
    rcases pl_split hj with ⟨d, hd, rfl⟩ | ⟨d, hd, rfl⟩ | ⟨d, hd, rfl⟩ | ⟨d, hd, rfl⟩ | ⟨d, hd, rfl⟩ | ⟨d, hd, rfl⟩ | ⟨d, hd, rfl⟩ | ⟨d, hd, rfl⟩
    · rw [pl_wo _ _ _ _ _ _ _ _ hd, pl_wo _ _ _ _ _ _ _ _ hd]
    · rw [pl_ye _ _ _ _ _ _ _ _ hd, pl_ye _ _ _ _ _ _ _ _ hd]
    · rw [pl_st _ _ _ _ _ _ _ _ hd, pl_st _ _ _ _ _ _ _ _ hd]
    · rw [pl_ki _ _ _ _ _ _ _ _ hd, pl_ki _ _ _ _ _ _ _ _ hd]
    · rw [pl_ho _ _ _ _ _ _ _ _ hd, pl_ho _ _ _ _ _ _ _ _ hd]
    · rw [pl_sh _ _ _ _ _ _ _ _ hd, pl_sh _ _ _ _ _ _ _ _ hd, pk_un (by omega)]
    · rw [pl_su _ _ _ _ _ _ _ _ hd, pl_su _ _ _ _ _ _ _ _ hd]
    · rw [pl_bi _ _ _ _ _ _ _ _ hd, pl_bi _ _ _ _ _ _ _ _ hd]
  · obtain ⟨r, e⟩ := ca1_su fu m v wo ye st ki ho sh su bi hc
    refine ⟨r, wo, ye, st, ki, ho, sh, upd su c v, bi, e, by rw [pl_su _ _ _ _ _ _ _ _ hc, pk_us], fun j hj hne => ?_⟩
    rcases pl_split hj with ⟨d, hd, rfl⟩ | ⟨d, hd, rfl⟩ | ⟨d, hd, rfl⟩ | ⟨d, hd, rfl⟩ | ⟨d, hd, rfl⟩ | ⟨d, hd, rfl⟩ | ⟨d, hd, rfl⟩ | ⟨d, hd, rfl⟩
    · rw [pl_wo _ _ _ _ _ _ _ _ hd, pl_wo _ _ _ _ _ _ _ _ hd]
    · rw [pl_ye _ _ _ _ _ _ _ _ hd, pl_ye _ _ _ _ _ _ _ _ hd]
    · rw [pl_st _ _ _ _ _ _ _ _ hd, pl_st _ _ _ _ _ _ _ _ hd]
    · rw [pl_ki _ _ _ _ _ _ _ _ hd, pl_ki _ _ _ _ _ _ _ _ hd]
    · rw [pl_ho _ _ _ _ _ _ _ _ hd, pl_ho _ _ _ _ _ _ _ _ hd]
    · rw [pl_sh _ _ _ _ _ _ _ _ hd, pl_sh _ _ _ _ _ _ _ _ hd]
    · rw [pl_su _ _ _ _ _ _ _ _ hd, pl_su _ _ _ _ _ _ _ _ hd, pk_un (by omega)]
    · rw [pl_bi _ _ _ _ _ _ _ _ hd, pl_bi _ _ _ _ _ _ _ _ hd]
  · obtain ⟨r, e⟩ := ca1_bi fu m v wo ye st ki ho sh su bi hc
    refine ⟨r, wo, ye, st, ki, ho, sh, su, upd bi c v, e, by rw [pl_bi _ _ _ _ _ _ _ _ hc, pk_us], fun j hj hne => ?_⟩
    rcases pl_split hj with ⟨d, hd, rfl⟩ | ⟨d, hd, rfl⟩ | ⟨d, hd, rfl⟩ | ⟨d, hd, rfl⟩ | ⟨d, hd, rfl⟩ | ⟨d, hd, rfl⟩ | ⟨d, hd, rfl⟩ | ⟨d, hd, rfl⟩
    · rw [pl_wo _ _ _ _ _ _ _ _ hd, pl_wo _ _ _ _ _ _ _ _ hd]
    · rw [pl_ye _ _ _ _ _ _ _ _ hd, pl_ye _ _ _ _ _ _ _ _ hd]
    · rw [pl_st _ _ _ _ _ _ _ _ hd, pl_st _ _ _ _ _ _ _ _ hd]
    · rw [pl_ki _ _ _ _ _ _ _ _ hd, pl_ki _ _ _ _ _ _ _ _ hd]
    · rw [pl_ho _ _ _ _ _ _ _ _ hd, pl_ho _ _ _ _ _ _ _ _ hd]
    · rw [pl_sh _ _ _ _ _ _ _ _ hd, pl_sh _ _ _ _ _ _ _ _ hd]
    · rw [pl_su _ _ _ _ _ _ _ _ hd, pl_su _ _ _ _ _ _ _ _ hd]
    · rw [pl_bi _ _ _ _ _ _ _ _ hd, pl_bi _ _ _ _ _ _ _ _ hd, pk_un (by omega)]
