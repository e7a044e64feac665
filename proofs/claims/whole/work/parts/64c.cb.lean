theorem sx_6 {o d c : Nat} (hc : c < 6) (ho : o = 200 + d) (hd : d ≤ 6) : nI (o + c) - (200 : Int32) = nI (d + c) := by
  subst ho
  rw [show (200 : Int32) = nI 200 from rfl, pk_sub (by omega), show 200 + d + c - 200 = d + c by omega]
theorem sr_6 {d c : Nat} (hc : c < 6) (hd : d = 0 ∨ d = 6) : nI (d + c) - nI (d + c) / (6 : Int32) * (6 : Int32) = nI c := by
  rw [show (6 : Int32) = nI 6 from rfl, pk_rem (by rcases hd with rfl | rfl <;> omega) (by omega) (by omega), show (d + c) % 6 = c by rcases hd with rfl | rfl <;> omega]
theorem ca0_sh (fu : Nat) (m : ZT_10) {c : Nat} (hc : c < 6) : rr_X10_carried fu (nI (200 + c)) (0 : Int32) (0 : Int32) m = some (m.2.1.1 c, m) := by
  unfold rr_X10_carried
  rw [if_pos (show (200 : Int32) ≤ nI (200 + c) from nI_le (a := 200) (by omega) (by omega)), lt_eq, sx_6 (d := 0) hc rfl (by omega), if_neg (show ¬ (12 : Int32) ≤ nI (0 + c) from nI_ge (b := 12) (by omega) (by omega)), nz_6, lt_eq, sr_6 hc (Or.inl rfl), if_pos rfl]
  unfold rr_X10_carried_271 rr_X10_carried_278
  rw [ck_in hc (show 6 < 2 ^ 31 by omega), nI_clamp (show c < 2 ^ 31 by omega), ck_in hc (show 6 < 2 ^ 31 by omega), upd_self, if_pos rfl]
  unfold rr_X10_carried_300 rr_X10_carried_307
  rw [ck_in hc (show 6 < 2 ^ 31 by omega), nI_clamp (show c < 2 ^ 31 by omega), ck_in hc (show 6 < 2 ^ 31 by omega), if_neg (show ¬ (6 : Int32) ≤ nI (0 + c) from nI_ge (b := 6) (by omega) (by omega)), ck_in hc (show 6 < 2 ^ 31 by omega), upd_self]
theorem ca1_sh (fu : Nat) (m : ZT_10) (v : Int32) (wo ye st ki ho sh su bi : Nat → Int32) {c : Nat} (hc : c < 6) : ∃ r, rr_X10_carried fu (nI (200 + c)) v (1 : Int32) (wTw m wo ye st ki ho sh su bi) = some (r, wTw m wo ye st ki ho (upd sh c v) su bi) := by
  unfold rr_X10_carried
  rw [if_pos (show (200 : Int32) ≤ nI (200 + c) from nI_le (a := 200) (by omega) (by omega)), lt_eq, sx_6 (d := 0) hc rfl (by omega), if_neg (show ¬ (12 : Int32) ≤ nI (0 + c) from nI_ge (b := 12) (by omega) (by omega)), nz_6, lt_eq, sr_6 hc (Or.inl rfl), if_neg (show ¬ (1 : Int32) = 0 by decide), if_neg (show ¬ (6 : Int32) ≤ nI (0 + c) from nI_ge (b := 6) (by omega) (by omega))]
  unfold rr_X10_carried_278
  rw [ck_in hc (show 6 < 2 ^ 31 by omega), if_neg (show ¬ (1 : Int32) = 0 by decide), nI_clamp (show c < 2 ^ 31 by omega), if_pos (show nI (0 + c) < (6 : Int32) from nI_lt (b := 6) (by omega) (by omega))]
  unfold rr_X10_carried_300 rr_X10_carried_307
  rw [ck_in hc (show 6 < 2 ^ 31 by omega), nI_clamp (show c < 2 ^ 31 by omega), ck_in hc (show 6 < 2 ^ 31 by omega), if_neg (show ¬ (6 : Int32) ≤ nI (0 + c) from nI_ge (b := 6) (by omega) (by omega)), ck_in hc (show 6 < 2 ^ 31 by omega), upd_self]
  exact ⟨_, rfl⟩
theorem ca0_su (fu : Nat) (m : ZT_10) {c : Nat} (hc : c < 6) : rr_X10_carried fu (nI (206 + c)) (0 : Int32) (0 : Int32) m = some (m.2.1.2.1 c, m) := by
  unfold rr_X10_carried
  rw [if_pos (show (200 : Int32) ≤ nI (206 + c) from nI_le (a := 200) (by omega) (by omega)), lt_eq, sx_6 (d := 6) hc rfl (by omega), if_neg (show ¬ (12 : Int32) ≤ nI (6 + c) from nI_ge (b := 12) (by omega) (by omega)), nz_6, lt_eq, sr_6 hc (Or.inr rfl), if_pos rfl]
  unfold rr_X10_carried_271 rr_X10_carried_278
  rw [ck_in hc (show 6 < 2 ^ 31 by omega), nI_clamp (show c < 2 ^ 31 by omega), ck_in hc (show 6 < 2 ^ 31 by omega), upd_self, if_pos rfl]
  unfold rr_X10_carried_300 rr_X10_carried_307
  rw [ck_in hc (show 6 < 2 ^ 31 by omega), nI_clamp (show c < 2 ^ 31 by omega), ck_in hc (show 6 < 2 ^ 31 by omega), if_pos (show (6 : Int32) ≤ nI (6 + c) from nI_le (a := 6) (by omega) (by omega)), ck_in hc (show 6 < 2 ^ 31 by omega), upd_self]
theorem ca1_su (fu : Nat) (m : ZT_10) (v : Int32) (wo ye st ki ho sh su bi : Nat → Int32) {c : Nat} (hc : c < 6) : ∃ r, rr_X10_carried fu (nI (206 + c)) v (1 : Int32) (wTw m wo ye st ki ho sh su bi) = some (r, wTw m wo ye st ki ho sh (upd su c v) bi) := by
  unfold rr_X10_carried
  rw [if_pos (show (200 : Int32) ≤ nI (206 + c) from nI_le (a := 200) (by omega) (by omega)), lt_eq, sx_6 (d := 6) hc rfl (by omega), if_neg (show ¬ (12 : Int32) ≤ nI (6 + c) from nI_ge (b := 12) (by omega) (by omega)), nz_6, lt_eq, sr_6 hc (Or.inr rfl), if_neg (show ¬ (1 : Int32) = 0 by decide), if_pos (show (6 : Int32) ≤ nI (6 + c) from nI_le (a := 6) (by omega) (by omega))]
  unfold rr_X10_carried_271 rr_X10_carried_278
  rw [ck_in hc (show 6 < 2 ^ 31 by omega), nI_clamp (show c < 2 ^ 31 by omega), ck_in hc (show 6 < 2 ^ 31 by omega), if_neg (show ¬ (1 : Int32) = 0 by decide), upd_self, if_neg (show ¬ nI (6 + c) < (6 : Int32) from nI_nlt (b := 6) (by omega) (by omega))]
  unfold rr_X10_carried_307
  rw [ck_in hc (show 6 < 2 ^ 31 by omega), nI_clamp (show c < 2 ^ 31 by omega), if_pos (show (6 : Int32) ≤ nI (6 + c) from nI_le (a := 6) (by omega) (by omega)), ck_in hc (show 6 < 2 ^ 31 by omega)]
  exact ⟨_, rfl⟩
theorem sy_72 {c : Nat} (hc : c < 72) : nI (212 + c) - (200 : Int32) = nI (12 + c) := by
  rw [show (200 : Int32) = nI 200 from rfl, pk_sub (by omega), show 212 + c - 200 = 12 + c by omega]
theorem sz_72 {c : Nat} (hc : c < 72) : nI (12 + c) + (-12 : Int32) = nI c := by
  rw [sub_lit (d := 12) (by omega) (by decide), show 12 + c - 12 = c by omega]
theorem ca0_bi (fu : Nat) (m : ZT_10) {c : Nat} (hc : c < 72) : rr_X10_carried fu (nI (212 + c)) (0 : Int32) (0 : Int32) m = some (m.2.2.1.1 c, m) := by
  unfold rr_X10_carried rr_X10_carried_357
  rw [if_pos (show (200 : Int32) ≤ nI (212 + c) from nI_le (a := 200) (by omega) (by omega)), lt_eq, sy_72 hc, if_pos (show (12 : Int32) ≤ nI (12 + c) from nI_le (a := 12) (by omega) (by omega)), lt_eq, sz_72 hc, if_pos rfl, ck_in hc (show 72 < 2 ^ 31 by omega), ck_in hc (show 72 < 2 ^ 31 by omega), ck_in hc (show 72 < 2 ^ 31 by omega), nI_clamp (show c < 2 ^ 31 by omega), upd_self]
theorem ca1_bi (fu : Nat) (m : ZT_10) (v : Int32) (wo ye st ki ho sh su bi : Nat → Int32) {c : Nat} (hc : c < 72) : ∃ r, rr_X10_carried fu (nI (212 + c)) v (1 : Int32) (wTw m wo ye st ki ho sh su bi) = some (r, wTw m wo ye st ki ho sh su (upd bi c v)) := by
  unfold rr_X10_carried rr_X10_carried_357
  rw [if_pos (show (200 : Int32) ≤ nI (212 + c) from nI_le (a := 200) (by omega) (by omega)), lt_eq, sy_72 hc, if_pos (show (12 : Int32) ≤ nI (12 + c) from nI_le (a := 12) (by omega) (by omega)), lt_eq, sz_72 hc, if_neg (show ¬ (1 : Int32) = 0 by decide), ck_in hc (show 72 < 2 ^ 31 by omega), ck_in hc (show 72 < 2 ^ 31 by omega), nI_clamp (show c < 2 ^ 31 by omega)]
  exact ⟨_, rfl⟩
