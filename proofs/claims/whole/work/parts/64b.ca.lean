theorem ca0_wo (fu : Nat) (m : ZT_10) {c : Nat} (hc : c < 40) : rr_X10_carried fu (nI (0 + c)) (0 : Int32) (0 : Int32) m = some (m.1.1 c, m) := by
  have h1 : nI (0 + c) / (40 : Int32) = nI 0 := by rw [show (40 : Int32) = nI 40 from rfl, pk_div (by omega) (by omega) (by omega), show (0 + c) / 40 = 0 by omega]
  have h2 : nI (0 + c) - nI 0 * (40 : Int32) = nI c := by rw [show (40 : Int32) = nI 40 from rfl, mulN, pk_sub (by omega), show 0 + c - 0 * 40 = c by omega]
  unfold rr_X10_carried
  rw [if_neg (show ¬ (200 : Int32) ≤ nI (0 + c) from nI_ge (b := 200) (by omega) (by omega)), h1, h2, nz_40, lt_eq, nz_40, lt_eq]
  rw [if_pos rfl]
  exact cz_0_0 fu m hc
theorem ca1_wo (fu : Nat) (m : ZT_10) (v : Int32) (wo ye st ki ho sh su bi : Nat → Int32) {c : Nat} (hc : c < 40) : ∃ r, rr_X10_carried fu (nI (0 + c)) v (1 : Int32) (wTw m wo ye st ki ho sh su bi) = some (r, wTw m (upd wo c v) ye st ki ho sh su bi) := by
  have h1 : nI (0 + c) / (40 : Int32) = nI 0 := by rw [show (40 : Int32) = nI 40 from rfl, pk_div (by omega) (by omega) (by omega), show (0 + c) / 40 = 0 by omega]
  have h2 : nI (0 + c) - nI 0 * (40 : Int32) = nI c := by rw [show (40 : Int32) = nI 40 from rfl, mulN, pk_sub (by omega), show 0 + c - 0 * 40 = c by omega]
  unfold rr_X10_carried
  rw [if_neg (show ¬ (200 : Int32) ≤ nI (0 + c) from nI_ge (b := 200) (by omega) (by omega)), h1, h2, nz_40, lt_eq, nz_40, lt_eq]
  rw [if_neg (show ¬ (1 : Int32) = 0 by decide), if_pos (show nI 0 = (0 : Int32) by decide)]
  exact cw_0_0 fu v (wTw m wo ye st ki ho sh su bi) hc
theorem ca0_ye (fu : Nat) (m : ZT_10) {c : Nat} (hc : c < 40) : rr_X10_carried fu (nI (40 + c)) (0 : Int32) (0 : Int32) m = some (m.1.2.1 c, m) := by
  have h1 : nI (40 + c) / (40 : Int32) = nI 1 := by rw [show (40 : Int32) = nI 40 from rfl, pk_div (by omega) (by omega) (by omega), show (40 + c) / 40 = 1 by omega]
  have h2 : nI (40 + c) - nI 1 * (40 : Int32) = nI c := by rw [show (40 : Int32) = nI 40 from rfl, mulN, pk_sub (by omega), show 40 + c - 1 * 40 = c by omega]
  unfold rr_X10_carried
  rw [if_neg (show ¬ (200 : Int32) ≤ nI (40 + c) from nI_ge (b := 200) (by omega) (by omega)), h1, h2, nz_40, lt_eq, nz_40, lt_eq]
  rw [if_pos rfl]
  exact cz_1_0 fu m hc
theorem ca1_ye (fu : Nat) (m : ZT_10) (v : Int32) (wo ye st ki ho sh su bi : Nat → Int32) {c : Nat} (hc : c < 40) : ∃ r, rr_X10_carried fu (nI (40 + c)) v (1 : Int32) (wTw m wo ye st ki ho sh su bi) = some (r, wTw m wo (upd ye c v) st ki ho sh su bi) := by
  have h1 : nI (40 + c) / (40 : Int32) = nI 1 := by rw [show (40 : Int32) = nI 40 from rfl, pk_div (by omega) (by omega) (by omega), show (40 + c) / 40 = 1 by omega]
  have h2 : nI (40 + c) - nI 1 * (40 : Int32) = nI c := by rw [show (40 : Int32) = nI 40 from rfl, mulN, pk_sub (by omega), show 40 + c - 1 * 40 = c by omega]
  unfold rr_X10_carried
  rw [if_neg (show ¬ (200 : Int32) ≤ nI (40 + c) from nI_ge (b := 200) (by omega) (by omega)), h1, h2, nz_40, lt_eq, nz_40, lt_eq]
  rw [if_neg (show ¬ (1 : Int32) = 0 by decide), if_neg (show ¬ nI 1 = (0 : Int32) by decide)]
  exact cw_1_0 fu v (wTw m wo ye st ki ho sh su bi) hc
theorem ca0_st (fu : Nat) (m : ZT_10) {c : Nat} (hc : c < 40) : rr_X10_carried fu (nI (80 + c)) (0 : Int32) (0 : Int32) m = some (m.1.2.2.1 c, m) := by
  have h1 : nI (80 + c) / (40 : Int32) = nI 2 := by rw [show (40 : Int32) = nI 40 from rfl, pk_div (by omega) (by omega) (by omega), show (80 + c) / 40 = 2 by omega]
  have h2 : nI (80 + c) - nI 2 * (40 : Int32) = nI c := by rw [show (40 : Int32) = nI 40 from rfl, mulN, pk_sub (by omega), show 80 + c - 2 * 40 = c by omega]
  unfold rr_X10_carried
  rw [if_neg (show ¬ (200 : Int32) ≤ nI (80 + c) from nI_ge (b := 200) (by omega) (by omega)), h1, h2, nz_40, lt_eq, nz_40, lt_eq]
  rw [if_pos rfl]
  exact cz_2_0 fu m hc
theorem ca1_st (fu : Nat) (m : ZT_10) (v : Int32) (wo ye st ki ho sh su bi : Nat → Int32) {c : Nat} (hc : c < 40) : ∃ r, rr_X10_carried fu (nI (80 + c)) v (1 : Int32) (wTw m wo ye st ki ho sh su bi) = some (r, wTw m wo ye (upd st c v) ki ho sh su bi) := by
  have h1 : nI (80 + c) / (40 : Int32) = nI 2 := by rw [show (40 : Int32) = nI 40 from rfl, pk_div (by omega) (by omega) (by omega), show (80 + c) / 40 = 2 by omega]
  have h2 : nI (80 + c) - nI 2 * (40 : Int32) = nI c := by rw [show (40 : Int32) = nI 40 from rfl, mulN, pk_sub (by omega), show 80 + c - 2 * 40 = c by omega]
  unfold rr_X10_carried
  rw [if_neg (show ¬ (200 : Int32) ≤ nI (80 + c) from nI_ge (b := 200) (by omega) (by omega)), h1, h2, nz_40, lt_eq, nz_40, lt_eq]
  rw [if_neg (show ¬ (1 : Int32) = 0 by decide), if_neg (show ¬ nI 2 = (0 : Int32) by decide)]
  exact cw_2_0 fu v (wTw m wo ye st ki ho sh su bi) hc
theorem ca0_ki (fu : Nat) (m : ZT_10) {c : Nat} (hc : c < 40) : rr_X10_carried fu (nI (120 + c)) (0 : Int32) (0 : Int32) m = some (m.1.2.2.2.1 c, m) := by
  have h1 : nI (120 + c) / (40 : Int32) = nI 3 := by rw [show (40 : Int32) = nI 40 from rfl, pk_div (by omega) (by omega) (by omega), show (120 + c) / 40 = 3 by omega]
  have h2 : nI (120 + c) - nI 3 * (40 : Int32) = nI c := by rw [show (40 : Int32) = nI 40 from rfl, mulN, pk_sub (by omega), show 120 + c - 3 * 40 = c by omega]
  unfold rr_X10_carried
  rw [if_neg (show ¬ (200 : Int32) ≤ nI (120 + c) from nI_ge (b := 200) (by omega) (by omega)), h1, h2, nz_40, lt_eq, nz_40, lt_eq]
  rw [if_pos rfl]
  exact cz_3_0 fu m hc
theorem ca1_ki (fu : Nat) (m : ZT_10) (v : Int32) (wo ye st ki ho sh su bi : Nat → Int32) {c : Nat} (hc : c < 40) : ∃ r, rr_X10_carried fu (nI (120 + c)) v (1 : Int32) (wTw m wo ye st ki ho sh su bi) = some (r, wTw m wo ye st (upd ki c v) ho sh su bi) := by
  have h1 : nI (120 + c) / (40 : Int32) = nI 3 := by rw [show (40 : Int32) = nI 40 from rfl, pk_div (by omega) (by omega) (by omega), show (120 + c) / 40 = 3 by omega]
  have h2 : nI (120 + c) - nI 3 * (40 : Int32) = nI c := by rw [show (40 : Int32) = nI 40 from rfl, mulN, pk_sub (by omega), show 120 + c - 3 * 40 = c by omega]
  unfold rr_X10_carried
  rw [if_neg (show ¬ (200 : Int32) ≤ nI (120 + c) from nI_ge (b := 200) (by omega) (by omega)), h1, h2, nz_40, lt_eq, nz_40, lt_eq]
  rw [if_neg (show ¬ (1 : Int32) = 0 by decide), if_neg (show ¬ nI 3 = (0 : Int32) by decide)]
  exact cw_3_0 fu v (wTw m wo ye st ki ho sh su bi) hc
theorem ca0_ho (fu : Nat) (m : ZT_10) {c : Nat} (hc : c < 40) : rr_X10_carried fu (nI (160 + c)) (0 : Int32) (0 : Int32) m = some (m.1.2.2.2.2.1 c, m) := by
  have h1 : nI (160 + c) / (40 : Int32) = nI 4 := by rw [show (40 : Int32) = nI 40 from rfl, pk_div (by omega) (by omega) (by omega), show (160 + c) / 40 = 4 by omega]
  have h2 : nI (160 + c) - nI 4 * (40 : Int32) = nI c := by rw [show (40 : Int32) = nI 40 from rfl, mulN, pk_sub (by omega), show 160 + c - 4 * 40 = c by omega]
  unfold rr_X10_carried
  rw [if_neg (show ¬ (200 : Int32) ≤ nI (160 + c) from nI_ge (b := 200) (by omega) (by omega)), h1, h2, nz_40, lt_eq, nz_40, lt_eq]
  rw [if_pos rfl]
  exact cz_4_0 fu m hc
theorem ca1_ho (fu : Nat) (m : ZT_10) (v : Int32) (wo ye st ki ho sh su bi : Nat → Int32) {c : Nat} (hc : c < 40) : ∃ r, rr_X10_carried fu (nI (160 + c)) v (1 : Int32) (wTw m wo ye st ki ho sh su bi) = some (r, wTw m wo ye st ki (upd ho c v) sh su bi) := by
  have h1 : nI (160 + c) / (40 : Int32) = nI 4 := by rw [show (40 : Int32) = nI 40 from rfl, pk_div (by omega) (by omega) (by omega), show (160 + c) / 40 = 4 by omega]
  have h2 : nI (160 + c) - nI 4 * (40 : Int32) = nI c := by rw [show (40 : Int32) = nI 40 from rfl, mulN, pk_sub (by omega), show 160 + c - 4 * 40 = c by omega]
  unfold rr_X10_carried
  rw [if_neg (show ¬ (200 : Int32) ≤ nI (160 + c) from nI_ge (b := 200) (by omega) (by omega)), h1, h2, nz_40, lt_eq, nz_40, lt_eq]
  rw [if_neg (show ¬ (1 : Int32) = 0 by decide), if_neg (show ¬ nI 4 = (0 : Int32) by decide)]
  exact cw_4_0 fu v (wTw m wo ye st ki ho sh su bi) hc
