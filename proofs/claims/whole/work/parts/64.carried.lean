-- ===== image, restore =====
theorem upd_self (f : Nat → Int32) (c : Nat) : upd f c (f c) = f := by
  funext i
  by_cases e : i = c
  · subst e; rw [pk_us]
  · rw [pk_un e]
theorem nz_40 {α : Type} {x : Option α} : nz_ (40 : Int32) x = x := if_neg (by decide)
theorem nz_6 {α : Type} {x : Option α} : nz_ (6 : Int32) x = x := if_neg (by decide)
abbrev wTw (m : ZT_10) (wo ye st ki ho sh su bi : Nat → Int32) : ZT_10 := ((wo, ye, st, ki, ho, m.1.2.2.2.2.2), (sh, su, m.2.1.2.2), (bi, m.2.2.1.2), m.2.2.2)
def pl8 (wo ye st ki ho sh su bi : Nat → Int32) (k : Nat) : Int32 := if k < 40 then wo k else if k < 80 then ye (k - 40) else if k < 120 then st (k - 80) else if k < 160 then ki (k - 120) else if k < 200 then ho (k - 160) else if k < 206 then sh (k - 200) else if k < 212 then su (k - 206) else bi (k - 212)
theorem pl_wo (wo ye st ki ho sh su bi : Nat → Int32) {c : Nat} (hc : c < 40) : pl8 wo ye st ki ho sh su bi (0 + c) = wo c := by
  unfold pl8
  rw [if_pos (show 0 + c < 40 by omega), show 0 + c = c by omega]
theorem pl_ye (wo ye st ki ho sh su bi : Nat → Int32) {c : Nat} (hc : c < 40) : pl8 wo ye st ki ho sh su bi (40 + c) = ye c := by
  unfold pl8
  rw [if_neg (show ¬ 40 + c < 40 by omega), if_pos (show 40 + c < 80 by omega), show 40 + c - 40 = c by omega]
theorem pl_st (wo ye st ki ho sh su bi : Nat → Int32) {c : Nat} (hc : c < 40) : pl8 wo ye st ki ho sh su bi (80 + c) = st c := by
  unfold pl8
  rw [if_neg (show ¬ 80 + c < 40 by omega), if_neg (show ¬ 80 + c < 80 by omega), if_pos (show 80 + c < 120 by omega), show 80 + c - 80 = c by omega]
theorem pl_ki (wo ye st ki ho sh su bi : Nat → Int32) {c : Nat} (hc : c < 40) : pl8 wo ye st ki ho sh su bi (120 + c) = ki c := by
  unfold pl8
  rw [if_neg (show ¬ 120 + c < 40 by omega), if_neg (show ¬ 120 + c < 80 by omega), if_neg (show ¬ 120 + c < 120 by omega), if_pos (show 120 + c < 160 by omega), show 120 + c - 120 = c by omega]
theorem pl_ho (wo ye st ki ho sh su bi : Nat → Int32) {c : Nat} (hc : c < 40) : pl8 wo ye st ki ho sh su bi (160 + c) = ho c := by
  unfold pl8
  rw [if_neg (show ¬ 160 + c < 40 by omega), if_neg (show ¬ 160 + c < 80 by omega), if_neg (show ¬ 160 + c < 120 by omega), if_neg (show ¬ 160 + c < 160 by omega), if_pos (show 160 + c < 200 by omega), show 160 + c - 160 = c by omega]
theorem pl_sh (wo ye st ki ho sh su bi : Nat → Int32) {c : Nat} (hc : c < 6) : pl8 wo ye st ki ho sh su bi (200 + c) = sh c := by
  unfold pl8
  rw [if_neg (show ¬ 200 + c < 40 by omega), if_neg (show ¬ 200 + c < 80 by omega), if_neg (show ¬ 200 + c < 120 by omega), if_neg (show ¬ 200 + c < 160 by omega), if_neg (show ¬ 200 + c < 200 by omega), if_pos (show 200 + c < 206 by omega), show 200 + c - 200 = c by omega]
theorem pl_su (wo ye st ki ho sh su bi : Nat → Int32) {c : Nat} (hc : c < 6) : pl8 wo ye st ki ho sh su bi (206 + c) = su c := by
  unfold pl8
  rw [if_neg (show ¬ 206 + c < 40 by omega), if_neg (show ¬ 206 + c < 80 by omega), if_neg (show ¬ 206 + c < 120 by omega), if_neg (show ¬ 206 + c < 160 by omega), if_neg (show ¬ 206 + c < 200 by omega), if_neg (show ¬ 206 + c < 206 by omega), if_pos (show 206 + c < 212 by omega), show 206 + c - 206 = c by omega]
theorem pl_bi (wo ye st ki ho sh su bi : Nat → Int32) {c : Nat} (hc : c < 72) : pl8 wo ye st ki ho sh su bi (212 + c) = bi c := by
  unfold pl8
  rw [if_neg (show ¬ 212 + c < 40 by omega), if_neg (show ¬ 212 + c < 80 by omega), if_neg (show ¬ 212 + c < 120 by omega), if_neg (show ¬ 212 + c < 160 by omega), if_neg (show ¬ 212 + c < 200 by omega), if_neg (show ¬ 212 + c < 206 by omega), if_neg (show ¬ 212 + c < 212 by omega), show 212 + c - 212 = c by omega]
theorem ca0_wo (fu : Nat) (m : ZT_10) {c : Nat} (hc : c < 40) : rr_X10_carried fu (nI (0 + c)) (0 : Int32) (0 : Int32) m = some (m.1.1 c, m) := by
  have h1 : nI (0 + c) / (40 : Int32) = nI 0 := by rw [show (40 : Int32) = nI 40 from rfl, pk_div (by omega) (by omega) (by omega), show (0 + c) / 40 = 0 by omega]
  have h2 : nI (0 + c) - nI 0 * (40 : Int32) = nI c := by rw [show (40 : Int32) = nI 40 from rfl, mulN, pk_sub (by omega), show 0 + c - 0 * 40 = c by omega]
  have h3 : ((200 : Int32) ≤ nI (0 + c)) = False := eq_false (nI_ge (b := 200) (by omega) (by omega))
  simp only [rr_X10_carried, rr_X10_carried_38, rr_X10_carried_45, rr_X10_carried_66, rr_X10_carried_73, rr_X10_carried_94, rr_X10_carried_101, rr_X10_carried_122, rr_X10_carried_129, rr_X10_carried_150, rr_X10_carried_157, h3, h1, h2, lt_eq, nz_40, nz_6, upd_self, if_true, if_false, show ((0 : Int32) = 0) = True from eq_true rfl, show ((1 : Int32) = 0) = False from eq_false (by decide), ck_in hc (show 40 < 2 ^ 31 by omega), nI_clamp (show c < 2 ^ 31 by omega), show (nI 0 = (0 : Int32)) = True from eq_true (by decide), show (nI 0 = (1 : Int32)) = False from eq_false (by decide), show (nI 0 = (2 : Int32)) = False from eq_false (by decide), show (nI 0 = (3 : Int32)) = False from eq_false (by decide), show (nI 0 = (4 : Int32)) = False from eq_false (by decide)]
theorem ca1_wo (fu : Nat) (m : ZT_10) (v : Int32) (wo ye st ki ho sh su bi : Nat → Int32) {c : Nat} (hc : c < 40) : ∃ r, rr_X10_carried fu (nI (0 + c)) v (1 : Int32) (wTw m wo ye st ki ho sh su bi) = some (r, wTw m (upd wo c v) ye st ki ho sh su bi) := by
  have h1 : nI (0 + c) / (40 : Int32) = nI 0 := by rw [show (40 : Int32) = nI 40 from rfl, pk_div (by omega) (by omega) (by omega), show (0 + c) / 40 = 0 by omega]
  have h2 : nI (0 + c) - nI 0 * (40 : Int32) = nI c := by rw [show (40 : Int32) = nI 40 from rfl, mulN, pk_sub (by omega), show 0 + c - 0 * 40 = c by omega]
  have h3 : ((200 : Int32) ≤ nI (0 + c)) = False := eq_false (nI_ge (b := 200) (by omega) (by omega))
  simp only [rr_X10_carried, rr_X10_carried_38, rr_X10_carried_45, rr_X10_carried_66, rr_X10_carried_73, rr_X10_carried_94, rr_X10_carried_101, rr_X10_carried_122, rr_X10_carried_129, rr_X10_carried_150, rr_X10_carried_157, h3, h1, h2, lt_eq, nz_40, nz_6, upd_self, if_true, if_false, show ((0 : Int32) = 0) = True from eq_true rfl, show ((1 : Int32) = 0) = False from eq_false (by decide), ck_in hc (show 40 < 2 ^ 31 by omega), nI_clamp (show c < 2 ^ 31 by omega), show (nI 0 = (0 : Int32)) = True from eq_true (by decide), show (nI 0 = (1 : Int32)) = False from eq_false (by decide), show (nI 0 = (2 : Int32)) = False from eq_false (by decide), show (nI 0 = (3 : Int32)) = False from eq_false (by decide), show (nI 0 = (4 : Int32)) = False from eq_false (by decide)]
  exact ⟨_, rfl⟩
theorem ca0_ye (fu : Nat) (m : ZT_10) {c : Nat} (hc : c < 40) : rr_X10_carried fu (nI (40 + c)) (0 : Int32) (0 : Int32) m = some (m.1.2.1 c, m) := by
  have h1 : nI (40 + c) / (40 : Int32) = nI 1 := by rw [show (40 : Int32) = nI 40 from rfl, pk_div (by omega) (by omega) (by omega), show (40 + c) / 40 = 1 by omega]
  have h2 : nI (40 + c) - nI 1 * (40 : Int32) = nI c := by rw [show (40 : Int32) = nI 40 from rfl, mulN, pk_sub (by omega), show 40 + c - 1 * 40 = c by omega]
  have h3 : ((200 : Int32) ≤ nI (40 + c)) = False := eq_false (nI_ge (b := 200) (by omega) (by omega))
  simp only [rr_X10_carried, rr_X10_carried_38, rr_X10_carried_45, rr_X10_carried_66, rr_X10_carried_73, rr_X10_carried_94, rr_X10_carried_101, rr_X10_carried_122, rr_X10_carried_129, rr_X10_carried_150, rr_X10_carried_157, h3, h1, h2, lt_eq, nz_40, nz_6, upd_self, if_true, if_false, show ((0 : Int32) = 0) = True from eq_true rfl, show ((1 : Int32) = 0) = False from eq_false (by decide), ck_in hc (show 40 < 2 ^ 31 by omega), nI_clamp (show c < 2 ^ 31 by omega), show (nI 1 = (0 : Int32)) = False from eq_false (by decide), show (nI 1 = (1 : Int32)) = True from eq_true (by decide), show (nI 1 = (2 : Int32)) = False from eq_false (by decide), show (nI 1 = (3 : Int32)) = False from eq_false (by decide), show (nI 1 = (4 : Int32)) = False from eq_false (by decide)]
theorem ca1_ye (fu : Nat) (m : ZT_10) (v : Int32) (wo ye st ki ho sh su bi : Nat → Int32) {c : Nat} (hc : c < 40) : ∃ r, rr_X10_carried fu (nI (40 + c)) v (1 : Int32) (wTw m wo ye st ki ho sh su bi) = some (r, wTw m wo (upd ye c v) st ki ho sh su bi) := by
  have h1 : nI (40 + c) / (40 : Int32) = nI 1 := by rw [show (40 : Int32) = nI 40 from rfl, pk_div (by omega) (by omega) (by omega), show (40 + c) / 40 = 1 by omega]
  have h2 : nI (40 + c) - nI 1 * (40 : Int32) = nI c := by rw [show (40 : Int32) = nI 40 from rfl, mulN, pk_sub (by omega), show 40 + c - 1 * 40 = c by omega]
  have h3 : ((200 : Int32) ≤ nI (40 + c)) = False := eq_false (nI_ge (b := 200) (by omega) (by omega))
  simp only [rr_X10_carried, rr_X10_carried_38, rr_X10_carried_45, rr_X10_carried_66, rr_X10_carried_73, rr_X10_carried_94, rr_X10_carried_101, rr_X10_carried_122, rr_X10_carried_129, rr_X10_carried_150, rr_X10_carried_157, h3, h1, h2, lt_eq, nz_40, nz_6, upd_self, if_true, if_false, show ((0 : Int32) = 0) = True from eq_true rfl, show ((1 : Int32) = 0) = False from eq_false (by decide), ck_in hc (show 40 < 2 ^ 31 by omega), nI_clamp (show c < 2 ^ 31 by omega), show (nI 1 = (0 : Int32)) = False from eq_false (by decide), show (nI 1 = (1 : Int32)) = True from eq_true (by decide), show (nI 1 = (2 : Int32)) = False from eq_false (by decide), show (nI 1 = (3 : Int32)) = False from eq_false (by decide), show (nI 1 = (4 : Int32)) = False from eq_false (by decide)]
  exact ⟨_, rfl⟩
theorem ca0_st (fu : Nat) (m : ZT_10) {c : Nat} (hc : c < 40) : rr_X10_carried fu (nI (80 + c)) (0 : Int32) (0 : Int32) m = some (m.1.2.2.1 c, m) := by
  have h1 : nI (80 + c) / (40 : Int32) = nI 2 := by rw [show (40 : Int32) = nI 40 from rfl, pk_div (by omega) (by omega) (by omega), show (80 + c) / 40 = 2 by omega]
  have h2 : nI (80 + c) - nI 2 * (40 : Int32) = nI c := by rw [show (40 : Int32) = nI 40 from rfl, mulN, pk_sub (by omega), show 80 + c - 2 * 40 = c by omega]
  have h3 : ((200 : Int32) ≤ nI (80 + c)) = False := eq_false (nI_ge (b := 200) (by omega) (by omega))
  simp only [rr_X10_carried, rr_X10_carried_38, rr_X10_carried_45, rr_X10_carried_66, rr_X10_carried_73, rr_X10_carried_94, rr_X10_carried_101, rr_X10_carried_122, rr_X10_carried_129, rr_X10_carried_150, rr_X10_carried_157, h3, h1, h2, lt_eq, nz_40, nz_6, upd_self, if_true, if_false, show ((0 : Int32) = 0) = True from eq_true rfl, show ((1 : Int32) = 0) = False from eq_false (by decide), ck_in hc (show 40 < 2 ^ 31 by omega), nI_clamp (show c < 2 ^ 31 by omega), show (nI 2 = (0 : Int32)) = False from eq_false (by decide), show (nI 2 = (1 : Int32)) = False from eq_false (by decide), show (nI 2 = (2 : Int32)) = True from eq_true (by decide), show (nI 2 = (3 : Int32)) = False from eq_false (by decide), show (nI 2 = (4 : Int32)) = False from eq_false (by decide)]
theorem ca1_st (fu : Nat) (m : ZT_10) (v : Int32) (wo ye st ki ho sh su bi : Nat → Int32) {c : Nat} (hc : c < 40) : ∃ r, rr_X10_carried fu (nI (80 + c)) v (1 : Int32) (wTw m wo ye st ki ho sh su bi) = some (r, wTw m wo ye (upd st c v) ki ho sh su bi) := by
  have h1 : nI (80 + c) / (40 : Int32) = nI 2 := by rw [show (40 : Int32) = nI 40 from rfl, pk_div (by omega) (by omega) (by omega), show (80 + c) / 40 = 2 by omega]
  have h2 : nI (80 + c) - nI 2 * (40 : Int32) = nI c := by rw [show (40 : Int32) = nI 40 from rfl, mulN, pk_sub (by omega), show 80 + c - 2 * 40 = c by omega]
  have h3 : ((200 : Int32) ≤ nI (80 + c)) = False := eq_false (nI_ge (b := 200) (by omega) (by omega))
  simp only [rr_X10_carried, rr_X10_carried_38, rr_X10_carried_45, rr_X10_carried_66, rr_X10_carried_73, rr_X10_carried_94, rr_X10_carried_101, rr_X10_carried_122, rr_X10_carried_129, rr_X10_carried_150, rr_X10_carried_157, h3, h1, h2, lt_eq, nz_40, nz_6, upd_self, if_true, if_false, show ((0 : Int32) = 0) = True from eq_true rfl, show ((1 : Int32) = 0) = False from eq_false (by decide), ck_in hc (show 40 < 2 ^ 31 by omega), nI_clamp (show c < 2 ^ 31 by omega), show (nI 2 = (0 : Int32)) = False from eq_false (by decide), show (nI 2 = (1 : Int32)) = False from eq_false (by decide), show (nI 2 = (2 : Int32)) = True from eq_true (by decide), show (nI 2 = (3 : Int32)) = False from eq_false (by decide), show (nI 2 = (4 : Int32)) = False from eq_false (by decide)]
  exact ⟨_, rfl⟩
theorem ca0_ki (fu : Nat) (m : ZT_10) {c : Nat} (hc : c < 40) : rr_X10_carried fu (nI (120 + c)) (0 : Int32) (0 : Int32) m = some (m.1.2.2.2.1 c, m) := by
  have h1 : nI (120 + c) / (40 : Int32) = nI 3 := by rw [show (40 : Int32) = nI 40 from rfl, pk_div (by omega) (by omega) (by omega), show (120 + c) / 40 = 3 by omega]
  have h2 : nI (120 + c) - nI 3 * (40 : Int32) = nI c := by rw [show (40 : Int32) = nI 40 from rfl, mulN, pk_sub (by omega), show 120 + c - 3 * 40 = c by omega]
  have h3 : ((200 : Int32) ≤ nI (120 + c)) = False := eq_false (nI_ge (b := 200) (by omega) (by omega))
  simp only [rr_X10_carried, rr_X10_carried_38, rr_X10_carried_45, rr_X10_carried_66, rr_X10_carried_73, rr_X10_carried_94, rr_X10_carried_101, rr_X10_carried_122, rr_X10_carried_129, rr_X10_carried_150, rr_X10_carried_157, h3, h1, h2, lt_eq, nz_40, nz_6, upd_self, if_true, if_false, show ((0 : Int32) = 0) = True from eq_true rfl, show ((1 : Int32) = 0) = False from eq_false (by decide), ck_in hc (show 40 < 2 ^ 31 by omega), nI_clamp (show c < 2 ^ 31 by omega), show (nI 3 = (0 : Int32)) = False from eq_false (by decide), show (nI 3 = (1 : Int32)) = False from eq_false (by decide), show (nI 3 = (2 : Int32)) = False from eq_false (by decide), show (nI 3 = (3 : Int32)) = True from eq_true (by decide), show (nI 3 = (4 : Int32)) = False from eq_false (by decide)]
theorem ca1_ki (fu : Nat) (m : ZT_10) (v : Int32) (wo ye st ki ho sh su bi : Nat → Int32) {c : Nat} (hc : c < 40) : ∃ r, rr_X10_carried fu (nI (120 + c)) v (1 : Int32) (wTw m wo ye st ki ho sh su bi) = some (r, wTw m wo ye st (upd ki c v) ho sh su bi) := by
  have h1 : nI (120 + c) / (40 : Int32) = nI 3 := by rw [show (40 : Int32) = nI 40 from rfl, pk_div (by omega) (by omega) (by omega), show (120 + c) / 40 = 3 by omega]
  have h2 : nI (120 + c) - nI 3 * (40 : Int32) = nI c := by rw [show (40 : Int32) = nI 40 from rfl, mulN, pk_sub (by omega), show 120 + c - 3 * 40 = c by omega]
  have h3 : ((200 : Int32) ≤ nI (120 + c)) = False := eq_false (nI_ge (b := 200) (by omega) (by omega))
  simp only [rr_X10_carried, rr_X10_carried_38, rr_X10_carried_45, rr_X10_carried_66, rr_X10_carried_73, rr_X10_carried_94, rr_X10_carried_101, rr_X10_carried_122, rr_X10_carried_129, rr_X10_carried_150, rr_X10_carried_157, h3, h1, h2, lt_eq, nz_40, nz_6, upd_self, if_true, if_false, show ((0 : Int32) = 0) = True from eq_true rfl, show ((1 : Int32) = 0) = False from eq_false (by decide), ck_in hc (show 40 < 2 ^ 31 by omega), nI_clamp (show c < 2 ^ 31 by omega), show (nI 3 = (0 : Int32)) = False from eq_false (by decide), show (nI 3 = (1 : Int32)) = False from eq_false (by decide), show (nI 3 = (2 : Int32)) = False from eq_false (by decide), show (nI 3 = (3 : Int32)) = True from eq_true (by decide), show (nI 3 = (4 : Int32)) = False from eq_false (by decide)]
  exact ⟨_, rfl⟩
theorem ca0_ho (fu : Nat) (m : ZT_10) {c : Nat} (hc : c < 40) : rr_X10_carried fu (nI (160 + c)) (0 : Int32) (0 : Int32) m = some (m.1.2.2.2.2.1 c, m) := by
  have h1 : nI (160 + c) / (40 : Int32) = nI 4 := by rw [show (40 : Int32) = nI 40 from rfl, pk_div (by omega) (by omega) (by omega), show (160 + c) / 40 = 4 by omega]
  have h2 : nI (160 + c) - nI 4 * (40 : Int32) = nI c := by rw [show (40 : Int32) = nI 40 from rfl, mulN, pk_sub (by omega), show 160 + c - 4 * 40 = c by omega]
  have h3 : ((200 : Int32) ≤ nI (160 + c)) = False := eq_false (nI_ge (b := 200) (by omega) (by omega))
  simp only [rr_X10_carried, rr_X10_carried_38, rr_X10_carried_45, rr_X10_carried_66, rr_X10_carried_73, rr_X10_carried_94, rr_X10_carried_101, rr_X10_carried_122, rr_X10_carried_129, rr_X10_carried_150, rr_X10_carried_157, h3, h1, h2, lt_eq, nz_40, nz_6, upd_self, if_true, if_false, show ((0 : Int32) = 0) = True from eq_true rfl, show ((1 : Int32) = 0) = False from eq_false (by decide), ck_in hc (show 40 < 2 ^ 31 by omega), nI_clamp (show c < 2 ^ 31 by omega), show (nI 4 = (0 : Int32)) = False from eq_false (by decide), show (nI 4 = (1 : Int32)) = False from eq_false (by decide), show (nI 4 = (2 : Int32)) = False from eq_false (by decide), show (nI 4 = (3 : Int32)) = False from eq_false (by decide), show (nI 4 = (4 : Int32)) = True from eq_true (by decide)]
theorem ca1_ho (fu : Nat) (m : ZT_10) (v : Int32) (wo ye st ki ho sh su bi : Nat → Int32) {c : Nat} (hc : c < 40) : ∃ r, rr_X10_carried fu (nI (160 + c)) v (1 : Int32) (wTw m wo ye st ki ho sh su bi) = some (r, wTw m wo ye st ki (upd ho c v) sh su bi) := by
  have h1 : nI (160 + c) / (40 : Int32) = nI 4 := by rw [show (40 : Int32) = nI 40 from rfl, pk_div (by omega) (by omega) (by omega), show (160 + c) / 40 = 4 by omega]
  have h2 : nI (160 + c) - nI 4 * (40 : Int32) = nI c := by rw [show (40 : Int32) = nI 40 from rfl, mulN, pk_sub (by omega), show 160 + c - 4 * 40 = c by omega]
  have h3 : ((200 : Int32) ≤ nI (160 + c)) = False := eq_false (nI_ge (b := 200) (by omega) (by omega))
  simp only [rr_X10_carried, rr_X10_carried_38, rr_X10_carried_45, rr_X10_carried_66, rr_X10_carried_73, rr_X10_carried_94, rr_X10_carried_101, rr_X10_carried_122, rr_X10_carried_129, rr_X10_carried_150, rr_X10_carried_157, h3, h1, h2, lt_eq, nz_40, nz_6, upd_self, if_true, if_false, show ((0 : Int32) = 0) = True from eq_true rfl, show ((1 : Int32) = 0) = False from eq_false (by decide), ck_in hc (show 40 < 2 ^ 31 by omega), nI_clamp (show c < 2 ^ 31 by omega), show (nI 4 = (0 : Int32)) = False from eq_false (by decide), show (nI 4 = (1 : Int32)) = False from eq_false (by decide), show (nI 4 = (2 : Int32)) = False from eq_false (by decide), show (nI 4 = (3 : Int32)) = False from eq_false (by decide), show (nI 4 = (4 : Int32)) = True from eq_true (by decide)]
  exact ⟨_, rfl⟩
theorem ca0_sh (fu : Nat) (m : ZT_10) {c : Nat} (hc : c < 6) : rr_X10_carried fu (nI (200 + c)) (0 : Int32) (0 : Int32) m = some (m.2.1.1 c, m) := by
  have h3 : ((200 : Int32) ≤ nI (200 + c)) = True := eq_true (nI_le (a := 200) (by omega) (by omega))
  have h4 : nI (200 + c) - (200 : Int32) = nI (0 + c) := by rw [show (200 : Int32) = nI 200 from rfl, pk_sub (by omega), show 200 + c - 200 = 0 + c by omega]
  have h5 : ((12 : Int32) ≤ nI (0 + c)) = False := eq_false (nI_ge (b := 12) (by omega) (by omega))
  have h6 : nI (0 + c) - nI (0 + c) / (6 : Int32) * (6 : Int32) = nI c := by rw [show (6 : Int32) = nI 6 from rfl, pk_rem (by omega) (by omega) (by omega), show (0 + c) % 6 = c by omega]
  have h7 : ((6 : Int32) ≤ nI (0 + c)) = False := eq_false (nI_ge (b := 6) (by omega) (by omega))
  have h8 : (nI (0 + c) < (6 : Int32)) = True := eq_true (nI_lt (b := 6) (by omega) (by omega))
  simp only [rr_X10_carried, rr_X10_carried_271, rr_X10_carried_278, rr_X10_carried_300, rr_X10_carried_307, h3, h4, h5, h6, h7, h8, lt_eq, nz_40, nz_6, upd_self, if_true, if_false, show ((0 : Int32) = 0) = True from eq_true rfl, show ((1 : Int32) = 0) = False from eq_false (by decide), ck_in hc (show 6 < 2 ^ 31 by omega), nI_clamp (show c < 2 ^ 31 by omega)]
theorem ca1_sh (fu : Nat) (m : ZT_10) (v : Int32) (wo ye st ki ho sh su bi : Nat → Int32) {c : Nat} (hc : c < 6) : ∃ r, rr_X10_carried fu (nI (200 + c)) v (1 : Int32) (wTw m wo ye st ki ho sh su bi) = some (r, wTw m wo ye st ki ho (upd sh c v) su bi) := by
  have h3 : ((200 : Int32) ≤ nI (200 + c)) = True := eq_true (nI_le (a := 200) (by omega) (by omega))
  have h4 : nI (200 + c) - (200 : Int32) = nI (0 + c) := by rw [show (200 : Int32) = nI 200 from rfl, pk_sub (by omega), show 200 + c - 200 = 0 + c by omega]
  have h5 : ((12 : Int32) ≤ nI (0 + c)) = False := eq_false (nI_ge (b := 12) (by omega) (by omega))
  have h6 : nI (0 + c) - nI (0 + c) / (6 : Int32) * (6 : Int32) = nI c := by rw [show (6 : Int32) = nI 6 from rfl, pk_rem (by omega) (by omega) (by omega), show (0 + c) % 6 = c by omega]
  have h7 : ((6 : Int32) ≤ nI (0 + c)) = False := eq_false (nI_ge (b := 6) (by omega) (by omega))
  have h8 : (nI (0 + c) < (6 : Int32)) = True := eq_true (nI_lt (b := 6) (by omega) (by omega))
  simp only [rr_X10_carried, rr_X10_carried_271, rr_X10_carried_278, rr_X10_carried_300, rr_X10_carried_307, h3, h4, h5, h6, h7, h8, lt_eq, nz_40, nz_6, upd_self, if_true, if_false, show ((0 : Int32) = 0) = True from eq_true rfl, show ((1 : Int32) = 0) = False from eq_false (by decide), ck_in hc (show 6 < 2 ^ 31 by omega), nI_clamp (show c < 2 ^ 31 by omega)]
  exact ⟨_, rfl⟩
theorem ca0_su (fu : Nat) (m : ZT_10) {c : Nat} (hc : c < 6) : rr_X10_carried fu (nI (206 + c)) (0 : Int32) (0 : Int32) m = some (m.2.1.2.1 c, m) := by
  have h3 : ((200 : Int32) ≤ nI (206 + c)) = True := eq_true (nI_le (a := 200) (by omega) (by omega))
  have h4 : nI (206 + c) - (200 : Int32) = nI (6 + c) := by rw [show (200 : Int32) = nI 200 from rfl, pk_sub (by omega), show 206 + c - 200 = 6 + c by omega]
  have h5 : ((12 : Int32) ≤ nI (6 + c)) = False := eq_false (nI_ge (b := 12) (by omega) (by omega))
  have h6 : nI (6 + c) - nI (6 + c) / (6 : Int32) * (6 : Int32) = nI c := by rw [show (6 : Int32) = nI 6 from rfl, pk_rem (by omega) (by omega) (by omega), show (6 + c) % 6 = c by omega]
  have h7 : ((6 : Int32) ≤ nI (6 + c)) = True := eq_true (nI_le (a := 6) (by omega) (by omega))
  have h8 : (nI (6 + c) < (6 : Int32)) = False := eq_false (nI_nlt (b := 6) (by omega) (by omega))
  simp only [rr_X10_carried, rr_X10_carried_271, rr_X10_carried_278, rr_X10_carried_300, rr_X10_carried_307, h3, h4, h5, h6, h7, h8, lt_eq, nz_40, nz_6, upd_self, if_true, if_false, show ((0 : Int32) = 0) = True from eq_true rfl, show ((1 : Int32) = 0) = False from eq_false (by decide), ck_in hc (show 6 < 2 ^ 31 by omega), nI_clamp (show c < 2 ^ 31 by omega)]
theorem ca1_su (fu : Nat) (m : ZT_10) (v : Int32) (wo ye st ki ho sh su bi : Nat → Int32) {c : Nat} (hc : c < 6) : ∃ r, rr_X10_carried fu (nI (206 + c)) v (1 : Int32) (wTw m wo ye st ki ho sh su bi) = some (r, wTw m wo ye st ki ho sh (upd su c v) bi) := by
  have h3 : ((200 : Int32) ≤ nI (206 + c)) = True := eq_true (nI_le (a := 200) (by omega) (by omega))
  have h4 : nI (206 + c) - (200 : Int32) = nI (6 + c) := by rw [show (200 : Int32) = nI 200 from rfl, pk_sub (by omega), show 206 + c - 200 = 6 + c by omega]
  have h5 : ((12 : Int32) ≤ nI (6 + c)) = False := eq_false (nI_ge (b := 12) (by omega) (by omega))
  have h6 : nI (6 + c) - nI (6 + c) / (6 : Int32) * (6 : Int32) = nI c := by rw [show (6 : Int32) = nI 6 from rfl, pk_rem (by omega) (by omega) (by omega), show (6 + c) % 6 = c by omega]
  have h7 : ((6 : Int32) ≤ nI (6 + c)) = True := eq_true (nI_le (a := 6) (by omega) (by omega))
  have h8 : (nI (6 + c) < (6 : Int32)) = False := eq_false (nI_nlt (b := 6) (by omega) (by omega))
  simp only [rr_X10_carried, rr_X10_carried_271, rr_X10_carried_278, rr_X10_carried_300, rr_X10_carried_307, h3, h4, h5, h6, h7, h8, lt_eq, nz_40, nz_6, upd_self, if_true, if_false, show ((0 : Int32) = 0) = True from eq_true rfl, show ((1 : Int32) = 0) = False from eq_false (by decide), ck_in hc (show 6 < 2 ^ 31 by omega), nI_clamp (show c < 2 ^ 31 by omega)]
  exact ⟨_, rfl⟩
theorem ca0_bi (fu : Nat) (m : ZT_10) {c : Nat} (hc : c < 72) : rr_X10_carried fu (nI (212 + c)) (0 : Int32) (0 : Int32) m = some (m.2.2.1.1 c, m) := by
  have h3 : ((200 : Int32) ≤ nI (212 + c)) = True := eq_true (nI_le (a := 200) (by omega) (by omega))
  have h4 : nI (212 + c) - (200 : Int32) = nI (12 + c) := by rw [show (200 : Int32) = nI 200 from rfl, pk_sub (by omega), show 212 + c - 200 = 12 + c by omega]
  have h5 : ((12 : Int32) ≤ nI (12 + c)) = True := eq_true (nI_le (a := 12) (by omega) (by omega))
  have h6 : nI (12 + c) + (-12 : Int32) = nI c := by rw [sub_lit (d := 12) (by omega) (by decide), show 12 + c - 12 = c by omega]
  simp only [rr_X10_carried, rr_X10_carried_357, h3, h4, h5, h6, lt_eq, nz_40, nz_6, upd_self, if_true, if_false, show ((0 : Int32) = 0) = True from eq_true rfl, show ((1 : Int32) = 0) = False from eq_false (by decide), ck_in hc (show 72 < 2 ^ 31 by omega), nI_clamp (show c < 2 ^ 31 by omega)]
theorem ca1_bi (fu : Nat) (m : ZT_10) (v : Int32) (wo ye st ki ho sh su bi : Nat → Int32) {c : Nat} (hc : c < 72) : ∃ r, rr_X10_carried fu (nI (212 + c)) v (1 : Int32) (wTw m wo ye st ki ho sh su bi) = some (r, wTw m wo ye st ki ho sh su (upd bi c v)) := by
  have h3 : ((200 : Int32) ≤ nI (212 + c)) = True := eq_true (nI_le (a := 200) (by omega) (by omega))
  have h4 : nI (212 + c) - (200 : Int32) = nI (12 + c) := by rw [show (200 : Int32) = nI 200 from rfl, pk_sub (by omega), show 212 + c - 200 = 12 + c by omega]
  have h5 : ((12 : Int32) ≤ nI (12 + c)) = True := eq_true (nI_le (a := 12) (by omega) (by omega))
  have h6 : nI (12 + c) + (-12 : Int32) = nI c := by rw [sub_lit (d := 12) (by omega) (by decide), show 12 + c - 12 = c by omega]
  simp only [rr_X10_carried, rr_X10_carried_357, h3, h4, h5, h6, lt_eq, nz_40, nz_6, upd_self, if_true, if_false, show ((0 : Int32) = 0) = True from eq_true rfl, show ((1 : Int32) = 0) = False from eq_false (by decide), ck_in hc (show 72 < 2 ^ 31 by omega), nI_clamp (show c < 2 ^ 31 by omega)]
  exact ⟨_, rfl⟩
theorem pl_split {k : Nat} (hk : k < 284) : (∃ c, c < 40 ∧ k = 0 + c) ∨ (∃ c, c < 40 ∧ k = 40 + c) ∨ (∃ c, c < 40 ∧ k = 80 + c) ∨ (∃ c, c < 40 ∧ k = 120 + c) ∨ (∃ c, c < 40 ∧ k = 160 + c) ∨ (∃ c, c < 6 ∧ k = 200 + c) ∨ (∃ c, c < 6 ∧ k = 206 + c) ∨ (∃ c, c < 72 ∧ k = 212 + c) := by
  by_cases h1 : k < 40
  · exact Or.inl ⟨k, h1, by omega⟩
  by_cases h2 : k < 80
  · exact Or.inr (Or.inl ⟨k - 40, by omega, by omega⟩)
  by_cases h3 : k < 120
  · exact Or.inr (Or.inr (Or.inl ⟨k - 80, by omega, by omega⟩))
  by_cases h4 : k < 160
  · exact Or.inr (Or.inr (Or.inr (Or.inl ⟨k - 120, by omega, by omega⟩)))
  by_cases h5 : k < 200
  · exact Or.inr (Or.inr (Or.inr (Or.inr (Or.inl ⟨k - 160, by omega, by omega⟩))))
  by_cases h6 : k < 206
  · exact Or.inr (Or.inr (Or.inr (Or.inr (Or.inr (Or.inl ⟨k - 200, by omega, by omega⟩)))))
  by_cases h7 : k < 212
  · exact Or.inr (Or.inr (Or.inr (Or.inr (Or.inr (Or.inr (Or.inl ⟨k - 206, by omega, by omega⟩))))))
  · exact Or.inr (Or.inr (Or.inr (Or.inr (Or.inr (Or.inr (Or.inr ⟨k - 212, by omega, by omega⟩))))))
theorem ca0 (fu : Nat) (m : ZT_10) {k : Nat} (hk : k < 284) : rr_X10_carried fu (nI k) (0 : Int32) (0 : Int32) m = some (pl8 m.1.1 m.1.2.1 m.1.2.2.1 m.1.2.2.2.1 m.1.2.2.2.2.1 m.2.1.1 m.2.1.2.1 m.2.2.1.1 k, m) := by
  rcases pl_split hk with ⟨c, hc, rfl⟩ | ⟨c, hc, rfl⟩ | ⟨c, hc, rfl⟩ | ⟨c, hc, rfl⟩ | ⟨c, hc, rfl⟩ | ⟨c, hc, rfl⟩ | ⟨c, hc, rfl⟩ | ⟨c, hc, rfl⟩
  · rw [pl_wo _ _ _ _ _ _ _ _ hc]; exact ca0_wo fu m hc
  · rw [pl_ye _ _ _ _ _ _ _ _ hc]; exact ca0_ye fu m hc
  · rw [pl_st _ _ _ _ _ _ _ _ hc]; exact ca0_st fu m hc
  · rw [pl_ki _ _ _ _ _ _ _ _ hc]; exact ca0_ki fu m hc
  · rw [pl_ho _ _ _ _ _ _ _ _ hc]; exact ca0_ho fu m hc
  · rw [pl_sh _ _ _ _ _ _ _ _ hc]; exact ca0_sh fu m hc
  · rw [pl_su _ _ _ _ _ _ _ _ hc]; exact ca0_su fu m hc
  · rw [pl_bi _ _ _ _ _ _ _ _ hc]; exact ca0_bi fu m hc
theorem ca1 (fu : Nat) (m : ZT_10) (v : Int32) (wo ye st ki ho sh su bi : Nat → Int32) {k : Nat} (hk : k < 284) : ∃ (r : Int32) (wo' ye' st' ki' ho' sh' su' bi' : Nat → Int32), rr_X10_carried fu (nI k) v (1 : Int32) (wTw m wo ye st ki ho sh su bi) = some (r, wTw m wo' ye' st' ki' ho' sh' su' bi') ∧ pl8 wo' ye' st' ki' ho' sh' su' bi' k = v ∧ ∀ j, j < 284 → j ≠ k → pl8 wo' ye' st' ki' ho' sh' su' bi' j = pl8 wo ye st ki ho sh su bi j := by
  rcases pl_split hk with ⟨c, hc, rfl⟩ | ⟨c, hc, rfl⟩ | ⟨c, hc, rfl⟩ | ⟨c, hc, rfl⟩ | ⟨c, hc, rfl⟩ | ⟨c, hc, rfl⟩ | ⟨c, hc, rfl⟩ | ⟨c, hc, rfl⟩
  · obtain ⟨r, e⟩ := ca1_wo fu m v wo ye st ki ho sh su bi hc
    refine ⟨r, upd wo c v, ye, st, ki, ho, sh, su, bi, e, by rw [pl_wo _ _ _ _ _ _ _ _ hc, pk_us], fun j hj hne => ?_⟩
    rcases pl_split hj with ⟨d, hd, rfl⟩ | ⟨d, hd, rfl⟩ | ⟨d, hd, rfl⟩ | ⟨d, hd, rfl⟩ | ⟨d, hd, rfl⟩ | ⟨d, hd, rfl⟩ | ⟨d, hd, rfl⟩ | ⟨d, hd, rfl⟩
    · rw [pl_wo _ _ _ _ _ _ _ _ hd, pl_wo _ _ _ _ _ _ _ _ hd, pk_un (by omega)]
    · rw [pl_ye _ _ _ _ _ _ _ _ hd, pl_ye _ _ _ _ _ _ _ _ hd]
    · rw [pl_st _ _ _ _ _ _ _ _ hd, pl_st _ _ _ _ _ _ _ _ hd]
    · rw [pl_ki _ _ _ _ _ _ _ _ hd, pl_ki _ _ _ _ _ _ _ _ hd]
    · rw [pl_ho _ _ _ _ _ _ _ _ hd, pl_ho _ _ _ _ _ _ _ _ hd]
    · rw [pl_sh _ _ _ _ _ _ _ _ hd, pl_sh _ _ _ _ _ _ _ _ hd]
    · rw [pl_su _ _ _ _ _ _ _ _ hd, pl_su _ _ _ _ _ _ _ _ hd]
    · rw [pl_bi _ _ _ _ _ _ _ _ hd, pl_bi _ _ _ _ _ _ _ _ hd]
  · obtain ⟨r, e⟩ := ca1_ye fu m v wo ye st ki ho sh su bi hc
    refine ⟨r, wo, upd ye c v, st, ki, ho, sh, su, bi, e, by rw [pl_ye _ _ _ _ _ _ _ _ hc, pk_us], fun j hj hne => ?_⟩
    rcases pl_split hj with ⟨d, hd, rfl⟩ | ⟨d, hd, rfl⟩ | ⟨d, hd, rfl⟩ | ⟨d, hd, rfl⟩ | ⟨d, hd, rfl⟩ | ⟨d, hd, rfl⟩ | ⟨d, hd, rfl⟩ | ⟨d, hd, rfl⟩
    · rw [pl_wo _ _ _ _ _ _ _ _ hd, pl_wo _ _ _ _ _ _ _ _ hd]
    · rw [pl_ye _ _ _ _ _ _ _ _ hd, pl_ye _ _ _ _ _ _ _ _ hd, pk_un (by omega)]
    · rw [pl_st _ _ _ _ _ _ _ _ hd, pl_st _ _ _ _ _ _ _ _ hd]
    · rw [pl_ki _ _ _ _ _ _ _ _ hd, pl_ki _ _ _ _ _ _ _ _ hd]
    · rw [pl_ho _ _ _ _ _ _ _ _ hd, pl_ho _ _ _ _ _ _ _ _ hd]
    · rw [pl_sh _ _ _ _ _ _ _ _ hd, pl_sh _ _ _ _ _ _ _ _ hd]
    · rw [pl_su _ _ _ _ _ _ _ _ hd, pl_su _ _ _ _ _ _ _ _ hd]
    · rw [pl_bi _ _ _ _ _ _ _ _ hd, pl_bi _ _ _ _ _ _ _ _ hd]
  · obtain ⟨r, e⟩ := ca1_st fu m v wo ye st ki ho sh su bi hc
    refine ⟨r, wo, ye, upd st c v, ki, ho, sh, su, bi, e, by rw [pl_st _ _ _ _ _ _ _ _ hc, pk_us], fun j hj hne => ?_⟩
    rcases pl_split hj with ⟨d, hd, rfl⟩ | ⟨d, hd, rfl⟩ | ⟨d, hd, rfl⟩ | ⟨d, hd, rfl⟩ | ⟨d, hd, rfl⟩ | ⟨d, hd, rfl⟩ | ⟨d, hd, rfl⟩ | ⟨d, hd, rfl⟩
    · rw [pl_wo _ _ _ _ _ _ _ _ hd, pl_wo _ _ _ _ _ _ _ _ hd]
    · rw [pl_ye _ _ _ _ _ _ _ _ hd, pl_ye _ _ _ _ _ _ _ _ hd]
    · rw [pl_st _ _ _ _ _ _ _ _ hd, pl_st _ _ _ _ _ _ _ _ hd, pk_un (by omega)]
    · rw [pl_ki _ _ _ _ _ _ _ _ hd, pl_ki _ _ _ _ _ _ _ _ hd]
    · rw [pl_ho _ _ _ _ _ _ _ _ hd, pl_ho _ _ _ _ _ _ _ _ hd]
    · rw [pl_sh _ _ _ _ _ _ _ _ hd, pl_sh _ _ _ _ _ _ _ _ hd]
    · rw [pl_su _ _ _ _ _ _ _ _ hd, pl_su _ _ _ _ _ _ _ _ hd]
    · rw [pl_bi _ _ _ _ _ _ _ _ hd, pl_bi _ _ _ _ _ _ _ _ hd]
  · obtain ⟨r, e⟩ := ca1_ki fu m v wo ye st ki ho sh su bi hc
    refine ⟨r, wo, ye, st, upd ki c v, ho, sh, su, bi, e, by rw [pl_ki _ _ _ _ _ _ _ _ hc, pk_us], fun j hj hne => ?_⟩
    rcases pl_split hj with ⟨d, hd, rfl⟩ | ⟨d, hd, rfl⟩ | ⟨d, hd, rfl⟩ | ⟨d, hd, rfl⟩ | ⟨d, hd, rfl⟩ | ⟨d, hd, rfl⟩ | ⟨d, hd, rfl⟩ | ⟨d, hd, rfl⟩
    · rw [pl_wo _ _ _ _ _ _ _ _ hd, pl_wo _ _ _ _ _ _ _ _ hd]
    · rw [pl_ye _ _ _ _ _ _ _ _ hd, pl_ye _ _ _ _ _ _ _ _ hd]
    · rw [pl_st _ _ _ _ _ _ _ _ hd, pl_st _ _ _ _ _ _ _ _ hd]
    · rw [pl_ki _ _ _ _ _ _ _ _ hd, pl_ki _ _ _ _ _ _ _ _ hd, pk_un (by omega)]
    · rw [pl_ho _ _ _ _ _ _ _ _ hd, pl_ho _ _ _ _ _ _ _ _ hd]
    · rw [pl_sh _ _ _ _ _ _ _ _ hd, pl_sh _ _ _ _ _ _ _ _ hd]
    · rw [pl_su _ _ _ _ _ _ _ _ hd, pl_su _ _ _ _ _ _ _ _ hd]
    · rw [pl_bi _ _ _ _ _ _ _ _ hd, pl_bi _ _ _ _ _ _ _ _ hd]
  · obtain ⟨r, e⟩ := ca1_ho fu m v wo ye st ki ho sh su bi hc
    refine ⟨r, wo, ye, st, ki, upd ho c v, sh, su, bi, e, by rw [pl_ho _ _ _ _ _ _ _ _ hc, pk_us], fun j hj hne => ?_⟩
    rcases pl_split hj with ⟨d, hd, rfl⟩ | ⟨d, hd, rfl⟩ | ⟨d, hd, rfl⟩ | ⟨d, hd, rfl⟩ | ⟨d, hd, rfl⟩ | ⟨d, hd, rfl⟩ | ⟨d, hd, rfl⟩ | ⟨d, hd, rfl⟩
    · rw [pl_wo _ _ _ _ _ _ _ _ hd, pl_wo _ _ _ _ _ _ _ _ hd]
    · rw [pl_ye _ _ _ _ _ _ _ _ hd, pl_ye _ _ _ _ _ _ _ _ hd]
    · rw [pl_st _ _ _ _ _ _ _ _ hd, pl_st _ _ _ _ _ _ _ _ hd]
    · rw [pl_ki _ _ _ _ _ _ _ _ hd, pl_ki _ _ _ _ _ _ _ _ hd]
    · rw [pl_ho _ _ _ _ _ _ _ _ hd, pl_ho _ _ _ _ _ _ _ _ hd, pk_un (by omega)]
    · rw [pl_sh _ _ _ _ _ _ _ _ hd, pl_sh _ _ _ _ _ _ _ _ hd]
    · rw [pl_su _ _ _ _ _ _ _ _ hd, pl_su _ _ _ _ _ _ _ _ hd]
    · rw [pl_bi _ _ _ _ _ _ _ _ hd, pl_bi _ _ _ _ _ _ _ _ hd]
  · obtain ⟨r, e⟩ := ca1_sh fu m v wo ye st ki ho sh su bi hc
    refine ⟨r, wo, ye, st, ki, ho, upd sh c v, su, bi, e, by rw [pl_sh _ _ _ _ _ _ _ _ hc, pk_us], fun j hj hne => ?_⟩
    rcases pl_split hj with ⟨d, hd, rfl⟩ | ⟨d, hd, rfl⟩ | ⟨d, hd, rfl⟩ | ⟨d, hd, rfl⟩ | ⟨d, hd, rfl⟩ | ⟨d, hd, rfl⟩ | ⟨d, hd, rfl⟩ | ⟨d, hd, rfl⟩
    · rw [pl_wo _ _ _ _ _ _ _ _ hd, pl_wo _ _ _ _ _ _ _ _ hd]
    · rw [pl_ye _ _ _ _ _ _ _ _ hd, pl_ye _ _ _ _ _ _ _ _ hd]
    · rw [pl_st _ _ _ _ _ _ _ _ hd, pl_st _ _ _ _ _ _ _ _ hd]
    · rw [pl_ki _ _ _ _ _ _ _ _ hd, pl_ki _ _ _ _ _ _ _ _ hd]
    · rw [pl_ho _ _ _ _ _ _ _ _ hd, pl_ho _ _ _ _ _ _ _ _ hd]
    · rw [pl_sh _ _ _ _ _ _ _ _ hd, pl_sh _ _ _ _ _ _ _ _ hd, pk_un (by omega)]
    · rw [pl_su _ _ _ _ _ _ _ _ hd, pl_su _ _ _ _ _ _ _ _ hd]
    · rw [pl_bi _ _ _ _ _ _ _ _ hd, pl_bi _ _ _ _ _ _ _ _ hd]
  · obtain ⟨r, e⟩ := ca1_su fu m v wo ye st ki ho sh su bi hc
    refine ⟨r, wo, ye, st, ki, ho, sh, upd su c v, bi, e, by rw [pl_su _ _ _ _ _ _ _ _ hc, pk_us], fun j hj hne => ?_⟩
    rcases pl_split hj with ⟨d, hd, rfl⟩ | ⟨d, hd, rfl⟩ | ⟨d, hd, rfl⟩ | ⟨d, hd, rfl⟩ | ⟨d, hd, rfl⟩ | ⟨d, hd, rfl⟩ | ⟨d, hd, rfl⟩ | ⟨d, hd, rfl⟩
    · rw [pl_wo _ _ _ _ _ _ _ _ hd, pl_wo _ _ _ _ _ _ _ _ hd]
    · rw [pl_ye _ _ _ _ _ _ _ _ hd, pl_ye _ _ _ _ _ _ _ _ hd]
    · rw [pl_st _ _ _ _ _ _ _ _ hd, pl_st _ _ _ _ _ _ _ _ hd]
    · rw [pl_ki _ _ _ _ _ _ _ _ hd, pl_ki _ _ _ _ _ _ _ _ hd]
    · rw [pl_ho _ _ _ _ _ _ _ _ hd, pl_ho _ _ _ _ _ _ _ _ hd]
    · rw [pl_sh _ _ _ _ _ _ _ _ hd, pl_sh _ _ _ _ _ _ _ _ hd]
    · rw [pl_su _ _ _ _ _ _ _ _ hd, pl_su _ _ _ _ _ _ _ _ hd, pk_un (by omega)]
    · rw [pl_bi _ _ _ _ _ _ _ _ hd, pl_bi _ _ _ _ _ _ _ _ hd]
  · obtain ⟨r, e⟩ := ca1_bi fu m v wo ye st ki ho sh su bi hc
    refine ⟨r, wo, ye, st, ki, ho, sh, su, upd bi c v, e, by rw [pl_bi _ _ _ _ _ _ _ _ hc, pk_us], fun j hj hne => ?_⟩
    rcases pl_split hj with ⟨d, hd, rfl⟩ | ⟨d, hd, rfl⟩ | ⟨d, hd, rfl⟩ | ⟨d, hd, rfl⟩ | ⟨d, hd, rfl⟩ | ⟨d, hd, rfl⟩ | ⟨d, hd, rfl⟩ | ⟨d, hd, rfl⟩
    · rw [pl_wo _ _ _ _ _ _ _ _ hd, pl_wo _ _ _ _ _ _ _ _ hd]
    · rw [pl_ye _ _ _ _ _ _ _ _ hd, pl_ye _ _ _ _ _ _ _ _ hd]
    · rw [pl_st _ _ _ _ _ _ _ _ hd, pl_st _ _ _ _ _ _ _ _ hd]
    · rw [pl_ki _ _ _ _ _ _ _ _ hd, pl_ki _ _ _ _ _ _ _ _ hd]
    · rw [pl_ho _ _ _ _ _ _ _ _ hd, pl_ho _ _ _ _ _ _ _ _ hd]
    · rw [pl_sh _ _ _ _ _ _ _ _ hd, pl_sh _ _ _ _ _ _ _ _ hd]
    · rw [pl_su _ _ _ _ _ _ _ _ hd, pl_su _ _ _ _ _ _ _ _ hd]
    · rw [pl_bi _ _ _ _ _ _ _ _ hd, pl_bi _ _ _ _ _ _ _ _ hd, pk_un (by omega)]
