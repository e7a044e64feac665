-- ===== image, restore =====
theorem upd_self (f : Nat → Int32) (c : Nat) : upd f c (f c) = f := by
  funext i
  by_cases e : i = c
  · subst e; rw [pk_us]
  · rw [pk_un e]
theorem nz_40 {α : Type} {x : Option α} : nz_ (40 : Int32) x = x := if_neg (by decide)
theorem nz_6 {α : Type} {x : Option α} : nz_ (6 : Int32) x = x := if_neg (by decide)
abbrev wTw (m : ZT_10) (wo ye st ki ho sh su bi : Nat → Int32) : ZT_10 := ((wo, ye, st, ki, ho, m.1.2.2.2.2.2), (sh, su, m.2.1.2.2), (bi, m.2.2.1.2), m.2.2.2)
def pl8 (wo ye st ki ho sh su bi : Nat → Int32) (k : Nat) : Int32 := if k < 40 then wo k else if k < 80 then ye (k - 40) else if k < 120 then st (k - 80) else if k < 160 then ki (k - 120) else if k < 200 then ho (k - 160) else if k < 206 then sh (k - 200) else if k < 212 then su (k - 206) else bi (k - 212)
theorem pl_wo (wo ye st ki ho sh su bi : Nat → Int32) {c : Nat} (hc : c < 40) : pl8 wo ye st ki ho sh su bi (0 + c) = wo c := by
  unfold pl8
  rw [if_pos (show 0 + c < 40 by omega), show 0 + c = c by omega]
theorem pl_ye (wo ye st ki ho sh su bi : Nat → Int32) {c : Nat} (hc : c < 40) : pl8 wo ye st ki ho sh su bi (40 + c) = ye c := by
  unfold pl8
  rw [if_neg (show ¬ 40 + c < 40 by omega), if_pos (show 40 + c < 80 by omega), show 40 + c - 40 = c by omega]
theorem pl_st (wo ye st ki ho sh su bi : Nat → Int32) {c : Nat} (hc : c < 40) : pl8 wo ye st ki ho sh su bi (80 + c) = st c := by
  unfold pl8
  rw [if_neg (show ¬ 80 + c < 40 by omega), if_neg (show ¬ 80 + c < 80 by omega), if_pos (show 80 + c < 120 by omega), show 80 + c - 80 = c by omega]
theorem pl_ki (wo ye st ki ho sh su bi : Nat → Int32) {c : Nat} (hc : c < 40) : pl8 wo ye st ki ho sh su bi (120 + c) = ki c := by
  unfold pl8
  rw [if_neg (show ¬ 120 + c < 40 by omega), if_neg (show ¬ 120 + c < 80 by omega), if_neg (show ¬ 120 + c < 120 by omega), if_pos (show 120 + c < 160 by omega), show 120 + c - 120 = c by omega]
theorem pl_ho (wo ye st ki ho sh su bi : Nat → Int32) {c : Nat} (hc : c < 40) : pl8 wo ye st ki ho sh su bi (160 + c) = ho c := by
  unfold pl8
  rw [if_neg (show ¬ 160 + c < 40 by omega), if_neg (show ¬ 160 + c < 80 by omega), if_neg (show ¬ 160 + c < 120 by omega), if_neg (show ¬ 160 + c < 160 by omega), if_pos (show 160 + c < 200 by omega), show 160 + c - 160 = c by omega]
theorem pl_sh (wo ye st ki ho sh su bi : Nat → Int32) {c : Nat} (hc : c < 6) : pl8 wo ye st ki ho sh su bi (200 + c) = sh c := by
  unfold pl8
  rw [if_neg (show ¬ 200 + c < 40 by omega), if_neg (show ¬ 200 + c < 80 by omega), if_neg (show ¬ 200 + c < 120 by omega), if_neg (show ¬ 200 + c < 160 by omega), if_neg (show ¬ 200 + c < 200 by omega), if_pos (show 200 + c < 206 by omega), show 200 + c - 200 = c by omega]
theorem pl_su (wo ye st ki ho sh su bi : Nat → Int32) {c : Nat} (hc : c < 6) : pl8 wo ye st ki ho sh su bi (206 + c) = su c := by
  unfold pl8
  rw [if_neg (show ¬ 206 + c < 40 by omega), if_neg (show ¬ 206 + c < 80 by omega), if_neg (show ¬ 206 + c < 120 by omega), if_neg (show ¬ 206 + c < 160 by omega), if_neg (show ¬ 206 + c < 200 by omega), if_neg (show ¬ 206 + c < 206 by omega), if_pos (show 206 + c < 212 by omega), show 206 + c - 206 = c by omega]
theorem pl_bi (wo ye st ki ho sh su bi : Nat → Int32) {c : Nat} (hc : c < 72) : pl8 wo ye st ki ho sh su bi (212 + c) = bi c := by
  unfold pl8
  rw [if_neg (show ¬ 212 + c < 40 by omega), if_neg (show ¬ 212 + c < 80 by omega), if_neg (show ¬ 212 + c < 120 by omega), if_neg (show ¬ 212 + c < 160 by omega), if_neg (show ¬ 212 + c < 200 by omega), if_neg (show ¬ 212 + c < 206 by omega), if_neg (show ¬ 212 + c < 212 by omega), show 212 + c - 212 = c by omega]
theorem eqT {a : Int32} : (a = a) := rfl
theorem cz_0_4 (fu : Nat) (u : ZT_10) {c : Nat} (hc : c < 40) : rr_X10_carried_150 fu (nI c) (nI 0) (nI c) u = some (u.1.1 c, u) := by
  unfold rr_X10_carried_150 rr_X10_carried_157
  rw [ck_in hc (show 40 < 2 ^ 31 by omega), nI_clamp (show c < 2 ^ 31 by omega), ck_in hc (show 40 < 2 ^ 31 by omega), upd_self, if_pos (show nI 0 = (0 : Int32) by decide), ck_in hc (show 40 < 2 ^ 31 by omega)]
theorem cz_0_3 (fu : Nat) (u : ZT_10) {c : Nat} (hc : c < 40) : rr_X10_carried_122 fu (0 : Int32) (0 : Int32) (nI c) (nI 0) (nI c) u = some (u.1.1 c, u) := by
  unfold rr_X10_carried_122 rr_X10_carried_129
  rw [ck_in hc (show 40 < 2 ^ 31 by omega), nI_clamp (show c < 2 ^ 31 by omega), ck_in hc (show 40 < 2 ^ 31 by omega), upd_self, if_pos rfl]
  exact cz_0_4 fu u hc
theorem cz_0_2 (fu : Nat) (u : ZT_10) {c : Nat} (hc : c < 40) : rr_X10_carried_94 fu (0 : Int32) (0 : Int32) (nI c) (nI 0) (nI c) u = some (u.1.1 c, u) := by
  unfold rr_X10_carried_94 rr_X10_carried_101
  rw [ck_in hc (show 40 < 2 ^ 31 by omega), nI_clamp (show c < 2 ^ 31 by omega), ck_in hc (show 40 < 2 ^ 31 by omega), upd_self, if_pos rfl]
  exact cz_0_3 fu u hc
theorem cz_0_1 (fu : Nat) (u : ZT_10) {c : Nat} (hc : c < 40) : rr_X10_carried_66 fu (0 : Int32) (0 : Int32) (nI c) (nI 0) (nI c) u = some (u.1.1 c, u) := by
  unfold rr_X10_carried_66 rr_X10_carried_73
  rw [ck_in hc (show 40 < 2 ^ 31 by omega), nI_clamp (show c < 2 ^ 31 by omega), ck_in hc (show 40 < 2 ^ 31 by omega), upd_self, if_pos rfl]
  exact cz_0_2 fu u hc
theorem cz_0_0 (fu : Nat) (u : ZT_10) {c : Nat} (hc : c < 40) : rr_X10_carried_38 fu (0 : Int32) (0 : Int32) (nI c) (nI 0) (nI c) u = some (u.1.1 c, u) := by
  unfold rr_X10_carried_38 rr_X10_carried_45
  rw [ck_in hc (show 40 < 2 ^ 31 by omega), nI_clamp (show c < 2 ^ 31 by omega), ck_in hc (show 40 < 2 ^ 31 by omega), upd_self, if_pos rfl]
  exact cz_0_1 fu u hc
theorem cw_0_4 (fu : Nat) (v : Int32) (u : ZT_10) {c : Nat} (hc : c < 40) : ∃ r, rr_X10_carried_150 fu (nI c) (nI 0) (nI c) u = some (r, u) := by
  unfold rr_X10_carried_150 rr_X10_carried_157
  rw [ck_in hc (show 40 < 2 ^ 31 by omega), nI_clamp (show c < 2 ^ 31 by omega), ck_in hc (show 40 < 2 ^ 31 by omega), upd_self, if_pos (show nI 0 = (0 : Int32) by decide), ck_in hc (show 40 < 2 ^ 31 by omega)]
  exact ⟨_, rfl⟩
theorem cw_0_3 (fu : Nat) (v : Int32) (u : ZT_10) {c : Nat} (hc : c < 40) : ∃ r, rr_X10_carried_122 fu v (1 : Int32) (nI c) (nI 0) (nI c) u = some (r, u) := by
  unfold rr_X10_carried_122 rr_X10_carried_129
  rw [ck_in hc (show 40 < 2 ^ 31 by omega), nI_clamp (show c < 2 ^ 31 by omega), ck_in hc (show 40 < 2 ^ 31 by omega), upd_self, if_neg (show ¬ (1 : Int32) = 0 by decide), if_neg (show ¬ nI 0 = (4 : Int32) by decide)]
  exact cw_0_4 fu v u hc
theorem cw_0_2 (fu : Nat) (v : Int32) (u : ZT_10) {c : Nat} (hc : c < 40) : ∃ r, rr_X10_carried_94 fu v (1 : Int32) (nI c) (nI 0) (nI c) u = some (r, u) := by
  unfold rr_X10_carried_94 rr_X10_carried_101
  rw [ck_in hc (show 40 < 2 ^ 31 by omega), nI_clamp (show c < 2 ^ 31 by omega), ck_in hc (show 40 < 2 ^ 31 by omega), upd_self, if_neg (show ¬ (1 : Int32) = 0 by decide), if_neg (show ¬ nI 0 = (3 : Int32) by decide)]
  exact cw_0_3 fu v u hc
theorem cw_0_1 (fu : Nat) (v : Int32) (u : ZT_10) {c : Nat} (hc : c < 40) : ∃ r, rr_X10_carried_66 fu v (1 : Int32) (nI c) (nI 0) (nI c) u = some (r, u) := by
  unfold rr_X10_carried_66 rr_X10_carried_73
  rw [ck_in hc (show 40 < 2 ^ 31 by omega), nI_clamp (show c < 2 ^ 31 by omega), ck_in hc (show 40 < 2 ^ 31 by omega), upd_self, if_neg (show ¬ (1 : Int32) = 0 by decide), if_neg (show ¬ nI 0 = (2 : Int32) by decide)]
  exact cw_0_2 fu v u hc
theorem cw_0_0 (fu : Nat) (v : Int32) (u : ZT_10) {c : Nat} (hc : c < 40) : ∃ r, rr_X10_carried_45 fu v (1 : Int32) (nI c) (nI 0) v (nI c) u = some (r, ((upd u.1.1 c v, u.1.2), u.2)) := by
  unfold rr_X10_carried_45
  rw [ck_in hc (show 40 < 2 ^ 31 by omega), if_neg (show ¬ (1 : Int32) = 0 by decide), if_neg (show ¬ nI 0 = (1 : Int32) by decide), nI_clamp (show c < 2 ^ 31 by omega)]
  exact cw_0_1 fu v ((upd u.1.1 c v, u.1.2), u.2) hc
theorem cz_1_4 (fu : Nat) (u : ZT_10) {c : Nat} (hc : c < 40) : rr_X10_carried_150 fu (nI c) (nI 1) (nI c) u = some (u.1.2.1 c, u) := by
  unfold rr_X10_carried_150 rr_X10_carried_157
  rw [ck_in hc (show 40 < 2 ^ 31 by omega), nI_clamp (show c < 2 ^ 31 by omega), ck_in hc (show 40 < 2 ^ 31 by omega), upd_self, if_neg (show ¬ nI 1 = (0 : Int32) by decide), if_pos (show nI 1 = (1 : Int32) by decide), ck_in hc (show 40 < 2 ^ 31 by omega)]
theorem cz_1_3 (fu : Nat) (u : ZT_10) {c : Nat} (hc : c < 40) : rr_X10_carried_122 fu (0 : Int32) (0 : Int32) (nI c) (nI 1) (nI c) u = some (u.1.2.1 c, u) := by
  unfold rr_X10_carried_122 rr_X10_carried_129
  rw [ck_in hc (show 40 < 2 ^ 31 by omega), nI_clamp (show c < 2 ^ 31 by omega), ck_in hc (show 40 < 2 ^ 31 by omega), upd_self, if_pos rfl]
  exact cz_1_4 fu u hc
theorem cz_1_2 (fu : Nat) (u : ZT_10) {c : Nat} (hc : c < 40) : rr_X10_carried_94 fu (0 : Int32) (0 : Int32) (nI c) (nI 1) (nI c) u = some (u.1.2.1 c, u) := by
  unfold rr_X10_carried_94 rr_X10_carried_101
  rw [ck_in hc (show 40 < 2 ^ 31 by omega), nI_clamp (show c < 2 ^ 31 by omega), ck_in hc (show 40 < 2 ^ 31 by omega), upd_self, if_pos rfl]
  exact cz_1_3 fu u hc
theorem cz_1_1 (fu : Nat) (u : ZT_10) {c : Nat} (hc : c < 40) : rr_X10_carried_66 fu (0 : Int32) (0 : Int32) (nI c) (nI 1) (nI c) u = some (u.1.2.1 c, u) := by
  unfold rr_X10_carried_66 rr_X10_carried_73
  rw [ck_in hc (show 40 < 2 ^ 31 by omega), nI_clamp (show c < 2 ^ 31 by omega), ck_in hc (show 40 < 2 ^ 31 by omega), upd_self, if_pos rfl]
  exact cz_1_2 fu u hc
theorem cz_1_0 (fu : Nat) (u : ZT_10) {c : Nat} (hc : c < 40) : rr_X10_carried_38 fu (0 : Int32) (0 : Int32) (nI c) (nI 1) (nI c) u = some (u.1.2.1 c, u) := by
  unfold rr_X10_carried_38 rr_X10_carried_45
  rw [ck_in hc (show 40 < 2 ^ 31 by omega), nI_clamp (show c < 2 ^ 31 by omega), ck_in hc (show 40 < 2 ^ 31 by omega), upd_self, if_pos rfl]
  exact cz_1_1 fu u hc
theorem cw_1_4 (fu : Nat) (v : Int32) (u : ZT_10) {c : Nat} (hc : c < 40) : ∃ r, rr_X10_carried_150 fu (nI c) (nI 1) (nI c) u = some (r, u) := by
  unfold rr_X10_carried_150 rr_X10_carried_157
  rw [ck_in hc (show 40 < 2 ^ 31 by omega), nI_clamp (show c < 2 ^ 31 by omega), ck_in hc (show 40 < 2 ^ 31 by omega), upd_self, if_neg (show ¬ nI 1 = (0 : Int32) by decide), if_pos (show nI 1 = (1 : Int32) by decide), ck_in hc (show 40 < 2 ^ 31 by omega)]
  exact ⟨_, rfl⟩
theorem cw_1_3 (fu : Nat) (v : Int32) (u : ZT_10) {c : Nat} (hc : c < 40) : ∃ r, rr_X10_carried_122 fu v (1 : Int32) (nI c) (nI 1) (nI c) u = some (r, u) := by
  unfold rr_X10_carried_122 rr_X10_carried_129
  rw [ck_in hc (show 40 < 2 ^ 31 by omega), nI_clamp (show c < 2 ^ 31 by omega), ck_in hc (show 40 < 2 ^ 31 by omega), upd_self, if_neg (show ¬ (1 : Int32) = 0 by decide), if_neg (show ¬ nI 1 = (4 : Int32) by decide)]
  exact cw_1_4 fu v u hc
theorem cw_1_2 (fu : Nat) (v : Int32) (u : ZT_10) {c : Nat} (hc : c < 40) : ∃ r, rr_X10_carried_94 fu v (1 : Int32) (nI c) (nI 1) (nI c) u = some (r, u) := by
  unfold rr_X10_carried_94 rr_X10_carried_101
  rw [ck_in hc (show 40 < 2 ^ 31 by omega), nI_clamp (show c < 2 ^ 31 by omega), ck_in hc (show 40 < 2 ^ 31 by omega), upd_self, if_neg (show ¬ (1 : Int32) = 0 by decide), if_neg (show ¬ nI 1 = (3 : Int32) by decide)]
  exact cw_1_3 fu v u hc
theorem cw_1_1 (fu : Nat) (v : Int32) (u : ZT_10) {c : Nat} (hc : c < 40) : ∃ r, rr_X10_carried_73 fu v (1 : Int32) (nI c) (nI 1) v (nI c) u = some (r, ((u.1.1, upd u.1.2.1 c v, u.1.2.2), u.2)) := by
  unfold rr_X10_carried_73
  rw [ck_in hc (show 40 < 2 ^ 31 by omega), if_neg (show ¬ (1 : Int32) = 0 by decide), if_neg (show ¬ nI 1 = (2 : Int32) by decide), nI_clamp (show c < 2 ^ 31 by omega)]
  exact cw_1_2 fu v ((u.1.1, upd u.1.2.1 c v, u.1.2.2), u.2) hc
theorem cw_1_0 (fu : Nat) (v : Int32) (u : ZT_10) {c : Nat} (hc : c < 40) : ∃ r, rr_X10_carried_38 fu v (1 : Int32) (nI c) (nI 1) (nI c) u = some (r, ((u.1.1, upd u.1.2.1 c v, u.1.2.2), u.2)) := by
  unfold rr_X10_carried_38 rr_X10_carried_45
  rw [ck_in hc (show 40 < 2 ^ 31 by omega), nI_clamp (show c < 2 ^ 31 by omega), ck_in hc (show 40 < 2 ^ 31 by omega), upd_self, if_neg (show ¬ (1 : Int32) = 0 by decide), if_pos (show nI 1 = (1 : Int32) by decide)]
  exact cw_1_1 fu v u hc
theorem cz_2_4 (fu : Nat) (u : ZT_10) {c : Nat} (hc : c < 40) : rr_X10_carried_150 fu (nI c) (nI 2) (nI c) u = some (u.1.2.2.1 c, u) := by
  unfold rr_X10_carried_150 rr_X10_carried_157
  rw [ck_in hc (show 40 < 2 ^ 31 by omega), nI_clamp (show c < 2 ^ 31 by omega), ck_in hc (show 40 < 2 ^ 31 by omega), upd_self, if_neg (show ¬ nI 2 = (0 : Int32) by decide), if_neg (show ¬ nI 2 = (1 : Int32) by decide), if_pos (show nI 2 = (2 : Int32) by decide), ck_in hc (show 40 < 2 ^ 31 by omega)]
theorem cz_2_3 (fu : Nat) (u : ZT_10) {c : Nat} (hc : c < 40) : rr_X10_carried_122 fu (0 : Int32) (0 : Int32) (nI c) (nI 2) (nI c) u = some (u.1.2.2.1 c, u) := by
  unfold rr_X10_carried_122 rr_X10_carried_129
  rw [ck_in hc (show 40 < 2 ^ 31 by omega), nI_clamp (show c < 2 ^ 31 by omega), ck_in hc (show 40 < 2 ^ 31 by omega), upd_self, if_pos rfl]
  exact cz_2_4 fu u hc
theorem cz_2_2 (fu : Nat) (u : ZT_10) {c : Nat} (hc : c < 40) : rr_X10_carried_94 fu (0 : Int32) (0 : Int32) (nI c) (nI 2) (nI c) u = some (u.1.2.2.1 c, u) := by
  unfold rr_X10_carried_94 rr_X10_carried_101
  rw [ck_in hc (show 40 < 2 ^ 31 by omega), nI_clamp (show c < 2 ^ 31 by omega), ck_in hc (show 40 < 2 ^ 31 by omega), upd_self, if_pos rfl]
  exact cz_2_3 fu u hc
theorem cz_2_1 (fu : Nat) (u : ZT_10) {c : Nat} (hc : c < 40) : rr_X10_carried_66 fu (0 : Int32) (0 : Int32) (nI c) (nI 2) (nI c) u = some (u.1.2.2.1 c, u) := by
  unfold rr_X10_carried_66 rr_X10_carried_73
  rw [ck_in hc (show 40 < 2 ^ 31 by omega), nI_clamp (show c < 2 ^ 31 by omega), ck_in hc (show 40 < 2 ^ 31 by omega), upd_self, if_pos rfl]
  exact cz_2_2 fu u hc
theorem cz_2_0 (fu : Nat) (u : ZT_10) {c : Nat} (hc : c < 40) : rr_X10_carried_38 fu (0 : Int32) (0 : Int32) (nI c) (nI 2) (nI c) u = some (u.1.2.2.1 c, u) := by
  unfold rr_X10_carried_38 rr_X10_carried_45
  rw [ck_in hc (show 40 < 2 ^ 31 by omega), nI_clamp (show c < 2 ^ 31 by omega), ck_in hc (show 40 < 2 ^ 31 by omega), upd_self, if_pos rfl]
  exact cz_2_1 fu u hc
theorem cw_2_4 (fu : Nat) (v : Int32) (u : ZT_10) {c : Nat} (hc : c < 40) : ∃ r, rr_X10_carried_150 fu (nI c) (nI 2) (nI c) u = some (r, u) := by
  unfold rr_X10_carried_150 rr_X10_carried_157
  rw [ck_in hc (show 40 < 2 ^ 31 by omega), nI_clamp (show c < 2 ^ 31 by omega), ck_in hc (show 40 < 2 ^ 31 by omega), upd_self, if_neg (show ¬ nI 2 = (0 : Int32) by decide), if_neg (show ¬ nI 2 = (1 : Int32) by decide), if_pos (show nI 2 = (2 : Int32) by decide), ck_in hc (show 40 < 2 ^ 31 by omega)]
  exact ⟨_, rfl⟩
theorem cw_2_3 (fu : Nat) (v : Int32) (u : ZT_10) {c : Nat} (hc : c < 40) : ∃ r, rr_X10_carried_122 fu v (1 : Int32) (nI c) (nI 2) (nI c) u = some (r, u) := by
  unfold rr_X10_carried_122 rr_X10_carried_129
  rw [ck_in hc (show 40 < 2 ^ 31 by omega), nI_clamp (show c < 2 ^ 31 by omega), ck_in hc (show 40 < 2 ^ 31 by omega), upd_self, if_neg (show ¬ (1 : Int32) = 0 by decide), if_neg (show ¬ nI 2 = (4 : Int32) by decide)]
  exact cw_2_4 fu v u hc
theorem cw_2_2 (fu : Nat) (v : Int32) (u : ZT_10) {c : Nat} (hc : c < 40) : ∃ r, rr_X10_carried_101 fu v (1 : Int32) (nI c) (nI 2) v (nI c) u = some (r, ((u.1.1, u.1.2.1, upd u.1.2.2.1 c v, u.1.2.2.2), u.2)) := by
  unfold rr_X10_carried_101
  rw [ck_in hc (show 40 < 2 ^ 31 by omega), if_neg (show ¬ (1 : Int32) = 0 by decide), if_neg (show ¬ nI 2 = (3 : Int32) by decide), nI_clamp (show c < 2 ^ 31 by omega)]
  exact cw_2_3 fu v ((u.1.1, u.1.2.1, upd u.1.2.2.1 c v, u.1.2.2.2), u.2) hc
theorem cw_2_1 (fu : Nat) (v : Int32) (u : ZT_10) {c : Nat} (hc : c < 40) : ∃ r, rr_X10_carried_66 fu v (1 : Int32) (nI c) (nI 2) (nI c) u = some (r, ((u.1.1, u.1.2.1, upd u.1.2.2.1 c v, u.1.2.2.2), u.2)) := by
  unfold rr_X10_carried_66 rr_X10_carried_73
  rw [ck_in hc (show 40 < 2 ^ 31 by omega), nI_clamp (show c < 2 ^ 31 by omega), ck_in hc (show 40 < 2 ^ 31 by omega), upd_self, if_neg (show ¬ (1 : Int32) = 0 by decide), if_pos (show nI 2 = (2 : Int32) by decide)]
  exact cw_2_2 fu v u hc
theorem cw_2_0 (fu : Nat) (v : Int32) (u : ZT_10) {c : Nat} (hc : c < 40) : ∃ r, rr_X10_carried_38 fu v (1 : Int32) (nI c) (nI 2) (nI c) u = some (r, ((u.1.1, u.1.2.1, upd u.1.2.2.1 c v, u.1.2.2.2), u.2)) := by
  unfold rr_X10_carried_38 rr_X10_carried_45
  rw [ck_in hc (show 40 < 2 ^ 31 by omega), nI_clamp (show c < 2 ^ 31 by omega), ck_in hc (show 40 < 2 ^ 31 by omega), upd_self, if_neg (show ¬ (1 : Int32) = 0 by decide), if_neg (show ¬ nI 2 = (1 : Int32) by decide)]
  exact cw_2_1 fu v u hc
theorem cz_3_4 (fu : Nat) (u : ZT_10) {c : Nat} (hc : c < 40) : rr_X10_carried_150 fu (nI c) (nI 3) (nI c) u = some (u.1.2.2.2.1 c, u) := by
  unfold rr_X10_carried_150 rr_X10_carried_157
  rw [ck_in hc (show 40 < 2 ^ 31 by omega), nI_clamp (show c < 2 ^ 31 by omega), ck_in hc (show 40 < 2 ^ 31 by omega), upd_self, if_neg (show ¬ nI 3 = (0 : Int32) by decide), if_neg (show ¬ nI 3 = (1 : Int32) by decide), if_neg (show ¬ nI 3 = (2 : Int32) by decide), if_pos (show nI 3 = (3 : Int32) by decide), ck_in hc (show 40 < 2 ^ 31 by omega)]
theorem cz_3_3 (fu : Nat) (u : ZT_10) {c : Nat} (hc : c < 40) : rr_X10_carried_122 fu (0 : Int32) (0 : Int32) (nI c) (nI 3) (nI c) u = some (u.1.2.2.2.1 c, u) := by
  unfold rr_X10_carried_122 rr_X10_carried_129
  rw [ck_in hc (show 40 < 2 ^ 31 by omega), nI_clamp (show c < 2 ^ 31 by omega), ck_in hc (show 40 < 2 ^ 31 by omega), upd_self, if_pos rfl]
  exact cz_3_4 fu u hc
theorem cz_3_2 (fu : Nat) (u : ZT_10) {c : Nat} (hc : c < 40) : rr_X10_carried_94 fu (0 : Int32) (0 : Int32) (nI c) (nI 3) (nI c) u = some (u.1.2.2.2.1 c, u) := by
  unfold rr_X10_carried_94 rr_X10_carried_101
  rw [ck_in hc (show 40 < 2 ^ 31 by omega), nI_clamp (show c < 2 ^ 31 by omega), ck_in hc (show 40 < 2 ^ 31 by omega), upd_self, if_pos rfl]
  exact cz_3_3 fu u hc
theorem cz_3_1 (fu : Nat) (u : ZT_10) {c : Nat} (hc : c < 40) : rr_X10_carried_66 fu (0 : Int32) (0 : Int32) (nI c) (nI 3) (nI c) u = some (u.1.2.2.2.1 c, u) := by
  unfold rr_X10_carried_66 rr_X10_carried_73
  rw [ck_in hc (show 40 < 2 ^ 31 by omega), nI_clamp (show c < 2 ^ 31 by omega), ck_in hc (show 40 < 2 ^ 31 by omega), upd_self, if_pos rfl]
  exact cz_3_2 fu u hc
theorem cz_3_0 (fu : Nat) (u : ZT_10) {c : Nat} (hc : c < 40) : rr_X10_carried_38 fu (0 : Int32) (0 : Int32) (nI c) (nI 3) (nI c) u = some (u.1.2.2.2.1 c, u) := by
  unfold rr_X10_carried_38 rr_X10_carried_45
  rw [ck_in hc (show 40 < 2 ^ 31 by omega), nI_clamp (show c < 2 ^ 31 by omega), ck_in hc (show 40 < 2 ^ 31 by omega), upd_self, if_pos rfl]
  exact cz_3_1 fu u hc
theorem cw_3_4 (fu : Nat) (v : Int32) (u : ZT_10) {c : Nat} (hc : c < 40) : ∃ r, rr_X10_carried_150 fu (nI c) (nI 3) (nI c) u = some (r, u) := by
  unfold rr_X10_carried_150 rr_X10_carried_157
  rw [ck_in hc (show 40 < 2 ^ 31 by omega), nI_clamp (show c < 2 ^ 31 by omega), ck_in hc (show 40 < 2 ^ 31 by omega), upd_self, if_neg (show ¬ nI 3 = (0 : Int32) by decide), if_neg (show ¬ nI 3 = (1 : Int32) by decide), if_neg (show ¬ nI 3 = (2 : Int32) by decide), if_pos (show nI 3 = (3 : Int32) by decide), ck_in hc (show 40 < 2 ^ 31 by omega)]
  exact ⟨_, rfl⟩
theorem cw_3_3 (fu : Nat) (v : Int32) (u : ZT_10) {c : Nat} (hc : c < 40) : ∃ r, rr_X10_carried_129 fu v (1 : Int32) (nI c) (nI 3) v (nI c) u = some (r, ((u.1.1, u.1.2.1, u.1.2.2.1, upd u.1.2.2.2.1 c v, u.1.2.2.2.2), u.2)) := by
  unfold rr_X10_carried_129
  rw [ck_in hc (show 40 < 2 ^ 31 by omega), if_neg (show ¬ (1 : Int32) = 0 by decide), if_neg (show ¬ nI 3 = (4 : Int32) by decide), nI_clamp (show c < 2 ^ 31 by omega)]
  exact cw_3_4 fu v ((u.1.1, u.1.2.1, u.1.2.2.1, upd u.1.2.2.2.1 c v, u.1.2.2.2.2), u.2) hc
theorem cw_3_2 (fu : Nat) (v : Int32) (u : ZT_10) {c : Nat} (hc : c < 40) : ∃ r, rr_X10_carried_94 fu v (1 : Int32) (nI c) (nI 3) (nI c) u = some (r, ((u.1.1, u.1.2.1, u.1.2.2.1, upd u.1.2.2.2.1 c v, u.1.2.2.2.2), u.2)) := by
  unfold rr_X10_carried_94 rr_X10_carried_101
  rw [ck_in hc (show 40 < 2 ^ 31 by omega), nI_clamp (show c < 2 ^ 31 by omega), ck_in hc (show 40 < 2 ^ 31 by omega), upd_self, if_neg (show ¬ (1 : Int32) = 0 by decide), if_pos (show nI 3 = (3 : Int32) by decide)]
  exact cw_3_3 fu v u hc
theorem cw_3_1 (fu : Nat) (v : Int32) (u : ZT_10) {c : Nat} (hc : c < 40) : ∃ r, rr_X10_carried_66 fu v (1 : Int32) (nI c) (nI 3) (nI c) u = some (r, ((u.1.1, u.1.2.1, u.1.2.2.1, upd u.1.2.2.2.1 c v, u.1.2.2.2.2), u.2)) := by
  unfold rr_X10_carried_66 rr_X10_carried_73
  rw [ck_in hc (show 40 < 2 ^ 31 by omega), nI_clamp (show c < 2 ^ 31 by omega), ck_in hc (show 40 < 2 ^ 31 by omega), upd_self, if_neg (show ¬ (1 : Int32) = 0 by decide), if_neg (show ¬ nI 3 = (2 : Int32) by decide)]
  exact cw_3_2 fu v u hc
theorem cw_3_0 (fu : Nat) (v : Int32) (u : ZT_10) {c : Nat} (hc : c < 40) : ∃ r, rr_X10_carried_38 fu v (1 : Int32) (nI c) (nI 3) (nI c) u = some (r, ((u.1.1, u.1.2.1, u.1.2.2.1, upd u.1.2.2.2.1 c v, u.1.2.2.2.2), u.2)) := by
  unfold rr_X10_carried_38 rr_X10_carried_45
  rw [ck_in hc (show 40 < 2 ^ 31 by omega), nI_clamp (show c < 2 ^ 31 by omega), ck_in hc (show 40 < 2 ^ 31 by omega), upd_self, if_neg (show ¬ (1 : Int32) = 0 by decide), if_neg (show ¬ nI 3 = (1 : Int32) by decide)]
  exact cw_3_1 fu v u hc
theorem cz_4_4 (fu : Nat) (u : ZT_10) {c : Nat} (hc : c < 40) : rr_X10_carried_150 fu (nI c) (nI 4) (nI c) u = some (u.1.2.2.2.2.1 c, u) := by
  unfold rr_X10_carried_150 rr_X10_carried_157
  rw [ck_in hc (show 40 < 2 ^ 31 by omega), nI_clamp (show c < 2 ^ 31 by omega), ck_in hc (show 40 < 2 ^ 31 by omega), upd_self, if_neg (show ¬ nI 4 = (0 : Int32) by decide), if_neg (show ¬ nI 4 = (1 : Int32) by decide), if_neg (show ¬ nI 4 = (2 : Int32) by decide), if_neg (show ¬ nI 4 = (3 : Int32) by decide), ck_in hc (show 40 < 2 ^ 31 by omega)]
theorem cz_4_3 (fu : Nat) (u : ZT_10) {c : Nat} (hc : c < 40) : rr_X10_carried_122 fu (0 : Int32) (0 : Int32) (nI c) (nI 4) (nI c) u = some (u.1.2.2.2.2.1 c, u) := by
  unfold rr_X10_carried_122 rr_X10_carried_129
  rw [ck_in hc (show 40 < 2 ^ 31 by omega), nI_clamp (show c < 2 ^ 31 by omega), ck_in hc (show 40 < 2 ^ 31 by omega), upd_self, if_pos rfl]
  exact cz_4_4 fu u hc
theorem cz_4_2 (fu : Nat) (u : ZT_10) {c : Nat} (hc : c < 40) : rr_X10_carried_94 fu (0 : Int32) (0 : Int32) (nI c) (nI 4) (nI c) u = some (u.1.2.2.2.2.1 c, u) := by
  unfold rr_X10_carried_94 rr_X10_carried_101
  rw [ck_in hc (show 40 < 2 ^ 31 by omega), nI_clamp (show c < 2 ^ 31 by omega), ck_in hc (show 40 < 2 ^ 31 by omega), upd_self, if_pos rfl]
  exact cz_4_3 fu u hc
theorem cz_4_1 (fu : Nat) (u : ZT_10) {c : Nat} (hc : c < 40) : rr_X10_carried_66 fu (0 : Int32) (0 : Int32) (nI c) (nI 4) (nI c) u = some (u.1.2.2.2.2.1 c, u) := by
  unfold rr_X10_carried_66 rr_X10_carried_73
  rw [ck_in hc (show 40 < 2 ^ 31 by omega), nI_clamp (show c < 2 ^ 31 by omega), ck_in hc (show 40 < 2 ^ 31 by omega), upd_self, if_pos rfl]
  exact cz_4_2 fu u hc
theorem cz_4_0 (fu : Nat) (u : ZT_10) {c : Nat} (hc : c < 40) : rr_X10_carried_38 fu (0 : Int32) (0 : Int32) (nI c) (nI 4) (nI c) u = some (u.1.2.2.2.2.1 c, u) := by
  unfold rr_X10_carried_38 rr_X10_carried_45
  rw [ck_in hc (show 40 < 2 ^ 31 by omega), nI_clamp (show c < 2 ^ 31 by omega), ck_in hc (show 40 < 2 ^ 31 by omega), upd_self, if_pos rfl]
  exact cz_4_1 fu u hc
theorem cw_4_4 (fu : Nat) (v : Int32) (u : ZT_10) {c : Nat} (hc : c < 40) : ∃ r, rr_X10_carried_157 fu (nI c) (nI 4) v (nI c) u = some (r, ((u.1.1, u.1.2.1, u.1.2.2.1, u.1.2.2.2.1, upd u.1.2.2.2.2.1 c v, u.1.2.2.2.2.2), u.2)) := by
  unfold rr_X10_carried_157
  rw [ck_in hc (show 40 < 2 ^ 31 by omega), nI_clamp (show c < 2 ^ 31 by omega), if_neg (show ¬ nI 4 = (0 : Int32) by decide), if_neg (show ¬ nI 4 = (1 : Int32) by decide), if_neg (show ¬ nI 4 = (2 : Int32) by decide), if_neg (show ¬ nI 4 = (3 : Int32) by decide), ck_in hc (show 40 < 2 ^ 31 by omega)]
  exact ⟨_, rfl⟩
theorem cw_4_3 (fu : Nat) (v : Int32) (u : ZT_10) {c : Nat} (hc : c < 40) : ∃ r, rr_X10_carried_122 fu v (1 : Int32) (nI c) (nI 4) (nI c) u = some (r, ((u.1.1, u.1.2.1, u.1.2.2.1, u.1.2.2.2.1, upd u.1.2.2.2.2.1 c v, u.1.2.2.2.2.2), u.2)) := by
  unfold rr_X10_carried_122 rr_X10_carried_129
  rw [ck_in hc (show 40 < 2 ^ 31 by omega), nI_clamp (show c < 2 ^ 31 by omega), ck_in hc (show 40 < 2 ^ 31 by omega), upd_self, if_neg (show ¬ (1 : Int32) = 0 by decide), if_pos (show nI 4 = (4 : Int32) by decide)]
  exact cw_4_4 fu v u hc
theorem cw_4_2 (fu : Nat) (v : Int32) (u : ZT_10) {c : Nat} (hc : c < 40) : ∃ r, rr_X10_carried_94 fu v (1 : Int32) (nI c) (nI 4) (nI c) u = some (r, ((u.1.1, u.1.2.1, u.1.2.2.1, u.1.2.2.2.1, upd u.1.2.2.2.2.1 c v, u.1.2.2.2.2.2), u.2)) := by
  unfold rr_X10_carried_94 rr_X10_carried_101
  rw [ck_in hc (show 40 < 2 ^ 31 by omega), nI_clamp (show c < 2 ^ 31 by omega), ck_in hc (show 40 < 2 ^ 31 by omega), upd_self, if_neg (show ¬ (1 : Int32) = 0 by decide), if_neg (show ¬ nI 4 = (3 : Int32) by decide)]
  exact cw_4_3 fu v u hc
theorem cw_4_1 (fu : Nat) (v : Int32) (u : ZT_10) {c : Nat} (hc : c < 40) : ∃ r, rr_X10_carried_66 fu v (1 : Int32) (nI c) (nI 4) (nI c) u = some (r, ((u.1.1, u.1.2.1, u.1.2.2.1, u.1.2.2.2.1, upd u.1.2.2.2.2.1 c v, u.1.2.2.2.2.2), u.2)) := by
  unfold rr_X10_carried_66 rr_X10_carried_73
  rw [ck_in hc (show 40 < 2 ^ 31 by omega), nI_clamp (show c < 2 ^ 31 by omega), ck_in hc (show 40 < 2 ^ 31 by omega), upd_self, if_neg (show ¬ (1 : Int32) = 0 by decide), if_neg (show ¬ nI 4 = (2 : Int32) by decide)]
  exact cw_4_2 fu v u hc
theorem cw_4_0 (fu : Nat) (v : Int32) (u : ZT_10) {c : Nat} (hc : c < 40) : ∃ r, rr_X10_carried_38 fu v (1 : Int32) (nI c) (nI 4) (nI c) u = some (r, ((u.1.1, u.1.2.1, u.1.2.2.1, u.1.2.2.2.1, upd u.1.2.2.2.2.1 c v, u.1.2.2.2.2.2), u.2)) := by
  unfold rr_X10_carried_38 rr_X10_carried_45
  rw [ck_in hc (show 40 < 2 ^ 31 by omega), nI_clamp (show c < 2 ^ 31 by omega), ck_in hc (show 40 < 2 ^ 31 by omega), upd_self, if_neg (show ¬ (1 : Int32) = 0 by decide), if_neg (show ¬ nI 4 = (1 : Int32) by decide)]
  exact cw_4_1 fu v u hc
