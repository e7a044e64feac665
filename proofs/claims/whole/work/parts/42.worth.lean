-- ===== worths together =====
def sumC (wo : Nat → Int32) : List Nat → Int32
  | [] => 0
  | c :: t => wo c + sumC wo t
theorem sumC_snoc (wo : Nat → Int32) (x : Nat) : ∀ l, sumC wo (l ++ [x]) = sumC wo l + wo x := by
  intro l
  induction l with
  | nil => show wo x + 0 = 0 + wo x; rw [Int32.add_comm]
  | cons c t ih => show wo c + sumC wo (t ++ [x]) = wo c + sumC wo t + wo x; rw [ih, Int32.add_assoc]
theorem sumC_perm {wo : Nat → Int32} {a b : List Nat} (h : a.Perm b) : sumC wo a = sumC wo b := by
  induction h with
  | nil => rfl
  | cons x _ ih => show wo x + _ = wo x + _; rw [ih]
  | swap x y t => show wo y + (wo x + sumC wo t) = wo x + (wo y + sumC wo t); rw [← Int32.add_assoc, ← Int32.add_assoc, Int32.add_comm (wo y)]
  | trans _ _ h1 h2 => rw [h1, h2]
theorem sumC_map (wo : Nat → Int32) (g : Nat → Nat) : ∀ l, sumC wo (l.map g) = sumC (fun r => wo (g r)) l := by
  intro l
  induction l with
  | nil => rfl
  | cons c t ih => show wo (g c) + sumC wo (t.map g) = wo (g c) + _; rw [ih]
theorem sumC_congr {f g : Nat → Int32} : ∀ l : List Nat, (∀ c ∈ l, f c = g c) → sumC f l = sumC g l := by
  intro l
  induction l with
  | nil => intro _; rfl
  | cons c t ih =>
    intro h
    show f c + sumC f t = g c + sumC g t
    rw [h c List.mem_cons_self, ih (fun x hx => h x (List.mem_cons_of_mem _ hx))]
theorem filt_succ (p : Nat → Bool) (n : Nat) : (List.range (n + 1)).filter p = if p n then (List.range n).filter p ++ [n] else (List.range n).filter p := by
  rw [List.range_succ, List.filter_append]
  by_cases h : p n = true
  · rw [if_pos h]; simp [h]
  · rw [if_neg h]; simp [h]
theorem smod_tab : ∀ r, r < 64 → ((nI r).toInt64 &&& 63).toBitVec.smod 64 = BitVec.ofNat 64 r := by decide +kernel
theorem shr_bit {S : Int64} {r : Nat} (hr : r < 64) : ((S >>> ((nI r).toInt64 &&& 63)) &&& (1 : Int64)) = 0 ↔ tb_ S r = false := by
  have e1 : tb_ (S >>> ((nI r).toInt64 &&& 63)) 0 = tb_ S r := by
    unfold tb_
    rw [Int64.toBitVec_shiftRight, smod_tab r hr, BitVec.sshiftRight_eq', BitVec.getLsbD_sshiftRight, BitVec.toNat_ofNat, Nat.mod_eq_of_lt (by omega)]
    simp [hr]
  have e2 : ∀ i, tb_ (1 : Int64) i = decide (i = 0) := by
    intro i
    have := tb_bit (r := 0) (i := i) (by omega)
    rw [show (1 : Int64) <<< ((nI 0).toInt64 &&& 63) = 1 by decide] at this
    exact this
  constructor
  · intro h
    have h0 : tb_ ((S >>> ((nI r).toInt64 &&& 63)) &&& (1 : Int64)) 0 = false := by rw [h, tb_0]
    rw [tb_and, e1, e2] at h0
    simpa using h0
  · intro h
    apply tb_ext
    intro i hi
    rw [tb_and, e2, tb_0]
    by_cases c : i = 0
    · subst c; rw [e1, h]; rfl
    · simp [c]
theorem w4_5 (fu : Nat) {N : Nat} (hN : N ≤ 40) {rk : ZT_4} (hsz : rk.1 = nI N) (S : Int64) : ∀ (k i g : Nat), i + k = N → k < g → rr_X4_worthOf_5 fu rk g S (sumC rk.2.2.1 ((List.range i).filter (tb_ S))) (nI i) = some (sumC rk.2.2.1 ((List.range N).filter (tb_ S))) := by
  intro k
  induction k with
  | zero =>
    intro i g hi hg
    obtain ⟨g, rfl⟩ : ∃ q, g = q + 1 := ⟨g - 1, by omega⟩
    have : i = N := by omega
    subst this
    have e9 : rr_X4_worthOf_5 fu rk (g + 1) = rr_X4_worthOf_5_b fu rk (rr_X4_worthOf_5 fu rk g) := rfl
    rw [e9]
    unfold rr_X4_worthOf_5_b
    rw [hsz, if_pos (nI_le (Nat.le_refl i) (by omega))]
  | succ k ih =>
    intro i g hi hg
    obtain ⟨g, rfl⟩ : ∃ q, g = q + 1 := ⟨g - 1, by omega⟩
    have e9 : rr_X4_worthOf_5 fu rk (g + 1) = rr_X4_worthOf_5_b fu rk (rr_X4_worthOf_5 fu rk g) := rfl
    rw [e9]
    unfold rr_X4_worthOf_5_b rr_X4_worthOf_35
    have h2 := ih (i + 1) g (by omega) (by omega)
    rw [filt_succ] at h2
    rw [hsz, if_neg (nI_ge (by omega) (by omega))]
    simp only [ck_in (show i < 64 by omega) (show 64 < 2 ^ 31 by omega), nI_clamp (show i < 2 ^ 31 by omega), lt_eq, nI_1]
    by_cases c : tb_ S i = false
    · rw [if_pos (lc_eq.mpr ((shr_bit (by omega)).mpr c))]
      rw [if_neg (by rw [c]; decide)] at h2
      exact h2
    · rw [if_neg (fun h => c ((shr_bit (by omega)).mp (lc_eq.mp h)))]
      rw [if_pos (by simpa using c), sumC_snoc] at h2
      exact h2
theorem w10_4 (fu : Nat) {N : Nat} {m : ZT_10} (hM : MOK m N) (h : Int32) : ∀ (k i g : Nat), i + k = N → k < g → rr_X10_worthOf_4 fu m g h (sumC m.1.1 ((List.range i).filter (fun c => decide (m.1.2.2.2.2.1 c = h)))) (nI i) = some (sumC m.1.1 ((List.range N).filter (fun c => decide (m.1.2.2.2.2.1 c = h)))) := by
  have hN := hM.2.1
  intro k
  induction k with
  | zero =>
    intro i g hi hg
    obtain ⟨g, rfl⟩ : ∃ q, g = q + 1 := ⟨g - 1, by omega⟩
    have : i = N := by omega
    subst this
    have e9 : rr_X10_worthOf_4 fu m (g + 1) = rr_X10_worthOf_4_b fu m (rr_X10_worthOf_4 fu m g) := rfl
    rw [e9]
    unfold rr_X10_worthOf_4_b
    rw [hM.1, if_pos (nI_le (Nat.le_refl i) (by omega))]
  | succ k ih =>
    intro i g hi hg
    obtain ⟨g, rfl⟩ : ∃ q, g = q + 1 := ⟨g - 1, by omega⟩
    have e9 : rr_X10_worthOf_4 fu m (g + 1) = rr_X10_worthOf_4_b fu m (rr_X10_worthOf_4 fu m g) := rfl
    rw [e9]
    unfold rr_X10_worthOf_4_b rr_X10_worthOf_33
    have h2 := ih (i + 1) g (by omega) (by omega)
    rw [filt_succ] at h2
    rw [hM.1, if_neg (nI_ge (by omega) (by omega))]
    simp only [ck_in (show i < 40 by omega) (show 40 < 2 ^ 31 by omega), nI_clamp (show i < 2 ^ 31 by omega), lt_eq, nI_1]
    by_cases c : m.1.2.2.2.2.1 i = h
    · rw [if_pos c]
      rw [if_pos (decide_eq_true c), sumC_snoc] at h2
      exact h2
    · rw [if_neg c, Int32.add_zero]
      rw [if_neg (by simp [c])] at h2
      exact h2
