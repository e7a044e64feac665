def rr_X9_stamp (fu : Nat) (x1 : Int32) (x2 : Int32) (s1 : ZT_9) : Option (Int32 × ZT_9) := (rr_X9_isCoin fu x1 s1).bind (fun q1 => (if q1 = (0 : Int32) then some ((-1 : Int32), s1) else (rr_X9_isYear fu x2).bind (fun q3 => (if q3 = (0 : Int32) then some ((-1 : Int32), s1) else ck_ x1 40 (lt_ (α := Int32) (s1.1.2.1.2.2.2.2.1 x1.toNatClampNeg) (fun z6 => ck_ x1 40 (some (z6, ((s1.1.1, (s1.1.2.1.1, s1.1.2.1.2.1, s1.1.2.1.2.2.1, s1.1.2.1.2.2.2.1, (upd s1.1.2.1.2.2.2.2.1 x1.toNatClampNeg x2), s1.1.2.1.2.2.2.2.2), s1.1.2.2), s1.2.1, s1.2.2.1, s1.2.2.2.1, (1 : Int32), s1.2.2.2.2.2)))))))))
set_option maxHeartbeats 4000000 in
set_option maxRecDepth 100000 in
theorem cc_X9_stamp (l : Launch) (dC : Nat → ClassId) (dI : Nat → Nat → Nat) (fu : Nat) (a1 : Nat → Nat) (k1 : Nat → ClassId) (sz : Nat) (x1 : Int32) (x2 : Int32) (s1 : ZT_9) (res : Int32 × ZT_9) (hR : rr_X9_stamp fu x1 x2 s1 = some res) : Met l yX9_stamp wsX9_stamp ({ frames := 2, cells := 0, slots := 0, locals := 43 } : Room) (PcF [.ref (a1 0), .int x1, .int x2] sz (dC, dI) (zc_9 a1 k1 s1) (zt_9 k1)) (va_Qi (fun (r : Int32) (u : ZT_9) => res = (r, u)) (fun u t => at3_ (dC, dI) (zc_9 a1 k1 u) (zt_9 k1) (va_A (zc_9 a1 k1 s1) sz) t) (va_A (zc_9 a1 k1 s1) sz)) 0 0 (va_A (zc_9 a1 k1 s1) sz) := by
  refine Met.ofW (cc := cX9_stamp) (maxL := 4) (ret := (some .int)) (by decide) rfl ?_
  intro p e s m args below meth c s₁ B hml hv
  obtain ⟨hav, hsz, hP, hK, hD0⟩ := hv
  have hx := B.exec
  have hb := B.bytes
  have hr := B.returns
  have hts := atoms_spec (ws := wsX9_stamp) B.pre
  have hown : s.vm.findClass RX9 = some m.cls := findClass_of_methodNamed B.named
  have hlocks := B.notSynchronized
  have hin2 : ∀ w ∈ wsX20, w ∈ wsX9_stamp := fun w h => List.mem_cons_of_mem _ (List.mem_append_right _ h)
  have hin8 : ∀ w ∈ wsX80, w ∈ wsX9_stamp := fun w h => List.mem_cons_of_mem _ (List.mem_append_left _ (List.mem_append_right _ h))
  have hin9 : ∀ w ∈ wsX90, w ∈ wsX9_stamp := fun w h => List.mem_cons_of_mem _ (List.mem_append_left _ (List.mem_append_left _ (List.mem_append_right _ h)))
  subst hsz
  have hD := hD0.self (sz := s.heap.size)
  clear hD0
  generalize hAe : va_A (zc_9 a1 k1 s1) s.heap.size = A at hD ⊢
  have hA : ∀ q : Nat, s.heap.size ≤ q → A q := fun q h => by rw [← hAe]; exact Or.inr h
  have hS : va_S A s.heap s.heap [] := va_S.rf
  generalize hQe : MQ below _ args s 0 0 A = Q
  rw [show entryFrame m args 4 = F0 m 0 ((lg_sl ([.ref (a1 0), .int x1, .int x2]) ++ List.replicate (4 - (lg_sl ([.ref (a1 0), .int x1, .int x2])).length) Slot.unset).toArray) [] from by rw [hav]; exact lg_entry_eq m _ _]
  have hl := lv_entry ([.ref (a1 0), .int x1, .int x2]) (n := 4) (Nat.le_of_ble_eq_true rfl)
  generalize (lg_sl ([.ref (a1 0), .int x1, .int x2]) ++ List.replicate (4 - (lg_sl ([.ref (a1 0), .int x1, .int x2])).length) Slot.unset).toArray = ls at hl ⊢
  have hl : lv_has ls 4 [(0, .ref (a1 0)), (1, .int x1), (2, .int x2)] := hl
  unfold rr_X9_stamp at hR
  refine lv_aload_n hx hb dX9_stamp_0 rfl (lv_at hl 0 rfl) ?_
  refine lv_iload_n hx hb dX9_stamp_1 rfl (lv_at hl 1 rfl) ?_
  have hR0 := ob_ok hR
  clear hR
  obtain ⟨q1, hq1, hR⟩ := hR0
  refine va_calli (va_runV (As := [.int x1]) (rest := []) ⟨hx, hb, hml, hown, hts⟩ (cc_X9_isCoin l dC dI fu a1 k1 s.heap.size x1 s1 q1 hq1) (cwV 1 hts gX9_stamp_X9_isCoin rfl rfl rfl (by decide +kernel) ⟨Nat.le_of_ble_eq_true rfl, Nat.le_of_ble_eq_true rfl⟩) (pf_v hK hP hD 9 0 rfl rfl rfl) rfl rfl hl.1 rfl (lv_room (Nat.le_of_ble_eq_true rfl)) dX9_stamp_2 ⟨Nat.le_refl _, Nat.le_refl _⟩) hS (fun q _ h => (fr_all hD hS hA) q h) (fr_all hD hS hA) (fun r1 v1 t1 H1 locs1 ht1 hvm1 hw1 hB1 hz1 hk1 hS1 => ?_)
  subst hw1
  obtain ⟨hP1, hD1⟩ := jn_all hD hS hA ht1 hB1
  have hP1 : va_P (dC, dI) vwCl (zc_9 a1 k1 s1) H1 := hP1
  have hD1 : va_D A (zc_9 a1 k1 s1) := hD1
  clear hP hD hS hB1 hk1 hvm1 hz1 ht1
  refine lv_if_eq (tgt := 15) hx hb dX9_stamp_5 (by decide) (fun c2 => ?_) (fun c2 => ?_)
  · replace hR := ifp_ hR c2
    refine lv_iconst (v := (-1 : Int32)) hx hb dX9_stamp_15 (by decide) ?_
    subst hQe
    exact W.iret (v := (-1 : Int32)) hx hb hr (fun t ht hW => ⟨⟨(-1 : Int32), s1, rfl, (Option.some.inj hR).symm, by rw [ht]; exact hP1, va_K.moved hW.alike hK, hD1⟩, hS1.F ht⟩) hS1.2.2 dX9_stamp_16
  · replace hR := ifn_ hR c2
    refine lv_iload_n hx hb dX9_stamp_8 rfl (lv_at hl 2 rfl) ?_
    have hR0 := ob_ok hR
    clear hR
    obtain ⟨q3, hq3, hR⟩ := hR0
    refine va_calli (va_runS (As := [.int x2]) (rest := []) ⟨hx, hb, hml, hown, hts⟩ (cc_X9_isYear l dC dI fu H1.size x2 q3 hq3) (va_cwS 1 hts gX9_stamp_X9_isYear rfl rfl rfl (by decide +kernel) ⟨Nat.le_of_ble_eq_true rfl, Nat.le_of_ble_eq_true rfl⟩) (pf_s (nil_K hK) nil_P (nil_D (A := A))) rfl rfl hl.1 rfl (lv_room (Nat.le_of_ble_eq_true rfl)) dX9_stamp_9 ⟨Nat.le_refl _, Nat.le_refl _⟩) hS1 (fun q _ h => (fr_none hS1 hA) q h) (fr_none hS1 hA) (fun r3 v3 t3 H3 locs3 ht3 hvm3 hw3 hB3 hz3 hk3 hS3 => ?_)
    subst hw3
    have hP3 := jn_none hP1 hk3
    have hD3 := hD1
    have hP3 : va_P (dC, dI) vwCl (zc_9 a1 k1 s1) H3 := hP3
    have hD3 : va_D A (zc_9 a1 k1 s1) := hD3
    clear hP1 hD1 hS1 hB3 hk3 hvm3 hz3 ht3
    refine lv_if_ne (tgt := 17) hx hb dX9_stamp_12 (by decide) (fun c4 => ?_) (fun c4 => ?_)
    · replace hR := ifn_ hR c4
      refine lv_aload_n hx hb dX9_stamp_17 rfl (lv_at hl 0 rfl) ?_
      refine va_get (D := (dC, dI)) (ci := 9) (v := .ref (a1 1)) (C := RX9) (T := TX9) (N := 14) hx hb hts hin9 hown hK hP3 0 rfl rfl 0 (by decide) (hts (.fieldLink RX9 10 "OldestCoins" "town" "LOldestCoins$Town;") (List.mem_of_getElem? (i := 1) rfl)) (fun _ h9 => h9) rfl dX9_stamp_18 ?_
      refine va_get (D := (dC, dI)) (ci := 8) (v := .ref (a1 2)) (C := RX8) (T := TX8) (N := 4) hx hb hts hin8 hown hK hP3 1 rfl rfl 1 (by decide) (hts (.fieldLink RX9 98 "OldestCoins$Town" "coins" "LOldestCoins$Coins;") (List.mem_of_getElem? (i := 2) rfl)) (fun _ h9 => h9) rfl dX9_stamp_21 ?_
      refine va_get (D := (dC, dI)) (ci := 2) (v := .ref (a1 6)) (C := RX2) (T := TX2) (N := 6) hx hb hts hin2 hown hK hP3 2 rfl rfl 4 (by decide) (hts (.fieldLink RX9 112 "OldestCoins$Coins" "stamp" "[I") (List.mem_of_getElem? (i := 3) rfl)) (fun _ h9 => h9) rfl dX9_stamp_24 ?_
      refine lv_iload_n hx hb dX9_stamp_27 rfl (lv_at hl 1 rfl) ?_
      have i5 := (ck_ok hR).1
      replace hR := (ck_ok hR).2
      refine va_iald (f := s1.1.2.1.2.2.2.2.1) hx hb hK hP3 6 3 rfl rfl i5 dX9_stamp_28 ?_
      refine lv_topi (fun z6 ez6 => ?_)
      replace hR := lt_ok hR ez6
      refine lv_istore_n (lv' := [(3, .int z6), (0, .ref (a1 0)), (1, .int x1), (2, .int x2)]) hx hb dX9_stamp_29 rfl hl (by decide) rfl (fun ls7 hl7 => ?_)
      refine lv_aload_n hx hb dX9_stamp_30 rfl (lv_at hl7 1 rfl) ?_
      refine va_get (D := (dC, dI)) (ci := 9) (v := .ref (a1 1)) (C := RX9) (T := TX9) (N := 14) hx hb hts hin9 hown hK hP3 0 rfl rfl 0 (by decide) (hts (.fieldLink RX9 10 "OldestCoins" "town" "LOldestCoins$Town;") (List.mem_of_getElem? (i := 1) rfl)) (fun _ h9 => h9) rfl dX9_stamp_31 ?_
      refine va_get (D := (dC, dI)) (ci := 8) (v := .ref (a1 2)) (C := RX8) (T := TX8) (N := 4) hx hb hts hin8 hown hK hP3 1 rfl rfl 1 (by decide) (hts (.fieldLink RX9 98 "OldestCoins$Town" "coins" "LOldestCoins$Coins;") (List.mem_of_getElem? (i := 2) rfl)) (fun _ h9 => h9) rfl dX9_stamp_34 ?_
      refine va_get (D := (dC, dI)) (ci := 2) (v := .ref (a1 6)) (C := RX2) (T := TX2) (N := 6) hx hb hts hin2 hown hK hP3 2 rfl rfl 4 (by decide) (hts (.fieldLink RX9 112 "OldestCoins$Coins" "stamp" "[I") (List.mem_of_getElem? (i := 3) rfl)) (fun _ h9 => h9) rfl dX9_stamp_37 ?_
      refine lv_iload_n hx hb dX9_stamp_40 rfl (lv_at hl7 2 rfl) ?_
      refine lv_iload_n hx hb dX9_stamp_41 rfl (lv_at hl7 3 rfl) ?_
      have i8 := (ck_ok hR).1
      replace hR := (ck_ok hR).2
      refine va_iast (f := s1.1.2.1.2.2.2.2.1) hx hb hK hP3 hD3 hS3 6 3 rfl rfl i8 dX9_stamp_42 (fun H8 locs8 hP8 hD8 hS8 => ?_)
      have hP8 : va_P (dC, dI) vwCl (zc_9 a1 k1 ((s1.1.1, (s1.1.2.1.1, s1.1.2.1.2.1, s1.1.2.1.2.2.1, s1.1.2.1.2.2.2.1, (upd s1.1.2.1.2.2.2.2.1 x1.toNatClampNeg x2), s1.1.2.1.2.2.2.2.2), s1.1.2.2), s1.2)) H8 := hP8
      have hD8 : va_D A (zc_9 a1 k1 ((s1.1.1, (s1.1.2.1.1, s1.1.2.1.2.1, s1.1.2.1.2.2.1, s1.1.2.1.2.2.2.1, (upd s1.1.2.1.2.2.2.2.1 x1.toNatClampNeg x2), s1.1.2.1.2.2.2.2.2), s1.1.2.2), s1.2)) := hD8
      clear hP3 hD3 hS3
      refine lv_aload_n hx hb dX9_stamp_43 rfl (lv_at hl7 1 rfl) ?_
      refine lv_iconst (v := (1 : Int32)) hx hb dX9_stamp_44 (by decide) ?_
      refine va_put (D := (dC, dI)) (ci := 9) (v := .int (1 : Int32)) (ty := .boolean) (C := RX9) (T := TX9) (N := 14) hx hb hts hin9 tyX9 tyX9_ok nmX9 hown hK hP8 hD8 hS8 0 rfl rfl 4 (by decide) (hts (.fieldLink RX9 26 "OldestCoins" "ranksAreOld" "Z") (List.mem_of_getElem? (i := 4) rfl)) (fun _ h9 => h9) rfl (by decide +kernel) rfl rfl (Nat.le_of_ble_eq_true rfl) dX9_stamp_45 (fun H9 locs9 hP9 hD9 hS9 => ?_)
      have hP9 : va_P (dC, dI) vwCl (zc_9 a1 k1 ((s1.1.1, (s1.1.2.1.1, s1.1.2.1.2.1, s1.1.2.1.2.2.1, s1.1.2.1.2.2.2.1, (upd s1.1.2.1.2.2.2.2.1 x1.toNatClampNeg x2), s1.1.2.1.2.2.2.2.2), s1.1.2.2), s1.2.1, s1.2.2.1, s1.2.2.2.1, (1 : Int32), s1.2.2.2.2.2)) H9 := hP9
      have hD9 : va_D A (zc_9 a1 k1 ((s1.1.1, (s1.1.2.1.1, s1.1.2.1.2.1, s1.1.2.1.2.2.1, s1.1.2.1.2.2.2.1, (upd s1.1.2.1.2.2.2.2.1 x1.toNatClampNeg x2), s1.1.2.1.2.2.2.2.2), s1.1.2.2), s1.2.1, s1.2.2.1, s1.2.2.2.1, (1 : Int32), s1.2.2.2.2.2)) := hD9
      clear hP8 hD8 hS8
      refine lv_iload_n hx hb dX9_stamp_48 rfl (lv_at hl7 0 rfl) ?_
      subst hQe
      exact W.iret (v := z6) hx hb hr (fun t ht hW => ⟨⟨z6, ((s1.1.1, (s1.1.2.1.1, s1.1.2.1.2.1, s1.1.2.1.2.2.1, s1.1.2.1.2.2.2.1, (upd s1.1.2.1.2.2.2.2.1 x1.toNatClampNeg x2), s1.1.2.1.2.2.2.2.2), s1.1.2.2), s1.2.1, s1.2.2.1, s1.2.2.2.1, (1 : Int32), s1.2.2.2.2.2), rfl, (Option.some.inj hR).symm, by rw [ht]; exact hP9, va_K.moved hW.alike hK, hD9⟩, hS9.F ht⟩) hS9.2.2 dX9_stamp_49
    · replace hR := ifp_ hR c4
      refine lv_iconst (v := (-1 : Int32)) hx hb dX9_stamp_15 (by decide) ?_
      subst hQe
      exact W.iret (v := (-1 : Int32)) hx hb hr (fun t ht hW => ⟨⟨(-1 : Int32), s1, rfl, (Option.some.inj hR).symm, by rw [ht]; exact hP3, va_K.moved hW.alike hK, hD3⟩, hS3.F ht⟩) hS3.2.2 dX9_stamp_16
def rr_X9_coin (fu : Nat) (x1 : Int32) (x2 : Int32) (x3 : Int32) (x4 : Int32) (s1 : ZT_9) : Option (Int32 × ZT_9) := (rr_X9_isHolder fu x1).bind (fun q1 => (if q1 = (0 : Int32) then some ((-1 : Int32), s1) else (rr_X9_isWithin fu x2 (1 : Int32) (99 : Int32)).bind (fun q3 => (if q3 = (0 : Int32) then some ((-1 : Int32), s1) else (rr_X9_isYear fu x3).bind (fun q5 => (if q5 = (0 : Int32) then some ((-1 : Int32), s1) else (rr_X9_isWithin fu x4 (0 : Int32) (3 : Int32)).bind (fun q7 => (if q7 = (0 : Int32) then some ((-1 : Int32), s1) else (if s1.1.2.1.1 < (40 : Int32) then (rr_X2_add fu 40 x1 x2 x3 x3 x4 s1.1.2.1).bind (fun q11 => some ((q11.1 - (1 : Int32)), ((s1.1.1, q11, s1.1.2.2), s1.2.1, s1.2.2.1, s1.2.2.2.1, (1 : Int32), s1.2.2.2.2.2))) else some ((-3 : Int32), s1))))))))))
set_option maxRecDepth 100000 in
theorem jo_9__0c2__0 (a1 : Nat → Nat) (k1 : Nat → ClassId) (s1 : ZT_9) (u1 : ZT_2) : List.Perm (zc_9 a1 k1 ((s1.1.1, u1, s1.1.2.2), s1.2)) ((zc_2 (sh_ (sh_ a1 1) 1) (sh_ (sh_ k1 1) 1) 40 u1) ++ ([(a1 0, .inr (9, [.ref (a1 1), .ref (a1 16), .int s1.2.2.1, .ref (a1 31), .int s1.2.2.2.2.1, .ref (a1 37), .ref (a1 43), .ref (a1 45), .ref (a1 47), .ref (a1 50), .ref (a1 54), .ref (a1 56), .ref (a1 62), .ref (a1 66)]))] ++ (([((sh_ a1 1) 0, .inr (8, [.int s1.1.1, .ref ((sh_ a1 1) 1), .ref ((sh_ a1 1) 7), .ref ((sh_ a1 1) 11)]))] ++ (([] : va_W) ++ (zc_0 (sh_ (sh_ a1 1) 7) (sh_ (sh_ k1 1) 7) 24 s1.1.2.2.1 ++ zc_0 (sh_ (sh_ a1 1) 11) (sh_ (sh_ k1 1) 11) 6 s1.1.2.2.2))) ++ (zc_8 (sh_ a1 16) (sh_ k1 16) s1.2.1 ++ (zc_4 (sh_ a1 31) (sh_ k1 31) s1.2.2.2.1 ++ (zc_4 (sh_ a1 37) (sh_ k1 37) s1.2.2.2.2.2.1 ++ (zc_1 (sh_ a1 43) (sh_ k1 43) s1.2.2.2.2.2.2.1 ++ (zc_1 (sh_ a1 45) (sh_ k1 45) s1.2.2.2.2.2.2.2.1 ++ (zc_7 (sh_ a1 47) (sh_ k1 47) s1.2.2.2.2.2.2.2.2.1 ++ (zc_3 (sh_ a1 50) (sh_ k1 50) s1.2.2.2.2.2.2.2.2.2.1 ++ (zc_6 (sh_ a1 54) (sh_ k1 54) s1.2.2.2.2.2.2.2.2.2.2.1 ++ (zc_2 (sh_ a1 56) (sh_ k1 56) 10 s1.2.2.2.2.2.2.2.2.2.2.2.1 ++ (zc_0 (sh_ a1 62) (sh_ k1 62) 24 s1.2.2.2.2.2.2.2.2.2.2.2.2.1 ++ zc_5 (sh_ a1 66) (sh_ k1 66) s1.2.2.2.2.2.2.2.2.2.2.2.2.2))))))))))))) := (pu_r ([(a1 0, .inr (9, [.ref (a1 1), .ref (a1 16), .int s1.2.2.1, .ref (a1 31), .int s1.2.2.2.2.1, .ref (a1 37), .ref (a1 43), .ref (a1 45), .ref (a1 47), .ref (a1 50), .ref (a1 54), .ref (a1 56), .ref (a1 62), .ref (a1 66)]))]) (pu_l ((zc_8 (sh_ a1 16) (sh_ k1 16) s1.2.1 ++ (zc_4 (sh_ a1 31) (sh_ k1 31) s1.2.2.2.1 ++ (zc_4 (sh_ a1 37) (sh_ k1 37) s1.2.2.2.2.2.1 ++ (zc_1 (sh_ a1 43) (sh_ k1 43) s1.2.2.2.2.2.2.1 ++ (zc_1 (sh_ a1 45) (sh_ k1 45) s1.2.2.2.2.2.2.2.1 ++ (zc_7 (sh_ a1 47) (sh_ k1 47) s1.2.2.2.2.2.2.2.2.1 ++ (zc_3 (sh_ a1 50) (sh_ k1 50) s1.2.2.2.2.2.2.2.2.2.1 ++ (zc_6 (sh_ a1 54) (sh_ k1 54) s1.2.2.2.2.2.2.2.2.2.2.1 ++ (zc_2 (sh_ a1 56) (sh_ k1 56) 10 s1.2.2.2.2.2.2.2.2.2.2.2.1 ++ (zc_0 (sh_ a1 62) (sh_ k1 62) 24 s1.2.2.2.2.2.2.2.2.2.2.2.2.1 ++ zc_5 (sh_ a1 66) (sh_ k1 66) s1.2.2.2.2.2.2.2.2.2.2.2.2.2))))))))))) (pu_r ([((sh_ a1 1) 0, .inr (8, [.int s1.1.1, .ref ((sh_ a1 1) 1), .ref ((sh_ a1 1) 7), .ref ((sh_ a1 1) 11)]))]) (pu_l ((zc_0 (sh_ (sh_ a1 1) 7) (sh_ (sh_ k1 1) 7) 24 s1.1.2.2.1 ++ zc_0 (sh_ (sh_ a1 1) 11) (sh_ (sh_ k1 1) 11) 6 s1.1.2.2.2)) (pu_1 (zc_2 (sh_ (sh_ a1 1) 1) (sh_ (sh_ k1 1) 1) 40 u1))))))
set_option maxHeartbeats 4000000 in
set_option maxRecDepth 100000 in
theorem cc_X9_coin (l : Launch) (dC : Nat → ClassId) (dI : Nat → Nat → Nat) (fu : Nat) (a1 : Nat → Nat) (k1 : Nat → ClassId) (sz : Nat) (x1 : Int32) (x2 : Int32) (x3 : Int32) (x4 : Int32) (s1 : ZT_9) (res : Int32 × ZT_9) (hR : rr_X9_coin fu x1 x2 x3 x4 s1 = some res) : Met l yX9_coin wsX9_coin ({ frames := 2, cells := 0, slots := 0, locals := 42 } : Room) (PcF [.ref (a1 0), .int x1, .int x2, .int x3, .int x4] sz (dC, dI) (zc_9 a1 k1 s1) (zt_9 k1)) (va_Qi (fun (r : Int32) (u : ZT_9) => res = (r, u)) (fun u t => at3_ (dC, dI) (zc_9 a1 k1 u) (zt_9 k1) (va_A (zc_9 a1 k1 s1) sz) t) (va_A (zc_9 a1 k1 s1) sz)) 0 0 (va_A (zc_9 a1 k1 s1) sz) := by
  refine Met.ofW (cc := cX9_coin) (maxL := 5) (ret := (some .int)) (by decide) rfl ?_
  intro p e s m args below meth c s₁ B hml hv
  obtain ⟨hav, hsz, hP, hK, hD0⟩ := hv
  have hx := B.exec
  have hb := B.bytes
  have hr := B.returns
  have hts := atoms_spec (ws := wsX9_coin) B.pre
  have hown : s.vm.findClass RX9 = some m.cls := findClass_of_methodNamed B.named
  have hlocks := B.notSynchronized
  have hin2 : ∀ w ∈ wsX20, w ∈ wsX9_coin := fun w h => List.mem_cons_of_mem _ (List.mem_append_right _ h)
  have hin8 : ∀ w ∈ wsX80, w ∈ wsX9_coin := fun w h => List.mem_cons_of_mem _ (List.mem_append_left _ (List.mem_append_right _ h))
  have hin9 : ∀ w ∈ wsX90, w ∈ wsX9_coin := fun w h => List.mem_cons_of_mem _ (List.mem_append_left _ (List.mem_append_left _ (List.mem_append_right _ h)))
  subst hsz
  have hD := hD0.self (sz := s.heap.size)
  clear hD0
  generalize hAe : va_A (zc_9 a1 k1 s1) s.heap.size = A at hD ⊢
  have hA : ∀ q : Nat, s.heap.size ≤ q → A q := fun q h => by rw [← hAe]; exact Or.inr h
  have hS : va_S A s.heap s.heap [] := va_S.rf
  generalize hQe : MQ below _ args s 0 0 A = Q
  rw [show entryFrame m args 5 = F0 m 0 ((lg_sl ([.ref (a1 0), .int x1, .int x2, .int x3, .int x4]) ++ List.replicate (5 - (lg_sl ([.ref (a1 0), .int x1, .int x2, .int x3, .int x4])).length) Slot.unset).toArray) [] from by rw [hav]; exact lg_entry_eq m _ _]
  have hl := lv_entry ([.ref (a1 0), .int x1, .int x2, .int x3, .int x4]) (n := 5) (Nat.le_of_ble_eq_true rfl)
  generalize (lg_sl ([.ref (a1 0), .int x1, .int x2, .int x3, .int x4]) ++ List.replicate (5 - (lg_sl ([.ref (a1 0), .int x1, .int x2, .int x3, .int x4])).length) Slot.unset).toArray = ls at hl ⊢
  have hl : lv_has ls 5 [(0, .ref (a1 0)), (1, .int x1), (2, .int x2), (3, .int x3), (4, .int x4)] := hl
  unfold rr_X9_coin at hR
  refine lv_iload_n hx hb dX9_coin_0 rfl (lv_at hl 1 rfl) ?_
  have hR0 := ob_ok hR
  clear hR
  obtain ⟨q1, hq1, hR⟩ := hR0
  refine va_calli (va_runS (As := [.int x1]) (rest := []) ⟨hx, hb, hml, hown, hts⟩ (cc_X9_isHolder l dC dI fu s.heap.size x1 q1 hq1) (va_cwS 1 hts gX9_coin_X9_isHolder rfl rfl rfl (by decide +kernel) ⟨Nat.le_of_ble_eq_true rfl, Nat.le_of_ble_eq_true rfl⟩) (pf_s (nil_K hK) nil_P (nil_D (A := A))) rfl rfl hl.1 rfl (lv_room (Nat.le_of_ble_eq_true rfl)) dX9_coin_1 ⟨Nat.le_refl _, Nat.le_refl _⟩) hS (fun q _ h => (fr_none hS hA) q h) (fr_none hS hA) (fun r1 v1 t1 H1 locs1 ht1 hvm1 hw1 hB1 hz1 hk1 hS1 => ?_)
  subst hw1
  have hP1 := jn_none hP hk1
  have hD1 := hD
  have hP1 : va_P (dC, dI) vwCl (zc_9 a1 k1 s1) H1 := hP1
  have hD1 : va_D A (zc_9 a1 k1 s1) := hD1
  clear hP hD hS hB1 hk1 hvm1 hz1 ht1
  refine lv_if_eq (tgt := 34) hx hb dX9_coin_4 (by decide) (fun c2 => ?_) (fun c2 => ?_)
  · replace hR := ifp_ hR c2
    refine lv_iconst (v := (-1 : Int32)) hx hb dX9_coin_34 (by decide) ?_
    subst hQe
    exact W.iret (v := (-1 : Int32)) hx hb hr (fun t ht hW => ⟨⟨(-1 : Int32), s1, rfl, (Option.some.inj hR).symm, by rw [ht]; exact hP1, va_K.moved hW.alike hK, hD1⟩, hS1.F ht⟩) hS1.2.2 dX9_coin_35
  · replace hR := ifn_ hR c2
    refine lv_iload_n hx hb dX9_coin_7 rfl (lv_at hl 2 rfl) ?_
    refine lv_iconst (v := (1 : Int32)) hx hb dX9_coin_8 (by decide) ?_
    refine lv_bipush (v := (99 : Int32)) hx hb dX9_coin_9 (by decide) ?_
    have hR0 := ob_ok hR
    clear hR
    obtain ⟨q3, hq3, hR⟩ := hR0
    refine va_calli (va_runS (As := [.int x2, .int (1 : Int32), .int (99 : Int32)]) (rest := []) ⟨hx, hb, hml, hown, hts⟩ (cc_X9_isWithin l dC dI fu H1.size x2 (1 : Int32) (99 : Int32) q3 hq3) (va_cwS 3 hts gX9_coin_X9_isWithin rfl rfl rfl (by decide +kernel) ⟨Nat.le_of_ble_eq_true rfl, Nat.le_of_ble_eq_true rfl⟩) (pf_s (nil_K hK) nil_P (nil_D (A := A))) rfl rfl hl.1 rfl (lv_room (Nat.le_of_ble_eq_true rfl)) dX9_coin_11 ⟨Nat.le_refl _, Nat.le_refl _⟩) hS1 (fun q _ h => (fr_none hS1 hA) q h) (fr_none hS1 hA) (fun r3 v3 t3 H3 locs3 ht3 hvm3 hw3 hB3 hz3 hk3 hS3 => ?_)
    subst hw3
    have hP3 := jn_none hP1 hk3
    have hD3 := hD1
    have hP3 : va_P (dC, dI) vwCl (zc_9 a1 k1 s1) H3 := hP3
    have hD3 : va_D A (zc_9 a1 k1 s1) := hD3
    clear hP1 hD1 hS1 hB3 hk3 hvm3 hz3 ht3
    refine lv_if_eq (tgt := 34) hx hb dX9_coin_14 (by decide) (fun c4 => ?_) (fun c4 => ?_)
    · replace hR := ifp_ hR c4
      refine lv_iconst (v := (-1 : Int32)) hx hb dX9_coin_34 (by decide) ?_
      subst hQe
      exact W.iret (v := (-1 : Int32)) hx hb hr (fun t ht hW => ⟨⟨(-1 : Int32), s1, rfl, (Option.some.inj hR).symm, by rw [ht]; exact hP3, va_K.moved hW.alike hK, hD3⟩, hS3.F ht⟩) hS3.2.2 dX9_coin_35
    · replace hR := ifn_ hR c4
      refine lv_iload_n hx hb dX9_coin_17 rfl (lv_at hl 3 rfl) ?_
      have hR0 := ob_ok hR
      clear hR
      obtain ⟨q5, hq5, hR⟩ := hR0
      refine va_calli (va_runS (As := [.int x3]) (rest := []) ⟨hx, hb, hml, hown, hts⟩ (cc_X9_isYear l dC dI fu H3.size x3 q5 hq5) (va_cwS 1 hts gX9_coin_X9_isYear rfl rfl rfl (by decide +kernel) ⟨Nat.le_of_ble_eq_true rfl, Nat.le_of_ble_eq_true rfl⟩) (pf_s (nil_K hK) nil_P (nil_D (A := A))) rfl rfl hl.1 rfl (lv_room (Nat.le_of_ble_eq_true rfl)) dX9_coin_18 ⟨Nat.le_refl _, Nat.le_refl _⟩) hS3 (fun q _ h => (fr_none hS3 hA) q h) (fr_none hS3 hA) (fun r5 v5 t5 H5 locs5 ht5 hvm5 hw5 hB5 hz5 hk5 hS5 => ?_)
      subst hw5
      have hP5 := jn_none hP3 hk5
      have hD5 := hD3
      have hP5 : va_P (dC, dI) vwCl (zc_9 a1 k1 s1) H5 := hP5
      have hD5 : va_D A (zc_9 a1 k1 s1) := hD5
      clear hP3 hD3 hS3 hB5 hk5 hvm5 hz5 ht5
      refine lv_if_eq (tgt := 34) hx hb dX9_coin_21 (by decide) (fun c6 => ?_) (fun c6 => ?_)
      · replace hR := ifp_ hR c6
        refine lv_iconst (v := (-1 : Int32)) hx hb dX9_coin_34 (by decide) ?_
        subst hQe
        exact W.iret (v := (-1 : Int32)) hx hb hr (fun t ht hW => ⟨⟨(-1 : Int32), s1, rfl, (Option.some.inj hR).symm, by rw [ht]; exact hP5, va_K.moved hW.alike hK, hD5⟩, hS5.F ht⟩) hS5.2.2 dX9_coin_35
      · replace hR := ifn_ hR c6
        refine lv_iload hx hb dX9_coin_24 (lv_at hl 4 rfl) ?_
        refine lv_iconst (v := (0 : Int32)) hx hb dX9_coin_26 (by decide) ?_
        refine lv_iconst (v := (3 : Int32)) hx hb dX9_coin_27 (by decide) ?_
        have hR0 := ob_ok hR
        clear hR
        obtain ⟨q7, hq7, hR⟩ := hR0
        refine va_calli (va_runS (As := [.int x4, .int (0 : Int32), .int (3 : Int32)]) (rest := []) ⟨hx, hb, hml, hown, hts⟩ (cc_X9_isWithin l dC dI fu H5.size x4 (0 : Int32) (3 : Int32) q7 hq7) (va_cwS 3 hts gX9_coin_X9_isWithin rfl rfl rfl (by decide +kernel) ⟨Nat.le_of_ble_eq_true rfl, Nat.le_of_ble_eq_true rfl⟩) (pf_s (nil_K hK) nil_P (nil_D (A := A))) rfl rfl hl.1 rfl (lv_room (Nat.le_of_ble_eq_true rfl)) dX9_coin_28 ⟨Nat.le_refl _, Nat.le_refl _⟩) hS5 (fun q _ h => (fr_none hS5 hA) q h) (fr_none hS5 hA) (fun r7 v7 t7 H7 locs7 ht7 hvm7 hw7 hB7 hz7 hk7 hS7 => ?_)
        subst hw7
        have hP7 := jn_none hP5 hk7
        have hD7 := hD5
        have hP7 : va_P (dC, dI) vwCl (zc_9 a1 k1 s1) H7 := hP7
        have hD7 : va_D A (zc_9 a1 k1 s1) := hD7
        clear hP5 hD5 hS5 hB7 hk7 hvm7 hz7 ht7
        refine lv_if_ne (tgt := 36) hx hb dX9_coin_31 (by decide) (fun c8 => ?_) (fun c8 => ?_)
        · replace hR := ifn_ hR c8
          refine lv_aload_n hx hb dX9_coin_36 rfl (lv_at hl 0 rfl) ?_
          refine va_get (D := (dC, dI)) (ci := 9) (v := .ref (a1 1)) (C := RX9) (T := TX9) (N := 14) hx hb hts hin9 hown hK hP7 0 rfl rfl 0 (by decide) (hts (.fieldLink RX9 10 "OldestCoins" "town" "LOldestCoins$Town;") (List.mem_of_getElem? (i := 1) rfl)) (fun _ h9 => h9) rfl dX9_coin_37 ?_
          refine va_get (D := (dC, dI)) (ci := 8) (v := .ref (a1 2)) (C := RX8) (T := TX8) (N := 4) hx hb hts hin8 hown hK hP7 1 rfl rfl 1 (by decide) (hts (.fieldLink RX9 98 "OldestCoins$Town" "coins" "LOldestCoins$Coins;") (List.mem_of_getElem? (i := 2) rfl)) (fun _ h9 => h9) rfl dX9_coin_40 ?_
          refine va_get (D := (dC, dI)) (ci := 2) (v := .int s1.1.2.1.1) (C := RX2) (T := TX2) (N := 6) hx hb hts hin2 hown hK hP7 2 rfl rfl 0 (by decide) (hts (.fieldLink RX9 101 "OldestCoins$Coins" "size" "I") (List.mem_of_getElem? (i := 3) rfl)) (fun _ h9 => h9) rfl dX9_coin_43 ?_
          refine lv_bipush (v := (40 : Int32)) hx hb dX9_coin_46 (by decide) ?_
          refine lv_icmp_lt (tgt := 54) hx hb dX9_coin_48 (by decide) (fun c9 => ?_) (fun c9 => ?_)
          · replace hR := ifp_ hR c9
            refine lv_aload_n hx hb dX9_coin_54 rfl (lv_at hl 0 rfl) ?_
            refine lv_iconst (v := (1 : Int32)) hx hb dX9_coin_55 (by decide) ?_
            refine va_put (D := (dC, dI)) (ci := 9) (v := .int (1 : Int32)) (ty := .boolean) (C := RX9) (T := TX9) (N := 14) hx hb hts hin9 tyX9 tyX9_ok nmX9 hown hK hP7 hD7 hS7 0 rfl rfl 4 (by decide) (hts (.fieldLink RX9 26 "OldestCoins" "ranksAreOld" "Z") (List.mem_of_getElem? (i := 4) rfl)) (fun _ h9 => h9) rfl (by decide +kernel) rfl rfl (Nat.le_of_ble_eq_true rfl) dX9_coin_56 (fun H10 locs10 hP10 hD10 hS10 => ?_)
            have hP10 : va_P (dC, dI) vwCl (zc_9 a1 k1 (s1.1, s1.2.1, s1.2.2.1, s1.2.2.2.1, (1 : Int32), s1.2.2.2.2.2)) H10 := hP10
            have hD10 : va_D A (zc_9 a1 k1 (s1.1, s1.2.1, s1.2.2.1, s1.2.2.2.1, (1 : Int32), s1.2.2.2.2.2)) := hD10
            clear hP7 hD7 hS7
            refine lv_aload_n hx hb dX9_coin_59 rfl (lv_at hl 0 rfl) ?_
            refine va_get (D := (dC, dI)) (ci := 9) (v := .ref (a1 1)) (C := RX9) (T := TX9) (N := 14) hx hb hts hin9 hown hK hP10 0 rfl rfl 0 (by decide) (hts (.fieldLink RX9 10 "OldestCoins" "town" "LOldestCoins$Town;") (List.mem_of_getElem? (i := 1) rfl)) (fun _ h9 => h9) rfl dX9_coin_60 ?_
            refine va_get (D := (dC, dI)) (ci := 8) (v := .ref (a1 2)) (C := RX8) (T := TX8) (N := 4) hx hb hts hin8 hown hK hP10 1 rfl rfl 1 (by decide) (hts (.fieldLink RX9 98 "OldestCoins$Town" "coins" "LOldestCoins$Coins;") (List.mem_of_getElem? (i := 2) rfl)) (fun _ h9 => h9) rfl dX9_coin_63 ?_
            refine lv_iload_n hx hb dX9_coin_66 rfl (lv_at hl 1 rfl) ?_
            refine lv_iload_n hx hb dX9_coin_67 rfl (lv_at hl 2 rfl) ?_
            refine lv_iload_n hx hb dX9_coin_68 rfl (lv_at hl 3 rfl) ?_
            refine lv_iload_n hx hb dX9_coin_69 rfl (lv_at hl 3 rfl) ?_
            refine lv_iload hx hb dX9_coin_70 (lv_at hl 4 rfl) ?_
            have hR0 := ob_ok hR
            clear hR
            obtain ⟨q11, hq11, hR⟩ := hR0
            refine va_callv (va_runV (As := [.int x1, .int x2, .int x3, .int x3, .int x4]) (rest := []) ⟨hx, hb, hml, hown, hts⟩ (cc_X2_add l dC dI fu (sh_ (sh_ a1 1) 1) (sh_ (sh_ k1 1) 1) 40 H10.size x1 x2 x3 x3 x4 s1.1.2.1 q11 hq11) (cwV 5 hts gX9_coin_X2_add rfl rfl rfl (by decide +kernel) ⟨Nat.le_of_ble_eq_true rfl, Nat.le_of_ble_eq_true rfl⟩) (pf_v (hK.sub (tys' := zt_2 (sh_ (sh_ k1 1) 1)) [0, 1, 2, 3, 4] rfl) (sub_P (sb_9__0c2 a1 k1 (s1.1, s1.2.1, s1.2.2.1, s1.2.2.2.1, (1 : Int32), s1.2.2.2.2.2)) hP10) (sub_D (sb_9__0c2 a1 k1 (s1.1, s1.2.1, s1.2.2.1, s1.2.2.2.1, (1 : Int32), s1.2.2.2.2.2)) hD10) 2 0 rfl rfl rfl) rfl rfl hl.1 rfl (lv_room (Nat.le_of_ble_eq_true rfl)) dX9_coin_72 ⟨Nat.le_refl _, Nat.le_refl _⟩) hS10 (fun q _ h => (sub_F (sb_9__0c2 a1 k1 (s1.1, s1.2.1, s1.2.2.1, s1.2.2.2.1, (1 : Int32), s1.2.2.2.2.2)) hD10 hS10 hA) q h) (sub_F (sb_9__0c2 a1 k1 (s1.1, s1.2.1, s1.2.2.1, s1.2.2.2.1, (1 : Int32), s1.2.2.2.2.2)) hD10 hS10 hA) (fun v11 t11 H11 locs11 ht11 hvm11 hw11 hB11 hz11 hk11 hS11 => ?_)
            subst hw11
            obtain ⟨hP11, hD11⟩ := jn_sub (sb_9__0c2 a1 k1 (s1.1, s1.2.1, s1.2.2.1, s1.2.2.2.1, (1 : Int32), s1.2.2.2.2.2)) (jo_9__0c2__0 a1 k1 (s1.1, s1.2.1, s1.2.2.1, s1.2.2.2.1, (1 : Int32), s1.2.2.2.2.2) q11) rfl hP10 hD10 hk11 ht11 hB11
            have hP11 : va_P (dC, dI) vwCl (zc_9 a1 k1 ((s1.1.1, q11, s1.1.2.2), s1.2.1, s1.2.2.1, s1.2.2.2.1, (1 : Int32), s1.2.2.2.2.2)) H11 := hP11
            have hD11 : va_D A (zc_9 a1 k1 ((s1.1.1, q11, s1.1.2.2), s1.2.1, s1.2.2.1, s1.2.2.2.1, (1 : Int32), s1.2.2.2.2.2)) := hD11
            clear hP10 hD10 hS10 hB11 hk11 hvm11 hz11 ht11
            refine lv_aload_n hx hb dX9_coin_75 rfl (lv_at hl 0 rfl) ?_
            refine va_get (D := (dC, dI)) (ci := 9) (v := .ref (a1 1)) (C := RX9) (T := TX9) (N := 14) hx hb hts hin9 hown hK hP11 0 rfl rfl 0 (by decide) (hts (.fieldLink RX9 10 "OldestCoins" "town" "LOldestCoins$Town;") (List.mem_of_getElem? (i := 1) rfl)) (fun _ h9 => h9) rfl dX9_coin_76 ?_
            refine va_get (D := (dC, dI)) (ci := 8) (v := .ref (a1 2)) (C := RX8) (T := TX8) (N := 4) hx hb hts hin8 hown hK hP11 1 rfl rfl 1 (by decide) (hts (.fieldLink RX9 98 "OldestCoins$Town" "coins" "LOldestCoins$Coins;") (List.mem_of_getElem? (i := 2) rfl)) (fun _ h9 => h9) rfl dX9_coin_79 ?_
            refine va_get (D := (dC, dI)) (ci := 2) (v := .int q11.1) (C := RX2) (T := TX2) (N := 6) hx hb hts hin2 hown hK hP11 2 rfl rfl 0 (by decide) (hts (.fieldLink RX9 101 "OldestCoins$Coins" "size" "I") (List.mem_of_getElem? (i := 3) rfl)) (fun _ h9 => h9) rfl dX9_coin_82 ?_
            refine lv_iconst (v := (1 : Int32)) hx hb dX9_coin_85 (by decide) ?_
            refine lv_isub hx hb dX9_coin_86 ?_
            subst hQe
            exact W.iret (v := (q11.1 - (1 : Int32))) hx hb hr (fun t ht hW => ⟨⟨(q11.1 - (1 : Int32)), ((s1.1.1, q11, s1.1.2.2), s1.2.1, s1.2.2.1, s1.2.2.2.1, (1 : Int32), s1.2.2.2.2.2), rfl, (Option.some.inj hR).symm, by rw [ht]; exact hP11, va_K.moved hW.alike hK, hD11⟩, hS11.F ht⟩) hS11.2.2 dX9_coin_87
          · replace hR := ifn_ hR c9
            refine lv_bipush (v := (-3 : Int32)) hx hb dX9_coin_51 (by decide) ?_
            subst hQe
            exact W.iret (v := (-3 : Int32)) hx hb hr (fun t ht hW => ⟨⟨(-3 : Int32), s1, rfl, (Option.some.inj hR).symm, by rw [ht]; exact hP7, va_K.moved hW.alike hK, hD7⟩, hS7.F ht⟩) hS7.2.2 dX9_coin_53
        · replace hR := ifp_ hR c8
          refine lv_iconst (v := (-1 : Int32)) hx hb dX9_coin_34 (by decide) ?_
          subst hQe
          exact W.iret (v := (-1 : Int32)) hx hb hr (fun t ht hW => ⟨⟨(-1 : Int32), s1, rfl, (Option.some.inj hR).symm, by rw [ht]; exact hP7, va_K.moved hW.alike hK, hD7⟩, hS7.F ht⟩) hS7.2.2 dX9_coin_35
