/-! the model: letters, the worst place -/
theorem upN_id {R : Nat → Nat} {i j : Nat} : upN (upN R i (R i)) j (R j) = R := by
  funext k
  unfold upN
  by_cases h : k = j
  · rw [if_pos h, h]
  · rw [if_neg h]
    by_cases h2 : k = i
    · rw [if_pos h2, h2]
    · rw [if_neg h2]
set_option maxHeartbeats 4000000 in
set_option maxRecDepth 100000 in
theorem c_M_letterO (l : Launch) (dC : Nat → ClassId) (dI : Nat → Nat → Nat) (cI : ClassId) (b : Nat → Nat) (pm : Int32) (r_s : Int32) (r_w : Int32) (st : Int32) (n : Nat) (w : Nat) (wk : Int32) (tr : Int32) (nd : Int32) (hd : Int32) (sd : Int32) (kt : Int32) (kw : Int32) (kh : Int32) (hz : Int64) (pg : Nat → Nat) (x : Int32) (hx1 : ¬ (1 ≤ x.toInt ∧ x.toInt ≤ 126)) : Met l yX10_letter wsX10_letter ({ frames := 1, cells := 0, slots := 0, locals := 25 } : Room) (roP dC dI cI ([moW b pm r_s r_w st n w wk tr nd hd sd kt kw kh hz] ++ [(b 1, .inl (cI, 32, .inl (fun i => nI (pg i))))]) [.ref (b 0), .int (x)]) (roI (fun r => r = -102)) 0 0 (fun _ => False) := by
  refine Met.ofW (cc := cX10_letter) (maxL := 2) (ret := (some .int)) (by decide) rfl ?_
  intro p e s m args below meth c s₁ B hml hv
  obtain ⟨rfl, hP, hK⟩ := hv
  have hx := B.exec
  have hb := B.bytes
  have hr := B.returns
  have hts := atoms_spec (ws := wsX10_letter) B.pre
  have hown : s.vm.findClass RX10 = some m.cls := findClass_of_methodNamed B.named
  have hlocks := B.notSynchronized
  have hS : va_S (fun _ => False) s.heap s.heap [] := va_S.rf
  have hl := lv_entry ([.ref (b 0), .int (x)]) (n := 2) (Nat.le_of_ble_eq_true rfl)
  rw [lg_entry_eq]
  generalize (lg_sl ([.ref (b 0), .int (x)]) ++ List.replicate (2 - (lg_sl ([.ref (b 0), .int (x)])).length) Slot.unset).toArray = ls at hl ⊢
  have hl : lv_has ls 2 [(0, .ref (b 0)), (1, .int (x))] := hl
  refine lv_iload_n hx hb dX10_letter_0 rfl (lv_at hl 1 rfl) ?_
  refine lv_i2l (v := (x).toInt64) hx hb dX10_letter_1 rfl ?_
  refine lv_lconst (v := (nI 1).toInt64) hx hb dX10_letter_2 (by decide) ?_
  refine lv_ldc2 (v := 126) hx hb hown (hts (Cond.constantLong RX10 47 (126)) (List.mem_of_getElem? (i := 1) rfl)) dX10_letter_3 ?_
  refine tp_l (z := (nI 126).toInt64) (by decide) ?_
  refine ro_calli (va_runS (As := [.long ((x).toInt64), .long ((nI 1).toInt64), .long ((nI 126).toInt64)]) (rest := []) ⟨hx, hb, hml, hown, hts⟩ (c_X10_in l dC dI cI (x) (nI 1) (nI 126)) (va_cwS 3 hts gX10_letter_X10_in rfl rfl rfl (by decide +kernel) ⟨Nat.le_of_ble_eq_true rfl, Nat.le_of_ble_eq_true rfl⟩) (ro_ps hK hP [] rfl) rfl rfl hl.1 rfl (lv_room (Nat.le_of_ble_eq_true rfl)) dX10_letter_6 ⟨Nat.zero_le _, Nat.zero_le _⟩) hS hP (fun r1 H locs hr1 hP hS => ?_)
  subst hr1
  have e2 : bI ((nI 1).toInt ≤ (x).toInt ∧ (x).toInt ≤ (nI 126).toInt) = bI ((1 : Int) ≤ (x).toInt ∧ (x).toInt ≤ (126 : Int)) := bI_i (by rw [nI_toInt (n := 1) (by decide), nI_toInt (n := 126) (by decide)] <;> omega)
  refine tp_i (z := bI ((1 : Int) ≤ (x).toInt ∧ (x).toInt ≤ (126 : Int))) e2 ?_
  refine lv_if_ne (tgt := 15) hx hb dX10_letter_9 (by decide) (fun c3 => absurd (Decidable.not_not.mp (mt bI_0.mpr c3)) hx1) (fun c3 => ?_)
  refine lv_bipush (v := -102) hx hb dX10_letter_12 (by decide) ?_
  exact W.iret hx hb hr (fun t ht hW => ⟨⟨_, (), rfl, rfl, trivial⟩, hS.F ht⟩) hS.2.2 dX10_letter_14

set_option maxHeartbeats 4000000 in
set_option maxRecDepth 100000 in
theorem c_M_letterF (l : Launch) (dC : Nat → ClassId) (dI : Nat → Nat → Nat) (cI : ClassId) (b : Nat → Nat) (len : Nat) (r_s : Int32) (r_w : Int32) (st : Int32) (n : Nat) (w : Nat) (wk : Int32) (tr : Int32) (nd : Int32) (hd : Int32) (sd : Int32) (kt : Int32) (kw : Int32) (kh : Int32) (hz : Int64) (pg : Nat → Nat) (hlen : len ≤ 32) (ch : Nat) (hc1 : 1 ≤ ch) (hc2 : ch ≤ 126) (hok : ¬ len < 32) : Met l yX10_letter wsX10_letter ({ frames := 1, cells := 0, slots := 0, locals := 25 } : Room) (roP dC dI cI ([moW b (nI len) r_s r_w st n w wk tr nd hd sd kt kw kh hz] ++ [(b 1, .inl (cI, 32, .inl (fun i => nI (pg i))))]) [.ref (b 0), .int (nI (ch))]) (roI (fun r => r = -104)) 0 0 (fun _ => False) := by
  refine Met.ofW (cc := cX10_letter) (maxL := 2) (ret := (some .int)) (by decide) rfl ?_
  intro p e s m args below meth c s₁ B hml hv
  obtain ⟨rfl, hP, hK⟩ := hv
  have hx := B.exec
  have hb := B.bytes
  have hr := B.returns
  have hts := atoms_spec (ws := wsX10_letter) B.pre
  have hown : s.vm.findClass RX10 = some m.cls := findClass_of_methodNamed B.named
  have hlocks := B.notSynchronized
  have hS : va_S (fun _ => False) s.heap s.heap [] := va_S.rf
  have hl := lv_entry ([.ref (b 0), .int (nI (ch))]) (n := 2) (Nat.le_of_ble_eq_true rfl)
  rw [lg_entry_eq]
  generalize (lg_sl ([.ref (b 0), .int (nI (ch))]) ++ List.replicate (2 - (lg_sl ([.ref (b 0), .int (nI (ch))])).length) Slot.unset).toArray = ls at hl ⊢
  have hl : lv_has ls 2 [(0, .ref (b 0)), (1, .int (nI (ch)))] := hl
  refine lv_iload_n hx hb dX10_letter_0 rfl (lv_at hl 1 rfl) ?_
  refine lv_i2l (v := (nI (ch)).toInt64) hx hb dX10_letter_1 rfl ?_
  refine lv_lconst (v := (nI 1).toInt64) hx hb dX10_letter_2 (by decide) ?_
  refine lv_ldc2 (v := 126) hx hb hown (hts (Cond.constantLong RX10 47 (126)) (List.mem_of_getElem? (i := 1) rfl)) dX10_letter_3 ?_
  refine tp_l (z := (nI 126).toInt64) (by decide) ?_
  refine ro_calli (va_runS (As := [.long ((nI (ch)).toInt64), .long ((nI 1).toInt64), .long ((nI 126).toInt64)]) (rest := []) ⟨hx, hb, hml, hown, hts⟩ (c_X10_in l dC dI cI (nI (ch)) (nI 1) (nI 126)) (va_cwS 3 hts gX10_letter_X10_in rfl rfl rfl (by decide +kernel) ⟨Nat.le_of_ble_eq_true rfl, Nat.le_of_ble_eq_true rfl⟩) (ro_ps hK hP [] rfl) rfl rfl hl.1 rfl (lv_room (Nat.le_of_ble_eq_true rfl)) dX10_letter_6 ⟨Nat.zero_le _, Nat.zero_le _⟩) hS hP (fun r1 H locs hr1 hP hS => ?_)
  subst hr1
  have e2 : bI ((nI 1).toInt ≤ (nI (ch)).toInt ∧ (nI (ch)).toInt ≤ (nI 126).toInt) = bI ((1 : Int) ≤ (ch : Int) ∧ (ch : Int) ≤ (126 : Int)) := bI_i (by rw [nI_toInt (n := ch) (by omega), nI_toInt (n := 1) (by decide), nI_toInt (n := 126) (by decide)] <;> omega)
  refine tp_i (z := bI ((1 : Int) ≤ (ch : Int) ∧ (ch : Int) ≤ (126 : Int))) e2 ?_
  refine lv_if_ne (tgt := 15) hx hb dX10_letter_9 (by decide) (fun c3 => ?_) (fun c3 => ?_)
  · have c3 := Decidable.not_not.mp (mt bI_0.mpr c3)
    refine lv_aload_n hx hb dX10_letter_15 rfl (lv_at hl 0 rfl) ?_
    refine va_get (D := (dC, dI)) (ci := 10) (v := .int (nI (len))) (C := RX10) (T := TX10) (N := 26) hx hb hts (fun _ h => List.mem_cons_of_mem _ (List.mem_append_right _ (h))) hown hK.1 hP 0 rfl rfl 1 (by decide) (hts (Cond.fieldLink RX10 53 "WorstVoiceModel" "pageMany" "I") (List.mem_of_getElem? (i := 2) rfl)) (fun _ h9 => h9) rfl dX10_letter_16 ?_
    refine lv_bipush (v := nI (32)) hx hb dX10_letter_19 (by decide) ?_
    refine lv_icmp_ne (tgt := 27) hx hb dX10_letter_21 (by decide) (fun c4 => ?_) (fun c4 => ?_)
    · have c4 := mt (nI_eq (by omega) (by decide)).mpr c4
      exfalso; omega
    have c4 := (nI_eq (by omega) (by decide)).mp c4
    refine lv_bipush (v := -104) hx hb dX10_letter_24 (by decide) ?_
    exact W.iret hx hb hr (fun t ht hW => ⟨⟨_, (), rfl, rfl, trivial⟩, hS.F ht⟩) hS.2.2 dX10_letter_26
  · have c3 := bI_0.mp c3
    exfalso; omega

set_option maxHeartbeats 4000000 in
set_option maxRecDepth 100000 in
theorem c_M_letter (l : Launch) (dC : Nat → ClassId) (dI : Nat → Nat → Nat) (cI : ClassId) (sz : Nat) (b : Nat → Nat) (len : Nat) (r_s : Int32) (r_w : Int32) (st : Int32) (n : Nat) (w : Nat) (wk : Int32) (tr : Int32) (nd : Int32) (hd : Int32) (sd : Int32) (kt : Int32) (kw : Int32) (kh : Int32) (hz : Int64) (pg : Nat → Nat) (hlen : len ≤ 32) (ch : Nat) (hc1 : 1 ≤ ch) (hc2 : ch ≤ 126) (hok : len < 32) : Met l yX10_letter wsX10_letter ({ frames := 1, cells := 0, slots := 0, locals := 25 } : Room) (muP dC dI cI ([moW b (nI len) r_s r_w st n w wk tr nd hd sd kt kw kh hz] ++ [(b 1, .inl (cI, 32, .inl (fun i => nI (pg i))))]) sz [.ref (b 0), .int (nI (ch))]) (muI dC dI ([moW b (nI len) r_s r_w st n w wk tr nd hd sd kt kw kh hz] ++ [(b 1, .inl (cI, 32, .inl (fun i => nI (pg i))))]) sz (fun (_ : Unit) => [moW b (nI (len + 1)) r_s r_w st n w wk tr nd hd sd kt kw kh hz] ++ [(b 1, .inl (cI, 32, .inl (fun i => nI ((upN pg len ch) i))))]) (fun r _ => r = nI (len + 1))) 0 0 (va_A ([moW b (nI len) r_s r_w st n w wk tr nd hd sd kt kw kh hz] ++ [(b 1, .inl (cI, 32, .inl (fun i => nI (pg i))))]) sz) := by
  refine Met.ofW (cc := cX10_letter) (maxL := 2) (ret := (some .int)) (by decide) rfl ?_
  intro p e s m args below meth c s₁ B hml hv
  obtain ⟨rfl, hsz, hP, hK, hD0⟩ := hv
  have hx := B.exec
  have hb := B.bytes
  have hr := B.returns
  have hts := atoms_spec (ws := wsX10_letter) B.pre
  have hown : s.vm.findClass RX10 = some m.cls := findClass_of_methodNamed B.named
  have hlocks := B.notSynchronized
  subst hsz
  unfold muI muB
  have hD := hD0.self (sz := s.heap.size)
  generalize hAe : va_A ([moW b (nI len) r_s r_w st n w wk tr nd hd sd kt kw kh hz] ++ [(b 1, .inl (cI, 32, .inl (fun i => nI (pg i))))]) s.heap.size = A at hD ⊢
  have hA : ∀ q : Nat, s.heap.size ≤ q → A q := fun q h => by rw [← hAe]; exact Or.inr h
  have hS : va_S A s.heap s.heap [] := va_S.rf
  have hl := lv_entry ([.ref (b 0), .int (nI (ch))]) (n := 2) (Nat.le_of_ble_eq_true rfl)
  rw [lg_entry_eq]
  generalize (lg_sl ([.ref (b 0), .int (nI (ch))]) ++ List.replicate (2 - (lg_sl ([.ref (b 0), .int (nI (ch))])).length) Slot.unset).toArray = ls at hl ⊢
  have hl : lv_has ls 2 [(0, .ref (b 0)), (1, .int (nI (ch)))] := hl
  refine lv_iload_n hx hb dX10_letter_0 rfl (lv_at hl 1 rfl) ?_
  refine lv_i2l (v := (nI (ch)).toInt64) hx hb dX10_letter_1 rfl ?_
  refine lv_lconst (v := (nI 1).toInt64) hx hb dX10_letter_2 (by decide) ?_
  refine lv_ldc2 (v := 126) hx hb hown (hts (Cond.constantLong RX10 47 (126)) (List.mem_of_getElem? (i := 1) rfl)) dX10_letter_3 ?_
  refine tp_l (z := (nI 126).toInt64) (by decide) ?_
  refine ro_calli (va_runS (As := [.long ((nI (ch)).toInt64), .long ((nI 1).toInt64), .long ((nI 126).toInt64)]) (rest := []) ⟨hx, hb, hml, hown, hts⟩ (c_X10_in l dC dI cI (nI (ch)) (nI 1) (nI 126)) (va_cwS 3 hts gX10_letter_X10_in rfl rfl rfl (by decide +kernel) ⟨Nat.le_of_ble_eq_true rfl, Nat.le_of_ble_eq_true rfl⟩) (ro_ps hK hP [] rfl) rfl rfl hl.1 rfl (lv_room (Nat.le_of_ble_eq_true rfl)) dX10_letter_6 ⟨Nat.zero_le _, Nat.zero_le _⟩) hS hP (fun r1 H locs hr1 hP hS => ?_)
  subst hr1
  have e2 : bI ((nI 1).toInt ≤ (nI (ch)).toInt ∧ (nI (ch)).toInt ≤ (nI 126).toInt) = bI ((1 : Int) ≤ (ch : Int) ∧ (ch : Int) ≤ (126 : Int)) := bI_i (by rw [nI_toInt (n := ch) (by omega), nI_toInt (n := 1) (by decide), nI_toInt (n := 126) (by decide)] <;> omega)
  refine tp_i (z := bI ((1 : Int) ≤ (ch : Int) ∧ (ch : Int) ≤ (126 : Int))) e2 ?_
  refine lv_if_ne (tgt := 15) hx hb dX10_letter_9 (by decide) (fun c3 => ?_) (fun c3 => ?_)
  · have c3 := Decidable.not_not.mp (mt bI_0.mpr c3)
    refine lv_aload_n hx hb dX10_letter_15 rfl (lv_at hl 0 rfl) ?_
    refine va_get (D := (dC, dI)) (ci := 10) (v := .int (nI (len))) (C := RX10) (T := TX10) (N := 26) hx hb hts (fun _ h => List.mem_cons_of_mem _ (List.mem_append_right _ (h))) hown hK.1 hP 0 rfl rfl 1 (by decide) (hts (Cond.fieldLink RX10 53 "WorstVoiceModel" "pageMany" "I") (List.mem_of_getElem? (i := 2) rfl)) (fun _ h9 => h9) rfl dX10_letter_16 ?_
    refine lv_bipush (v := nI (32)) hx hb dX10_letter_19 (by decide) ?_
    refine lv_icmp_ne (tgt := 27) hx hb dX10_letter_21 (by decide) (fun c4 => ?_) (fun c4 => ?_)
    · have c4 := mt (nI_eq (by omega) (by decide)).mpr c4
      refine lv_aload_n hx hb dX10_letter_27 rfl (lv_at hl 0 rfl) ?_
      refine va_get (D := (dC, dI)) (ci := 10) (v := .ref (b 1)) (C := RX10) (T := TX10) (N := 26) hx hb hts (fun _ h => List.mem_cons_of_mem _ (List.mem_append_right _ (h))) hown hK.1 hP 0 rfl rfl 0 (by decide) (hts (Cond.fieldLink RX10 7 "WorstVoiceModel" "page" "[I") (List.mem_of_getElem? (i := 3) rfl)) (fun _ h9 => h9) rfl dX10_letter_28 ?_
      refine lv_aload_n hx hb dX10_letter_31 rfl (lv_at hl 0 rfl) ?_
      refine va_get (D := (dC, dI)) (ci := 10) (v := .int (nI (len))) (C := RX10) (T := TX10) (N := 26) hx hb hts (fun _ h => List.mem_cons_of_mem _ (List.mem_append_right _ (h))) hown hK.1 hP 0 rfl rfl 1 (by decide) (hts (Cond.fieldLink RX10 53 "WorstVoiceModel" "pageMany" "I") (List.mem_of_getElem? (i := 2) rfl)) (fun _ h9 => h9) rfl dX10_letter_32 ?_
      refine lv_iload_n hx hb dX10_letter_35 rfl (lv_at hl 1 rfl) ?_
      refine va_iast hx hb hK.1 hP hD hS 1 0 rfl rfl (vp_in_nI (by omega) (by decide)) dX10_letter_36 (fun H locs hP hD hS => ?_)
      rw [nI_clamp (by omega), upd_nI] at hP hD
      have hP : va_P (dC, dI) vwCl [((b 0), .inr (10, [.ref (b 1), .int (nI (len)), .ref (b 2), .int (r_s), .ref (b 3), .int (r_w), .int (st), .int (nI (n)), .int (nI (w)), .int (wk), .int (tr), .ref (b 4), .ref (b 5), .int (nd), .ref (b 6), .ref (b 7), .int (hd), .ref (b 8), .int (sd), .ref (b 9), .int (kt), .int (kw), .int (kh), .ref (b 10), .ref (b 11), .long (hz)])), ((b 1), .inl (cI, 32, .inl (fun ii => nI ((upN pg (len) (ch)) ii))))] H := hP
      have hD : va_D A [((b 0), .inr (10, [.ref (b 1), .int (nI (len)), .ref (b 2), .int (r_s), .ref (b 3), .int (r_w), .int (st), .int (nI (n)), .int (nI (w)), .int (wk), .int (tr), .ref (b 4), .ref (b 5), .int (nd), .ref (b 6), .ref (b 7), .int (hd), .ref (b 8), .int (sd), .ref (b 9), .int (kt), .int (kw), .int (kh), .ref (b 10), .ref (b 11), .long (hz)])), ((b 1), .inl (cI, 32, .inl (fun ii => nI ((upN pg (len) (ch)) ii))))] := hD
      refine lv_aload_n hx hb dX10_letter_37 rfl (lv_at hl 0 rfl) ?_
      refine lv_dup hx hb dX10_letter_38 rfl ?_
      refine va_get (D := (dC, dI)) (ci := 10) (v := .int (nI (len))) (C := RX10) (T := TX10) (N := 26) hx hb hts (fun _ h => List.mem_cons_of_mem _ (List.mem_append_right _ (h))) hown hK.1 hP 0 rfl rfl 1 (by decide) (hts (Cond.fieldLink RX10 53 "WorstVoiceModel" "pageMany" "I") (List.mem_of_getElem? (i := 2) rfl)) (fun _ h9 => h9) rfl dX10_letter_39 ?_
      refine lv_iconst (v := nI (1)) hx hb dX10_letter_42 (by decide) ?_
      refine lv_iadd hx hb dX10_letter_43 ?_
      refine tp_i (z := nI (len + 1)) (nI_add (len) (1)) ?_
      refine va_put (D := (dC, dI)) (ci := 10) (v := .int (nI (len + 1))) (ty := .int) (C := RX10) (T := TX10) (N := 26) hx hb hts (fun _ h => List.mem_cons_of_mem _ (List.mem_append_right _ (h))) tyX10 tyX10_ok nmX10 hown hK.1 hP hD hS 0 rfl rfl 1 (by decide) (hts (Cond.fieldLink RX10 53 "WorstVoiceModel" "pageMany" "I") (List.mem_of_getElem? (i := 2) rfl)) (fun _ h9 => h9) rfl (by decide +kernel) rfl rfl (Nat.le_of_ble_eq_true rfl) dX10_letter_44 (fun H locs hP hD hS => ?_)
      have hP : va_P (dC, dI) vwCl [((b 0), .inr (10, [.ref (b 1), .int (nI (len + 1)), .ref (b 2), .int (r_s), .ref (b 3), .int (r_w), .int (st), .int (nI (n)), .int (nI (w)), .int (wk), .int (tr), .ref (b 4), .ref (b 5), .int (nd), .ref (b 6), .ref (b 7), .int (hd), .ref (b 8), .int (sd), .ref (b 9), .int (kt), .int (kw), .int (kh), .ref (b 10), .ref (b 11), .long (hz)])), ((b 1), .inl (cI, 32, .inl (fun ii => nI ((upN pg (len) (ch)) ii))))] H := hP
      have hD : va_D A [((b 0), .inr (10, [.ref (b 1), .int (nI (len + 1)), .ref (b 2), .int (r_s), .ref (b 3), .int (r_w), .int (st), .int (nI (n)), .int (nI (w)), .int (wk), .int (tr), .ref (b 4), .ref (b 5), .int (nd), .ref (b 6), .ref (b 7), .int (hd), .ref (b 8), .int (sd), .ref (b 9), .int (kt), .int (kw), .int (kh), .ref (b 10), .ref (b 11), .long (hz)])), ((b 1), .inl (cI, 32, .inl (fun ii => nI ((upN pg (len) (ch)) ii))))] := hD
      refine lv_aload_n hx hb dX10_letter_47 rfl (lv_at hl 0 rfl) ?_
      refine va_get (D := (dC, dI)) (ci := 10) (v := .int (nI (len + 1))) (C := RX10) (T := TX10) (N := 26) hx hb hts (fun _ h => List.mem_cons_of_mem _ (List.mem_append_right _ (h))) hown hK.1 hP 0 rfl rfl 1 (by decide) (hts (Cond.fieldLink RX10 53 "WorstVoiceModel" "pageMany" "I") (List.mem_of_getElem? (i := 2) rfl)) (fun _ h9 => h9) rfl dX10_letter_48 ?_
      exact W.iret hx hb hr (fun t ht hW => ⟨⟨_, (), rfl, rfl, by rw [ht]; exact hP, hD.as rfl⟩, hS.F ht⟩) hS.2.2 dX10_letter_51
    · have c4 := (nI_eq (by omega) (by decide)).mp c4
      exfalso; omega
  · have c3 := bI_0.mp c3
    exfalso; omega

set_option maxHeartbeats 4000000 in
set_option maxRecDepth 100000 in
theorem c_M_blank (l : Launch) (dC : Nat → ClassId) (dI : Nat → Nat → Nat) (cI : ClassId) (sz : Nat) (b : Nat → Nat) (len : Nat) (r_s : Int32) (r_w : Int32) (st : Int32) (n : Nat) (w : Nat) (wk : Int32) (tr : Int32) (nd : Int32) (hd : Int32) (sd : Int32) (kt : Int32) (kw : Int32) (kh : Int32) (hz : Int64) : Met l yX10_blank wsX10_blank ({ frames := 0, cells := 0, slots := 0, locals := 0 } : Room) (muP dC dI cI ([moW b (nI len) r_s r_w st n w wk tr nd hd sd kt kw kh hz]) sz [.ref (b 0)]) (muI dC dI ([moW b (nI len) r_s r_w st n w wk tr nd hd sd kt kw kh hz]) sz (fun (_ : Unit) => [moW b (nI 0) r_s r_w st n w wk tr nd hd sd kt kw kh hz]) (fun r _ => r = nI len)) 0 0 (va_A ([moW b (nI len) r_s r_w st n w wk tr nd hd sd kt kw kh hz]) sz) := by
  refine Met.ofW (cc := cX10_blank) (maxL := 2) (ret := (some .int)) (by decide) rfl ?_
  intro p e s m args below meth c s₁ B hml hv
  obtain ⟨rfl, hsz, hP, hK, hD0⟩ := hv
  have hx := B.exec
  have hb := B.bytes
  have hr := B.returns
  have hts := atoms_spec (ws := wsX10_blank) B.pre
  have hown : s.vm.findClass RX10 = some m.cls := findClass_of_methodNamed B.named
  have hlocks := B.notSynchronized
  subst hsz
  unfold muI muB
  have hD := hD0.self (sz := s.heap.size)
  generalize hAe : va_A ([moW b (nI len) r_s r_w st n w wk tr nd hd sd kt kw kh hz]) s.heap.size = A at hD ⊢
  have hA : ∀ q : Nat, s.heap.size ≤ q → A q := fun q h => by rw [← hAe]; exact Or.inr h
  have hS : va_S A s.heap s.heap [] := va_S.rf
  have hl := lv_entry ([.ref (b 0)]) (n := 2) (Nat.le_of_ble_eq_true rfl)
  rw [lg_entry_eq]
  generalize (lg_sl ([.ref (b 0)]) ++ List.replicate (2 - (lg_sl ([.ref (b 0)])).length) Slot.unset).toArray = ls at hl ⊢
  have hl : lv_has ls 2 [(0, .ref (b 0))] := hl
  refine lv_aload_n hx hb dX10_blank_0 rfl (lv_at hl 0 rfl) ?_
  refine va_get (D := (dC, dI)) (ci := 10) (v := .int (nI (len))) (C := RX10) (T := TX10) (N := 26) hx hb hts (fun _ h => List.mem_cons_of_mem _ (List.mem_append_right _ (h))) hown hK.1 hP 0 rfl rfl 1 (by decide) (hts (Cond.fieldLink RX10 53 "WorstVoiceModel" "pageMany" "I") (List.mem_of_getElem? (i := 1) rfl)) (fun _ h9 => h9) rfl dX10_blank_1 ?_
  refine lv_istore_n (lv' := [(1, .int (nI (len))), (0, .ref (b 0))]) hx hb dX10_blank_4 rfl hl (by decide) rfl (fun ls hl => ?_)
  refine lv_aload_n hx hb dX10_blank_5 rfl (lv_at hl 1 rfl) ?_
  refine lv_iconst (v := nI (0)) hx hb dX10_blank_6 (by decide) ?_
  refine va_put (D := (dC, dI)) (ci := 10) (v := .int (nI (0))) (ty := .int) (C := RX10) (T := TX10) (N := 26) hx hb hts (fun _ h => List.mem_cons_of_mem _ (List.mem_append_right _ (h))) tyX10 tyX10_ok nmX10 hown hK.1 hP hD hS 0 rfl rfl 1 (by decide) (hts (Cond.fieldLink RX10 53 "WorstVoiceModel" "pageMany" "I") (List.mem_of_getElem? (i := 1) rfl)) (fun _ h9 => h9) rfl (by decide +kernel) rfl rfl (Nat.le_of_ble_eq_true rfl) dX10_blank_7 (fun H locs hP hD hS => ?_)
  have hP : va_P (dC, dI) vwCl [((b 0), .inr (10, [.ref (b 1), .int (nI (0)), .ref (b 2), .int (r_s), .ref (b 3), .int (r_w), .int (st), .int (nI (n)), .int (nI (w)), .int (wk), .int (tr), .ref (b 4), .ref (b 5), .int (nd), .ref (b 6), .ref (b 7), .int (hd), .ref (b 8), .int (sd), .ref (b 9), .int (kt), .int (kw), .int (kh), .ref (b 10), .ref (b 11), .long (hz)]))] H := hP
  have hD : va_D A [((b 0), .inr (10, [.ref (b 1), .int (nI (0)), .ref (b 2), .int (r_s), .ref (b 3), .int (r_w), .int (st), .int (nI (n)), .int (nI (w)), .int (wk), .int (tr), .ref (b 4), .ref (b 5), .int (nd), .ref (b 6), .ref (b 7), .int (hd), .ref (b 8), .int (sd), .ref (b 9), .int (kt), .int (kw), .int (kh), .ref (b 10), .ref (b 11), .long (hz)]))] := hD
  refine lv_iload_n hx hb dX10_blank_10 rfl (lv_at hl 0 rfl) ?_
  exact W.iret hx hb hr (fun t ht hW => ⟨⟨_, (), rfl, rfl, by rw [ht]; exact hP, hD.as rfl⟩, hS.F ht⟩) hS.2.2 dX10_blank_11

set_option maxHeartbeats 4000000 in
set_option maxRecDepth 100000 in
theorem c_M_worstOf (l : Launch) (dC : Nat → ClassId) (dI : Nat → Nat → Nat) (cI : ClassId) (sz : Nat) (b : Nat → Nat) (pm r_s r_w st : Int32) (n w : Nat) (wk tr nd hd sd kt kw kh : Int32) (hz : Int64) (R mi : Nat → Nat) (mm : Nat → Int32) (hm : ∀ k, k < w → mm k = nI (mi k)) (hm4 : ∀ k, k < w → mi k < 4) (hR : WR R) (hn : n ≤ 4) (hn1 : 1 ≤ n) (hw : w ≤ 5) (s_ k_ : Nat) (hs : s_ < n) (hk_ : k_ < 10) : Met l yX10_worstOf wsX10_worstOf ({ frames := 3, cells := 0, slots := 0, locals := 70 } : Room) (muP dC dI cI ([moW b pm r_s r_w st n w wk tr nd hd sd kt kw kh hz] ++ [(b 4, .inl (cI, 32, .inl (fun i => nI (R i))))] ++ [(b 5, .inl (cI, 5, .inl mm))]) sz [.ref (b 0), .int (nI (s_)), .int (nI (k_))]) (muI dC dI ([moW b pm r_s r_w st n w wk tr nd hd sd kt kw kh hz] ++ [(b 4, .inl (cI, 32, .inl (fun i => nI (R i))))] ++ [(b 5, .inl (cI, 5, .inl mm))]) sz (fun (_ : Unit) => [moW b pm r_s r_w st n w wk tr nd hd sd kt kw kh hz] ++ [(b 4, .inl (cI, 32, .inl (fun i => nI (R i))))] ++ [(b 5, .inl (cI, 5, .inl mm))]) (fun r _ => r = (if k_ = 5 then nI (am (wv R mi n w s_) 4) else nI (wv R mi n w s_ (am (wv R mi n w s_) 4))))) 0 0 (va_A ([moW b pm r_s r_w st n w wk tr nd hd sd kt kw kh hz] ++ [(b 4, .inl (cI, 32, .inl (fun i => nI (R i))))] ++ [(b 5, .inl (cI, 5, .inl mm))]) sz) := by
  refine Met.ofW (cc := cX10_worstOf) (maxL := 9) (ret := (some .int)) (by decide) rfl ?_
  intro p e s m args below meth c s₁ B hml hv
  obtain ⟨rfl, hsz, hP, hK, hD0⟩ := hv
  have hx := B.exec
  have hb := B.bytes
  have hr := B.returns
  have hts := atoms_spec (ws := wsX10_worstOf) B.pre
  have hown : s.vm.findClass RX10 = some m.cls := findClass_of_methodNamed B.named
  have hlocks := B.notSynchronized
  subst hsz
  unfold muI muB
  have hD := hD0.self (sz := s.heap.size)
  generalize hAe : va_A ([moW b pm r_s r_w st n w wk tr nd hd sd kt kw kh hz] ++ [(b 4, .inl (cI, 32, .inl (fun i => nI (R i))))] ++ [(b 5, .inl (cI, 5, .inl mm))]) s.heap.size = A at hD ⊢
  have hA : ∀ q : Nat, s.heap.size ≤ q → A q := fun q h => by rw [← hAe]; exact Or.inr h
  have hS : va_S A s.heap s.heap [] := va_S.rf
  have hl := lv_entry ([.ref (b 0), .int (nI (s_)), .int (nI (k_))]) (n := 9) (Nat.le_of_ble_eq_true rfl)
  rw [lg_entry_eq]
  generalize (lg_sl ([.ref (b 0), .int (nI (s_)), .int (nI (k_))]) ++ List.replicate (9 - (lg_sl ([.ref (b 0), .int (nI (s_)), .int (nI (k_))])).length) Slot.unset).toArray = ls at hl ⊢
  have hl : lv_has ls 9 [(0, .ref (b 0)), (1, .int (nI (s_))), (2, .int (nI (k_)))] := hl
  refine W_abs (fun G hG => ?_)
  have L35 : ∀ (fu : Nat) (i : Nat) (R3 : Nat → Nat), i ≤ 4 → WR R3 → (∀ x y, upN (upN R3 (8 * s_ + 5) x) (8 * s_ + 6) y = upN (upN R (8 * s_ + 5) x) (8 * s_ + 6) y) → 4 + 1 ≤ i + fu → ∀ (H : Heap) (locs : List Loc), va_P (dC, dI) vwCl [((b 0), .inr (10, [.ref (b 1), .int (pm), .ref (b 2), .int (r_s), .ref (b 3), .int (r_w), .int (st), .int (nI (n)), .int (nI (w)), .int (wk), .int (tr), .ref (b 4), .ref (b 5), .int (nd), .ref (b 6), .ref (b 7), .int (hd), .ref (b 8), .int (sd), .ref (b 9), .int (kt), .int (kw), .int (kh), .ref (b 10), .ref (b 11), .long (hz)])), ((b 4), .inl (cI, 32, .inl (fun ii => nI (R3 ii)))), ((b 5), .inl (cI, 5, .inl mm))] H → va_D A [((b 0), .inr (10, [.ref (b 1), .int (pm), .ref (b 2), .int (r_s), .ref (b 3), .int (r_w), .int (st), .int (nI (n)), .int (nI (w)), .int (wk), .int (tr), .ref (b 4), .ref (b 5), .int (nd), .ref (b 6), .ref (b 7), .int (hd), .ref (b 8), .int (sd), .ref (b 9), .int (kt), .int (kw), .int (kh), .ref (b 10), .ref (b 11), .long (hz)])), ((b 4), .inl (cI, 32, .inl (fun ii => nI (R3 ii)))), ((b 5), .inl (cI, 5, .inl mm))] → va_S A s.heap H locs → ∀ (ls : Array Slot), lv_has ls 9 [(0, .ref (b 0)), (1, .int (nI (s_))), (2, .int (nI (k_))), (3, .int (nI (R (8 * s_ + 5)))), (4, .int (nI (R (8 * s_ + 6)))), (5, .int (mI (wv R mi n w s_) i)), (6, .int (oI (mc (wv R mi n w s_) i))), (7, .int (nI (i)))] → G H locs (F0 m 35 ls []) := by
    intro fu
    induction fu with
    | zero => intro i R3 h2 hR3 hu hfu H locs hP hD hS ls hl; omega
    | succ fu ih35 =>
      intro i R3 h2 hR3 hu hfu H locs hP hD hS ls hl
      have hmc := oI_toInt (k := mc (wv R mi n w s_) i) (by unfold mc; have := wv_le R mi n w s_ (am (wv R mi n w s_) i); split <;> omega)
      refine (hG _ _ _).mpr ?_
      refine lv_iload hx hb dX10_worstOf_35 (lv_at hl 7 rfl) ?_
      refine lv_iconst (v := nI (4)) hx hb dX10_worstOf_37 (by decide) ?_
      refine lv_icmp_ge (tgt := 117) hx hb dX10_worstOf_38 (by decide) (fun c1 => ?_) (fun c1 => ?_)
      · have c1 := (nI_leI (by decide) (by omega)).mp c1
        refine lv_aload_n hx hb dX10_worstOf_117 rfl (lv_at hl 0 rfl) ?_
        refine va_get (D := (dC, dI)) (ci := 10) (v := .ref (b 4)) (C := RX10) (T := TX10) (N := 26) hx hb hts (fun _ h => List.mem_cons_of_mem _ (List.mem_append_right _ (h))) hown hK.1 hP 0 rfl rfl 11 (by decide) (hts (Cond.fieldLink RX10 19 "WorstVoiceModel" "rows" "[I") (List.mem_of_getElem? (i := 1) rfl)) (fun _ h9 => h9) rfl dX10_worstOf_118 ?_
        refine lv_bipush (v := nI (8)) hx hb dX10_worstOf_121 (by decide) ?_
        refine lv_iload_n hx hb dX10_worstOf_123 rfl (lv_at hl 1 rfl) ?_
        refine lv_imul hx hb dX10_worstOf_124 ?_
        refine tp_i (z := nI (8 * s_)) (pk_mul (8) (s_)) ?_
        refine lv_iconst (v := nI (5)) hx hb dX10_worstOf_125 (by decide) ?_
        refine lv_iadd hx hb dX10_worstOf_126 ?_
        refine tp_i (z := nI (8 * s_ + 5)) (nI_add (8 * s_) (5)) ?_
        refine lv_iload_n hx hb dX10_worstOf_127 rfl (lv_at hl 3 rfl) ?_
        refine va_iast hx hb hK.1 hP hD hS 1 0 rfl rfl (vp_in_nI (by omega) (by decide)) dX10_worstOf_128 (fun H locs hP hD hS => ?_)
        rw [nI_clamp (by omega), upd_nI] at hP hD
        have hP : va_P (dC, dI) vwCl [((b 0), .inr (10, [.ref (b 1), .int (pm), .ref (b 2), .int (r_s), .ref (b 3), .int (r_w), .int (st), .int (nI (n)), .int (nI (w)), .int (wk), .int (tr), .ref (b 4), .ref (b 5), .int (nd), .ref (b 6), .ref (b 7), .int (hd), .ref (b 8), .int (sd), .ref (b 9), .int (kt), .int (kw), .int (kh), .ref (b 10), .ref (b 11), .long (hz)])), ((b 4), .inl (cI, 32, .inl (fun ii => nI ((upN R3 (8 * s_ + 5) (R (8 * s_ + 5))) ii)))), ((b 5), .inl (cI, 5, .inl mm))] H := hP
        have hD : va_D A [((b 0), .inr (10, [.ref (b 1), .int (pm), .ref (b 2), .int (r_s), .ref (b 3), .int (r_w), .int (st), .int (nI (n)), .int (nI (w)), .int (wk), .int (tr), .ref (b 4), .ref (b 5), .int (nd), .ref (b 6), .ref (b 7), .int (hd), .ref (b 8), .int (sd), .ref (b 9), .int (kt), .int (kw), .int (kh), .ref (b 10), .ref (b 11), .long (hz)])), ((b 4), .inl (cI, 32, .inl (fun ii => nI ((upN R3 (8 * s_ + 5) (R (8 * s_ + 5))) ii)))), ((b 5), .inl (cI, 5, .inl mm))] := hD
        refine lv_aload_n hx hb dX10_worstOf_129 rfl (lv_at hl 0 rfl) ?_
        refine va_get (D := (dC, dI)) (ci := 10) (v := .ref (b 4)) (C := RX10) (T := TX10) (N := 26) hx hb hts (fun _ h => List.mem_cons_of_mem _ (List.mem_append_right _ (h))) hown hK.1 hP 0 rfl rfl 11 (by decide) (hts (Cond.fieldLink RX10 19 "WorstVoiceModel" "rows" "[I") (List.mem_of_getElem? (i := 1) rfl)) (fun _ h9 => h9) rfl dX10_worstOf_130 ?_
        refine lv_bipush (v := nI (8)) hx hb dX10_worstOf_133 (by decide) ?_
        refine lv_iload_n hx hb dX10_worstOf_135 rfl (lv_at hl 1 rfl) ?_
        refine lv_imul hx hb dX10_worstOf_136 ?_
        refine tp_i (z := nI (8 * s_)) (pk_mul (8) (s_)) ?_
        refine lv_bipush (v := nI (6)) hx hb dX10_worstOf_137 (by decide) ?_
        refine lv_iadd hx hb dX10_worstOf_139 ?_
        refine tp_i (z := nI (8 * s_ + 6)) (nI_add (8 * s_) (6)) ?_
        refine lv_iload hx hb dX10_worstOf_140 (lv_at hl 4 rfl) ?_
        refine va_iast hx hb hK.1 hP hD hS 1 0 rfl rfl (vp_in_nI (by omega) (by decide)) dX10_worstOf_142 (fun H locs hP hD hS => ?_)
        rw [nI_clamp (by omega), upd_nI] at hP hD
        have hP : va_P (dC, dI) vwCl [((b 0), .inr (10, [.ref (b 1), .int (pm), .ref (b 2), .int (r_s), .ref (b 3), .int (r_w), .int (st), .int (nI (n)), .int (nI (w)), .int (wk), .int (tr), .ref (b 4), .ref (b 5), .int (nd), .ref (b 6), .ref (b 7), .int (hd), .ref (b 8), .int (sd), .ref (b 9), .int (kt), .int (kw), .int (kh), .ref (b 10), .ref (b 11), .long (hz)])), ((b 4), .inl (cI, 32, .inl (fun ii => nI ((upN (upN R3 (8 * s_ + 5) (R (8 * s_ + 5))) (8 * s_ + 6) (R (8 * s_ + 6))) ii)))), ((b 5), .inl (cI, 5, .inl mm))] H := hP
        have hD : va_D A [((b 0), .inr (10, [.ref (b 1), .int (pm), .ref (b 2), .int (r_s), .ref (b 3), .int (r_w), .int (st), .int (nI (n)), .int (nI (w)), .int (wk), .int (tr), .ref (b 4), .ref (b 5), .int (nd), .ref (b 6), .ref (b 7), .int (hd), .ref (b 8), .int (sd), .ref (b 9), .int (kt), .int (kw), .int (kh), .ref (b 10), .ref (b 11), .long (hz)])), ((b 4), .inl (cI, 32, .inl (fun ii => nI ((upN (upN R3 (8 * s_ + 5) (R (8 * s_ + 5))) (8 * s_ + 6) (R (8 * s_ + 6))) ii)))), ((b 5), .inl (cI, 5, .inl mm))] := hD
        refine lv_iload_n hx hb dX10_worstOf_143 rfl (lv_at hl 2 rfl) ?_
        refine lv_iconst (v := nI (5)) hx hb dX10_worstOf_144 (by decide) ?_
        refine lv_icmp_ne (tgt := 153) hx hb dX10_worstOf_145 (by decide) (fun c2 => ?_) (fun c2 => ?_)
        · have c2 := mt (nI_eq (by omega) (by decide)).mpr c2
          refine lv_iload hx hb dX10_worstOf_153 (lv_at hl 6 rfl) ?_
          rw [show upN (upN R3 (8 * s_ + 5) (R (8 * s_ + 5))) (8 * s_ + 6) (R (8 * s_ + 6)) = R by rw [hu]; exact upN_id] at hP hD
          have hP9 := hP
          exact W.iret hx hb hr (fun t ht hW => ⟨⟨_, (), rfl, (by rw [if_neg (by assumption), show i = 4 by omega]; rfl), by rw [ht]; exact hP9, hD.as rfl⟩, hS.F ht⟩) hS.2.2 dX10_worstOf_155
        · have c2 := (nI_eq (by omega) (by decide)).mp c2
          refine lv_iload hx hb dX10_worstOf_148 (lv_at hl 5 rfl) ?_
          refine lv_goto (tgt := 155) hx hb dX10_worstOf_150 (by decide) ?_
          rw [show upN (upN R3 (8 * s_ + 5) (R (8 * s_ + 5))) (8 * s_ + 6) (R (8 * s_ + 6)) = R by rw [hu]; exact upN_id] at hP hD
          have hP9 := hP
          exact W.iret hx hb hr (fun t ht hW => ⟨⟨_, (), rfl, (by rw [if_pos (by assumption), show i = 4 by omega]; rfl), by rw [ht]; exact hP9, hD.as rfl⟩, hS.F ht⟩) hS.2.2 dX10_worstOf_155
      · have c1 := mt (nI_leI (by decide) (by omega)).mpr c1
        refine lv_aload_n hx hb dX10_worstOf_41 rfl (lv_at hl 0 rfl) ?_
        refine va_get (D := (dC, dI)) (ci := 10) (v := .ref (b 4)) (C := RX10) (T := TX10) (N := 26) hx hb hts (fun _ h => List.mem_cons_of_mem _ (List.mem_append_right _ (h))) hown hK.1 hP 0 rfl rfl 11 (by decide) (hts (Cond.fieldLink RX10 19 "WorstVoiceModel" "rows" "[I") (List.mem_of_getElem? (i := 1) rfl)) (fun _ h9 => h9) rfl dX10_worstOf_42 ?_
        refine lv_bipush (v := nI (8)) hx hb dX10_worstOf_45 (by decide) ?_
        refine lv_iload_n hx hb dX10_worstOf_47 rfl (lv_at hl 1 rfl) ?_
        refine lv_imul hx hb dX10_worstOf_48 ?_
        refine tp_i (z := nI (8 * s_)) (pk_mul (8) (s_)) ?_
        refine lv_iconst (v := nI (5)) hx hb dX10_worstOf_49 (by decide) ?_
        refine lv_iadd hx hb dX10_worstOf_50 ?_
        refine tp_i (z := nI (8 * s_ + 5)) (nI_add (8 * s_) (5)) ?_
        refine lv_iload hx hb dX10_worstOf_51 (lv_at hl 7 rfl) ?_
        refine lv_iconst (v := nI (2)) hx hb dX10_worstOf_53 (by decide) ?_
        refine lv_idiv hx hb dX10_worstOf_54 (by decide) ?_
        refine tp_i (z := nI (i / 2)) (pk_div (by omega) (by decide) (by decide)) ?_
        refine va_iast hx hb hK.1 hP hD hS 1 0 rfl rfl (vp_in_nI (by omega) (by decide)) dX10_worstOf_55 (fun H locs hP hD hS => ?_)
        rw [nI_clamp (by omega), upd_nI] at hP hD
        have hP : va_P (dC, dI) vwCl [((b 0), .inr (10, [.ref (b 1), .int (pm), .ref (b 2), .int (r_s), .ref (b 3), .int (r_w), .int (st), .int (nI (n)), .int (nI (w)), .int (wk), .int (tr), .ref (b 4), .ref (b 5), .int (nd), .ref (b 6), .ref (b 7), .int (hd), .ref (b 8), .int (sd), .ref (b 9), .int (kt), .int (kw), .int (kh), .ref (b 10), .ref (b 11), .long (hz)])), ((b 4), .inl (cI, 32, .inl (fun ii => nI ((upN R3 (8 * s_ + 5) (i / 2)) ii)))), ((b 5), .inl (cI, 5, .inl mm))] H := hP
        have hD : va_D A [((b 0), .inr (10, [.ref (b 1), .int (pm), .ref (b 2), .int (r_s), .ref (b 3), .int (r_w), .int (st), .int (nI (n)), .int (nI (w)), .int (wk), .int (tr), .ref (b 4), .ref (b 5), .int (nd), .ref (b 6), .ref (b 7), .int (hd), .ref (b 8), .int (sd), .ref (b 9), .int (kt), .int (kw), .int (kh), .ref (b 10), .ref (b 11), .long (hz)])), ((b 4), .inl (cI, 32, .inl (fun ii => nI ((upN R3 (8 * s_ + 5) (i / 2)) ii)))), ((b 5), .inl (cI, 5, .inl mm))] := hD
        refine lv_aload_n hx hb dX10_worstOf_56 rfl (lv_at hl 0 rfl) ?_
        refine va_get (D := (dC, dI)) (ci := 10) (v := .ref (b 4)) (C := RX10) (T := TX10) (N := 26) hx hb hts (fun _ h => List.mem_cons_of_mem _ (List.mem_append_right _ (h))) hown hK.1 hP 0 rfl rfl 11 (by decide) (hts (Cond.fieldLink RX10 19 "WorstVoiceModel" "rows" "[I") (List.mem_of_getElem? (i := 1) rfl)) (fun _ h9 => h9) rfl dX10_worstOf_57 ?_
        refine lv_bipush (v := nI (8)) hx hb dX10_worstOf_60 (by decide) ?_
        refine lv_iload_n hx hb dX10_worstOf_62 rfl (lv_at hl 1 rfl) ?_
        refine lv_imul hx hb dX10_worstOf_63 ?_
        refine tp_i (z := nI (8 * s_)) (pk_mul (8) (s_)) ?_
        refine lv_bipush (v := nI (6)) hx hb dX10_worstOf_64 (by decide) ?_
        refine lv_iadd hx hb dX10_worstOf_66 ?_
        refine tp_i (z := nI (8 * s_ + 6)) (nI_add (8 * s_) (6)) ?_
        refine lv_iload hx hb dX10_worstOf_67 (lv_at hl 7 rfl) ?_
        refine lv_iconst (v := nI (2)) hx hb dX10_worstOf_69 (by decide) ?_
        refine lv_irem hx hb dX10_worstOf_70 (by decide) ?_
        refine tp_i (z := nI (i % 2)) (pk_rem (by omega) (by decide) (by decide)) ?_
        refine va_iast hx hb hK.1 hP hD hS 1 0 rfl rfl (vp_in_nI (by omega) (by decide)) dX10_worstOf_71 (fun H locs hP hD hS => ?_)
        rw [nI_clamp (by omega), upd_nI] at hP hD
        have hP : va_P (dC, dI) vwCl [((b 0), .inr (10, [.ref (b 1), .int (pm), .ref (b 2), .int (r_s), .ref (b 3), .int (r_w), .int (st), .int (nI (n)), .int (nI (w)), .int (wk), .int (tr), .ref (b 4), .ref (b 5), .int (nd), .ref (b 6), .ref (b 7), .int (hd), .ref (b 8), .int (sd), .ref (b 9), .int (kt), .int (kw), .int (kh), .ref (b 10), .ref (b 11), .long (hz)])), ((b 4), .inl (cI, 32, .inl (fun ii => nI ((upN (upN R3 (8 * s_ + 5) (i / 2)) (8 * s_ + 6) (i % 2)) ii)))), ((b 5), .inl (cI, 5, .inl mm))] H := hP
        have hD : va_D A [((b 0), .inr (10, [.ref (b 1), .int (pm), .ref (b 2), .int (r_s), .ref (b 3), .int (r_w), .int (st), .int (nI (n)), .int (nI (w)), .int (wk), .int (tr), .ref (b 4), .ref (b 5), .int (nd), .ref (b 6), .ref (b 7), .int (hd), .ref (b 8), .int (sd), .ref (b 9), .int (kt), .int (kw), .int (kh), .ref (b 10), .ref (b 11), .long (hz)])), ((b 4), .inl (cI, 32, .inl (fun ii => nI ((upN (upN R3 (8 * s_ + 5) (i / 2)) (8 * s_ + 6) (i % 2)) ii)))), ((b 5), .inl (cI, 5, .inl mm))] := hD
        refine lv_aload_n hx hb dX10_worstOf_72 rfl (lv_at hl 0 rfl) ?_
        refine lv_iload_n hx hb dX10_worstOf_73 rfl (lv_at hl 1 rfl) ?_
        refine ro_calli (va_runV (As := [.int (nI (s_))]) (rest := []) ⟨hx, hb, hml, hown, hts⟩ (c_X10_votesOf l dC dI cI b pm r_s r_w st n w wk tr nd hd sd kt kw kh hz (upN (upN R3 (8 * s_ + 5) (i / 2)) (8 * s_ + 6) (i % 2)) mi mm hm hm4 (hR3.wv (by omega) (by omega)) hn hn1 hw (s_) (by omega)) (cwV 1 hts gX10_worstOf_X10_votesOf rfl rfl rfl (by decide +kernel) ⟨Nat.le_of_ble_eq_true rfl, Nat.le_of_ble_eq_true rfl⟩) (ro_pv hK hP [0, 1, 2] rfl (ci := 10) (q0 := 0) (C := RX10) (T := TX10) (N := 26) rfl rfl) rfl rfl hl.1 rfl (lv_room (Nat.le_of_ble_eq_true rfl)) dX10_worstOf_74 ⟨Nat.zero_le _, Nat.zero_le _⟩) hS hP (fun r3 H locs hr3 hP hS => ?_)
        subst hr3
        refine tp_i (z := nI (wv R mi n w s_ i)) (by rw [hu]; rfl) ?_
        have hwi := wv_le R mi n w s_ i
        refine lv_istore (lv' := [(8, .int (nI (wv R mi n w s_ i))), (0, .ref (b 0)), (1, .int (nI (s_))), (2, .int (nI (k_))), (3, .int (nI (R (8 * s_ + 5)))), (4, .int (nI (R (8 * s_ + 6)))), (5, .int (mI (wv R mi n w s_) i)), (6, .int (oI (mc (wv R mi n w s_) i))), (7, .int (nI (i)))]) hx hb dX10_worstOf_77 hl (by decide) rfl (fun ls hl => ?_)
        refine lv_iload hx hb dX10_worstOf_79 (lv_at hl 0 rfl) ?_
        refine lv_iload hx hb dX10_worstOf_81 (lv_at hl 7 rfl) ?_
        refine lv_icmp_le (tgt := 91) hx hb dX10_worstOf_83 (by decide) (fun c4 => ?_) (fun c4 => ?_)
        · have c4 := (rI_ge (by omega)).mp c4
          refine lv_iload hx hb dX10_worstOf_91 (lv_at hl 6 rfl) ?_
          refine lv_istore (lv' := [(5, .int (mI (wv R mi n w s_) i)), (8, .int (nI (wv R mi n w s_ i))), (0, .ref (b 0)), (1, .int (nI (s_))), (2, .int (nI (k_))), (3, .int (nI (R (8 * s_ + 5)))), (4, .int (nI (R (8 * s_ + 6)))), (6, .int (oI (mc (wv R mi n w s_) i))), (7, .int (nI (i)))]) hx hb dX10_worstOf_93 hl (by decide) rfl (fun ls hl => ?_)
          refine lv_iload hx hb dX10_worstOf_95 (lv_at hl 1 rfl) ?_
          refine lv_iload hx hb dX10_worstOf_97 (lv_at hl 7 rfl) ?_
          refine lv_icmp_le (tgt := 107) hx hb dX10_worstOf_99 (by decide) (fun c5 => ?_) (fun c5 => ?_)
          · have c5 := (rI_ge (by omega)).mp c5
            refine lv_iload hx hb dX10_worstOf_107 (lv_at hl 7 rfl) ?_
            refine lv_istore (lv' := [(6, .int (oI (mc (wv R mi n w s_) i))), (5, .int (mI (wv R mi n w s_) i)), (8, .int (nI (wv R mi n w s_ i))), (0, .ref (b 0)), (1, .int (nI (s_))), (2, .int (nI (k_))), (3, .int (nI (R (8 * s_ + 5)))), (4, .int (nI (R (8 * s_ + 6)))), (7, .int (nI (i)))]) hx hb dX10_worstOf_109 hl (by decide) rfl (fun ls hl => ?_)
            refine lv_iinc (v := nI (i + 1)) (lv' := [(7, .int (nI (i + 1))), (6, .int (oI (mc (wv R mi n w s_) i))), (5, .int (mI (wv R mi n w s_) i)), (8, .int (nI (wv R mi n w s_ i))), (0, .ref (b 0)), (1, .int (nI (s_))), (2, .int (nI (k_))), (3, .int (nI (R (8 * s_ + 5)))), (4, .int (nI (R (8 * s_ + 6))))]) hx hb dX10_worstOf_111 hl (k := 8) rfl (nI_add (i) 1) (by decide) rfl (fun ls hl => ?_)
            refine lv_goto (tgt := 35) hx hb dX10_worstOf_114 (by decide) ?_
            exact (hG _ _ _).mp (ih35 (i + 1) (upN (upN R3 (8 * s_ + 5) (i / 2)) (8 * s_ + 6) (i % 2)) (by omega) (hR3.wv (by omega) (by omega)) (wv_u hu _ _) (by omega) _ _ hP hD hS _ (by rw [(mI_n (g := (wv R mi n w s_)) (i := i) (by omega)).1, (mI_n (g := (wv R mi n w s_)) (i := i) (by omega)).2]; exact lv_sub hl [4, 5, 6, 7, 8, 2, 1, 0] rfl))
          · have c5 := mt (rI_ge (by omega)).mpr c5
            exfalso; omega
        · have c4 := mt (rI_ge (by omega)).mpr c4
          refine lv_iload hx hb dX10_worstOf_86 (lv_at hl 8 rfl) ?_
          refine lv_goto (tgt := 93) hx hb dX10_worstOf_88 (by decide) ?_
          refine lv_istore (lv' := [(5, .int (nI (i))), (8, .int (nI (wv R mi n w s_ i))), (0, .ref (b 0)), (1, .int (nI (s_))), (2, .int (nI (k_))), (3, .int (nI (R (8 * s_ + 5)))), (4, .int (nI (R (8 * s_ + 6)))), (6, .int (oI (mc (wv R mi n w s_) i))), (7, .int (nI (i)))]) hx hb dX10_worstOf_93 hl (by decide) rfl (fun ls hl => ?_)
          refine lv_iload hx hb dX10_worstOf_95 (lv_at hl 1 rfl) ?_
          refine lv_iload hx hb dX10_worstOf_97 (lv_at hl 7 rfl) ?_
          refine lv_icmp_le (tgt := 107) hx hb dX10_worstOf_99 (by decide) (fun c6 => ?_) (fun c6 => ?_)
          · have c6 := (rI_ge (by omega)).mp c6
            exfalso; omega
          have c6 := mt (rI_ge (by omega)).mpr c6
          refine lv_iload hx hb dX10_worstOf_102 (lv_at hl 1 rfl) ?_
          refine lv_goto (tgt := 109) hx hb dX10_worstOf_104 (by decide) ?_
          refine lv_istore (lv' := [(6, .int (nI (wv R mi n w s_ i))), (5, .int (nI (i))), (8, .int (nI (wv R mi n w s_ i))), (0, .ref (b 0)), (1, .int (nI (s_))), (2, .int (nI (k_))), (3, .int (nI (R (8 * s_ + 5)))), (4, .int (nI (R (8 * s_ + 6)))), (7, .int (nI (i)))]) hx hb dX10_worstOf_109 hl (by decide) rfl (fun ls hl => ?_)
          refine lv_iinc (v := nI (i + 1)) (lv' := [(7, .int (nI (i + 1))), (6, .int (nI (wv R mi n w s_ i))), (5, .int (nI (i))), (8, .int (nI (wv R mi n w s_ i))), (0, .ref (b 0)), (1, .int (nI (s_))), (2, .int (nI (k_))), (3, .int (nI (R (8 * s_ + 5)))), (4, .int (nI (R (8 * s_ + 6))))]) hx hb dX10_worstOf_111 hl (k := 8) rfl (nI_add (i) 1) (by decide) rfl (fun ls hl => ?_)
          refine lv_goto (tgt := 35) hx hb dX10_worstOf_114 (by decide) ?_
          exact (hG _ _ _).mp (ih35 (i + 1) (upN (upN R3 (8 * s_ + 5) (i / 2)) (8 * s_ + 6) (i % 2)) (by omega) (hR3.wv (by omega) (by omega)) (wv_u hu _ _) (by omega) _ _ hP hD hS _ (by rw [(mI_y (g := (wv R mi n w s_)) (i := i) (by omega)).1, (mI_y (g := (wv R mi n w s_)) (i := i) (by omega)).2, oI_s]; exact lv_sub hl [4, 5, 6, 7, 8, 2, 1, 0] rfl))
  refine (hG _ _ _).mpr ?_
  refine lv_aload_n hx hb dX10_worstOf_0 rfl (lv_at hl 0 rfl) ?_
  refine va_get (D := (dC, dI)) (ci := 10) (v := .ref (b 4)) (C := RX10) (T := TX10) (N := 26) hx hb hts (fun _ h => List.mem_cons_of_mem _ (List.mem_append_right _ (h))) hown hK.1 hP 0 rfl rfl 11 (by decide) (hts (Cond.fieldLink RX10 19 "WorstVoiceModel" "rows" "[I") (List.mem_of_getElem? (i := 1) rfl)) (fun _ h9 => h9) rfl dX10_worstOf_1 ?_
  refine lv_bipush (v := nI (8)) hx hb dX10_worstOf_4 (by decide) ?_
  refine lv_iload_n hx hb dX10_worstOf_6 rfl (lv_at hl 1 rfl) ?_
  refine lv_imul hx hb dX10_worstOf_7 ?_
  refine tp_i (z := nI (8 * s_)) (pk_mul (8) (s_)) ?_
  refine lv_iconst (v := nI (5)) hx hb dX10_worstOf_8 (by decide) ?_
  refine lv_iadd hx hb dX10_worstOf_9 ?_
  refine tp_i (z := nI (8 * s_ + 5)) (nI_add (8 * s_) (5)) ?_
  refine va_iald hx hb hK.1 hP 1 0 rfl rfl (vp_in_nI (by omega) (by decide)) dX10_worstOf_10 ?_
  refine tp_i (z := nI (R (8 * s_ + 5))) (ld_n (fun ii => nI (R ii)) (by omega)) ?_
  refine lv_istore_n (lv' := [(3, .int (nI (R (8 * s_ + 5)))), (0, .ref (b 0)), (1, .int (nI (s_))), (2, .int (nI (k_)))]) hx hb dX10_worstOf_11 rfl hl (by decide) rfl (fun ls hl => ?_)
  refine lv_aload_n hx hb dX10_worstOf_12 rfl (lv_at hl 1 rfl) ?_
  refine va_get (D := (dC, dI)) (ci := 10) (v := .ref (b 4)) (C := RX10) (T := TX10) (N := 26) hx hb hts (fun _ h => List.mem_cons_of_mem _ (List.mem_append_right _ (h))) hown hK.1 hP 0 rfl rfl 11 (by decide) (hts (Cond.fieldLink RX10 19 "WorstVoiceModel" "rows" "[I") (List.mem_of_getElem? (i := 1) rfl)) (fun _ h9 => h9) rfl dX10_worstOf_13 ?_
  refine lv_bipush (v := nI (8)) hx hb dX10_worstOf_16 (by decide) ?_
  refine lv_iload_n hx hb dX10_worstOf_18 rfl (lv_at hl 2 rfl) ?_
  refine lv_imul hx hb dX10_worstOf_19 ?_
  refine tp_i (z := nI (8 * s_)) (pk_mul (8) (s_)) ?_
  refine lv_bipush (v := nI (6)) hx hb dX10_worstOf_20 (by decide) ?_
  refine lv_iadd hx hb dX10_worstOf_22 ?_
  refine tp_i (z := nI (8 * s_ + 6)) (nI_add (8 * s_) (6)) ?_
  refine va_iald hx hb hK.1 hP 1 0 rfl rfl (vp_in_nI (by omega) (by decide)) dX10_worstOf_23 ?_
  refine tp_i (z := nI (R (8 * s_ + 6))) (ld_n (fun ii => nI (R ii)) (by omega)) ?_
  refine lv_istore (lv' := [(4, .int (nI (R (8 * s_ + 6)))), (3, .int (nI (R (8 * s_ + 5)))), (0, .ref (b 0)), (1, .int (nI (s_))), (2, .int (nI (k_)))]) hx hb dX10_worstOf_24 hl (by decide) rfl (fun ls hl => ?_)
  refine lv_iconst (v := -1) hx hb dX10_worstOf_26 (by decide) ?_
  refine lv_istore (lv' := [(5, .int (-1)), (4, .int (nI (R (8 * s_ + 6)))), (3, .int (nI (R (8 * s_ + 5)))), (0, .ref (b 0)), (1, .int (nI (s_))), (2, .int (nI (k_)))]) hx hb dX10_worstOf_27 hl (by decide) rfl (fun ls hl => ?_)
  refine lv_iconst (v := -1) hx hb dX10_worstOf_29 (by decide) ?_
  refine lv_istore (lv' := [(6, .int (-1)), (5, .int (-1)), (4, .int (nI (R (8 * s_ + 6)))), (3, .int (nI (R (8 * s_ + 5)))), (0, .ref (b 0)), (1, .int (nI (s_))), (2, .int (nI (k_)))]) hx hb dX10_worstOf_30 hl (by decide) rfl (fun ls hl => ?_)
  refine lv_iconst (v := nI (0)) hx hb dX10_worstOf_32 (by decide) ?_
  refine lv_istore (lv' := [(7, .int (nI (0))), (6, .int (-1)), (5, .int (-1)), (4, .int (nI (R (8 * s_ + 6)))), (3, .int (nI (R (8 * s_ + 5)))), (0, .ref (b 0)), (1, .int (nI (s_))), (2, .int (nI (k_)))]) hx hb dX10_worstOf_33 hl (by decide) rfl (fun ls hl => ?_)
  exact (hG _ _ _).mp (L35 (4 + 1) (0) (R) (by omega) hR (fun _ _ => rfl) (by omega) _ _ hP hD hS _ (lv_sub hl [5, 6, 7, 4, 3, 2, 1, 0] rfl))
