/-! the model: a singer told, what a widow can mind -/
theorem aS_e {R mi : Nat → Nat} {n w s k : Nat} {v : Int32} (hk : k < 2 ^ 31) (e : tS R mi n w s k = v) : v = aS R mi n w s (nI k) := e.symm.trans (aS_n hk).symm
set_option maxHeartbeats 4000000 in
set_option maxRecDepth 100000 in
theorem c_M_tell (l : Launch) (dC : Nat → ClassId) (dI : Nat → Nat → Nat) (cI : ClassId) (sz : Nat) (b : Nat → Nat) (pm r_s r_w st : Int32) (n w : Nat) (wk tr nd hd sd kt kw kh : Int32) (hz : Int64) (R mi : Nat → Nat) (mm : Nat → Int32) (hm : ∀ k, k < w → mm k = nI (mi k)) (hm4 : ∀ k, k < w → mi k < 4) (hR : WR R) (hn : n ≤ 4) (hn1 : 1 ≤ n) (hw : w ≤ 5) (s_ : Nat) (hs : s_ < n) (y : Int32) : Met l yX10_tell wsX10_tell ({ frames := 4, cells := 0, slots := 0, locals := 98 } : Room) (muP dC dI cI ([moW b pm r_s r_w st n w wk tr nd hd sd kt kw kh hz] ++ [(b 4, .inl (cI, 32, .inl (fun i => nI (R i))))] ++ [(b 5, .inl (cI, 5, .inl mm))]) sz [.ref (b 0), .int (nI (s_)), .int (y)]) (muI dC dI ([moW b pm r_s r_w st n w wk tr nd hd sd kt kw kh hz] ++ [(b 4, .inl (cI, 32, .inl (fun i => nI (R i))))] ++ [(b 5, .inl (cI, 5, .inl mm))]) sz (fun (_ : Unit) => [moW b pm r_s r_w st n w wk tr nd hd sd kt kw kh hz] ++ [(b 4, .inl (cI, 32, .inl (fun i => nI (R i))))] ++ [(b 5, .inl (cI, 5, .inl mm))]) (fun r _ => r = aS R mi n w s_ y)) 0 0 (va_A ([moW b pm r_s r_w st n w wk tr nd hd sd kt kw kh hz] ++ [(b 4, .inl (cI, 32, .inl (fun i => nI (R i))))] ++ [(b 5, .inl (cI, 5, .inl mm))]) sz) := by
  refine Met.ofW (cc := cX10_tell) (maxL := 3) (ret := (some .int)) (by decide) rfl ?_
  intro p e s m args below meth c s₁ B hml hv
  obtain ⟨rfl, hsz, hP, hK, hD0⟩ := hv
  have hx := B.exec
  have hb := B.bytes
  have hr := B.returns
  have hts := atoms_spec (ws := wsX10_tell) B.pre
  have hown : s.vm.findClass RX10 = some m.cls := findClass_of_methodNamed B.named
  have hlocks := B.notSynchronized
  subst hsz
  unfold muI muB
  have hD := hD0.self (sz := s.heap.size)
  generalize hAe : va_A ([moW b pm r_s r_w st n w wk tr nd hd sd kt kw kh hz] ++ [(b 4, .inl (cI, 32, .inl (fun i => nI (R i))))] ++ [(b 5, .inl (cI, 5, .inl mm))]) s.heap.size = A at hD ⊢
  have hA : ∀ q : Nat, s.heap.size ≤ q → A q := fun q h => by rw [← hAe]; exact Or.inr h
  have hS : va_S A s.heap s.heap [] := va_S.rf
  have hl := lv_entry ([.ref (b 0), .int (nI (s_)), .int (y)]) (n := 3) (Nat.le_of_ble_eq_true rfl)
  rw [lg_entry_eq]
  generalize (lg_sl ([.ref (b 0), .int (nI (s_)), .int (y)]) ++ List.replicate (3 - (lg_sl ([.ref (b 0), .int (nI (s_)), .int (y)])).length) Slot.unset).toArray = ls at hl ⊢
  have hl : lv_has ls 3 [(0, .ref (b 0)), (1, .int (nI (s_))), (2, .int (y))] := hl
  have hkk := hR.k (s := s_) (by omega)
  refine lv_iload_n hx hb dX10_tell_0 rfl (lv_at hl 2 rfl) ?_
  refine lv_i2l (v := (y).toInt64) hx hb dX10_tell_1 rfl ?_
  refine lv_ldc2 (v := 10) hx hb hown (hts (Cond.constantLong RX10 110 (10)) (List.mem_of_getElem? (i := 1) rfl)) dX10_tell_2 ?_
  refine tp_l (z := (nI 10).toInt64) (by decide) ?_
  refine lv_ldc2 (v := 13) hx hb hown (hts (Cond.constantLong RX10 112 (13)) (List.mem_of_getElem? (i := 2) rfl)) dX10_tell_5 ?_
  refine tp_l (z := (nI 13).toInt64) (by decide) ?_
  refine ro_calli (va_runS (As := [.long ((y).toInt64), .long ((nI 10).toInt64), .long ((nI 13).toInt64)]) (rest := []) ⟨hx, hb, hml, hown, hts⟩ (c_X10_in l dC dI cI (y) (nI 10) (nI 13)) (va_cwS 3 hts gX10_tell_X10_in rfl rfl rfl (by decide +kernel) ⟨Nat.le_of_ble_eq_true rfl, Nat.le_of_ble_eq_true rfl⟩) (ro_ps hK hP [] rfl) rfl rfl hl.1 rfl (lv_room (Nat.le_of_ble_eq_true rfl)) dX10_tell_8 ⟨Nat.zero_le _, Nat.zero_le _⟩) hS hP (fun r1 H locs hr1 hP hS => ?_)
  subst hr1
  have e2 : bI ((nI 10).toInt ≤ (y).toInt ∧ (y).toInt ≤ (nI 13).toInt) = bI ((10 : Int) ≤ (y).toInt ∧ (y).toInt ≤ (13 : Int)) := bI_i (by rw [nI_toInt (n := 10) (by decide), nI_toInt (n := 13) (by decide)] <;> omega)
  refine tp_i (z := bI ((10 : Int) ≤ (y).toInt ∧ (y).toInt ≤ (13 : Int))) e2 ?_
  refine lv_if_eq (tgt := 29) hx hb dX10_tell_11 (by decide) (fun c3 => ?_) (fun c3 => ?_)
  · have c3 := bI_0.mp c3
    refine lv_iload_n hx hb dX10_tell_29 rfl (lv_at hl 2 rfl) ?_
    refine lv_i2l (v := (y).toInt64) hx hb dX10_tell_30 rfl ?_
    refine lv_ldc2 (v := 20) hx hb hown (hts (Cond.constantLong RX10 114 (20)) (List.mem_of_getElem? (i := 4) rfl)) dX10_tell_31 ?_
    refine tp_l (z := (nI 20).toInt64) (by decide) ?_
    refine lv_ldc2 (v := 23) hx hb hown (hts (Cond.constantLong RX10 116 (23)) (List.mem_of_getElem? (i := 5) rfl)) dX10_tell_34 ?_
    refine tp_l (z := (nI 23).toInt64) (by decide) ?_
    refine ro_calli (va_runS (As := [.long ((y).toInt64), .long ((nI 20).toInt64), .long ((nI 23).toInt64)]) (rest := []) ⟨hx, hb, hml, hown, hts⟩ (c_X10_in l dC dI cI (y) (nI 20) (nI 23)) (va_cwS 3 hts gX10_tell_X10_in rfl rfl rfl (by decide +kernel) ⟨Nat.le_of_ble_eq_true rfl, Nat.le_of_ble_eq_true rfl⟩) (ro_ps hK hP [] rfl) rfl rfl hl.1 rfl (lv_room (Nat.le_of_ble_eq_true rfl)) dX10_tell_37 ⟨Nat.zero_le _, Nat.zero_le _⟩) hS hP (fun r4 H locs hr4 hP hS => ?_)
    subst hr4
    have e5 : bI ((nI 20).toInt ≤ (y).toInt ∧ (y).toInt ≤ (nI 23).toInt) = bI ((20 : Int) ≤ (y).toInt ∧ (y).toInt ≤ (23 : Int)) := bI_i (by rw [nI_toInt (n := 20) (by decide), nI_toInt (n := 23) (by decide)] <;> omega)
    refine tp_i (z := bI ((20 : Int) ≤ (y).toInt ∧ (y).toInt ≤ (23 : Int))) e5 ?_
    refine lv_if_eq (tgt := 53) hx hb dX10_tell_40 (by decide) (fun c6 => ?_) (fun c6 => ?_)
    · have c6 := bI_0.mp c6
      refine lv_iload_n hx hb dX10_tell_53 rfl (lv_at hl 2 rfl) ?_
      by_cases hx7 : inR y 7
      · obtain ⟨k_, hk_, hk_j, rfl⟩ := inR_of hx7
        rcases (show k_ = 0 ∨ k_ = 1 ∨ k_ = 2 ∨ k_ = 3 ∨ k_ = 4 ∨ k_ = 5 ∨ k_ = 6 by omega) with rfl | rfl | rfl | rfl | rfl | rfl | rfl
        · have hl : lv_has ls 3 [(0, .ref (b 0)), (1, .int (nI (s_))), (2, .int (nI (0)))] := hl
          refine lv_tableIn (tgt := 96) hx hb dX10_tell_54 (by decide) (by decide) (off := 42) (by decide) (by decide) ?_
          refine lv_aload_n hx hb dX10_tell_96 rfl (lv_at hl 0 rfl) ?_
          refine va_get (D := (dC, dI)) (ci := 10) (v := .ref (b 4)) (C := RX10) (T := TX10) (N := 26) hx hb hts (fun _ h => List.mem_cons_of_mem _ (List.mem_append_right _ (h))) hown hK.1 hP 0 rfl rfl 11 (by decide) (hts (Cond.fieldLink RX10 19 "WorstVoiceModel" "rows" "[I") (List.mem_of_getElem? (i := 3) rfl)) (fun _ h9 => h9) rfl dX10_tell_97 ?_
          refine lv_bipush (v := nI (8)) hx hb dX10_tell_100 (by decide) ?_
          refine lv_iload_n hx hb dX10_tell_102 rfl (lv_at hl 1 rfl) ?_
          refine lv_imul hx hb dX10_tell_103 ?_
          refine tp_i (z := nI (8 * s_)) (pk_mul (8) (s_)) ?_
          refine va_iald hx hb hK.1 hP 1 0 rfl rfl (vp_in_nI (by omega) (by decide)) dX10_tell_104 ?_
          refine tp_i (z := nI (R (8 * s_))) (ld_n (fun ii => nI (R ii)) (by omega)) ?_
          exact W.iret hx hb hr (fun t ht hW => ⟨⟨_, (), rfl, (aS_e (by decide) rfl), by rw [ht]; exact hP, hD.as rfl⟩, hS.F ht⟩) hS.2.2 dX10_tell_105
        · have hl : lv_has ls 3 [(0, .ref (b 0)), (1, .int (nI (s_))), (2, .int (nI (1)))] := hl
          refine lv_tableIn (tgt := 106) hx hb dX10_tell_54 (by decide) (by decide) (off := 52) (by decide) (by decide) ?_
          refine lv_aload_n hx hb dX10_tell_106 rfl (lv_at hl 0 rfl) ?_
          refine lv_iload_n hx hb dX10_tell_107 rfl (lv_at hl 1 rfl) ?_
          refine ro_calli (va_runV (As := [.int (nI (s_))]) (rest := []) ⟨hx, hb, hml, hown, hts⟩ (c_X10_votesOf l dC dI cI b pm r_s r_w st n w wk tr nd hd sd kt kw kh hz R mi mm hm hm4 hR hn hn1 hw (s_) (by omega)) (cwV 1 hts gX10_tell_X10_votesOf rfl rfl rfl (by decide +kernel) ⟨Nat.le_of_ble_eq_true rfl, Nat.le_of_ble_eq_true rfl⟩) (ro_pv hK hP [0, 1, 2] rfl (ci := 10) (q0 := 0) (C := RX10) (T := TX10) (N := 26) rfl rfl) rfl rfl hl.1 rfl (lv_room (Nat.le_of_ble_eq_true rfl)) dX10_tell_108 ⟨Nat.zero_le _, Nat.zero_le _⟩) hS hP (fun r7 H locs hr7 hP hS => ?_)
          subst hr7
          have hb6 := vt_le R mi n (s_) w
          exact W.iret hx hb hr (fun t ht hW => ⟨⟨_, (), rfl, (aS_e (by decide) rfl), by rw [ht]; exact hP, hD.as rfl⟩, hS.F ht⟩) hS.2.2 dX10_tell_111
        · have hl : lv_has ls 3 [(0, .ref (b 0)), (1, .int (nI (s_))), (2, .int (nI (2)))] := hl
          refine lv_tableIn (tgt := 112) hx hb dX10_tell_54 (by decide) (by decide) (off := 58) (by decide) (by decide) ?_
          refine lv_aload_n hx hb dX10_tell_112 rfl (lv_at hl 0 rfl) ?_
          refine va_get (D := (dC, dI)) (ci := 10) (v := .ref (b 4)) (C := RX10) (T := TX10) (N := 26) hx hb hts (fun _ h => List.mem_cons_of_mem _ (List.mem_append_right _ (h))) hown hK.1 hP 0 rfl rfl 11 (by decide) (hts (Cond.fieldLink RX10 19 "WorstVoiceModel" "rows" "[I") (List.mem_of_getElem? (i := 3) rfl)) (fun _ h9 => h9) rfl dX10_tell_113 ?_
          refine lv_bipush (v := nI (8)) hx hb dX10_tell_116 (by decide) ?_
          refine lv_iload_n hx hb dX10_tell_118 rfl (lv_at hl 1 rfl) ?_
          refine lv_imul hx hb dX10_tell_119 ?_
          refine tp_i (z := nI (8 * s_)) (pk_mul (8) (s_)) ?_
          refine lv_iload_n hx hb dX10_tell_120 rfl (lv_at hl 2 rfl) ?_
          refine lv_iadd hx hb dX10_tell_121 ?_
          refine tp_i (z := nI (8 * s_ + 2)) (nI_add (8 * s_) (2)) ?_
          refine lv_iconst (v := nI (3)) hx hb dX10_tell_122 (by decide) ?_
          refine lv_iadd hx hb dX10_tell_123 ?_
          refine tp_i (z := nI (8 * s_ + 2 + 3)) (nI_add (8 * s_ + 2) (3)) ?_
          refine va_iald hx hb hK.1 hP 1 0 rfl rfl (vp_in_nI (by omega) (by decide)) dX10_tell_124 ?_
          refine tp_i (z := nI (R (8 * s_ + 2 + 3))) (ld_n (fun ii => nI (R ii)) (by omega)) ?_
          exact W.iret hx hb hr (fun t ht hW => ⟨⟨_, (), rfl, (aS_e (by decide) rfl), by rw [ht]; exact hP, hD.as rfl⟩, hS.F ht⟩) hS.2.2 dX10_tell_125
        · have hl : lv_has ls 3 [(0, .ref (b 0)), (1, .int (nI (s_))), (2, .int (nI (3)))] := hl
          refine lv_tableIn (tgt := 112) hx hb dX10_tell_54 (by decide) (by decide) (off := 58) (by decide) (by decide) ?_
          refine lv_aload_n hx hb dX10_tell_112 rfl (lv_at hl 0 rfl) ?_
          refine va_get (D := (dC, dI)) (ci := 10) (v := .ref (b 4)) (C := RX10) (T := TX10) (N := 26) hx hb hts (fun _ h => List.mem_cons_of_mem _ (List.mem_append_right _ (h))) hown hK.1 hP 0 rfl rfl 11 (by decide) (hts (Cond.fieldLink RX10 19 "WorstVoiceModel" "rows" "[I") (List.mem_of_getElem? (i := 3) rfl)) (fun _ h9 => h9) rfl dX10_tell_113 ?_
          refine lv_bipush (v := nI (8)) hx hb dX10_tell_116 (by decide) ?_
          refine lv_iload_n hx hb dX10_tell_118 rfl (lv_at hl 1 rfl) ?_
          refine lv_imul hx hb dX10_tell_119 ?_
          refine tp_i (z := nI (8 * s_)) (pk_mul (8) (s_)) ?_
          refine lv_iload_n hx hb dX10_tell_120 rfl (lv_at hl 2 rfl) ?_
          refine lv_iadd hx hb dX10_tell_121 ?_
          refine tp_i (z := nI (8 * s_ + 3)) (nI_add (8 * s_) (3)) ?_
          refine lv_iconst (v := nI (3)) hx hb dX10_tell_122 (by decide) ?_
          refine lv_iadd hx hb dX10_tell_123 ?_
          refine tp_i (z := nI (8 * s_ + 3 + 3)) (nI_add (8 * s_ + 3) (3)) ?_
          refine va_iald hx hb hK.1 hP 1 0 rfl rfl (vp_in_nI (by omega) (by decide)) dX10_tell_124 ?_
          refine tp_i (z := nI (R (8 * s_ + 3 + 3))) (ld_n (fun ii => nI (R ii)) (by omega)) ?_
          exact W.iret hx hb hr (fun t ht hW => ⟨⟨_, (), rfl, (aS_e (by decide) rfl), by rw [ht]; exact hP, hD.as rfl⟩, hS.F ht⟩) hS.2.2 dX10_tell_125
        · have hl : lv_has ls 3 [(0, .ref (b 0)), (1, .int (nI (s_))), (2, .int (nI (4)))] := hl
          refine lv_tableIn (tgt := 112) hx hb dX10_tell_54 (by decide) (by decide) (off := 58) (by decide) (by decide) ?_
          refine lv_aload_n hx hb dX10_tell_112 rfl (lv_at hl 0 rfl) ?_
          refine va_get (D := (dC, dI)) (ci := 10) (v := .ref (b 4)) (C := RX10) (T := TX10) (N := 26) hx hb hts (fun _ h => List.mem_cons_of_mem _ (List.mem_append_right _ (h))) hown hK.1 hP 0 rfl rfl 11 (by decide) (hts (Cond.fieldLink RX10 19 "WorstVoiceModel" "rows" "[I") (List.mem_of_getElem? (i := 3) rfl)) (fun _ h9 => h9) rfl dX10_tell_113 ?_
          refine lv_bipush (v := nI (8)) hx hb dX10_tell_116 (by decide) ?_
          refine lv_iload_n hx hb dX10_tell_118 rfl (lv_at hl 1 rfl) ?_
          refine lv_imul hx hb dX10_tell_119 ?_
          refine tp_i (z := nI (8 * s_)) (pk_mul (8) (s_)) ?_
          refine lv_iload_n hx hb dX10_tell_120 rfl (lv_at hl 2 rfl) ?_
          refine lv_iadd hx hb dX10_tell_121 ?_
          refine tp_i (z := nI (8 * s_ + 4)) (nI_add (8 * s_) (4)) ?_
          refine lv_iconst (v := nI (3)) hx hb dX10_tell_122 (by decide) ?_
          refine lv_iadd hx hb dX10_tell_123 ?_
          refine tp_i (z := nI (8 * s_ + 4 + 3)) (nI_add (8 * s_ + 4) (3)) ?_
          refine va_iald hx hb hK.1 hP 1 0 rfl rfl (vp_in_nI (by omega) (by decide)) dX10_tell_124 ?_
          refine tp_i (z := nI (R (8 * s_ + 4 + 3))) (ld_n (fun ii => nI (R ii)) (by omega)) ?_
          exact W.iret hx hb hr (fun t ht hW => ⟨⟨_, (), rfl, (aS_e (by decide) rfl), by rw [ht]; exact hP, hD.as rfl⟩, hS.F ht⟩) hS.2.2 dX10_tell_125
        · have hl : lv_has ls 3 [(0, .ref (b 0)), (1, .int (nI (s_))), (2, .int (nI (5)))] := hl
          refine lv_tableIn (tgt := 126) hx hb dX10_tell_54 (by decide) (by decide) (off := 72) (by decide) (by decide) ?_
          refine lv_aload_n hx hb dX10_tell_126 rfl (lv_at hl 0 rfl) ?_
          refine lv_iload_n hx hb dX10_tell_127 rfl (lv_at hl 1 rfl) ?_
          refine lv_iload_n hx hb dX10_tell_128 rfl (lv_at hl 2 rfl) ?_
          refine mu_calli (wr := []) (wn := (fun _ => [((b 0), .inr (10, [.ref (b 1), .int (pm), .ref (b 2), .int (r_s), .ref (b 3), .int (r_w), .int (st), .int (nI (n)), .int (nI (w)), .int (wk), .int (tr), .ref (b 4), .ref (b 5), .int (nd), .ref (b 6), .ref (b 7), .int (hd), .ref (b 8), .int (sd), .ref (b 9), .int (kt), .int (kw), .int (kh), .ref (b 10), .ref (b 11), .long (hz)])), ((b 4), .inl (cI, 32, .inl (fun ii => nI (R ii)))), ((b 5), .inl (cI, 5, .inl mm))])) (va_runV (As := [.int (nI (s_)), .int (nI (5))]) (rest := []) ⟨hx, hb, hml, hown, hts⟩ (c_M_worstOf l dC dI cI _ b pm r_s r_w st n w wk tr nd hd sd kt kw kh hz R mi mm hm hm4 hR hn hn1 hw (s_) (5) (by omega) (by omega)) (cwV 2 hts gX10_tell_X10_worstOf rfl rfl rfl (by decide +kernel) ⟨Nat.le_of_ble_eq_true rfl, Nat.le_of_ble_eq_true rfl⟩) (mu_pv hK hP hD [0, 1, 2] (by decide) rfl rfl (ci := 10) (q0 := 0) (C := RX10) (T := TX10) (N := 26) rfl rfl) rfl rfl hl.1 rfl (lv_room (Nat.le_of_ble_eq_true rfl)) dX10_tell_129 ⟨Nat.zero_le _, Nat.zero_le _⟩) hS hA hP hD [0, 1, 2] [] [0, 1, 2] rfl rfl (by decide) (by decide) (by decide) (fun _ => rfl) (fun _ => rfl) (fun r9 u8 H locs hr9 hP hD hS => ?_)
          subst hr9
          have hP : va_P (dC, dI) vwCl [((b 0), .inr (10, [.ref (b 1), .int (pm), .ref (b 2), .int (r_s), .ref (b 3), .int (r_w), .int (st), .int (nI (n)), .int (nI (w)), .int (wk), .int (tr), .ref (b 4), .ref (b 5), .int (nd), .ref (b 6), .ref (b 7), .int (hd), .ref (b 8), .int (sd), .ref (b 9), .int (kt), .int (kw), .int (kh), .ref (b 10), .ref (b 11), .long (hz)])), ((b 4), .inl (cI, 32, .inl (fun ii => nI (R ii)))), ((b 5), .inl (cI, 5, .inl mm))] H := hP
          have hD : va_D A [((b 0), .inr (10, [.ref (b 1), .int (pm), .ref (b 2), .int (r_s), .ref (b 3), .int (r_w), .int (st), .int (nI (n)), .int (nI (w)), .int (wk), .int (tr), .ref (b 4), .ref (b 5), .int (nd), .ref (b 6), .ref (b 7), .int (hd), .ref (b 8), .int (sd), .ref (b 9), .int (kt), .int (kw), .int (kh), .ref (b 10), .ref (b 11), .long (hz)])), ((b 4), .inl (cI, 32, .inl (fun ii => nI (R ii)))), ((b 5), .inl (cI, 5, .inl mm))] := hD
          exact W.iret hx hb hr (fun t ht hW => ⟨⟨_, (), rfl, (aS_e (by decide) rfl), by rw [ht]; exact hP, hD.as rfl⟩, hS.F ht⟩) hS.2.2 dX10_tell_132
        · have hl : lv_has ls 3 [(0, .ref (b 0)), (1, .int (nI (s_))), (2, .int (nI (6)))] := hl
          refine lv_tableIn (tgt := 126) hx hb dX10_tell_54 (by decide) (by decide) (off := 72) (by decide) (by decide) ?_
          refine lv_aload_n hx hb dX10_tell_126 rfl (lv_at hl 0 rfl) ?_
          refine lv_iload_n hx hb dX10_tell_127 rfl (lv_at hl 1 rfl) ?_
          refine lv_iload_n hx hb dX10_tell_128 rfl (lv_at hl 2 rfl) ?_
          refine mu_calli (wr := []) (wn := (fun _ => [((b 0), .inr (10, [.ref (b 1), .int (pm), .ref (b 2), .int (r_s), .ref (b 3), .int (r_w), .int (st), .int (nI (n)), .int (nI (w)), .int (wk), .int (tr), .ref (b 4), .ref (b 5), .int (nd), .ref (b 6), .ref (b 7), .int (hd), .ref (b 8), .int (sd), .ref (b 9), .int (kt), .int (kw), .int (kh), .ref (b 10), .ref (b 11), .long (hz)])), ((b 4), .inl (cI, 32, .inl (fun ii => nI (R ii)))), ((b 5), .inl (cI, 5, .inl mm))])) (va_runV (As := [.int (nI (s_)), .int (nI (6))]) (rest := []) ⟨hx, hb, hml, hown, hts⟩ (c_M_worstOf l dC dI cI _ b pm r_s r_w st n w wk tr nd hd sd kt kw kh hz R mi mm hm hm4 hR hn hn1 hw (s_) (6) (by omega) (by omega)) (cwV 2 hts gX10_tell_X10_worstOf rfl rfl rfl (by decide +kernel) ⟨Nat.le_of_ble_eq_true rfl, Nat.le_of_ble_eq_true rfl⟩) (mu_pv hK hP hD [0, 1, 2] (by decide) rfl rfl (ci := 10) (q0 := 0) (C := RX10) (T := TX10) (N := 26) rfl rfl) rfl rfl hl.1 rfl (lv_room (Nat.le_of_ble_eq_true rfl)) dX10_tell_129 ⟨Nat.zero_le _, Nat.zero_le _⟩) hS hA hP hD [0, 1, 2] [] [0, 1, 2] rfl rfl (by decide) (by decide) (by decide) (fun _ => rfl) (fun _ => rfl) (fun r11 u10 H locs hr11 hP hD hS => ?_)
          subst hr11
          have hP : va_P (dC, dI) vwCl [((b 0), .inr (10, [.ref (b 1), .int (pm), .ref (b 2), .int (r_s), .ref (b 3), .int (r_w), .int (st), .int (nI (n)), .int (nI (w)), .int (wk), .int (tr), .ref (b 4), .ref (b 5), .int (nd), .ref (b 6), .ref (b 7), .int (hd), .ref (b 8), .int (sd), .ref (b 9), .int (kt), .int (kw), .int (kh), .ref (b 10), .ref (b 11), .long (hz)])), ((b 4), .inl (cI, 32, .inl (fun ii => nI (R ii)))), ((b 5), .inl (cI, 5, .inl mm))] H := hP
          have hD : va_D A [((b 0), .inr (10, [.ref (b 1), .int (pm), .ref (b 2), .int (r_s), .ref (b 3), .int (r_w), .int (st), .int (nI (n)), .int (nI (w)), .int (wk), .int (tr), .ref (b 4), .ref (b 5), .int (nd), .ref (b 6), .ref (b 7), .int (hd), .ref (b 8), .int (sd), .ref (b 9), .int (kt), .int (kw), .int (kh), .ref (b 10), .ref (b 11), .long (hz)])), ((b 4), .inl (cI, 32, .inl (fun ii => nI (R ii)))), ((b 5), .inl (cI, 5, .inl mm))] := hD
          exact W.iret hx hb hr (fun t ht hW => ⟨⟨_, (), rfl, (aS_e (by decide) rfl), by rw [ht]; exact hP, hD.as rfl⟩, hS.F ht⟩) hS.2.2 dX10_tell_132
      · refine lv_tableOut (tgt := 133) hx hb dX10_tell_54 (by omega) (by decide) ?_
        refine lv_bipush (v := -102) hx hb dX10_tell_133 (by decide) ?_
        exact W.iret hx hb hr (fun t ht hW => ⟨⟨_, (), rfl, (fS_3 hx7 (by omega) (by omega)).symm, by rw [ht]; exact hP, hD.as rfl⟩, hS.F ht⟩) hS.2.2 dX10_tell_135
    · have c6 := Decidable.not_not.mp (mt bI_0.mpr c6)
      obtain ⟨k_, hk1, hk2, rfl, hae⟩ := aS_20 (R := R) (mi := mi) (n := n) (w := w) (s := s_) (x := y) (by assumption)
      have hl : lv_has ls 3 [(0, .ref (b 0)), (1, .int (nI (s_))), (2, .int (nI (k_)))] := hl
      refine lv_aload_n hx hb dX10_tell_43 rfl (lv_at hl 0 rfl) ?_
      refine lv_iload_n hx hb dX10_tell_44 rfl (lv_at hl 1 rfl) ?_
      refine lv_iload_n hx hb dX10_tell_45 rfl (lv_at hl 2 rfl) ?_
      refine lv_bipush (v := nI (20)) hx hb dX10_tell_46 (by decide) ?_
      refine lv_isub hx hb dX10_tell_48 ?_
      refine tp_i (z := nI (k_ - 20)) (pk_sub (by omega)) ?_
      refine ro_calli (va_runV (As := [.int (nI (s_)), .int (nI (k_ - 20))]) (rest := []) ⟨hx, hb, hml, hown, hts⟩ (c_X10_badOf l dC dI cI b pm r_s r_w st n w wk tr nd hd sd kt kw kh hz R hR hn (s_) (k_ - 20) (by omega) (by omega)) (cwV 2 hts gX10_tell_X10_badOf rfl rfl rfl (by decide +kernel) ⟨Nat.le_of_ble_eq_true rfl, Nat.le_of_ble_eq_true rfl⟩) (ro_pv hK hP [0, 1] rfl (ci := 10) (q0 := 0) (C := RX10) (T := TX10) (N := 26) rfl rfl) rfl rfl hl.1 rfl (lv_room (Nat.le_of_ble_eq_true rfl)) dX10_tell_49 ⟨Nat.zero_le _, Nat.zero_le _⟩) hS hP (fun r12 H locs hr12 hP hS => ?_)
      subst hr12
      have hb11 := hb_le hR (s := s_) (f := k_ - 20) (by omega) (by omega)
      exact W.iret hx hb hr (fun t ht hW => ⟨⟨_, (), rfl, hae.symm, by rw [ht]; exact hP, hD.as rfl⟩, hS.F ht⟩) hS.2.2 dX10_tell_52
  · have c3 := Decidable.not_not.mp (mt bI_0.mpr c3)
    obtain ⟨k_, hk1, hk2, rfl, hae⟩ := aS_10 (R := R) (mi := mi) (n := n) (w := w) (s := s_) (x := y) (by assumption)
    have hl : lv_has ls 3 [(0, .ref (b 0)), (1, .int (nI (s_))), (2, .int (nI (k_)))] := hl
    refine lv_aload_n hx hb dX10_tell_14 rfl (lv_at hl 0 rfl) ?_
    refine va_get (D := (dC, dI)) (ci := 10) (v := .ref (b 4)) (C := RX10) (T := TX10) (N := 26) hx hb hts (fun _ h => List.mem_cons_of_mem _ (List.mem_append_right _ (h))) hown hK.1 hP 0 rfl rfl 11 (by decide) (hts (Cond.fieldLink RX10 19 "WorstVoiceModel" "rows" "[I") (List.mem_of_getElem? (i := 3) rfl)) (fun _ h9 => h9) rfl dX10_tell_15 ?_
    refine lv_bipush (v := nI (8)) hx hb dX10_tell_18 (by decide) ?_
    refine lv_iload_n hx hb dX10_tell_20 rfl (lv_at hl 1 rfl) ?_
    refine lv_imul hx hb dX10_tell_21 ?_
    refine tp_i (z := nI (8 * s_)) (pk_mul (8) (s_)) ?_
    refine lv_iload_n hx hb dX10_tell_22 rfl (lv_at hl 2 rfl) ?_
    refine lv_iadd hx hb dX10_tell_23 ?_
    refine tp_i (z := nI (8 * s_ + k_)) (nI_add (8 * s_) (k_)) ?_
    refine lv_bipush (v := nI (9)) hx hb dX10_tell_24 (by decide) ?_
    refine lv_isub hx hb dX10_tell_26 ?_
    refine tp_i (z := nI ((8 * s_ + k_) - 9)) (pk_sub (by omega)) ?_
    refine va_iald hx hb hK.1 hP 1 0 rfl rfl (vp_in_nI (by omega) (by decide)) dX10_tell_27 ?_
    refine tp_i (z := nI (R ((8 * s_ + k_) - 9))) (ld_n (fun ii => nI (R ii)) (by omega)) ?_
    exact W.iret hx hb hr (fun t ht hW => ⟨⟨_, (), rfl, hae.symm, by rw [ht]; exact hP, hD.as rfl⟩, hS.F ht⟩) hS.2.2 dX10_tell_28

set_option maxHeartbeats 4000000 in
set_option maxRecDepth 100000 in
theorem c_M_singer (l : Launch) (dC : Nat → ClassId) (dI : Nat → Nat → Nat) (cI : ClassId) (sz : Nat) (b : Nat → Nat) (pm r_s r_w st : Int32) (n w : Nat) (wk tr nd hd sd kt kw kh : Int32) (hz : Int64) (R mi : Nat → Nat) (mm : Nat → Int32) (hm : ∀ k, k < w → mm k = nI (mi k)) (hm4 : ∀ k, k < w → mi k < 4) (hR : WR R) (hn : n ≤ 4) (hw : w ≤ 5) (x y : Int32) : Met l yX10_singer wsX10_singer ({ frames := 5, cells := 0, slots := 0, locals := 120 } : Room) (muP dC dI cI ([moW b pm r_s r_w st n w wk tr nd hd sd kt kw kh hz] ++ [(b 4, .inl (cI, 32, .inl (fun i => nI (R i))))] ++ [(b 5, .inl (cI, 5, .inl mm))]) sz [.ref (b 0), .int (x), .int (y)]) (muI dC dI ([moW b pm r_s r_w st n w wk tr nd hd sd kt kw kh hz] ++ [(b 4, .inl (cI, 32, .inl (fun i => nI (R i))))] ++ [(b 5, .inl (cI, 5, .inl mm))]) sz (fun (_ : Unit) => [moW b pm r_s r_w st n w wk tr nd hd sd kt kw kh hz] ++ [(b 4, .inl (cI, 32, .inl (fun i => nI (R i))))] ++ [(b 5, .inl (cI, 5, .inl mm))]) (fun r _ => r = vS R mi n w x y)) 0 0 (va_A ([moW b pm r_s r_w st n w wk tr nd hd sd kt kw kh hz] ++ [(b 4, .inl (cI, 32, .inl (fun i => nI (R i))))] ++ [(b 5, .inl (cI, 5, .inl mm))]) sz) := by
  refine Met.ofW (cc := cX10_singer) (maxL := 3) (ret := (some .int)) (by decide) rfl ?_
  intro p e s m args below meth c s₁ B hml hv
  obtain ⟨rfl, hsz, hP, hK, hD0⟩ := hv
  have hx := B.exec
  have hb := B.bytes
  have hr := B.returns
  have hts := atoms_spec (ws := wsX10_singer) B.pre
  have hown : s.vm.findClass RX10 = some m.cls := findClass_of_methodNamed B.named
  have hlocks := B.notSynchronized
  subst hsz
  unfold muI muB
  have hD := hD0.self (sz := s.heap.size)
  generalize hAe : va_A ([moW b pm r_s r_w st n w wk tr nd hd sd kt kw kh hz] ++ [(b 4, .inl (cI, 32, .inl (fun i => nI (R i))))] ++ [(b 5, .inl (cI, 5, .inl mm))]) s.heap.size = A at hD ⊢
  have hA : ∀ q : Nat, s.heap.size ≤ q → A q := fun q h => by rw [← hAe]; exact Or.inr h
  have hS : va_S A s.heap s.heap [] := va_S.rf
  have hl := lv_entry ([.ref (b 0), .int (x), .int (y)]) (n := 3) (Nat.le_of_ble_eq_true rfl)
  rw [lg_entry_eq]
  generalize (lg_sl ([.ref (b 0), .int (x), .int (y)]) ++ List.replicate (3 - (lg_sl ([.ref (b 0), .int (x), .int (y)])).length) Slot.unset).toArray = ls at hl ⊢
  have hl : lv_has ls 3 [(0, .ref (b 0)), (1, .int (x)), (2, .int (y))] := hl
  refine lv_aload_n hx hb dX10_singer_0 rfl (lv_at hl 0 rfl) ?_
  refine lv_iload_n hx hb dX10_singer_1 rfl (lv_at hl 1 rfl) ?_
  refine ro_calli (va_runV (As := [.int (x)]) (rest := []) ⟨hx, hb, hml, hown, hts⟩ (c_X10_isSinger l dC dI cI b pm r_s r_w st n w wk tr nd hd sd kt kw kh hz (by omega) (by omega) (x)) (cwV 1 hts gX10_singer_X10_isSinger rfl rfl rfl (by decide +kernel) ⟨Nat.le_of_ble_eq_true rfl, Nat.le_of_ble_eq_true rfl⟩) (ro_pv hK hP [0] rfl (ci := 10) (q0 := 0) (C := RX10) (T := TX10) (N := 26) rfl rfl) rfl rfl hl.1 rfl (lv_room (Nat.le_of_ble_eq_true rfl)) dX10_singer_2 ⟨Nat.zero_le _, Nat.zero_le _⟩) hS hP (fun r1 H locs hr1 hP hS => ?_)
  subst hr1
  refine lv_if_eq (tgt := 17) hx hb dX10_singer_5 (by decide) (fun c2 => ?_) (fun c2 => ?_)
  · have c2 := bI_0.mp c2
    refine lv_bipush (v := -101) hx hb dX10_singer_17 (by decide) ?_
    exact W.iret hx hb hr (fun t ht hW => ⟨⟨_, (), rfl, (vS_f (by assumption)).symm, by rw [ht]; exact hP, hD.as rfl⟩, hS.F ht⟩) hS.2.2 dX10_singer_19
  · have c2 := Decidable.not_not.mp (mt bI_0.mpr c2)
    obtain ⟨s_, hs, hsj, rfl⟩ := inR_of (show inR x n by first | assumption | (constructor <;> omega))
    have hl : lv_has ls 3 [(0, .ref (b 0)), (1, .int (nI (s_))), (2, .int (y))] := hl
    refine lv_aload_n hx hb dX10_singer_8 rfl (lv_at hl 0 rfl) ?_
    refine lv_iload_n hx hb dX10_singer_9 rfl (lv_at hl 1 rfl) ?_
    refine lv_iload_n hx hb dX10_singer_10 rfl (lv_at hl 2 rfl) ?_
    refine mu_calli (wr := []) (wn := (fun _ => [((b 0), .inr (10, [.ref (b 1), .int (pm), .ref (b 2), .int (r_s), .ref (b 3), .int (r_w), .int (st), .int (nI (n)), .int (nI (w)), .int (wk), .int (tr), .ref (b 4), .ref (b 5), .int (nd), .ref (b 6), .ref (b 7), .int (hd), .ref (b 8), .int (sd), .ref (b 9), .int (kt), .int (kw), .int (kh), .ref (b 10), .ref (b 11), .long (hz)])), ((b 4), .inl (cI, 32, .inl (fun ii => nI (R ii)))), ((b 5), .inl (cI, 5, .inl mm))])) (va_runV (As := [.int (nI (s_)), .int (y)]) (rest := []) ⟨hx, hb, hml, hown, hts⟩ (c_M_tell l dC dI cI _ b pm r_s r_w st n w wk tr nd hd sd kt kw kh hz R mi mm hm hm4 hR hn (by omega) hw (s_) (by omega) (y)) (cwV 2 hts gX10_singer_X10_tell rfl rfl rfl (by decide +kernel) ⟨Nat.le_of_ble_eq_true rfl, Nat.le_of_ble_eq_true rfl⟩) (mu_pv hK hP hD [0, 1, 2] (by decide) rfl rfl (ci := 10) (q0 := 0) (C := RX10) (T := TX10) (N := 26) rfl rfl) rfl rfl hl.1 rfl (lv_room (Nat.le_of_ble_eq_true rfl)) dX10_singer_11 ⟨Nat.zero_le _, Nat.zero_le _⟩) hS hA hP hD [0, 1, 2] [] [0, 1, 2] rfl rfl (by decide) (by decide) (by decide) (fun _ => rfl) (fun _ => rfl) (fun r4 u3 H locs hr4 hP hD hS => ?_)
    subst hr4
    have hP : va_P (dC, dI) vwCl [((b 0), .inr (10, [.ref (b 1), .int (pm), .ref (b 2), .int (r_s), .ref (b 3), .int (r_w), .int (st), .int (nI (n)), .int (nI (w)), .int (wk), .int (tr), .ref (b 4), .ref (b 5), .int (nd), .ref (b 6), .ref (b 7), .int (hd), .ref (b 8), .int (sd), .ref (b 9), .int (kt), .int (kw), .int (kh), .ref (b 10), .ref (b 11), .long (hz)])), ((b 4), .inl (cI, 32, .inl (fun ii => nI (R ii)))), ((b 5), .inl (cI, 5, .inl mm))] H := hP
    have hD : va_D A [((b 0), .inr (10, [.ref (b 1), .int (pm), .ref (b 2), .int (r_s), .ref (b 3), .int (r_w), .int (st), .int (nI (n)), .int (nI (w)), .int (wk), .int (tr), .ref (b 4), .ref (b 5), .int (nd), .ref (b 6), .ref (b 7), .int (hd), .ref (b 8), .int (sd), .ref (b 9), .int (kt), .int (kw), .int (kh), .ref (b 10), .ref (b 11), .long (hz)])), ((b 4), .inl (cI, 32, .inl (fun ii => nI (R ii)))), ((b 5), .inl (cI, 5, .inl mm))] := hD
    refine lv_goto (tgt := 19) hx hb dX10_singer_14 (by decide) ?_
    exact W.iret hx hb hr (fun t ht hW => ⟨⟨_, (), rfl, (vS_t hs hn).symm, by rw [ht]; exact hP, hD.as rfl⟩, hS.F ht⟩) hS.2.2 dX10_singer_19

set_option maxHeartbeats 4000000 in
set_option maxRecDepth 100000 in
theorem c_M_as (l : Launch) (dC : Nat → ClassId) (dI : Nat → Nat → Nat) (cI : ClassId) (b : Nat → Nat) (pm r_s r_w st : Int32) (n w : Nat) (wk tr nd hd sd kt kw kh : Int32) (hz : Int64) (R : Nat → Nat) (hR : WR R) (hn : n ≤ 4) (hw : w ≤ 5) (x y : Int32) : Met l yX10_as wsX10_as ({ frames := 2, cells := 0, slots := 0, locals := 46 } : Room) (roP dC dI cI ([moW b pm r_s r_w st n w wk tr nd hd sd kt kw kh hz] ++ [(b 4, .inl (cI, 32, .inl (fun i => nI (R i))))]) [.ref (b 0), .int (x), .int (y)]) (roI (fun r => r = vA R n x y)) 0 0 (fun _ => False) := by
  refine Met.ofW (cc := cX10_as) (maxL := 5) (ret := (some .int)) (by decide) rfl ?_
  intro p e s m args below meth c s₁ B hml hv
  obtain ⟨rfl, hP, hK⟩ := hv
  have hx := B.exec
  have hb := B.bytes
  have hr := B.returns
  have hts := atoms_spec (ws := wsX10_as) B.pre
  have hown : s.vm.findClass RX10 = some m.cls := findClass_of_methodNamed B.named
  have hlocks := B.notSynchronized
  have hS : va_S (fun _ => False) s.heap s.heap [] := va_S.rf
  have hl := lv_entry ([.ref (b 0), .int (x), .int (y)]) (n := 5) (Nat.le_of_ble_eq_true rfl)
  rw [lg_entry_eq]
  generalize (lg_sl ([.ref (b 0), .int (x), .int (y)]) ++ List.replicate (5 - (lg_sl ([.ref (b 0), .int (x), .int (y)])).length) Slot.unset).toArray = ls at hl ⊢
  have hl : lv_has ls 5 [(0, .ref (b 0)), (1, .int (x)), (2, .int (y))] := hl
  refine lv_aload_n hx hb dX10_as_0 rfl (lv_at hl 0 rfl) ?_
  refine lv_iload_n hx hb dX10_as_1 rfl (lv_at hl 1 rfl) ?_
  refine ro_calli (va_runV (As := [.int (x)]) (rest := []) ⟨hx, hb, hml, hown, hts⟩ (c_X10_isSinger l dC dI cI b pm r_s r_w st n w wk tr nd hd sd kt kw kh hz (by omega) (by omega) (x)) (cwV 1 hts gX10_as_X10_isSinger rfl rfl rfl (by decide +kernel) ⟨Nat.le_of_ble_eq_true rfl, Nat.le_of_ble_eq_true rfl⟩) (ro_pv hK hP [0] rfl (ci := 10) (q0 := 0) (C := RX10) (T := TX10) (N := 26) rfl rfl) rfl rfl hl.1 rfl (lv_room (Nat.le_of_ble_eq_true rfl)) dX10_as_2 ⟨Nat.zero_le _, Nat.zero_le _⟩) hS hP (fun r1 H locs hr1 hP hS => ?_)
  subst hr1
  refine lv_if_ne (tgt := 11) hx hb dX10_as_5 (by decide) (fun c2 => ?_) (fun c2 => ?_)
  · have c2 := Decidable.not_not.mp (mt bI_0.mpr c2)
    obtain ⟨s_, hs, hsj, rfl⟩ := inR_of (show inR x n by first | assumption | (constructor <;> omega))
    have hl : lv_has ls 5 [(0, .ref (b 0)), (1, .int (nI (s_))), (2, .int (y))] := hl
    have hkk := hR.k (s := s_) (by omega)
    refine lv_iload_n hx hb dX10_as_11 rfl (lv_at hl 2 rfl) ?_
    refine lv_i2l (v := (y).toInt64) hx hb dX10_as_12 rfl ?_
    refine lv_lconst (v := (nI 0).toInt64) hx hb dX10_as_13 (by decide) ?_
    refine lv_ldc2 (v := 4) hx hb hown (hts (Cond.constantLong RX10 127 (4)) (List.mem_of_getElem? (i := 1) rfl)) dX10_as_14 ?_
    refine tp_l (z := (nI 4).toInt64) (by decide) ?_
    refine ro_calli (va_runS (As := [.long ((y).toInt64), .long ((nI 0).toInt64), .long ((nI 4).toInt64)]) (rest := []) ⟨hx, hb, hml, hown, hts⟩ (c_X10_in l dC dI cI (y) (nI 0) (nI 4)) (va_cwS 3 hts gX10_as_X10_in rfl rfl rfl (by decide +kernel) ⟨Nat.le_of_ble_eq_true rfl, Nat.le_of_ble_eq_true rfl⟩) (ro_ps hK hP [] rfl) rfl rfl hl.1 rfl (lv_room (Nat.le_of_ble_eq_true rfl)) dX10_as_17 ⟨Nat.zero_le _, Nat.zero_le _⟩) hS hP (fun r3 H locs hr3 hP hS => ?_)
    subst hr3
    have e4 : bI ((nI 0).toInt ≤ (y).toInt ∧ (y).toInt ≤ (nI 4).toInt) = bI ((0 : Int) ≤ (y).toInt ∧ (y).toInt ≤ (4 : Int)) := bI_i (by rw [nI_toInt (n := 0) (by decide), nI_toInt (n := 4) (by decide)] <;> omega)
    refine tp_i (z := bI ((0 : Int) ≤ (y).toInt ∧ (y).toInt ≤ (4 : Int))) e4 ?_
    refine lv_if_ne (tgt := 26) hx hb dX10_as_20 (by decide) (fun c5 => ?_) (fun c5 => ?_)
    · have c5 := Decidable.not_not.mp (mt bI_0.mpr c5)
      obtain ⟨k_, hk, hkj, rfl⟩ := inR_of (show inR y 5 by first | assumption | (constructor <;> omega))
      have hl : lv_has ls 5 [(0, .ref (b 0)), (1, .int (nI (s_))), (2, .int (nI (k_)))] := hl
      refine lv_aload_n hx hb dX10_as_26 rfl (lv_at hl 0 rfl) ?_
      refine va_get (D := (dC, dI)) (ci := 10) (v := .ref (b 4)) (C := RX10) (T := TX10) (N := 26) hx hb hts (fun _ h => List.mem_cons_of_mem _ (List.mem_append_right _ (h))) hown hK.1 hP 0 rfl rfl 11 (by decide) (hts (Cond.fieldLink RX10 19 "WorstVoiceModel" "rows" "[I") (List.mem_of_getElem? (i := 2) rfl)) (fun _ h9 => h9) rfl dX10_as_27 ?_
      refine lv_bipush (v := nI (8)) hx hb dX10_as_30 (by decide) ?_
      refine lv_iload_n hx hb dX10_as_32 rfl (lv_at hl 1 rfl) ?_
      refine lv_imul hx hb dX10_as_33 ?_
      refine tp_i (z := nI (8 * s_)) (pk_mul (8) (s_)) ?_
      refine va_iald hx hb hK.1 hP 1 0 rfl rfl (vp_in_nI (by omega) (by decide)) dX10_as_34 ?_
      refine tp_i (z := nI (R (8 * s_))) (ld_n (fun ii => nI (R ii)) (by omega)) ?_
      refine lv_istore_n (lv' := [(3, .int (nI (R (8 * s_)))), (0, .ref (b 0)), (1, .int (nI (s_))), (2, .int (nI (k_)))]) hx hb dX10_as_35 rfl hl (by decide) rfl (fun ls hl => ?_)
      refine lv_iload_n hx hb dX10_as_36 rfl (lv_at hl 3 rfl) ?_
      refine lv_if_eq (tgt := 55) hx hb dX10_as_37 (by decide) (fun c6 => ?_) (fun c6 => ?_)
      · have c6 := (z_eq (by omega)).mp c6
        refine lv_iconst (v := nI (1)) hx hb dX10_as_55 (by decide) ?_
        refine lv_goto (tgt := 60) hx hb dX10_as_56 (by decide) ?_
        refine lv_istore (lv' := [(4, .int (nI (1))), (3, .int (nI (R (8 * s_)))), (0, .ref (b 0)), (1, .int (nI (s_))), (2, .int (nI (k_)))]) hx hb dX10_as_60 hl (by decide) rfl (fun ls hl => ?_)
        refine lv_iload hx hb dX10_as_62 (lv_at hl 0 rfl) ?_
        refine lv_if_eq (tgt := 71) hx hb dX10_as_64 (by decide) (fun c => absurd c (by decide)) (fun _ => ?_)
        refine lv_iload_n hx hb dX10_as_67 rfl (lv_at hl 3 rfl) ?_
        refine lv_goto (tgt := 72) hx hb dX10_as_68 (by decide) ?_
        exact W.iret hx hb hr (fun t ht hW => ⟨⟨_, (), rfl, (vA_e hs hn hk (if_pos (by unfold isK; omega))), trivial⟩, hS.F ht⟩) hS.2.2 dX10_as_72
      · have c6 := mt (z_eq (by omega)).mpr c6
        refine lv_iload_n hx hb dX10_as_40 rfl (lv_at hl 3 rfl) ?_
        refine lv_iload_n hx hb dX10_as_41 rfl (lv_at hl 0 rfl) ?_
        refine lv_icmp_eq (tgt := 55) hx hb dX10_as_42 (by decide) (fun c7 => ?_) (fun c7 => ?_)
        · have c7 := (nI_eq (by omega) (by omega)).mp c7
          refine lv_iconst (v := nI (1)) hx hb dX10_as_55 (by decide) ?_
          refine lv_goto (tgt := 60) hx hb dX10_as_56 (by decide) ?_
          refine lv_istore (lv' := [(4, .int (nI (1))), (3, .int (nI (R (8 * s_)))), (0, .ref (b 0)), (1, .int (nI (s_))), (2, .int (nI (k_)))]) hx hb dX10_as_60 hl (by decide) rfl (fun ls hl => ?_)
          refine lv_iload hx hb dX10_as_62 (lv_at hl 0 rfl) ?_
          refine lv_if_eq (tgt := 71) hx hb dX10_as_64 (by decide) (fun c => absurd c (by decide)) (fun _ => ?_)
          refine lv_iload_n hx hb dX10_as_67 rfl (lv_at hl 3 rfl) ?_
          refine lv_goto (tgt := 72) hx hb dX10_as_68 (by decide) ?_
          exact W.iret hx hb hr (fun t ht hW => ⟨⟨_, (), rfl, (vA_e hs hn hk (if_pos (by unfold isK; omega))), trivial⟩, hS.F ht⟩) hS.2.2 dX10_as_72
        · have c7 := mt (nI_eq (by omega) (by omega)).mpr c7
          refine lv_iload_n hx hb dX10_as_45 rfl (lv_at hl 3 rfl) ?_
          refine lv_iconst (v := nI (1)) hx hb dX10_as_46 (by decide) ?_
          refine lv_icmp_ne (tgt := 59) hx hb dX10_as_47 (by decide) (fun c8 => ?_) (fun c8 => ?_)
          · have c8 := mt (nI_eq (by omega) (by decide)).mpr c8
            refine lv_iconst (v := nI (0)) hx hb dX10_as_59 (by decide) ?_
            refine lv_istore (lv' := [(4, .int (nI (0))), (3, .int (nI (R (8 * s_)))), (0, .ref (b 0)), (1, .int (nI (s_))), (2, .int (nI (k_)))]) hx hb dX10_as_60 hl (by decide) rfl (fun ls hl => ?_)
            refine lv_iload hx hb dX10_as_62 (lv_at hl 0 rfl) ?_
            refine lv_if_eq (tgt := 71) hx hb dX10_as_64 (by decide) (fun _ => ?_) (fun c => absurd (by decide) c)
            refine lv_iconst (v := -1) hx hb dX10_as_71 (by decide) ?_
            exact W.iret hx hb hr (fun t ht hW => ⟨⟨_, (), rfl, (vA_e hs hn hk (if_neg (by unfold isK; omega))), trivial⟩, hS.F ht⟩) hS.2.2 dX10_as_72
          · have c8 := (nI_eq (by omega) (by decide)).mp c8
            refine lv_iload_n hx hb dX10_as_50 rfl (lv_at hl 0 rfl) ?_
            refine lv_iconst (v := nI (4)) hx hb dX10_as_51 (by decide) ?_
            refine lv_icmp_ne (tgt := 59) hx hb dX10_as_52 (by decide) (fun c9 => ?_) (fun c9 => ?_)
            · have c9 := mt (nI_eq (by omega) (by decide)).mpr c9
              refine lv_iconst (v := nI (0)) hx hb dX10_as_59 (by decide) ?_
              refine lv_istore (lv' := [(4, .int (nI (0))), (3, .int (nI (R (8 * s_)))), (0, .ref (b 0)), (1, .int (nI (s_))), (2, .int (nI (k_)))]) hx hb dX10_as_60 hl (by decide) rfl (fun ls hl => ?_)
              refine lv_iload hx hb dX10_as_62 (lv_at hl 0 rfl) ?_
              refine lv_if_eq (tgt := 71) hx hb dX10_as_64 (by decide) (fun _ => ?_) (fun c => absurd (by decide) c)
              refine lv_iconst (v := -1) hx hb dX10_as_71 (by decide) ?_
              exact W.iret hx hb hr (fun t ht hW => ⟨⟨_, (), rfl, (vA_e hs hn hk (if_neg (by unfold isK; omega))), trivial⟩, hS.F ht⟩) hS.2.2 dX10_as_72
            · have c9 := (nI_eq (by omega) (by decide)).mp c9
              refine lv_iconst (v := nI (1)) hx hb dX10_as_55 (by decide) ?_
              refine lv_goto (tgt := 60) hx hb dX10_as_56 (by decide) ?_
              refine lv_istore (lv' := [(4, .int (nI (1))), (3, .int (nI (R (8 * s_)))), (0, .ref (b 0)), (1, .int (nI (s_))), (2, .int (nI (k_)))]) hx hb dX10_as_60 hl (by decide) rfl (fun ls hl => ?_)
              refine lv_iload hx hb dX10_as_62 (lv_at hl 0 rfl) ?_
              refine lv_if_eq (tgt := 71) hx hb dX10_as_64 (by decide) (fun c => absurd c (by decide)) (fun _ => ?_)
              refine lv_iload_n hx hb dX10_as_67 rfl (lv_at hl 3 rfl) ?_
              refine lv_goto (tgt := 72) hx hb dX10_as_68 (by decide) ?_
              exact W.iret hx hb hr (fun t ht hW => ⟨⟨_, (), rfl, (vA_e hs hn hk (if_pos (by unfold isK; omega))), trivial⟩, hS.F ht⟩) hS.2.2 dX10_as_72
    · have c5 := bI_0.mp c5
      refine lv_bipush (v := -102) hx hb dX10_as_23 (by decide) ?_
      exact W.iret hx hb hr (fun t ht hW => ⟨⟨_, (), rfl, (vA_o hs hn (fun q => by have q1 := q.1; have q2 := q.2; omega)).symm, trivial⟩, hS.F ht⟩) hS.2.2 dX10_as_25
  · have c2 := bI_0.mp c2
    refine lv_bipush (v := -101) hx hb dX10_as_8 (by decide) ?_
    exact W.iret hx hb hr (fun t ht hW => ⟨⟨_, (), rfl, (vA_f (by assumption)).symm, trivial⟩, hS.F ht⟩) hS.2.2 dX10_as_10

set_option maxHeartbeats 4000000 in
set_option maxRecDepth 100000 in
theorem c_M_mindsOf (l : Launch) (dC : Nat → ClassId) (dI : Nat → Nat → Nat) (cI : ClassId) (b : Nat → Nat) (pm : Int32) (r_s : Int32) (r_w : Int32) (st : Int32) (n : Nat) (w : Nat) (wk : Int32) (tr : Int32) (nd : Int32) (h : Nat) (sd : Int32) (kt : Int32) (kw : Int32) (kh : Int32) (hz : Int64) (R : Nat → Nat) (hR : WR R) (hn : n ≤ 4) (hw : w ≤ 5) (E : Nat → Nat) (h : Nat) (hh : h ≤ 8) (hE : ∀ i, i < h → E (4 * i) < 5 ∧ E (4 * i + 1) < n ∧ E (4 * i + 2) < n ∧ E (4 * i + 3) ≤ 1) (w_ : Nat) (hw_ : w_ < w) : Met l yX10_mindsOf wsX10_mindsOf ({ frames := 2, cells := 0, slots := 0, locals := 47 } : Room) (roP dC dI cI ([moW b pm r_s r_w st n w wk tr nd (nI h) sd kt kw kh hz] ++ [(b 4, .inl (cI, 32, .inl (fun i => nI (R i))))] ++ [(b 8, .inl (cI, 32, .inl (fun i => nI (E i))))]) [.ref (b 0), .int (nI (w_))]) (roI (fun r => r = nI (bs_ R E w_ h 4))) 0 0 (fun _ => False) := by
  refine Met.ofW (cc := cX10_mindsOf) (maxL := 6) (ret := (some .int)) (by decide) rfl ?_
  intro p e s m args below meth c s₁ B hml hv
  obtain ⟨rfl, hP, hK⟩ := hv
  have hx := B.exec
  have hb := B.bytes
  have hr := B.returns
  have hts := atoms_spec (ws := wsX10_mindsOf) B.pre
  have hown : s.vm.findClass RX10 = some m.cls := findClass_of_methodNamed B.named
  have hlocks := B.notSynchronized
  have hS : va_S (fun _ => False) s.heap s.heap [] := va_S.rf
  have hl := lv_entry ([.ref (b 0), .int (nI (w_))]) (n := 6) (Nat.le_of_ble_eq_true rfl)
  rw [lg_entry_eq]
  generalize (lg_sl ([.ref (b 0), .int (nI (w_))]) ++ List.replicate (6 - (lg_sl ([.ref (b 0), .int (nI (w_))])).length) Slot.unset).toArray = ls at hl ⊢
  have hl : lv_has ls 6 [(0, .ref (b 0)), (1, .int (nI (w_)))] := hl
  refine W_abs (fun G hG => ?_)
  have L4 : ∀ (fu : Nat) (f : Nat), f ≤ 4 → 4 + 1 ≤ f + fu → ∀ (H : Heap) (locs : List Loc), va_P (dC, dI) vwCl [((b 0), .inr (10, [.ref (b 1), .int (pm), .ref (b 2), .int (r_s), .ref (b 3), .int (r_w), .int (st), .int (nI (n)), .int (nI (w)), .int (wk), .int (tr), .ref (b 4), .ref (b 5), .int (nd), .ref (b 6), .ref (b 7), .int (nI (h)), .ref (b 8), .int (sd), .ref (b 9), .int (kt), .int (kw), .int (kh), .ref (b 10), .ref (b 11), .long (hz)])), ((b 4), .inl (cI, 32, .inl (fun ii => nI (R ii)))), ((b 8), .inl (cI, 32, .inl (fun ii => nI (E ii))))] H → va_S (fun _ => False) s.heap H locs → ∀ (ls : Array Slot), lv_has ls 6 [(0, .ref (b 0)), (1, .int (nI (w_))), (2, .int (nI (bs_ R E w_ h f))), (3, .int (nI (f)))] → G H locs (F0 m 4 ls []) := by
    intro fu
    induction fu with
    | zero => intro f h2 hfu H locs hP hS ls hl; omega
    | succ fu ih4 =>
      intro f h2 hfu H locs hP hS ls hl
      have hbl_ := bs_lt R E w_ h f
      have hbl2 : bs_ R E w_ h f < 16 := Nat.lt_of_lt_of_le hbl_ (Nat.pow_le_pow_right (by decide) h2)
      have L15 : ∀ (fu : Nat) (i : Nat), i ≤ h → f < 4 → h + 1 ≤ i + fu → ∀ (H : Heap) (locs : List Loc), va_P (dC, dI) vwCl [((b 0), .inr (10, [.ref (b 1), .int (pm), .ref (b 2), .int (r_s), .ref (b 3), .int (r_w), .int (st), .int (nI (n)), .int (nI (w)), .int (wk), .int (tr), .ref (b 4), .ref (b 5), .int (nd), .ref (b 6), .ref (b 7), .int (nI (h)), .ref (b 8), .int (sd), .ref (b 9), .int (kt), .int (kw), .int (kh), .ref (b 10), .ref (b 11), .long (hz)])), ((b 4), .inl (cI, 32, .inl (fun ii => nI (R ii)))), ((b 8), .inl (cI, 32, .inl (fun ii => nI (E ii))))] H → va_S (fun _ => False) s.heap H locs → ∀ (ls : Array Slot), lv_has ls 6 [(0, .ref (b 0)), (1, .int (nI (w_))), (2, .int (nI (bs_ R E w_ h f))), (3, .int (nI (f))), (4, .int (bI (so R E w_ f i))), (5, .int (nI (i)))] → G H locs (F0 m 15 ls []) := by
        intro fu
        induction fu with
        | zero => intro i h3 h4 hfu H locs hP hS ls hl; omega
        | succ fu ih15 =>
          intro i h3 h4 hfu H locs hP hS ls hl
          have hEi : i < h → E (4 * i) < 5 ∧ E (4 * i + 1) < n ∧ E (4 * i + 2) < n ∧ E (4 * i + 3) ≤ 1 := hE i
          refine (hG _ _ _).mpr ?_
          refine lv_iload hx hb dX10_mindsOf_15 (lv_at hl 5 rfl) ?_
          refine lv_aload_n hx hb dX10_mindsOf_17 rfl (lv_at hl 0 rfl) ?_
          refine va_get (D := (dC, dI)) (ci := 10) (v := .int (nI (h))) (C := RX10) (T := TX10) (N := 26) hx hb hts (fun _ h => List.mem_cons_of_mem _ (List.mem_append_right _ (h))) hown hK.1 hP 0 rfl rfl 16 (by decide) (hts (Cond.fieldLink RX10 94 "WorstVoiceModel" "heardMany" "I") (List.mem_of_getElem? (i := 1) rfl)) (fun _ h9 => h9) rfl dX10_mindsOf_18 ?_
          refine lv_icmp_ge (tgt := 96) hx hb dX10_mindsOf_21 (by decide) (fun c1 => ?_) (fun c1 => ?_)
          · have c1 := (nI_leI (by omega) (by omega)).mp c1
            rw [show i = h by omega] at hl
            have hl : lv_has ls 6 [(0, .ref (b 0)), (1, .int (nI (w_))), (2, .int (nI (bs_ R E w_ h f))), (3, .int (nI (f))), (4, .int (bI (so R E w_ f h))), (5, .int (nI (h)))] := hl
            refine lv_iload_n hx hb dX10_mindsOf_96 rfl (lv_at hl 2 rfl) ?_
            refine lv_iload hx hb dX10_mindsOf_97 (lv_at hl 4 rfl) ?_
            refine lv_if_eq (tgt := 108) hx hb dX10_mindsOf_99 (by decide) (fun c2 => ?_) (fun c2 => ?_)
            · have c2 := bI_0.mp c2
              refine lv_iconst (v := nI (0)) hx hb dX10_mindsOf_108 (by decide) ?_
              refine lv_ior hx hb dX10_mindsOf_109 ?_
              refine tp_i (z := nI (bs_ R E w_ h f)) (or_0 _ hbl2) ?_
              refine lv_istore_n (lv' := [(2, .int (nI (bs_ R E w_ h f))), (0, .ref (b 0)), (1, .int (nI (w_))), (3, .int (nI (f))), (4, .int (bI (so R E w_ f h))), (5, .int (nI (h)))]) hx hb dX10_mindsOf_110 rfl hl (by decide) rfl (fun ls hl => ?_)
              refine lv_iinc (v := nI (f + 1)) (lv' := [(3, .int (nI (f + 1))), (2, .int (nI (bs_ R E w_ h f))), (0, .ref (b 0)), (1, .int (nI (w_))), (4, .int (bI (so R E w_ f h))), (5, .int (nI (h)))]) hx hb dX10_mindsOf_111 hl (k := 3) rfl (nI_add (f) 1) (by decide) rfl (fun ls hl => ?_)
              refine lv_goto (tgt := 4) hx hb dX10_mindsOf_114 (by decide) ?_
              exact (hG _ _ _).mp (ih4 (f + 1) (by omega) (by omega) _ _ hP hS _ (by rw [bs_n (R := R) (E := E) (w := w_) (h := h) (f := f) (by assumption)]; exact lv_sub hl [2, 3, 1, 0] rfl))
            · have c2 := Decidable.not_not.mp (mt bI_0.mpr c2)
              refine lv_iconst (v := nI (1)) hx hb dX10_mindsOf_102 (by decide) ?_
              refine lv_iload_n hx hb dX10_mindsOf_103 rfl (lv_at hl 3 rfl) ?_
              refine lv_ishl hx hb dX10_mindsOf_104 ?_
              refine tp_i (z := nI (2 ^ f)) (sh_bit f (by omega)) ?_
              refine lv_goto (tgt := 109) hx hb dX10_mindsOf_105 (by decide) ?_
              refine lv_ior hx hb dX10_mindsOf_109 ?_
              refine tp_i (z := nI (bs_ R E w_ h f + 2 ^ f)) (or_bit f (by omega) _ hbl_) ?_
              refine lv_istore_n (lv' := [(2, .int (nI (bs_ R E w_ h f + 2 ^ f))), (0, .ref (b 0)), (1, .int (nI (w_))), (3, .int (nI (f))), (4, .int (bI (so R E w_ f h))), (5, .int (nI (h)))]) hx hb dX10_mindsOf_110 rfl hl (by decide) rfl (fun ls hl => ?_)
              refine lv_iinc (v := nI (f + 1)) (lv' := [(3, .int (nI (f + 1))), (2, .int (nI (bs_ R E w_ h f + 2 ^ f))), (0, .ref (b 0)), (1, .int (nI (w_))), (4, .int (bI (so R E w_ f h))), (5, .int (nI (h)))]) hx hb dX10_mindsOf_111 hl (k := 3) rfl (nI_add (f) 1) (by decide) rfl (fun ls hl => ?_)
              refine lv_goto (tgt := 4) hx hb dX10_mindsOf_114 (by decide) ?_
              exact (hG _ _ _).mp (ih4 (f + 1) (by omega) (by omega) _ _ hP hS _ (by rw [bs_y (R := R) (E := E) (w := w_) (h := h) (f := f) (by assumption)]; exact lv_sub hl [2, 3, 1, 0] rfl))
          · have c1 := mt (nI_leI (by omega) (by omega)).mpr c1
            refine lv_iload hx hb dX10_mindsOf_24 (lv_at hl 4 rfl) ?_
            refine lv_if_eq (tgt := 87) hx hb dX10_mindsOf_26 (by decide) (fun c3 => ?_) (fun c3 => ?_)
            · have c3 := bI_0.mp c3
              refine lv_iconst (v := nI (0)) hx hb dX10_mindsOf_87 (by decide) ?_
              refine lv_istore (lv' := [(4, .int (nI (0))), (0, .ref (b 0)), (1, .int (nI (w_))), (2, .int (nI (bs_ R E w_ h f))), (3, .int (nI (f))), (5, .int (nI (i)))]) hx hb dX10_mindsOf_88 hl (by decide) rfl (fun ls hl => ?_)
              refine lv_iinc (v := nI (i + 1)) (lv' := [(5, .int (nI (i + 1))), (4, .int (nI (0))), (0, .ref (b 0)), (1, .int (nI (w_))), (2, .int (nI (bs_ R E w_ h f))), (3, .int (nI (f)))]) hx hb dX10_mindsOf_90 hl (k := 5) rfl (nI_add (i) 1) (by decide) rfl (fun ls hl => ?_)
              refine lv_goto (tgt := 15) hx hb dX10_mindsOf_93 (by decide) ?_
              exact (hG _ _ _).mp (ih15 (i + 1) (by omega) (by omega) (by omega) _ _ hP hS _ (by rw [bI_f (c := so R E w_ f (i + 1)) (fun q => by first | exact (show ¬ so R E w_ f i by assumption) (fun j hj => q j (by omega)) | (have q2 := q i (by omega) (by assumption); omega))]; exact lv_sub hl [2, 3, 4, 5, 1, 0] rfl))
            · have c3 := Decidable.not_not.mp (mt bI_0.mpr c3)
              refine lv_aload_n hx hb dX10_mindsOf_29 rfl (lv_at hl 0 rfl) ?_
              refine va_get (D := (dC, dI)) (ci := 10) (v := .ref (b 8)) (C := RX10) (T := TX10) (N := 26) hx hb hts (fun _ h => List.mem_cons_of_mem _ (List.mem_append_right _ (h))) hown hK.1 hP 0 rfl rfl 17 (by decide) (hts (Cond.fieldLink RX10 31 "WorstVoiceModel" "heards" "[I") (List.mem_of_getElem? (i := 2) rfl)) (fun _ h9 => h9) rfl dX10_mindsOf_30 ?_
              refine lv_iconst (v := nI (4)) hx hb dX10_mindsOf_33 (by decide) ?_
              refine lv_iload hx hb dX10_mindsOf_34 (lv_at hl 5 rfl) ?_
              refine lv_imul hx hb dX10_mindsOf_36 ?_
              refine tp_i (z := nI (4 * i)) (pk_mul (4) (i)) ?_
              refine va_iald hx hb hK.1 hP 2 0 rfl rfl (vp_in_nI (by omega) (by decide)) dX10_mindsOf_37 ?_
              refine tp_i (z := nI (E (4 * i))) (ld_n (fun ii => nI (E ii)) (by omega)) ?_
              refine lv_iload_n hx hb dX10_mindsOf_38 rfl (lv_at hl 1 rfl) ?_
              refine lv_icmp_ne (tgt := 83) hx hb dX10_mindsOf_39 (by decide) (fun c4 => ?_) (fun c4 => ?_)
              · have c4 := mt (nI_eq (by omega) (by omega)).mpr c4
                refine lv_iconst (v := nI (1)) hx hb dX10_mindsOf_83 (by decide) ?_
                refine lv_goto (tgt := 88) hx hb dX10_mindsOf_84 (by decide) ?_
                refine lv_istore (lv' := [(4, .int (nI (1))), (0, .ref (b 0)), (1, .int (nI (w_))), (2, .int (nI (bs_ R E w_ h f))), (3, .int (nI (f))), (5, .int (nI (i)))]) hx hb dX10_mindsOf_88 hl (by decide) rfl (fun ls hl => ?_)
                refine lv_iinc (v := nI (i + 1)) (lv' := [(5, .int (nI (i + 1))), (4, .int (nI (1))), (0, .ref (b 0)), (1, .int (nI (w_))), (2, .int (nI (bs_ R E w_ h f))), (3, .int (nI (f)))]) hx hb dX10_mindsOf_90 hl (k := 5) rfl (nI_add (i) 1) (by decide) rfl (fun ls hl => ?_)
                refine lv_goto (tgt := 15) hx hb dX10_mindsOf_93 (by decide) ?_
                exact (hG _ _ _).mp (ih15 (i + 1) (by omega) (by omega) (by omega) _ _ hP hS _ (by rw [bI_t (c := so R E w_ f (i + 1)) (so_s (by assumption) (fun q => by first | exact absurd q (by assumption) | (symm; assumption) | assumption))]; exact lv_sub hl [2, 3, 4, 5, 1, 0] rfl))
              · have c4 := (nI_eq (by omega) (by omega)).mp c4
                refine lv_aload_n hx hb dX10_mindsOf_42 rfl (lv_at hl 0 rfl) ?_
                refine lv_aload_n hx hb dX10_mindsOf_43 rfl (lv_at hl 0 rfl) ?_
                refine va_get (D := (dC, dI)) (ci := 10) (v := .ref (b 8)) (C := RX10) (T := TX10) (N := 26) hx hb hts (fun _ h => List.mem_cons_of_mem _ (List.mem_append_right _ (h))) hown hK.1 hP 0 rfl rfl 17 (by decide) (hts (Cond.fieldLink RX10 31 "WorstVoiceModel" "heards" "[I") (List.mem_of_getElem? (i := 2) rfl)) (fun _ h9 => h9) rfl dX10_mindsOf_44 ?_
                refine lv_iconst (v := nI (4)) hx hb dX10_mindsOf_47 (by decide) ?_
                refine lv_iload hx hb dX10_mindsOf_48 (lv_at hl 5 rfl) ?_
                refine lv_imul hx hb dX10_mindsOf_50 ?_
                refine tp_i (z := nI (4 * i)) (pk_mul (4) (i)) ?_
                refine lv_iconst (v := nI (1)) hx hb dX10_mindsOf_51 (by decide) ?_
                refine lv_iadd hx hb dX10_mindsOf_52 ?_
                refine tp_i (z := nI (4 * i + 1)) (nI_add (4 * i) (1)) ?_
                refine va_iald hx hb hK.1 hP 2 0 rfl rfl (vp_in_nI (by omega) (by decide)) dX10_mindsOf_53 ?_
                refine tp_i (z := nI (E (4 * i + 1))) (ld_n (fun ii => nI (E ii)) (by omega)) ?_
                refine lv_aload_n hx hb dX10_mindsOf_54 rfl (lv_at hl 0 rfl) ?_
                refine va_get (D := (dC, dI)) (ci := 10) (v := .ref (b 8)) (C := RX10) (T := TX10) (N := 26) hx hb hts (fun _ h => List.mem_cons_of_mem _ (List.mem_append_right _ (h))) hown hK.1 hP 0 rfl rfl 17 (by decide) (hts (Cond.fieldLink RX10 31 "WorstVoiceModel" "heards" "[I") (List.mem_of_getElem? (i := 2) rfl)) (fun _ h9 => h9) rfl dX10_mindsOf_55 ?_
                refine lv_iconst (v := nI (4)) hx hb dX10_mindsOf_58 (by decide) ?_
                refine lv_iload hx hb dX10_mindsOf_59 (lv_at hl 5 rfl) ?_
                refine lv_imul hx hb dX10_mindsOf_61 ?_
                refine tp_i (z := nI (4 * i)) (pk_mul (4) (i)) ?_
                refine lv_iconst (v := nI (2)) hx hb dX10_mindsOf_62 (by decide) ?_
                refine lv_iadd hx hb dX10_mindsOf_63 ?_
                refine tp_i (z := nI (4 * i + 2)) (nI_add (4 * i) (2)) ?_
                refine va_iald hx hb hK.1 hP 2 0 rfl rfl (vp_in_nI (by omega) (by decide)) dX10_mindsOf_64 ?_
                refine tp_i (z := nI (E (4 * i + 2))) (ld_n (fun ii => nI (E ii)) (by omega)) ?_
                refine lv_iload_n hx hb dX10_mindsOf_65 rfl (lv_at hl 3 rfl) ?_
                refine ro_calli (va_runV (As := [.int (nI (E (4 * i + 1))), .int (nI (E (4 * i + 2))), .int (nI (f))]) (rest := []) ⟨hx, hb, hml, hown, hts⟩ (c_X10_isMore l dC dI cI b pm r_s r_w st n w wk tr nd (nI (h)) sd kt kw kh hz R hR hn (E (4 * i + 1)) (E (4 * i + 2)) (f) (by omega) (by omega) (by omega)) (cwV 3 hts gX10_mindsOf_X10_isMore rfl rfl rfl (by decide +kernel) ⟨Nat.le_of_ble_eq_true rfl, Nat.le_of_ble_eq_true rfl⟩) (ro_pv hK hP [0, 1] rfl (ci := 10) (q0 := 0) (C := RX10) (T := TX10) (N := 26) rfl rfl) rfl rfl hl.1 rfl (lv_room (Nat.le_of_ble_eq_true rfl)) dX10_mindsOf_66 ⟨Nat.zero_le _, Nat.zero_le _⟩) hS hP (fun r5 H locs hr5 hP hS => ?_)
                subst hr5
                refine tp_i (z := nI (if hb_ R (E (4 * i + 2)) f < hb_ R (E (4 * i + 1)) f then 1 else 0)) bI_01 ?_
                have hif : (if hb_ R (E (4 * i + 2)) f < hb_ R (E (4 * i + 1)) f then 1 else 0) ≤ 1 := by split <;> omega
                refine lv_aload_n hx hb dX10_mindsOf_69 rfl (lv_at hl 0 rfl) ?_
                refine va_get (D := (dC, dI)) (ci := 10) (v := .ref (b 8)) (C := RX10) (T := TX10) (N := 26) hx hb hts (fun _ h => List.mem_cons_of_mem _ (List.mem_append_right _ (h))) hown hK.1 hP 0 rfl rfl 17 (by decide) (hts (Cond.fieldLink RX10 31 "WorstVoiceModel" "heards" "[I") (List.mem_of_getElem? (i := 2) rfl)) (fun _ h9 => h9) rfl dX10_mindsOf_70 ?_
                refine lv_iconst (v := nI (4)) hx hb dX10_mindsOf_73 (by decide) ?_
                refine lv_iload hx hb dX10_mindsOf_74 (lv_at hl 5 rfl) ?_
                refine lv_imul hx hb dX10_mindsOf_76 ?_
                refine tp_i (z := nI (4 * i)) (pk_mul (4) (i)) ?_
                refine lv_iconst (v := nI (3)) hx hb dX10_mindsOf_77 (by decide) ?_
                refine lv_iadd hx hb dX10_mindsOf_78 ?_
                refine tp_i (z := nI (4 * i + 3)) (nI_add (4 * i) (3)) ?_
                refine va_iald hx hb hK.1 hP 2 0 rfl rfl (vp_in_nI (by omega) (by decide)) dX10_mindsOf_79 ?_
                refine tp_i (z := nI (E (4 * i + 3))) (ld_n (fun ii => nI (E ii)) (by omega)) ?_
                refine lv_icmp_ne (tgt := 87) hx hb dX10_mindsOf_80 (by decide) (fun c6 => ?_) (fun c6 => ?_)
                · have c6 := mt (nI_eq (by omega) (by omega)).mpr c6
                  refine lv_iconst (v := nI (0)) hx hb dX10_mindsOf_87 (by decide) ?_
                  refine lv_istore (lv' := [(4, .int (nI (0))), (0, .ref (b 0)), (1, .int (nI (w_))), (2, .int (nI (bs_ R E w_ h f))), (3, .int (nI (f))), (5, .int (nI (i)))]) hx hb dX10_mindsOf_88 hl (by decide) rfl (fun ls hl => ?_)
                  refine lv_iinc (v := nI (i + 1)) (lv' := [(5, .int (nI (i + 1))), (4, .int (nI (0))), (0, .ref (b 0)), (1, .int (nI (w_))), (2, .int (nI (bs_ R E w_ h f))), (3, .int (nI (f)))]) hx hb dX10_mindsOf_90 hl (k := 5) rfl (nI_add (i) 1) (by decide) rfl (fun ls hl => ?_)
                  refine lv_goto (tgt := 15) hx hb dX10_mindsOf_93 (by decide) ?_
                  exact (hG _ _ _).mp (ih15 (i + 1) (by omega) (by omega) (by omega) _ _ hP hS _ (by rw [bI_f (c := so R E w_ f (i + 1)) (fun q => by first | exact (show ¬ so R E w_ f i by assumption) (fun j hj => q j (by omega)) | (have q2 := q i (by omega) (by assumption); omega))]; exact lv_sub hl [2, 3, 4, 5, 1, 0] rfl))
                · have c6 := (nI_eq (by omega) (by omega)).mp c6
                  refine lv_iconst (v := nI (1)) hx hb dX10_mindsOf_83 (by decide) ?_
                  refine lv_goto (tgt := 88) hx hb dX10_mindsOf_84 (by decide) ?_
                  refine lv_istore (lv' := [(4, .int (nI (1))), (0, .ref (b 0)), (1, .int (nI (w_))), (2, .int (nI (bs_ R E w_ h f))), (3, .int (nI (f))), (5, .int (nI (i)))]) hx hb dX10_mindsOf_88 hl (by decide) rfl (fun ls hl => ?_)
                  refine lv_iinc (v := nI (i + 1)) (lv' := [(5, .int (nI (i + 1))), (4, .int (nI (1))), (0, .ref (b 0)), (1, .int (nI (w_))), (2, .int (nI (bs_ R E w_ h f))), (3, .int (nI (f)))]) hx hb dX10_mindsOf_90 hl (k := 5) rfl (nI_add (i) 1) (by decide) rfl (fun ls hl => ?_)
                  refine lv_goto (tgt := 15) hx hb dX10_mindsOf_93 (by decide) ?_
                  exact (hG _ _ _).mp (ih15 (i + 1) (by omega) (by omega) (by omega) _ _ hP hS _ (by rw [bI_t (c := so R E w_ f (i + 1)) (so_s (by assumption) (fun q => by first | exact absurd q (by assumption) | (symm; assumption) | assumption))]; exact lv_sub hl [2, 3, 4, 5, 1, 0] rfl))
      refine (hG _ _ _).mpr ?_
      refine lv_iload_n hx hb dX10_mindsOf_4 rfl (lv_at hl 3 rfl) ?_
      refine lv_iconst (v := nI (4)) hx hb dX10_mindsOf_5 (by decide) ?_
      refine lv_icmp_ge (tgt := 117) hx hb dX10_mindsOf_6 (by decide) (fun c7 => ?_) (fun c7 => ?_)
      · have c7 := (nI_leI (by decide) (by omega)).mp c7
        refine lv_iload_n hx hb dX10_mindsOf_117 rfl (lv_at hl 2 rfl) ?_
        exact W.iret hx hb hr (fun t ht hW => ⟨⟨_, (), rfl, (by rw [show f = 4 by omega]), trivial⟩, hS.F ht⟩) hS.2.2 dX10_mindsOf_118
      · have c7 := mt (nI_leI (by decide) (by omega)).mpr c7
        refine lv_iconst (v := nI (1)) hx hb dX10_mindsOf_9 (by decide) ?_
        refine lv_istore (lv' := [(4, .int (nI (1))), (0, .ref (b 0)), (1, .int (nI (w_))), (2, .int (nI (bs_ R E w_ h f))), (3, .int (nI (f)))]) hx hb dX10_mindsOf_10 hl (by decide) rfl (fun ls hl => ?_)
        refine lv_iconst (v := nI (0)) hx hb dX10_mindsOf_12 (by decide) ?_
        refine lv_istore (lv' := [(5, .int (nI (0))), (4, .int (nI (1))), (0, .ref (b 0)), (1, .int (nI (w_))), (2, .int (nI (bs_ R E w_ h f))), (3, .int (nI (f)))]) hx hb dX10_mindsOf_13 hl (by decide) rfl (fun ls hl => ?_)
        exact (hG _ _ _).mp (L15 (h + 1) (0) (by omega) (by omega) (by omega) _ _ hP hS _ (by rw [bI_t (c := so R E w_ f 0) (fun j hj => absurd hj (by omega))]; exact lv_sub hl [2, 3, 4, 5, 1, 0] rfl))
  refine (hG _ _ _).mpr ?_
  refine lv_iconst (v := nI (0)) hx hb dX10_mindsOf_0 (by decide) ?_
  refine lv_istore_n (lv' := [(2, .int (nI (0))), (0, .ref (b 0)), (1, .int (nI (w_)))]) hx hb dX10_mindsOf_1 rfl hl (by decide) rfl (fun ls hl => ?_)
  refine lv_iconst (v := nI (0)) hx hb dX10_mindsOf_2 (by decide) ?_
  refine lv_istore_n (lv' := [(3, .int (nI (0))), (2, .int (nI (0))), (0, .ref (b 0)), (1, .int (nI (w_)))]) hx hb dX10_mindsOf_3 rfl hl (by decide) rfl (fun ls hl => ?_)
  exact (hG _ _ _).mp (L4 (4 + 1) (0) (by omega) (by omega) _ _ hP hS _ (lv_sub hl [2, 3, 1, 0] rfl))
