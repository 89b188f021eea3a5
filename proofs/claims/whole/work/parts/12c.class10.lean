/-! the class: singers and widows told -/
set_option maxHeartbeats 4000000 in
set_option maxRecDepth 100000 in
theorem c_X9_singer (l : Launch) (dC : Nat → ClassId) (dI : Nat → Nat → Nat) (cI : ClassId) (sz : Nat) (a : Nat → Nat) (ik tr nd : Int32) (R mi : Nat → Nat) (n w : Nat) (wk : Int32) (R2 mi2 : Nat → Nat) (n2 w2 : Nat) (wk2 : Int32) (hR : WR R) (hn : n ≤ 4) (hw : w ≤ 5) (hm : ∀ k, k < w → mi k < 4) (x y : Int32) : Met l yX9_singer wsX9_singer ({ frames := 5, cells := 0, slots := 0, locals := 147 } : Room) (muP dC dI cI ([xoW a ik tr nd] ++ chW cI (fun k => a (3 + k)) (a 36) R mi n w wk ++ chW cI (fun k => a (17 + k)) (a 36) R2 mi2 n2 w2 wk2 ++ voW (fun k => a (36 + k))) sz [.ref (a 0), .int (x), .int (y)]) (muI (S := (Nat → Nat) × (Nat → Nat) × Nat × Nat × Int32) dC dI ([xoW a ik tr nd] ++ chW cI (fun k => a (3 + k)) (a 36) R mi n w wk ++ chW cI (fun k => a (17 + k)) (a 36) R2 mi2 n2 w2 wk2 ++ voW (fun k => a (36 + k))) sz (fun u => [xoW a ik tr nd] ++ chW cI (fun k => a (3 + k)) (a 36) R mi n w wk ++ chW cI (fun k => a (17 + k)) (a 36) u.1 u.2.1 u.2.2.1 u.2.2.2.1 u.2.2.2.2 ++ voW (fun k => a (36 + k))) (fun r _ => r = vS R mi n w x y)) 0 0 (va_A ([xoW a ik tr nd] ++ chW cI (fun k => a (3 + k)) (a 36) R mi n w wk ++ chW cI (fun k => a (17 + k)) (a 36) R2 mi2 n2 w2 wk2 ++ voW (fun k => a (36 + k))) sz) := by
  refine Met.ofW (cc := cX9_singer) (maxL := 3) (ret := (some .int)) (by decide) rfl ?_
  intro p e s m args below meth c s₁ B hml hv
  obtain ⟨rfl, hsz, hP, hK, hD0⟩ := hv
  have hx := B.exec
  have hb := B.bytes
  have hr := B.returns
  have hts := atoms_spec (ws := wsX9_singer) B.pre
  have hown : s.vm.findClass RX9 = some m.cls := findClass_of_methodNamed B.named
  have hlocks := B.notSynchronized
  subst hsz
  unfold muI muB
  have hD := hD0.self (sz := s.heap.size)
  generalize hAe : va_A ([xoW a ik tr nd] ++ chW cI (fun k => a (3 + k)) (a 36) R mi n w wk ++ chW cI (fun k => a (17 + k)) (a 36) R2 mi2 n2 w2 wk2 ++ voW (fun k => a (36 + k))) s.heap.size = A at hD ⊢
  have hA : ∀ q : Nat, s.heap.size ≤ q → A q := fun q h => by rw [← hAe]; exact Or.inr h
  have hS : va_S A s.heap s.heap [] := va_S.rf
  have hl := lv_entry ([.ref (a 0), .int (x), .int (y)]) (n := 3) (Nat.le_of_ble_eq_true rfl)
  rw [lg_entry_eq]
  generalize (lg_sl ([.ref (a 0), .int (x), .int (y)]) ++ List.replicate (3 - (lg_sl ([.ref (a 0), .int (x), .int (y)])).length) Slot.unset).toArray = ls at hl ⊢
  have hl : lv_has ls 3 [(0, .ref (a 0)), (1, .int (x)), (2, .int (y))] := hl
  refine lv_aload_n hx hb dX9_singer_0 rfl (lv_at hl 0 rfl) ?_
  refine va_get (D := (dC, dI)) (ci := 9) (v := .ref (a 3)) (C := RX9) (T := TX9) (N := 11) hx hb hts (fun _ h => List.mem_cons_of_mem _ (List.mem_append_left _ (List.mem_append_left _ (List.mem_append_right _ (h))))) hown hK.1 hP 0 rfl rfl 1 (by decide) (hts (Cond.fieldLink RX9 41 "WorstVoice" "choir" "LWorstVoice$Choir;") (List.mem_of_getElem? (i := 1) rfl)) (fun _ h9 => h9) rfl dX9_singer_1 ?_
  refine lv_iload_n hx hb dX9_singer_4 rfl (lv_at hl 1 rfl) ?_
  refine ro_calli (va_runV (As := [.int (x)]) (rest := []) ⟨hx, hb, hml, hown, hts⟩ (c_X1_hasSinger l dC dI cI (fun k => a (3 + k)) (a 36) R mi n w wk (by omega) (by omega) (x)) (cwV 1 hts gX9_singer_X1_hasSinger rfl rfl rfl (by decide +kernel) ⟨Nat.le_of_ble_eq_true rfl, Nat.le_of_ble_eq_true rfl⟩) (ro_pv hK hP [1, 2, 3, 4, 5, 6, 7] rfl (ci := 1) (q0 := 1) (C := RX1) (T := TX1) (N := 10) rfl rfl) rfl rfl hl.1 rfl (lv_room (Nat.le_of_ble_eq_true rfl)) dX9_singer_5 ⟨Nat.zero_le _, Nat.zero_le _⟩) hS hP (fun r1 H locs hr1 hP hS => ?_)
  subst hr1
  refine lv_if_ne (tgt := 14) hx hb dX9_singer_8 (by decide) (fun c2 => ?_) (fun c2 => ?_)
  · have c2 := Decidable.not_not.mp (mt bI_0.mpr c2)
    obtain ⟨s_, hs, hsj, rfl⟩ := inR_of (show inR x n by first | assumption | (constructor <;> omega))
    have hl : lv_has ls 3 [(0, .ref (a 0)), (1, .int (nI (s_))), (2, .int (y))] := hl
    refine lv_iload_n hx hb dX9_singer_14 rfl (lv_at hl 2 rfl) ?_
    by_cases hx7 : inR y 7
    · obtain ⟨k_, hk_, hk_j, rfl⟩ := inR_of hx7
      rcases (show k_ = 0 ∨ k_ = 1 ∨ k_ = 2 ∨ k_ = 3 ∨ k_ = 4 ∨ k_ = 5 ∨ k_ = 6 by omega) with rfl | rfl | rfl | rfl | rfl | rfl | rfl
      · have hl : lv_has ls 3 [(0, .ref (a 0)), (1, .int (nI (s_))), (2, .int (nI (0)))] := hl
        refine lv_tableIn (tgt := 56) hx hb dX9_singer_15 (by decide) (by decide) (off := 41) (by decide) (by decide) ?_
        refine lv_aload_n hx hb dX9_singer_56 rfl (lv_at hl 0 rfl) ?_
        refine va_get (D := (dC, dI)) (ci := 9) (v := .ref (a 3)) (C := RX9) (T := TX9) (N := 11) hx hb hts (fun _ h => List.mem_cons_of_mem _ (List.mem_append_left _ (List.mem_append_left _ (List.mem_append_right _ (h))))) hown hK.1 hP 0 rfl rfl 1 (by decide) (hts (Cond.fieldLink RX9 41 "WorstVoice" "choir" "LWorstVoice$Choir;") (List.mem_of_getElem? (i := 1) rfl)) (fun _ h9 => h9) rfl dX9_singer_57 ?_
        refine lv_iload_n hx hb dX9_singer_60 rfl (lv_at hl 1 rfl) ?_
        refine ro_callr (va_runV (As := [.int (nI (s_))]) (rest := []) ⟨hx, hb, hml, hown, hts⟩ (c_X1_voice l dC dI cI (fun k => a (3 + k)) (fun k => a (36 + k)) R mi n w wk hR (by omega) (by omega) (s_) (by omega)) (cwV 1 hts gX9_singer_X1_voice rfl rfl rfl (by decide +kernel) ⟨Nat.le_of_ble_eq_true rfl, Nat.le_of_ble_eq_true rfl⟩) (ro_pv hK hP [1, 2, 3, 4, 5, 6, 7, 15, 16, 17, 18, 19, 20] rfl (ci := 1) (q0 := 1) (C := RX1) (T := TX1) (N := 10) rfl rfl) rfl rfl hl.1 rfl (lv_room (Nat.le_of_ble_eq_true rfl)) dX9_singer_61 ⟨Nat.zero_le _, Nat.zero_le _⟩) hS hP (fun r3 H locs hr3 hP hS => ?_)
        subst hr3
        have hk5 := hR.k (s := s_) (by omega)
        rcases (show R (8 * s_) = 0 ∨ R (8 * s_) = 1 ∨ R (8 * s_) = 2 ∨ R (8 * s_) = 3 ∨ R (8 * s_) = 4 by omega) with hk | hk | hk | hk | hk
        · refine W.eq (g2 := F0 m 64 ls [.ref (a 37)]) (by first | (rw [hk]; done) | (rw [hk]; rfl)) ?_
          refine ro_calli (va_runV (As := []) (rest := []) ⟨hx, hb, hml, hown, hts⟩ (c_X6_number l dC dI cI (a 37)) (cwV 0 hts gX9_singer_X6_number rfl rfl rfl (by decide +kernel) ⟨Nat.le_of_ble_eq_true rfl, Nat.le_of_ble_eq_true rfl⟩) (ro_pv hK hP [16] rfl (ci := 6) (q0 := 16) (C := RX6) (T := TX6) (N := 0) rfl rfl) rfl rfl hl.1 rfl (lv_room (Nat.le_of_ble_eq_true rfl)) dX9_singer_64 ⟨Nat.zero_le _, Nat.zero_le _⟩) hS hP (fun r4 H locs hr4 hP hS => ?_)
          subst hr4
          exact W.iret hx hb hr (fun t ht hW => ⟨⟨_, (R2, mi2, n2, w2, wk2), rfl, (vS_e hs hn (by decide) (congrArg nI hk)), by rw [ht]; exact hP, hD.as rfl⟩, hS.F ht⟩) hS.2.2 dX9_singer_67
        · refine W.eq (g2 := F0 m 64 ls [.ref (a 38)]) (by first | (rw [hk]; done) | (rw [hk]; rfl)) ?_
          refine ro_calli (va_runU (As := []) (rest := []) ⟨hx, hb, hml, hown, hts⟩ (c_X7_number l dC dI cI (a 38)) (va_cwO 0 hts gX9_singer_X7_number_u94X7 rfl rfl rfl (b0 := cX6_number) (m0 := 1) (r0 := some .int) (List.mem_of_getElem? (i := 32) rfl) (by decide +kernel) ⟨Nat.le_of_ble_eq_true rfl, Nat.le_of_ble_eq_true rfl⟩) (ro_pv hK hP [17] rfl (ci := 7) (q0 := 17) (C := RX7) (T := TX7) (N := 0) rfl rfl) rfl rfl hl.1 rfl (lv_room (Nat.le_of_ble_eq_true rfl)) dX9_singer_64 ⟨Nat.zero_le _, Nat.zero_le _⟩) hS hP (fun r5 H locs hr5 hP hS => ?_)
          subst hr5
          exact W.iret hx hb hr (fun t ht hW => ⟨⟨_, (R2, mi2, n2, w2, wk2), rfl, (vS_e hs hn (by decide) (congrArg nI hk)), by rw [ht]; exact hP, hD.as rfl⟩, hS.F ht⟩) hS.2.2 dX9_singer_67
        · refine W.eq (g2 := F0 m 64 ls [.ref (a 39)]) (by first | (rw [hk]; done) | (rw [hk]; rfl)) ?_
          refine ro_calli (va_runU (As := []) (rest := []) ⟨hx, hb, hml, hown, hts⟩ (c_X0_number l dC dI cI (a 39)) (va_cwO 0 hts gX9_singer_X0_number_u94X0 rfl rfl rfl (b0 := cX6_number) (m0 := 1) (r0 := some .int) (List.mem_of_getElem? (i := 32) rfl) (by decide +kernel) ⟨Nat.le_of_ble_eq_true rfl, Nat.le_of_ble_eq_true rfl⟩) (ro_pv hK hP [18] rfl (ci := 0) (q0 := 18) (C := RX0) (T := TX0) (N := 0) rfl rfl) rfl rfl hl.1 rfl (lv_room (Nat.le_of_ble_eq_true rfl)) dX9_singer_64 ⟨Nat.zero_le _, Nat.zero_le _⟩) hS hP (fun r6 H locs hr6 hP hS => ?_)
          subst hr6
          exact W.iret hx hb hr (fun t ht hW => ⟨⟨_, (R2, mi2, n2, w2, wk2), rfl, (vS_e hs hn (by decide) (congrArg nI hk)), by rw [ht]; exact hP, hD.as rfl⟩, hS.F ht⟩) hS.2.2 dX9_singer_67
        · refine W.eq (g2 := F0 m 64 ls [.ref (a 40)]) (by first | (rw [hk]; done) | (rw [hk]; rfl)) ?_
          refine ro_calli (va_runU (As := []) (rest := []) ⟨hx, hb, hml, hown, hts⟩ (c_X3_number l dC dI cI (a 40)) (va_cwO 0 hts gX9_singer_X3_number_u94X3 rfl rfl rfl (b0 := cX6_number) (m0 := 1) (r0 := some .int) (List.mem_of_getElem? (i := 32) rfl) (by decide +kernel) ⟨Nat.le_of_ble_eq_true rfl, Nat.le_of_ble_eq_true rfl⟩) (ro_pv hK hP [19] rfl (ci := 3) (q0 := 19) (C := RX3) (T := TX3) (N := 0) rfl rfl) rfl rfl hl.1 rfl (lv_room (Nat.le_of_ble_eq_true rfl)) dX9_singer_64 ⟨Nat.zero_le _, Nat.zero_le _⟩) hS hP (fun r7 H locs hr7 hP hS => ?_)
          subst hr7
          exact W.iret hx hb hr (fun t ht hW => ⟨⟨_, (R2, mi2, n2, w2, wk2), rfl, (vS_e hs hn (by decide) (congrArg nI hk)), by rw [ht]; exact hP, hD.as rfl⟩, hS.F ht⟩) hS.2.2 dX9_singer_67
        · refine W.eq (g2 := F0 m 64 ls [.ref (a 41)]) (by first | (rw [hk]; done) | (rw [hk]; rfl)) ?_
          refine ro_calli (va_runU (As := []) (rest := []) ⟨hx, hb, hml, hown, hts⟩ (c_X2_number l dC dI cI (a 41)) (va_cwO 0 hts gX9_singer_X2_number_u94X2 rfl rfl rfl (b0 := cX6_number) (m0 := 1) (r0 := some .int) (List.mem_of_getElem? (i := 32) rfl) (by decide +kernel) ⟨Nat.le_of_ble_eq_true rfl, Nat.le_of_ble_eq_true rfl⟩) (ro_pv hK hP [20] rfl (ci := 2) (q0 := 20) (C := RX2) (T := TX2) (N := 0) rfl rfl) rfl rfl hl.1 rfl (lv_room (Nat.le_of_ble_eq_true rfl)) dX9_singer_64 ⟨Nat.zero_le _, Nat.zero_le _⟩) hS hP (fun r8 H locs hr8 hP hS => ?_)
          subst hr8
          exact W.iret hx hb hr (fun t ht hW => ⟨⟨_, (R2, mi2, n2, w2, wk2), rfl, (vS_e hs hn (by decide) (congrArg nI hk)), by rw [ht]; exact hP, hD.as rfl⟩, hS.F ht⟩) hS.2.2 dX9_singer_67
      · have hl : lv_has ls 3 [(0, .ref (a 0)), (1, .int (nI (s_))), (2, .int (nI (1)))] := hl
        refine lv_tableIn (tgt := 68) hx hb dX9_singer_15 (by decide) (by decide) (off := 53) (by decide) (by decide) ?_
        refine lv_aload_n hx hb dX9_singer_68 rfl (lv_at hl 0 rfl) ?_
        refine va_get (D := (dC, dI)) (ci := 9) (v := .ref (a 3)) (C := RX9) (T := TX9) (N := 11) hx hb hts (fun _ h => List.mem_cons_of_mem _ (List.mem_append_left _ (List.mem_append_left _ (List.mem_append_right _ (h))))) hown hK.1 hP 0 rfl rfl 1 (by decide) (hts (Cond.fieldLink RX9 41 "WorstVoice" "choir" "LWorstVoice$Choir;") (List.mem_of_getElem? (i := 1) rfl)) (fun _ h9 => h9) rfl dX9_singer_69 ?_
        refine lv_iload_n hx hb dX9_singer_72 rfl (lv_at hl 1 rfl) ?_
        refine ro_calli (va_runV (As := [.int (nI (s_))]) (rest := []) ⟨hx, hb, hml, hown, hts⟩ (c_X1_votes l dC dI cI (fun k => a (3 + k)) (fun k => a (36 + k)) R mi n w wk hR (by omega) (by omega) (by omega) hm (s_) (by omega)) (cwV 1 hts gX9_singer_X1_votes rfl rfl rfl (by decide +kernel) ⟨Nat.le_of_ble_eq_true rfl, Nat.le_of_ble_eq_true rfl⟩) (ro_pv hK hP [1, 2, 3, 4, 5, 6, 7, 15, 16, 17, 18, 19, 20] rfl (ci := 1) (q0 := 1) (C := RX1) (T := TX1) (N := 10) rfl rfl) rfl rfl hl.1 rfl (lv_room (Nat.le_of_ble_eq_true rfl)) dX9_singer_73 ⟨Nat.zero_le _, Nat.zero_le _⟩) hS hP (fun r9 H locs hr9 hP hS => ?_)
        subst hr9
        have hb8 := vt_le R mi n (s_) w
        exact W.iret hx hb hr (fun t ht hW => ⟨⟨_, (R2, mi2, n2, w2, wk2), rfl, (vS_e hs hn (by decide) rfl), by rw [ht]; exact hP, hD.as rfl⟩, hS.F ht⟩) hS.2.2 dX9_singer_76
      · have hl : lv_has ls 3 [(0, .ref (a 0)), (1, .int (nI (s_))), (2, .int (nI (2)))] := hl
        refine lv_tableIn (tgt := 77) hx hb dX9_singer_15 (by decide) (by decide) (off := 62) (by decide) (by decide) ?_
        refine lv_aload_n hx hb dX9_singer_77 rfl (lv_at hl 0 rfl) ?_
        refine va_get (D := (dC, dI)) (ci := 9) (v := .ref (a 3)) (C := RX9) (T := TX9) (N := 11) hx hb hts (fun _ h => List.mem_cons_of_mem _ (List.mem_append_left _ (List.mem_append_left _ (List.mem_append_right _ (h))))) hown hK.1 hP 0 rfl rfl 1 (by decide) (hts (Cond.fieldLink RX9 41 "WorstVoice" "choir" "LWorstVoice$Choir;") (List.mem_of_getElem? (i := 1) rfl)) (fun _ h9 => h9) rfl dX9_singer_78 ?_
        refine lv_iload_n hx hb dX9_singer_81 rfl (lv_at hl 1 rfl) ?_
        refine ro_calli (va_runV (As := [.int (nI (s_))]) (rest := []) ⟨hx, hb, hml, hown, hts⟩ (c_X1_coldOf l dC dI cI (fun k => a (3 + k)) (a 36) R mi n w wk (by omega) (by omega) (s_) (by omega)) (cwV 1 hts gX9_singer_X1_coldOf rfl rfl rfl (by decide +kernel) ⟨Nat.le_of_ble_eq_true rfl, Nat.le_of_ble_eq_true rfl⟩) (ro_pv hK hP [1, 2, 3, 4, 5, 6, 7] rfl (ci := 1) (q0 := 1) (C := RX1) (T := TX1) (N := 10) rfl rfl) rfl rfl hl.1 rfl (lv_room (Nat.le_of_ble_eq_true rfl)) dX9_singer_82 ⟨Nat.zero_le _, Nat.zero_le _⟩) hS hP (fun r10 H locs hr10 hP hS => ?_)
        subst hr10
        exact W.iret hx hb hr (fun t ht hW => ⟨⟨_, (R2, mi2, n2, w2, wk2), rfl, (vS_e hs hn (by decide) rfl), by rw [ht]; exact hP, hD.as rfl⟩, hS.F ht⟩) hS.2.2 dX9_singer_85
      · have hl : lv_has ls 3 [(0, .ref (a 0)), (1, .int (nI (s_))), (2, .int (nI (3)))] := hl
        refine lv_tableIn (tgt := 86) hx hb dX9_singer_15 (by decide) (by decide) (off := 71) (by decide) (by decide) ?_
        refine lv_aload_n hx hb dX9_singer_86 rfl (lv_at hl 0 rfl) ?_
        refine va_get (D := (dC, dI)) (ci := 9) (v := .ref (a 3)) (C := RX9) (T := TX9) (N := 11) hx hb hts (fun _ h => List.mem_cons_of_mem _ (List.mem_append_left _ (List.mem_append_left _ (List.mem_append_right _ (h))))) hown hK.1 hP 0 rfl rfl 1 (by decide) (hts (Cond.fieldLink RX9 41 "WorstVoice" "choir" "LWorstVoice$Choir;") (List.mem_of_getElem? (i := 1) rfl)) (fun _ h9 => h9) rfl dX9_singer_87 ?_
        refine lv_iload_n hx hb dX9_singer_90 rfl (lv_at hl 1 rfl) ?_
        refine ro_calli (va_runV (As := [.int (nI (s_))]) (rest := []) ⟨hx, hb, hml, hown, hts⟩ (c_X1_leftOf l dC dI cI (fun k => a (3 + k)) (a 36) R mi n w wk (by omega) (by omega) (s_) (by omega)) (cwV 1 hts gX9_singer_X1_leftOf rfl rfl rfl (by decide +kernel) ⟨Nat.le_of_ble_eq_true rfl, Nat.le_of_ble_eq_true rfl⟩) (ro_pv hK hP [1, 2, 3, 4, 5, 6, 7] rfl (ci := 1) (q0 := 1) (C := RX1) (T := TX1) (N := 10) rfl rfl) rfl rfl hl.1 rfl (lv_room (Nat.le_of_ble_eq_true rfl)) dX9_singer_91 ⟨Nat.zero_le _, Nat.zero_le _⟩) hS hP (fun r11 H locs hr11 hP hS => ?_)
        subst hr11
        exact W.iret hx hb hr (fun t ht hW => ⟨⟨_, (R2, mi2, n2, w2, wk2), rfl, (vS_e hs hn (by decide) rfl), by rw [ht]; exact hP, hD.as rfl⟩, hS.F ht⟩) hS.2.2 dX9_singer_94
      · have hl : lv_has ls 3 [(0, .ref (a 0)), (1, .int (nI (s_))), (2, .int (nI (4)))] := hl
        refine lv_tableIn (tgt := 95) hx hb dX9_singer_15 (by decide) (by decide) (off := 80) (by decide) (by decide) ?_
        refine lv_aload_n hx hb dX9_singer_95 rfl (lv_at hl 0 rfl) ?_
        refine va_get (D := (dC, dI)) (ci := 9) (v := .ref (a 3)) (C := RX9) (T := TX9) (N := 11) hx hb hts (fun _ h => List.mem_cons_of_mem _ (List.mem_append_left _ (List.mem_append_left _ (List.mem_append_right _ (h))))) hown hK.1 hP 0 rfl rfl 1 (by decide) (hts (Cond.fieldLink RX9 41 "WorstVoice" "choir" "LWorstVoice$Choir;") (List.mem_of_getElem? (i := 1) rfl)) (fun _ h9 => h9) rfl dX9_singer_96 ?_
        refine lv_iload_n hx hb dX9_singer_99 rfl (lv_at hl 1 rfl) ?_
        refine ro_calli (va_runV (As := [.int (nI (s_))]) (rest := []) ⟨hx, hb, hml, hown, hts⟩ (c_X1_honeyOf l dC dI cI (fun k => a (3 + k)) (a 36) R mi n w wk (by omega) (by omega) (s_) (by omega)) (cwV 1 hts gX9_singer_X1_honeyOf rfl rfl rfl (by decide +kernel) ⟨Nat.le_of_ble_eq_true rfl, Nat.le_of_ble_eq_true rfl⟩) (ro_pv hK hP [1, 2, 3, 4, 5, 6, 7] rfl (ci := 1) (q0 := 1) (C := RX1) (T := TX1) (N := 10) rfl rfl) rfl rfl hl.1 rfl (lv_room (Nat.le_of_ble_eq_true rfl)) dX9_singer_100 ⟨Nat.zero_le _, Nat.zero_le _⟩) hS hP (fun r12 H locs hr12 hP hS => ?_)
        subst hr12
        exact W.iret hx hb hr (fun t ht hW => ⟨⟨_, (R2, mi2, n2, w2, wk2), rfl, (vS_e hs hn (by decide) rfl), by rw [ht]; exact hP, hD.as rfl⟩, hS.F ht⟩) hS.2.2 dX9_singer_103
      · have hl : lv_has ls 3 [(0, .ref (a 0)), (1, .int (nI (s_))), (2, .int (nI (5)))] := hl
        refine lv_tableIn (tgt := 104) hx hb dX9_singer_15 (by decide) (by decide) (off := 89) (by decide) (by decide) ?_
        refine lv_aload_n hx hb dX9_singer_104 rfl (lv_at hl 0 rfl) ?_
        refine lv_iload_n hx hb dX9_singer_105 rfl (lv_at hl 1 rfl) ?_
        refine mu_calli (wr := []) (wn := (fun u13 => [((a 0), .inr (9, [.ref (a 1), .ref (a 3), .ref (a 10), .ref (a 17), .ref (a 24), .ref (a 29), .ref (a 34), .ref (a 35), .int (ik), .int (tr), .int (nd)])), ((a 3), .inr (1, [.ref (a 36), .ref (a 4), .ref (a 5), .ref (a 6), .ref (a 7), .ref (a 8), .ref (a 9), .int (nI (n)), .int (nI (w)), .int (wk)])), ((a 4), .inl (cI, 4, .inl (fun ii => nI (R (8 * ii))))), ((a 5), .inl (cI, 16, .inl (fun ii => nI (R (8 * (ii / 4) + 1 + ii % 4))))), ((a 6), .inl (cI, 4, .inl (fun ii => nI (R (8 * ii + 5))))), ((a 7), .inl (cI, 4, .inl (fun ii => nI (R (8 * ii + 6))))), ((a 8), .inl (cI, 4, .inl (fun ii => nI (R (8 * ii + 7))))), ((a 9), .inl (cI, 5, .inl (fun ii => nI (mi ii)))), ((a 17), .inr (1, [.ref (a 36), .ref (a 18), .ref (a 19), .ref (a 20), .ref (a 21), .ref (a 22), .ref (a 23), .int (nI (u13.2.2.1)), .int (nI (u13.2.2.2.1)), .int (u13.2.2.2.2)])), ((a 18), .inl (cI, 4, .inl (fun ii => nI ((u13.1) (8 * ii))))), ((a 19), .inl (cI, 16, .inl (fun ii => nI ((u13.1) (8 * (ii / 4) + 1 + ii % 4))))), ((a 20), .inl (cI, 4, .inl (fun ii => nI ((u13.1) (8 * ii + 5))))), ((a 21), .inl (cI, 4, .inl (fun ii => nI ((u13.1) (8 * ii + 6))))), ((a 22), .inl (cI, 4, .inl (fun ii => nI ((u13.1) (8 * ii + 7))))), ((a 23), .inl (cI, 5, .inl (fun ii => nI ((u13.2.1) ii)))), ((a 36), .inr (8, [.ref (a 37), .ref (a 38), .ref (a 39), .ref (a 40), .ref (a 41)])), ((a 37), .inr (6, [])), ((a 38), .inr (7, [])), ((a 39), .inr (0, [])), ((a 40), .inr (3, [])), ((a 41), .inr (2, []))])) (va_runV (As := [.int (nI (s_))]) (rest := []) ⟨hx, hb, hml, hown, hts⟩ (c_X9_worstAndVotes l dC dI cI _ a ik tr nd R mi n w wk R2 mi2 n2 w2 wk2 hR hn hw hm s_ (by omega)) (cwV 1 hts gX9_singer_X9_worstAndVotes rfl rfl rfl (by decide +kernel) ⟨Nat.le_of_ble_eq_true rfl, Nat.le_of_ble_eq_true rfl⟩) (mu_pv hK hP hD [0, 1, 2, 3, 4, 5, 6, 7, 8, 9, 10, 11, 12, 13, 14, 15, 16, 17, 18, 19, 20] (by decide) rfl rfl (ci := 9) (q0 := 0) (C := RX9) (T := TX9) (N := 11) rfl rfl) rfl rfl hl.1 rfl (lv_room (Nat.le_of_ble_eq_true rfl)) dX9_singer_106 ⟨Nat.zero_le _, Nat.zero_le _⟩) hS hA hP hD [0, 1, 2, 3, 4, 5, 6, 7, 8, 9, 10, 11, 12, 13, 14, 15, 16, 17, 18, 19, 20] [] [0, 1, 2, 3, 4, 5, 6, 7, 8, 9, 10, 11, 12, 13, 14, 15, 16, 17, 18, 19, 20] rfl rfl (by decide) (by decide) (by decide) (fun _ => rfl) (fun _ => rfl) (fun r14 u13 H locs hr14 hP hD hS => ?_)
        subst hr14
        have hP : va_P (dC, dI) vwCl [((a 0), .inr (9, [.ref (a 1), .ref (a 3), .ref (a 10), .ref (a 17), .ref (a 24), .ref (a 29), .ref (a 34), .ref (a 35), .int (ik), .int (tr), .int (nd)])), ((a 3), .inr (1, [.ref (a 36), .ref (a 4), .ref (a 5), .ref (a 6), .ref (a 7), .ref (a 8), .ref (a 9), .int (nI (n)), .int (nI (w)), .int (wk)])), ((a 4), .inl (cI, 4, .inl (fun ii => nI (R (8 * ii))))), ((a 5), .inl (cI, 16, .inl (fun ii => nI (R (8 * (ii / 4) + 1 + ii % 4))))), ((a 6), .inl (cI, 4, .inl (fun ii => nI (R (8 * ii + 5))))), ((a 7), .inl (cI, 4, .inl (fun ii => nI (R (8 * ii + 6))))), ((a 8), .inl (cI, 4, .inl (fun ii => nI (R (8 * ii + 7))))), ((a 9), .inl (cI, 5, .inl (fun ii => nI (mi ii)))), ((a 17), .inr (1, [.ref (a 36), .ref (a 18), .ref (a 19), .ref (a 20), .ref (a 21), .ref (a 22), .ref (a 23), .int (nI (u13.2.2.1)), .int (nI (u13.2.2.2.1)), .int (u13.2.2.2.2)])), ((a 18), .inl (cI, 4, .inl (fun ii => nI ((u13.1) (8 * ii))))), ((a 19), .inl (cI, 16, .inl (fun ii => nI ((u13.1) (8 * (ii / 4) + 1 + ii % 4))))), ((a 20), .inl (cI, 4, .inl (fun ii => nI ((u13.1) (8 * ii + 5))))), ((a 21), .inl (cI, 4, .inl (fun ii => nI ((u13.1) (8 * ii + 6))))), ((a 22), .inl (cI, 4, .inl (fun ii => nI ((u13.1) (8 * ii + 7))))), ((a 23), .inl (cI, 5, .inl (fun ii => nI ((u13.2.1) ii)))), ((a 36), .inr (8, [.ref (a 37), .ref (a 38), .ref (a 39), .ref (a 40), .ref (a 41)])), ((a 37), .inr (6, [])), ((a 38), .inr (7, [])), ((a 39), .inr (0, [])), ((a 40), .inr (3, [])), ((a 41), .inr (2, []))] H := hP
        have hD : va_D A [((a 0), .inr (9, [.ref (a 1), .ref (a 3), .ref (a 10), .ref (a 17), .ref (a 24), .ref (a 29), .ref (a 34), .ref (a 35), .int (ik), .int (tr), .int (nd)])), ((a 3), .inr (1, [.ref (a 36), .ref (a 4), .ref (a 5), .ref (a 6), .ref (a 7), .ref (a 8), .ref (a 9), .int (nI (n)), .int (nI (w)), .int (wk)])), ((a 4), .inl (cI, 4, .inl (fun ii => nI (R (8 * ii))))), ((a 5), .inl (cI, 16, .inl (fun ii => nI (R (8 * (ii / 4) + 1 + ii % 4))))), ((a 6), .inl (cI, 4, .inl (fun ii => nI (R (8 * ii + 5))))), ((a 7), .inl (cI, 4, .inl (fun ii => nI (R (8 * ii + 6))))), ((a 8), .inl (cI, 4, .inl (fun ii => nI (R (8 * ii + 7))))), ((a 9), .inl (cI, 5, .inl (fun ii => nI (mi ii)))), ((a 17), .inr (1, [.ref (a 36), .ref (a 18), .ref (a 19), .ref (a 20), .ref (a 21), .ref (a 22), .ref (a 23), .int (nI (u13.2.2.1)), .int (nI (u13.2.2.2.1)), .int (u13.2.2.2.2)])), ((a 18), .inl (cI, 4, .inl (fun ii => nI ((u13.1) (8 * ii))))), ((a 19), .inl (cI, 16, .inl (fun ii => nI ((u13.1) (8 * (ii / 4) + 1 + ii % 4))))), ((a 20), .inl (cI, 4, .inl (fun ii => nI ((u13.1) (8 * ii + 5))))), ((a 21), .inl (cI, 4, .inl (fun ii => nI ((u13.1) (8 * ii + 6))))), ((a 22), .inl (cI, 4, .inl (fun ii => nI ((u13.1) (8 * ii + 7))))), ((a 23), .inl (cI, 5, .inl (fun ii => nI ((u13.2.1) ii)))), ((a 36), .inr (8, [.ref (a 37), .ref (a 38), .ref (a 39), .ref (a 40), .ref (a 41)])), ((a 37), .inr (6, [])), ((a 38), .inr (7, [])), ((a 39), .inr (0, [])), ((a 40), .inr (3, [])), ((a 41), .inr (2, []))] := hD
        have hwa := am_lt (wv R mi n w s_) 4 (by decide)
        have hwb := wv_le R mi n w s_ (am (wv R mi n w s_) 4)
        refine lv_iconst (v := nI (4)) hx hb dX9_singer_109 (by decide) ?_
        refine lv_irem hx hb dX9_singer_110 (by decide) ?_
        refine tp_i (z := nI ((4 * wv R mi n w s_ (am (wv R mi n w s_) 4) + am (wv R mi n w s_) 4) % 4)) (pk_rem (by omega) (by decide) (by decide)) ?_
        exact W.iret hx hb hr (fun t ht hW => ⟨⟨_, u13, rfl, (vS_e hs hn (by decide) (congrArg nI (show am (wv R mi n w s_) 4 = (4 * wv R mi n w s_ (am (wv R mi n w s_) 4) + am (wv R mi n w s_) 4) % 4 by omega))), by rw [ht]; exact hP, hD.as rfl⟩, hS.F ht⟩) hS.2.2 dX9_singer_111
      · have hl : lv_has ls 3 [(0, .ref (a 0)), (1, .int (nI (s_))), (2, .int (nI (6)))] := hl
        refine lv_tableIn (tgt := 112) hx hb dX9_singer_15 (by decide) (by decide) (off := 97) (by decide) (by decide) ?_
        refine lv_aload_n hx hb dX9_singer_112 rfl (lv_at hl 0 rfl) ?_
        refine lv_iload_n hx hb dX9_singer_113 rfl (lv_at hl 1 rfl) ?_
        refine mu_calli (wr := []) (wn := (fun u15 => [((a 0), .inr (9, [.ref (a 1), .ref (a 3), .ref (a 10), .ref (a 17), .ref (a 24), .ref (a 29), .ref (a 34), .ref (a 35), .int (ik), .int (tr), .int (nd)])), ((a 3), .inr (1, [.ref (a 36), .ref (a 4), .ref (a 5), .ref (a 6), .ref (a 7), .ref (a 8), .ref (a 9), .int (nI (n)), .int (nI (w)), .int (wk)])), ((a 4), .inl (cI, 4, .inl (fun ii => nI (R (8 * ii))))), ((a 5), .inl (cI, 16, .inl (fun ii => nI (R (8 * (ii / 4) + 1 + ii % 4))))), ((a 6), .inl (cI, 4, .inl (fun ii => nI (R (8 * ii + 5))))), ((a 7), .inl (cI, 4, .inl (fun ii => nI (R (8 * ii + 6))))), ((a 8), .inl (cI, 4, .inl (fun ii => nI (R (8 * ii + 7))))), ((a 9), .inl (cI, 5, .inl (fun ii => nI (mi ii)))), ((a 17), .inr (1, [.ref (a 36), .ref (a 18), .ref (a 19), .ref (a 20), .ref (a 21), .ref (a 22), .ref (a 23), .int (nI (u15.2.2.1)), .int (nI (u15.2.2.2.1)), .int (u15.2.2.2.2)])), ((a 18), .inl (cI, 4, .inl (fun ii => nI ((u15.1) (8 * ii))))), ((a 19), .inl (cI, 16, .inl (fun ii => nI ((u15.1) (8 * (ii / 4) + 1 + ii % 4))))), ((a 20), .inl (cI, 4, .inl (fun ii => nI ((u15.1) (8 * ii + 5))))), ((a 21), .inl (cI, 4, .inl (fun ii => nI ((u15.1) (8 * ii + 6))))), ((a 22), .inl (cI, 4, .inl (fun ii => nI ((u15.1) (8 * ii + 7))))), ((a 23), .inl (cI, 5, .inl (fun ii => nI ((u15.2.1) ii)))), ((a 36), .inr (8, [.ref (a 37), .ref (a 38), .ref (a 39), .ref (a 40), .ref (a 41)])), ((a 37), .inr (6, [])), ((a 38), .inr (7, [])), ((a 39), .inr (0, [])), ((a 40), .inr (3, [])), ((a 41), .inr (2, []))])) (va_runV (As := [.int (nI (s_))]) (rest := []) ⟨hx, hb, hml, hown, hts⟩ (c_X9_worstAndVotes l dC dI cI _ a ik tr nd R mi n w wk R2 mi2 n2 w2 wk2 hR hn hw hm s_ (by omega)) (cwV 1 hts gX9_singer_X9_worstAndVotes rfl rfl rfl (by decide +kernel) ⟨Nat.le_of_ble_eq_true rfl, Nat.le_of_ble_eq_true rfl⟩) (mu_pv hK hP hD [0, 1, 2, 3, 4, 5, 6, 7, 8, 9, 10, 11, 12, 13, 14, 15, 16, 17, 18, 19, 20] (by decide) rfl rfl (ci := 9) (q0 := 0) (C := RX9) (T := TX9) (N := 11) rfl rfl) rfl rfl hl.1 rfl (lv_room (Nat.le_of_ble_eq_true rfl)) dX9_singer_114 ⟨Nat.zero_le _, Nat.zero_le _⟩) hS hA hP hD [0, 1, 2, 3, 4, 5, 6, 7, 8, 9, 10, 11, 12, 13, 14, 15, 16, 17, 18, 19, 20] [] [0, 1, 2, 3, 4, 5, 6, 7, 8, 9, 10, 11, 12, 13, 14, 15, 16, 17, 18, 19, 20] rfl rfl (by decide) (by decide) (by decide) (fun _ => rfl) (fun _ => rfl) (fun r16 u15 H locs hr16 hP hD hS => ?_)
        subst hr16
        have hP : va_P (dC, dI) vwCl [((a 0), .inr (9, [.ref (a 1), .ref (a 3), .ref (a 10), .ref (a 17), .ref (a 24), .ref (a 29), .ref (a 34), .ref (a 35), .int (ik), .int (tr), .int (nd)])), ((a 3), .inr (1, [.ref (a 36), .ref (a 4), .ref (a 5), .ref (a 6), .ref (a 7), .ref (a 8), .ref (a 9), .int (nI (n)), .int (nI (w)), .int (wk)])), ((a 4), .inl (cI, 4, .inl (fun ii => nI (R (8 * ii))))), ((a 5), .inl (cI, 16, .inl (fun ii => nI (R (8 * (ii / 4) + 1 + ii % 4))))), ((a 6), .inl (cI, 4, .inl (fun ii => nI (R (8 * ii + 5))))), ((a 7), .inl (cI, 4, .inl (fun ii => nI (R (8 * ii + 6))))), ((a 8), .inl (cI, 4, .inl (fun ii => nI (R (8 * ii + 7))))), ((a 9), .inl (cI, 5, .inl (fun ii => nI (mi ii)))), ((a 17), .inr (1, [.ref (a 36), .ref (a 18), .ref (a 19), .ref (a 20), .ref (a 21), .ref (a 22), .ref (a 23), .int (nI (u15.2.2.1)), .int (nI (u15.2.2.2.1)), .int (u15.2.2.2.2)])), ((a 18), .inl (cI, 4, .inl (fun ii => nI ((u15.1) (8 * ii))))), ((a 19), .inl (cI, 16, .inl (fun ii => nI ((u15.1) (8 * (ii / 4) + 1 + ii % 4))))), ((a 20), .inl (cI, 4, .inl (fun ii => nI ((u15.1) (8 * ii + 5))))), ((a 21), .inl (cI, 4, .inl (fun ii => nI ((u15.1) (8 * ii + 6))))), ((a 22), .inl (cI, 4, .inl (fun ii => nI ((u15.1) (8 * ii + 7))))), ((a 23), .inl (cI, 5, .inl (fun ii => nI ((u15.2.1) ii)))), ((a 36), .inr (8, [.ref (a 37), .ref (a 38), .ref (a 39), .ref (a 40), .ref (a 41)])), ((a 37), .inr (6, [])), ((a 38), .inr (7, [])), ((a 39), .inr (0, [])), ((a 40), .inr (3, [])), ((a 41), .inr (2, []))] H := hP
        have hD : va_D A [((a 0), .inr (9, [.ref (a 1), .ref (a 3), .ref (a 10), .ref (a 17), .ref (a 24), .ref (a 29), .ref (a 34), .ref (a 35), .int (ik), .int (tr), .int (nd)])), ((a 3), .inr (1, [.ref (a 36), .ref (a 4), .ref (a 5), .ref (a 6), .ref (a 7), .ref (a 8), .ref (a 9), .int (nI (n)), .int (nI (w)), .int (wk)])), ((a 4), .inl (cI, 4, .inl (fun ii => nI (R (8 * ii))))), ((a 5), .inl (cI, 16, .inl (fun ii => nI (R (8 * (ii / 4) + 1 + ii % 4))))), ((a 6), .inl (cI, 4, .inl (fun ii => nI (R (8 * ii + 5))))), ((a 7), .inl (cI, 4, .inl (fun ii => nI (R (8 * ii + 6))))), ((a 8), .inl (cI, 4, .inl (fun ii => nI (R (8 * ii + 7))))), ((a 9), .inl (cI, 5, .inl (fun ii => nI (mi ii)))), ((a 17), .inr (1, [.ref (a 36), .ref (a 18), .ref (a 19), .ref (a 20), .ref (a 21), .ref (a 22), .ref (a 23), .int (nI (u15.2.2.1)), .int (nI (u15.2.2.2.1)), .int (u15.2.2.2.2)])), ((a 18), .inl (cI, 4, .inl (fun ii => nI ((u15.1) (8 * ii))))), ((a 19), .inl (cI, 16, .inl (fun ii => nI ((u15.1) (8 * (ii / 4) + 1 + ii % 4))))), ((a 20), .inl (cI, 4, .inl (fun ii => nI ((u15.1) (8 * ii + 5))))), ((a 21), .inl (cI, 4, .inl (fun ii => nI ((u15.1) (8 * ii + 6))))), ((a 22), .inl (cI, 4, .inl (fun ii => nI ((u15.1) (8 * ii + 7))))), ((a 23), .inl (cI, 5, .inl (fun ii => nI ((u15.2.1) ii)))), ((a 36), .inr (8, [.ref (a 37), .ref (a 38), .ref (a 39), .ref (a 40), .ref (a 41)])), ((a 37), .inr (6, [])), ((a 38), .inr (7, [])), ((a 39), .inr (0, [])), ((a 40), .inr (3, [])), ((a 41), .inr (2, []))] := hD
        have hwa := am_lt (wv R mi n w s_) 4 (by decide)
        have hwb := wv_le R mi n w s_ (am (wv R mi n w s_) 4)
        refine lv_iconst (v := nI (4)) hx hb dX9_singer_117 (by decide) ?_
        refine lv_idiv hx hb dX9_singer_118 (by decide) ?_
        refine tp_i (z := nI ((4 * wv R mi n w s_ (am (wv R mi n w s_) 4) + am (wv R mi n w s_) 4) / 4)) (pk_div (by omega) (by decide) (by decide)) ?_
        exact W.iret hx hb hr (fun t ht hW => ⟨⟨_, u15, rfl, (vS_e hs hn (by decide) (congrArg nI (show wv R mi n w s_ (am (wv R mi n w s_) 4) = (4 * wv R mi n w s_ (am (wv R mi n w s_) 4) + am (wv R mi n w s_) 4) / 4 by omega))), by rw [ht]; exact hP, hD.as rfl⟩, hS.F ht⟩) hS.2.2 dX9_singer_119
    · refine lv_tableOut (tgt := 120) hx hb dX9_singer_15 (by omega) (by decide) ?_
      refine lv_aload_n hx hb dX9_singer_120 rfl (lv_at hl 0 rfl) ?_
      refine lv_iload_n hx hb dX9_singer_121 rfl (lv_at hl 1 rfl) ?_
      refine lv_iload_n hx hb dX9_singer_122 rfl (lv_at hl 2 rfl) ?_
      refine ro_calli (va_runV (As := [.int (nI (s_)), .int (y)]) (rest := []) ⟨hx, hb, hml, hown, hts⟩ (c_X9_singersFault l dC dI cI a ik tr nd R mi n w wk hR hn hw hm s_ (by omega) (y) hx7) (cwV 2 hts gX9_singer_X9_singersFault rfl rfl rfl (by decide +kernel) ⟨Nat.le_of_ble_eq_true rfl, Nat.le_of_ble_eq_true rfl⟩) (ro_pv hK hP [0, 1, 2, 3, 4, 5, 6, 7, 15, 16, 17, 18, 19, 20] rfl (ci := 9) (q0 := 0) (C := RX9) (T := TX9) (N := 11) rfl rfl) rfl rfl hl.1 rfl (lv_room (Nat.le_of_ble_eq_true rfl)) dX9_singer_123 ⟨Nat.zero_le _, Nat.zero_le _⟩) hS hP (fun r17 H locs hr17 hP hS => ?_)
      subst hr17
      exact W.iret hx hb hr (fun t ht hW => ⟨⟨_, (R2, mi2, n2, w2, wk2), rfl, (vS_t hs hn).symm, by rw [ht]; exact hP, hD.as rfl⟩, hS.F ht⟩) hS.2.2 dX9_singer_126
  · have c2 := bI_0.mp c2
    refine lv_bipush (v := -101) hx hb dX9_singer_11 (by decide) ?_
    exact W.iret hx hb hr (fun t ht hW => ⟨⟨_, (R2, mi2, n2, w2, wk2), rfl, (vS_f (by assumption)).symm, by rw [ht]; exact hP, hD.as rfl⟩, hS.F ht⟩) hS.2.2 dX9_singer_13

set_option maxHeartbeats 4000000 in
set_option maxRecDepth 100000 in
theorem c_X9_as (l : Launch) (dC : Nat → ClassId) (dI : Nat → Nat → Nat) (cI : ClassId) (a : Nat → Nat) (ik tr nd : Int32) (R mi : Nat → Nat) (n w : Nat) (wk : Int32) (hR : WR R) (hn : n ≤ 4) (hw : w ≤ 5) (hm : ∀ k, k < w → mi k < 4) (x y : Int32) : Met l yX9_as wsX9_as ({ frames := 2, cells := 0, slots := 0, locals := 42 } : Room) (roP dC dI cI ([xoW a ik tr nd] ++ chW cI (fun k => a (3 + k)) (a 36) R mi n w wk ++ voW (fun k => a (36 + k))) [.ref (a 0), .int (x), .int (y)]) (roI (fun r => r = vA R n x y)) 0 0 (fun _ => False) := by
  refine Met.ofW (cc := cX9_as) (maxL := 3) (ret := (some .int)) (by decide) rfl ?_
  intro p e s m args below meth c s₁ B hml hv
  obtain ⟨rfl, hP, hK⟩ := hv
  have hx := B.exec
  have hb := B.bytes
  have hr := B.returns
  have hts := atoms_spec (ws := wsX9_as) B.pre
  have hown : s.vm.findClass RX9 = some m.cls := findClass_of_methodNamed B.named
  have hlocks := B.notSynchronized
  have hS : va_S (fun _ => False) s.heap s.heap [] := va_S.rf
  have hl := lv_entry ([.ref (a 0), .int (x), .int (y)]) (n := 3) (Nat.le_of_ble_eq_true rfl)
  rw [lg_entry_eq]
  generalize (lg_sl ([.ref (a 0), .int (x), .int (y)]) ++ List.replicate (3 - (lg_sl ([.ref (a 0), .int (x), .int (y)])).length) Slot.unset).toArray = ls at hl ⊢
  have hl : lv_has ls 3 [(0, .ref (a 0)), (1, .int (x)), (2, .int (y))] := hl
  refine lv_aload_n hx hb dX9_as_0 rfl (lv_at hl 0 rfl) ?_
  refine va_get (D := (dC, dI)) (ci := 9) (v := .ref (a 3)) (C := RX9) (T := TX9) (N := 11) hx hb hts (fun _ h => List.mem_cons_of_mem _ (List.mem_append_left _ (List.mem_append_left _ (List.mem_append_right _ (h))))) hown hK.1 hP 0 rfl rfl 1 (by decide) (hts (Cond.fieldLink RX9 41 "WorstVoice" "choir" "LWorstVoice$Choir;") (List.mem_of_getElem? (i := 1) rfl)) (fun _ h9 => h9) rfl dX9_as_1 ?_
  refine lv_iload_n hx hb dX9_as_4 rfl (lv_at hl 1 rfl) ?_
  refine ro_calli (va_runV (As := [.int (x)]) (rest := []) ⟨hx, hb, hml, hown, hts⟩ (c_X1_hasSinger l dC dI cI (fun k => a (3 + k)) (a 36) R mi n w wk (by omega) (by omega) (x)) (cwV 1 hts gX9_as_X1_hasSinger rfl rfl rfl (by decide +kernel) ⟨Nat.le_of_ble_eq_true rfl, Nat.le_of_ble_eq_true rfl⟩) (ro_pv hK hP [1, 2, 3, 4, 5, 6, 7] rfl (ci := 1) (q0 := 1) (C := RX1) (T := TX1) (N := 10) rfl rfl) rfl rfl hl.1 rfl (lv_room (Nat.le_of_ble_eq_true rfl)) dX9_as_5 ⟨Nat.zero_le _, Nat.zero_le _⟩) hS hP (fun r1 H locs hr1 hP hS => ?_)
  subst hr1
  refine lv_if_ne (tgt := 14) hx hb dX9_as_8 (by decide) (fun c2 => ?_) (fun c2 => ?_)
  · have c2 := Decidable.not_not.mp (mt bI_0.mpr c2)
    obtain ⟨s_, hs, hsj, rfl⟩ := inR_of (show inR x n by first | assumption | (constructor <;> omega))
    have hl : lv_has ls 3 [(0, .ref (a 0)), (1, .int (nI (s_))), (2, .int (y))] := hl
    refine lv_iload_n hx hb dX9_as_14 rfl (lv_at hl 2 rfl) ?_
    refine lv_if_lt (tgt := 23) hx hb dX9_as_15 (by decide) (fun c3 => ?_) (fun c3 => ?_)
    · have c3 := r0_lt.mp c3
      refine lv_bipush (v := -102) hx hb dX9_as_23 (by decide) ?_
      exact W.iret hx hb hr (fun t ht hW => ⟨⟨_, (), rfl, (by first | exact (vA_o hs hn (fun q => by have q1 := q.1; have q2 := q.2; omega)).symm), trivial⟩, hS.F ht⟩) hS.2.2 dX9_as_25
    · have c3 := mt r0_lt.mpr c3
      refine lv_iload_n hx hb dX9_as_18 rfl (lv_at hl 2 rfl) ?_
      refine lv_iconst (v := nI (5)) hx hb dX9_as_19 (by decide) ?_
      refine lv_icmp_lt (tgt := 26) hx hb dX9_as_20 (by decide) (fun c4 => ?_) (fun c4 => ?_)
      · have c4 := (rI_lt (by decide)).mp c4
        obtain ⟨k_, hk, hkj, rfl⟩ := inR_of (show inR y 5 by first | assumption | (constructor <;> omega))
        have hl : lv_has ls 3 [(0, .ref (a 0)), (1, .int (nI (s_))), (2, .int (nI (k_)))] := hl
        refine lv_aload_n hx hb dX9_as_26 rfl (lv_at hl 0 rfl) ?_
        refine va_get (D := (dC, dI)) (ci := 9) (v := .ref (a 3)) (C := RX9) (T := TX9) (N := 11) hx hb hts (fun _ h => List.mem_cons_of_mem _ (List.mem_append_left _ (List.mem_append_left _ (List.mem_append_right _ (h))))) hown hK.1 hP 0 rfl rfl 1 (by decide) (hts (Cond.fieldLink RX9 41 "WorstVoice" "choir" "LWorstVoice$Choir;") (List.mem_of_getElem? (i := 1) rfl)) (fun _ h9 => h9) rfl dX9_as_27 ?_
        refine lv_iload_n hx hb dX9_as_30 rfl (lv_at hl 1 rfl) ?_
        refine ro_callr (va_runV (As := [.int (nI (s_))]) (rest := []) ⟨hx, hb, hml, hown, hts⟩ (c_X1_voice l dC dI cI (fun k => a (3 + k)) (fun k => a (36 + k)) R mi n w wk hR (by omega) (by omega) (s_) (by omega)) (cwV 1 hts gX9_as_X1_voice rfl rfl rfl (by decide +kernel) ⟨Nat.le_of_ble_eq_true rfl, Nat.le_of_ble_eq_true rfl⟩) (ro_pv hK hP [1, 2, 3, 4, 5, 6, 7, 8, 9, 10, 11, 12, 13] rfl (ci := 1) (q0 := 1) (C := RX1) (T := TX1) (N := 10) rfl rfl) rfl rfl hl.1 rfl (lv_room (Nat.le_of_ble_eq_true rfl)) dX9_as_31 ⟨Nat.zero_le _, Nat.zero_le _⟩) hS hP (fun r5 H locs hr5 hP hS => ?_)
        subst hr5
        refine lv_iload_n hx hb dX9_as_34 rfl (lv_at hl 2 rfl) ?_
        refine ro_calli (va_runS (As := [.ref (a (36 + (R (8 * s_) + 1))), .int (nI (k_))]) (rest := []) ⟨hx, hb, hml, hown, hts⟩ (c_X9_isOfKind l dC dI cI (fun k => a (36 + k)) (R (8 * s_)) k_ (hR.k (by omega)) hk) (va_cwS 2 hts gX9_as_X9_isOfKind rfl rfl rfl (by decide +kernel) ⟨Nat.le_of_ble_eq_true rfl, Nat.le_of_ble_eq_true rfl⟩) (ro_ps hK hP [8, 9, 10, 11, 12, 13] rfl) rfl rfl hl.1 rfl (lv_room (Nat.le_of_ble_eq_true rfl)) dX9_as_35 ⟨Nat.zero_le _, Nat.zero_le _⟩) hS hP (fun r6 H locs hr6 hP hS => ?_)
        subst hr6
        refine lv_if_eq (tgt := 45) hx hb dX9_as_38 (by decide) (fun c7 => ?_) (fun c7 => ?_)
        · have c7 := bI_0.mp c7
          refine lv_iconst (v := -1) hx hb dX9_as_45 (by decide) ?_
          exact W.iret hx hb hr (fun t ht hW => ⟨⟨_, (), rfl, (vA_e hs hn hk (if_neg (by assumption))), trivial⟩, hS.F ht⟩) hS.2.2 dX9_as_46
        · have c7 := Decidable.not_not.mp (mt bI_0.mpr c7)
          refine lv_iload_n hx hb dX9_as_41 rfl (lv_at hl 1 rfl) ?_
          refine lv_goto (tgt := 46) hx hb dX9_as_42 (by decide) ?_
          exact W.iret hx hb hr (fun t ht hW => ⟨⟨_, (), rfl, (vA_e hs hn hk (if_pos (by assumption))), trivial⟩, hS.F ht⟩) hS.2.2 dX9_as_46
      · have c4 := mt (rI_lt (by decide)).mpr c4
        refine lv_bipush (v := -102) hx hb dX9_as_23 (by decide) ?_
        exact W.iret hx hb hr (fun t ht hW => ⟨⟨_, (), rfl, (by first | exact (vA_o hs hn (fun q => by have q1 := q.1; have q2 := q.2; omega)).symm), trivial⟩, hS.F ht⟩) hS.2.2 dX9_as_25
  · have c2 := bI_0.mp c2
    refine lv_bipush (v := -101) hx hb dX9_as_11 (by decide) ?_
    exact W.iret hx hb hr (fun t ht hW => ⟨⟨_, (), rfl, (vA_f (by assumption)).symm, trivial⟩, hS.F ht⟩) hS.2.2 dX9_as_13

set_option maxHeartbeats 4000000 in
set_option maxRecDepth 100000 in
theorem c_X9_widow (l : Launch) (dC : Nat → ClassId) (dI : Nat → Nat → Nat) (cI : ClassId) (a : Nat → Nat) (ik tr nd : Int32) (R mi : Nat → Nat) (n w : Nat) (wk : Int32) (hR : WR R) (hn : n ≤ 4) (hw : w ≤ 5) (hm : ∀ k, k < w → mi k < 4) (E : Nat → Nat) (h : Nat) (hh : h ≤ 8) (hE : ∀ i, i < h → E (4 * i) < 5 ∧ E (4 * i + 1) < n ∧ E (4 * i + 2) < n ∧ E (4 * i + 3) ≤ 1) (hnw : 0 < w → 2 ≤ n) (x y : Int32) : Met l yX9_widow wsX9_widow ({ frames := 5, cells := 0, slots := 0, locals := 138 } : Room) (roP dC dI cI ([xoW a ik tr nd] ++ chW cI (fun k => a (3 + k)) (a 36) R mi n w wk ++ hsW cI (fun k => a (24 + k)) E h ++ voW (fun k => a (36 + k))) [.ref (a 0), .int (x), .int (y)]) (roI (fun r => r = vW R mi E n w h x y)) 0 0 (fun _ => False) := by
  refine Met.ofW (cc := cX9_widow) (maxL := 3) (ret := (some .int)) (by decide) rfl ?_
  intro p e s m args below meth c s₁ B hml hv
  obtain ⟨rfl, hP, hK⟩ := hv
  have hx := B.exec
  have hb := B.bytes
  have hr := B.returns
  have hts := atoms_spec (ws := wsX9_widow) B.pre
  have hown : s.vm.findClass RX9 = some m.cls := findClass_of_methodNamed B.named
  have hlocks := B.notSynchronized
  have hS : va_S (fun _ => False) s.heap s.heap [] := va_S.rf
  have hl := lv_entry ([.ref (a 0), .int (x), .int (y)]) (n := 3) (Nat.le_of_ble_eq_true rfl)
  rw [lg_entry_eq]
  generalize (lg_sl ([.ref (a 0), .int (x), .int (y)]) ++ List.replicate (3 - (lg_sl ([.ref (a 0), .int (x), .int (y)])).length) Slot.unset).toArray = ls at hl ⊢
  have hl : lv_has ls 3 [(0, .ref (a 0)), (1, .int (x)), (2, .int (y))] := hl
  refine lv_aload_n hx hb dX9_widow_0 rfl (lv_at hl 0 rfl) ?_
  refine va_get (D := (dC, dI)) (ci := 9) (v := .ref (a 3)) (C := RX9) (T := TX9) (N := 11) hx hb hts (fun _ h => List.mem_cons_of_mem _ (List.mem_append_left _ (List.mem_append_left _ (List.mem_append_left _ (List.mem_append_right _ (h)))))) hown hK.1 hP 0 rfl rfl 1 (by decide) (hts (Cond.fieldLink RX9 41 "WorstVoice" "choir" "LWorstVoice$Choir;") (List.mem_of_getElem? (i := 1) rfl)) (fun _ h9 => h9) rfl dX9_widow_1 ?_
  refine lv_iload_n hx hb dX9_widow_4 rfl (lv_at hl 1 rfl) ?_
  refine ro_calli (va_runV (As := [.int (x)]) (rest := []) ⟨hx, hb, hml, hown, hts⟩ (c_X1_hasWidow l dC dI cI (fun k => a (3 + k)) (a 36) R mi n w wk (by omega) (by omega) (x)) (cwV 1 hts gX9_widow_X1_hasWidow rfl rfl rfl (by decide +kernel) ⟨Nat.le_of_ble_eq_true rfl, Nat.le_of_ble_eq_true rfl⟩) (ro_pv hK hP [1, 2, 3, 4, 5, 6, 7] rfl (ci := 1) (q0 := 1) (C := RX1) (T := TX1) (N := 10) rfl rfl) rfl rfl hl.1 rfl (lv_room (Nat.le_of_ble_eq_true rfl)) dX9_widow_5 ⟨Nat.zero_le _, Nat.zero_le _⟩) hS hP (fun r1 H locs hr1 hP hS => ?_)
  subst hr1
  refine lv_if_ne (tgt := 14) hx hb dX9_widow_8 (by decide) (fun c2 => ?_) (fun c2 => ?_)
  · have c2 := Decidable.not_not.mp (mt bI_0.mpr c2)
    obtain ⟨w_, hw_, hw_j, rfl⟩ := inR_of (show inR x w by first | assumption | (constructor <;> omega))
    have hl : lv_has ls 3 [(0, .ref (a 0)), (1, .int (nI (w_))), (2, .int (y))] := hl
    refine lv_iload_n hx hb dX9_widow_14 rfl (lv_at hl 2 rfl) ?_
    by_cases hx7 : inR y 5
    · obtain ⟨k_, hk_, hk_j, rfl⟩ := inR_of hx7
      rcases (show k_ = 0 ∨ k_ = 1 ∨ k_ = 2 ∨ k_ = 3 ∨ k_ = 4 by omega) with rfl | rfl | rfl | rfl | rfl
      · have hl : lv_has ls 3 [(0, .ref (a 0)), (1, .int (nI (w_))), (2, .int (nI (0)))] := hl
        refine lv_tableIn (tgt := 48) hx hb dX9_widow_15 (by decide) (by decide) (off := 33) (by decide) (by decide) ?_
        refine lv_aload_n hx hb dX9_widow_48 rfl (lv_at hl 0 rfl) ?_
        refine va_get (D := (dC, dI)) (ci := 9) (v := .ref (a 3)) (C := RX9) (T := TX9) (N := 11) hx hb hts (fun _ h => List.mem_cons_of_mem _ (List.mem_append_left _ (List.mem_append_left _ (List.mem_append_left _ (List.mem_append_right _ (h)))))) hown hK.1 hP 0 rfl rfl 1 (by decide) (hts (Cond.fieldLink RX9 41 "WorstVoice" "choir" "LWorstVoice$Choir;") (List.mem_of_getElem? (i := 1) rfl)) (fun _ h9 => h9) rfl dX9_widow_49 ?_
        refine lv_iload_n hx hb dX9_widow_52 rfl (lv_at hl 1 rfl) ?_
        refine ro_calli (va_runV (As := [.int (nI (w_))]) (rest := []) ⟨hx, hb, hml, hown, hts⟩ (c_X1_minds l dC dI cI (fun k => a (3 + k)) (a 36) R mi n w wk (by omega) (by omega) (w_) (by omega)) (cwV 1 hts gX9_widow_X1_minds rfl rfl rfl (by decide +kernel) ⟨Nat.le_of_ble_eq_true rfl, Nat.le_of_ble_eq_true rfl⟩) (ro_pv hK hP [1, 2, 3, 4, 5, 6, 7] rfl (ci := 1) (q0 := 1) (C := RX1) (T := TX1) (N := 10) rfl rfl) rfl rfl hl.1 rfl (lv_room (Nat.le_of_ble_eq_true rfl)) dX9_widow_53 ⟨Nat.zero_le _, Nat.zero_le _⟩) hS hP (fun r3 H locs hr3 hP hS => ?_)
        subst hr3
        exact W.iret hx hb hr (fun t ht hW => ⟨⟨_, (), rfl, (vW_e hw_ hw (by decide) rfl), trivial⟩, hS.F ht⟩) hS.2.2 dX9_widow_56
      · have hl : lv_has ls 3 [(0, .ref (a 0)), (1, .int (nI (w_))), (2, .int (nI (1)))] := hl
        refine lv_tableIn (tgt := 57) hx hb dX9_widow_15 (by decide) (by decide) (off := 42) (by decide) (by decide) ?_
        refine lv_aload_n hx hb dX9_widow_57 rfl (lv_at hl 0 rfl) ?_
        refine va_get (D := (dC, dI)) (ci := 9) (v := .ref (a 3)) (C := RX9) (T := TX9) (N := 11) hx hb hts (fun _ h => List.mem_cons_of_mem _ (List.mem_append_left _ (List.mem_append_left _ (List.mem_append_left _ (List.mem_append_right _ (h)))))) hown hK.1 hP 0 rfl rfl 1 (by decide) (hts (Cond.fieldLink RX9 41 "WorstVoice" "choir" "LWorstVoice$Choir;") (List.mem_of_getElem? (i := 1) rfl)) (fun _ h9 => h9) rfl dX9_widow_58 ?_
        refine lv_iload_n hx hb dX9_widow_61 rfl (lv_at hl 1 rfl) ?_
        refine ro_calli (va_runV (As := [.int (nI (w_))]) (rest := []) ⟨hx, hb, hml, hown, hts⟩ (c_X1_favourite l dC dI cI (fun k => a (3 + k)) (fun k => a (36 + k)) R mi n w wk hR (by omega) (by omega) (by omega) (w_) (by omega) (hm _ (by omega))) (cwV 1 hts gX9_widow_X1_favourite rfl rfl rfl (by decide +kernel) ⟨Nat.le_of_ble_eq_true rfl, Nat.le_of_ble_eq_true rfl⟩) (ro_pv hK hP [1, 2, 3, 4, 5, 6, 7, 13, 14, 15, 16, 17, 18] rfl (ci := 1) (q0 := 1) (C := RX1) (T := TX1) (N := 10) rfl rfl) rfl rfl hl.1 rfl (lv_room (Nat.le_of_ble_eq_true rfl)) dX9_widow_62 ⟨Nat.zero_le _, Nat.zero_le _⟩) hS hP (fun r4 H locs hr4 hP hS => ?_)
        subst hr4
        have hb3 : fv R (mi (w_)) n < n := am_lt _ n (by omega)
        exact W.iret hx hb hr (fun t ht hW => ⟨⟨_, (), rfl, (vW_e hw_ hw (by decide) rfl), trivial⟩, hS.F ht⟩) hS.2.2 dX9_widow_65
      · have hl : lv_has ls 3 [(0, .ref (a 0)), (1, .int (nI (w_))), (2, .int (nI (2)))] := hl
        refine lv_tableIn (tgt := 66) hx hb dX9_widow_15 (by decide) (by decide) (off := 51) (by decide) (by decide) ?_
        refine lv_aload_n hx hb dX9_widow_66 rfl (lv_at hl 0 rfl) ?_
        refine va_get (D := (dC, dI)) (ci := 9) (v := .ref (a 3)) (C := RX9) (T := TX9) (N := 11) hx hb hts (fun _ h => List.mem_cons_of_mem _ (List.mem_append_left _ (List.mem_append_left _ (List.mem_append_left _ (List.mem_append_right _ (h)))))) hown hK.1 hP 0 rfl rfl 1 (by decide) (hts (Cond.fieldLink RX9 41 "WorstVoice" "choir" "LWorstVoice$Choir;") (List.mem_of_getElem? (i := 1) rfl)) (fun _ h9 => h9) rfl dX9_widow_67 ?_
        refine lv_aload_n hx hb dX9_widow_70 rfl (lv_at hl 0 rfl) ?_
        refine va_get (D := (dC, dI)) (ci := 9) (v := .ref (a 3)) (C := RX9) (T := TX9) (N := 11) hx hb hts (fun _ h => List.mem_cons_of_mem _ (List.mem_append_left _ (List.mem_append_left _ (List.mem_append_left _ (List.mem_append_right _ (h)))))) hown hK.1 hP 0 rfl rfl 1 (by decide) (hts (Cond.fieldLink RX9 41 "WorstVoice" "choir" "LWorstVoice$Choir;") (List.mem_of_getElem? (i := 1) rfl)) (fun _ h9 => h9) rfl dX9_widow_71 ?_
        refine lv_iload_n hx hb dX9_widow_74 rfl (lv_at hl 1 rfl) ?_
        refine ro_calli (va_runV (As := [.int (nI (w_))]) (rest := [.ref (a 3)]) ⟨hx, hb, hml, hown, hts⟩ (c_X1_favourite l dC dI cI (fun k => a (3 + k)) (fun k => a (36 + k)) R mi n w wk hR (by omega) (by omega) (by omega) (w_) (by omega) (hm _ (by omega))) (cwV 1 hts gX9_widow_X1_favourite rfl rfl rfl (by decide +kernel) ⟨Nat.le_of_ble_eq_true rfl, Nat.le_of_ble_eq_true rfl⟩) (ro_pv hK hP [1, 2, 3, 4, 5, 6, 7, 13, 14, 15, 16, 17, 18] rfl (ci := 1) (q0 := 1) (C := RX1) (T := TX1) (N := 10) rfl rfl) rfl rfl hl.1 rfl (lv_room (Nat.le_of_ble_eq_true rfl)) dX9_widow_75 ⟨Nat.zero_le _, Nat.zero_le _⟩) hS hP (fun r5 H locs hr5 hP hS => ?_)
        subst hr5
        have hb4 : fv R (mi (w_)) n < n := am_lt _ n (by omega)
        refine lv_aload_n hx hb dX9_widow_78 rfl (lv_at hl 0 rfl) ?_
        refine va_get (D := (dC, dI)) (ci := 9) (v := .ref (a 3)) (C := RX9) (T := TX9) (N := 11) hx hb hts (fun _ h => List.mem_cons_of_mem _ (List.mem_append_left _ (List.mem_append_left _ (List.mem_append_left _ (List.mem_append_right _ (h)))))) hown hK.1 hP 0 rfl rfl 1 (by decide) (hts (Cond.fieldLink RX9 41 "WorstVoice" "choir" "LWorstVoice$Choir;") (List.mem_of_getElem? (i := 1) rfl)) (fun _ h9 => h9) rfl dX9_widow_79 ?_
        refine lv_iload_n hx hb dX9_widow_82 rfl (lv_at hl 1 rfl) ?_
        refine ro_calli (va_runV (As := [.int (nI (w_))]) (rest := [.int (nI (fv R (mi (w_)) n)), .ref (a 3)]) ⟨hx, hb, hml, hown, hts⟩ (c_X1_minds l dC dI cI (fun k => a (3 + k)) (a 36) R mi n w wk (by omega) (by omega) (w_) (by omega)) (cwV 1 hts gX9_widow_X1_minds rfl rfl rfl (by decide +kernel) ⟨Nat.le_of_ble_eq_true rfl, Nat.le_of_ble_eq_true rfl⟩) (ro_pv hK hP [1, 2, 3, 4, 5, 6, 7] rfl (ci := 1) (q0 := 1) (C := RX1) (T := TX1) (N := 10) rfl rfl) rfl rfl hl.1 rfl (lv_room (Nat.le_of_ble_eq_true rfl)) dX9_widow_83 ⟨Nat.zero_le _, Nat.zero_le _⟩) hS hP (fun r6 H locs hr6 hP hS => ?_)
        subst hr6
        refine ro_calli (va_runV (As := [.int (nI (fv R (mi (w_)) n)), .int (nI (mi w_))]) (rest := []) ⟨hx, hb, hml, hown, hts⟩ (c_X1_bad l dC dI cI (fun k => a (3 + k)) (fun k => a (36 + k)) R mi n w wk hR (by omega) (by omega) (fv R (mi (w_)) n) (mi w_) (by omega) (hm _ (by omega))) (cwV 2 hts gX9_widow_X1_bad rfl rfl rfl (by decide +kernel) ⟨Nat.le_of_ble_eq_true rfl, Nat.le_of_ble_eq_true rfl⟩) (ro_pv hK hP [1, 2, 3, 4, 5, 6, 7, 13, 14, 15, 16, 17, 18] rfl (ci := 1) (q0 := 1) (C := RX1) (T := TX1) (N := 10) rfl rfl) rfl rfl hl.1 rfl (lv_room (Nat.le_of_ble_eq_true rfl)) dX9_widow_86 ⟨Nat.zero_le _, Nat.zero_le _⟩) hS hP (fun r7 H locs hr7 hP hS => ?_)
        subst hr7
        have hb6 := hb_le hR (s := fv R (mi (w_)) n) (f := mi w_) (by omega) (hm _ (by omega))
        exact W.iret hx hb hr (fun t ht hW => ⟨⟨_, (), rfl, (vW_e hw_ hw (by decide) rfl), trivial⟩, hS.F ht⟩) hS.2.2 dX9_widow_89
      · have hl : lv_has ls 3 [(0, .ref (a 0)), (1, .int (nI (w_))), (2, .int (nI (3)))] := hl
        refine lv_tableIn (tgt := 90) hx hb dX9_widow_15 (by decide) (by decide) (off := 75) (by decide) (by decide) ?_
        refine lv_aload_n hx hb dX9_widow_90 rfl (lv_at hl 0 rfl) ?_
        refine lv_iload_n hx hb dX9_widow_91 rfl (lv_at hl 1 rfl) ?_
        refine ro_calli (va_runV (As := [.int (nI (w_))]) (rest := []) ⟨hx, hb, hml, hown, hts⟩ (c_X9_canMind l dC dI cI a ik tr nd R mi n w wk hR hn hw hm E h hh hE (w_) (by omega)) (cwV 1 hts gX9_widow_X9_canMind rfl rfl rfl (by decide +kernel) ⟨Nat.le_of_ble_eq_true rfl, Nat.le_of_ble_eq_true rfl⟩) (ro_pv hK hP [0, 1, 2, 3, 4, 5, 6, 7, 8, 9, 10, 11, 12, 13, 14, 15, 16, 17, 18] rfl (ci := 9) (q0 := 0) (C := RX9) (T := TX9) (N := 11) rfl rfl) rfl rfl hl.1 rfl (lv_room (Nat.le_of_ble_eq_true rfl)) dX9_widow_92 ⟨Nat.zero_le _, Nat.zero_le _⟩) hS hP (fun r8 H locs hr8 hP hS => ?_)
        subst hr8
        have hbl_ : bs_ R E (w_) h 4 < 16 := bs_lt R E (w_) h 4
        exact W.iret hx hb hr (fun t ht hW => ⟨⟨_, (), rfl, (vW_e hw_ hw (by decide) rfl), trivial⟩, hS.F ht⟩) hS.2.2 dX9_widow_95
      · have hl : lv_has ls 3 [(0, .ref (a 0)), (1, .int (nI (w_))), (2, .int (nI (4)))] := hl
        refine lv_tableIn (tgt := 96) hx hb dX9_widow_15 (by decide) (by decide) (off := 81) (by decide) (by decide) ?_
        refine lv_aload_n hx hb dX9_widow_96 rfl (lv_at hl 0 rfl) ?_
        refine lv_iload_n hx hb dX9_widow_97 rfl (lv_at hl 1 rfl) ?_
        refine ro_calli (va_runV (As := [.int (nI (w_))]) (rest := []) ⟨hx, hb, hml, hown, hts⟩ (c_X9_bestAsk l dC dI cI a ik tr nd R mi n w wk hR hn hw hm E h hh hE (w_) (by omega)) (cwV 1 hts gX9_widow_X9_bestAsk rfl rfl rfl (by decide +kernel) ⟨Nat.le_of_ble_eq_true rfl, Nat.le_of_ble_eq_true rfl⟩) (ro_pv hK hP [0, 1, 2, 3, 4, 5, 6, 7, 8, 9, 10, 11, 12, 13, 14, 15, 16, 17, 18] rfl (ci := 9) (q0 := 0) (C := RX9) (T := TX9) (N := 11) rfl rfl) rfl rfl hl.1 rfl (lv_room (Nat.le_of_ble_eq_true rfl)) dX9_widow_98 ⟨Nat.zero_le _, Nat.zero_le _⟩) hS hP (fun r9 H locs hr9 hP hS => ?_)
        subst hr9
        exact W.iret hx hb hr (fun t ht hW => ⟨⟨_, (), rfl, (vW_e hw_ hw (by decide) rfl), trivial⟩, hS.F ht⟩) hS.2.2 dX9_widow_101
    · refine lv_tableOut (tgt := 102) hx hb dX9_widow_15 (by omega) (by decide) ?_
      refine lv_bipush (v := -102) hx hb dX9_widow_102 (by decide) ?_
      exact W.iret hx hb hr (fun t ht hW => ⟨⟨_, (), rfl, (vW_o hw_ hw hx7), trivial⟩, hS.F ht⟩) hS.2.2 dX9_widow_104
  · have c2 := bI_0.mp c2
    refine lv_bipush (v := -101) hx hb dX9_widow_11 (by decide) ?_
    exact W.iret hx hb hr (fun t ht hW => ⟨⟨_, (), rfl, (vW_f (by assumption)).symm, trivial⟩, hS.F ht⟩) hS.2.2 dX9_widow_13

set_option maxHeartbeats 4000000 in
set_option maxRecDepth 100000 in
theorem c_X9_wince (l : Launch) (dC : Nat → ClassId) (dI : Nat → Nat → Nat) (cI : ClassId) (a : Nat → Nat) (ik tr nd : Int32) (R mi : Nat → Nat) (n w : Nat) (wk : Int32) (hR : WR R) (hn : n ≤ 4) (hw : w ≤ 5) (hm : ∀ k, k < w → mi k < 4) (x y : Int32) : Met l yX9_wince wsX9_wince ({ frames := 2, cells := 0, slots := 0, locals := 63 } : Room) (roP dC dI cI ([xoW a ik tr nd] ++ chW cI (fun k => a (3 + k)) (a 36) R mi n w wk ++ voW (fun k => a (36 + k))) [.ref (a 0), .int (x), .int (y)]) (roI (fun r => r = vI R mi n w x y)) 0 0 (fun _ => False) := by
  refine Met.ofW (cc := cX9_wince) (maxL := 3) (ret := (some .int)) (by decide) rfl ?_
  intro p e s m args below meth c s₁ B hml hv
  obtain ⟨rfl, hP, hK⟩ := hv
  have hx := B.exec
  have hb := B.bytes
  have hr := B.returns
  have hts := atoms_spec (ws := wsX9_wince) B.pre
  have hown : s.vm.findClass RX9 = some m.cls := findClass_of_methodNamed B.named
  have hlocks := B.notSynchronized
  have hS : va_S (fun _ => False) s.heap s.heap [] := va_S.rf
  have hl := lv_entry ([.ref (a 0), .int (x), .int (y)]) (n := 3) (Nat.le_of_ble_eq_true rfl)
  rw [lg_entry_eq]
  generalize (lg_sl ([.ref (a 0), .int (x), .int (y)]) ++ List.replicate (3 - (lg_sl ([.ref (a 0), .int (x), .int (y)])).length) Slot.unset).toArray = ls at hl ⊢
  have hl : lv_has ls 3 [(0, .ref (a 0)), (1, .int (x)), (2, .int (y))] := hl
  refine lv_aload_n hx hb dX9_wince_0 rfl (lv_at hl 0 rfl) ?_
  refine va_get (D := (dC, dI)) (ci := 9) (v := .ref (a 3)) (C := RX9) (T := TX9) (N := 11) hx hb hts (fun _ h => List.mem_cons_of_mem _ (List.mem_append_left _ (List.mem_append_left _ (List.mem_append_right _ (h))))) hown hK.1 hP 0 rfl rfl 1 (by decide) (hts (Cond.fieldLink RX9 41 "WorstVoice" "choir" "LWorstVoice$Choir;") (List.mem_of_getElem? (i := 1) rfl)) (fun _ h9 => h9) rfl dX9_wince_1 ?_
  refine lv_iload_n hx hb dX9_wince_4 rfl (lv_at hl 1 rfl) ?_
  refine ro_calli (va_runV (As := [.int (x)]) (rest := []) ⟨hx, hb, hml, hown, hts⟩ (c_X1_hasWidow l dC dI cI (fun k => a (3 + k)) (a 36) R mi n w wk (by omega) (by omega) (x)) (cwV 1 hts gX9_wince_X1_hasWidow rfl rfl rfl (by decide +kernel) ⟨Nat.le_of_ble_eq_true rfl, Nat.le_of_ble_eq_true rfl⟩) (ro_pv hK hP [1, 2, 3, 4, 5, 6, 7] rfl (ci := 1) (q0 := 1) (C := RX1) (T := TX1) (N := 10) rfl rfl) rfl rfl hl.1 rfl (lv_room (Nat.le_of_ble_eq_true rfl)) dX9_wince_5 ⟨Nat.zero_le _, Nat.zero_le _⟩) hS hP (fun r1 H locs hr1 hP hS => ?_)
  subst hr1
  refine lv_if_eq (tgt := 22) hx hb dX9_wince_8 (by decide) (fun c2 => ?_) (fun c2 => ?_)
  · have c2 := bI_0.mp c2
    refine lv_bipush (v := -101) hx hb dX9_wince_22 (by decide) ?_
    exact W.iret hx hb hr (fun t ht hW => ⟨⟨_, (), rfl, (vI_f (fun q => by first | exact absurd q.1 (by assumption) | exact absurd q.2 (by assumption))).symm, trivial⟩, hS.F ht⟩) hS.2.2 dX9_wince_24
  · have c2 := Decidable.not_not.mp (mt bI_0.mpr c2)
    refine lv_aload_n hx hb dX9_wince_11 rfl (lv_at hl 0 rfl) ?_
    refine va_get (D := (dC, dI)) (ci := 9) (v := .ref (a 3)) (C := RX9) (T := TX9) (N := 11) hx hb hts (fun _ h => List.mem_cons_of_mem _ (List.mem_append_left _ (List.mem_append_left _ (List.mem_append_right _ (h))))) hown hK.1 hP 0 rfl rfl 1 (by decide) (hts (Cond.fieldLink RX9 41 "WorstVoice" "choir" "LWorstVoice$Choir;") (List.mem_of_getElem? (i := 1) rfl)) (fun _ h9 => h9) rfl dX9_wince_12 ?_
    refine lv_iload_n hx hb dX9_wince_15 rfl (lv_at hl 2 rfl) ?_
    refine ro_calli (va_runV (As := [.int (y)]) (rest := []) ⟨hx, hb, hml, hown, hts⟩ (c_X1_hasSinger l dC dI cI (fun k => a (3 + k)) (a 36) R mi n w wk (by omega) (by omega) (y)) (cwV 1 hts gX9_wince_X1_hasSinger rfl rfl rfl (by decide +kernel) ⟨Nat.le_of_ble_eq_true rfl, Nat.le_of_ble_eq_true rfl⟩) (ro_pv hK hP [1, 2, 3, 4, 5, 6, 7] rfl (ci := 1) (q0 := 1) (C := RX1) (T := TX1) (N := 10) rfl rfl) rfl rfl hl.1 rfl (lv_room (Nat.le_of_ble_eq_true rfl)) dX9_wince_16 ⟨Nat.zero_le _, Nat.zero_le _⟩) hS hP (fun r3 H locs hr3 hP hS => ?_)
    subst hr3
    refine lv_if_ne (tgt := 25) hx hb dX9_wince_19 (by decide) (fun c4 => ?_) (fun c4 => ?_)
    · have c4 := Decidable.not_not.mp (mt bI_0.mpr c4)
      obtain ⟨w_, hw_, hw_j, rfl⟩ := inR_of (show inR x w by first | assumption | (constructor <;> omega))
      have hl : lv_has ls 3 [(0, .ref (a 0)), (1, .int (nI (w_))), (2, .int (y))] := hl
      obtain ⟨s_, hs, hsj, rfl⟩ := inR_of (show inR y n by first | assumption | (constructor <;> omega))
      have hl : lv_has ls 3 [(0, .ref (a 0)), (1, .int (nI (w_))), (2, .int (nI (s_)))] := hl
      refine lv_aload_n hx hb dX9_wince_25 rfl (lv_at hl 0 rfl) ?_
      refine va_get (D := (dC, dI)) (ci := 9) (v := .ref (a 3)) (C := RX9) (T := TX9) (N := 11) hx hb hts (fun _ h => List.mem_cons_of_mem _ (List.mem_append_left _ (List.mem_append_left _ (List.mem_append_right _ (h))))) hown hK.1 hP 0 rfl rfl 1 (by decide) (hts (Cond.fieldLink RX9 41 "WorstVoice" "choir" "LWorstVoice$Choir;") (List.mem_of_getElem? (i := 1) rfl)) (fun _ h9 => h9) rfl dX9_wince_26 ?_
      refine lv_iload_n hx hb dX9_wince_29 rfl (lv_at hl 2 rfl) ?_
      refine lv_aload_n hx hb dX9_wince_30 rfl (lv_at hl 0 rfl) ?_
      refine va_get (D := (dC, dI)) (ci := 9) (v := .ref (a 3)) (C := RX9) (T := TX9) (N := 11) hx hb hts (fun _ h => List.mem_cons_of_mem _ (List.mem_append_left _ (List.mem_append_left _ (List.mem_append_right _ (h))))) hown hK.1 hP 0 rfl rfl 1 (by decide) (hts (Cond.fieldLink RX9 41 "WorstVoice" "choir" "LWorstVoice$Choir;") (List.mem_of_getElem? (i := 1) rfl)) (fun _ h9 => h9) rfl dX9_wince_31 ?_
      refine lv_iload_n hx hb dX9_wince_34 rfl (lv_at hl 1 rfl) ?_
      refine ro_calli (va_runV (As := [.int (nI (w_))]) (rest := [.int (nI (s_)), .ref (a 3)]) ⟨hx, hb, hml, hown, hts⟩ (c_X1_minds l dC dI cI (fun k => a (3 + k)) (a 36) R mi n w wk (by omega) (by omega) (w_) (by omega)) (cwV 1 hts gX9_wince_X1_minds rfl rfl rfl (by decide +kernel) ⟨Nat.le_of_ble_eq_true rfl, Nat.le_of_ble_eq_true rfl⟩) (ro_pv hK hP [1, 2, 3, 4, 5, 6, 7] rfl (ci := 1) (q0 := 1) (C := RX1) (T := TX1) (N := 10) rfl rfl) rfl rfl hl.1 rfl (lv_room (Nat.le_of_ble_eq_true rfl)) dX9_wince_35 ⟨Nat.zero_le _, Nat.zero_le _⟩) hS hP (fun r5 H locs hr5 hP hS => ?_)
      subst hr5
      refine ro_calli (va_runV (As := [.int (nI (s_)), .int (nI (mi w_))]) (rest := []) ⟨hx, hb, hml, hown, hts⟩ (c_X1_bad l dC dI cI (fun k => a (3 + k)) (fun k => a (36 + k)) R mi n w wk hR (by omega) (by omega) (s_) (mi w_) (by omega) (hm _ (by omega))) (cwV 2 hts gX9_wince_X1_bad rfl rfl rfl (by decide +kernel) ⟨Nat.le_of_ble_eq_true rfl, Nat.le_of_ble_eq_true rfl⟩) (ro_pv hK hP [1, 2, 3, 4, 5, 6, 7, 8, 9, 10, 11, 12, 13] rfl (ci := 1) (q0 := 1) (C := RX1) (T := TX1) (N := 10) rfl rfl) rfl rfl hl.1 rfl (lv_room (Nat.le_of_ble_eq_true rfl)) dX9_wince_38 ⟨Nat.zero_le _, Nat.zero_le _⟩) hS hP (fun r6 H locs hr6 hP hS => ?_)
      subst hr6
      have hb5 := hb_le hR (s := s_) (f := mi w_) (by omega) (hm _ (by omega))
      exact W.iret hx hb hr (fun t ht hW => ⟨⟨_, (), rfl, (vI_t hw_ hw hs hn).symm, trivial⟩, hS.F ht⟩) hS.2.2 dX9_wince_41
    · have c4 := bI_0.mp c4
      refine lv_bipush (v := -101) hx hb dX9_wince_22 (by decide) ?_
      exact W.iret hx hb hr (fun t ht hW => ⟨⟨_, (), rfl, (vI_f (fun q => by first | exact absurd q.1 (by assumption) | exact absurd q.2 (by assumption))).symm, trivial⟩, hS.F ht⟩) hS.2.2 dX9_wince_24

set_option maxHeartbeats 4000000 in
set_option maxRecDepth 100000 in
theorem c_X9_coldN (l : Launch) (dC : Nat → ClassId) (dI : Nat → Nat → Nat) (cI : ClassId) (a : Nat → Nat) (ik tr nd : Int32) (R mi : Nat → Nat) (n w : Nat) (wk : Int32) (hR : WR R) (hn : n ≤ 4) (hw : w ≤ 5) (hm : ∀ k, k < w → mi k < 4) (x : Int32) (v_ : Nat) (hxn : ¬ inR x n) : Met l yX9_cold wsX9_cold ({ frames := 1, cells := 0, slots := 0, locals := 21 } : Room) (roP dC dI cI ([xoW a ik tr nd] ++ chW cI (fun k => a (3 + k)) (a 36) R mi n w wk) [.ref (a 0), .int (x), .int (nI (v_))]) (roI (fun r => r = -101)) 0 0 (fun _ => False) := by
  refine Met.ofW (cc := cX9_cold) (maxL := 4) (ret := (some .int)) (by decide) rfl ?_
  intro p e s m args below meth c s₁ B hml hv
  obtain ⟨rfl, hP, hK⟩ := hv
  have hx := B.exec
  have hb := B.bytes
  have hr := B.returns
  have hts := atoms_spec (ws := wsX9_cold) B.pre
  have hown : s.vm.findClass RX9 = some m.cls := findClass_of_methodNamed B.named
  have hlocks := B.notSynchronized
  have hS : va_S (fun _ => False) s.heap s.heap [] := va_S.rf
  have hl := lv_entry ([.ref (a 0), .int (x), .int (nI (v_))]) (n := 4) (Nat.le_of_ble_eq_true rfl)
  rw [lg_entry_eq]
  generalize (lg_sl ([.ref (a 0), .int (x), .int (nI (v_))]) ++ List.replicate (4 - (lg_sl ([.ref (a 0), .int (x), .int (nI (v_))])).length) Slot.unset).toArray = ls at hl ⊢
  have hl : lv_has ls 4 [(0, .ref (a 0)), (1, .int (x)), (2, .int (nI (v_)))] := hl
  refine lv_aload_n hx hb dX9_cold_0 rfl (lv_at hl 0 rfl) ?_
  refine va_get (D := (dC, dI)) (ci := 9) (v := .ref (a 3)) (C := RX9) (T := TX9) (N := 11) hx hb hts (fun _ h => List.mem_cons_of_mem _ (List.mem_append_left _ (List.mem_append_right _ (h)))) hown hK.1 hP 0 rfl rfl 1 (by decide) (hts (Cond.fieldLink RX9 41 "WorstVoice" "choir" "LWorstVoice$Choir;") (List.mem_of_getElem? (i := 1) rfl)) (fun _ h9 => h9) rfl dX9_cold_1 ?_
  refine lv_iload_n hx hb dX9_cold_4 rfl (lv_at hl 1 rfl) ?_
  refine ro_calli (va_runV (As := [.int (x)]) (rest := []) ⟨hx, hb, hml, hown, hts⟩ (c_X1_hasSinger l dC dI cI (fun k => a (3 + k)) (a 36) R mi n w wk (by omega) (by omega) (x)) (cwV 1 hts gX9_cold_X1_hasSinger rfl rfl rfl (by decide +kernel) ⟨Nat.le_of_ble_eq_true rfl, Nat.le_of_ble_eq_true rfl⟩) (ro_pv hK hP [1, 2, 3, 4, 5, 6, 7] rfl (ci := 1) (q0 := 1) (C := RX1) (T := TX1) (N := 10) rfl rfl) rfl rfl hl.1 rfl (lv_room (Nat.le_of_ble_eq_true rfl)) dX9_cold_5 ⟨Nat.zero_le _, Nat.zero_le _⟩) hS hP (fun r1 H locs hr1 hP hS => ?_)
  subst hr1
  refine lv_if_ne (tgt := 14) hx hb dX9_cold_8 (by decide) (fun c2 => absurd (Decidable.not_not.mp (mt bI_0.mpr c2)) hxn) (fun c2 => ?_)
  refine lv_bipush (v := -101) hx hb dX9_cold_11 (by decide) ?_
  exact W.iret hx hb hr (fun t ht hW => ⟨⟨_, (), rfl, rfl, trivial⟩, hS.F ht⟩) hS.2.2 dX9_cold_13

set_option maxHeartbeats 4000000 in
set_option maxRecDepth 100000 in
theorem c_X9_cold (l : Launch) (dC : Nat → ClassId) (dI : Nat → Nat → Nat) (cI : ClassId) (sz : Nat) (a : Nat → Nat) (ik tr nd : Int32) (R mi : Nat → Nat) (n w : Nat) (wk : Int32) (hR : WR R) (hn : n ≤ 4) (hw : w ≤ 5) (hm : ∀ k, k < w → mi k < 4) (s_ v_ : Nat) (hs : s_ < n) (hv : v_ ≤ 1) : Met l yX9_cold wsX9_cold ({ frames := 2, cells := 0, slots := 0, locals := 43 } : Room) (muP dC dI cI ([xoW a ik tr nd] ++ chW cI (fun k => a (3 + k)) (a 36) R mi n w wk) sz [.ref (a 0), .int (nI (s_)), .int (nI (v_))]) (muI dC dI ([xoW a ik tr nd] ++ chW cI (fun k => a (3 + k)) (a 36) R mi n w wk) sz (fun (_ : Unit) => [xoW a ik tr nd] ++ chW cI (fun k => a (3 + k)) (a 36) (upN R (8 * s_ + 5) v_) mi n w wk) (fun r _ => r = nI (R (8 * s_ + 5)))) 0 0 (va_A ([xoW a ik tr nd] ++ chW cI (fun k => a (3 + k)) (a 36) R mi n w wk) sz) := by
  refine Met.ofW (cc := cX9_cold) (maxL := 4) (ret := (some .int)) (by decide) rfl ?_
  intro p e s m args below meth c s₁ B hml hv
  obtain ⟨rfl, hsz, hP, hK, hD0⟩ := hv
  have hx := B.exec
  have hb := B.bytes
  have hr := B.returns
  have hts := atoms_spec (ws := wsX9_cold) B.pre
  have hown : s.vm.findClass RX9 = some m.cls := findClass_of_methodNamed B.named
  have hlocks := B.notSynchronized
  subst hsz
  unfold muI muB
  have hD := hD0.self (sz := s.heap.size)
  generalize hAe : va_A ([xoW a ik tr nd] ++ chW cI (fun k => a (3 + k)) (a 36) R mi n w wk) s.heap.size = A at hD ⊢
  have hA : ∀ q : Nat, s.heap.size ≤ q → A q := fun q h => by rw [← hAe]; exact Or.inr h
  have hS : va_S A s.heap s.heap [] := va_S.rf
  have hl := lv_entry ([.ref (a 0), .int (nI (s_)), .int (nI (v_))]) (n := 4) (Nat.le_of_ble_eq_true rfl)
  rw [lg_entry_eq]
  generalize (lg_sl ([.ref (a 0), .int (nI (s_)), .int (nI (v_))]) ++ List.replicate (4 - (lg_sl ([.ref (a 0), .int (nI (s_)), .int (nI (v_))])).length) Slot.unset).toArray = ls at hl ⊢
  have hl : lv_has ls 4 [(0, .ref (a 0)), (1, .int (nI (s_))), (2, .int (nI (v_)))] := hl
  refine lv_aload_n hx hb dX9_cold_0 rfl (lv_at hl 0 rfl) ?_
  refine va_get (D := (dC, dI)) (ci := 9) (v := .ref (a 3)) (C := RX9) (T := TX9) (N := 11) hx hb hts (fun _ h => List.mem_cons_of_mem _ (List.mem_append_left _ (List.mem_append_right _ (h)))) hown hK.1 hP 0 rfl rfl 1 (by decide) (hts (Cond.fieldLink RX9 41 "WorstVoice" "choir" "LWorstVoice$Choir;") (List.mem_of_getElem? (i := 1) rfl)) (fun _ h9 => h9) rfl dX9_cold_1 ?_
  refine lv_iload_n hx hb dX9_cold_4 rfl (lv_at hl 1 rfl) ?_
  refine ro_calli (va_runV (As := [.int (nI (s_))]) (rest := []) ⟨hx, hb, hml, hown, hts⟩ (c_X1_hasSinger l dC dI cI (fun k => a (3 + k)) (a 36) R mi n w wk (by omega) (by omega) (nI (s_))) (cwV 1 hts gX9_cold_X1_hasSinger rfl rfl rfl (by decide +kernel) ⟨Nat.le_of_ble_eq_true rfl, Nat.le_of_ble_eq_true rfl⟩) (ro_pv hK hP [1, 2, 3, 4, 5, 6, 7] rfl (ci := 1) (q0 := 1) (C := RX1) (T := TX1) (N := 10) rfl rfl) rfl rfl hl.1 rfl (lv_room (Nat.le_of_ble_eq_true rfl)) dX9_cold_5 ⟨Nat.zero_le _, Nat.zero_le _⟩) hS hP (fun r1 H locs hr1 hP hS => ?_)
  subst hr1
  refine tp_i (z := nI 1) (bI_t (inR_n (by omega) (by omega))) ?_
  refine lv_if_ne (tgt := 14) hx hb dX9_cold_8 (by decide) (fun _ => ?_) (fun c => absurd c (by decide))
  refine lv_aload_n hx hb dX9_cold_14 rfl (lv_at hl 0 rfl) ?_
  refine va_get (D := (dC, dI)) (ci := 9) (v := .ref (a 3)) (C := RX9) (T := TX9) (N := 11) hx hb hts (fun _ h => List.mem_cons_of_mem _ (List.mem_append_left _ (List.mem_append_right _ (h)))) hown hK.1 hP 0 rfl rfl 1 (by decide) (hts (Cond.fieldLink RX9 41 "WorstVoice" "choir" "LWorstVoice$Choir;") (List.mem_of_getElem? (i := 1) rfl)) (fun _ h9 => h9) rfl dX9_cold_15 ?_
  refine lv_iload_n hx hb dX9_cold_18 rfl (lv_at hl 1 rfl) ?_
  refine ro_calli (va_runV (As := [.int (nI (s_))]) (rest := []) ⟨hx, hb, hml, hown, hts⟩ (c_X1_coldOf l dC dI cI (fun k => a (3 + k)) (a 36) R mi n w wk (by omega) (by omega) (s_) (by omega)) (cwV 1 hts gX9_cold_X1_coldOf rfl rfl rfl (by decide +kernel) ⟨Nat.le_of_ble_eq_true rfl, Nat.le_of_ble_eq_true rfl⟩) (ro_pv hK hP [1, 2, 3, 4, 5, 6, 7] rfl (ci := 1) (q0 := 1) (C := RX1) (T := TX1) (N := 10) rfl rfl) rfl rfl hl.1 rfl (lv_room (Nat.le_of_ble_eq_true rfl)) dX9_cold_19 ⟨Nat.zero_le _, Nat.zero_le _⟩) hS hP (fun r2 H locs hr2 hP hS => ?_)
  subst hr2
  refine lv_istore_n (lv' := [(3, .int (nI (R (8 * s_ + 5)))), (0, .ref (a 0)), (1, .int (nI (s_))), (2, .int (nI (v_)))]) hx hb dX9_cold_22 rfl hl (by decide) rfl (fun ls hl => ?_)
  refine lv_aload_n hx hb dX9_cold_23 rfl (lv_at hl 1 rfl) ?_
  refine va_get (D := (dC, dI)) (ci := 9) (v := .ref (a 3)) (C := RX9) (T := TX9) (N := 11) hx hb hts (fun _ h => List.mem_cons_of_mem _ (List.mem_append_left _ (List.mem_append_right _ (h)))) hown hK.1 hP 0 rfl rfl 1 (by decide) (hts (Cond.fieldLink RX9 41 "WorstVoice" "choir" "LWorstVoice$Choir;") (List.mem_of_getElem? (i := 1) rfl)) (fun _ h9 => h9) rfl dX9_cold_24 ?_
  refine lv_iload_n hx hb dX9_cold_27 rfl (lv_at hl 2 rfl) ?_
  refine lv_iload_n hx hb dX9_cold_28 rfl (lv_at hl 3 rfl) ?_
  refine mu_callv (wr := [((a 0), .inr (9, [.ref (a 1), .ref (a 3), .ref (a 10), .ref (a 17), .ref (a 24), .ref (a 29), .ref (a 34), .ref (a 35), .int (ik), .int (tr), .int (nd)]))]) (wn := (fun _ => [((a 0), .inr (9, [.ref (a 1), .ref (a 3), .ref (a 10), .ref (a 17), .ref (a 24), .ref (a 29), .ref (a 34), .ref (a 35), .int (ik), .int (tr), .int (nd)])), ((a 3), .inr (1, [.ref (a 36), .ref (a 4), .ref (a 5), .ref (a 6), .ref (a 7), .ref (a 8), .ref (a 9), .int (nI (n)), .int (nI (w)), .int (wk)])), ((a 4), .inl (cI, 4, .inl (fun ii => nI ((upN R (8 * s_ + 5) v_) (8 * ii))))), ((a 5), .inl (cI, 16, .inl (fun ii => nI ((upN R (8 * s_ + 5) v_) (8 * (ii / 4) + 1 + ii % 4))))), ((a 6), .inl (cI, 4, .inl (fun ii => nI ((upN R (8 * s_ + 5) v_) (8 * ii + 5))))), ((a 7), .inl (cI, 4, .inl (fun ii => nI ((upN R (8 * s_ + 5) v_) (8 * ii + 6))))), ((a 8), .inl (cI, 4, .inl (fun ii => nI ((upN R (8 * s_ + 5) v_) (8 * ii + 7))))), ((a 9), .inl (cI, 5, .inl (fun ii => nI (mi ii))))])) (va_runV (As := [.int (nI (s_)), .int (nI (v_))]) (rest := []) ⟨hx, hb, hml, hown, hts⟩ (c_X1_setCold l dC dI cI _ (fun k => a (3 + k)) (a 36) R mi n w wk (by omega) (by omega) (s_) (v_) (by omega) (by omega)) (cwV 2 hts gX9_cold_X1_setCold rfl rfl rfl (by decide +kernel) ⟨Nat.le_of_ble_eq_true rfl, Nat.le_of_ble_eq_true rfl⟩) (mu_pv hK hP hD [1, 2, 3, 4, 5, 6, 7] (by decide) rfl rfl (ci := 1) (q0 := 1) (C := RX1) (T := TX1) (N := 10) rfl rfl) rfl rfl hl.1 rfl (lv_room (Nat.le_of_ble_eq_true rfl)) dX9_cold_29 ⟨Nat.zero_le _, Nat.zero_le _⟩) hS hA hP hD [1, 2, 3, 4, 5, 6, 7] [0] [0, 1, 2, 3, 4, 5, 6, 7] rfl rfl (by decide) (by decide) (by decide) (fun _ => rfl) (fun _ => rfl) (fun u3 H locs hr4 hP hD hS => ?_)
  have hP : va_P (dC, dI) vwCl [((a 0), .inr (9, [.ref (a 1), .ref (a 3), .ref (a 10), .ref (a 17), .ref (a 24), .ref (a 29), .ref (a 34), .ref (a 35), .int (ik), .int (tr), .int (nd)])), ((a 3), .inr (1, [.ref (a 36), .ref (a 4), .ref (a 5), .ref (a 6), .ref (a 7), .ref (a 8), .ref (a 9), .int (nI (n)), .int (nI (w)), .int (wk)])), ((a 4), .inl (cI, 4, .inl (fun ii => nI ((upN R (8 * s_ + 5) v_) (8 * ii))))), ((a 5), .inl (cI, 16, .inl (fun ii => nI ((upN R (8 * s_ + 5) v_) (8 * (ii / 4) + 1 + ii % 4))))), ((a 6), .inl (cI, 4, .inl (fun ii => nI ((upN R (8 * s_ + 5) v_) (8 * ii + 5))))), ((a 7), .inl (cI, 4, .inl (fun ii => nI ((upN R (8 * s_ + 5) v_) (8 * ii + 6))))), ((a 8), .inl (cI, 4, .inl (fun ii => nI ((upN R (8 * s_ + 5) v_) (8 * ii + 7))))), ((a 9), .inl (cI, 5, .inl (fun ii => nI (mi ii))))] H := hP
  have hD : va_D A [((a 0), .inr (9, [.ref (a 1), .ref (a 3), .ref (a 10), .ref (a 17), .ref (a 24), .ref (a 29), .ref (a 34), .ref (a 35), .int (ik), .int (tr), .int (nd)])), ((a 3), .inr (1, [.ref (a 36), .ref (a 4), .ref (a 5), .ref (a 6), .ref (a 7), .ref (a 8), .ref (a 9), .int (nI (n)), .int (nI (w)), .int (wk)])), ((a 4), .inl (cI, 4, .inl (fun ii => nI ((upN R (8 * s_ + 5) v_) (8 * ii))))), ((a 5), .inl (cI, 16, .inl (fun ii => nI ((upN R (8 * s_ + 5) v_) (8 * (ii / 4) + 1 + ii % 4))))), ((a 6), .inl (cI, 4, .inl (fun ii => nI ((upN R (8 * s_ + 5) v_) (8 * ii + 5))))), ((a 7), .inl (cI, 4, .inl (fun ii => nI ((upN R (8 * s_ + 5) v_) (8 * ii + 6))))), ((a 8), .inl (cI, 4, .inl (fun ii => nI ((upN R (8 * s_ + 5) v_) (8 * ii + 7))))), ((a 9), .inl (cI, 5, .inl (fun ii => nI (mi ii))))] := hD
  refine lv_iload_n hx hb dX9_cold_32 rfl (lv_at hl 0 rfl) ?_
  exact W.iret hx hb hr (fun t ht hW => ⟨⟨_, (), rfl, rfl, by rw [ht]; exact hP, hD.as rfl⟩, hS.F ht⟩) hS.2.2 dX9_cold_33

set_option maxHeartbeats 4000000 in
set_option maxRecDepth 100000 in
theorem c_X9_aisleN (l : Launch) (dC : Nat → ClassId) (dI : Nat → Nat → Nat) (cI : ClassId) (a : Nat → Nat) (ik tr nd : Int32) (R mi : Nat → Nat) (n w : Nat) (wk : Int32) (hR : WR R) (hn : n ≤ 4) (hw : w ≤ 5) (hm : ∀ k, k < w → mi k < 4) (x : Int32) (v_ : Nat) (hxn : ¬ inR x n) : Met l yX9_aisle wsX9_aisle ({ frames := 1, cells := 0, slots := 0, locals := 21 } : Room) (roP dC dI cI ([xoW a ik tr nd] ++ chW cI (fun k => a (3 + k)) (a 36) R mi n w wk) [.ref (a 0), .int (x), .int (nI (v_))]) (roI (fun r => r = -101)) 0 0 (fun _ => False) := by
  refine Met.ofW (cc := cX9_aisle) (maxL := 4) (ret := (some .int)) (by decide) rfl ?_
  intro p e s m args below meth c s₁ B hml hv
  obtain ⟨rfl, hP, hK⟩ := hv
  have hx := B.exec
  have hb := B.bytes
  have hr := B.returns
  have hts := atoms_spec (ws := wsX9_aisle) B.pre
  have hown : s.vm.findClass RX9 = some m.cls := findClass_of_methodNamed B.named
  have hlocks := B.notSynchronized
  have hS : va_S (fun _ => False) s.heap s.heap [] := va_S.rf
  have hl := lv_entry ([.ref (a 0), .int (x), .int (nI (v_))]) (n := 4) (Nat.le_of_ble_eq_true rfl)
  rw [lg_entry_eq]
  generalize (lg_sl ([.ref (a 0), .int (x), .int (nI (v_))]) ++ List.replicate (4 - (lg_sl ([.ref (a 0), .int (x), .int (nI (v_))])).length) Slot.unset).toArray = ls at hl ⊢
  have hl : lv_has ls 4 [(0, .ref (a 0)), (1, .int (x)), (2, .int (nI (v_)))] := hl
  refine lv_aload_n hx hb dX9_aisle_0 rfl (lv_at hl 0 rfl) ?_
  refine va_get (D := (dC, dI)) (ci := 9) (v := .ref (a 3)) (C := RX9) (T := TX9) (N := 11) hx hb hts (fun _ h => List.mem_cons_of_mem _ (List.mem_append_left _ (List.mem_append_right _ (h)))) hown hK.1 hP 0 rfl rfl 1 (by decide) (hts (Cond.fieldLink RX9 41 "WorstVoice" "choir" "LWorstVoice$Choir;") (List.mem_of_getElem? (i := 1) rfl)) (fun _ h9 => h9) rfl dX9_aisle_1 ?_
  refine lv_iload_n hx hb dX9_aisle_4 rfl (lv_at hl 1 rfl) ?_
  refine ro_calli (va_runV (As := [.int (x)]) (rest := []) ⟨hx, hb, hml, hown, hts⟩ (c_X1_hasSinger l dC dI cI (fun k => a (3 + k)) (a 36) R mi n w wk (by omega) (by omega) (x)) (cwV 1 hts gX9_aisle_X1_hasSinger rfl rfl rfl (by decide +kernel) ⟨Nat.le_of_ble_eq_true rfl, Nat.le_of_ble_eq_true rfl⟩) (ro_pv hK hP [1, 2, 3, 4, 5, 6, 7] rfl (ci := 1) (q0 := 1) (C := RX1) (T := TX1) (N := 10) rfl rfl) rfl rfl hl.1 rfl (lv_room (Nat.le_of_ble_eq_true rfl)) dX9_aisle_5 ⟨Nat.zero_le _, Nat.zero_le _⟩) hS hP (fun r1 H locs hr1 hP hS => ?_)
  subst hr1
  refine lv_if_ne (tgt := 14) hx hb dX9_aisle_8 (by decide) (fun c2 => absurd (Decidable.not_not.mp (mt bI_0.mpr c2)) hxn) (fun c2 => ?_)
  refine lv_bipush (v := -101) hx hb dX9_aisle_11 (by decide) ?_
  exact W.iret hx hb hr (fun t ht hW => ⟨⟨_, (), rfl, rfl, trivial⟩, hS.F ht⟩) hS.2.2 dX9_aisle_13

set_option maxHeartbeats 4000000 in
set_option maxRecDepth 100000 in
theorem c_X9_aisle (l : Launch) (dC : Nat → ClassId) (dI : Nat → Nat → Nat) (cI : ClassId) (sz : Nat) (a : Nat → Nat) (ik tr nd : Int32) (R mi : Nat → Nat) (n w : Nat) (wk : Int32) (hR : WR R) (hn : n ≤ 4) (hw : w ≤ 5) (hm : ∀ k, k < w → mi k < 4) (s_ v_ : Nat) (hs : s_ < n) (hv : v_ ≤ 1) : Met l yX9_aisle wsX9_aisle ({ frames := 2, cells := 0, slots := 0, locals := 43 } : Room) (muP dC dI cI ([xoW a ik tr nd] ++ chW cI (fun k => a (3 + k)) (a 36) R mi n w wk) sz [.ref (a 0), .int (nI (s_)), .int (nI (v_))]) (muI dC dI ([xoW a ik tr nd] ++ chW cI (fun k => a (3 + k)) (a 36) R mi n w wk) sz (fun (_ : Unit) => [xoW a ik tr nd] ++ chW cI (fun k => a (3 + k)) (a 36) (upN R (8 * s_ + 6) v_) mi n w wk) (fun r _ => r = nI (R (8 * s_ + 6)))) 0 0 (va_A ([xoW a ik tr nd] ++ chW cI (fun k => a (3 + k)) (a 36) R mi n w wk) sz) := by
  refine Met.ofW (cc := cX9_aisle) (maxL := 4) (ret := (some .int)) (by decide) rfl ?_
  intro p e s m args below meth c s₁ B hml hv
  obtain ⟨rfl, hsz, hP, hK, hD0⟩ := hv
  have hx := B.exec
  have hb := B.bytes
  have hr := B.returns
  have hts := atoms_spec (ws := wsX9_aisle) B.pre
  have hown : s.vm.findClass RX9 = some m.cls := findClass_of_methodNamed B.named
  have hlocks := B.notSynchronized
  subst hsz
  unfold muI muB
  have hD := hD0.self (sz := s.heap.size)
  generalize hAe : va_A ([xoW a ik tr nd] ++ chW cI (fun k => a (3 + k)) (a 36) R mi n w wk) s.heap.size = A at hD ⊢
  have hA : ∀ q : Nat, s.heap.size ≤ q → A q := fun q h => by rw [← hAe]; exact Or.inr h
  have hS : va_S A s.heap s.heap [] := va_S.rf
  have hl := lv_entry ([.ref (a 0), .int (nI (s_)), .int (nI (v_))]) (n := 4) (Nat.le_of_ble_eq_true rfl)
  rw [lg_entry_eq]
  generalize (lg_sl ([.ref (a 0), .int (nI (s_)), .int (nI (v_))]) ++ List.replicate (4 - (lg_sl ([.ref (a 0), .int (nI (s_)), .int (nI (v_))])).length) Slot.unset).toArray = ls at hl ⊢
  have hl : lv_has ls 4 [(0, .ref (a 0)), (1, .int (nI (s_))), (2, .int (nI (v_)))] := hl
  refine lv_aload_n hx hb dX9_aisle_0 rfl (lv_at hl 0 rfl) ?_
  refine va_get (D := (dC, dI)) (ci := 9) (v := .ref (a 3)) (C := RX9) (T := TX9) (N := 11) hx hb hts (fun _ h => List.mem_cons_of_mem _ (List.mem_append_left _ (List.mem_append_right _ (h)))) hown hK.1 hP 0 rfl rfl 1 (by decide) (hts (Cond.fieldLink RX9 41 "WorstVoice" "choir" "LWorstVoice$Choir;") (List.mem_of_getElem? (i := 1) rfl)) (fun _ h9 => h9) rfl dX9_aisle_1 ?_
  refine lv_iload_n hx hb dX9_aisle_4 rfl (lv_at hl 1 rfl) ?_
  refine ro_calli (va_runV (As := [.int (nI (s_))]) (rest := []) ⟨hx, hb, hml, hown, hts⟩ (c_X1_hasSinger l dC dI cI (fun k => a (3 + k)) (a 36) R mi n w wk (by omega) (by omega) (nI (s_))) (cwV 1 hts gX9_aisle_X1_hasSinger rfl rfl rfl (by decide +kernel) ⟨Nat.le_of_ble_eq_true rfl, Nat.le_of_ble_eq_true rfl⟩) (ro_pv hK hP [1, 2, 3, 4, 5, 6, 7] rfl (ci := 1) (q0 := 1) (C := RX1) (T := TX1) (N := 10) rfl rfl) rfl rfl hl.1 rfl (lv_room (Nat.le_of_ble_eq_true rfl)) dX9_aisle_5 ⟨Nat.zero_le _, Nat.zero_le _⟩) hS hP (fun r1 H locs hr1 hP hS => ?_)
  subst hr1
  refine tp_i (z := nI 1) (bI_t (inR_n (by omega) (by omega))) ?_
  refine lv_if_ne (tgt := 14) hx hb dX9_aisle_8 (by decide) (fun _ => ?_) (fun c => absurd c (by decide))
  refine lv_aload_n hx hb dX9_aisle_14 rfl (lv_at hl 0 rfl) ?_
  refine va_get (D := (dC, dI)) (ci := 9) (v := .ref (a 3)) (C := RX9) (T := TX9) (N := 11) hx hb hts (fun _ h => List.mem_cons_of_mem _ (List.mem_append_left _ (List.mem_append_right _ (h)))) hown hK.1 hP 0 rfl rfl 1 (by decide) (hts (Cond.fieldLink RX9 41 "WorstVoice" "choir" "LWorstVoice$Choir;") (List.mem_of_getElem? (i := 1) rfl)) (fun _ h9 => h9) rfl dX9_aisle_15 ?_
  refine lv_iload_n hx hb dX9_aisle_18 rfl (lv_at hl 1 rfl) ?_
  refine ro_calli (va_runV (As := [.int (nI (s_))]) (rest := []) ⟨hx, hb, hml, hown, hts⟩ (c_X1_leftOf l dC dI cI (fun k => a (3 + k)) (a 36) R mi n w wk (by omega) (by omega) (s_) (by omega)) (cwV 1 hts gX9_aisle_X1_leftOf rfl rfl rfl (by decide +kernel) ⟨Nat.le_of_ble_eq_true rfl, Nat.le_of_ble_eq_true rfl⟩) (ro_pv hK hP [1, 2, 3, 4, 5, 6, 7] rfl (ci := 1) (q0 := 1) (C := RX1) (T := TX1) (N := 10) rfl rfl) rfl rfl hl.1 rfl (lv_room (Nat.le_of_ble_eq_true rfl)) dX9_aisle_19 ⟨Nat.zero_le _, Nat.zero_le _⟩) hS hP (fun r2 H locs hr2 hP hS => ?_)
  subst hr2
  refine lv_istore_n (lv' := [(3, .int (nI (R (8 * s_ + 6)))), (0, .ref (a 0)), (1, .int (nI (s_))), (2, .int (nI (v_)))]) hx hb dX9_aisle_22 rfl hl (by decide) rfl (fun ls hl => ?_)
  refine lv_aload_n hx hb dX9_aisle_23 rfl (lv_at hl 1 rfl) ?_
  refine va_get (D := (dC, dI)) (ci := 9) (v := .ref (a 3)) (C := RX9) (T := TX9) (N := 11) hx hb hts (fun _ h => List.mem_cons_of_mem _ (List.mem_append_left _ (List.mem_append_right _ (h)))) hown hK.1 hP 0 rfl rfl 1 (by decide) (hts (Cond.fieldLink RX9 41 "WorstVoice" "choir" "LWorstVoice$Choir;") (List.mem_of_getElem? (i := 1) rfl)) (fun _ h9 => h9) rfl dX9_aisle_24 ?_
  refine lv_iload_n hx hb dX9_aisle_27 rfl (lv_at hl 2 rfl) ?_
  refine lv_iload_n hx hb dX9_aisle_28 rfl (lv_at hl 3 rfl) ?_
  refine mu_callv (wr := [((a 0), .inr (9, [.ref (a 1), .ref (a 3), .ref (a 10), .ref (a 17), .ref (a 24), .ref (a 29), .ref (a 34), .ref (a 35), .int (ik), .int (tr), .int (nd)]))]) (wn := (fun _ => [((a 0), .inr (9, [.ref (a 1), .ref (a 3), .ref (a 10), .ref (a 17), .ref (a 24), .ref (a 29), .ref (a 34), .ref (a 35), .int (ik), .int (tr), .int (nd)])), ((a 3), .inr (1, [.ref (a 36), .ref (a 4), .ref (a 5), .ref (a 6), .ref (a 7), .ref (a 8), .ref (a 9), .int (nI (n)), .int (nI (w)), .int (wk)])), ((a 4), .inl (cI, 4, .inl (fun ii => nI ((upN R (8 * s_ + 6) v_) (8 * ii))))), ((a 5), .inl (cI, 16, .inl (fun ii => nI ((upN R (8 * s_ + 6) v_) (8 * (ii / 4) + 1 + ii % 4))))), ((a 6), .inl (cI, 4, .inl (fun ii => nI ((upN R (8 * s_ + 6) v_) (8 * ii + 5))))), ((a 7), .inl (cI, 4, .inl (fun ii => nI ((upN R (8 * s_ + 6) v_) (8 * ii + 6))))), ((a 8), .inl (cI, 4, .inl (fun ii => nI ((upN R (8 * s_ + 6) v_) (8 * ii + 7))))), ((a 9), .inl (cI, 5, .inl (fun ii => nI (mi ii))))])) (va_runV (As := [.int (nI (s_)), .int (nI (v_))]) (rest := []) ⟨hx, hb, hml, hown, hts⟩ (c_X1_setLeft l dC dI cI _ (fun k => a (3 + k)) (a 36) R mi n w wk (by omega) (by omega) (s_) (v_) (by omega) (by omega)) (cwV 2 hts gX9_aisle_X1_setLeft rfl rfl rfl (by decide +kernel) ⟨Nat.le_of_ble_eq_true rfl, Nat.le_of_ble_eq_true rfl⟩) (mu_pv hK hP hD [1, 2, 3, 4, 5, 6, 7] (by decide) rfl rfl (ci := 1) (q0 := 1) (C := RX1) (T := TX1) (N := 10) rfl rfl) rfl rfl hl.1 rfl (lv_room (Nat.le_of_ble_eq_true rfl)) dX9_aisle_29 ⟨Nat.zero_le _, Nat.zero_le _⟩) hS hA hP hD [1, 2, 3, 4, 5, 6, 7] [0] [0, 1, 2, 3, 4, 5, 6, 7] rfl rfl (by decide) (by decide) (by decide) (fun _ => rfl) (fun _ => rfl) (fun u3 H locs hr4 hP hD hS => ?_)
  have hP : va_P (dC, dI) vwCl [((a 0), .inr (9, [.ref (a 1), .ref (a 3), .ref (a 10), .ref (a 17), .ref (a 24), .ref (a 29), .ref (a 34), .ref (a 35), .int (ik), .int (tr), .int (nd)])), ((a 3), .inr (1, [.ref (a 36), .ref (a 4), .ref (a 5), .ref (a 6), .ref (a 7), .ref (a 8), .ref (a 9), .int (nI (n)), .int (nI (w)), .int (wk)])), ((a 4), .inl (cI, 4, .inl (fun ii => nI ((upN R (8 * s_ + 6) v_) (8 * ii))))), ((a 5), .inl (cI, 16, .inl (fun ii => nI ((upN R (8 * s_ + 6) v_) (8 * (ii / 4) + 1 + ii % 4))))), ((a 6), .inl (cI, 4, .inl (fun ii => nI ((upN R (8 * s_ + 6) v_) (8 * ii + 5))))), ((a 7), .inl (cI, 4, .inl (fun ii => nI ((upN R (8 * s_ + 6) v_) (8 * ii + 6))))), ((a 8), .inl (cI, 4, .inl (fun ii => nI ((upN R (8 * s_ + 6) v_) (8 * ii + 7))))), ((a 9), .inl (cI, 5, .inl (fun ii => nI (mi ii))))] H := hP
  have hD : va_D A [((a 0), .inr (9, [.ref (a 1), .ref (a 3), .ref (a 10), .ref (a 17), .ref (a 24), .ref (a 29), .ref (a 34), .ref (a 35), .int (ik), .int (tr), .int (nd)])), ((a 3), .inr (1, [.ref (a 36), .ref (a 4), .ref (a 5), .ref (a 6), .ref (a 7), .ref (a 8), .ref (a 9), .int (nI (n)), .int (nI (w)), .int (wk)])), ((a 4), .inl (cI, 4, .inl (fun ii => nI ((upN R (8 * s_ + 6) v_) (8 * ii))))), ((a 5), .inl (cI, 16, .inl (fun ii => nI ((upN R (8 * s_ + 6) v_) (8 * (ii / 4) + 1 + ii % 4))))), ((a 6), .inl (cI, 4, .inl (fun ii => nI ((upN R (8 * s_ + 6) v_) (8 * ii + 5))))), ((a 7), .inl (cI, 4, .inl (fun ii => nI ((upN R (8 * s_ + 6) v_) (8 * ii + 6))))), ((a 8), .inl (cI, 4, .inl (fun ii => nI ((upN R (8 * s_ + 6) v_) (8 * ii + 7))))), ((a 9), .inl (cI, 5, .inl (fun ii => nI (mi ii))))] := hD
  refine lv_iload_n hx hb dX9_aisle_32 rfl (lv_at hl 0 rfl) ?_
  exact W.iret hx hb hr (fun t ht hW => ⟨⟨_, (), rfl, rfl, by rw [ht]; exact hP, hD.as rfl⟩, hS.F ht⟩) hS.2.2 dX9_aisle_33

set_option maxHeartbeats 4000000 in
set_option maxRecDepth 100000 in
theorem c_X9_honeyN (l : Launch) (dC : Nat → ClassId) (dI : Nat → Nat → Nat) (cI : ClassId) (a : Nat → Nat) (ik tr nd : Int32) (R mi : Nat → Nat) (n w : Nat) (wk : Int32) (hR : WR R) (hn : n ≤ 4) (hw : w ≤ 5) (hm : ∀ k, k < w → mi k < 4) (x : Int32) (y : Int32) (hxn : ¬ inR x n) : Met l yX9_honey wsX9_honey ({ frames := 1, cells := 0, slots := 0, locals := 21 } : Room) (roP dC dI cI ([xoW a ik tr nd] ++ chW cI (fun k => a (3 + k)) (a 36) R mi n w wk) [.ref (a 0), .int (x), .int (y)]) (roI (fun r => r = -101)) 0 0 (fun _ => False) := by
  refine Met.ofW (cc := cX9_honey) (maxL := 4) (ret := (some .int)) (by decide) rfl ?_
  intro p e s m args below meth c s₁ B hml hv
  obtain ⟨rfl, hP, hK⟩ := hv
  have hx := B.exec
  have hb := B.bytes
  have hr := B.returns
  have hts := atoms_spec (ws := wsX9_honey) B.pre
  have hown : s.vm.findClass RX9 = some m.cls := findClass_of_methodNamed B.named
  have hlocks := B.notSynchronized
  have hS : va_S (fun _ => False) s.heap s.heap [] := va_S.rf
  have hl := lv_entry ([.ref (a 0), .int (x), .int (y)]) (n := 4) (Nat.le_of_ble_eq_true rfl)
  rw [lg_entry_eq]
  generalize (lg_sl ([.ref (a 0), .int (x), .int (y)]) ++ List.replicate (4 - (lg_sl ([.ref (a 0), .int (x), .int (y)])).length) Slot.unset).toArray = ls at hl ⊢
  have hl : lv_has ls 4 [(0, .ref (a 0)), (1, .int (x)), (2, .int (y))] := hl
  refine lv_aload_n hx hb dX9_honey_0 rfl (lv_at hl 0 rfl) ?_
  refine va_get (D := (dC, dI)) (ci := 9) (v := .ref (a 3)) (C := RX9) (T := TX9) (N := 11) hx hb hts (fun _ h => List.mem_cons_of_mem _ (List.mem_append_left _ (List.mem_append_right _ (h)))) hown hK.1 hP 0 rfl rfl 1 (by decide) (hts (Cond.fieldLink RX9 41 "WorstVoice" "choir" "LWorstVoice$Choir;") (List.mem_of_getElem? (i := 1) rfl)) (fun _ h9 => h9) rfl dX9_honey_1 ?_
  refine lv_iload_n hx hb dX9_honey_4 rfl (lv_at hl 1 rfl) ?_
  refine ro_calli (va_runV (As := [.int (x)]) (rest := []) ⟨hx, hb, hml, hown, hts⟩ (c_X1_hasSinger l dC dI cI (fun k => a (3 + k)) (a 36) R mi n w wk (by omega) (by omega) (x)) (cwV 1 hts gX9_honey_X1_hasSinger rfl rfl rfl (by decide +kernel) ⟨Nat.le_of_ble_eq_true rfl, Nat.le_of_ble_eq_true rfl⟩) (ro_pv hK hP [1, 2, 3, 4, 5, 6, 7] rfl (ci := 1) (q0 := 1) (C := RX1) (T := TX1) (N := 10) rfl rfl) rfl rfl hl.1 rfl (lv_room (Nat.le_of_ble_eq_true rfl)) dX9_honey_5 ⟨Nat.zero_le _, Nat.zero_le _⟩) hS hP (fun r1 H locs hr1 hP hS => ?_)
  subst hr1
  refine lv_if_ne (tgt := 14) hx hb dX9_honey_8 (by decide) (fun c2 => absurd (Decidable.not_not.mp (mt bI_0.mpr c2)) hxn) (fun c2 => ?_)
  refine lv_bipush (v := -101) hx hb dX9_honey_11 (by decide) ?_
  exact W.iret hx hb hr (fun t ht hW => ⟨⟨_, (), rfl, rfl, trivial⟩, hS.F ht⟩) hS.2.2 dX9_honey_13

set_option maxHeartbeats 4000000 in
set_option maxRecDepth 100000 in
theorem c_X9_honeyO (l : Launch) (dC : Nat → ClassId) (dI : Nat → Nat → Nat) (cI : ClassId) (a : Nat → Nat) (ik tr nd : Int32) (R mi : Nat → Nat) (n w : Nat) (wk : Int32) (hR : WR R) (hn : n ≤ 4) (hw : w ≤ 5) (hm : ∀ k, k < w → mi k < 4) (s_ : Nat) (hs : s_ < n) (y : Int32) (hy : ¬ inR y 10) : Met l yX9_honey wsX9_honey ({ frames := 1, cells := 0, slots := 0, locals := 21 } : Room) (roP dC dI cI ([xoW a ik tr nd] ++ chW cI (fun k => a (3 + k)) (a 36) R mi n w wk) [.ref (a 0), .int (nI (s_)), .int (y)]) (roI (fun r => r = -102)) 0 0 (fun _ => False) := by
  refine Met.ofW (cc := cX9_honey) (maxL := 4) (ret := (some .int)) (by decide) rfl ?_
  intro p e s m args below meth c s₁ B hml hv
  obtain ⟨rfl, hP, hK⟩ := hv
  have hx := B.exec
  have hb := B.bytes
  have hr := B.returns
  have hts := atoms_spec (ws := wsX9_honey) B.pre
  have hown : s.vm.findClass RX9 = some m.cls := findClass_of_methodNamed B.named
  have hlocks := B.notSynchronized
  have hS : va_S (fun _ => False) s.heap s.heap [] := va_S.rf
  have hl := lv_entry ([.ref (a 0), .int (nI (s_)), .int (y)]) (n := 4) (Nat.le_of_ble_eq_true rfl)
  rw [lg_entry_eq]
  generalize (lg_sl ([.ref (a 0), .int (nI (s_)), .int (y)]) ++ List.replicate (4 - (lg_sl ([.ref (a 0), .int (nI (s_)), .int (y)])).length) Slot.unset).toArray = ls at hl ⊢
  have hl : lv_has ls 4 [(0, .ref (a 0)), (1, .int (nI (s_))), (2, .int (y))] := hl
  refine lv_aload_n hx hb dX9_honey_0 rfl (lv_at hl 0 rfl) ?_
  refine va_get (D := (dC, dI)) (ci := 9) (v := .ref (a 3)) (C := RX9) (T := TX9) (N := 11) hx hb hts (fun _ h => List.mem_cons_of_mem _ (List.mem_append_left _ (List.mem_append_right _ (h)))) hown hK.1 hP 0 rfl rfl 1 (by decide) (hts (Cond.fieldLink RX9 41 "WorstVoice" "choir" "LWorstVoice$Choir;") (List.mem_of_getElem? (i := 1) rfl)) (fun _ h9 => h9) rfl dX9_honey_1 ?_
  refine lv_iload_n hx hb dX9_honey_4 rfl (lv_at hl 1 rfl) ?_
  refine ro_calli (va_runV (As := [.int (nI (s_))]) (rest := []) ⟨hx, hb, hml, hown, hts⟩ (c_X1_hasSinger l dC dI cI (fun k => a (3 + k)) (a 36) R mi n w wk (by omega) (by omega) (nI (s_))) (cwV 1 hts gX9_honey_X1_hasSinger rfl rfl rfl (by decide +kernel) ⟨Nat.le_of_ble_eq_true rfl, Nat.le_of_ble_eq_true rfl⟩) (ro_pv hK hP [1, 2, 3, 4, 5, 6, 7] rfl (ci := 1) (q0 := 1) (C := RX1) (T := TX1) (N := 10) rfl rfl) rfl rfl hl.1 rfl (lv_room (Nat.le_of_ble_eq_true rfl)) dX9_honey_5 ⟨Nat.zero_le _, Nat.zero_le _⟩) hS hP (fun r1 H locs hr1 hP hS => ?_)
  subst hr1
  refine tp_i (z := nI 1) (bI_t (inR_n (by omega) (by omega))) ?_
  refine lv_if_ne (tgt := 14) hx hb dX9_honey_8 (by decide) (fun _ => ?_) (fun c => absurd c (by decide))
  refine lv_iload_n hx hb dX9_honey_14 rfl (lv_at hl 2 rfl) ?_
  refine lv_if_lt (tgt := 24) hx hb dX9_honey_15 (by decide) (fun c2 => ?_) (fun c2 => ?_)
  · have c2 := r0_lt.mp c2
    refine lv_bipush (v := -102) hx hb dX9_honey_24 (by decide) ?_
    exact W.iret hx hb hr (fun t ht hW => ⟨⟨_, (), rfl, rfl, trivial⟩, hS.F ht⟩) hS.2.2 dX9_honey_26
  · have c2 := mt r0_lt.mpr c2
    refine lv_iload_n hx hb dX9_honey_18 rfl (lv_at hl 2 rfl) ?_
    refine lv_bipush (v := nI (9)) hx hb dX9_honey_19 (by decide) ?_
    refine lv_icmp_le (tgt := 27) hx hb dX9_honey_21 (by decide) (fun c3 => ?_) (fun c3 => ?_)
    · have c3 := (rI_le (by decide)).mp c3
      exfalso; omega
    have c3 := mt (rI_le (by decide)).mpr c3
    refine lv_bipush (v := -102) hx hb dX9_honey_24 (by decide) ?_
    exact W.iret hx hb hr (fun t ht hW => ⟨⟨_, (), rfl, rfl, trivial⟩, hS.F ht⟩) hS.2.2 dX9_honey_26

set_option maxHeartbeats 4000000 in
set_option maxRecDepth 100000 in
theorem c_X9_honey (l : Launch) (dC : Nat → ClassId) (dI : Nat → Nat → Nat) (cI : ClassId) (sz : Nat) (a : Nat → Nat) (ik tr nd : Int32) (R mi : Nat → Nat) (n w : Nat) (wk : Int32) (hR : WR R) (hn : n ≤ 4) (hw : w ≤ 5) (hm : ∀ k, k < w → mi k < 4) (s_ v_ : Nat) (hs : s_ < n) (hv : v_ ≤ 9) : Met l yX9_honey wsX9_honey ({ frames := 2, cells := 0, slots := 0, locals := 43 } : Room) (muP dC dI cI ([xoW a ik tr nd] ++ chW cI (fun k => a (3 + k)) (a 36) R mi n w wk) sz [.ref (a 0), .int (nI (s_)), .int (nI (v_))]) (muI dC dI ([xoW a ik tr nd] ++ chW cI (fun k => a (3 + k)) (a 36) R mi n w wk) sz (fun (_ : Unit) => [xoW a ik tr nd] ++ chW cI (fun k => a (3 + k)) (a 36) (upN R (8 * s_ + 7) v_) mi n w wk) (fun r _ => r = nI (R (8 * s_ + 7)))) 0 0 (va_A ([xoW a ik tr nd] ++ chW cI (fun k => a (3 + k)) (a 36) R mi n w wk) sz) := by
  refine Met.ofW (cc := cX9_honey) (maxL := 4) (ret := (some .int)) (by decide) rfl ?_
  intro p e s m args below meth c s₁ B hml hv
  obtain ⟨rfl, hsz, hP, hK, hD0⟩ := hv
  have hx := B.exec
  have hb := B.bytes
  have hr := B.returns
  have hts := atoms_spec (ws := wsX9_honey) B.pre
  have hown : s.vm.findClass RX9 = some m.cls := findClass_of_methodNamed B.named
  have hlocks := B.notSynchronized
  subst hsz
  unfold muI muB
  have hD := hD0.self (sz := s.heap.size)
  generalize hAe : va_A ([xoW a ik tr nd] ++ chW cI (fun k => a (3 + k)) (a 36) R mi n w wk) s.heap.size = A at hD ⊢
  have hA : ∀ q : Nat, s.heap.size ≤ q → A q := fun q h => by rw [← hAe]; exact Or.inr h
  have hS : va_S A s.heap s.heap [] := va_S.rf
  have hl := lv_entry ([.ref (a 0), .int (nI (s_)), .int (nI (v_))]) (n := 4) (Nat.le_of_ble_eq_true rfl)
  rw [lg_entry_eq]
  generalize (lg_sl ([.ref (a 0), .int (nI (s_)), .int (nI (v_))]) ++ List.replicate (4 - (lg_sl ([.ref (a 0), .int (nI (s_)), .int (nI (v_))])).length) Slot.unset).toArray = ls at hl ⊢
  have hl : lv_has ls 4 [(0, .ref (a 0)), (1, .int (nI (s_))), (2, .int (nI (v_)))] := hl
  have hR7 := (hR.1 s_ (by omega)).2.2.2
  refine lv_aload_n hx hb dX9_honey_0 rfl (lv_at hl 0 rfl) ?_
  refine va_get (D := (dC, dI)) (ci := 9) (v := .ref (a 3)) (C := RX9) (T := TX9) (N := 11) hx hb hts (fun _ h => List.mem_cons_of_mem _ (List.mem_append_left _ (List.mem_append_right _ (h)))) hown hK.1 hP 0 rfl rfl 1 (by decide) (hts (Cond.fieldLink RX9 41 "WorstVoice" "choir" "LWorstVoice$Choir;") (List.mem_of_getElem? (i := 1) rfl)) (fun _ h9 => h9) rfl dX9_honey_1 ?_
  refine lv_iload_n hx hb dX9_honey_4 rfl (lv_at hl 1 rfl) ?_
  refine ro_calli (va_runV (As := [.int (nI (s_))]) (rest := []) ⟨hx, hb, hml, hown, hts⟩ (c_X1_hasSinger l dC dI cI (fun k => a (3 + k)) (a 36) R mi n w wk (by omega) (by omega) (nI (s_))) (cwV 1 hts gX9_honey_X1_hasSinger rfl rfl rfl (by decide +kernel) ⟨Nat.le_of_ble_eq_true rfl, Nat.le_of_ble_eq_true rfl⟩) (ro_pv hK hP [1, 2, 3, 4, 5, 6, 7] rfl (ci := 1) (q0 := 1) (C := RX1) (T := TX1) (N := 10) rfl rfl) rfl rfl hl.1 rfl (lv_room (Nat.le_of_ble_eq_true rfl)) dX9_honey_5 ⟨Nat.zero_le _, Nat.zero_le _⟩) hS hP (fun r1 H locs hr1 hP hS => ?_)
  subst hr1
  refine tp_i (z := nI 1) (bI_t (inR_n (by omega) (by omega))) ?_
  refine lv_if_ne (tgt := 14) hx hb dX9_honey_8 (by decide) (fun _ => ?_) (fun c => absurd c (by decide))
  refine lv_iload_n hx hb dX9_honey_14 rfl (lv_at hl 2 rfl) ?_
  refine lv_if_lt (tgt := 24) hx hb dX9_honey_15 (by decide) (fun c2 => absurd c2 (z_lt (by omega))) (fun c2 => ?_)
  refine lv_iload_n hx hb dX9_honey_18 rfl (lv_at hl 2 rfl) ?_
  refine lv_bipush (v := nI (9)) hx hb dX9_honey_19 (by decide) ?_
  refine lv_icmp_le (tgt := 27) hx hb dX9_honey_21 (by decide) (fun c3 => ?_) (fun c3 => ?_)
  · have c3 := (nI_leI (by omega) (by decide)).mp c3
    refine lv_aload_n hx hb dX9_honey_27 rfl (lv_at hl 0 rfl) ?_
    refine va_get (D := (dC, dI)) (ci := 9) (v := .ref (a 3)) (C := RX9) (T := TX9) (N := 11) hx hb hts (fun _ h => List.mem_cons_of_mem _ (List.mem_append_left _ (List.mem_append_right _ (h)))) hown hK.1 hP 0 rfl rfl 1 (by decide) (hts (Cond.fieldLink RX9 41 "WorstVoice" "choir" "LWorstVoice$Choir;") (List.mem_of_getElem? (i := 1) rfl)) (fun _ h9 => h9) rfl dX9_honey_28 ?_
    refine lv_iload_n hx hb dX9_honey_31 rfl (lv_at hl 1 rfl) ?_
    refine ro_calli (va_runV (As := [.int (nI (s_))]) (rest := []) ⟨hx, hb, hml, hown, hts⟩ (c_X1_honeyOf l dC dI cI (fun k => a (3 + k)) (a 36) R mi n w wk (by omega) (by omega) (s_) (by omega)) (cwV 1 hts gX9_honey_X1_honeyOf rfl rfl rfl (by decide +kernel) ⟨Nat.le_of_ble_eq_true rfl, Nat.le_of_ble_eq_true rfl⟩) (ro_pv hK hP [1, 2, 3, 4, 5, 6, 7] rfl (ci := 1) (q0 := 1) (C := RX1) (T := TX1) (N := 10) rfl rfl) rfl rfl hl.1 rfl (lv_room (Nat.le_of_ble_eq_true rfl)) dX9_honey_32 ⟨Nat.zero_le _, Nat.zero_le _⟩) hS hP (fun r4 H locs hr4 hP hS => ?_)
    subst hr4
    refine lv_istore_n (lv' := [(3, .int (nI (R (8 * s_ + 7)))), (0, .ref (a 0)), (1, .int (nI (s_))), (2, .int (nI (v_)))]) hx hb dX9_honey_35 rfl hl (by decide) rfl (fun ls hl => ?_)
    refine lv_aload_n hx hb dX9_honey_36 rfl (lv_at hl 1 rfl) ?_
    refine va_get (D := (dC, dI)) (ci := 9) (v := .ref (a 3)) (C := RX9) (T := TX9) (N := 11) hx hb hts (fun _ h => List.mem_cons_of_mem _ (List.mem_append_left _ (List.mem_append_right _ (h)))) hown hK.1 hP 0 rfl rfl 1 (by decide) (hts (Cond.fieldLink RX9 41 "WorstVoice" "choir" "LWorstVoice$Choir;") (List.mem_of_getElem? (i := 1) rfl)) (fun _ h9 => h9) rfl dX9_honey_37 ?_
    refine lv_iload_n hx hb dX9_honey_40 rfl (lv_at hl 2 rfl) ?_
    refine lv_iload_n hx hb dX9_honey_41 rfl (lv_at hl 3 rfl) ?_
    refine mu_callv (wr := [((a 0), .inr (9, [.ref (a 1), .ref (a 3), .ref (a 10), .ref (a 17), .ref (a 24), .ref (a 29), .ref (a 34), .ref (a 35), .int (ik), .int (tr), .int (nd)]))]) (wn := (fun _ => [((a 0), .inr (9, [.ref (a 1), .ref (a 3), .ref (a 10), .ref (a 17), .ref (a 24), .ref (a 29), .ref (a 34), .ref (a 35), .int (ik), .int (tr), .int (nd)])), ((a 3), .inr (1, [.ref (a 36), .ref (a 4), .ref (a 5), .ref (a 6), .ref (a 7), .ref (a 8), .ref (a 9), .int (nI (n)), .int (nI (w)), .int (wk)])), ((a 4), .inl (cI, 4, .inl (fun ii => nI ((upN R (8 * s_ + 7) v_) (8 * ii))))), ((a 5), .inl (cI, 16, .inl (fun ii => nI ((upN R (8 * s_ + 7) v_) (8 * (ii / 4) + 1 + ii % 4))))), ((a 6), .inl (cI, 4, .inl (fun ii => nI ((upN R (8 * s_ + 7) v_) (8 * ii + 5))))), ((a 7), .inl (cI, 4, .inl (fun ii => nI ((upN R (8 * s_ + 7) v_) (8 * ii + 6))))), ((a 8), .inl (cI, 4, .inl (fun ii => nI ((upN R (8 * s_ + 7) v_) (8 * ii + 7))))), ((a 9), .inl (cI, 5, .inl (fun ii => nI (mi ii))))])) (va_runV (As := [.int (nI (s_)), .int (nI (v_))]) (rest := []) ⟨hx, hb, hml, hown, hts⟩ (c_X1_setHoney l dC dI cI _ (fun k => a (3 + k)) (a 36) R mi n w wk (by omega) (by omega) (s_) (v_) (by omega)) (cwV 2 hts gX9_honey_X1_setHoney rfl rfl rfl (by decide +kernel) ⟨Nat.le_of_ble_eq_true rfl, Nat.le_of_ble_eq_true rfl⟩) (mu_pv hK hP hD [1, 2, 3, 4, 5, 6, 7] (by decide) rfl rfl (ci := 1) (q0 := 1) (C := RX1) (T := TX1) (N := 10) rfl rfl) rfl rfl hl.1 rfl (lv_room (Nat.le_of_ble_eq_true rfl)) dX9_honey_42 ⟨Nat.zero_le _, Nat.zero_le _⟩) hS hA hP hD [1, 2, 3, 4, 5, 6, 7] [0] [0, 1, 2, 3, 4, 5, 6, 7] rfl rfl (by decide) (by decide) (by decide) (fun _ => rfl) (fun _ => rfl) (fun u5 H locs hr6 hP hD hS => ?_)
    have hP : va_P (dC, dI) vwCl [((a 0), .inr (9, [.ref (a 1), .ref (a 3), .ref (a 10), .ref (a 17), .ref (a 24), .ref (a 29), .ref (a 34), .ref (a 35), .int (ik), .int (tr), .int (nd)])), ((a 3), .inr (1, [.ref (a 36), .ref (a 4), .ref (a 5), .ref (a 6), .ref (a 7), .ref (a 8), .ref (a 9), .int (nI (n)), .int (nI (w)), .int (wk)])), ((a 4), .inl (cI, 4, .inl (fun ii => nI ((upN R (8 * s_ + 7) v_) (8 * ii))))), ((a 5), .inl (cI, 16, .inl (fun ii => nI ((upN R (8 * s_ + 7) v_) (8 * (ii / 4) + 1 + ii % 4))))), ((a 6), .inl (cI, 4, .inl (fun ii => nI ((upN R (8 * s_ + 7) v_) (8 * ii + 5))))), ((a 7), .inl (cI, 4, .inl (fun ii => nI ((upN R (8 * s_ + 7) v_) (8 * ii + 6))))), ((a 8), .inl (cI, 4, .inl (fun ii => nI ((upN R (8 * s_ + 7) v_) (8 * ii + 7))))), ((a 9), .inl (cI, 5, .inl (fun ii => nI (mi ii))))] H := hP
    have hD : va_D A [((a 0), .inr (9, [.ref (a 1), .ref (a 3), .ref (a 10), .ref (a 17), .ref (a 24), .ref (a 29), .ref (a 34), .ref (a 35), .int (ik), .int (tr), .int (nd)])), ((a 3), .inr (1, [.ref (a 36), .ref (a 4), .ref (a 5), .ref (a 6), .ref (a 7), .ref (a 8), .ref (a 9), .int (nI (n)), .int (nI (w)), .int (wk)])), ((a 4), .inl (cI, 4, .inl (fun ii => nI ((upN R (8 * s_ + 7) v_) (8 * ii))))), ((a 5), .inl (cI, 16, .inl (fun ii => nI ((upN R (8 * s_ + 7) v_) (8 * (ii / 4) + 1 + ii % 4))))), ((a 6), .inl (cI, 4, .inl (fun ii => nI ((upN R (8 * s_ + 7) v_) (8 * ii + 5))))), ((a 7), .inl (cI, 4, .inl (fun ii => nI ((upN R (8 * s_ + 7) v_) (8 * ii + 6))))), ((a 8), .inl (cI, 4, .inl (fun ii => nI ((upN R (8 * s_ + 7) v_) (8 * ii + 7))))), ((a 9), .inl (cI, 5, .inl (fun ii => nI (mi ii))))] := hD
    refine lv_iload_n hx hb dX9_honey_45 rfl (lv_at hl 0 rfl) ?_
    exact W.iret hx hb hr (fun t ht hW => ⟨⟨_, (), rfl, rfl, by rw [ht]; exact hP, hD.as rfl⟩, hS.F ht⟩) hS.2.2 dX9_honey_46
  · have c3 := mt (nI_leI (by omega) (by decide)).mpr c3
    exfalso; omega

set_option maxHeartbeats 4000000 in
set_option maxRecDepth 100000 in
theorem c_X9_practiseN (l : Launch) (dC : Nat → ClassId) (dI : Nat → Nat → Nat) (cI : ClassId) (a : Nat → Nat) (ik tr nd : Int32) (R mi : Nat → Nat) (n w : Nat) (wk : Int32) (hR : WR R) (hn : n ≤ 4) (hw : w ≤ 5) (hm : ∀ k, k < w → mi k < 4) (x : Int32) (hxn : ¬ inR x n) : Met l yX9_practise wsX9_practise ({ frames := 1, cells := 0, slots := 0, locals := 21 } : Room) (roP dC dI cI ([xoW a ik tr nd] ++ chW cI (fun k => a (3 + k)) (a 36) R mi n w wk) [.ref (a 0), .int (x)]) (roI (fun r => r = -101)) 0 0 (fun _ => False) := by
  refine Met.ofW (cc := cX9_practise) (maxL := 2) (ret := (some .int)) (by decide) rfl ?_
  intro p e s m args below meth c s₁ B hml hv
  obtain ⟨rfl, hP, hK⟩ := hv
  have hx := B.exec
  have hb := B.bytes
  have hr := B.returns
  have hts := atoms_spec (ws := wsX9_practise) B.pre
  have hown : s.vm.findClass RX9 = some m.cls := findClass_of_methodNamed B.named
  have hlocks := B.notSynchronized
  have hS : va_S (fun _ => False) s.heap s.heap [] := va_S.rf
  have hl := lv_entry ([.ref (a 0), .int (x)]) (n := 2) (Nat.le_of_ble_eq_true rfl)
  rw [lg_entry_eq]
  generalize (lg_sl ([.ref (a 0), .int (x)]) ++ List.replicate (2 - (lg_sl ([.ref (a 0), .int (x)])).length) Slot.unset).toArray = ls at hl ⊢
  have hl : lv_has ls 2 [(0, .ref (a 0)), (1, .int (x))] := hl
  refine lv_aload_n hx hb dX9_practise_0 rfl (lv_at hl 0 rfl) ?_
  refine va_get (D := (dC, dI)) (ci := 9) (v := .ref (a 3)) (C := RX9) (T := TX9) (N := 11) hx hb hts (fun _ h => List.mem_cons_of_mem _ (List.mem_append_left _ (List.mem_append_left _ (List.mem_append_right _ (h))))) hown hK.1 hP 0 rfl rfl 1 (by decide) (hts (Cond.fieldLink RX9 41 "WorstVoice" "choir" "LWorstVoice$Choir;") (List.mem_of_getElem? (i := 1) rfl)) (fun _ h9 => h9) rfl dX9_practise_1 ?_
  refine lv_iload_n hx hb dX9_practise_4 rfl (lv_at hl 1 rfl) ?_
  refine ro_calli (va_runV (As := [.int (x)]) (rest := []) ⟨hx, hb, hml, hown, hts⟩ (c_X1_hasSinger l dC dI cI (fun k => a (3 + k)) (a 36) R mi n w wk (by omega) (by omega) (x)) (cwV 1 hts gX9_practise_X1_hasSinger rfl rfl rfl (by decide +kernel) ⟨Nat.le_of_ble_eq_true rfl, Nat.le_of_ble_eq_true rfl⟩) (ro_pv hK hP [1, 2, 3, 4, 5, 6, 7] rfl (ci := 1) (q0 := 1) (C := RX1) (T := TX1) (N := 10) rfl rfl) rfl rfl hl.1 rfl (lv_room (Nat.le_of_ble_eq_true rfl)) dX9_practise_5 ⟨Nat.zero_le _, Nat.zero_le _⟩) hS hP (fun r1 H locs hr1 hP hS => ?_)
  subst hr1
  refine lv_if_ne (tgt := 14) hx hb dX9_practise_8 (by decide) (fun c2 => absurd (Decidable.not_not.mp (mt bI_0.mpr c2)) hxn) (fun c2 => ?_)
  refine lv_bipush (v := -101) hx hb dX9_practise_11 (by decide) ?_
  exact W.iret hx hb hr (fun t ht hW => ⟨⟨_, (), rfl, rfl, trivial⟩, hS.F ht⟩) hS.2.2 dX9_practise_13

set_option maxHeartbeats 4000000 in
set_option maxRecDepth 100000 in
theorem c_X9_practise (l : Launch) (dC : Nat → ClassId) (dI : Nat → Nat → Nat) (cI : ClassId) (sz : Nat) (a : Nat → Nat) (ik tr nd : Int32) (R mi : Nat → Nat) (n w : Nat) (wk : Int32) (hR : WR R) (hn : n ≤ 4) (hw : w ≤ 5) (hm : ∀ k, k < w → mi k < 4) (s_ : Nat) (hs : s_ < n) : Met l yX9_practise wsX9_practise ({ frames := 3, cells := 0, slots := 0, locals := 66 } : Room) (muP dC dI cI ([xoW a ik tr nd] ++ chW cI (fun k => a (3 + k)) (a 36) R mi n w wk ++ voW (fun k => a (36 + k))) sz [.ref (a 0), .int (nI (s_))]) (muI dC dI ([xoW a ik tr nd] ++ chW cI (fun k => a (3 + k)) (a 36) R mi n w wk ++ voW (fun k => a (36 + k))) sz (fun (_ : Unit) => [xoW a ik tr nd] ++ chW cI (fun k => a (3 + k)) (a 36) (wkP R s_ 4) mi n w (wk + nI 1) ++ voW (fun k => a (36 + k))) (fun r _ => r = nI (wsm R s_ 4))) 0 0 (va_A ([xoW a ik tr nd] ++ chW cI (fun k => a (3 + k)) (a 36) R mi n w wk ++ voW (fun k => a (36 + k))) sz) := by
  refine Met.ofW (cc := cX9_practise) (maxL := 2) (ret := (some .int)) (by decide) rfl ?_
  intro p e s m args below meth c s₁ B hml hv
  obtain ⟨rfl, hsz, hP, hK, hD0⟩ := hv
  have hx := B.exec
  have hb := B.bytes
  have hr := B.returns
  have hts := atoms_spec (ws := wsX9_practise) B.pre
  have hown : s.vm.findClass RX9 = some m.cls := findClass_of_methodNamed B.named
  have hlocks := B.notSynchronized
  subst hsz
  unfold muI muB
  have hD := hD0.self (sz := s.heap.size)
  generalize hAe : va_A ([xoW a ik tr nd] ++ chW cI (fun k => a (3 + k)) (a 36) R mi n w wk ++ voW (fun k => a (36 + k))) s.heap.size = A at hD ⊢
  have hA : ∀ q : Nat, s.heap.size ≤ q → A q := fun q h => by rw [← hAe]; exact Or.inr h
  have hS : va_S A s.heap s.heap [] := va_S.rf
  have hl := lv_entry ([.ref (a 0), .int (nI (s_))]) (n := 2) (Nat.le_of_ble_eq_true rfl)
  rw [lg_entry_eq]
  generalize (lg_sl ([.ref (a 0), .int (nI (s_))]) ++ List.replicate (2 - (lg_sl ([.ref (a 0), .int (nI (s_))])).length) Slot.unset).toArray = ls at hl ⊢
  have hl : lv_has ls 2 [(0, .ref (a 0)), (1, .int (nI (s_)))] := hl
  refine lv_aload_n hx hb dX9_practise_0 rfl (lv_at hl 0 rfl) ?_
  refine va_get (D := (dC, dI)) (ci := 9) (v := .ref (a 3)) (C := RX9) (T := TX9) (N := 11) hx hb hts (fun _ h => List.mem_cons_of_mem _ (List.mem_append_left _ (List.mem_append_left _ (List.mem_append_right _ (h))))) hown hK.1 hP 0 rfl rfl 1 (by decide) (hts (Cond.fieldLink RX9 41 "WorstVoice" "choir" "LWorstVoice$Choir;") (List.mem_of_getElem? (i := 1) rfl)) (fun _ h9 => h9) rfl dX9_practise_1 ?_
  refine lv_iload_n hx hb dX9_practise_4 rfl (lv_at hl 1 rfl) ?_
  refine ro_calli (va_runV (As := [.int (nI (s_))]) (rest := []) ⟨hx, hb, hml, hown, hts⟩ (c_X1_hasSinger l dC dI cI (fun k => a (3 + k)) (a 36) R mi n w wk (by omega) (by omega) (nI (s_))) (cwV 1 hts gX9_practise_X1_hasSinger rfl rfl rfl (by decide +kernel) ⟨Nat.le_of_ble_eq_true rfl, Nat.le_of_ble_eq_true rfl⟩) (ro_pv hK hP [1, 2, 3, 4, 5, 6, 7] rfl (ci := 1) (q0 := 1) (C := RX1) (T := TX1) (N := 10) rfl rfl) rfl rfl hl.1 rfl (lv_room (Nat.le_of_ble_eq_true rfl)) dX9_practise_5 ⟨Nat.zero_le _, Nat.zero_le _⟩) hS hP (fun r1 H locs hr1 hP hS => ?_)
  subst hr1
  refine tp_i (z := nI 1) (bI_t (inR_n (by omega) (by omega))) ?_
  refine lv_if_ne (tgt := 14) hx hb dX9_practise_8 (by decide) (fun _ => ?_) (fun c => absurd c (by decide))
  refine lv_aload_n hx hb dX9_practise_14 rfl (lv_at hl 0 rfl) ?_
  refine va_get (D := (dC, dI)) (ci := 9) (v := .ref (a 3)) (C := RX9) (T := TX9) (N := 11) hx hb hts (fun _ h => List.mem_cons_of_mem _ (List.mem_append_left _ (List.mem_append_left _ (List.mem_append_right _ (h))))) hown hK.1 hP 0 rfl rfl 1 (by decide) (hts (Cond.fieldLink RX9 41 "WorstVoice" "choir" "LWorstVoice$Choir;") (List.mem_of_getElem? (i := 1) rfl)) (fun _ h9 => h9) rfl dX9_practise_15 ?_
  refine lv_iload_n hx hb dX9_practise_18 rfl (lv_at hl 1 rfl) ?_
  refine mu_calli (wr := [((a 0), .inr (9, [.ref (a 1), .ref (a 3), .ref (a 10), .ref (a 17), .ref (a 24), .ref (a 29), .ref (a 34), .ref (a 35), .int (ik), .int (tr), .int (nd)]))]) (wn := (fun _ => [((a 0), .inr (9, [.ref (a 1), .ref (a 3), .ref (a 10), .ref (a 17), .ref (a 24), .ref (a 29), .ref (a 34), .ref (a 35), .int (ik), .int (tr), .int (nd)])), ((a 3), .inr (1, [.ref (a 36), .ref (a 4), .ref (a 5), .ref (a 6), .ref (a 7), .ref (a 8), .ref (a 9), .int (nI (n)), .int (nI (w)), .int (wk + nI 1)])), ((a 4), .inl (cI, 4, .inl (fun ii => nI ((wkP R s_ 4) (8 * ii))))), ((a 5), .inl (cI, 16, .inl (fun ii => nI ((wkP R s_ 4) (8 * (ii / 4) + 1 + ii % 4))))), ((a 6), .inl (cI, 4, .inl (fun ii => nI ((wkP R s_ 4) (8 * ii + 5))))), ((a 7), .inl (cI, 4, .inl (fun ii => nI ((wkP R s_ 4) (8 * ii + 6))))), ((a 8), .inl (cI, 4, .inl (fun ii => nI ((wkP R s_ 4) (8 * ii + 7))))), ((a 9), .inl (cI, 5, .inl (fun ii => nI (mi ii)))), ((a 36), .inr (8, [.ref (a 37), .ref (a 38), .ref (a 39), .ref (a 40), .ref (a 41)])), ((a 37), .inr (6, [])), ((a 38), .inr (7, [])), ((a 39), .inr (0, [])), ((a 40), .inr (3, [])), ((a 41), .inr (2, []))])) (va_runV (As := [.int (nI (s_))]) (rest := []) ⟨hx, hb, hml, hown, hts⟩ (c_X1_practiseWeek l dC dI cI _ (fun k => a (3 + k)) (fun k => a (36 + k)) R mi n w wk hR (by omega) (by omega) (s_) (by omega)) (cwV 1 hts gX9_practise_X1_practiseWeek rfl rfl rfl (by decide +kernel) ⟨Nat.le_of_ble_eq_true rfl, Nat.le_of_ble_eq_true rfl⟩) (mu_pv hK hP hD [1, 2, 3, 4, 5, 6, 7, 8, 9, 10, 11, 12, 13] (by decide) rfl rfl (ci := 1) (q0 := 1) (C := RX1) (T := TX1) (N := 10) rfl rfl) rfl rfl hl.1 rfl (lv_room (Nat.le_of_ble_eq_true rfl)) dX9_practise_19 ⟨Nat.zero_le _, Nat.zero_le _⟩) hS hA hP hD [1, 2, 3, 4, 5, 6, 7, 8, 9, 10, 11, 12, 13] [0] [0, 1, 2, 3, 4, 5, 6, 7, 8, 9, 10, 11, 12, 13] rfl rfl (by decide) (by decide) (by decide) (fun _ => rfl) (fun _ => rfl) (fun r3 u2 H locs hr3 hP hD hS => ?_)
  subst hr3
  have hP : va_P (dC, dI) vwCl [((a 0), .inr (9, [.ref (a 1), .ref (a 3), .ref (a 10), .ref (a 17), .ref (a 24), .ref (a 29), .ref (a 34), .ref (a 35), .int (ik), .int (tr), .int (nd)])), ((a 3), .inr (1, [.ref (a 36), .ref (a 4), .ref (a 5), .ref (a 6), .ref (a 7), .ref (a 8), .ref (a 9), .int (nI (n)), .int (nI (w)), .int (wk + nI 1)])), ((a 4), .inl (cI, 4, .inl (fun ii => nI ((wkP R s_ 4) (8 * ii))))), ((a 5), .inl (cI, 16, .inl (fun ii => nI ((wkP R s_ 4) (8 * (ii / 4) + 1 + ii % 4))))), ((a 6), .inl (cI, 4, .inl (fun ii => nI ((wkP R s_ 4) (8 * ii + 5))))), ((a 7), .inl (cI, 4, .inl (fun ii => nI ((wkP R s_ 4) (8 * ii + 6))))), ((a 8), .inl (cI, 4, .inl (fun ii => nI ((wkP R s_ 4) (8 * ii + 7))))), ((a 9), .inl (cI, 5, .inl (fun ii => nI (mi ii)))), ((a 36), .inr (8, [.ref (a 37), .ref (a 38), .ref (a 39), .ref (a 40), .ref (a 41)])), ((a 37), .inr (6, [])), ((a 38), .inr (7, [])), ((a 39), .inr (0, [])), ((a 40), .inr (3, [])), ((a 41), .inr (2, []))] H := hP
  have hD : va_D A [((a 0), .inr (9, [.ref (a 1), .ref (a 3), .ref (a 10), .ref (a 17), .ref (a 24), .ref (a 29), .ref (a 34), .ref (a 35), .int (ik), .int (tr), .int (nd)])), ((a 3), .inr (1, [.ref (a 36), .ref (a 4), .ref (a 5), .ref (a 6), .ref (a 7), .ref (a 8), .ref (a 9), .int (nI (n)), .int (nI (w)), .int (wk + nI 1)])), ((a 4), .inl (cI, 4, .inl (fun ii => nI ((wkP R s_ 4) (8 * ii))))), ((a 5), .inl (cI, 16, .inl (fun ii => nI ((wkP R s_ 4) (8 * (ii / 4) + 1 + ii % 4))))), ((a 6), .inl (cI, 4, .inl (fun ii => nI ((wkP R s_ 4) (8 * ii + 5))))), ((a 7), .inl (cI, 4, .inl (fun ii => nI ((wkP R s_ 4) (8 * ii + 6))))), ((a 8), .inl (cI, 4, .inl (fun ii => nI ((wkP R s_ 4) (8 * ii + 7))))), ((a 9), .inl (cI, 5, .inl (fun ii => nI (mi ii)))), ((a 36), .inr (8, [.ref (a 37), .ref (a 38), .ref (a 39), .ref (a 40), .ref (a 41)])), ((a 37), .inr (6, [])), ((a 38), .inr (7, [])), ((a 39), .inr (0, [])), ((a 40), .inr (3, [])), ((a 41), .inr (2, []))] := hD
  exact W.iret hx hb hr (fun t ht hW => ⟨⟨_, (), rfl, rfl, by rw [ht]; exact hP, hD.as rfl⟩, hS.F ht⟩) hS.2.2 dX9_practise_22

set_option maxHeartbeats 4000000 in
set_option maxRecDepth 100000 in
theorem c_X9_mayor (l : Launch) (dC : Nat → ClassId) (dI : Nat → Nat → Nat) (cI : ClassId) (a : Nat → Nat) (ik tr nd : Int32) (R mi : Nat → Nat) (n w : Nat) (wk : Int32) (hR : WR R) (hn : n ≤ 4) (hw : w ≤ 5) (hm : ∀ k, k < w → mi k < 4) : Met l yX9_mayor wsX9_mayor ({ frames := 5, cells := 0, slots := 0, locals := 132 } : Room) (roP dC dI cI ([xoW a ik tr nd] ++ chW cI (fun k => a (3 + k)) (a 36) R mi n w wk ++ voW (fun k => a (36 + k))) [.ref (a 0)]) (roI (fun r => r = vM R mi n w)) 0 0 (fun _ => False) := by
  refine Met.ofW (cc := cX9_mayor) (maxL := 1) (ret := (some .int)) (by decide) rfl ?_
  intro p e s m args below meth c s₁ B hml hv
  obtain ⟨rfl, hP, hK⟩ := hv
  have hx := B.exec
  have hb := B.bytes
  have hr := B.returns
  have hts := atoms_spec (ws := wsX9_mayor) B.pre
  have hown : s.vm.findClass RX9 = some m.cls := findClass_of_methodNamed B.named
  have hlocks := B.notSynchronized
  have hS : va_S (fun _ => False) s.heap s.heap [] := va_S.rf
  have hl := lv_entry ([.ref (a 0)]) (n := 1) (Nat.le_of_ble_eq_true rfl)
  rw [lg_entry_eq]
  generalize (lg_sl ([.ref (a 0)]) ++ List.replicate (1 - (lg_sl ([.ref (a 0)])).length) Slot.unset).toArray = ls at hl ⊢
  have hl : lv_has ls 1 [(0, .ref (a 0))] := hl
  refine lv_aload_n hx hb dX9_mayor_0 rfl (lv_at hl 0 rfl) ?_
  refine va_get (D := (dC, dI)) (ci := 9) (v := .ref (a 3)) (C := RX9) (T := TX9) (N := 11) hx hb hts (fun _ h => List.mem_cons_of_mem _ (List.mem_append_left _ (List.mem_append_left _ (List.mem_append_right _ (h))))) hown hK.1 hP 0 rfl rfl 1 (by decide) (hts (Cond.fieldLink RX9 41 "WorstVoice" "choir" "LWorstVoice$Choir;") (List.mem_of_getElem? (i := 1) rfl)) (fun _ h9 => h9) rfl dX9_mayor_1 ?_
  refine ro_calli (va_runV (As := []) (rest := []) ⟨hx, hb, hml, hown, hts⟩ (c_X1_isEmpty l dC dI cI (fun k => a (3 + k)) (a 36) R mi n w wk (by omega)) (cwV 0 hts gX9_mayor_X1_isEmpty rfl rfl rfl (by decide +kernel) ⟨Nat.le_of_ble_eq_true rfl, Nat.le_of_ble_eq_true rfl⟩) (ro_pv hK hP [1, 2, 3, 4, 5, 6, 7] rfl (ci := 1) (q0 := 1) (C := RX1) (T := TX1) (N := 10) rfl rfl) rfl rfl hl.1 rfl (lv_room (Nat.le_of_ble_eq_true rfl)) dX9_mayor_4 ⟨Nat.zero_le _, Nat.zero_le _⟩) hS hP (fun r1 H locs hr1 hP hS => ?_)
  subst hr1
  refine lv_if_eq (tgt := 15) hx hb dX9_mayor_7 (by decide) (fun c2 => ?_) (fun c2 => ?_)
  · have c2 := bI_0.mp c2
    refine lv_aload_n hx hb dX9_mayor_15 rfl (lv_at hl 0 rfl) ?_
    refine va_get (D := (dC, dI)) (ci := 9) (v := .ref (a 3)) (C := RX9) (T := TX9) (N := 11) hx hb hts (fun _ h => List.mem_cons_of_mem _ (List.mem_append_left _ (List.mem_append_left _ (List.mem_append_right _ (h))))) hown hK.1 hP 0 rfl rfl 1 (by decide) (hts (Cond.fieldLink RX9 41 "WorstVoice" "choir" "LWorstVoice$Choir;") (List.mem_of_getElem? (i := 1) rfl)) (fun _ h9 => h9) rfl dX9_mayor_16 ?_
    refine ro_calli (va_runV (As := []) (rest := []) ⟨hx, hb, hml, hown, hts⟩ (c_X1_elected l dC dI cI (fun k => a (3 + k)) (fun k => a (36 + k)) R mi n w wk hR (by omega) (by omega) (by omega) hm) (cwV 0 hts gX9_mayor_X1_elected rfl rfl rfl (by decide +kernel) ⟨Nat.le_of_ble_eq_true rfl, Nat.le_of_ble_eq_true rfl⟩) (ro_pv hK hP [1, 2, 3, 4, 5, 6, 7, 8, 9, 10, 11, 12, 13] rfl (ci := 1) (q0 := 1) (C := RX1) (T := TX1) (N := 10) rfl rfl) rfl rfl hl.1 rfl (lv_room (Nat.le_of_ble_eq_true rfl)) dX9_mayor_19 ⟨Nat.zero_le _, Nat.zero_le _⟩) hS hP (fun r3 H locs hr3 hP hS => ?_)
    subst hr3
    have hb2 : my R mi n w < n := am_lt _ n (by omega)
    exact W.iret hx hb hr (fun t ht hW => ⟨⟨_, (), rfl, (if_neg (by assumption)).symm, trivial⟩, hS.F ht⟩) hS.2.2 dX9_mayor_22
  · have c2 := Decidable.not_not.mp (mt bI_0.mpr c2)
    refine lv_bipush (v := -103) hx hb dX9_mayor_10 (by decide) ?_
    refine lv_goto (tgt := 22) hx hb dX9_mayor_12 (by decide) ?_
    exact W.iret hx hb hr (fun t ht hW => ⟨⟨_, (), rfl, (if_pos (by assumption)).symm, trivial⟩, hS.F ht⟩) hS.2.2 dX9_mayor_22
