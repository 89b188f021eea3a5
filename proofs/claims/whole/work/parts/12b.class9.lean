/-! the class: page and town -/
set_option maxHeartbeats 4000000 in
set_option maxRecDepth 100000 in
theorem c_X5_writeF (l : Launch) (dC : Nat → ClassId) (dI : Nat → Nat → Nat) (cI : ClassId) (a : Nat → Nat) (pg : Nat → Nat) (len : Nat) (hlen : len ≤ 32) (hok : ¬ len < 32) (ch : Nat) : Met l yX5_write wsX5_write ({ frames := 0, cells := 0, slots := 0, locals := 0 } : Room) (roP dC dI cI (pgW cI a pg len) [.ref (a 0), .int (nI (ch))]) (roI (fun r => r = nI 0)) 0 0 (fun _ => False) := by
  refine Met.ofW (cc := cX5_write) (maxL := 2) (ret := (some .boolean)) (by decide) rfl ?_
  intro p e s m args below meth c s₁ B hml hv
  obtain ⟨rfl, hP, hK⟩ := hv
  have hx := B.exec
  have hb := B.bytes
  have hr := B.returns
  have hts := atoms_spec (ws := wsX5_write) B.pre
  have hown : s.vm.findClass RX5 = some m.cls := findClass_of_methodNamed B.named
  have hlocks := B.notSynchronized
  have hS : va_S (fun _ => False) s.heap s.heap [] := va_S.rf
  have hl := lv_entry ([.ref (a 0), .int (nI (ch))]) (n := 2) (Nat.le_of_ble_eq_true rfl)
  rw [lg_entry_eq]
  generalize (lg_sl ([.ref (a 0), .int (nI (ch))]) ++ List.replicate (2 - (lg_sl ([.ref (a 0), .int (nI (ch))])).length) Slot.unset).toArray = ls at hl ⊢
  have hl : lv_has ls 2 [(0, .ref (a 0)), (1, .int (nI (ch)))] := hl
  refine lv_aload_n hx hb dX5_write_0 rfl (lv_at hl 0 rfl) ?_
  refine va_get (D := (dC, dI)) (ci := 5) (v := .int (nI (len))) (C := RX5) (T := TX5) (N := 2) hx hb hts (fun _ h => List.mem_cons_of_mem _ (List.mem_append_right _ (h))) hown hK.1 hP 0 rfl rfl 1 (by decide) (hts (Cond.fieldLink RX5 15 "WorstVoice$Page" "length" "I") (List.mem_of_getElem? (i := 1) rfl)) (fun _ h9 => h9) rfl dX5_write_1 ?_
  refine lv_if_lt (tgt := 19) hx hb dX5_write_4 (by decide) (fun c1 => absurd c1 (z_lt (by omega))) (fun c1 => ?_)
  refine lv_aload_n hx hb dX5_write_7 rfl (lv_at hl 0 rfl) ?_
  refine va_get (D := (dC, dI)) (ci := 5) (v := .int (nI (len))) (C := RX5) (T := TX5) (N := 2) hx hb hts (fun _ h => List.mem_cons_of_mem _ (List.mem_append_right _ (h))) hown hK.1 hP 0 rfl rfl 1 (by decide) (hts (Cond.fieldLink RX5 15 "WorstVoice$Page" "length" "I") (List.mem_of_getElem? (i := 1) rfl)) (fun _ h9 => h9) rfl dX5_write_8 ?_
  refine lv_aload_n hx hb dX5_write_11 rfl (lv_at hl 0 rfl) ?_
  refine va_get (D := (dC, dI)) (ci := 5) (v := .ref (a 1)) (C := RX5) (T := TX5) (N := 2) hx hb hts (fun _ h => List.mem_cons_of_mem _ (List.mem_append_right _ (h))) hown hK.1 hP 0 rfl rfl 0 (by decide) (hts (Cond.fieldLink RX5 9 "WorstVoice$Page" "codes" "[I") (List.mem_of_getElem? (i := 2) rfl)) (fun _ h9 => h9) rfl dX5_write_12 ?_
  refine va_alen hx hb hK.1 hP 1 0 rfl rfl (v := nI 32) rfl dX5_write_15 ?_
  refine lv_icmp_lt (tgt := 21) hx hb dX5_write_16 (by decide) (fun c2 => ?_) (fun c2 => ?_)
  · have c2 := (nI_ltI (by omega) (by decide)).mp c2
    exfalso; omega
  have c2 := mt (nI_ltI (by omega) (by decide)).mpr c2
  refine lv_iconst (v := nI (0)) hx hb dX5_write_19 (by decide) ?_
  exact W.zret hx hb hr (by first | rfl | exact bI_nz) (fun t ht hW => ⟨⟨_, (), rfl, rfl, trivial⟩, hS.F ht⟩) hS.2.2 dX5_write_20

set_option maxHeartbeats 4000000 in
set_option maxRecDepth 100000 in
theorem c_X9_letterO (l : Launch) (dC : Nat → ClassId) (dI : Nat → Nat → Nat) (cI : ClassId) (a : Nat → Nat) (ik tr nd : Int32) (pg : Nat → Nat) (len : Nat) (hlen : len ≤ 32) (x : Int32) (hx1 : ¬ (1 ≤ x.toInt ∧ x.toInt ≤ 126)) : Met l yX9_letter wsX9_letter ({ frames := 0, cells := 0, slots := 0, locals := 0 } : Room) (roP dC dI cI ([xoW a ik tr nd] ++ pgW cI (fun k => a (1 + k)) pg len) [.ref (a 0), .int (x)]) (roI (fun r => r = -102)) 0 0 (fun _ => False) := by
  refine Met.ofW (cc := cX9_letter) (maxL := 2) (ret := (some .int)) (by decide) rfl ?_
  intro p e s m args below meth c s₁ B hml hv
  obtain ⟨rfl, hP, hK⟩ := hv
  have hx := B.exec
  have hb := B.bytes
  have hr := B.returns
  have hts := atoms_spec (ws := wsX9_letter) B.pre
  have hown : s.vm.findClass RX9 = some m.cls := findClass_of_methodNamed B.named
  have hlocks := B.notSynchronized
  have hS : va_S (fun _ => False) s.heap s.heap [] := va_S.rf
  have hl := lv_entry ([.ref (a 0), .int (x)]) (n := 2) (Nat.le_of_ble_eq_true rfl)
  rw [lg_entry_eq]
  generalize (lg_sl ([.ref (a 0), .int (x)]) ++ List.replicate (2 - (lg_sl ([.ref (a 0), .int (x)])).length) Slot.unset).toArray = ls at hl ⊢
  have hl : lv_has ls 2 [(0, .ref (a 0)), (1, .int (x))] := hl
  refine lv_iload_n hx hb dX9_letter_0 rfl (lv_at hl 1 rfl) ?_
  refine lv_iconst (v := nI (1)) hx hb dX9_letter_1 (by decide) ?_
  refine lv_icmp_lt (tgt := 11) hx hb dX9_letter_2 (by decide) (fun c1 => ?_) (fun c1 => ?_)
  · have c1 := (rI_lt (by decide)).mp c1
    refine lv_bipush (v := -102) hx hb dX9_letter_11 (by decide) ?_
    exact W.iret hx hb hr (fun t ht hW => ⟨⟨_, (), rfl, rfl, trivial⟩, hS.F ht⟩) hS.2.2 dX9_letter_13
  · have c1 := mt (rI_lt (by decide)).mpr c1
    refine lv_iload_n hx hb dX9_letter_5 rfl (lv_at hl 1 rfl) ?_
    refine lv_bipush (v := nI (126)) hx hb dX9_letter_6 (by decide) ?_
    refine lv_icmp_le (tgt := 14) hx hb dX9_letter_8 (by decide) (fun c2 => ?_) (fun c2 => ?_)
    · have c2 := (rI_le (by decide)).mp c2
      exfalso; omega
    have c2 := mt (rI_le (by decide)).mpr c2
    refine lv_bipush (v := -102) hx hb dX9_letter_11 (by decide) ?_
    exact W.iret hx hb hr (fun t ht hW => ⟨⟨_, (), rfl, rfl, trivial⟩, hS.F ht⟩) hS.2.2 dX9_letter_13

set_option maxHeartbeats 4000000 in
set_option maxRecDepth 100000 in
theorem c_X9_letterF (l : Launch) (dC : Nat → ClassId) (dI : Nat → Nat → Nat) (cI : ClassId) (a : Nat → Nat) (ik tr nd : Int32) (pg : Nat → Nat) (len : Nat) (hlen : len ≤ 32) (ch : Nat) (hc1 : 1 ≤ ch) (hc2 : ch ≤ 126) (hok : ¬ len < 32) : Met l yX9_letter wsX9_letter ({ frames := 1, cells := 0, slots := 0, locals := 21 } : Room) (roP dC dI cI ([xoW a ik tr nd] ++ pgW cI (fun k => a (1 + k)) pg len) [.ref (a 0), .int (nI (ch))]) (roI (fun r => r = -104)) 0 0 (fun _ => False) := by
  refine Met.ofW (cc := cX9_letter) (maxL := 2) (ret := (some .int)) (by decide) rfl ?_
  intro p e s m args below meth c s₁ B hml hv
  obtain ⟨rfl, hP, hK⟩ := hv
  have hx := B.exec
  have hb := B.bytes
  have hr := B.returns
  have hts := atoms_spec (ws := wsX9_letter) B.pre
  have hown : s.vm.findClass RX9 = some m.cls := findClass_of_methodNamed B.named
  have hlocks := B.notSynchronized
  have hS : va_S (fun _ => False) s.heap s.heap [] := va_S.rf
  have hl := lv_entry ([.ref (a 0), .int (nI (ch))]) (n := 2) (Nat.le_of_ble_eq_true rfl)
  rw [lg_entry_eq]
  generalize (lg_sl ([.ref (a 0), .int (nI (ch))]) ++ List.replicate (2 - (lg_sl ([.ref (a 0), .int (nI (ch))])).length) Slot.unset).toArray = ls at hl ⊢
  have hl : lv_has ls 2 [(0, .ref (a 0)), (1, .int (nI (ch)))] := hl
  refine lv_iload_n hx hb dX9_letter_0 rfl (lv_at hl 1 rfl) ?_
  refine lv_iconst (v := nI (1)) hx hb dX9_letter_1 (by decide) ?_
  refine lv_icmp_lt (tgt := 11) hx hb dX9_letter_2 (by decide) (fun c1 => ?_) (fun c1 => ?_)
  · have c1 := (nI_ltI (by omega) (by decide)).mp c1
    exfalso; omega
  have c1 := mt (nI_ltI (by omega) (by decide)).mpr c1
  refine lv_iload_n hx hb dX9_letter_5 rfl (lv_at hl 1 rfl) ?_
  refine lv_bipush (v := nI (126)) hx hb dX9_letter_6 (by decide) ?_
  refine lv_icmp_le (tgt := 14) hx hb dX9_letter_8 (by decide) (fun c2 => ?_) (fun c2 => ?_)
  · have c2 := (nI_leI (by omega) (by decide)).mp c2
    refine lv_aload_n hx hb dX9_letter_14 rfl (lv_at hl 0 rfl) ?_
    refine va_get (D := (dC, dI)) (ci := 9) (v := .ref (a 1)) (C := RX9) (T := TX9) (N := 11) hx hb hts (fun _ h => List.mem_cons_of_mem _ (List.mem_append_left _ (List.mem_append_right _ (h)))) hown hK.1 hP 0 rfl rfl 0 (by decide) (hts (Cond.fieldLink RX9 12 "WorstVoice" "page" "LWorstVoice$Page;") (List.mem_of_getElem? (i := 1) rfl)) (fun _ h9 => h9) rfl dX9_letter_15 ?_
    refine lv_iload_n hx hb dX9_letter_18 rfl (lv_at hl 1 rfl) ?_
    refine ro_calli (va_runV (As := [.int (nI (ch))]) (rest := []) ⟨hx, hb, hml, hown, hts⟩ (c_X5_writeF l dC dI cI (fun k => a (1 + k)) pg len hlen (by omega) (ch)) (cwV 1 hts gX9_letter_X5_write rfl rfl rfl (by decide +kernel) ⟨Nat.le_of_ble_eq_true rfl, Nat.le_of_ble_eq_true rfl⟩) (ro_pv hK hP [1, 2] rfl (ci := 5) (q0 := 1) (C := RX5) (T := TX5) (N := 2) rfl rfl) rfl rfl hl.1 rfl (lv_room (Nat.le_of_ble_eq_true rfl)) dX9_letter_19 ⟨Nat.zero_le _, Nat.zero_le _⟩) hS hP (fun r3 H locs hr3 hP hS => ?_)
    subst hr3
    refine lv_if_eq (tgt := 35) hx hb dX9_letter_22 (by decide) (fun _ => ?_) (fun c => absurd (by decide) c)
    refine lv_bipush (v := -104) hx hb dX9_letter_35 (by decide) ?_
    exact W.iret hx hb hr (fun t ht hW => ⟨⟨_, (), rfl, rfl, trivial⟩, hS.F ht⟩) hS.2.2 dX9_letter_37
  · have c2 := mt (nI_leI (by omega) (by decide)).mpr c2
    exfalso; omega

set_option maxHeartbeats 4000000 in
set_option maxRecDepth 100000 in
theorem c_X9_letter (l : Launch) (dC : Nat → ClassId) (dI : Nat → Nat → Nat) (cI : ClassId) (sz : Nat) (a : Nat → Nat) (ik tr nd : Int32) (pg : Nat → Nat) (len : Nat) (hlen : len ≤ 32) (ch : Nat) (hc1 : 1 ≤ ch) (hc2 : ch ≤ 126) (hok : len < 32) : Met l yX9_letter wsX9_letter ({ frames := 1, cells := 0, slots := 0, locals := 21 } : Room) (muP dC dI cI ([xoW a ik tr nd] ++ pgW cI (fun k => a (1 + k)) pg len) sz [.ref (a 0), .int (nI (ch))]) (muI dC dI ([xoW a ik tr nd] ++ pgW cI (fun k => a (1 + k)) pg len) sz (fun (_ : Unit) => [xoW a ik tr nd] ++ pgW cI (fun k => a (1 + k)) (upN pg len ch) (len + 1)) (fun r _ => r = nI (len + 1))) 0 0 (va_A ([xoW a ik tr nd] ++ pgW cI (fun k => a (1 + k)) pg len) sz) := by
  refine Met.ofW (cc := cX9_letter) (maxL := 2) (ret := (some .int)) (by decide) rfl ?_
  intro p e s m args below meth c s₁ B hml hv
  obtain ⟨rfl, hsz, hP, hK, hD0⟩ := hv
  have hx := B.exec
  have hb := B.bytes
  have hr := B.returns
  have hts := atoms_spec (ws := wsX9_letter) B.pre
  have hown : s.vm.findClass RX9 = some m.cls := findClass_of_methodNamed B.named
  have hlocks := B.notSynchronized
  subst hsz
  unfold muI muB
  have hD := hD0.self (sz := s.heap.size)
  generalize hAe : va_A ([xoW a ik tr nd] ++ pgW cI (fun k => a (1 + k)) pg len) s.heap.size = A at hD ⊢
  have hA : ∀ q : Nat, s.heap.size ≤ q → A q := fun q h => by rw [← hAe]; exact Or.inr h
  have hS : va_S A s.heap s.heap [] := va_S.rf
  have hl := lv_entry ([.ref (a 0), .int (nI (ch))]) (n := 2) (Nat.le_of_ble_eq_true rfl)
  rw [lg_entry_eq]
  generalize (lg_sl ([.ref (a 0), .int (nI (ch))]) ++ List.replicate (2 - (lg_sl ([.ref (a 0), .int (nI (ch))])).length) Slot.unset).toArray = ls at hl ⊢
  have hl : lv_has ls 2 [(0, .ref (a 0)), (1, .int (nI (ch)))] := hl
  refine lv_iload_n hx hb dX9_letter_0 rfl (lv_at hl 1 rfl) ?_
  refine lv_iconst (v := nI (1)) hx hb dX9_letter_1 (by decide) ?_
  refine lv_icmp_lt (tgt := 11) hx hb dX9_letter_2 (by decide) (fun c1 => ?_) (fun c1 => ?_)
  · have c1 := (nI_ltI (by omega) (by decide)).mp c1
    exfalso; omega
  have c1 := mt (nI_ltI (by omega) (by decide)).mpr c1
  refine lv_iload_n hx hb dX9_letter_5 rfl (lv_at hl 1 rfl) ?_
  refine lv_bipush (v := nI (126)) hx hb dX9_letter_6 (by decide) ?_
  refine lv_icmp_le (tgt := 14) hx hb dX9_letter_8 (by decide) (fun c2 => ?_) (fun c2 => ?_)
  · have c2 := (nI_leI (by omega) (by decide)).mp c2
    refine lv_aload_n hx hb dX9_letter_14 rfl (lv_at hl 0 rfl) ?_
    refine va_get (D := (dC, dI)) (ci := 9) (v := .ref (a 1)) (C := RX9) (T := TX9) (N := 11) hx hb hts (fun _ h => List.mem_cons_of_mem _ (List.mem_append_left _ (List.mem_append_right _ (h)))) hown hK.1 hP 0 rfl rfl 0 (by decide) (hts (Cond.fieldLink RX9 12 "WorstVoice" "page" "LWorstVoice$Page;") (List.mem_of_getElem? (i := 1) rfl)) (fun _ h9 => h9) rfl dX9_letter_15 ?_
    refine lv_iload_n hx hb dX9_letter_18 rfl (lv_at hl 1 rfl) ?_
    refine mu_calli (wr := [((a 0), .inr (9, [.ref (a 1), .ref (a 3), .ref (a 10), .ref (a 17), .ref (a 24), .ref (a 29), .ref (a 34), .ref (a 35), .int (ik), .int (tr), .int (nd)]))]) (wn := (fun _ => [((a 0), .inr (9, [.ref (a 1), .ref (a 3), .ref (a 10), .ref (a 17), .ref (a 24), .ref (a 29), .ref (a 34), .ref (a 35), .int (ik), .int (tr), .int (nd)])), ((a 1), .inr (5, [.ref (a 2), .int (nI (len + 1))])), ((a 2), .inl (cI, 32, .inl (fun ii => nI ((upN pg len ch) ii))))])) (va_runV (As := [.int (nI (ch))]) (rest := []) ⟨hx, hb, hml, hown, hts⟩ (c_X5_write l dC dI cI _ (fun k => a (1 + k)) pg len hlen (by omega) (ch)) (cwV 1 hts gX9_letter_X5_write rfl rfl rfl (by decide +kernel) ⟨Nat.le_of_ble_eq_true rfl, Nat.le_of_ble_eq_true rfl⟩) (mu_pv hK hP hD [1, 2] (by decide) rfl rfl (ci := 5) (q0 := 1) (C := RX5) (T := TX5) (N := 2) rfl rfl) rfl rfl hl.1 rfl (lv_room (Nat.le_of_ble_eq_true rfl)) dX9_letter_19 ⟨Nat.zero_le _, Nat.zero_le _⟩) hS hA hP hD [1, 2] [0] [0, 1, 2] rfl rfl (by decide) (by decide) (by decide) (fun _ => rfl) (fun _ => rfl) (fun r4 u3 H locs hr4 hP hD hS => ?_)
    subst hr4
    have hP : va_P (dC, dI) vwCl [((a 0), .inr (9, [.ref (a 1), .ref (a 3), .ref (a 10), .ref (a 17), .ref (a 24), .ref (a 29), .ref (a 34), .ref (a 35), .int (ik), .int (tr), .int (nd)])), ((a 1), .inr (5, [.ref (a 2), .int (nI (len + 1))])), ((a 2), .inl (cI, 32, .inl (fun ii => nI ((upN pg len ch) ii))))] H := hP
    have hD : va_D A [((a 0), .inr (9, [.ref (a 1), .ref (a 3), .ref (a 10), .ref (a 17), .ref (a 24), .ref (a 29), .ref (a 34), .ref (a 35), .int (ik), .int (tr), .int (nd)])), ((a 1), .inr (5, [.ref (a 2), .int (nI (len + 1))])), ((a 2), .inl (cI, 32, .inl (fun ii => nI ((upN pg len ch) ii))))] := hD
    refine lv_if_eq (tgt := 35) hx hb dX9_letter_22 (by decide) (fun c => absurd c (by decide)) (fun _ => ?_)
    refine lv_aload_n hx hb dX9_letter_25 rfl (lv_at hl 0 rfl) ?_
    refine va_get (D := (dC, dI)) (ci := 9) (v := .ref (a 1)) (C := RX9) (T := TX9) (N := 11) hx hb hts (fun _ h => List.mem_cons_of_mem _ (List.mem_append_left _ (List.mem_append_right _ (h)))) hown hK.1 hP 0 rfl rfl 0 (by decide) (hts (Cond.fieldLink RX9 12 "WorstVoice" "page" "LWorstVoice$Page;") (List.mem_of_getElem? (i := 1) rfl)) (fun _ h9 => h9) rfl dX9_letter_26 ?_
    refine va_getN (D := (dC, dI)) (ci := 5) (v := .int (nI (len + 1))) (C := RX5) (T := TX5) (N := 2) hx hb hts (fun _ h => List.mem_cons_of_mem _ (List.mem_append_right _ (h))) hown hK.1 hP 1 rfl rfl 1 (by decide) (va_Nw.use rfl (hK.2.1 ("WorstVoice", 55, "WorstVoice$Page", "length", "I", "WorstVoice") (List.mem_of_getElem? (i := 1) rfl))) (fun _ h9 => h9) rfl dX9_letter_29 ?_
    refine lv_goto (tgt := 37) hx hb dX9_letter_32 (by decide) ?_
    exact W.iret hx hb hr (fun t ht hW => ⟨⟨_, (), rfl, rfl, by rw [ht]; exact hP, hD.as rfl⟩, hS.F ht⟩) hS.2.2 dX9_letter_37
  · have c2 := mt (nI_leI (by omega) (by decide)).mpr c2
    exfalso; omega

set_option maxHeartbeats 4000000 in
set_option maxRecDepth 100000 in
theorem c_X9_blank (l : Launch) (dC : Nat → ClassId) (dI : Nat → Nat → Nat) (cI : ClassId) (sz : Nat) (a : Nat → Nat) (ik tr nd : Int32) (pg : Nat → Nat) (len : Nat) (hlen : len ≤ 32) : Met l yX9_blank wsX9_blank ({ frames := 1, cells := 0, slots := 0, locals := 21 } : Room) (muP dC dI cI ([xoW a ik tr nd] ++ pgW cI (fun k => a (1 + k)) pg len) sz [.ref (a 0)]) (muI dC dI ([xoW a ik tr nd] ++ pgW cI (fun k => a (1 + k)) pg len) sz (fun (_ : Unit) => [xoW a ik tr nd] ++ pgW cI (fun k => a (1 + k)) pg 0) (fun r _ => r = nI len)) 0 0 (va_A ([xoW a ik tr nd] ++ pgW cI (fun k => a (1 + k)) pg len) sz) := by
  refine Met.ofW (cc := cX9_blank) (maxL := 1) (ret := (some .int)) (by decide) rfl ?_
  intro p e s m args below meth c s₁ B hml hv
  obtain ⟨rfl, hsz, hP, hK, hD0⟩ := hv
  have hx := B.exec
  have hb := B.bytes
  have hr := B.returns
  have hts := atoms_spec (ws := wsX9_blank) B.pre
  have hown : s.vm.findClass RX9 = some m.cls := findClass_of_methodNamed B.named
  have hlocks := B.notSynchronized
  subst hsz
  unfold muI muB
  have hD := hD0.self (sz := s.heap.size)
  generalize hAe : va_A ([xoW a ik tr nd] ++ pgW cI (fun k => a (1 + k)) pg len) s.heap.size = A at hD ⊢
  have hA : ∀ q : Nat, s.heap.size ≤ q → A q := fun q h => by rw [← hAe]; exact Or.inr h
  have hS : va_S A s.heap s.heap [] := va_S.rf
  have hl := lv_entry ([.ref (a 0)]) (n := 1) (Nat.le_of_ble_eq_true rfl)
  rw [lg_entry_eq]
  generalize (lg_sl ([.ref (a 0)]) ++ List.replicate (1 - (lg_sl ([.ref (a 0)])).length) Slot.unset).toArray = ls at hl ⊢
  have hl : lv_has ls 1 [(0, .ref (a 0))] := hl
  refine lv_aload_n hx hb dX9_blank_0 rfl (lv_at hl 0 rfl) ?_
  refine va_get (D := (dC, dI)) (ci := 9) (v := .ref (a 1)) (C := RX9) (T := TX9) (N := 11) hx hb hts (fun _ h => List.mem_cons_of_mem _ (List.mem_append_left _ (List.mem_append_right _ (h)))) hown hK.1 hP 0 rfl rfl 0 (by decide) (hts (Cond.fieldLink RX9 12 "WorstVoice" "page" "LWorstVoice$Page;") (List.mem_of_getElem? (i := 1) rfl)) (fun _ h9 => h9) rfl dX9_blank_1 ?_
  refine mu_calli (wr := [((a 0), .inr (9, [.ref (a 1), .ref (a 3), .ref (a 10), .ref (a 17), .ref (a 24), .ref (a 29), .ref (a 34), .ref (a 35), .int (ik), .int (tr), .int (nd)]))]) (wn := (fun _ => [((a 0), .inr (9, [.ref (a 1), .ref (a 3), .ref (a 10), .ref (a 17), .ref (a 24), .ref (a 29), .ref (a 34), .ref (a 35), .int (ik), .int (tr), .int (nd)])), ((a 1), .inr (5, [.ref (a 2), .int (nI (0))])), ((a 2), .inl (cI, 32, .inl (fun ii => nI (pg ii))))])) (va_runV (As := []) (rest := []) ⟨hx, hb, hml, hown, hts⟩ (c_X5_wipe l dC dI cI _ (fun k => a (1 + k)) pg len hlen) (cwV 0 hts gX9_blank_X5_wipe rfl rfl rfl (by decide +kernel) ⟨Nat.le_of_ble_eq_true rfl, Nat.le_of_ble_eq_true rfl⟩) (mu_pv hK hP hD [1, 2] (by decide) rfl rfl (ci := 5) (q0 := 1) (C := RX5) (T := TX5) (N := 2) rfl rfl) rfl rfl hl.1 rfl (lv_room (Nat.le_of_ble_eq_true rfl)) dX9_blank_4 ⟨Nat.zero_le _, Nat.zero_le _⟩) hS hA hP hD [1, 2] [0] [0, 1, 2] rfl rfl (by decide) (by decide) (by decide) (fun _ => rfl) (fun _ => rfl) (fun r2 u1 H locs hr2 hP hD hS => ?_)
  subst hr2
  have hP : va_P (dC, dI) vwCl [((a 0), .inr (9, [.ref (a 1), .ref (a 3), .ref (a 10), .ref (a 17), .ref (a 24), .ref (a 29), .ref (a 34), .ref (a 35), .int (ik), .int (tr), .int (nd)])), ((a 1), .inr (5, [.ref (a 2), .int (nI (0))])), ((a 2), .inl (cI, 32, .inl (fun ii => nI (pg ii))))] H := hP
  have hD : va_D A [((a 0), .inr (9, [.ref (a 1), .ref (a 3), .ref (a 10), .ref (a 17), .ref (a 24), .ref (a 29), .ref (a 34), .ref (a 35), .int (ik), .int (tr), .int (nd)])), ((a 1), .inr (5, [.ref (a 2), .int (nI (0))])), ((a 2), .inl (cI, 32, .inl (fun ii => nI (pg ii))))] := hD
  exact W.iret hx hb hr (fun t ht hW => ⟨⟨_, (), rfl, rfl, by rw [ht]; exact hP, hD.as rfl⟩, hS.F ht⟩) hS.2.2 dX9_blank_7

set_option maxHeartbeats 4000000 in
set_option maxRecDepth 100000 in
theorem c_X9_fault (l : Launch) (dC : Nat → ClassId) (dI : Nat → Nat → Nat) (cI : ClassId) (ks vs : Nat → Nat) (a : Nat → Nat) (ik tr nd : Int32) (pg : Nat → Nat) (len : Nat) (hlen : len ≤ 32) (hpc : ∀ i, i < len → 1 ≤ pg i ∧ pg i < 127) : Met l yX9_fault wsX9_fault ({ frames := 7, cells := 0, slots := 0, locals := 173 } : Room) (roPz dC dI cI ks vs ([xoW a ik tr nd] ++ pgW cI (fun k => a (1 + k)) pg len) [.ref (a 0)]) (roI (fun r => r = nI (fw pg len))) 0 0 (fun _ => False) := by
  refine Met.ofW (cc := cX9_fault) (maxL := 1) (ret := (some .int)) (by decide) rfl ?_
  intro p e s m args below meth c s₁ B hml hv
  obtain ⟨rfl, hP, hK, hZ⟩ := hv
  have hx := B.exec
  have hb := B.bytes
  have hr := B.returns
  have hts := atoms_spec (ws := wsX9_fault) B.pre
  have hown : s.vm.findClass RX9 = some m.cls := findClass_of_methodNamed B.named
  have hlocks := B.notSynchronized
  have hS : va_S (fun _ => False) s.heap s.heap [] := va_S.rf
  have hl := lv_entry ([.ref (a 0)]) (n := 1) (Nat.le_of_ble_eq_true rfl)
  rw [lg_entry_eq]
  generalize (lg_sl ([.ref (a 0)]) ++ List.replicate (1 - (lg_sl ([.ref (a 0)])).length) Slot.unset).toArray = ls at hl ⊢
  have hl : lv_has ls 1 [(0, .ref (a 0))] := hl
  refine lv_aload_n hx hb dX9_fault_0 rfl (lv_at hl 0 rfl) ?_
  refine va_get (D := (dC, dI)) (ci := 9) (v := .ref (a 1)) (C := RX9) (T := TX9) (N := 11) hx hb hts (fun _ h => List.mem_cons_of_mem _ (List.mem_append_left _ (List.mem_append_right _ (h)))) hown hK.1 hP 0 rfl rfl 0 (by decide) (hts (Cond.fieldLink RX9 12 "WorstVoice" "page" "LWorstVoice$Page;") (List.mem_of_getElem? (i := 1) rfl)) (fun _ h9 => h9) rfl dX9_fault_1 ?_
  refine ro_calli (va_runV (As := []) (rest := []) ⟨hx, hb, hml, hown, hts⟩ (c_X5_firstWrong l dC dI cI ks vs (fun k => a (1 + k)) pg len hlen hpc) (cwV 0 hts gX9_fault_X5_firstWrong rfl rfl rfl (by decide +kernel) ⟨Nat.le_of_ble_eq_true rfl, Nat.le_of_ble_eq_true rfl⟩) (roz_pv hK hZ hS hP [1, 2] rfl (ci := 5) (q0 := 1) (C := RX5) (T := TX5) (N := 2) rfl rfl) rfl rfl hl.1 rfl (lv_room (Nat.le_of_ble_eq_true rfl)) dX9_fault_4 ⟨Nat.zero_le _, Nat.zero_le _⟩) hS hP (fun r1 H locs hr1 hP hS => ?_)
  subst hr1
  exact W.iret hx hb hr (fun t ht hW => ⟨⟨_, (), rfl, rfl, trivial⟩, hS.F ht⟩) hS.2.2 dX9_fault_7

set_option maxHeartbeats 4000000 in
set_option maxRecDepth 100000 in
theorem c_X9_townF (l : Launch) (dC : Nat → ClassId) (dI : Nat → Nat → Nat) (cI : ClassId) (ks vs : Nat → Nat) (a : Nat → Nat) (ik tr nd : Int32) (pg : Nat → Nat) (len : Nat) (hlen : len ≤ 32) (hpc : ∀ i, i < len → 1 ≤ pg i ∧ pg i < 127) (hnw : ¬ whl pg len) : Met l yX9_town wsX9_town ({ frames := 8, cells := 0, slots := 0, locals := 193 } : Room) (roPz dC dI cI ks vs ([xoW a ik tr nd] ++ pgW cI (fun k => a (1 + k)) pg len) [.ref (a 0)]) (roI (fun r => r = -103)) 0 0 (fun _ => False) := by
  refine Met.ofW (cc := cX9_town) (maxL := 1) (ret := (some .int)) (by decide) rfl ?_
  intro p e s m args below meth c s₁ B hml hv
  obtain ⟨rfl, hP, hK, hZ⟩ := hv
  have hx := B.exec
  have hb := B.bytes
  have hr := B.returns
  have hts := atoms_spec (ws := wsX9_town) B.pre
  have hown : s.vm.findClass RX9 = some m.cls := findClass_of_methodNamed B.named
  have hlocks := B.notSynchronized
  have hS : va_S (fun _ => False) s.heap s.heap [] := va_S.rf
  have hl := lv_entry ([.ref (a 0)]) (n := 1) (Nat.le_of_ble_eq_true rfl)
  rw [lg_entry_eq]
  generalize (lg_sl ([.ref (a 0)]) ++ List.replicate (1 - (lg_sl ([.ref (a 0)])).length) Slot.unset).toArray = ls at hl ⊢
  have hl : lv_has ls 1 [(0, .ref (a 0))] := hl
  refine lv_aload_n hx hb dX9_town_0 rfl (lv_at hl 0 rfl) ?_
  refine va_get (D := (dC, dI)) (ci := 9) (v := .ref (a 1)) (C := RX9) (T := TX9) (N := 11) hx hb hts (fun _ h => List.mem_cons_of_mem _ (List.mem_append_left _ (List.mem_append_left _ (List.mem_append_left _ (List.mem_append_right _ (h)))))) hown hK.1 hP 0 rfl rfl 0 (by decide) (hts (Cond.fieldLink RX9 12 "WorstVoice" "page" "LWorstVoice$Page;") (List.mem_of_getElem? (i := 1) rfl)) (fun _ h9 => h9) rfl dX9_town_1 ?_
  refine ro_calli (va_runV (As := []) (rest := []) ⟨hx, hb, hml, hown, hts⟩ (c_X5_isWhole l dC dI cI ks vs (fun k => a (1 + k)) pg len hlen hpc) (cwV 0 hts gX9_town_X5_isWhole rfl rfl rfl (by decide +kernel) ⟨Nat.le_of_ble_eq_true rfl, Nat.le_of_ble_eq_true rfl⟩) (roz_pv hK hZ hS hP [1, 2] rfl (ci := 5) (q0 := 1) (C := RX5) (T := TX5) (N := 2) rfl rfl) rfl rfl hl.1 rfl (lv_room (Nat.le_of_ble_eq_true rfl)) dX9_town_4 ⟨Nat.zero_le _, Nat.zero_le _⟩) hS hP (fun r1 H locs hr1 hP hS => ?_)
  subst hr1
  refine lv_if_ne (tgt := 13) hx hb dX9_town_7 (by decide) (fun c2 => absurd (Decidable.not_not.mp (mt bI_0.mpr c2)) hnw) (fun c2 => ?_)
  refine lv_bipush (v := -103) hx hb dX9_town_10 (by decide) ?_
  exact W.iret hx hb hr (fun t ht hW => ⟨⟨_, (), rfl, rfl, trivial⟩, hS.F ht⟩) hS.2.2 dX9_town_12

set_option maxHeartbeats 4000000 in
set_option maxRecDepth 100000 in
theorem c_X9_town (l : Launch) (dC : Nat → ClassId) (dI : Nat → Nat → Nat) (cI : ClassId) (ks vs : Nat → Nat) (sz : Nat) (a : Nat → Nat) (ik tr nd : Int32) (pg : Nat → Nat) (len : Nat) (hlen : len ≤ 32) (hpc : ∀ i, i < len → 1 ≤ pg i ∧ pg i < 127) (R mi : Nat → Nat) (n w : Nat) (wk : Int32) (E : Nat → Nat) (h : Nat) (hh : h ≤ 8) (hwl : whl pg len) : Met l yX9_town wsX9_town ({ frames := 8, cells := 0, slots := 0, locals := 194 } : Room) (muPz dC dI cI ks vs ([xoW a ik tr nd] ++ pgW cI (fun k => a (1 + k)) pg len ++ chW cI (fun k => a (3 + k)) (a 36) R mi n w wk ++ hsW cI (fun k => a (24 + k)) E h) sz [.ref (a 0)]) (muI dC dI ([xoW a ik tr nd] ++ pgW cI (fun k => a (1 + k)) pg len ++ chW cI (fun k => a (3 + k)) (a 36) R mi n w wk ++ hsW cI (fun k => a (24 + k)) E h) sz (fun (_ : Unit) => [xoW a (nI 0) (tr + nI 1) nd] ++ pgW cI (fun k => a (1 + k)) pg 0 ++ chW cI (fun k => a (3 + k)) (a 36) (rdR pg R ((se pg len + 1) / 6)) (mdP pg (se pg len) mi (len - se pg len - 1)) ((se pg len + 1) / 6) (len - se pg len - 1) (nI 0) ++ hsW cI (fun k => a (24 + k)) E 0) (fun r _ => r = nI ((se pg len + 1) / 6))) 0 0 (va_A ([xoW a ik tr nd] ++ pgW cI (fun k => a (1 + k)) pg len ++ chW cI (fun k => a (3 + k)) (a 36) R mi n w wk ++ hsW cI (fun k => a (24 + k)) E h) sz) := by
  refine Met.ofW (cc := cX9_town) (maxL := 1) (ret := (some .int)) (by decide) rfl ?_
  intro p e s m args below meth c s₁ B hml hv
  obtain ⟨rfl, hsz, hP, hK, hD0, hZ⟩ := hv
  have hx := B.exec
  have hb := B.bytes
  have hr := B.returns
  have hts := atoms_spec (ws := wsX9_town) B.pre
  have hown : s.vm.findClass RX9 = some m.cls := findClass_of_methodNamed B.named
  have hlocks := B.notSynchronized
  subst hsz
  unfold muI muB
  have hD := hD0.self (sz := s.heap.size)
  generalize hAe : va_A ([xoW a ik tr nd] ++ pgW cI (fun k => a (1 + k)) pg len ++ chW cI (fun k => a (3 + k)) (a 36) R mi n w wk ++ hsW cI (fun k => a (24 + k)) E h) s.heap.size = A at hD hZ ⊢
  have hA : ∀ q : Nat, s.heap.size ≤ q → A q := fun q h => by rw [← hAe]; exact Or.inr h
  have hS : va_S A s.heap s.heap [] := va_S.rf
  have hl := lv_entry ([.ref (a 0)]) (n := 1) (Nat.le_of_ble_eq_true rfl)
  rw [lg_entry_eq]
  generalize (lg_sl ([.ref (a 0)]) ++ List.replicate (1 - (lg_sl ([.ref (a 0)])).length) Slot.unset).toArray = ls at hl ⊢
  have hl : lv_has ls 1 [(0, .ref (a 0))] := hl
  refine lv_aload_n hx hb dX9_town_0 rfl (lv_at hl 0 rfl) ?_
  refine va_get (D := (dC, dI)) (ci := 9) (v := .ref (a 1)) (C := RX9) (T := TX9) (N := 11) hx hb hts (fun _ h => List.mem_cons_of_mem _ (List.mem_append_left _ (List.mem_append_left _ (List.mem_append_left _ (List.mem_append_right _ (h)))))) hown hK.1 hP 0 rfl rfl 0 (by decide) (hts (Cond.fieldLink RX9 12 "WorstVoice" "page" "LWorstVoice$Page;") (List.mem_of_getElem? (i := 1) rfl)) (fun _ h9 => h9) rfl dX9_town_1 ?_
  refine ro_calli (va_runV (As := []) (rest := []) ⟨hx, hb, hml, hown, hts⟩ (c_X5_isWhole l dC dI cI ks vs (fun k => a (1 + k)) pg len hlen hpc) (cwV 0 hts gX9_town_X5_isWhole rfl rfl rfl (by decide +kernel) ⟨Nat.le_of_ble_eq_true rfl, Nat.le_of_ble_eq_true rfl⟩) (roz_pv hK hZ hS hP [1, 2] rfl (ci := 5) (q0 := 1) (C := RX5) (T := TX5) (N := 2) rfl rfl) rfl rfl hl.1 rfl (lv_room (Nat.le_of_ble_eq_true rfl)) dX9_town_4 ⟨Nat.zero_le _, Nat.zero_le _⟩) hS hP (fun r1 H locs hr1 hP hS => ?_)
  subst hr1
  refine lv_if_ne (tgt := 13) hx hb dX9_town_7 (by decide) (fun c2 => ?_) (fun c2 => absurd hwl (bI_0.mp c2))
  refine lv_aload_n hx hb dX9_town_13 rfl (lv_at hl 0 rfl) ?_
  refine va_get (D := (dC, dI)) (ci := 9) (v := .ref (a 3)) (C := RX9) (T := TX9) (N := 11) hx hb hts (fun _ h => List.mem_cons_of_mem _ (List.mem_append_left _ (List.mem_append_left _ (List.mem_append_left _ (List.mem_append_right _ (h)))))) hown hK.1 hP 0 rfl rfl 1 (by decide) (hts (Cond.fieldLink RX9 41 "WorstVoice" "choir" "LWorstVoice$Choir;") (List.mem_of_getElem? (i := 2) rfl)) (fun _ h9 => h9) rfl dX9_town_14 ?_
  refine lv_aload_n hx hb dX9_town_17 rfl (lv_at hl 0 rfl) ?_
  refine va_get (D := (dC, dI)) (ci := 9) (v := .ref (a 1)) (C := RX9) (T := TX9) (N := 11) hx hb hts (fun _ h => List.mem_cons_of_mem _ (List.mem_append_left _ (List.mem_append_left _ (List.mem_append_left _ (List.mem_append_right _ (h)))))) hown hK.1 hP 0 rfl rfl 0 (by decide) (hts (Cond.fieldLink RX9 12 "WorstVoice" "page" "LWorstVoice$Page;") (List.mem_of_getElem? (i := 1) rfl)) (fun _ h9 => h9) rfl dX9_town_18 ?_
  refine mu_callv (wr := [((a 0), .inr (9, [.ref (a 1), .ref (a 3), .ref (a 10), .ref (a 17), .ref (a 24), .ref (a 29), .ref (a 34), .ref (a 35), .int (ik), .int (tr), .int (nd)])), ((a 24), .inr (4, [.ref (a 25), .ref (a 26), .ref (a 27), .ref (a 28), .int (nI (h))])), ((a 25), .inl (cI, 8, .inl (fun ii => nI (E (4 * ii))))), ((a 26), .inl (cI, 8, .inl (fun ii => nI (E (4 * ii + 1))))), ((a 27), .inl (cI, 8, .inl (fun ii => nI (E (4 * ii + 2))))), ((a 28), .inl (cI, 8, .inl (fun ii => nI (E (4 * ii + 3)))))]) (wn := (fun _ => [((a 0), .inr (9, [.ref (a 1), .ref (a 3), .ref (a 10), .ref (a 17), .ref (a 24), .ref (a 29), .ref (a 34), .ref (a 35), .int (ik), .int (tr), .int (nd)])), ((a 1), .inr (5, [.ref (a 2), .int (nI (len))])), ((a 2), .inl (cI, 32, .inl (fun ii => nI (pg ii)))), ((a 3), .inr (1, [.ref (a 36), .ref (a 4), .ref (a 5), .ref (a 6), .ref (a 7), .ref (a 8), .ref (a 9), .int (nI ((se pg len + 1) / 6)), .int (nI (len - se pg len - 1)), .int (nI 0)])), ((a 4), .inl (cI, 4, .inl (fun ii => nI ((rdR pg R ((se pg len + 1) / 6)) (8 * ii))))), ((a 5), .inl (cI, 16, .inl (fun ii => nI ((rdR pg R ((se pg len + 1) / 6)) (8 * (ii / 4) + 1 + ii % 4))))), ((a 6), .inl (cI, 4, .inl (fun ii => nI ((rdR pg R ((se pg len + 1) / 6)) (8 * ii + 5))))), ((a 7), .inl (cI, 4, .inl (fun ii => nI ((rdR pg R ((se pg len + 1) / 6)) (8 * ii + 6))))), ((a 8), .inl (cI, 4, .inl (fun ii => nI ((rdR pg R ((se pg len + 1) / 6)) (8 * ii + 7))))), ((a 9), .inl (cI, 5, .inl (fun ii => nI ((mdP pg (se pg len) mi (len - se pg len - 1)) ii)))), ((a 24), .inr (4, [.ref (a 25), .ref (a 26), .ref (a 27), .ref (a 28), .int (nI (h))])), ((a 25), .inl (cI, 8, .inl (fun ii => nI (E (4 * ii))))), ((a 26), .inl (cI, 8, .inl (fun ii => nI (E (4 * ii + 1))))), ((a 27), .inl (cI, 8, .inl (fun ii => nI (E (4 * ii + 2))))), ((a 28), .inl (cI, 8, .inl (fun ii => nI (E (4 * ii + 3)))))])) (va_runV (As := [.ref (a 1)]) (rest := []) ⟨hx, hb, hml, hown, hts⟩ (c_X1_readFrom l dC dI cI ks vs _ (fun k => a (3 + k)) (fun k => a (1 + k)) (a 36) R mi n w wk pg len hlen hpc hwl) (cwV 1 hts gX9_town_X1_readFrom rfl rfl rfl (by decide +kernel) ⟨Nat.le_of_ble_eq_true rfl, Nat.le_of_ble_eq_true rfl⟩) (muz_pv hK hZ hS hA hP hD [3, 4, 5, 6, 7, 8, 9, 1, 2] (by decide) rfl rfl (ci := 1) (q0 := 3) (C := RX1) (T := TX1) (N := 10) rfl rfl) rfl rfl hl.1 rfl (lv_room (Nat.le_of_ble_eq_true rfl)) dX9_town_21 ⟨Nat.zero_le _, Nat.zero_le _⟩) hS hA hP hD [3, 4, 5, 6, 7, 8, 9, 1, 2] [0, 10, 11, 12, 13, 14] [0, 13, 14, 6, 7, 8, 9, 10, 11, 12, 1, 2, 3, 4, 5] rfl rfl (by decide) (by decide) (by decide) (fun _ => rfl) (fun _ => rfl) (fun u3 H locs hr4 hP hD hS => ?_)
  have hP : va_P (dC, dI) vwCl [((a 0), .inr (9, [.ref (a 1), .ref (a 3), .ref (a 10), .ref (a 17), .ref (a 24), .ref (a 29), .ref (a 34), .ref (a 35), .int (ik), .int (tr), .int (nd)])), ((a 1), .inr (5, [.ref (a 2), .int (nI (len))])), ((a 2), .inl (cI, 32, .inl (fun ii => nI (pg ii)))), ((a 3), .inr (1, [.ref (a 36), .ref (a 4), .ref (a 5), .ref (a 6), .ref (a 7), .ref (a 8), .ref (a 9), .int (nI ((se pg len + 1) / 6)), .int (nI (len - se pg len - 1)), .int (nI 0)])), ((a 4), .inl (cI, 4, .inl (fun ii => nI ((rdR pg R ((se pg len + 1) / 6)) (8 * ii))))), ((a 5), .inl (cI, 16, .inl (fun ii => nI ((rdR pg R ((se pg len + 1) / 6)) (8 * (ii / 4) + 1 + ii % 4))))), ((a 6), .inl (cI, 4, .inl (fun ii => nI ((rdR pg R ((se pg len + 1) / 6)) (8 * ii + 5))))), ((a 7), .inl (cI, 4, .inl (fun ii => nI ((rdR pg R ((se pg len + 1) / 6)) (8 * ii + 6))))), ((a 8), .inl (cI, 4, .inl (fun ii => nI ((rdR pg R ((se pg len + 1) / 6)) (8 * ii + 7))))), ((a 9), .inl (cI, 5, .inl (fun ii => nI ((mdP pg (se pg len) mi (len - se pg len - 1)) ii)))), ((a 24), .inr (4, [.ref (a 25), .ref (a 26), .ref (a 27), .ref (a 28), .int (nI (h))])), ((a 25), .inl (cI, 8, .inl (fun ii => nI (E (4 * ii))))), ((a 26), .inl (cI, 8, .inl (fun ii => nI (E (4 * ii + 1))))), ((a 27), .inl (cI, 8, .inl (fun ii => nI (E (4 * ii + 2))))), ((a 28), .inl (cI, 8, .inl (fun ii => nI (E (4 * ii + 3)))))] H := hP
  have hD : va_D A [((a 0), .inr (9, [.ref (a 1), .ref (a 3), .ref (a 10), .ref (a 17), .ref (a 24), .ref (a 29), .ref (a 34), .ref (a 35), .int (ik), .int (tr), .int (nd)])), ((a 1), .inr (5, [.ref (a 2), .int (nI (len))])), ((a 2), .inl (cI, 32, .inl (fun ii => nI (pg ii)))), ((a 3), .inr (1, [.ref (a 36), .ref (a 4), .ref (a 5), .ref (a 6), .ref (a 7), .ref (a 8), .ref (a 9), .int (nI ((se pg len + 1) / 6)), .int (nI (len - se pg len - 1)), .int (nI 0)])), ((a 4), .inl (cI, 4, .inl (fun ii => nI ((rdR pg R ((se pg len + 1) / 6)) (8 * ii))))), ((a 5), .inl (cI, 16, .inl (fun ii => nI ((rdR pg R ((se pg len + 1) / 6)) (8 * (ii / 4) + 1 + ii % 4))))), ((a 6), .inl (cI, 4, .inl (fun ii => nI ((rdR pg R ((se pg len + 1) / 6)) (8 * ii + 5))))), ((a 7), .inl (cI, 4, .inl (fun ii => nI ((rdR pg R ((se pg len + 1) / 6)) (8 * ii + 6))))), ((a 8), .inl (cI, 4, .inl (fun ii => nI ((rdR pg R ((se pg len + 1) / 6)) (8 * ii + 7))))), ((a 9), .inl (cI, 5, .inl (fun ii => nI ((mdP pg (se pg len) mi (len - se pg len - 1)) ii)))), ((a 24), .inr (4, [.ref (a 25), .ref (a 26), .ref (a 27), .ref (a 28), .int (nI (h))])), ((a 25), .inl (cI, 8, .inl (fun ii => nI (E (4 * ii))))), ((a 26), .inl (cI, 8, .inl (fun ii => nI (E (4 * ii + 1))))), ((a 27), .inl (cI, 8, .inl (fun ii => nI (E (4 * ii + 2))))), ((a 28), .inl (cI, 8, .inl (fun ii => nI (E (4 * ii + 3)))))] := hD
  refine lv_aload_n hx hb dX9_town_24 rfl (lv_at hl 0 rfl) ?_
  refine va_get (D := (dC, dI)) (ci := 9) (v := .ref (a 24)) (C := RX9) (T := TX9) (N := 11) hx hb hts (fun _ h => List.mem_cons_of_mem _ (List.mem_append_left _ (List.mem_append_left _ (List.mem_append_left _ (List.mem_append_right _ (h)))))) hown hK.1 hP 0 rfl rfl 4 (by decide) (hts (Cond.fieldLink RX9 19 "WorstVoice" "hearsay" "LWorstVoice$Hearsay;") (List.mem_of_getElem? (i := 3) rfl)) (fun _ h9 => h9) rfl dX9_town_25 ?_
  refine mu_calli (wr := [((a 0), .inr (9, [.ref (a 1), .ref (a 3), .ref (a 10), .ref (a 17), .ref (a 24), .ref (a 29), .ref (a 34), .ref (a 35), .int (ik), .int (tr), .int (nd)])), ((a 1), .inr (5, [.ref (a 2), .int (nI (len))])), ((a 2), .inl (cI, 32, .inl (fun ii => nI (pg ii)))), ((a 3), .inr (1, [.ref (a 36), .ref (a 4), .ref (a 5), .ref (a 6), .ref (a 7), .ref (a 8), .ref (a 9), .int (nI ((se pg len + 1) / 6)), .int (nI (len - se pg len - 1)), .int (nI 0)])), ((a 4), .inl (cI, 4, .inl (fun ii => nI ((rdR pg R ((se pg len + 1) / 6)) (8 * ii))))), ((a 5), .inl (cI, 16, .inl (fun ii => nI ((rdR pg R ((se pg len + 1) / 6)) (8 * (ii / 4) + 1 + ii % 4))))), ((a 6), .inl (cI, 4, .inl (fun ii => nI ((rdR pg R ((se pg len + 1) / 6)) (8 * ii + 5))))), ((a 7), .inl (cI, 4, .inl (fun ii => nI ((rdR pg R ((se pg len + 1) / 6)) (8 * ii + 6))))), ((a 8), .inl (cI, 4, .inl (fun ii => nI ((rdR pg R ((se pg len + 1) / 6)) (8 * ii + 7))))), ((a 9), .inl (cI, 5, .inl (fun ii => nI ((mdP pg (se pg len) mi (len - se pg len - 1)) ii))))]) (wn := (fun _ => [((a 0), .inr (9, [.ref (a 1), .ref (a 3), .ref (a 10), .ref (a 17), .ref (a 24), .ref (a 29), .ref (a 34), .ref (a 35), .int (ik), .int (tr), .int (nd)])), ((a 1), .inr (5, [.ref (a 2), .int (nI (len))])), ((a 2), .inl (cI, 32, .inl (fun ii => nI (pg ii)))), ((a 3), .inr (1, [.ref (a 36), .ref (a 4), .ref (a 5), .ref (a 6), .ref (a 7), .ref (a 8), .ref (a 9), .int (nI ((se pg len + 1) / 6)), .int (nI (len - se pg len - 1)), .int (nI 0)])), ((a 4), .inl (cI, 4, .inl (fun ii => nI ((rdR pg R ((se pg len + 1) / 6)) (8 * ii))))), ((a 5), .inl (cI, 16, .inl (fun ii => nI ((rdR pg R ((se pg len + 1) / 6)) (8 * (ii / 4) + 1 + ii % 4))))), ((a 6), .inl (cI, 4, .inl (fun ii => nI ((rdR pg R ((se pg len + 1) / 6)) (8 * ii + 5))))), ((a 7), .inl (cI, 4, .inl (fun ii => nI ((rdR pg R ((se pg len + 1) / 6)) (8 * ii + 6))))), ((a 8), .inl (cI, 4, .inl (fun ii => nI ((rdR pg R ((se pg len + 1) / 6)) (8 * ii + 7))))), ((a 9), .inl (cI, 5, .inl (fun ii => nI ((mdP pg (se pg len) mi (len - se pg len - 1)) ii)))), ((a 24), .inr (4, [.ref (a 25), .ref (a 26), .ref (a 27), .ref (a 28), .int (nI (0))])), ((a 25), .inl (cI, 8, .inl (fun ii => nI (E (4 * ii))))), ((a 26), .inl (cI, 8, .inl (fun ii => nI (E (4 * ii + 1))))), ((a 27), .inl (cI, 8, .inl (fun ii => nI (E (4 * ii + 2))))), ((a 28), .inl (cI, 8, .inl (fun ii => nI (E (4 * ii + 3)))))])) (va_runV (As := []) (rest := []) ⟨hx, hb, hml, hown, hts⟩ (c_X4_clear l dC dI cI _ (fun k => a (24 + k)) E h hh) (cwV 0 hts gX9_town_X4_clear rfl rfl rfl (by decide +kernel) ⟨Nat.le_of_ble_eq_true rfl, Nat.le_of_ble_eq_true rfl⟩) (mu_pv hK hP hD [10, 11, 12, 13, 14] (by decide) rfl rfl (ci := 4) (q0 := 10) (C := RX4) (T := TX4) (N := 5) rfl rfl) rfl rfl hl.1 rfl (lv_room (Nat.le_of_ble_eq_true rfl)) dX9_town_28 ⟨Nat.zero_le _, Nat.zero_le _⟩) hS hA hP hD [10, 11, 12, 13, 14] [0, 1, 2, 3, 4, 5, 6, 7, 8, 9] [0, 1, 2, 3, 4, 5, 6, 7, 8, 9, 10, 11, 12, 13, 14] rfl rfl (by decide) (by decide) (by decide) (fun _ => rfl) (fun _ => rfl) (fun r6 u5 H locs hr6 hP hD hS => ?_)
  subst hr6
  have hP : va_P (dC, dI) vwCl [((a 0), .inr (9, [.ref (a 1), .ref (a 3), .ref (a 10), .ref (a 17), .ref (a 24), .ref (a 29), .ref (a 34), .ref (a 35), .int (ik), .int (tr), .int (nd)])), ((a 1), .inr (5, [.ref (a 2), .int (nI (len))])), ((a 2), .inl (cI, 32, .inl (fun ii => nI (pg ii)))), ((a 3), .inr (1, [.ref (a 36), .ref (a 4), .ref (a 5), .ref (a 6), .ref (a 7), .ref (a 8), .ref (a 9), .int (nI ((se pg len + 1) / 6)), .int (nI (len - se pg len - 1)), .int (nI 0)])), ((a 4), .inl (cI, 4, .inl (fun ii => nI ((rdR pg R ((se pg len + 1) / 6)) (8 * ii))))), ((a 5), .inl (cI, 16, .inl (fun ii => nI ((rdR pg R ((se pg len + 1) / 6)) (8 * (ii / 4) + 1 + ii % 4))))), ((a 6), .inl (cI, 4, .inl (fun ii => nI ((rdR pg R ((se pg len + 1) / 6)) (8 * ii + 5))))), ((a 7), .inl (cI, 4, .inl (fun ii => nI ((rdR pg R ((se pg len + 1) / 6)) (8 * ii + 6))))), ((a 8), .inl (cI, 4, .inl (fun ii => nI ((rdR pg R ((se pg len + 1) / 6)) (8 * ii + 7))))), ((a 9), .inl (cI, 5, .inl (fun ii => nI ((mdP pg (se pg len) mi (len - se pg len - 1)) ii)))), ((a 24), .inr (4, [.ref (a 25), .ref (a 26), .ref (a 27), .ref (a 28), .int (nI (0))])), ((a 25), .inl (cI, 8, .inl (fun ii => nI (E (4 * ii))))), ((a 26), .inl (cI, 8, .inl (fun ii => nI (E (4 * ii + 1))))), ((a 27), .inl (cI, 8, .inl (fun ii => nI (E (4 * ii + 2))))), ((a 28), .inl (cI, 8, .inl (fun ii => nI (E (4 * ii + 3)))))] H := hP
  have hD : va_D A [((a 0), .inr (9, [.ref (a 1), .ref (a 3), .ref (a 10), .ref (a 17), .ref (a 24), .ref (a 29), .ref (a 34), .ref (a 35), .int (ik), .int (tr), .int (nd)])), ((a 1), .inr (5, [.ref (a 2), .int (nI (len))])), ((a 2), .inl (cI, 32, .inl (fun ii => nI (pg ii)))), ((a 3), .inr (1, [.ref (a 36), .ref (a 4), .ref (a 5), .ref (a 6), .ref (a 7), .ref (a 8), .ref (a 9), .int (nI ((se pg len + 1) / 6)), .int (nI (len - se pg len - 1)), .int (nI 0)])), ((a 4), .inl (cI, 4, .inl (fun ii => nI ((rdR pg R ((se pg len + 1) / 6)) (8 * ii))))), ((a 5), .inl (cI, 16, .inl (fun ii => nI ((rdR pg R ((se pg len + 1) / 6)) (8 * (ii / 4) + 1 + ii % 4))))), ((a 6), .inl (cI, 4, .inl (fun ii => nI ((rdR pg R ((se pg len + 1) / 6)) (8 * ii + 5))))), ((a 7), .inl (cI, 4, .inl (fun ii => nI ((rdR pg R ((se pg len + 1) / 6)) (8 * ii + 6))))), ((a 8), .inl (cI, 4, .inl (fun ii => nI ((rdR pg R ((se pg len + 1) / 6)) (8 * ii + 7))))), ((a 9), .inl (cI, 5, .inl (fun ii => nI ((mdP pg (se pg len) mi (len - se pg len - 1)) ii)))), ((a 24), .inr (4, [.ref (a 25), .ref (a 26), .ref (a 27), .ref (a 28), .int (nI (0))])), ((a 25), .inl (cI, 8, .inl (fun ii => nI (E (4 * ii))))), ((a 26), .inl (cI, 8, .inl (fun ii => nI (E (4 * ii + 1))))), ((a 27), .inl (cI, 8, .inl (fun ii => nI (E (4 * ii + 2))))), ((a 28), .inl (cI, 8, .inl (fun ii => nI (E (4 * ii + 3)))))] := hD
  refine lv_pop hx hb dX9_town_31 rfl ?_
  refine lv_aload_n hx hb dX9_town_32 rfl (lv_at hl 0 rfl) ?_
  refine lv_iconst (v := nI (0)) hx hb dX9_town_33 (by decide) ?_
  refine va_put (D := (dC, dI)) (ci := 9) (v := .int (nI (0))) (ty := .boolean) (C := RX9) (T := TX9) (N := 11) hx hb hts (fun _ h => List.mem_cons_of_mem _ (List.mem_append_left _ (List.mem_append_left _ (List.mem_append_left _ (List.mem_append_right _ (h)))))) tyX9 tyX9_ok nmX9 hown hK.1 hP hD hS 0 rfl rfl 8 (by decide) (hts (Cond.fieldLink RX9 77 "WorstVoice" "imageKept" "Z") (List.mem_of_getElem? (i := 4) rfl)) (fun _ h9 => h9) rfl (by decide +kernel) (by first | rfl | exact bI_nz) (by first | rfl | decide +kernel) (Nat.le_of_ble_eq_true rfl) dX9_town_34 (fun H locs hP hD hS => ?_)
  have hP : va_P (dC, dI) vwCl [((a 0), .inr (9, [.ref (a 1), .ref (a 3), .ref (a 10), .ref (a 17), .ref (a 24), .ref (a 29), .ref (a 34), .ref (a 35), .int (nI (0)), .int (tr), .int (nd)])), ((a 1), .inr (5, [.ref (a 2), .int (nI (len))])), ((a 2), .inl (cI, 32, .inl (fun ii => nI (pg ii)))), ((a 3), .inr (1, [.ref (a 36), .ref (a 4), .ref (a 5), .ref (a 6), .ref (a 7), .ref (a 8), .ref (a 9), .int (nI ((se pg len + 1) / 6)), .int (nI (len - se pg len - 1)), .int (nI 0)])), ((a 4), .inl (cI, 4, .inl (fun ii => nI ((rdR pg R ((se pg len + 1) / 6)) (8 * ii))))), ((a 5), .inl (cI, 16, .inl (fun ii => nI ((rdR pg R ((se pg len + 1) / 6)) (8 * (ii / 4) + 1 + ii % 4))))), ((a 6), .inl (cI, 4, .inl (fun ii => nI ((rdR pg R ((se pg len + 1) / 6)) (8 * ii + 5))))), ((a 7), .inl (cI, 4, .inl (fun ii => nI ((rdR pg R ((se pg len + 1) / 6)) (8 * ii + 6))))), ((a 8), .inl (cI, 4, .inl (fun ii => nI ((rdR pg R ((se pg len + 1) / 6)) (8 * ii + 7))))), ((a 9), .inl (cI, 5, .inl (fun ii => nI ((mdP pg (se pg len) mi (len - se pg len - 1)) ii)))), ((a 24), .inr (4, [.ref (a 25), .ref (a 26), .ref (a 27), .ref (a 28), .int (nI (0))])), ((a 25), .inl (cI, 8, .inl (fun ii => nI (E (4 * ii))))), ((a 26), .inl (cI, 8, .inl (fun ii => nI (E (4 * ii + 1))))), ((a 27), .inl (cI, 8, .inl (fun ii => nI (E (4 * ii + 2))))), ((a 28), .inl (cI, 8, .inl (fun ii => nI (E (4 * ii + 3)))))] H := hP
  have hD : va_D A [((a 0), .inr (9, [.ref (a 1), .ref (a 3), .ref (a 10), .ref (a 17), .ref (a 24), .ref (a 29), .ref (a 34), .ref (a 35), .int (nI (0)), .int (tr), .int (nd)])), ((a 1), .inr (5, [.ref (a 2), .int (nI (len))])), ((a 2), .inl (cI, 32, .inl (fun ii => nI (pg ii)))), ((a 3), .inr (1, [.ref (a 36), .ref (a 4), .ref (a 5), .ref (a 6), .ref (a 7), .ref (a 8), .ref (a 9), .int (nI ((se pg len + 1) / 6)), .int (nI (len - se pg len - 1)), .int (nI 0)])), ((a 4), .inl (cI, 4, .inl (fun ii => nI ((rdR pg R ((se pg len + 1) / 6)) (8 * ii))))), ((a 5), .inl (cI, 16, .inl (fun ii => nI ((rdR pg R ((se pg len + 1) / 6)) (8 * (ii / 4) + 1 + ii % 4))))), ((a 6), .inl (cI, 4, .inl (fun ii => nI ((rdR pg R ((se pg len + 1) / 6)) (8 * ii + 5))))), ((a 7), .inl (cI, 4, .inl (fun ii => nI ((rdR pg R ((se pg len + 1) / 6)) (8 * ii + 6))))), ((a 8), .inl (cI, 4, .inl (fun ii => nI ((rdR pg R ((se pg len + 1) / 6)) (8 * ii + 7))))), ((a 9), .inl (cI, 5, .inl (fun ii => nI ((mdP pg (se pg len) mi (len - se pg len - 1)) ii)))), ((a 24), .inr (4, [.ref (a 25), .ref (a 26), .ref (a 27), .ref (a 28), .int (nI (0))])), ((a 25), .inl (cI, 8, .inl (fun ii => nI (E (4 * ii))))), ((a 26), .inl (cI, 8, .inl (fun ii => nI (E (4 * ii + 1))))), ((a 27), .inl (cI, 8, .inl (fun ii => nI (E (4 * ii + 2))))), ((a 28), .inl (cI, 8, .inl (fun ii => nI (E (4 * ii + 3)))))] := hD
  refine lv_aload_n hx hb dX9_town_37 rfl (lv_at hl 0 rfl) ?_
  refine lv_dup hx hb dX9_town_38 rfl ?_
  refine va_get (D := (dC, dI)) (ci := 9) (v := .int (tr)) (C := RX9) (T := TX9) (N := 11) hx hb hts (fun _ h => List.mem_cons_of_mem _ (List.mem_append_left _ (List.mem_append_left _ (List.mem_append_left _ (List.mem_append_right _ (h)))))) hown hK.1 hP 0 rfl rfl 9 (by decide) (hts (Cond.fieldLink RX9 81 "WorstVoice" "townsRead" "I") (List.mem_of_getElem? (i := 5) rfl)) (fun _ h9 => h9) rfl dX9_town_39 ?_
  refine lv_iconst (v := nI (1)) hx hb dX9_town_42 (by decide) ?_
  refine lv_iadd hx hb dX9_town_43 ?_
  refine va_put (D := (dC, dI)) (ci := 9) (v := .int (tr + nI 1)) (ty := .int) (C := RX9) (T := TX9) (N := 11) hx hb hts (fun _ h => List.mem_cons_of_mem _ (List.mem_append_left _ (List.mem_append_left _ (List.mem_append_left _ (List.mem_append_right _ (h)))))) tyX9 tyX9_ok nmX9 hown hK.1 hP hD hS 0 rfl rfl 9 (by decide) (hts (Cond.fieldLink RX9 81 "WorstVoice" "townsRead" "I") (List.mem_of_getElem? (i := 5) rfl)) (fun _ h9 => h9) rfl (by decide +kernel) rfl rfl (Nat.le_of_ble_eq_true rfl) dX9_town_44 (fun H locs hP hD hS => ?_)
  have hP : va_P (dC, dI) vwCl [((a 0), .inr (9, [.ref (a 1), .ref (a 3), .ref (a 10), .ref (a 17), .ref (a 24), .ref (a 29), .ref (a 34), .ref (a 35), .int (nI (0)), .int (tr + nI 1), .int (nd)])), ((a 1), .inr (5, [.ref (a 2), .int (nI (len))])), ((a 2), .inl (cI, 32, .inl (fun ii => nI (pg ii)))), ((a 3), .inr (1, [.ref (a 36), .ref (a 4), .ref (a 5), .ref (a 6), .ref (a 7), .ref (a 8), .ref (a 9), .int (nI ((se pg len + 1) / 6)), .int (nI (len - se pg len - 1)), .int (nI 0)])), ((a 4), .inl (cI, 4, .inl (fun ii => nI ((rdR pg R ((se pg len + 1) / 6)) (8 * ii))))), ((a 5), .inl (cI, 16, .inl (fun ii => nI ((rdR pg R ((se pg len + 1) / 6)) (8 * (ii / 4) + 1 + ii % 4))))), ((a 6), .inl (cI, 4, .inl (fun ii => nI ((rdR pg R ((se pg len + 1) / 6)) (8 * ii + 5))))), ((a 7), .inl (cI, 4, .inl (fun ii => nI ((rdR pg R ((se pg len + 1) / 6)) (8 * ii + 6))))), ((a 8), .inl (cI, 4, .inl (fun ii => nI ((rdR pg R ((se pg len + 1) / 6)) (8 * ii + 7))))), ((a 9), .inl (cI, 5, .inl (fun ii => nI ((mdP pg (se pg len) mi (len - se pg len - 1)) ii)))), ((a 24), .inr (4, [.ref (a 25), .ref (a 26), .ref (a 27), .ref (a 28), .int (nI (0))])), ((a 25), .inl (cI, 8, .inl (fun ii => nI (E (4 * ii))))), ((a 26), .inl (cI, 8, .inl (fun ii => nI (E (4 * ii + 1))))), ((a 27), .inl (cI, 8, .inl (fun ii => nI (E (4 * ii + 2))))), ((a 28), .inl (cI, 8, .inl (fun ii => nI (E (4 * ii + 3)))))] H := hP
  have hD : va_D A [((a 0), .inr (9, [.ref (a 1), .ref (a 3), .ref (a 10), .ref (a 17), .ref (a 24), .ref (a 29), .ref (a 34), .ref (a 35), .int (nI (0)), .int (tr + nI 1), .int (nd)])), ((a 1), .inr (5, [.ref (a 2), .int (nI (len))])), ((a 2), .inl (cI, 32, .inl (fun ii => nI (pg ii)))), ((a 3), .inr (1, [.ref (a 36), .ref (a 4), .ref (a 5), .ref (a 6), .ref (a 7), .ref (a 8), .ref (a 9), .int (nI ((se pg len + 1) / 6)), .int (nI (len - se pg len - 1)), .int (nI 0)])), ((a 4), .inl (cI, 4, .inl (fun ii => nI ((rdR pg R ((se pg len + 1) / 6)) (8 * ii))))), ((a 5), .inl (cI, 16, .inl (fun ii => nI ((rdR pg R ((se pg len + 1) / 6)) (8 * (ii / 4) + 1 + ii % 4))))), ((a 6), .inl (cI, 4, .inl (fun ii => nI ((rdR pg R ((se pg len + 1) / 6)) (8 * ii + 5))))), ((a 7), .inl (cI, 4, .inl (fun ii => nI ((rdR pg R ((se pg len + 1) / 6)) (8 * ii + 6))))), ((a 8), .inl (cI, 4, .inl (fun ii => nI ((rdR pg R ((se pg len + 1) / 6)) (8 * ii + 7))))), ((a 9), .inl (cI, 5, .inl (fun ii => nI ((mdP pg (se pg len) mi (len - se pg len - 1)) ii)))), ((a 24), .inr (4, [.ref (a 25), .ref (a 26), .ref (a 27), .ref (a 28), .int (nI (0))])), ((a 25), .inl (cI, 8, .inl (fun ii => nI (E (4 * ii))))), ((a 26), .inl (cI, 8, .inl (fun ii => nI (E (4 * ii + 1))))), ((a 27), .inl (cI, 8, .inl (fun ii => nI (E (4 * ii + 2))))), ((a 28), .inl (cI, 8, .inl (fun ii => nI (E (4 * ii + 3)))))] := hD
  refine lv_aload_n hx hb dX9_town_47 rfl (lv_at hl 0 rfl) ?_
  refine va_get (D := (dC, dI)) (ci := 9) (v := .ref (a 1)) (C := RX9) (T := TX9) (N := 11) hx hb hts (fun _ h => List.mem_cons_of_mem _ (List.mem_append_left _ (List.mem_append_left _ (List.mem_append_left _ (List.mem_append_right _ (h)))))) hown hK.1 hP 0 rfl rfl 0 (by decide) (hts (Cond.fieldLink RX9 12 "WorstVoice" "page" "LWorstVoice$Page;") (List.mem_of_getElem? (i := 1) rfl)) (fun _ h9 => h9) rfl dX9_town_48 ?_
  refine mu_calli (wr := [((a 0), .inr (9, [.ref (a 1), .ref (a 3), .ref (a 10), .ref (a 17), .ref (a 24), .ref (a 29), .ref (a 34), .ref (a 35), .int (nI (0)), .int (tr + nI 1), .int (nd)])), ((a 3), .inr (1, [.ref (a 36), .ref (a 4), .ref (a 5), .ref (a 6), .ref (a 7), .ref (a 8), .ref (a 9), .int (nI ((se pg len + 1) / 6)), .int (nI (len - se pg len - 1)), .int (nI 0)])), ((a 4), .inl (cI, 4, .inl (fun ii => nI ((rdR pg R ((se pg len + 1) / 6)) (8 * ii))))), ((a 5), .inl (cI, 16, .inl (fun ii => nI ((rdR pg R ((se pg len + 1) / 6)) (8 * (ii / 4) + 1 + ii % 4))))), ((a 6), .inl (cI, 4, .inl (fun ii => nI ((rdR pg R ((se pg len + 1) / 6)) (8 * ii + 5))))), ((a 7), .inl (cI, 4, .inl (fun ii => nI ((rdR pg R ((se pg len + 1) / 6)) (8 * ii + 6))))), ((a 8), .inl (cI, 4, .inl (fun ii => nI ((rdR pg R ((se pg len + 1) / 6)) (8 * ii + 7))))), ((a 9), .inl (cI, 5, .inl (fun ii => nI ((mdP pg (se pg len) mi (len - se pg len - 1)) ii)))), ((a 24), .inr (4, [.ref (a 25), .ref (a 26), .ref (a 27), .ref (a 28), .int (nI (0))])), ((a 25), .inl (cI, 8, .inl (fun ii => nI (E (4 * ii))))), ((a 26), .inl (cI, 8, .inl (fun ii => nI (E (4 * ii + 1))))), ((a 27), .inl (cI, 8, .inl (fun ii => nI (E (4 * ii + 2))))), ((a 28), .inl (cI, 8, .inl (fun ii => nI (E (4 * ii + 3)))))]) (wn := (fun _ => [((a 0), .inr (9, [.ref (a 1), .ref (a 3), .ref (a 10), .ref (a 17), .ref (a 24), .ref (a 29), .ref (a 34), .ref (a 35), .int (nI (0)), .int (tr + nI 1), .int (nd)])), ((a 1), .inr (5, [.ref (a 2), .int (nI (0))])), ((a 2), .inl (cI, 32, .inl (fun ii => nI (pg ii)))), ((a 3), .inr (1, [.ref (a 36), .ref (a 4), .ref (a 5), .ref (a 6), .ref (a 7), .ref (a 8), .ref (a 9), .int (nI ((se pg len + 1) / 6)), .int (nI (len - se pg len - 1)), .int (nI 0)])), ((a 4), .inl (cI, 4, .inl (fun ii => nI ((rdR pg R ((se pg len + 1) / 6)) (8 * ii))))), ((a 5), .inl (cI, 16, .inl (fun ii => nI ((rdR pg R ((se pg len + 1) / 6)) (8 * (ii / 4) + 1 + ii % 4))))), ((a 6), .inl (cI, 4, .inl (fun ii => nI ((rdR pg R ((se pg len + 1) / 6)) (8 * ii + 5))))), ((a 7), .inl (cI, 4, .inl (fun ii => nI ((rdR pg R ((se pg len + 1) / 6)) (8 * ii + 6))))), ((a 8), .inl (cI, 4, .inl (fun ii => nI ((rdR pg R ((se pg len + 1) / 6)) (8 * ii + 7))))), ((a 9), .inl (cI, 5, .inl (fun ii => nI ((mdP pg (se pg len) mi (len - se pg len - 1)) ii)))), ((a 24), .inr (4, [.ref (a 25), .ref (a 26), .ref (a 27), .ref (a 28), .int (nI (0))])), ((a 25), .inl (cI, 8, .inl (fun ii => nI (E (4 * ii))))), ((a 26), .inl (cI, 8, .inl (fun ii => nI (E (4 * ii + 1))))), ((a 27), .inl (cI, 8, .inl (fun ii => nI (E (4 * ii + 2))))), ((a 28), .inl (cI, 8, .inl (fun ii => nI (E (4 * ii + 3)))))])) (va_runV (As := []) (rest := []) ⟨hx, hb, hml, hown, hts⟩ (c_X5_wipe l dC dI cI _ (fun k => a (1 + k)) pg len hlen) (cwV 0 hts gX9_town_X5_wipe rfl rfl rfl (by decide +kernel) ⟨Nat.le_of_ble_eq_true rfl, Nat.le_of_ble_eq_true rfl⟩) (mu_pv hK hP hD [1, 2] (by decide) rfl rfl (ci := 5) (q0 := 1) (C := RX5) (T := TX5) (N := 2) rfl rfl) rfl rfl hl.1 rfl (lv_room (Nat.le_of_ble_eq_true rfl)) dX9_town_51 ⟨Nat.zero_le _, Nat.zero_le _⟩) hS hA hP hD [1, 2] [0, 3, 4, 5, 6, 7, 8, 9, 10, 11, 12, 13, 14] [0, 13, 14, 1, 2, 3, 4, 5, 6, 7, 8, 9, 10, 11, 12] rfl rfl (by decide) (by decide) (by decide) (fun _ => rfl) (fun _ => rfl) (fun r8 u7 H locs hr8 hP hD hS => ?_)
  subst hr8
  have hP : va_P (dC, dI) vwCl [((a 0), .inr (9, [.ref (a 1), .ref (a 3), .ref (a 10), .ref (a 17), .ref (a 24), .ref (a 29), .ref (a 34), .ref (a 35), .int (nI (0)), .int (tr + nI 1), .int (nd)])), ((a 1), .inr (5, [.ref (a 2), .int (nI (0))])), ((a 2), .inl (cI, 32, .inl (fun ii => nI (pg ii)))), ((a 3), .inr (1, [.ref (a 36), .ref (a 4), .ref (a 5), .ref (a 6), .ref (a 7), .ref (a 8), .ref (a 9), .int (nI ((se pg len + 1) / 6)), .int (nI (len - se pg len - 1)), .int (nI 0)])), ((a 4), .inl (cI, 4, .inl (fun ii => nI ((rdR pg R ((se pg len + 1) / 6)) (8 * ii))))), ((a 5), .inl (cI, 16, .inl (fun ii => nI ((rdR pg R ((se pg len + 1) / 6)) (8 * (ii / 4) + 1 + ii % 4))))), ((a 6), .inl (cI, 4, .inl (fun ii => nI ((rdR pg R ((se pg len + 1) / 6)) (8 * ii + 5))))), ((a 7), .inl (cI, 4, .inl (fun ii => nI ((rdR pg R ((se pg len + 1) / 6)) (8 * ii + 6))))), ((a 8), .inl (cI, 4, .inl (fun ii => nI ((rdR pg R ((se pg len + 1) / 6)) (8 * ii + 7))))), ((a 9), .inl (cI, 5, .inl (fun ii => nI ((mdP pg (se pg len) mi (len - se pg len - 1)) ii)))), ((a 24), .inr (4, [.ref (a 25), .ref (a 26), .ref (a 27), .ref (a 28), .int (nI (0))])), ((a 25), .inl (cI, 8, .inl (fun ii => nI (E (4 * ii))))), ((a 26), .inl (cI, 8, .inl (fun ii => nI (E (4 * ii + 1))))), ((a 27), .inl (cI, 8, .inl (fun ii => nI (E (4 * ii + 2))))), ((a 28), .inl (cI, 8, .inl (fun ii => nI (E (4 * ii + 3)))))] H := hP
  have hD : va_D A [((a 0), .inr (9, [.ref (a 1), .ref (a 3), .ref (a 10), .ref (a 17), .ref (a 24), .ref (a 29), .ref (a 34), .ref (a 35), .int (nI (0)), .int (tr + nI 1), .int (nd)])), ((a 1), .inr (5, [.ref (a 2), .int (nI (0))])), ((a 2), .inl (cI, 32, .inl (fun ii => nI (pg ii)))), ((a 3), .inr (1, [.ref (a 36), .ref (a 4), .ref (a 5), .ref (a 6), .ref (a 7), .ref (a 8), .ref (a 9), .int (nI ((se pg len + 1) / 6)), .int (nI (len - se pg len - 1)), .int (nI 0)])), ((a 4), .inl (cI, 4, .inl (fun ii => nI ((rdR pg R ((se pg len + 1) / 6)) (8 * ii))))), ((a 5), .inl (cI, 16, .inl (fun ii => nI ((rdR pg R ((se pg len + 1) / 6)) (8 * (ii / 4) + 1 + ii % 4))))), ((a 6), .inl (cI, 4, .inl (fun ii => nI ((rdR pg R ((se pg len + 1) / 6)) (8 * ii + 5))))), ((a 7), .inl (cI, 4, .inl (fun ii => nI ((rdR pg R ((se pg len + 1) / 6)) (8 * ii + 6))))), ((a 8), .inl (cI, 4, .inl (fun ii => nI ((rdR pg R ((se pg len + 1) / 6)) (8 * ii + 7))))), ((a 9), .inl (cI, 5, .inl (fun ii => nI ((mdP pg (se pg len) mi (len - se pg len - 1)) ii)))), ((a 24), .inr (4, [.ref (a 25), .ref (a 26), .ref (a 27), .ref (a 28), .int (nI (0))])), ((a 25), .inl (cI, 8, .inl (fun ii => nI (E (4 * ii))))), ((a 26), .inl (cI, 8, .inl (fun ii => nI (E (4 * ii + 1))))), ((a 27), .inl (cI, 8, .inl (fun ii => nI (E (4 * ii + 2))))), ((a 28), .inl (cI, 8, .inl (fun ii => nI (E (4 * ii + 3)))))] := hD
  refine lv_pop hx hb dX9_town_54 rfl ?_
  refine lv_aload_n hx hb dX9_town_55 rfl (lv_at hl 0 rfl) ?_
  refine va_get (D := (dC, dI)) (ci := 9) (v := .ref (a 3)) (C := RX9) (T := TX9) (N := 11) hx hb hts (fun _ h => List.mem_cons_of_mem _ (List.mem_append_left _ (List.mem_append_left _ (List.mem_append_left _ (List.mem_append_right _ (h)))))) hown hK.1 hP 0 rfl rfl 1 (by decide) (hts (Cond.fieldLink RX9 41 "WorstVoice" "choir" "LWorstVoice$Choir;") (List.mem_of_getElem? (i := 2) rfl)) (fun _ h9 => h9) rfl dX9_town_56 ?_
  refine va_getN (D := (dC, dI)) (ci := 1) (v := .int (nI ((se pg len + 1) / 6))) (C := RX1) (T := TX1) (N := 10) hx hb hts (fun _ h => List.mem_cons_of_mem _ (List.mem_append_left _ (List.mem_append_left _ (List.mem_append_right _ (h))))) hown hK.1 hP 3 rfl rfl 7 (by decide) (va_Nw.use rfl (hK.2.1 ("WorstVoice", 84, "WorstVoice$Choir", "singers", "I", "WorstVoice") (List.mem_of_getElem? (i := 3) rfl))) (fun _ h9 => h9) rfl dX9_town_59 ?_
  exact W.iret hx hb hr (fun t ht hW => ⟨⟨_, (), rfl, rfl, by rw [ht]; exact hP, hD.as rfl⟩, hS.F ht⟩) hS.2.2 dX9_town_62
