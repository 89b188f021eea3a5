/-! the class: what would be, seeds, kinds -/
set_option maxHeartbeats 4000000 in
set_option maxRecDepth 100000 in
theorem c_bitCount (l : Launch) (dC : Nat → ClassId) (dI : Nat → Nat → Nat) (cI : ClassId) (x_ : Nat) (hx_ : x_ < 16) : Met l yJ6_bitCount_0f7a4 wsJ6_bitCount_0f7a4 ({ frames := 0, cells := 0, slots := 0, locals := 0 } : Room) (roP dC dI cI ([]) [.int (nI (x_))]) (roI (fun r => r = nI (pc4 x_))) 0 0 (fun _ => False) := by
  refine Met.ofW (cc := cJ6_bitCount_0f7a4) (maxL := 1) (ret := (some .int)) (by decide) rfl ?_
  intro p e s m args below meth c s₁ B hml hv
  obtain ⟨rfl, hP, hK⟩ := hv
  have hx := B.exec
  have hb := B.bytes
  have hr := B.returns
  have hts := atoms_spec (ws := wsJ6_bitCount_0f7a4) B.pre
  have hown : s.vm.findClass RJ6 = some m.cls := findClass_of_methodNamed B.named
  have hlocks := B.notSynchronized
  have hS : va_S (fun _ => False) s.heap s.heap [] := va_S.rf
  have hl := lv_entry ([.int (nI (x_))]) (n := 1) (Nat.le_of_ble_eq_true rfl)
  rw [lg_entry_eq]
  generalize (lg_sl ([.int (nI (x_))]) ++ List.replicate (1 - (lg_sl ([.int (nI (x_))])).length) Slot.unset).toArray = ls at hl ⊢
  have hl : lv_has ls 1 [(0, .int (nI (x_)))] := hl
  refine lv_iload_n hx hb dJ6_bitCount_0f7a4_0 rfl (lv_at hl 0 rfl) ?_
  refine lv_iload_n hx hb dJ6_bitCount_0f7a4_1 rfl (lv_at hl 0 rfl) ?_
  refine lv_iconst (v := nI (1)) hx hb dJ6_bitCount_0f7a4_2 (by decide) ?_
  refine lv_iushr hx hb dJ6_bitCount_0f7a4_3 rfl ?_
  refine lv_ldcw (v := 1431655765) hx hb hown (hts (Cond.constant RJ6 265 (1431655765)) (List.mem_of_getElem? (i := 1) rfl)) dJ6_bitCount_0f7a4_4 ?_
  refine tp_i (z := nI 1431655765) (by decide) ?_
  refine lv_iand hx hb dJ6_bitCount_0f7a4_7 ?_
  refine lv_isub hx hb dJ6_bitCount_0f7a4_8 ?_
  refine tp_i (z := nI (t1 x_)) (bc_1 x_ hx_) ?_
  refine lv_istore_n (lv' := [(0, .int (nI (t1 x_)))]) hx hb dJ6_bitCount_0f7a4_9 rfl hl (by decide) rfl (fun ls hl => ?_)
  refine lv_iload_n hx hb dJ6_bitCount_0f7a4_10 rfl (lv_at hl 0 rfl) ?_
  refine lv_ldcw (v := 858993459) hx hb hown (hts (Cond.constant RJ6 266 (858993459)) (List.mem_of_getElem? (i := 2) rfl)) dJ6_bitCount_0f7a4_11 ?_
  refine tp_i (z := nI 858993459) (by decide) ?_
  refine lv_iand hx hb dJ6_bitCount_0f7a4_14 ?_
  refine lv_iload_n hx hb dJ6_bitCount_0f7a4_15 rfl (lv_at hl 0 rfl) ?_
  refine lv_iconst (v := nI (2)) hx hb dJ6_bitCount_0f7a4_16 (by decide) ?_
  refine lv_iushr hx hb dJ6_bitCount_0f7a4_17 rfl ?_
  refine lv_ldcw (v := 858993459) hx hb hown (hts (Cond.constant RJ6 266 (858993459)) (List.mem_of_getElem? (i := 2) rfl)) dJ6_bitCount_0f7a4_18 ?_
  refine tp_i (z := nI 858993459) (by decide) ?_
  refine lv_iand hx hb dJ6_bitCount_0f7a4_21 ?_
  refine lv_iadd hx hb dJ6_bitCount_0f7a4_22 ?_
  refine tp_i (z := nI (pc4 x_)) (bc_2 x_ hx_) ?_
  refine lv_istore_n (lv' := [(0, .int (nI (pc4 x_)))]) hx hb dJ6_bitCount_0f7a4_23 rfl hl (by decide) rfl (fun ls hl => ?_)
  refine lv_iload_n hx hb dJ6_bitCount_0f7a4_24 rfl (lv_at hl 0 rfl) ?_
  refine lv_iload_n hx hb dJ6_bitCount_0f7a4_25 rfl (lv_at hl 0 rfl) ?_
  refine lv_iconst (v := nI (4)) hx hb dJ6_bitCount_0f7a4_26 (by decide) ?_
  refine lv_iushr hx hb dJ6_bitCount_0f7a4_27 rfl ?_
  refine lv_iadd hx hb dJ6_bitCount_0f7a4_28 ?_
  refine lv_ldcw (v := 252645135) hx hb hown (hts (Cond.constant RJ6 267 (252645135)) (List.mem_of_getElem? (i := 3) rfl)) dJ6_bitCount_0f7a4_29 ?_
  refine tp_i (z := nI 252645135) (by decide) ?_
  refine lv_iand hx hb dJ6_bitCount_0f7a4_32 ?_
  refine tp_i (z := nI (pc4 x_)) (bc_3 x_ hx_) ?_
  refine lv_istore_n (lv' := [(0, .int (nI (pc4 x_)))]) hx hb dJ6_bitCount_0f7a4_33 rfl hl (by decide) rfl (fun ls hl => ?_)
  refine lv_iload_n hx hb dJ6_bitCount_0f7a4_34 rfl (lv_at hl 0 rfl) ?_
  refine lv_iload_n hx hb dJ6_bitCount_0f7a4_35 rfl (lv_at hl 0 rfl) ?_
  refine lv_bipush (v := nI (8)) hx hb dJ6_bitCount_0f7a4_36 (by decide) ?_
  refine lv_iushr hx hb dJ6_bitCount_0f7a4_38 rfl ?_
  refine lv_iadd hx hb dJ6_bitCount_0f7a4_39 ?_
  refine tp_i (z := nI (pc4 x_)) (bc_4 x_ hx_) ?_
  refine lv_istore_n (lv' := [(0, .int (nI (pc4 x_)))]) hx hb dJ6_bitCount_0f7a4_40 rfl hl (by decide) rfl (fun ls hl => ?_)
  refine lv_iload_n hx hb dJ6_bitCount_0f7a4_41 rfl (lv_at hl 0 rfl) ?_
  refine lv_iload_n hx hb dJ6_bitCount_0f7a4_42 rfl (lv_at hl 0 rfl) ?_
  refine lv_bipush (v := nI (16)) hx hb dJ6_bitCount_0f7a4_43 (by decide) ?_
  refine lv_iushr hx hb dJ6_bitCount_0f7a4_45 rfl ?_
  refine lv_iadd hx hb dJ6_bitCount_0f7a4_46 ?_
  refine tp_i (z := nI (pc4 x_)) (bc_5 x_ hx_) ?_
  refine lv_istore_n (lv' := [(0, .int (nI (pc4 x_)))]) hx hb dJ6_bitCount_0f7a4_47 rfl hl (by decide) rfl (fun ls hl => ?_)
  refine lv_iload_n hx hb dJ6_bitCount_0f7a4_48 rfl (lv_at hl 0 rfl) ?_
  refine lv_bipush (v := nI (63)) hx hb dJ6_bitCount_0f7a4_49 (by decide) ?_
  refine lv_iand hx hb dJ6_bitCount_0f7a4_51 ?_
  refine tp_i (z := nI (pc4 x_)) (bc_6 x_ hx_) ?_
  exact W.iret hx hb hr (fun t ht hW => ⟨⟨_, (), rfl, rfl, trivial⟩, hS.F ht⟩) hS.2.2 dJ6_bitCount_0f7a4_52

set_option maxHeartbeats 4000000 in
set_option maxRecDepth 100000 in
theorem c_X9_isOfKind (l : Launch) (dC : Nat → ClassId) (dI : Nat → Nat → Nat) (cI : ClassId) (v : Nat → Nat) (kd x_ : Nat) (hkd : kd < 5) (hx_ : x_ < 5) : Met l yX9_isOfKind wsX9_isOfKind ({ frames := 0, cells := 0, slots := 0, locals := 0 } : Room) (roP dC dI cI (voW v) [.ref (v (kd + 1)), .int (nI (x_))]) (roI (fun r => r = bI (isK kd x_))) 0 0 (fun _ => False) := by
  refine Met.ofW (cc := cX9_isOfKind) (maxL := 2) (ret := (some .boolean)) (by decide) rfl ?_
  intro p e s m args below meth c s₁ B hml hv
  obtain ⟨rfl, hP, hK⟩ := hv
  have hx := B.exec
  have hb := B.bytes
  have hr := B.returns
  have hts := atoms_spec (ws := wsX9_isOfKind) B.pre
  have hown : s.vm.findClass RX9 = some m.cls := findClass_of_methodNamed B.named
  have hlocks := B.notSynchronized
  have hS : va_S (fun _ => False) s.heap s.heap [] := va_S.rf
  have hl := lv_entry ([.ref (v (kd + 1)), .int (nI (x_))]) (n := 2) (Nat.le_of_ble_eq_true rfl)
  rw [lg_entry_eq]
  generalize (lg_sl ([.ref (v (kd + 1)), .int (nI (x_))]) ++ List.replicate (2 - (lg_sl ([.ref (v (kd + 1)), .int (nI (x_))])).length) Slot.unset).toArray = ls at hl ⊢
  have hl : lv_has ls 2 [(0, .ref (v (kd + 1))), (1, .int (nI (x_)))] := hl
  rcases (show kd = 0 ∨ kd = 1 ∨ kd = 2 ∨ kd = 3 ∨ kd = 4 by omega) with rfl | rfl | rfl | rfl | rfl
  · have hl : lv_has ls 2 [(0, .ref (v 1)), (1, .int (nI (x_)))] := hl
    refine lv_iload_n hx hb dX9_isOfKind_0 rfl (lv_at hl 1 rfl) ?_
    rcases (show x_ = 0 ∨ x_ = 1 ∨ x_ = 2 ∨ x_ = 3 ∨ x_ = 4 by omega) with rfl | rfl | rfl | rfl | rfl
    · refine lv_tableIn (tgt := 36) hx hb dX9_isOfKind_1 (by decide) (by decide) (off := 35) (by decide) (by decide) ?_
      refine lv_iconst (v := nI (1)) hx hb dX9_isOfKind_36 (by decide) ?_
      exact W.zret hx hb hr (by first | rfl | exact bI_nz) (fun t ht hW => ⟨⟨_, (), rfl, rfl, trivial⟩, hS.F ht⟩) hS.2.2 dX9_isOfKind_37
    · refine lv_tableIn (tgt := 38) hx hb dX9_isOfKind_1 (by decide) (by decide) (off := 37) (by decide) (by decide) ?_
      refine lv_aload_n hx hb dX9_isOfKind_38 rfl (lv_at hl 0 rfl) ?_
      refine va_instNo hx hb hown (hts (Cond.classLink RX9 231 "WorstVoice$Tenor") (List.mem_of_getElem? (i := 1) rfl)) (hK.2.2.2.2 ("WorstVoice$Singer", "WorstVoice$Tenor") (List.mem_of_getElem? (i := 0) rfl)) (va_recv (q := (RX6, TX6, 0)) hK.1 hP rfl (q0 := 1) rfl) dX9_isOfKind_39 ?_
      refine tp_i (z := nI 0) rfl ?_
      exact W.zret hx hb hr (by first | rfl | exact bI_nz) (fun t ht hW => ⟨⟨_, (), rfl, rfl, trivial⟩, hS.F ht⟩) hS.2.2 dX9_isOfKind_42
    · refine lv_tableIn (tgt := 43) hx hb dX9_isOfKind_1 (by decide) (by decide) (off := 42) (by decide) (by decide) ?_
      refine lv_aload_n hx hb dX9_isOfKind_43 rfl (lv_at hl 0 rfl) ?_
      refine va_instNo hx hb hown (hts (Cond.classLink RX9 233 "WorstVoice$Boy") (List.mem_of_getElem? (i := 2) rfl)) (hK.2.2.2.2 ("WorstVoice$Singer", "WorstVoice$Boy") (List.mem_of_getElem? (i := 3) rfl)) (va_recv (q := (RX6, TX6, 0)) hK.1 hP rfl (q0 := 1) rfl) dX9_isOfKind_44 ?_
      refine tp_i (z := nI 0) rfl ?_
      exact W.zret hx hb hr (by first | rfl | exact bI_nz) (fun t ht hW => ⟨⟨_, (), rfl, rfl, trivial⟩, hS.F ht⟩) hS.2.2 dX9_isOfKind_47
    · refine lv_tableIn (tgt := 48) hx hb dX9_isOfKind_1 (by decide) (by decide) (off := 47) (by decide) (by decide) ?_
      refine lv_aload_n hx hb dX9_isOfKind_48 rfl (lv_at hl 0 rfl) ?_
      refine va_instNo hx hb hown (hts (Cond.classLink RX9 235 "WorstVoice$Deaf") (List.mem_of_getElem? (i := 3) rfl)) (hK.2.2.2.2 ("WorstVoice$Singer", "WorstVoice$Deaf") (List.mem_of_getElem? (i := 7) rfl)) (va_recv (q := (RX6, TX6, 0)) hK.1 hP rfl (q0 := 1) rfl) dX9_isOfKind_49 ?_
      refine tp_i (z := nI 0) rfl ?_
      exact W.zret hx hb hr (by first | rfl | exact bI_nz) (fun t ht hW => ⟨⟨_, (), rfl, rfl, trivial⟩, hS.F ht⟩) hS.2.2 dX9_isOfKind_52
    · refine lv_tableIn (tgt := 53) hx hb dX9_isOfKind_1 (by decide) (by decide) (off := 52) (by decide) (by decide) ?_
      refine lv_aload_n hx hb dX9_isOfKind_53 rfl (lv_at hl 0 rfl) ?_
      refine va_instNo hx hb hown (hts (Cond.classLink RX9 237 "WorstVoice$Chorister") (List.mem_of_getElem? (i := 4) rfl)) (hK.2.2.2.2 ("WorstVoice$Singer", "WorstVoice$Chorister") (List.mem_of_getElem? (i := 11) rfl)) (va_recv (q := (RX6, TX6, 0)) hK.1 hP rfl (q0 := 1) rfl) dX9_isOfKind_54 ?_
      refine tp_i (z := nI 0) rfl ?_
      exact W.zret hx hb hr (by first | rfl | exact bI_nz) (fun t ht hW => ⟨⟨_, (), rfl, rfl, trivial⟩, hS.F ht⟩) hS.2.2 dX9_isOfKind_57
  · have hl : lv_has ls 2 [(0, .ref (v 2)), (1, .int (nI (x_)))] := hl
    refine lv_iload_n hx hb dX9_isOfKind_0 rfl (lv_at hl 1 rfl) ?_
    rcases (show x_ = 0 ∨ x_ = 1 ∨ x_ = 2 ∨ x_ = 3 ∨ x_ = 4 by omega) with rfl | rfl | rfl | rfl | rfl
    · refine lv_tableIn (tgt := 36) hx hb dX9_isOfKind_1 (by decide) (by decide) (off := 35) (by decide) (by decide) ?_
      refine lv_iconst (v := nI (1)) hx hb dX9_isOfKind_36 (by decide) ?_
      exact W.zret hx hb hr (by first | rfl | exact bI_nz) (fun t ht hW => ⟨⟨_, (), rfl, rfl, trivial⟩, hS.F ht⟩) hS.2.2 dX9_isOfKind_37
    · refine lv_tableIn (tgt := 38) hx hb dX9_isOfKind_1 (by decide) (by decide) (off := 37) (by decide) (by decide) ?_
      refine lv_aload_n hx hb dX9_isOfKind_38 rfl (lv_at hl 0 rfl) ?_
      refine va_instS (cC := dC 7) hx hb hown (hts (Cond.classLink RX9 231 "WorstVoice$Tenor") (List.mem_of_getElem? (i := 1) rfl)) (hK.1.1 7 _ rfl).2 (va_recv (q := (RX7, TX7, 0)) hK.1 hP rfl (q0 := 2) rfl) dX9_isOfKind_39 ?_
      refine tp_i (z := nI 1) rfl ?_
      exact W.zret hx hb hr (by first | rfl | exact bI_nz) (fun t ht hW => ⟨⟨_, (), rfl, rfl, trivial⟩, hS.F ht⟩) hS.2.2 dX9_isOfKind_42
    · refine lv_tableIn (tgt := 43) hx hb dX9_isOfKind_1 (by decide) (by decide) (off := 42) (by decide) (by decide) ?_
      refine lv_aload_n hx hb dX9_isOfKind_43 rfl (lv_at hl 0 rfl) ?_
      refine va_instNo hx hb hown (hts (Cond.classLink RX9 233 "WorstVoice$Boy") (List.mem_of_getElem? (i := 2) rfl)) (hK.2.2.2.2 ("WorstVoice$Tenor", "WorstVoice$Boy") (List.mem_of_getElem? (i := 4) rfl)) (va_recv (q := (RX7, TX7, 0)) hK.1 hP rfl (q0 := 2) rfl) dX9_isOfKind_44 ?_
      refine tp_i (z := nI 0) rfl ?_
      exact W.zret hx hb hr (by first | rfl | exact bI_nz) (fun t ht hW => ⟨⟨_, (), rfl, rfl, trivial⟩, hS.F ht⟩) hS.2.2 dX9_isOfKind_47
    · refine lv_tableIn (tgt := 48) hx hb dX9_isOfKind_1 (by decide) (by decide) (off := 47) (by decide) (by decide) ?_
      refine lv_aload_n hx hb dX9_isOfKind_48 rfl (lv_at hl 0 rfl) ?_
      refine va_instNo hx hb hown (hts (Cond.classLink RX9 235 "WorstVoice$Deaf") (List.mem_of_getElem? (i := 3) rfl)) (hK.2.2.2.2 ("WorstVoice$Tenor", "WorstVoice$Deaf") (List.mem_of_getElem? (i := 8) rfl)) (va_recv (q := (RX7, TX7, 0)) hK.1 hP rfl (q0 := 2) rfl) dX9_isOfKind_49 ?_
      refine tp_i (z := nI 0) rfl ?_
      exact W.zret hx hb hr (by first | rfl | exact bI_nz) (fun t ht hW => ⟨⟨_, (), rfl, rfl, trivial⟩, hS.F ht⟩) hS.2.2 dX9_isOfKind_52
    · refine lv_tableIn (tgt := 53) hx hb dX9_isOfKind_1 (by decide) (by decide) (off := 52) (by decide) (by decide) ?_
      refine lv_aload_n hx hb dX9_isOfKind_53 rfl (lv_at hl 0 rfl) ?_
      refine va_instNo hx hb hown (hts (Cond.classLink RX9 237 "WorstVoice$Chorister") (List.mem_of_getElem? (i := 4) rfl)) (hK.2.2.2.2 ("WorstVoice$Tenor", "WorstVoice$Chorister") (List.mem_of_getElem? (i := 12) rfl)) (va_recv (q := (RX7, TX7, 0)) hK.1 hP rfl (q0 := 2) rfl) dX9_isOfKind_54 ?_
      refine tp_i (z := nI 0) rfl ?_
      exact W.zret hx hb hr (by first | rfl | exact bI_nz) (fun t ht hW => ⟨⟨_, (), rfl, rfl, trivial⟩, hS.F ht⟩) hS.2.2 dX9_isOfKind_57
  · have hl : lv_has ls 2 [(0, .ref (v 3)), (1, .int (nI (x_)))] := hl
    refine lv_iload_n hx hb dX9_isOfKind_0 rfl (lv_at hl 1 rfl) ?_
    rcases (show x_ = 0 ∨ x_ = 1 ∨ x_ = 2 ∨ x_ = 3 ∨ x_ = 4 by omega) with rfl | rfl | rfl | rfl | rfl
    · refine lv_tableIn (tgt := 36) hx hb dX9_isOfKind_1 (by decide) (by decide) (off := 35) (by decide) (by decide) ?_
      refine lv_iconst (v := nI (1)) hx hb dX9_isOfKind_36 (by decide) ?_
      exact W.zret hx hb hr (by first | rfl | exact bI_nz) (fun t ht hW => ⟨⟨_, (), rfl, rfl, trivial⟩, hS.F ht⟩) hS.2.2 dX9_isOfKind_37
    · refine lv_tableIn (tgt := 38) hx hb dX9_isOfKind_1 (by decide) (by decide) (off := 37) (by decide) (by decide) ?_
      refine lv_aload_n hx hb dX9_isOfKind_38 rfl (lv_at hl 0 rfl) ?_
      refine va_instNo hx hb hown (hts (Cond.classLink RX9 231 "WorstVoice$Tenor") (List.mem_of_getElem? (i := 1) rfl)) (hK.2.2.2.2 ("WorstVoice$Boy", "WorstVoice$Tenor") (List.mem_of_getElem? (i := 1) rfl)) (va_recv (q := (RX0, TX0, 0)) hK.1 hP rfl (q0 := 3) rfl) dX9_isOfKind_39 ?_
      refine tp_i (z := nI 0) rfl ?_
      exact W.zret hx hb hr (by first | rfl | exact bI_nz) (fun t ht hW => ⟨⟨_, (), rfl, rfl, trivial⟩, hS.F ht⟩) hS.2.2 dX9_isOfKind_42
    · refine lv_tableIn (tgt := 43) hx hb dX9_isOfKind_1 (by decide) (by decide) (off := 42) (by decide) (by decide) ?_
      refine lv_aload_n hx hb dX9_isOfKind_43 rfl (lv_at hl 0 rfl) ?_
      refine va_instS (cC := dC 0) hx hb hown (hts (Cond.classLink RX9 233 "WorstVoice$Boy") (List.mem_of_getElem? (i := 2) rfl)) (hK.1.1 0 _ rfl).2 (va_recv (q := (RX0, TX0, 0)) hK.1 hP rfl (q0 := 3) rfl) dX9_isOfKind_44 ?_
      refine tp_i (z := nI 1) rfl ?_
      exact W.zret hx hb hr (by first | rfl | exact bI_nz) (fun t ht hW => ⟨⟨_, (), rfl, rfl, trivial⟩, hS.F ht⟩) hS.2.2 dX9_isOfKind_47
    · refine lv_tableIn (tgt := 48) hx hb dX9_isOfKind_1 (by decide) (by decide) (off := 47) (by decide) (by decide) ?_
      refine lv_aload_n hx hb dX9_isOfKind_48 rfl (lv_at hl 0 rfl) ?_
      refine va_instNo hx hb hown (hts (Cond.classLink RX9 235 "WorstVoice$Deaf") (List.mem_of_getElem? (i := 3) rfl)) (hK.2.2.2.2 ("WorstVoice$Boy", "WorstVoice$Deaf") (List.mem_of_getElem? (i := 9) rfl)) (va_recv (q := (RX0, TX0, 0)) hK.1 hP rfl (q0 := 3) rfl) dX9_isOfKind_49 ?_
      refine tp_i (z := nI 0) rfl ?_
      exact W.zret hx hb hr (by first | rfl | exact bI_nz) (fun t ht hW => ⟨⟨_, (), rfl, rfl, trivial⟩, hS.F ht⟩) hS.2.2 dX9_isOfKind_52
    · refine lv_tableIn (tgt := 53) hx hb dX9_isOfKind_1 (by decide) (by decide) (off := 52) (by decide) (by decide) ?_
      refine lv_aload_n hx hb dX9_isOfKind_53 rfl (lv_at hl 0 rfl) ?_
      refine va_instNo hx hb hown (hts (Cond.classLink RX9 237 "WorstVoice$Chorister") (List.mem_of_getElem? (i := 4) rfl)) (hK.2.2.2.2 ("WorstVoice$Boy", "WorstVoice$Chorister") (List.mem_of_getElem? (i := 13) rfl)) (va_recv (q := (RX0, TX0, 0)) hK.1 hP rfl (q0 := 3) rfl) dX9_isOfKind_54 ?_
      refine tp_i (z := nI 0) rfl ?_
      exact W.zret hx hb hr (by first | rfl | exact bI_nz) (fun t ht hW => ⟨⟨_, (), rfl, rfl, trivial⟩, hS.F ht⟩) hS.2.2 dX9_isOfKind_57
  · have hl : lv_has ls 2 [(0, .ref (v 4)), (1, .int (nI (x_)))] := hl
    refine lv_iload_n hx hb dX9_isOfKind_0 rfl (lv_at hl 1 rfl) ?_
    rcases (show x_ = 0 ∨ x_ = 1 ∨ x_ = 2 ∨ x_ = 3 ∨ x_ = 4 by omega) with rfl | rfl | rfl | rfl | rfl
    · refine lv_tableIn (tgt := 36) hx hb dX9_isOfKind_1 (by decide) (by decide) (off := 35) (by decide) (by decide) ?_
      refine lv_iconst (v := nI (1)) hx hb dX9_isOfKind_36 (by decide) ?_
      exact W.zret hx hb hr (by first | rfl | exact bI_nz) (fun t ht hW => ⟨⟨_, (), rfl, rfl, trivial⟩, hS.F ht⟩) hS.2.2 dX9_isOfKind_37
    · refine lv_tableIn (tgt := 38) hx hb dX9_isOfKind_1 (by decide) (by decide) (off := 37) (by decide) (by decide) ?_
      refine lv_aload_n hx hb dX9_isOfKind_38 rfl (lv_at hl 0 rfl) ?_
      refine va_instNo hx hb hown (hts (Cond.classLink RX9 231 "WorstVoice$Tenor") (List.mem_of_getElem? (i := 1) rfl)) (hK.2.2.2.2 ("WorstVoice$Deaf", "WorstVoice$Tenor") (List.mem_of_getElem? (i := 2) rfl)) (va_recv (q := (RX3, TX3, 0)) hK.1 hP rfl (q0 := 4) rfl) dX9_isOfKind_39 ?_
      refine tp_i (z := nI 0) rfl ?_
      exact W.zret hx hb hr (by first | rfl | exact bI_nz) (fun t ht hW => ⟨⟨_, (), rfl, rfl, trivial⟩, hS.F ht⟩) hS.2.2 dX9_isOfKind_42
    · refine lv_tableIn (tgt := 43) hx hb dX9_isOfKind_1 (by decide) (by decide) (off := 42) (by decide) (by decide) ?_
      refine lv_aload_n hx hb dX9_isOfKind_43 rfl (lv_at hl 0 rfl) ?_
      refine va_instNo hx hb hown (hts (Cond.classLink RX9 233 "WorstVoice$Boy") (List.mem_of_getElem? (i := 2) rfl)) (hK.2.2.2.2 ("WorstVoice$Deaf", "WorstVoice$Boy") (List.mem_of_getElem? (i := 5) rfl)) (va_recv (q := (RX3, TX3, 0)) hK.1 hP rfl (q0 := 4) rfl) dX9_isOfKind_44 ?_
      refine tp_i (z := nI 0) rfl ?_
      exact W.zret hx hb hr (by first | rfl | exact bI_nz) (fun t ht hW => ⟨⟨_, (), rfl, rfl, trivial⟩, hS.F ht⟩) hS.2.2 dX9_isOfKind_47
    · refine lv_tableIn (tgt := 48) hx hb dX9_isOfKind_1 (by decide) (by decide) (off := 47) (by decide) (by decide) ?_
      refine lv_aload_n hx hb dX9_isOfKind_48 rfl (lv_at hl 0 rfl) ?_
      refine va_instS (cC := dC 3) hx hb hown (hts (Cond.classLink RX9 235 "WorstVoice$Deaf") (List.mem_of_getElem? (i := 3) rfl)) (hK.1.1 3 _ rfl).2 (va_recv (q := (RX3, TX3, 0)) hK.1 hP rfl (q0 := 4) rfl) dX9_isOfKind_49 ?_
      refine tp_i (z := nI 1) rfl ?_
      exact W.zret hx hb hr (by first | rfl | exact bI_nz) (fun t ht hW => ⟨⟨_, (), rfl, rfl, trivial⟩, hS.F ht⟩) hS.2.2 dX9_isOfKind_52
    · refine lv_tableIn (tgt := 53) hx hb dX9_isOfKind_1 (by decide) (by decide) (off := 52) (by decide) (by decide) ?_
      refine lv_aload_n hx hb dX9_isOfKind_53 rfl (lv_at hl 0 rfl) ?_
      refine va_instNo hx hb hown (hts (Cond.classLink RX9 237 "WorstVoice$Chorister") (List.mem_of_getElem? (i := 4) rfl)) (hK.2.2.2.2 ("WorstVoice$Deaf", "WorstVoice$Chorister") (List.mem_of_getElem? (i := 14) rfl)) (va_recv (q := (RX3, TX3, 0)) hK.1 hP rfl (q0 := 4) rfl) dX9_isOfKind_54 ?_
      refine tp_i (z := nI 0) rfl ?_
      exact W.zret hx hb hr (by first | rfl | exact bI_nz) (fun t ht hW => ⟨⟨_, (), rfl, rfl, trivial⟩, hS.F ht⟩) hS.2.2 dX9_isOfKind_57
  · have hl : lv_has ls 2 [(0, .ref (v 5)), (1, .int (nI (x_)))] := hl
    refine lv_iload_n hx hb dX9_isOfKind_0 rfl (lv_at hl 1 rfl) ?_
    rcases (show x_ = 0 ∨ x_ = 1 ∨ x_ = 2 ∨ x_ = 3 ∨ x_ = 4 by omega) with rfl | rfl | rfl | rfl | rfl
    · refine lv_tableIn (tgt := 36) hx hb dX9_isOfKind_1 (by decide) (by decide) (off := 35) (by decide) (by decide) ?_
      refine lv_iconst (v := nI (1)) hx hb dX9_isOfKind_36 (by decide) ?_
      exact W.zret hx hb hr (by first | rfl | exact bI_nz) (fun t ht hW => ⟨⟨_, (), rfl, rfl, trivial⟩, hS.F ht⟩) hS.2.2 dX9_isOfKind_37
    · refine lv_tableIn (tgt := 38) hx hb dX9_isOfKind_1 (by decide) (by decide) (off := 37) (by decide) (by decide) ?_
      refine lv_aload_n hx hb dX9_isOfKind_38 rfl (lv_at hl 0 rfl) ?_
      refine va_instY hx hb hown (hts (Cond.classLink RX9 231 "WorstVoice$Tenor") (List.mem_of_getElem? (i := 1) rfl)) (hK.2.2.2.1 ("WorstVoice$Chorister", "WorstVoice$Tenor") (List.mem_of_getElem? (i := 0) rfl)) (va_recv (q := (RX2, TX2, 0)) hK.1 hP rfl (q0 := 5) rfl) dX9_isOfKind_39 ?_
      refine tp_i (z := nI 1) rfl ?_
      exact W.zret hx hb hr (by first | rfl | exact bI_nz) (fun t ht hW => ⟨⟨_, (), rfl, rfl, trivial⟩, hS.F ht⟩) hS.2.2 dX9_isOfKind_42
    · refine lv_tableIn (tgt := 43) hx hb dX9_isOfKind_1 (by decide) (by decide) (off := 42) (by decide) (by decide) ?_
      refine lv_aload_n hx hb dX9_isOfKind_43 rfl (lv_at hl 0 rfl) ?_
      refine va_instNo hx hb hown (hts (Cond.classLink RX9 233 "WorstVoice$Boy") (List.mem_of_getElem? (i := 2) rfl)) (hK.2.2.2.2 ("WorstVoice$Chorister", "WorstVoice$Boy") (List.mem_of_getElem? (i := 6) rfl)) (va_recv (q := (RX2, TX2, 0)) hK.1 hP rfl (q0 := 5) rfl) dX9_isOfKind_44 ?_
      refine tp_i (z := nI 0) rfl ?_
      exact W.zret hx hb hr (by first | rfl | exact bI_nz) (fun t ht hW => ⟨⟨_, (), rfl, rfl, trivial⟩, hS.F ht⟩) hS.2.2 dX9_isOfKind_47
    · refine lv_tableIn (tgt := 48) hx hb dX9_isOfKind_1 (by decide) (by decide) (off := 47) (by decide) (by decide) ?_
      refine lv_aload_n hx hb dX9_isOfKind_48 rfl (lv_at hl 0 rfl) ?_
      refine va_instNo hx hb hown (hts (Cond.classLink RX9 235 "WorstVoice$Deaf") (List.mem_of_getElem? (i := 3) rfl)) (hK.2.2.2.2 ("WorstVoice$Chorister", "WorstVoice$Deaf") (List.mem_of_getElem? (i := 10) rfl)) (va_recv (q := (RX2, TX2, 0)) hK.1 hP rfl (q0 := 5) rfl) dX9_isOfKind_49 ?_
      refine tp_i (z := nI 0) rfl ?_
      exact W.zret hx hb hr (by first | rfl | exact bI_nz) (fun t ht hW => ⟨⟨_, (), rfl, rfl, trivial⟩, hS.F ht⟩) hS.2.2 dX9_isOfKind_52
    · refine lv_tableIn (tgt := 53) hx hb dX9_isOfKind_1 (by decide) (by decide) (off := 52) (by decide) (by decide) ?_
      refine lv_aload_n hx hb dX9_isOfKind_53 rfl (lv_at hl 0 rfl) ?_
      refine va_instS (cC := dC 2) hx hb hown (hts (Cond.classLink RX9 237 "WorstVoice$Chorister") (List.mem_of_getElem? (i := 4) rfl)) (hK.1.1 2 _ rfl).2 (va_recv (q := (RX2, TX2, 0)) hK.1 hP rfl (q0 := 5) rfl) dX9_isOfKind_54 ?_
      refine tp_i (z := nI 1) rfl ?_
      exact W.zret hx hb hr (by first | rfl | exact bI_nz) (fun t ht hW => ⟨⟨_, (), rfl, rfl, trivial⟩, hS.F ht⟩) hS.2.2 dX9_isOfKind_57

set_option maxHeartbeats 4000000 in
set_option maxRecDepth 100000 in
theorem c_X9_leftAtWorst (l : Launch) (dC : Nat → ClassId) (dI : Nat → Nat → Nat) (cI : ClassId) (a : Nat → Nat) (ik tr nd : Int32) (R mi : Nat → Nat) (n w : Nat) (wk : Int32) (hR : WR R) (hn : n ≤ 4) (hw : w ≤ 5) (hm : ∀ k, k < w → mi k < 4) (b_ p_ q_ : Nat) (hbb : b_ < 16) (hp_ : p_ < n) (hq_ : q_ < n) : Met l yX9_leftAtWorst wsX9_leftAtWorst ({ frames := 2, cells := 0, slots := 0, locals := 63 } : Room) (roP dC dI cI ([xoW a ik tr nd] ++ chW cI (fun k => a (3 + k)) (a 36) R mi n w wk ++ voW (fun k => a (36 + k))) [.ref (a 0), .int (nI (b_)), .int (nI (p_)), .int (nI (q_))]) (roI (fun r => r = nI (lw_ R b_ p_ q_))) 0 0 (fun _ => False) := by
  refine Met.ofW (cc := cX9_leftAtWorst) (maxL := 6) (ret := (some .int)) (by decide) rfl ?_
  intro p e s m args below meth c s₁ B hml hv
  obtain ⟨rfl, hP, hK⟩ := hv
  have hx := B.exec
  have hb := B.bytes
  have hr := B.returns
  have hts := atoms_spec (ws := wsX9_leftAtWorst) B.pre
  have hown : s.vm.findClass RX9 = some m.cls := findClass_of_methodNamed B.named
  have hlocks := B.notSynchronized
  have hS : va_S (fun _ => False) s.heap s.heap [] := va_S.rf
  have hl := lv_entry ([.ref (a 0), .int (nI (b_)), .int (nI (p_)), .int (nI (q_))]) (n := 6) (Nat.le_of_ble_eq_true rfl)
  rw [lg_entry_eq]
  generalize (lg_sl ([.ref (a 0), .int (nI (b_)), .int (nI (p_)), .int (nI (q_))]) ++ List.replicate (6 - (lg_sl ([.ref (a 0), .int (nI (b_)), .int (nI (p_)), .int (nI (q_))])).length) Slot.unset).toArray = ls at hl ⊢
  have hl : lv_has ls 6 [(0, .ref (a 0)), (1, .int (nI (b_))), (2, .int (nI (p_))), (3, .int (nI (q_)))] := hl
  refine W_abs (fun G hG => ?_)
  have L6 : ∀ (fu : Nat) (f : Nat), f ≤ 4 → 4 + 1 ≤ f + fu → ∀ (H : Heap) (locs : List Loc), va_P (dC, dI) vwCl [((a 0), .inr (9, [.ref (a 1), .ref (a 3), .ref (a 10), .ref (a 17), .ref (a 24), .ref (a 29), .ref (a 34), .ref (a 35), .int (ik), .int (tr), .int (nd)])), ((a 3), .inr (1, [.ref (a 36), .ref (a 4), .ref (a 5), .ref (a 6), .ref (a 7), .ref (a 8), .ref (a 9), .int (nI (n)), .int (nI (w)), .int (wk)])), ((a 4), .inl (cI, 4, .inl (fun ii => nI (R (8 * ii))))), ((a 5), .inl (cI, 16, .inl (fun ii => nI (R (8 * (ii / 4) + 1 + ii % 4))))), ((a 6), .inl (cI, 4, .inl (fun ii => nI (R (8 * ii + 5))))), ((a 7), .inl (cI, 4, .inl (fun ii => nI (R (8 * ii + 6))))), ((a 8), .inl (cI, 4, .inl (fun ii => nI (R (8 * ii + 7))))), ((a 9), .inl (cI, 5, .inl (fun ii => nI (mi ii)))), ((a 36), .inr (8, [.ref (a 37), .ref (a 38), .ref (a 39), .ref (a 40), .ref (a 41)])), ((a 37), .inr (6, [])), ((a 38), .inr (7, [])), ((a 39), .inr (0, [])), ((a 40), .inr (3, [])), ((a 41), .inr (2, []))] H → va_S (fun _ => False) s.heap H locs → ∀ (ls : Array Slot), lv_has ls 6 [(0, .ref (a 0)), (1, .int (nI (b_))), (2, .int (nI (p_))), (3, .int (nI (q_))), (4, .int (nI (mr R p_ q_ f))), (5, .int (nI (f)))] → G H locs (F0 m 6 ls []) := by
    intro fu
    induction fu with
    | zero => intro f h2 hfu H locs hP hS ls hl; omega
    | succ fu ih6 =>
      intro f h2 hfu H locs hP hS ls hl
      have hml_ := mr_lt R p_ q_ f
      refine (hG _ _ _).mpr ?_
      refine lv_iload hx hb dX9_leftAtWorst_6 (lv_at hl 5 rfl) ?_
      refine lv_iconst (v := nI (4)) hx hb dX9_leftAtWorst_8 (by decide) ?_
      refine lv_icmp_ge (tgt := 50) hx hb dX9_leftAtWorst_9 (by decide) (fun c1 => ?_) (fun c1 => ?_)
      · have c1 := (nI_leI (by decide) (by omega)).mp c1
        refine lv_iload_n hx hb dX9_leftAtWorst_50 rfl (lv_at hl 1 rfl) ?_
        refine lv_iload hx hb dX9_leftAtWorst_51 (lv_at hl 4 rfl) ?_
        refine lv_iand hx hb dX9_leftAtWorst_53 ?_
        refine tp_i (z := nI (b_ &&& mr R p_ q_ 4)) (by rw [show f = 4 by omega]; exact and_I _ hbb _ (mr_lt R p_ q_ 4)) ?_
        refine ro_calli (va_runS (As := [.int (nI (b_ &&& mr R p_ q_ 4))]) (rest := []) ⟨hx, hb, hml, hown, hts⟩ (c_bitCount l dC dI cI (b_ &&& mr R p_ q_ 4) (and_lt _ hbb _ (mr_lt R p_ q_ 4))) (va_cwS 1 hts gX9_leftAtWorst_J6_bitCount_0f7a4 rfl rfl rfl (by decide +kernel) ⟨Nat.le_of_ble_eq_true rfl, Nat.le_of_ble_eq_true rfl⟩) (ro_ps hK hP [] rfl) rfl rfl hl.1 rfl (lv_room (Nat.le_of_ble_eq_true rfl)) dX9_leftAtWorst_54 ⟨Nat.zero_le _, Nat.zero_le _⟩) hS hP (fun r2 H locs hr2 hP hS => ?_)
        subst hr2
        refine lv_iload_n hx hb dX9_leftAtWorst_57 rfl (lv_at hl 1 rfl) ?_
        refine lv_iload hx hb dX9_leftAtWorst_58 (lv_at hl 4 rfl) ?_
        refine lv_iconst (v := -1) hx hb dX9_leftAtWorst_60 (by decide) ?_
        refine lv_ixor hx hb dX9_leftAtWorst_61 ?_
        refine lv_iand hx hb dX9_leftAtWorst_62 ?_
        refine tp_i (z := nI (b_ &&& (15 - mr R p_ q_ 4))) (by rw [show f = 4 by omega]; exact not_I _ hbb _ (mr_lt R p_ q_ 4)) ?_
        refine ro_calli (va_runS (As := [.int (nI (b_ &&& (15 - mr R p_ q_ 4)))]) (rest := [.int (nI (pc4 (b_ &&& mr R p_ q_ 4)))]) ⟨hx, hb, hml, hown, hts⟩ (c_bitCount l dC dI cI (b_ &&& (15 - mr R p_ q_ 4)) (and_lt _ hbb _ (by omega))) (va_cwS 1 hts gX9_leftAtWorst_J6_bitCount_0f7a4 rfl rfl rfl (by decide +kernel) ⟨Nat.le_of_ble_eq_true rfl, Nat.le_of_ble_eq_true rfl⟩) (ro_ps hK hP [] rfl) rfl rfl hl.1 rfl (lv_room (Nat.le_of_ble_eq_true rfl)) dX9_leftAtWorst_63 ⟨Nat.zero_le _, Nat.zero_le _⟩) hS hP (fun r3 H locs hr3 hP hS => ?_)
        subst hr3
        refine va_mmax hx hb (hml.trans hl.1.symm) hown (hts (Cond.methodLink RX9 259 Lib.Math.max.name) (List.mem_of_getElem? (i := 2) rfl)) (hts (Cond.static Lib.Math.max.name) (List.mem_of_getElem? (i := 3) rfl)) (hts (Cond.initialized "java/lang/Math") (List.mem_of_getElem? (i := 4) rfl)) (hts (Cond.code Lib.Math.max.name Lib.Math.max.code 2 (some .int)) (List.mem_of_getElem? (i := 5) rfl)) (Nat.le_of_ble_eq_true rfl) (Nat.le_of_ble_eq_true rfl) (Nat.zero_le _) (Nat.zero_le _) dX9_leftAtWorst_66 ?_
        refine tp_i (z := nI (lw_ R b_ p_ q_)) ((mx_n (Nat.lt_of_le_of_lt (pc4_le _) (by decide)) (Nat.lt_of_le_of_lt (pc4_le _) (by decide))).trans (congrArg nI (lw_max hbb))) ?_
        exact W.iret hx hb hr (fun t ht hW => ⟨⟨_, (), rfl, rfl, trivial⟩, hS.F ht⟩) hS.2.2 dX9_leftAtWorst_69
      · have c1 := mt (nI_leI (by decide) (by omega)).mpr c1
        refine lv_aload_n hx hb dX9_leftAtWorst_12 rfl (lv_at hl 0 rfl) ?_
        refine va_get (D := (dC, dI)) (ci := 9) (v := .ref (a 3)) (C := RX9) (T := TX9) (N := 11) hx hb hts (fun _ h => List.mem_cons_of_mem _ (List.mem_append_left _ (List.mem_append_left _ (List.mem_append_right _ (h))))) hown hK.1 hP 0 rfl rfl 1 (by decide) (hts (Cond.fieldLink RX9 41 "WorstVoice" "choir" "LWorstVoice$Choir;") (List.mem_of_getElem? (i := 1) rfl)) (fun _ h9 => h9) rfl dX9_leftAtWorst_13 ?_
        refine lv_iload_n hx hb dX9_leftAtWorst_16 rfl (lv_at hl 2 rfl) ?_
        refine lv_iload hx hb dX9_leftAtWorst_17 (lv_at hl 5 rfl) ?_
        refine ro_calli (va_runV (As := [.int (nI (p_)), .int (nI (f))]) (rest := []) ⟨hx, hb, hml, hown, hts⟩ (c_X1_bad l dC dI cI (fun k => a (3 + k)) (fun k => a (36 + k)) R mi n w wk hR (by omega) (by omega) (p_) (f) (by omega) (by omega)) (cwV 2 hts gX9_leftAtWorst_X1_bad rfl rfl rfl (by decide +kernel) ⟨Nat.le_of_ble_eq_true rfl, Nat.le_of_ble_eq_true rfl⟩) (ro_pv hK hP [1, 2, 3, 4, 5, 6, 7, 8, 9, 10, 11, 12, 13] rfl (ci := 1) (q0 := 1) (C := RX1) (T := TX1) (N := 10) rfl rfl) rfl rfl hl.1 rfl (lv_room (Nat.le_of_ble_eq_true rfl)) dX9_leftAtWorst_19 ⟨Nat.zero_le _, Nat.zero_le _⟩) hS hP (fun r4 H locs hr4 hP hS => ?_)
        subst hr4
        have hb3 := hb_le hR (s := p_) (f := f) (by omega) (by omega)
        refine lv_aload_n hx hb dX9_leftAtWorst_22 rfl (lv_at hl 0 rfl) ?_
        refine va_get (D := (dC, dI)) (ci := 9) (v := .ref (a 3)) (C := RX9) (T := TX9) (N := 11) hx hb hts (fun _ h => List.mem_cons_of_mem _ (List.mem_append_left _ (List.mem_append_left _ (List.mem_append_right _ (h))))) hown hK.1 hP 0 rfl rfl 1 (by decide) (hts (Cond.fieldLink RX9 41 "WorstVoice" "choir" "LWorstVoice$Choir;") (List.mem_of_getElem? (i := 1) rfl)) (fun _ h9 => h9) rfl dX9_leftAtWorst_23 ?_
        refine lv_iload_n hx hb dX9_leftAtWorst_26 rfl (lv_at hl 3 rfl) ?_
        refine lv_iload hx hb dX9_leftAtWorst_27 (lv_at hl 5 rfl) ?_
        refine ro_calli (va_runV (As := [.int (nI (q_)), .int (nI (f))]) (rest := [.int (nI (hb_ R (p_) (f)))]) ⟨hx, hb, hml, hown, hts⟩ (c_X1_bad l dC dI cI (fun k => a (3 + k)) (fun k => a (36 + k)) R mi n w wk hR (by omega) (by omega) (q_) (f) (by omega) (by omega)) (cwV 2 hts gX9_leftAtWorst_X1_bad rfl rfl rfl (by decide +kernel) ⟨Nat.le_of_ble_eq_true rfl, Nat.le_of_ble_eq_true rfl⟩) (ro_pv hK hP [1, 2, 3, 4, 5, 6, 7, 8, 9, 10, 11, 12, 13] rfl (ci := 1) (q0 := 1) (C := RX1) (T := TX1) (N := 10) rfl rfl) rfl rfl hl.1 rfl (lv_room (Nat.le_of_ble_eq_true rfl)) dX9_leftAtWorst_29 ⟨Nat.zero_le _, Nat.zero_le _⟩) hS hP (fun r5 H locs hr5 hP hS => ?_)
        subst hr5
        have hb4 := hb_le hR (s := q_) (f := f) (by omega) (by omega)
        refine lv_icmp_le (tgt := 44) hx hb dX9_leftAtWorst_32 (by decide) (fun c6 => ?_) (fun c6 => ?_)
        · have c6 := (nI_leI (by omega) (by omega)).mp c6
          refine lv_iinc (v := nI (f + 1)) (lv' := [(5, .int (nI (f + 1))), (0, .ref (a 0)), (1, .int (nI (b_))), (2, .int (nI (p_))), (3, .int (nI (q_))), (4, .int (nI (mr R p_ q_ f)))]) hx hb dX9_leftAtWorst_44 hl (k := 5) rfl (nI_add (f) 1) (by decide) rfl (fun ls hl => ?_)
          refine lv_goto (tgt := 6) hx hb dX9_leftAtWorst_47 (by decide) ?_
          exact (hG _ _ _).mp (ih6 (f + 1) (by omega) (by omega) _ _ hP hS _ (by rw [mr_n (R := R) (a := p_) (b := q_) (f := f) (by omega)]; exact lv_sub hl [1, 2, 3, 4, 5, 0] rfl))
        · have c6 := mt (nI_leI (by omega) (by omega)).mpr c6
          refine lv_iload hx hb dX9_leftAtWorst_35 (lv_at hl 4 rfl) ?_
          refine lv_iconst (v := nI (1)) hx hb dX9_leftAtWorst_37 (by decide) ?_
          refine lv_iload hx hb dX9_leftAtWorst_38 (lv_at hl 5 rfl) ?_
          refine lv_ishl hx hb dX9_leftAtWorst_40 ?_
          refine tp_i (z := nI (2 ^ f)) (sh_bit f (by omega)) ?_
          refine lv_ior hx hb dX9_leftAtWorst_41 ?_
          refine tp_i (z := nI (mr R p_ q_ f + 2 ^ f)) (or_bit f (by omega) _ hml_) ?_
          refine lv_istore (lv' := [(4, .int (nI (mr R p_ q_ f + 2 ^ f))), (0, .ref (a 0)), (1, .int (nI (b_))), (2, .int (nI (p_))), (3, .int (nI (q_))), (5, .int (nI (f)))]) hx hb dX9_leftAtWorst_42 hl (by decide) rfl (fun ls hl => ?_)
          refine lv_iinc (v := nI (f + 1)) (lv' := [(5, .int (nI (f + 1))), (4, .int (nI (mr R p_ q_ f + 2 ^ f))), (0, .ref (a 0)), (1, .int (nI (b_))), (2, .int (nI (p_))), (3, .int (nI (q_)))]) hx hb dX9_leftAtWorst_44 hl (k := 5) rfl (nI_add (f) 1) (by decide) rfl (fun ls hl => ?_)
          refine lv_goto (tgt := 6) hx hb dX9_leftAtWorst_47 (by decide) ?_
          exact (hG _ _ _).mp (ih6 (f + 1) (by omega) (by omega) _ _ hP hS _ (by rw [mr_y (R := R) (a := p_) (b := q_) (f := f) (by omega)]; exact lv_sub hl [2, 3, 4, 5, 1, 0] rfl))
  refine (hG _ _ _).mpr ?_
  refine lv_iconst (v := nI (0)) hx hb dX9_leftAtWorst_0 (by decide) ?_
  refine lv_istore (lv' := [(4, .int (nI (0))), (0, .ref (a 0)), (1, .int (nI (b_))), (2, .int (nI (p_))), (3, .int (nI (q_)))]) hx hb dX9_leftAtWorst_1 hl (by decide) rfl (fun ls hl => ?_)
  refine lv_iconst (v := nI (0)) hx hb dX9_leftAtWorst_3 (by decide) ?_
  refine lv_istore (lv' := [(5, .int (nI (0))), (4, .int (nI (0))), (0, .ref (a 0)), (1, .int (nI (b_))), (2, .int (nI (p_))), (3, .int (nI (q_)))]) hx hb dX9_leftAtWorst_4 hl (by decide) rfl (fun ls hl => ?_)
  exact (hG _ _ _).mp (L6 (4 + 1) (0) (by omega) (by omega) _ _ hP hS _ (lv_sub hl [2, 3, 4, 5, 1, 0] rfl))

set_option maxHeartbeats 4000000 in
set_option maxRecDepth 100000 in
theorem c_X9_canMind (l : Launch) (dC : Nat → ClassId) (dI : Nat → Nat → Nat) (cI : ClassId) (a : Nat → Nat) (ik tr nd : Int32) (R mi : Nat → Nat) (n w : Nat) (wk : Int32) (hR : WR R) (hn : n ≤ 4) (hw : w ≤ 5) (hm : ∀ k, k < w → mi k < 4) (E : Nat → Nat) (h : Nat) (hh : h ≤ 8) (hE : ∀ i, i < h → E (4 * i) < 5 ∧ E (4 * i + 1) < n ∧ E (4 * i + 2) < n ∧ E (4 * i + 3) ≤ 1) (w_ : Nat) (hw_ : w_ < w) : Met l yX9_canMind wsX9_canMind ({ frames := 3, cells := 0, slots := 0, locals := 88 } : Room) (roP dC dI cI ([xoW a ik tr nd] ++ chW cI (fun k => a (3 + k)) (a 36) R mi n w wk ++ hsW cI (fun k => a (24 + k)) E h ++ voW (fun k => a (36 + k))) [.ref (a 0), .int (nI (w_))]) (roI (fun r => r = nI (bs_ R E w_ h 4))) 0 0 (fun _ => False) := by
  refine Met.ofW (cc := cX9_canMind) (maxL := 4) (ret := (some .int)) (by decide) rfl ?_
  intro p e s m args below meth c s₁ B hml hv
  obtain ⟨rfl, hP, hK⟩ := hv
  have hx := B.exec
  have hb := B.bytes
  have hr := B.returns
  have hts := atoms_spec (ws := wsX9_canMind) B.pre
  have hown : s.vm.findClass RX9 = some m.cls := findClass_of_methodNamed B.named
  have hlocks := B.notSynchronized
  have hS : va_S (fun _ => False) s.heap s.heap [] := va_S.rf
  have hl := lv_entry ([.ref (a 0), .int (nI (w_))]) (n := 4) (Nat.le_of_ble_eq_true rfl)
  rw [lg_entry_eq]
  generalize (lg_sl ([.ref (a 0), .int (nI (w_))]) ++ List.replicate (4 - (lg_sl ([.ref (a 0), .int (nI (w_))])).length) Slot.unset).toArray = ls at hl ⊢
  have hl : lv_has ls 4 [(0, .ref (a 0)), (1, .int (nI (w_)))] := hl
  refine W_abs (fun G hG => ?_)
  have L4 : ∀ (fu : Nat) (f : Nat), f ≤ 4 → 4 + 1 ≤ f + fu → ∀ (H : Heap) (locs : List Loc), va_P (dC, dI) vwCl [((a 0), .inr (9, [.ref (a 1), .ref (a 3), .ref (a 10), .ref (a 17), .ref (a 24), .ref (a 29), .ref (a 34), .ref (a 35), .int (ik), .int (tr), .int (nd)])), ((a 3), .inr (1, [.ref (a 36), .ref (a 4), .ref (a 5), .ref (a 6), .ref (a 7), .ref (a 8), .ref (a 9), .int (nI (n)), .int (nI (w)), .int (wk)])), ((a 4), .inl (cI, 4, .inl (fun ii => nI (R (8 * ii))))), ((a 5), .inl (cI, 16, .inl (fun ii => nI (R (8 * (ii / 4) + 1 + ii % 4))))), ((a 6), .inl (cI, 4, .inl (fun ii => nI (R (8 * ii + 5))))), ((a 7), .inl (cI, 4, .inl (fun ii => nI (R (8 * ii + 6))))), ((a 8), .inl (cI, 4, .inl (fun ii => nI (R (8 * ii + 7))))), ((a 9), .inl (cI, 5, .inl (fun ii => nI (mi ii)))), ((a 24), .inr (4, [.ref (a 25), .ref (a 26), .ref (a 27), .ref (a 28), .int (nI (h))])), ((a 25), .inl (cI, 8, .inl (fun ii => nI (E (4 * ii))))), ((a 26), .inl (cI, 8, .inl (fun ii => nI (E (4 * ii + 1))))), ((a 27), .inl (cI, 8, .inl (fun ii => nI (E (4 * ii + 2))))), ((a 28), .inl (cI, 8, .inl (fun ii => nI (E (4 * ii + 3))))), ((a 36), .inr (8, [.ref (a 37), .ref (a 38), .ref (a 39), .ref (a 40), .ref (a 41)])), ((a 37), .inr (6, [])), ((a 38), .inr (7, [])), ((a 39), .inr (0, [])), ((a 40), .inr (3, [])), ((a 41), .inr (2, []))] H → va_S (fun _ => False) s.heap H locs → ∀ (ls : Array Slot), lv_has ls 4 [(0, .ref (a 0)), (1, .int (nI (w_))), (2, .int (nI (bs_ R E w_ h f))), (3, .int (nI (f)))] → G H locs (F0 m 4 ls []) := by
    intro fu
    induction fu with
    | zero => intro f h2 hfu H locs hP hS ls hl; omega
    | succ fu ih4 =>
      intro f h2 hfu H locs hP hS ls hl
      have hbl_ := bs_lt R E w_ h f
      refine (hG _ _ _).mpr ?_
      refine lv_iload_n hx hb dX9_canMind_4 rfl (lv_at hl 3 rfl) ?_
      refine lv_iconst (v := nI (4)) hx hb dX9_canMind_5 (by decide) ?_
      refine lv_icmp_ge (tgt := 37) hx hb dX9_canMind_6 (by decide) (fun c1 => ?_) (fun c1 => ?_)
      · have c1 := (nI_leI (by decide) (by omega)).mp c1
        refine lv_iload_n hx hb dX9_canMind_37 rfl (lv_at hl 2 rfl) ?_
        exact W.iret hx hb hr (fun t ht hW => ⟨⟨_, (), rfl, (by rw [show f = 4 by omega]), trivial⟩, hS.F ht⟩) hS.2.2 dX9_canMind_38
      · have c1 := mt (nI_leI (by decide) (by omega)).mpr c1
        refine lv_aload_n hx hb dX9_canMind_9 rfl (lv_at hl 0 rfl) ?_
        refine va_get (D := (dC, dI)) (ci := 9) (v := .ref (a 24)) (C := RX9) (T := TX9) (N := 11) hx hb hts (fun _ h => List.mem_cons_of_mem _ (List.mem_append_left _ (List.mem_append_left _ (List.mem_append_left _ (List.mem_append_right _ (h)))))) hown hK.1 hP 0 rfl rfl 4 (by decide) (hts (Cond.fieldLink RX9 19 "WorstVoice" "hearsay" "LWorstVoice$Hearsay;") (List.mem_of_getElem? (i := 1) rfl)) (fun _ h9 => h9) rfl dX9_canMind_10 ?_
        refine lv_aload_n hx hb dX9_canMind_13 rfl (lv_at hl 0 rfl) ?_
        refine va_get (D := (dC, dI)) (ci := 9) (v := .ref (a 3)) (C := RX9) (T := TX9) (N := 11) hx hb hts (fun _ h => List.mem_cons_of_mem _ (List.mem_append_left _ (List.mem_append_left _ (List.mem_append_left _ (List.mem_append_right _ (h)))))) hown hK.1 hP 0 rfl rfl 1 (by decide) (hts (Cond.fieldLink RX9 41 "WorstVoice" "choir" "LWorstVoice$Choir;") (List.mem_of_getElem? (i := 2) rfl)) (fun _ h9 => h9) rfl dX9_canMind_14 ?_
        refine lv_iload_n hx hb dX9_canMind_17 rfl (lv_at hl 1 rfl) ?_
        refine lv_iload_n hx hb dX9_canMind_18 rfl (lv_at hl 3 rfl) ?_
        refine ro_calli (va_runV (As := [.ref (a 3), .int (nI (w_)), .int (nI (f))]) (rest := []) ⟨hx, hb, hml, hown, hts⟩ (c_X4_wouldBeSo l dC dI cI (fun k => a (24 + k)) (fun k => a (3 + k)) (fun k => a (36 + k)) E h hh R mi n w wk hR hn hw hE (w_) (f) (by omega) (by omega)) (cwV 3 hts gX9_canMind_X4_wouldBeSo rfl rfl rfl (by decide +kernel) ⟨Nat.le_of_ble_eq_true rfl, Nat.le_of_ble_eq_true rfl⟩) (ro_pv hK hP [8, 9, 10, 11, 12, 1, 2, 3, 4, 5, 6, 7, 13, 14, 15, 16, 17, 18] rfl (ci := 4) (q0 := 8) (C := RX4) (T := TX4) (N := 5) rfl rfl) rfl rfl hl.1 rfl (lv_room (Nat.le_of_ble_eq_true rfl)) dX9_canMind_19 ⟨Nat.zero_le _, Nat.zero_le _⟩) hS hP (fun r2 H locs hr2 hP hS => ?_)
        subst hr2
        refine lv_if_eq (tgt := 31) hx hb dX9_canMind_22 (by decide) (fun c3 => ?_) (fun c3 => ?_)
        · have c3 := bI_0.mp c3
          refine lv_iinc (v := nI (f + 1)) (lv' := [(3, .int (nI (f + 1))), (0, .ref (a 0)), (1, .int (nI (w_))), (2, .int (nI (bs_ R E w_ h f)))]) hx hb dX9_canMind_31 hl (k := 3) rfl (nI_add (f) 1) (by decide) rfl (fun ls hl => ?_)
          refine lv_goto (tgt := 4) hx hb dX9_canMind_34 (by decide) ?_
          exact (hG _ _ _).mp (ih4 (f + 1) (by omega) (by omega) _ _ hP hS _ (by rw [bs_n (R := R) (E := E) (w := w_) (h := h) (f := f) (by assumption)]; exact lv_sub hl [1, 2, 3, 0] rfl))
        · have c3 := Decidable.not_not.mp (mt bI_0.mpr c3)
          refine lv_iload_n hx hb dX9_canMind_25 rfl (lv_at hl 2 rfl) ?_
          refine lv_iconst (v := nI (1)) hx hb dX9_canMind_26 (by decide) ?_
          refine lv_iload_n hx hb dX9_canMind_27 rfl (lv_at hl 3 rfl) ?_
          refine lv_ishl hx hb dX9_canMind_28 ?_
          refine tp_i (z := nI (2 ^ f)) (sh_bit f (by omega)) ?_
          refine lv_ior hx hb dX9_canMind_29 ?_
          refine tp_i (z := nI (bs_ R E w_ h f + 2 ^ f)) (or_bit f (by omega) _ hbl_) ?_
          refine lv_istore_n (lv' := [(2, .int (nI (bs_ R E w_ h f + 2 ^ f))), (0, .ref (a 0)), (1, .int (nI (w_))), (3, .int (nI (f)))]) hx hb dX9_canMind_30 rfl hl (by decide) rfl (fun ls hl => ?_)
          refine lv_iinc (v := nI (f + 1)) (lv' := [(3, .int (nI (f + 1))), (2, .int (nI (bs_ R E w_ h f + 2 ^ f))), (0, .ref (a 0)), (1, .int (nI (w_)))]) hx hb dX9_canMind_31 hl (k := 3) rfl (nI_add (f) 1) (by decide) rfl (fun ls hl => ?_)
          refine lv_goto (tgt := 4) hx hb dX9_canMind_34 (by decide) ?_
          exact (hG _ _ _).mp (ih4 (f + 1) (by omega) (by omega) _ _ hP hS _ (by rw [bs_y (R := R) (E := E) (w := w_) (h := h) (f := f) (by assumption)]; exact lv_sub hl [2, 3, 1, 0] rfl))
  refine (hG _ _ _).mpr ?_
  refine lv_iconst (v := nI (0)) hx hb dX9_canMind_0 (by decide) ?_
  refine lv_istore_n (lv' := [(2, .int (nI (0))), (0, .ref (a 0)), (1, .int (nI (w_)))]) hx hb dX9_canMind_1 rfl hl (by decide) rfl (fun ls hl => ?_)
  refine lv_iconst (v := nI (0)) hx hb dX9_canMind_2 (by decide) ?_
  refine lv_istore_n (lv' := [(3, .int (nI (0))), (2, .int (nI (0))), (0, .ref (a 0)), (1, .int (nI (w_)))]) hx hb dX9_canMind_3 rfl hl (by decide) rfl (fun ls hl => ?_)
  exact (hG _ _ _).mp (L4 (4 + 1) (0) (by omega) (by omega) _ _ hP hS _ (lv_sub hl [2, 3, 1, 0] rfl))

set_option maxHeartbeats 4000000 in
set_option maxRecDepth 100000 in
theorem c_X9_bestAsk (l : Launch) (dC : Nat → ClassId) (dI : Nat → Nat → Nat) (cI : ClassId) (a : Nat → Nat) (ik tr nd : Int32) (R mi : Nat → Nat) (n w : Nat) (wk : Int32) (hR : WR R) (hn : n ≤ 4) (hw : w ≤ 5) (hm : ∀ k, k < w → mi k < 4) (E : Nat → Nat) (h : Nat) (hh : h ≤ 8) (hE : ∀ i, i < h → E (4 * i) < 5 ∧ E (4 * i + 1) < n ∧ E (4 * i + 2) < n ∧ E (4 * i + 3) ≤ 1) (w_ : Nat) (hw_ : w_ < w) : Met l yX9_bestAsk wsX9_bestAsk ({ frames := 4, cells := 0, slots := 0, locals := 111 } : Room) (roP dC dI cI ([xoW a ik tr nd] ++ chW cI (fun k => a (3 + k)) (a 36) R mi n w wk ++ hsW cI (fun k => a (24 + k)) E h ++ voW (fun k => a (36 + k))) [.ref (a 0), .int (nI (w_))]) (roI (fun r => r = askI R (bs_ R E w_ h 4) n)) 0 0 (fun _ => False) := by
  refine Met.ofW (cc := cX9_bestAsk) (maxL := 8) (ret := (some .int)) (by decide) rfl ?_
  intro p e s m args below meth c s₁ B hml hv
  obtain ⟨rfl, hP, hK⟩ := hv
  have hx := B.exec
  have hb := B.bytes
  have hr := B.returns
  have hts := atoms_spec (ws := wsX9_bestAsk) B.pre
  have hown : s.vm.findClass RX9 = some m.cls := findClass_of_methodNamed B.named
  have hlocks := B.notSynchronized
  have hS : va_S (fun _ => False) s.heap s.heap [] := va_S.rf
  have hl := lv_entry ([.ref (a 0), .int (nI (w_))]) (n := 8) (Nat.le_of_ble_eq_true rfl)
  rw [lg_entry_eq]
  generalize (lg_sl ([.ref (a 0), .int (nI (w_))]) ++ List.replicate (8 - (lg_sl ([.ref (a 0), .int (nI (w_))])).length) Slot.unset).toArray = ls at hl ⊢
  have hl : lv_has ls 8 [(0, .ref (a 0)), (1, .int (nI (w_)))] := hl
  refine W_abs (fun G hG => ?_)
  have hbl_ : bs_ R E w_ h 4 < 16 := bs_lt R E w_ h 4
  have L20 : ∀ (fu : Nat) (i : Nat), i ≤ n → ¬ (bs_ R E w_ h 4) = 0 → n + 1 ≤ i + fu → ∀ (H : Heap) (locs : List Loc), va_P (dC, dI) vwCl [((a 0), .inr (9, [.ref (a 1), .ref (a 3), .ref (a 10), .ref (a 17), .ref (a 24), .ref (a 29), .ref (a 34), .ref (a 35), .int (ik), .int (tr), .int (nd)])), ((a 3), .inr (1, [.ref (a 36), .ref (a 4), .ref (a 5), .ref (a 6), .ref (a 7), .ref (a 8), .ref (a 9), .int (nI (n)), .int (nI (w)), .int (wk)])), ((a 4), .inl (cI, 4, .inl (fun ii => nI (R (8 * ii))))), ((a 5), .inl (cI, 16, .inl (fun ii => nI (R (8 * (ii / 4) + 1 + ii % 4))))), ((a 6), .inl (cI, 4, .inl (fun ii => nI (R (8 * ii + 5))))), ((a 7), .inl (cI, 4, .inl (fun ii => nI (R (8 * ii + 6))))), ((a 8), .inl (cI, 4, .inl (fun ii => nI (R (8 * ii + 7))))), ((a 9), .inl (cI, 5, .inl (fun ii => nI (mi ii)))), ((a 24), .inr (4, [.ref (a 25), .ref (a 26), .ref (a 27), .ref (a 28), .int (nI (h))])), ((a 25), .inl (cI, 8, .inl (fun ii => nI (E (4 * ii))))), ((a 26), .inl (cI, 8, .inl (fun ii => nI (E (4 * ii + 1))))), ((a 27), .inl (cI, 8, .inl (fun ii => nI (E (4 * ii + 2))))), ((a 28), .inl (cI, 8, .inl (fun ii => nI (E (4 * ii + 3))))), ((a 36), .inr (8, [.ref (a 37), .ref (a 38), .ref (a 39), .ref (a 40), .ref (a 41)])), ((a 37), .inr (6, [])), ((a 38), .inr (7, [])), ((a 39), .inr (0, [])), ((a 40), .inr (3, [])), ((a 41), .inr (2, []))] H → va_S (fun _ => False) s.heap H locs → ∀ (ls : Array Slot), lv_has ls 8 [(0, .ref (a 0)), (1, .int (nI (w_))), (2, .int (nI (bs_ R E w_ h 4))), (3, .int (oI (as_ R (bs_ R E w_ h 4) n (4 * i)).1)), (4, .int (nI ((as_ R (bs_ R E w_ h 4) n (4 * i)).2))), (5, .int (nI (i)))] → G H locs (F0 m 20 ls []) := by
    intro fu
    induction fu with
    | zero => intro i h2 h0 hfu H locs hP hS ls hl; omega
    | succ fu ih20 =>
      intro i h2 h0 hfu H locs hP hS ls hl
      have L35 : ∀ (fu : Nat) (j : Nat), i < n → j ≤ n → n + 1 ≤ j + fu → ∀ (H : Heap) (locs : List Loc), va_P (dC, dI) vwCl [((a 0), .inr (9, [.ref (a 1), .ref (a 3), .ref (a 10), .ref (a 17), .ref (a 24), .ref (a 29), .ref (a 34), .ref (a 35), .int (ik), .int (tr), .int (nd)])), ((a 3), .inr (1, [.ref (a 36), .ref (a 4), .ref (a 5), .ref (a 6), .ref (a 7), .ref (a 8), .ref (a 9), .int (nI (n)), .int (nI (w)), .int (wk)])), ((a 4), .inl (cI, 4, .inl (fun ii => nI (R (8 * ii))))), ((a 5), .inl (cI, 16, .inl (fun ii => nI (R (8 * (ii / 4) + 1 + ii % 4))))), ((a 6), .inl (cI, 4, .inl (fun ii => nI (R (8 * ii + 5))))), ((a 7), .inl (cI, 4, .inl (fun ii => nI (R (8 * ii + 6))))), ((a 8), .inl (cI, 4, .inl (fun ii => nI (R (8 * ii + 7))))), ((a 9), .inl (cI, 5, .inl (fun ii => nI (mi ii)))), ((a 24), .inr (4, [.ref (a 25), .ref (a 26), .ref (a 27), .ref (a 28), .int (nI (h))])), ((a 25), .inl (cI, 8, .inl (fun ii => nI (E (4 * ii))))), ((a 26), .inl (cI, 8, .inl (fun ii => nI (E (4 * ii + 1))))), ((a 27), .inl (cI, 8, .inl (fun ii => nI (E (4 * ii + 2))))), ((a 28), .inl (cI, 8, .inl (fun ii => nI (E (4 * ii + 3))))), ((a 36), .inr (8, [.ref (a 37), .ref (a 38), .ref (a 39), .ref (a 40), .ref (a 41)])), ((a 37), .inr (6, [])), ((a 38), .inr (7, [])), ((a 39), .inr (0, [])), ((a 40), .inr (3, [])), ((a 41), .inr (2, []))] H → va_S (fun _ => False) s.heap H locs → ∀ (ls : Array Slot), lv_has ls 8 [(0, .ref (a 0)), (1, .int (nI (w_))), (2, .int (nI (bs_ R E w_ h 4))), (3, .int (oI (as_ R (bs_ R E w_ h 4) n (4 * i + j)).1)), (4, .int (nI ((as_ R (bs_ R E w_ h 4) n (4 * i + j)).2))), (5, .int (nI (i))), (6, .int (nI (j)))] → G H locs (F0 m 35 ls []) := by
        intro fu
        induction fu with
        | zero => intro j h4 h3 hfu H locs hP hS ls hl; omega
        | succ fu ih35 =>
          intro j h4 h3 hfu H locs hP hS ls hl
          have hal := as_le R (bs_ R E w_ h 4) n (4 * i + j)
          refine (hG _ _ _).mpr ?_
          refine lv_iload hx hb dX9_bestAsk_35 (lv_at hl 6 rfl) ?_
          refine lv_aload_n hx hb dX9_bestAsk_37 rfl (lv_at hl 0 rfl) ?_
          refine va_get (D := (dC, dI)) (ci := 9) (v := .ref (a 3)) (C := RX9) (T := TX9) (N := 11) hx hb hts (fun _ h => List.mem_cons_of_mem _ (List.mem_append_left _ (List.mem_append_left _ (List.mem_append_left _ (List.mem_append_right _ (h)))))) hown hK.1 hP 0 rfl rfl 1 (by decide) (hts (Cond.fieldLink RX9 41 "WorstVoice" "choir" "LWorstVoice$Choir;") (List.mem_of_getElem? (i := 1) rfl)) (fun _ h9 => h9) rfl dX9_bestAsk_38 ?_
          refine va_getN (D := (dC, dI)) (ci := 1) (v := .int (nI (n))) (C := RX1) (T := TX1) (N := 10) hx hb hts (fun _ h => List.mem_cons_of_mem _ (List.mem_append_left _ (List.mem_append_left _ (List.mem_append_right _ (h))))) hown hK.1 hP 1 rfl rfl 7 (by decide) (va_Nw.use rfl (hK.2.1 ("WorstVoice", 84, "WorstVoice$Choir", "singers", "I", "WorstVoice") (List.mem_of_getElem? (i := 3) rfl))) (fun _ h9 => h9) rfl dX9_bestAsk_41 ?_
          refine lv_icmp_ge (tgt := 94) hx hb dX9_bestAsk_44 (by decide) (fun c1 => ?_) (fun c1 => ?_)
          · have c1 := (nI_leI (by omega) (by omega)).mp c1
            refine lv_iinc (v := nI (i + 1)) (lv' := [(5, .int (nI (i + 1))), (0, .ref (a 0)), (1, .int (nI (w_))), (2, .int (nI (bs_ R E w_ h 4))), (3, .int (oI (as_ R (bs_ R E w_ h 4) n (4 * i + j)).1)), (4, .int (nI ((as_ R (bs_ R E w_ h 4) n (4 * i + j)).2))), (6, .int (nI (j)))]) hx hb dX9_bestAsk_94 hl (k := 5) rfl (nI_add (i) 1) (by decide) rfl (fun ls hl => ?_)
            refine lv_goto (tgt := 20) hx hb dX9_bestAsk_97 (by decide) ?_
            exact (hG _ _ _).mp (ih20 (i + 1) (by omega) (by assumption) (by omega) _ _ hP hS _ (by rw [as_row (R := R) (bits := (bs_ R E w_ h 4)) (n := n) (i := i) (j := j) hn (by omega)]; exact lv_sub hl [1, 2, 3, 4, 5, 0] rfl))
          · have c1 := mt (nI_leI (by omega) (by omega)).mpr c1
            refine lv_iload hx hb dX9_bestAsk_47 (lv_at hl 5 rfl) ?_
            refine lv_iload hx hb dX9_bestAsk_49 (lv_at hl 6 rfl) ?_
            refine lv_icmp_ne (tgt := 58) hx hb dX9_bestAsk_51 (by decide) (fun c2 => ?_) (fun c2 => ?_)
            · have c2 := mt (nI_eq (by omega) (by omega)).mpr c2
              refine lv_aload_n hx hb dX9_bestAsk_58 rfl (lv_at hl 0 rfl) ?_
              refine lv_iload_n hx hb dX9_bestAsk_59 rfl (lv_at hl 2 rfl) ?_
              refine lv_iload hx hb dX9_bestAsk_60 (lv_at hl 5 rfl) ?_
              refine lv_iload hx hb dX9_bestAsk_62 (lv_at hl 6 rfl) ?_
              refine ro_calli (va_runV (As := [.int (nI (bs_ R E w_ h 4)), .int (nI (i)), .int (nI (j))]) (rest := []) ⟨hx, hb, hml, hown, hts⟩ (c_X9_leftAtWorst l dC dI cI a ik tr nd R mi n w wk hR hn hw hm (bs_ R E w_ h 4) (i) (j) hbl_ (by omega) (by omega)) (cwV 3 hts gX9_bestAsk_X9_leftAtWorst rfl rfl rfl (by decide +kernel) ⟨Nat.le_of_ble_eq_true rfl, Nat.le_of_ble_eq_true rfl⟩) (ro_pv hK hP [0, 1, 2, 3, 4, 5, 6, 7, 13, 14, 15, 16, 17, 18] rfl (ci := 9) (q0 := 0) (C := RX9) (T := TX9) (N := 11) rfl rfl) rfl rfl hl.1 rfl (lv_room (Nat.le_of_ble_eq_true rfl)) dX9_bestAsk_64 ⟨Nat.zero_le _, Nat.zero_le _⟩) hS hP (fun r3 H locs hr3 hP hS => ?_)
              subst hr3
              have hlw_ := lw_le R (bs_ R E w_ h 4) i j
              refine lv_istore (lv' := [(7, .int (nI (lw_ R (bs_ R E w_ h 4) i j))), (0, .ref (a 0)), (1, .int (nI (w_))), (2, .int (nI (bs_ R E w_ h 4))), (3, .int (oI (as_ R (bs_ R E w_ h 4) n (4 * i + j)).1)), (4, .int (nI ((as_ R (bs_ R E w_ h 4) n (4 * i + j)).2))), (5, .int (nI (i))), (6, .int (nI (j)))]) hx hb dX9_bestAsk_67 hl (by decide) rfl (fun ls hl => ?_)
              refine lv_iload hx hb dX9_bestAsk_69 (lv_at hl 0 rfl) ?_
              refine lv_iload hx hb dX9_bestAsk_71 (lv_at hl 5 rfl) ?_
              refine lv_icmp_ge (tgt := 88) hx hb dX9_bestAsk_73 (by decide) (fun c4 => ?_) (fun c4 => ?_)
              · have c4 := (nI_leI (by omega) (by omega)).mp c4
                refine lv_iinc (v := nI (j + 1)) (lv' := [(6, .int (nI (j + 1))), (7, .int (nI (lw_ R (bs_ R E w_ h 4) i j))), (0, .ref (a 0)), (1, .int (nI (w_))), (2, .int (nI (bs_ R E w_ h 4))), (3, .int (oI (as_ R (bs_ R E w_ h 4) n (4 * i + j)).1)), (4, .int (nI ((as_ R (bs_ R E w_ h 4) n (4 * i + j)).2))), (5, .int (nI (i)))]) hx hb dX9_bestAsk_88 hl (k := 7) rfl (nI_add (j) 1) (by decide) rfl (fun ls hl => ?_)
                refine lv_goto (tgt := 35) hx hb dX9_bestAsk_91 (by decide) ?_
                exact (hG _ _ _).mp (ih35 (j + 1) (by omega) (by omega) (by omega) _ _ hP hS _ (by rw [as_nn (R := R) (bits := (bs_ R E w_ h 4)) (n := n) (i := i) (j := j) hn (by omega) (by omega)]; exact lv_sub hl [2, 3, 4, 5, 6, 7, 0] rfl))
              · have c4 := mt (nI_leI (by omega) (by omega)).mpr c4
                refine lv_iload hx hb dX9_bestAsk_76 (lv_at hl 0 rfl) ?_
                refine lv_istore (lv' := [(4, .int (nI (lw_ R (bs_ R E w_ h 4) i j))), (7, .int (nI (lw_ R (bs_ R E w_ h 4) i j))), (0, .ref (a 0)), (1, .int (nI (w_))), (2, .int (nI (bs_ R E w_ h 4))), (3, .int (oI (as_ R (bs_ R E w_ h 4) n (4 * i + j)).1)), (5, .int (nI (i))), (6, .int (nI (j)))]) hx hb dX9_bestAsk_78 hl (by decide) rfl (fun ls hl => ?_)
                refine lv_iconst (v := nI (4)) hx hb dX9_bestAsk_80 (by decide) ?_
                refine lv_iload hx hb dX9_bestAsk_81 (lv_at hl 6 rfl) ?_
                refine lv_imul hx hb dX9_bestAsk_83 ?_
                refine tp_i (z := nI (4 * i)) (pk_mul (4) (i)) ?_
                refine lv_iload hx hb dX9_bestAsk_84 (lv_at hl 7 rfl) ?_
                refine lv_iadd hx hb dX9_bestAsk_86 ?_
                refine tp_i (z := nI (4 * i + j)) (nI_add (4 * i) (j)) ?_
                refine lv_istore_n (lv' := [(3, .int (nI (4 * i + j))), (4, .int (nI (lw_ R (bs_ R E w_ h 4) i j))), (7, .int (nI (lw_ R (bs_ R E w_ h 4) i j))), (0, .ref (a 0)), (1, .int (nI (w_))), (2, .int (nI (bs_ R E w_ h 4))), (5, .int (nI (i))), (6, .int (nI (j)))]) hx hb dX9_bestAsk_87 rfl hl (by decide) rfl (fun ls hl => ?_)
                refine lv_iinc (v := nI (j + 1)) (lv' := [(6, .int (nI (j + 1))), (3, .int (nI (4 * i + j))), (4, .int (nI (lw_ R (bs_ R E w_ h 4) i j))), (7, .int (nI (lw_ R (bs_ R E w_ h 4) i j))), (0, .ref (a 0)), (1, .int (nI (w_))), (2, .int (nI (bs_ R E w_ h 4))), (5, .int (nI (i)))]) hx hb dX9_bestAsk_88 hl (k := 7) rfl (nI_add (j) 1) (by decide) rfl (fun ls hl => ?_)
                refine lv_goto (tgt := 35) hx hb dX9_bestAsk_91 (by decide) ?_
                exact (hG _ _ _).mp (ih35 (j + 1) (by omega) (by omega) (by omega) _ _ hP hS _ (by rw [(as_yy (R := R) (bits := (bs_ R E w_ h 4)) (n := n) (i := i) (j := j) hn (by omega) (by omega) (by omega) (by omega)).1, (as_yy (R := R) (bits := (bs_ R E w_ h 4)) (n := n) (i := i) (j := j) hn (by omega) (by omega) (by omega) (by omega)).2, oI_s]; exact lv_sub hl [4, 5, 6, 1, 2, 7, 0] rfl))
            · have c2 := (nI_eq (by omega) (by omega)).mp c2
              refine lv_iconst (v := nI (5)) hx hb dX9_bestAsk_54 (by decide) ?_
              refine lv_goto (tgt := 67) hx hb dX9_bestAsk_55 (by decide) ?_
              refine lv_istore (lv' := [(7, .int (nI (5))), (0, .ref (a 0)), (1, .int (nI (w_))), (2, .int (nI (bs_ R E w_ h 4))), (3, .int (oI (as_ R (bs_ R E w_ h 4) n (4 * i + j)).1)), (4, .int (nI ((as_ R (bs_ R E w_ h 4) n (4 * i + j)).2))), (5, .int (nI (i))), (6, .int (nI (j)))]) hx hb dX9_bestAsk_67 hl (by decide) rfl (fun ls hl => ?_)
              refine lv_iload hx hb dX9_bestAsk_69 (lv_at hl 0 rfl) ?_
              refine lv_iload hx hb dX9_bestAsk_71 (lv_at hl 5 rfl) ?_
              refine lv_icmp_ge (tgt := 88) hx hb dX9_bestAsk_73 (by decide) (fun c5 => ?_) (fun c5 => ?_)
              · have c5 := (nI_leI (by omega) (by decide)).mp c5
                refine lv_iinc (v := nI (j + 1)) (lv' := [(6, .int (nI (j + 1))), (7, .int (nI (5))), (0, .ref (a 0)), (1, .int (nI (w_))), (2, .int (nI (bs_ R E w_ h 4))), (3, .int (oI (as_ R (bs_ R E w_ h 4) n (4 * i + j)).1)), (4, .int (nI ((as_ R (bs_ R E w_ h 4) n (4 * i + j)).2))), (5, .int (nI (i)))]) hx hb dX9_bestAsk_88 hl (k := 7) rfl (nI_add (j) 1) (by decide) rfl (fun ls hl => ?_)
                refine lv_goto (tgt := 35) hx hb dX9_bestAsk_91 (by decide) ?_
                exact (hG _ _ _).mp (ih35 (j + 1) (by omega) (by omega) (by omega) _ _ hP hS _ (by rw [as_nn (R := R) (bits := (bs_ R E w_ h 4)) (n := n) (i := i) (j := j) hn (by omega) (by omega)]; exact lv_sub hl [2, 3, 4, 5, 6, 7, 0] rfl))
              · have c5 := mt (nI_leI (by omega) (by decide)).mpr c5
                exfalso; omega
      refine (hG _ _ _).mpr ?_
      refine lv_iload hx hb dX9_bestAsk_20 (lv_at hl 5 rfl) ?_
      refine lv_aload_n hx hb dX9_bestAsk_22 rfl (lv_at hl 0 rfl) ?_
      refine va_get (D := (dC, dI)) (ci := 9) (v := .ref (a 3)) (C := RX9) (T := TX9) (N := 11) hx hb hts (fun _ h => List.mem_cons_of_mem _ (List.mem_append_left _ (List.mem_append_left _ (List.mem_append_left _ (List.mem_append_right _ (h)))))) hown hK.1 hP 0 rfl rfl 1 (by decide) (hts (Cond.fieldLink RX9 41 "WorstVoice" "choir" "LWorstVoice$Choir;") (List.mem_of_getElem? (i := 1) rfl)) (fun _ h9 => h9) rfl dX9_bestAsk_23 ?_
      refine va_getN (D := (dC, dI)) (ci := 1) (v := .int (nI (n))) (C := RX1) (T := TX1) (N := 10) hx hb hts (fun _ h => List.mem_cons_of_mem _ (List.mem_append_left _ (List.mem_append_left _ (List.mem_append_right _ (h))))) hown hK.1 hP 1 rfl rfl 7 (by decide) (va_Nw.use rfl (hK.2.1 ("WorstVoice", 84, "WorstVoice$Choir", "singers", "I", "WorstVoice") (List.mem_of_getElem? (i := 3) rfl))) (fun _ h9 => h9) rfl dX9_bestAsk_26 ?_
      refine lv_icmp_ge (tgt := 100) hx hb dX9_bestAsk_29 (by decide) (fun c6 => ?_) (fun c6 => ?_)
      · have c6 := (nI_leI (by omega) (by omega)).mp c6
        refine lv_iload_n hx hb dX9_bestAsk_100 rfl (lv_at hl 3 rfl) ?_
        exact W.iret hx hb hr (fun t ht hW => ⟨⟨_, (), rfl, (by unfold askI; rw [if_neg (by assumption), as_end hn (show i = n by omega)]), trivial⟩, hS.F ht⟩) hS.2.2 dX9_bestAsk_101
      · have c6 := mt (nI_leI (by omega) (by omega)).mpr c6
        refine lv_iconst (v := nI (0)) hx hb dX9_bestAsk_32 (by decide) ?_
        refine lv_istore (lv' := [(6, .int (nI (0))), (0, .ref (a 0)), (1, .int (nI (w_))), (2, .int (nI (bs_ R E w_ h 4))), (3, .int (oI (as_ R (bs_ R E w_ h 4) n (4 * i)).1)), (4, .int (nI ((as_ R (bs_ R E w_ h 4) n (4 * i)).2))), (5, .int (nI (i)))]) hx hb dX9_bestAsk_33 hl (by decide) rfl (fun ls hl => ?_)
        exact (hG _ _ _).mp (L35 (n + 1) (0) (by omega) (by omega) (by omega) _ _ hP hS _ (by rw [Nat.add_zero (4 * i)]; exact lv_sub hl [1, 2, 3, 4, 5, 6, 0] rfl))
  refine (hG _ _ _).mpr ?_
  refine lv_aload_n hx hb dX9_bestAsk_0 rfl (lv_at hl 0 rfl) ?_
  refine lv_iload_n hx hb dX9_bestAsk_1 rfl (lv_at hl 1 rfl) ?_
  refine ro_calli (va_runV (As := [.int (nI (w_))]) (rest := []) ⟨hx, hb, hml, hown, hts⟩ (c_X9_canMind l dC dI cI a ik tr nd R mi n w wk hR hn hw hm E h hh hE (w_) (by omega)) (cwV 1 hts gX9_bestAsk_X9_canMind rfl rfl rfl (by decide +kernel) ⟨Nat.le_of_ble_eq_true rfl, Nat.le_of_ble_eq_true rfl⟩) (ro_pv hK hP [0, 1, 2, 3, 4, 5, 6, 7, 8, 9, 10, 11, 12, 13, 14, 15, 16, 17, 18] rfl (ci := 9) (q0 := 0) (C := RX9) (T := TX9) (N := 11) rfl rfl) rfl rfl hl.1 rfl (lv_room (Nat.le_of_ble_eq_true rfl)) dX9_bestAsk_2 ⟨Nat.zero_le _, Nat.zero_le _⟩) hS hP (fun r7 H locs hr7 hP hS => ?_)
  subst hr7
  have hbl_ : bs_ R E (w_) h 4 < 16 := bs_lt R E (w_) h 4
  refine lv_istore_n (lv' := [(2, .int (nI (bs_ R E w_ h 4))), (0, .ref (a 0)), (1, .int (nI (w_)))]) hx hb dX9_bestAsk_5 rfl hl (by decide) rfl (fun ls hl => ?_)
  refine lv_iload_n hx hb dX9_bestAsk_6 rfl (lv_at hl 0 rfl) ?_
  refine lv_if_ne (tgt := 12) hx hb dX9_bestAsk_7 (by decide) (fun c8 => ?_) (fun c8 => ?_)
  · have c8 := mt (z_eq (by omega)).mpr c8
    refine lv_iconst (v := -1) hx hb dX9_bestAsk_12 (by decide) ?_
    refine lv_istore_n (lv' := [(3, .int (-1)), (2, .int (nI (bs_ R E w_ h 4))), (0, .ref (a 0)), (1, .int (nI (w_)))]) hx hb dX9_bestAsk_13 rfl hl (by decide) rfl (fun ls hl => ?_)
    refine lv_iconst (v := nI (5)) hx hb dX9_bestAsk_14 (by decide) ?_
    refine lv_istore (lv' := [(4, .int (nI (5))), (3, .int (-1)), (2, .int (nI (bs_ R E w_ h 4))), (0, .ref (a 0)), (1, .int (nI (w_)))]) hx hb dX9_bestAsk_15 hl (by decide) rfl (fun ls hl => ?_)
    refine lv_iconst (v := nI (0)) hx hb dX9_bestAsk_17 (by decide) ?_
    refine lv_istore (lv' := [(5, .int (nI (0))), (4, .int (nI (5))), (3, .int (-1)), (2, .int (nI (bs_ R E w_ h 4))), (0, .ref (a 0)), (1, .int (nI (w_)))]) hx hb dX9_bestAsk_18 hl (by decide) rfl (fun ls hl => ?_)
    exact (hG _ _ _).mp (L20 (n + 1) (0) (by omega) (by assumption) (by omega) _ _ hP hS _ (lv_sub hl [4, 5, 3, 2, 1, 0] rfl))
  · have c8 := (z_eq (by omega)).mp c8
    refine lv_iconst (v := -1) hx hb dX9_bestAsk_10 (by decide) ?_
    exact W.iret hx hb hr (fun t ht hW => ⟨⟨_, (), rfl, (by unfold askI; rw [if_pos (by assumption)]), trivial⟩, hS.F ht⟩) hS.2.2 dX9_bestAsk_11

set_option maxHeartbeats 4000000 in
set_option maxRecDepth 100000 in
theorem c_X9_nextSeed (l : Launch) (dC : Nat → ClassId) (dI : Nat → Nat → Nat) (cI : ClassId) (x_ : Nat) (hx_ : x_ < 2147483648) : Met l yX9_nextSeed wsX9_nextSeed ({ frames := 0, cells := 0, slots := 0, locals := 0 } : Room) (roP dC dI cI ([]) [.int (nI (x_))]) (roI (fun r => r = nI (nS x_))) 0 0 (fun _ => False) := by
  refine Met.ofW (cc := cX9_nextSeed) (maxL := 1) (ret := (some .int)) (by decide) rfl ?_
  intro p e s m args below meth c s₁ B hml hv
  obtain ⟨rfl, hP, hK⟩ := hv
  have hx := B.exec
  have hb := B.bytes
  have hr := B.returns
  have hts := atoms_spec (ws := wsX9_nextSeed) B.pre
  have hown : s.vm.findClass RX9 = some m.cls := findClass_of_methodNamed B.named
  have hlocks := B.notSynchronized
  have hS : va_S (fun _ => False) s.heap s.heap [] := va_S.rf
  have hl := lv_entry ([.int (nI (x_))]) (n := 1) (Nat.le_of_ble_eq_true rfl)
  rw [lg_entry_eq]
  generalize (lg_sl ([.int (nI (x_))]) ++ List.replicate (1 - (lg_sl ([.int (nI (x_))])).length) Slot.unset).toArray = ls at hl ⊢
  have hl : lv_has ls 1 [(0, .int (nI (x_)))] := hl
  refine lv_ldc2 (v := 1103515245) hx hb hown (hts (Cond.constantLong RX9 273 (1103515245)) (List.mem_of_getElem? (i := 1) rfl)) dX9_nextSeed_0 ?_
  refine lv_iload_n hx hb dX9_nextSeed_3 rfl (lv_at hl 0 rfl) ?_
  refine lv_i2l (v := (nI (x_)).toInt64) hx hb dX9_nextSeed_4 rfl ?_
  refine lv_lmul hx hb dX9_nextSeed_5 ?_
  refine lv_ldc2 (v := 12345) hx hb hown (hts (Cond.constantLong RX9 275 (12345)) (List.mem_of_getElem? (i := 2) rfl)) dX9_nextSeed_6 ?_
  refine lv_ladd hx hb dX9_nextSeed_9 ?_
  refine lv_ldc2 (v := 2147483647) hx hb hown (hts (Cond.constantLong RX9 277 (2147483647)) (List.mem_of_getElem? (i := 3) rfl)) dX9_nextSeed_10 ?_
  refine lv_land hx hb dX9_nextSeed_13 ?_
  refine lv_l2i (v := (((1103515245 * ((nI (x_)).toInt64)) + 12345) &&& 2147483647).toInt32) hx hb dX9_nextSeed_14 rfl ?_
  exact W.iret hx hb hr (fun t ht hW => ⟨⟨_, (), rfl, (seed_I hx_), trivial⟩, hS.F ht⟩) hS.2.2 dX9_nextSeed_15

set_option maxHeartbeats 4000000 in
set_option maxRecDepth 100000 in
theorem c_X9_drawn (l : Launch) (dC : Nat → ClassId) (dI : Nat → Nat → Nat) (cI : ClassId) (x_ k_ : Nat) (hx_ : x_ < 2147483648) (hk_ : 1 ≤ k_) (hk4 : k_ ≤ 4) : Met l yX9_drawn wsX9_drawn ({ frames := 0, cells := 0, slots := 0, locals := 0 } : Room) (roP dC dI cI ([]) [.int (nI (x_)), .int (nI (k_))]) (roI (fun r => r = nI (x_ / 65536 % k_))) 0 0 (fun _ => False) := by
  refine Met.ofW (cc := cX9_drawn) (maxL := 2) (ret := (some .int)) (by decide) rfl ?_
  intro p e s m args below meth c s₁ B hml hv
  obtain ⟨rfl, hP, hK⟩ := hv
  have hx := B.exec
  have hb := B.bytes
  have hr := B.returns
  have hts := atoms_spec (ws := wsX9_drawn) B.pre
  have hown : s.vm.findClass RX9 = some m.cls := findClass_of_methodNamed B.named
  have hlocks := B.notSynchronized
  have hS : va_S (fun _ => False) s.heap s.heap [] := va_S.rf
  have hl := lv_entry ([.int (nI (x_)), .int (nI (k_))]) (n := 2) (Nat.le_of_ble_eq_true rfl)
  rw [lg_entry_eq]
  generalize (lg_sl ([.int (nI (x_)), .int (nI (k_))]) ++ List.replicate (2 - (lg_sl ([.int (nI (x_)), .int (nI (k_))])).length) Slot.unset).toArray = ls at hl ⊢
  have hl : lv_has ls 2 [(0, .int (nI (x_))), (1, .int (nI (k_)))] := hl
  refine lv_iload_n hx hb dX9_drawn_0 rfl (lv_at hl 1 rfl) ?_
  refine lv_iconst (v := nI (1)) hx hb dX9_drawn_1 (by decide) ?_
  refine lv_icmp_ge (tgt := 9) hx hb dX9_drawn_2 (by decide) (fun c1 => ?_) (fun c1 => ?_)
  · have c1 := (nI_leI (by decide) (by omega)).mp c1
    refine lv_iload_n hx hb dX9_drawn_9 rfl (lv_at hl 0 rfl) ?_
    refine lv_ldcw (v := 65536) hx hb hown (hts (Cond.constant RX9 279 (65536)) (List.mem_of_getElem? (i := 1) rfl)) dX9_drawn_10 ?_
    refine tp_i (z := nI 65536) (by decide) ?_
    refine lv_idiv hx hb dX9_drawn_13 (by decide) ?_
    refine tp_i (z := nI (x_ / 65536)) (pk_div (by omega) (by decide) (by decide)) ?_
    refine lv_iload_n hx hb dX9_drawn_14 rfl (lv_at hl 1 rfl) ?_
    refine lv_irem hx hb dX9_drawn_15 (nI_ne0 (by omega) (by omega)) ?_
    refine tp_i (z := nI ((x_ / 65536) % k_)) (pk_rem (by omega) (by omega) (by omega)) ?_
    exact W.iret hx hb hr (fun t ht hW => ⟨⟨_, (), rfl, rfl, trivial⟩, hS.F ht⟩) hS.2.2 dX9_drawn_16
  · have c1 := mt (nI_leI (by decide) (by omega)).mpr c1
    exfalso; omega

set_option maxHeartbeats 4000000 in
set_option maxRecDepth 100000 in
theorem c_X9_mix (l : Launch) (dC : Nat → ClassId) (dI : Nat → Nat → Nat) (cI : ClassId) (h_ v_ : Int64) : Met l yX9_mix wsX9_mix ({ frames := 0, cells := 0, slots := 0, locals := 0 } : Room) (roP dC dI cI ([]) [.long (h_), .long (v_)]) (roL (fun r => r = 31 * h_ + v_)) 0 0 (fun _ => False) := by
  refine Met.ofW (cc := cX9_mix) (maxL := 4) (ret := (some .long)) (by decide) rfl ?_
  intro p e s m args below meth c s₁ B hml hv
  obtain ⟨rfl, hP, hK⟩ := hv
  have hx := B.exec
  have hb := B.bytes
  have hr := B.returns
  have hts := atoms_spec (ws := wsX9_mix) B.pre
  have hown : s.vm.findClass RX9 = some m.cls := findClass_of_methodNamed B.named
  have hlocks := B.notSynchronized
  have hS : va_S (fun _ => False) s.heap s.heap [] := va_S.rf
  have hl := lv_entry ([.long (h_), .long (v_)]) (n := 4) (Nat.le_of_ble_eq_true rfl)
  rw [lg_entry_eq]
  generalize (lg_sl ([.long (h_), .long (v_)]) ++ List.replicate (4 - (lg_sl ([.long (h_), .long (v_)])).length) Slot.unset).toArray = ls at hl ⊢
  have hl : lv_has ls 4 [(0, .long (h_)), (2, .long (v_))] := hl
  refine lv_ldc2 (v := 31) hx hb hown (hts (Cond.constantLong RX9 226 (31)) (List.mem_of_getElem? (i := 1) rfl)) dX9_mix_0 ?_
  refine lv_lload_n hx hb dX9_mix_3 rfl (lv_at hl 0 rfl) ?_
  refine lv_lmul hx hb dX9_mix_4 ?_
  refine lv_lload_n hx hb dX9_mix_5 rfl (lv_at hl 1 rfl) ?_
  refine lv_ladd hx hb dX9_mix_6 ?_
  exact W.lret hx hb hr (fun t ht hW => ⟨⟨_, (), rfl, rfl, trivial⟩, hS.F ht⟩) hS.2.2 dX9_mix_7
