/-! the class: the text constant; the page, read -/
set_option maxHeartbeats 4000000 in
set_option maxRecDepth 100000 in
theorem c_coder (l : Launch) (dC : Nat → ClassId) (dI : Nat → Nat → Nat) (cI : ClassId) (ks vs : Nat → Nat)  : Met l yJ0_coder_7d493 wsJ0_coder_7d493 ({ frames := 0, cells := 0, slots := 0, locals := 0 } : Room) (roPz dC dI cI ks vs ([]) [.ref (ks 0)]) (roI (fun r => r = nI 0)) 0 0 (fun _ => False) := by
  refine Met.ofW (cc := cJ0_coder_7d493) (maxL := 1) (ret := (some .byte)) (by decide) rfl ?_
  intro p e s m args below meth c s₁ B hml hv
  obtain ⟨rfl, hP, hK, hZ⟩ := hv
  have hx := B.exec
  have hb := B.bytes
  have hr := B.returns
  have hts := atoms_spec (ws := wsJ0_coder_7d493) B.pre
  have hown : s.vm.findClass RJ0 = some m.cls := findClass_of_methodNamed B.named
  have hlocks := B.notSynchronized
  have hS : va_S (fun _ => False) s.heap s.heap [] := va_S.rf
  have hl := lv_entry ([.ref (ks 0)]) (n := 1) (Nat.le_of_ble_eq_true rfl)
  rw [lg_entry_eq]
  generalize (lg_sl ([.ref (ks 0)]) ++ List.replicate (1 - (lg_sl ([.ref (ks 0)])).length) Slot.unset).toArray = ls at hl ⊢
  have hl : lv_has ls 1 [(0, .ref (ks 0))] := hl
  refine va_gets hx hb hZ.1 hS hown (hts (Cond.fieldLink RJ0 38 "java/lang/String" "COMPACT_STRINGS" "Z") (List.mem_of_getElem? (i := 1) rfl)) (fun _ h9 => h9) dJ0_coder_7d493_0 ?_
  refine tp_i (z := nI 1) rfl ?_
  refine lv_if_eq (tgt := 13) hx hb dJ0_coder_7d493_3 (by decide) (fun c => absurd c (by decide)) (fun _ => ?_)
  refine lv_aload_n hx hb dJ0_coder_7d493_6 rfl (lv_at hl 0 rfl) ?_
  refine vk_getf hx hb (hZ.2.1.1 0 (by decide)).2.1 hS hown (hts (Cond.fieldLink RJ0 15 "java/lang/String" "coder" "B") (List.mem_of_getElem? (i := 2) rfl)) (fun _ h9 => h9) dJ0_coder_7d493_7 ?_
  refine tp_i (z := nI 0) rfl ?_
  refine lv_goto (tgt := 14) hx hb dJ0_coder_7d493_10 (by decide) ?_
  exact W.zret (ty := .byte) hx hb hr rfl (fun t ht hW => ⟨⟨_, (), rfl, rfl, trivial⟩, hS.F ht⟩) hS.2.2 dJ0_coder_7d493_14

set_option maxHeartbeats 4000000 in
set_option maxRecDepth 100000 in
theorem c_isLatin1 (l : Launch) (dC : Nat → ClassId) (dI : Nat → Nat → Nat) (cI : ClassId) (ks vs : Nat → Nat)  : Met l yJ0_isLatin1_aae02 wsJ0_isLatin1_aae02 ({ frames := 0, cells := 0, slots := 0, locals := 0 } : Room) (roPz dC dI cI ks vs ([]) [.ref (ks 0)]) (roI (fun r => r = nI 1)) 0 0 (fun _ => False) := by
  refine Met.ofW (cc := cJ0_isLatin1_aae02) (maxL := 1) (ret := (some .boolean)) (by decide) rfl ?_
  intro p e s m args below meth c s₁ B hml hv
  obtain ⟨rfl, hP, hK, hZ⟩ := hv
  have hx := B.exec
  have hb := B.bytes
  have hr := B.returns
  have hts := atoms_spec (ws := wsJ0_isLatin1_aae02) B.pre
  have hown : s.vm.findClass RJ0 = some m.cls := findClass_of_methodNamed B.named
  have hlocks := B.notSynchronized
  have hS : va_S (fun _ => False) s.heap s.heap [] := va_S.rf
  have hl := lv_entry ([.ref (ks 0)]) (n := 1) (Nat.le_of_ble_eq_true rfl)
  rw [lg_entry_eq]
  generalize (lg_sl ([.ref (ks 0)]) ++ List.replicate (1 - (lg_sl ([.ref (ks 0)])).length) Slot.unset).toArray = ls at hl ⊢
  have hl : lv_has ls 1 [(0, .ref (ks 0))] := hl
  refine va_gets hx hb hZ.1 hS hown (hts (Cond.fieldLink RJ0 38 "java/lang/String" "COMPACT_STRINGS" "Z") (List.mem_of_getElem? (i := 1) rfl)) (fun _ h9 => h9) dJ0_isLatin1_aae02_0 ?_
  refine tp_i (z := nI 1) rfl ?_
  refine lv_if_eq (tgt := 17) hx hb dJ0_isLatin1_aae02_3 (by decide) (fun c => absurd c (by decide)) (fun _ => ?_)
  refine lv_aload_n hx hb dJ0_isLatin1_aae02_6 rfl (lv_at hl 0 rfl) ?_
  refine vk_getf hx hb (hZ.2.1.1 0 (by decide)).2.1 hS hown (hts (Cond.fieldLink RJ0 15 "java/lang/String" "coder" "B") (List.mem_of_getElem? (i := 2) rfl)) (fun _ h9 => h9) dJ0_isLatin1_aae02_7 ?_
  refine tp_i (z := nI 0) rfl ?_
  refine lv_if_ne (tgt := 17) hx hb dJ0_isLatin1_aae02_10 (by decide) (fun c => absurd (by decide) c) (fun _ => ?_)
  refine lv_iconst (v := nI (1)) hx hb dJ0_isLatin1_aae02_13 (by decide) ?_
  refine lv_goto (tgt := 18) hx hb dJ0_isLatin1_aae02_14 (by decide) ?_
  exact W.zret hx hb hr rfl (fun t ht hW => ⟨⟨_, (), rfl, rfl, trivial⟩, hS.F ht⟩) hS.2.2 dJ0_isLatin1_aae02_18

set_option maxHeartbeats 4000000 in
set_option maxRecDepth 100000 in
theorem c_length (l : Launch) (dC : Nat → ClassId) (dI : Nat → Nat → Nat) (cI : ClassId) (ks vs : Nat → Nat)  : Met l yJ0_length_8abf5 wsJ0_length_8abf5 ({ frames := 1, cells := 0, slots := 0, locals := 20 } : Room) (roPz dC dI cI ks vs ([]) [.ref (ks 0)]) (roI (fun r => r = nI 5)) 0 0 (fun _ => False) := by
  refine Met.ofW (cc := cJ0_length_8abf5) (maxL := 1) (ret := (some .int)) (by decide) rfl ?_
  intro p e s m args below meth c s₁ B hml hv
  obtain ⟨rfl, hP, hK, hZ⟩ := hv
  have hx := B.exec
  have hb := B.bytes
  have hr := B.returns
  have hts := atoms_spec (ws := wsJ0_length_8abf5) B.pre
  have hown : s.vm.findClass RJ0 = some m.cls := findClass_of_methodNamed B.named
  have hlocks := B.notSynchronized
  have hS : va_S (fun _ => False) s.heap s.heap [] := va_S.rf
  have hl := lv_entry ([.ref (ks 0)]) (n := 1) (Nat.le_of_ble_eq_true rfl)
  rw [lg_entry_eq]
  generalize (lg_sl ([.ref (ks 0)]) ++ List.replicate (1 - (lg_sl ([.ref (ks 0)])).length) Slot.unset).toArray = ls at hl ⊢
  have hl : lv_has ls 1 [(0, .ref (ks 0))] := hl
  refine lv_aload_n hx hb dJ0_length_8abf5_0 rfl (lv_at hl 0 rfl) ?_
  refine vk_getf hx hb (hZ.2.1.1 0 (by decide)).2.2.1 hS hown (hts (Cond.fieldLink RJ0 9 "java/lang/String" "value" "[B") (List.mem_of_getElem? (i := 1) rfl)) (fun _ h9 => h9) dJ0_length_8abf5_1 ?_
  refine va_tlen hx hb (hZ.2.1.1 0 (by decide)).2.2.2 hS (v := nI 5) rfl dJ0_length_8abf5_4 ?_
  refine lv_aload_n hx hb dJ0_length_8abf5_5 rfl (lv_at hl 0 rfl) ?_
  refine ro_calli (va_runV (As := []) (rest := [.int (nI (5))]) ⟨hx, hb, hml, hown, hts⟩ (c_coder l dC dI cI ks vs) (cwV 0 hts gJ0_length_8abf5_J0_coder_7d493 rfl rfl rfl (by decide +kernel) ⟨Nat.le_of_ble_eq_true rfl, Nat.le_of_ble_eq_true rfl⟩) (roz_pk hK hZ hS hP [] rfl) rfl rfl hl.1 rfl (lv_room (Nat.le_of_ble_eq_true rfl)) dJ0_length_8abf5_6 ⟨Nat.zero_le _, Nat.zero_le _⟩) hS hP (fun r1 H locs hr1 hP hS => ?_)
  subst hr1
  refine lv_ishr hx hb dJ0_length_8abf5_9 ?_
  refine tp_i (z := nI 5) (by decide) ?_
  exact W.iret hx hb hr (fun t ht hW => ⟨⟨_, (), rfl, rfl, trivial⟩, hS.F ht⟩) hS.2.2 dJ0_length_8abf5_10

set_option maxHeartbeats 4000000 in
set_option maxRecDepth 100000 in
theorem c_canEncode (l : Launch) (dC : Nat → ClassId) (dI : Nat → Nat → Nat) (cI : ClassId) (ch : Nat) (hc : ch < 127) : Met l yJ1_canEncode_9a6ad wsJ1_canEncode_9a6ad ({ frames := 0, cells := 0, slots := 0, locals := 0 } : Room) (roP dC dI cI ([]) [.int (nI (ch))]) (roI (fun r => r = nI 1)) 0 0 (fun _ => False) := by
  refine Met.ofW (cc := cJ1_canEncode_9a6ad) (maxL := 1) (ret := (some .boolean)) (by decide) rfl ?_
  intro p e s m args below meth c s₁ B hml hv
  obtain ⟨rfl, hP, hK⟩ := hv
  have hx := B.exec
  have hb := B.bytes
  have hr := B.returns
  have hts := atoms_spec (ws := wsJ1_canEncode_9a6ad) B.pre
  have hown : s.vm.findClass RJ1 = some m.cls := findClass_of_methodNamed B.named
  have hlocks := B.notSynchronized
  have hS : va_S (fun _ => False) s.heap s.heap [] := va_S.rf
  have hl := lv_entry ([.int (nI (ch))]) (n := 1) (Nat.le_of_ble_eq_true rfl)
  rw [lg_entry_eq]
  generalize (lg_sl ([.int (nI (ch))]) ++ List.replicate (1 - (lg_sl ([.int (nI (ch))])).length) Slot.unset).toArray = ls at hl ⊢
  have hl : lv_has ls 1 [(0, .int (nI (ch)))] := hl
  refine lv_iload_n hx hb dJ1_canEncode_9a6ad_0 rfl (lv_at hl 0 rfl) ?_
  refine lv_if_lt (tgt := 15) hx hb dJ1_canEncode_9a6ad_1 (by decide) (fun c1 => absurd c1 (z_lt (by omega))) (fun c1 => ?_)
  refine lv_iload_n hx hb dJ1_canEncode_9a6ad_4 rfl (lv_at hl 0 rfl) ?_
  refine lv_sipush (v := nI (255)) hx hb dJ1_canEncode_9a6ad_5 (by decide) ?_
  refine lv_icmp_gt (tgt := 15) hx hb dJ1_canEncode_9a6ad_8 (by decide) (fun c2 => ?_) (fun c2 => ?_)
  · have c2 := (nI_ltI (by decide) (by omega)).mp c2
    exfalso; omega
  have c2 := mt (nI_ltI (by decide) (by omega)).mpr c2
  refine lv_iconst (v := nI (1)) hx hb dJ1_canEncode_9a6ad_11 (by decide) ?_
  refine lv_goto (tgt := 16) hx hb dJ1_canEncode_9a6ad_12 (by decide) ?_
  exact W.zret hx hb hr (by first | rfl | exact bI_nz) (fun t ht hW => ⟨⟨_, (), rfl, rfl, trivial⟩, hS.F ht⟩) hS.2.2 dJ1_canEncode_9a6ad_16

set_option maxHeartbeats 4000000 in
set_option maxRecDepth 100000 in
theorem c_indexOfChar (l : Launch) (dC : Nat → ClassId) (dI : Nat → Nat → Nat) (cI : ClassId) (ks vs : Nat → Nat) (ch : Nat) (hc : ch < 127) : Met l yJ1_indexOfChar_4cfef wsJ1_indexOfChar_4cfef ({ frames := 0, cells := 0, slots := 0, locals := 0 } : Room) (roPz dC dI cI ks vs ([]) [.ref (vs 0), .int (nI (ch)), .int (nI (0)), .int (nI (5))]) (roI (fun r => r = kc ch)) 0 0 (fun _ => False) := by
  refine Met.ofW (cc := cJ1_indexOfChar_4cfef) (maxL := 6) (ret := (some .int)) (by decide) rfl ?_
  intro p e s m args below meth c s₁ B hml hv
  obtain ⟨rfl, hP, hK, hZ⟩ := hv
  have hx := B.exec
  have hb := B.bytes
  have hr := B.returns
  have hts := atoms_spec (ws := wsJ1_indexOfChar_4cfef) B.pre
  have hown : s.vm.findClass RJ1 = some m.cls := findClass_of_methodNamed B.named
  have hlocks := B.notSynchronized
  have hS : va_S (fun _ => False) s.heap s.heap [] := va_S.rf
  have hl := lv_entry ([.ref (vs 0), .int (nI (ch)), .int (nI (0)), .int (nI (5))]) (n := 6) (Nat.le_of_ble_eq_true rfl)
  rw [lg_entry_eq]
  generalize (lg_sl ([.ref (vs 0), .int (nI (ch)), .int (nI (0)), .int (nI (5))]) ++ List.replicate (6 - (lg_sl ([.ref (vs 0), .int (nI (ch)), .int (nI (0)), .int (nI (5))])).length) Slot.unset).toArray = ls at hl ⊢
  have hl : lv_has ls 6 [(0, .ref (vs 0)), (1, .int (nI (ch))), (2, .int (nI (0))), (3, .int (nI (5)))] := hl
  refine lv_iload_n hx hb dJ1_indexOfChar_4cfef_0 rfl (lv_at hl 1 rfl) ?_
  refine lv_i2b (v := nI (ch)) hx hb dJ1_indexOfChar_4cfef_1 (i2b_n (by omega)) ?_
  refine lv_istore (lv' := [(4, .int (nI (ch))), (0, .ref (vs 0)), (1, .int (nI (ch))), (2, .int (nI (0))), (3, .int (nI (5)))]) hx hb dJ1_indexOfChar_4cfef_2 hl (by decide) rfl (fun ls hl => ?_)
  refine lv_iload_n hx hb dJ1_indexOfChar_4cfef_4 rfl (lv_at hl 3 rfl) ?_
  refine lv_istore (lv' := [(5, .int (nI (0))), (4, .int (nI (ch))), (0, .ref (vs 0)), (1, .int (nI (ch))), (2, .int (nI (0))), (3, .int (nI (5)))]) hx hb dJ1_indexOfChar_4cfef_5 hl (by decide) rfl (fun ls hl => ?_)
  refine lv_iload hx hb dJ1_indexOfChar_4cfef_7 (lv_at hl 0 rfl) ?_
  refine lv_iload_n hx hb dJ1_indexOfChar_4cfef_9 rfl (lv_at hl 5 rfl) ?_
  refine lv_icmp_ge (tgt := 31) hx hb dJ1_indexOfChar_4cfef_10 (by decide) (fun c => absurd c (by decide)) (fun _ => ?_)
  refine lv_aload_n hx hb dJ1_indexOfChar_4cfef_13 rfl (lv_at hl 2 rfl) ?_
  refine lv_iload hx hb dJ1_indexOfChar_4cfef_14 (lv_at hl 0 rfl) ?_
  refine va_tb hx hb (hZ.2.1.1 0 (by decide)).2.2.2 hS (vp_in_nI (n := 0) (N := 5) (by decide) (by decide)) (v := .int (nI 115)) (by rfl) dJ1_indexOfChar_4cfef_16 ?_
  refine lv_iload hx hb dJ1_indexOfChar_4cfef_17 (lv_at hl 1 rfl) ?_
  refine lv_icmp_ne (tgt := 25) hx hb dJ1_indexOfChar_4cfef_19 (by decide) (fun c1 => ?_) (fun c1 => ?_)
  · have c1 := mt (nI_eq (by decide) (by omega)).mpr c1
    refine lv_iinc (v := nI (1)) (lv' := [(5, .int (nI (1))), (4, .int (nI (ch))), (0, .ref (vs 0)), (1, .int (nI (ch))), (2, .int (nI (0))), (3, .int (nI (5)))]) hx hb dJ1_indexOfChar_4cfef_25 hl (k := 0) rfl (by decide) (by decide) rfl (fun ls hl => ?_)
    refine lv_goto (tgt := 7) hx hb dJ1_indexOfChar_4cfef_28 (by decide) ?_
    refine lv_iload hx hb dJ1_indexOfChar_4cfef_7 (lv_at hl 0 rfl) ?_
    refine lv_iload_n hx hb dJ1_indexOfChar_4cfef_9 rfl (lv_at hl 5 rfl) ?_
    refine lv_icmp_ge (tgt := 31) hx hb dJ1_indexOfChar_4cfef_10 (by decide) (fun c => absurd c (by decide)) (fun _ => ?_)
    refine lv_aload_n hx hb dJ1_indexOfChar_4cfef_13 rfl (lv_at hl 2 rfl) ?_
    refine lv_iload hx hb dJ1_indexOfChar_4cfef_14 (lv_at hl 0 rfl) ?_
    refine va_tb hx hb (hZ.2.1.1 0 (by decide)).2.2.2 hS (vp_in_nI (n := 1) (N := 5) (by decide) (by decide)) (v := .int (nI 116)) (by rfl) dJ1_indexOfChar_4cfef_16 ?_
    refine lv_iload hx hb dJ1_indexOfChar_4cfef_17 (lv_at hl 1 rfl) ?_
    refine lv_icmp_ne (tgt := 25) hx hb dJ1_indexOfChar_4cfef_19 (by decide) (fun c2 => ?_) (fun c2 => ?_)
    · have c2 := mt (nI_eq (by decide) (by omega)).mpr c2
      refine lv_iinc (v := nI (2)) (lv' := [(5, .int (nI (2))), (4, .int (nI (ch))), (0, .ref (vs 0)), (1, .int (nI (ch))), (2, .int (nI (0))), (3, .int (nI (5)))]) hx hb dJ1_indexOfChar_4cfef_25 hl (k := 0) rfl (by decide) (by decide) rfl (fun ls hl => ?_)
      refine lv_goto (tgt := 7) hx hb dJ1_indexOfChar_4cfef_28 (by decide) ?_
      refine lv_iload hx hb dJ1_indexOfChar_4cfef_7 (lv_at hl 0 rfl) ?_
      refine lv_iload_n hx hb dJ1_indexOfChar_4cfef_9 rfl (lv_at hl 5 rfl) ?_
      refine lv_icmp_ge (tgt := 31) hx hb dJ1_indexOfChar_4cfef_10 (by decide) (fun c => absurd c (by decide)) (fun _ => ?_)
      refine lv_aload_n hx hb dJ1_indexOfChar_4cfef_13 rfl (lv_at hl 2 rfl) ?_
      refine lv_iload hx hb dJ1_indexOfChar_4cfef_14 (lv_at hl 0 rfl) ?_
      refine va_tb hx hb (hZ.2.1.1 0 (by decide)).2.2.2 hS (vp_in_nI (n := 2) (N := 5) (by decide) (by decide)) (v := .int (nI 98)) (by rfl) dJ1_indexOfChar_4cfef_16 ?_
      refine lv_iload hx hb dJ1_indexOfChar_4cfef_17 (lv_at hl 1 rfl) ?_
      refine lv_icmp_ne (tgt := 25) hx hb dJ1_indexOfChar_4cfef_19 (by decide) (fun c3 => ?_) (fun c3 => ?_)
      · have c3 := mt (nI_eq (by decide) (by omega)).mpr c3
        refine lv_iinc (v := nI (3)) (lv' := [(5, .int (nI (3))), (4, .int (nI (ch))), (0, .ref (vs 0)), (1, .int (nI (ch))), (2, .int (nI (0))), (3, .int (nI (5)))]) hx hb dJ1_indexOfChar_4cfef_25 hl (k := 0) rfl (by decide) (by decide) rfl (fun ls hl => ?_)
        refine lv_goto (tgt := 7) hx hb dJ1_indexOfChar_4cfef_28 (by decide) ?_
        refine lv_iload hx hb dJ1_indexOfChar_4cfef_7 (lv_at hl 0 rfl) ?_
        refine lv_iload_n hx hb dJ1_indexOfChar_4cfef_9 rfl (lv_at hl 5 rfl) ?_
        refine lv_icmp_ge (tgt := 31) hx hb dJ1_indexOfChar_4cfef_10 (by decide) (fun c => absurd c (by decide)) (fun _ => ?_)
        refine lv_aload_n hx hb dJ1_indexOfChar_4cfef_13 rfl (lv_at hl 2 rfl) ?_
        refine lv_iload hx hb dJ1_indexOfChar_4cfef_14 (lv_at hl 0 rfl) ?_
        refine va_tb hx hb (hZ.2.1.1 0 (by decide)).2.2.2 hS (vp_in_nI (n := 3) (N := 5) (by decide) (by decide)) (v := .int (nI 100)) (by rfl) dJ1_indexOfChar_4cfef_16 ?_
        refine lv_iload hx hb dJ1_indexOfChar_4cfef_17 (lv_at hl 1 rfl) ?_
        refine lv_icmp_ne (tgt := 25) hx hb dJ1_indexOfChar_4cfef_19 (by decide) (fun c4 => ?_) (fun c4 => ?_)
        · have c4 := mt (nI_eq (by decide) (by omega)).mpr c4
          refine lv_iinc (v := nI (4)) (lv' := [(5, .int (nI (4))), (4, .int (nI (ch))), (0, .ref (vs 0)), (1, .int (nI (ch))), (2, .int (nI (0))), (3, .int (nI (5)))]) hx hb dJ1_indexOfChar_4cfef_25 hl (k := 0) rfl (by decide) (by decide) rfl (fun ls hl => ?_)
          refine lv_goto (tgt := 7) hx hb dJ1_indexOfChar_4cfef_28 (by decide) ?_
          refine lv_iload hx hb dJ1_indexOfChar_4cfef_7 (lv_at hl 0 rfl) ?_
          refine lv_iload_n hx hb dJ1_indexOfChar_4cfef_9 rfl (lv_at hl 5 rfl) ?_
          refine lv_icmp_ge (tgt := 31) hx hb dJ1_indexOfChar_4cfef_10 (by decide) (fun c => absurd c (by decide)) (fun _ => ?_)
          refine lv_aload_n hx hb dJ1_indexOfChar_4cfef_13 rfl (lv_at hl 2 rfl) ?_
          refine lv_iload hx hb dJ1_indexOfChar_4cfef_14 (lv_at hl 0 rfl) ?_
          refine va_tb hx hb (hZ.2.1.1 0 (by decide)).2.2.2 hS (vp_in_nI (n := 4) (N := 5) (by decide) (by decide)) (v := .int (nI 99)) (by rfl) dJ1_indexOfChar_4cfef_16 ?_
          refine lv_iload hx hb dJ1_indexOfChar_4cfef_17 (lv_at hl 1 rfl) ?_
          refine lv_icmp_ne (tgt := 25) hx hb dJ1_indexOfChar_4cfef_19 (by decide) (fun c5 => ?_) (fun c5 => ?_)
          · have c5 := mt (nI_eq (by decide) (by omega)).mpr c5
            refine lv_iinc (v := nI (5)) (lv' := [(5, .int (nI (5))), (4, .int (nI (ch))), (0, .ref (vs 0)), (1, .int (nI (ch))), (2, .int (nI (0))), (3, .int (nI (5)))]) hx hb dJ1_indexOfChar_4cfef_25 hl (k := 0) rfl (by decide) (by decide) rfl (fun ls hl => ?_)
            refine lv_goto (tgt := 7) hx hb dJ1_indexOfChar_4cfef_28 (by decide) ?_
            refine lv_iload hx hb dJ1_indexOfChar_4cfef_7 (lv_at hl 0 rfl) ?_
            refine lv_iload_n hx hb dJ1_indexOfChar_4cfef_9 rfl (lv_at hl 5 rfl) ?_
            refine lv_icmp_ge (tgt := 31) hx hb dJ1_indexOfChar_4cfef_10 (by decide) (fun _ => ?_) (fun c => absurd (by decide) c)
            refine lv_iconst (v := -1) hx hb dJ1_indexOfChar_4cfef_31 (by decide) ?_
            exact W.iret hx hb hr (fun t ht hW => ⟨⟨_, (), rfl, (by unfold kc; (repeat' split) <;> first | rfl | (exfalso; omega)), trivial⟩, hS.F ht⟩) hS.2.2 dJ1_indexOfChar_4cfef_32
          · have c5 := (nI_eq (by decide) (by omega)).mp c5
            refine lv_iload hx hb dJ1_indexOfChar_4cfef_22 (lv_at hl 0 rfl) ?_
            exact W.iret hx hb hr (fun t ht hW => ⟨⟨_, (), rfl, (by unfold kc; (repeat' split) <;> first | rfl | (exfalso; omega)), trivial⟩, hS.F ht⟩) hS.2.2 dJ1_indexOfChar_4cfef_24
        · have c4 := (nI_eq (by decide) (by omega)).mp c4
          refine lv_iload hx hb dJ1_indexOfChar_4cfef_22 (lv_at hl 0 rfl) ?_
          exact W.iret hx hb hr (fun t ht hW => ⟨⟨_, (), rfl, (by unfold kc; (repeat' split) <;> first | rfl | (exfalso; omega)), trivial⟩, hS.F ht⟩) hS.2.2 dJ1_indexOfChar_4cfef_24
      · have c3 := (nI_eq (by decide) (by omega)).mp c3
        refine lv_iload hx hb dJ1_indexOfChar_4cfef_22 (lv_at hl 0 rfl) ?_
        exact W.iret hx hb hr (fun t ht hW => ⟨⟨_, (), rfl, (by unfold kc; (repeat' split) <;> first | rfl | (exfalso; omega)), trivial⟩, hS.F ht⟩) hS.2.2 dJ1_indexOfChar_4cfef_24
    · have c2 := (nI_eq (by decide) (by omega)).mp c2
      refine lv_iload hx hb dJ1_indexOfChar_4cfef_22 (lv_at hl 0 rfl) ?_
      exact W.iret hx hb hr (fun t ht hW => ⟨⟨_, (), rfl, (by unfold kc; (repeat' split) <;> first | rfl | (exfalso; omega)), trivial⟩, hS.F ht⟩) hS.2.2 dJ1_indexOfChar_4cfef_24
  · have c1 := (nI_eq (by decide) (by omega)).mp c1
    refine lv_iload hx hb dJ1_indexOfChar_4cfef_22 (lv_at hl 0 rfl) ?_
    exact W.iret hx hb hr (fun t ht hW => ⟨⟨_, (), rfl, (by unfold kc; (repeat' split) <;> first | rfl | (exfalso; omega)), trivial⟩, hS.F ht⟩) hS.2.2 dJ1_indexOfChar_4cfef_24

set_option maxHeartbeats 4000000 in
set_option maxRecDepth 100000 in
theorem c_indexOfL (l : Launch) (dC : Nat → ClassId) (dI : Nat → Nat → Nat) (cI : ClassId) (ks vs : Nat → Nat) (ch : Nat) (hc : ch < 127) : Met l yJ1_indexOf_4cfef wsJ1_indexOf_4cfef ({ frames := 1, cells := 0, slots := 0, locals := 40 } : Room) (roPz dC dI cI ks vs ([]) [.ref (vs 0), .int (nI (ch)), .int (nI (0)), .int (nI (5))]) (roI (fun r => r = kc ch)) 0 0 (fun _ => False) := by
  refine Met.ofW (cc := cJ1_indexOf_4cfef) (maxL := 4) (ret := (some .int)) (by decide) rfl ?_
  intro p e s m args below meth c s₁ B hml hv
  obtain ⟨rfl, hP, hK, hZ⟩ := hv
  have hx := B.exec
  have hb := B.bytes
  have hr := B.returns
  have hts := atoms_spec (ws := wsJ1_indexOf_4cfef) B.pre
  have hown : s.vm.findClass RJ1 = some m.cls := findClass_of_methodNamed B.named
  have hlocks := B.notSynchronized
  have hS : va_S (fun _ => False) s.heap s.heap [] := va_S.rf
  have hl := lv_entry ([.ref (vs 0), .int (nI (ch)), .int (nI (0)), .int (nI (5))]) (n := 4) (Nat.le_of_ble_eq_true rfl)
  rw [lg_entry_eq]
  generalize (lg_sl ([.ref (vs 0), .int (nI (ch)), .int (nI (0)), .int (nI (5))]) ++ List.replicate (4 - (lg_sl ([.ref (vs 0), .int (nI (ch)), .int (nI (0)), .int (nI (5))])).length) Slot.unset).toArray = ls at hl ⊢
  have hl : lv_has ls 4 [(0, .ref (vs 0)), (1, .int (nI (ch))), (2, .int (nI (0))), (3, .int (nI (5)))] := hl
  refine lv_iload_n hx hb dJ1_indexOf_4cfef_0 rfl (lv_at hl 1 rfl) ?_
  refine ro_calli (va_runS (As := [.int (nI (ch))]) (rest := []) ⟨hx, hb, hml, hown, hts⟩ (c_canEncode l dC dI cI ch hc) (va_cwS 1 hts gJ1_indexOf_4cfef_J1_canEncode_9a6ad rfl rfl rfl (by decide +kernel) ⟨Nat.le_of_ble_eq_true rfl, Nat.le_of_ble_eq_true rfl⟩) (ro_ps hK hP [] rfl) rfl rfl hl.1 rfl (lv_room (Nat.le_of_ble_eq_true rfl)) dJ1_indexOf_4cfef_1 ⟨Nat.zero_le _, Nat.zero_le _⟩) hS hP (fun r1 H locs hr1 hP hS => ?_)
  subst hr1
  refine lv_if_ne (tgt := 9) hx hb dJ1_indexOf_4cfef_4 (by decide) (fun _ => ?_) (fun c => absurd c (by decide))
  refine lv_iload_n hx hb dJ1_indexOf_4cfef_9 rfl (lv_at hl 2 rfl) ?_
  refine lv_iconst (v := nI (0)) hx hb dJ1_indexOf_4cfef_10 (by decide) ?_
  refine va_mmax hx hb (hml.trans hl.1.symm) hown (hts (Cond.methodLink RJ1 92 Lib.Math.max.name) (List.mem_of_getElem? (i := 1) rfl)) (hts (Cond.static Lib.Math.max.name) (List.mem_of_getElem? (i := 2) rfl)) (hts (Cond.initialized "java/lang/Math") (List.mem_of_getElem? (i := 3) rfl)) (hts (Cond.code Lib.Math.max.name Lib.Math.max.code 2 (some .int)) (List.mem_of_getElem? (i := 4) rfl)) (Nat.le_of_ble_eq_true rfl) (Nat.le_of_ble_eq_true rfl) (Nat.zero_le _) (Nat.zero_le _) dJ1_indexOf_4cfef_11 ?_
  refine tp_i (z := nI 0) (by decide) ?_
  refine lv_istore_n (lv' := [(2, .int (nI (0))), (0, .ref (vs 0)), (1, .int (nI (ch))), (3, .int (nI (5)))]) hx hb dJ1_indexOf_4cfef_14 rfl hl (by decide) rfl (fun ls hl => ?_)
  refine lv_iload_n hx hb dJ1_indexOf_4cfef_15 rfl (lv_at hl 3 rfl) ?_
  refine lv_aload_n hx hb dJ1_indexOf_4cfef_16 rfl (lv_at hl 1 rfl) ?_
  refine va_tlen hx hb (hZ.2.1.1 0 (by decide)).2.2.2 hS (v := nI 5) rfl dJ1_indexOf_4cfef_17 ?_
  refine va_mmin hx hb (hml.trans hl.1.symm) hown (hts (Cond.methodLink RJ1 38 Lib.Math.min.name) (List.mem_of_getElem? (i := 5) rfl)) (hts (Cond.static Lib.Math.min.name) (List.mem_of_getElem? (i := 6) rfl)) (hts (Cond.initialized "java/lang/Math") (List.mem_of_getElem? (i := 3) rfl)) (hts (Cond.code Lib.Math.min.name Lib.Math.min.code 2 (some .int)) (List.mem_of_getElem? (i := 7) rfl)) (Nat.le_of_ble_eq_true rfl) (Nat.le_of_ble_eq_true rfl) (Nat.zero_le _) (Nat.zero_le _) dJ1_indexOf_4cfef_18 ?_
  refine tp_i (z := nI 5) (by decide) ?_
  refine lv_istore_n (lv' := [(3, .int (nI (5))), (2, .int (nI (0))), (0, .ref (vs 0)), (1, .int (nI (ch)))]) hx hb dJ1_indexOf_4cfef_21 rfl hl (by decide) rfl (fun ls hl => ?_)
  refine lv_iload_n hx hb dJ1_indexOf_4cfef_22 rfl (lv_at hl 1 rfl) ?_
  refine lv_iload_n hx hb dJ1_indexOf_4cfef_23 rfl (lv_at hl 0 rfl) ?_
  refine lv_icmp_lt (tgt := 29) hx hb dJ1_indexOf_4cfef_24 (by decide) (fun _ => ?_) (fun c => absurd (by decide) c)
  refine lv_aload_n hx hb dJ1_indexOf_4cfef_29 rfl (lv_at hl 2 rfl) ?_
  refine lv_iload_n hx hb dJ1_indexOf_4cfef_30 rfl (lv_at hl 3 rfl) ?_
  refine lv_iload_n hx hb dJ1_indexOf_4cfef_31 rfl (lv_at hl 1 rfl) ?_
  refine lv_iload_n hx hb dJ1_indexOf_4cfef_32 rfl (lv_at hl 0 rfl) ?_
  refine ro_calli (va_runS (As := [.ref (vs 0), .int (nI (ch)), .int (nI (0)), .int (nI (5))]) (rest := []) ⟨hx, hb, hml, hown, hts⟩ (c_indexOfChar l dC dI cI ks vs ch hc) (va_cwS 4 hts gJ1_indexOf_4cfef_J1_indexOfChar_4cfef rfl rfl rfl (by decide +kernel) ⟨Nat.le_of_ble_eq_true rfl, Nat.le_of_ble_eq_true rfl⟩) (roz_ps hK hZ hS hP [] rfl) rfl rfl hl.1 rfl (lv_room (Nat.le_of_ble_eq_true rfl)) dJ1_indexOf_4cfef_33 ⟨Nat.zero_le _, Nat.zero_le _⟩) hS hP (fun r2 H locs hr2 hP hS => ?_)
  subst hr2
  exact W.iret hx hb hr (fun t ht hW => ⟨⟨_, (), rfl, rfl, trivial⟩, hS.F ht⟩) hS.2.2 dJ1_indexOf_4cfef_36

set_option maxHeartbeats 4000000 in
set_option maxRecDepth 100000 in
theorem c_indexOf2 (l : Launch) (dC : Nat → ClassId) (dI : Nat → Nat → Nat) (cI : ClassId) (ks vs : Nat → Nat) (ch : Nat) (hc : ch < 127) : Met l yJ0_indexOf_7cf53 wsJ0_indexOf_7cf53 ({ frames := 2, cells := 0, slots := 0, locals := 63 } : Room) (roPz dC dI cI ks vs ([]) [.ref (ks 0), .int (nI (ch)), .int (nI (0))]) (roI (fun r => r = kc ch)) 0 0 (fun _ => False) := by
  refine Met.ofW (cc := cJ0_indexOf_7cf53) (maxL := 3) (ret := (some .int)) (by decide) rfl ?_
  intro p e s m args below meth c s₁ B hml hv
  obtain ⟨rfl, hP, hK, hZ⟩ := hv
  have hx := B.exec
  have hb := B.bytes
  have hr := B.returns
  have hts := atoms_spec (ws := wsJ0_indexOf_7cf53) B.pre
  have hown : s.vm.findClass RJ0 = some m.cls := findClass_of_methodNamed B.named
  have hlocks := B.notSynchronized
  have hS : va_S (fun _ => False) s.heap s.heap [] := va_S.rf
  have hl := lv_entry ([.ref (ks 0), .int (nI (ch)), .int (nI (0))]) (n := 3) (Nat.le_of_ble_eq_true rfl)
  rw [lg_entry_eq]
  generalize (lg_sl ([.ref (ks 0), .int (nI (ch)), .int (nI (0))]) ++ List.replicate (3 - (lg_sl ([.ref (ks 0), .int (nI (ch)), .int (nI (0))])).length) Slot.unset).toArray = ls at hl ⊢
  have hl : lv_has ls 3 [(0, .ref (ks 0)), (1, .int (nI (ch))), (2, .int (nI (0)))] := hl
  refine lv_aload_n hx hb dJ0_indexOf_7cf53_0 rfl (lv_at hl 0 rfl) ?_
  refine ro_calli (va_runV (As := []) (rest := []) ⟨hx, hb, hml, hown, hts⟩ (c_isLatin1 l dC dI cI ks vs) (cwV 0 hts gJ0_indexOf_7cf53_J0_isLatin1_aae02 rfl rfl rfl (by decide +kernel) ⟨Nat.le_of_ble_eq_true rfl, Nat.le_of_ble_eq_true rfl⟩) (roz_pk hK hZ hS hP [] rfl) rfl rfl hl.1 rfl (lv_room (Nat.le_of_ble_eq_true rfl)) dJ0_indexOf_7cf53_1 ⟨Nat.zero_le _, Nat.zero_le _⟩) hS hP (fun r1 H locs hr1 hP hS => ?_)
  subst hr1
  refine lv_if_eq (tgt := 23) hx hb dJ0_indexOf_7cf53_4 (by decide) (fun c => absurd c (by decide)) (fun _ => ?_)
  refine lv_aload_n hx hb dJ0_indexOf_7cf53_7 rfl (lv_at hl 0 rfl) ?_
  refine vk_getf hx hb (hZ.2.1.1 0 (by decide)).2.2.1 hS hown (hts (Cond.fieldLink RJ0 9 "java/lang/String" "value" "[B") (List.mem_of_getElem? (i := 1) rfl)) (fun _ h9 => h9) dJ0_indexOf_7cf53_8 ?_
  refine lv_iload_n hx hb dJ0_indexOf_7cf53_11 rfl (lv_at hl 1 rfl) ?_
  refine lv_iload_n hx hb dJ0_indexOf_7cf53_12 rfl (lv_at hl 2 rfl) ?_
  refine lv_aload_n hx hb dJ0_indexOf_7cf53_13 rfl (lv_at hl 0 rfl) ?_
  refine ro_calli (va_runV (As := []) (rest := [.int (nI (0)), .int (nI (ch)), .ref (vs 0)]) ⟨hx, hb, hml, hown, hts⟩ (c_length l dC dI cI ks vs) (cwV 0 hts gJ0_indexOf_7cf53_J0_length_8abf5 rfl rfl rfl (by decide +kernel) ⟨Nat.le_of_ble_eq_true rfl, Nat.le_of_ble_eq_true rfl⟩) (roz_pk hK hZ hS hP [] rfl) rfl rfl hl.1 rfl (lv_room (Nat.le_of_ble_eq_true rfl)) dJ0_indexOf_7cf53_14 ⟨Nat.zero_le _, Nat.zero_le _⟩) hS hP (fun r2 H locs hr2 hP hS => ?_)
  subst hr2
  refine ro_calli (va_runS (As := [.ref (vs 0), .int (nI (ch)), .int (nI (0)), .int (nI (5))]) (rest := []) ⟨hx, hb, hml, hown, hts⟩ (c_indexOfL l dC dI cI ks vs ch hc) (va_cwS 4 hts gJ0_indexOf_7cf53_J1_indexOf_4cfef rfl rfl rfl (by decide +kernel) ⟨Nat.le_of_ble_eq_true rfl, Nat.le_of_ble_eq_true rfl⟩) (roz_ps hK hZ hS hP [] rfl) rfl rfl hl.1 rfl (lv_room (Nat.le_of_ble_eq_true rfl)) dJ0_indexOf_7cf53_17 ⟨Nat.zero_le _, Nat.zero_le _⟩) hS hP (fun r3 H locs hr3 hP hS => ?_)
  subst hr3
  refine lv_goto (tgt := 36) hx hb dJ0_indexOf_7cf53_20 (by decide) ?_
  exact W.iret hx hb hr (fun t ht hW => ⟨⟨_, (), rfl, rfl, trivial⟩, hS.F ht⟩) hS.2.2 dJ0_indexOf_7cf53_36

set_option maxHeartbeats 4000000 in
set_option maxRecDepth 100000 in
theorem c_indexOf (l : Launch) (dC : Nat → ClassId) (dI : Nat → Nat → Nat) (cI : ClassId) (ks vs : Nat → Nat) (ch : Nat) (hc : ch < 127) : Met l yJ0_indexOf_0f7a4 wsJ0_indexOf_0f7a4 ({ frames := 3, cells := 0, slots := 0, locals := 85 } : Room) (roPz dC dI cI ks vs ([]) [.ref (ks 0), .int (nI (ch))]) (roI (fun r => r = kc ch)) 0 0 (fun _ => False) := by
  refine Met.ofW (cc := cJ0_indexOf_0f7a4) (maxL := 2) (ret := (some .int)) (by decide) rfl ?_
  intro p e s m args below meth c s₁ B hml hv
  obtain ⟨rfl, hP, hK, hZ⟩ := hv
  have hx := B.exec
  have hb := B.bytes
  have hr := B.returns
  have hts := atoms_spec (ws := wsJ0_indexOf_0f7a4) B.pre
  have hown : s.vm.findClass RJ0 = some m.cls := findClass_of_methodNamed B.named
  have hlocks := B.notSynchronized
  have hS : va_S (fun _ => False) s.heap s.heap [] := va_S.rf
  have hl := lv_entry ([.ref (ks 0), .int (nI (ch))]) (n := 2) (Nat.le_of_ble_eq_true rfl)
  rw [lg_entry_eq]
  generalize (lg_sl ([.ref (ks 0), .int (nI (ch))]) ++ List.replicate (2 - (lg_sl ([.ref (ks 0), .int (nI (ch))])).length) Slot.unset).toArray = ls at hl ⊢
  have hl : lv_has ls 2 [(0, .ref (ks 0)), (1, .int (nI (ch)))] := hl
  refine lv_aload_n hx hb dJ0_indexOf_0f7a4_0 rfl (lv_at hl 0 rfl) ?_
  refine lv_iload_n hx hb dJ0_indexOf_0f7a4_1 rfl (lv_at hl 1 rfl) ?_
  refine lv_iconst (v := nI (0)) hx hb dJ0_indexOf_0f7a4_2 (by decide) ?_
  refine ro_calli (va_runV (As := [.int (nI (ch)), .int (nI (0))]) (rest := []) ⟨hx, hb, hml, hown, hts⟩ (c_indexOf2 l dC dI cI ks vs ch hc) (cwV 2 hts gJ0_indexOf_0f7a4_J0_indexOf_7cf53 rfl rfl rfl (by decide +kernel) ⟨Nat.le_of_ble_eq_true rfl, Nat.le_of_ble_eq_true rfl⟩) (roz_pk hK hZ hS hP [] rfl) rfl rfl hl.1 rfl (lv_room (Nat.le_of_ble_eq_true rfl)) dJ0_indexOf_0f7a4_3 ⟨Nat.zero_le _, Nat.zero_le _⟩) hS hP (fun r1 H locs hr1 hP hS => ?_)
  subst hr1
  exact W.iret hx hb hr (fun t ht hW => ⟨⟨_, (), rfl, rfl, trivial⟩, hS.F ht⟩) hS.2.2 dJ0_indexOf_0f7a4_6

set_option maxHeartbeats 4000000 in
set_option maxRecDepth 100000 in
theorem c_X5_kindOf (l : Launch) (dC : Nat → ClassId) (dI : Nat → Nat → Nat) (cI : ClassId) (ks vs : Nat → Nat) (ch : Nat) (hc : ch < 127) : Met l yX5_kindOf wsX5_kindOf ({ frames := 4, cells := 0, slots := 0, locals := 106 } : Room) (roPz dC dI cI ks vs ([]) [.int (nI (ch))]) (roI (fun r => r = kc ch)) 0 0 (fun _ => False) := by
  refine Met.ofW (cc := cX5_kindOf) (maxL := 1) (ret := (some .int)) (by decide) rfl ?_
  intro p e s m args below meth c s₁ B hml hv
  obtain ⟨rfl, hP, hK, hZ⟩ := hv
  have hx := B.exec
  have hb := B.bytes
  have hr := B.returns
  have hts := atoms_spec (ws := wsX5_kindOf) B.pre
  have hown : s.vm.findClass RX5 = some m.cls := findClass_of_methodNamed B.named
  have hlocks := B.notSynchronized
  have hS : va_S (fun _ => False) s.heap s.heap [] := va_S.rf
  have hl := lv_entry ([.int (nI (ch))]) (n := 1) (Nat.le_of_ble_eq_true rfl)
  rw [lg_entry_eq]
  generalize (lg_sl ([.int (nI (ch))]) ++ List.replicate (1 - (lg_sl ([.int (nI (ch))])).length) Slot.unset).toArray = ls at hl ⊢
  have hl : lv_has ls 1 [(0, .int (nI (ch)))] := hl
  refine va_ldcS hx hb hown hZ.2.2.1 dX5_kindOf_0 ?_
  refine lv_iload_n hx hb dX5_kindOf_2 rfl (lv_at hl 0 rfl) ?_
  refine lv_i2c (v := nI (ch)) hx hb dX5_kindOf_3 (i2c_n (by omega)) ?_
  refine ro_calli (va_runV (As := [.int (nI (ch))]) (rest := []) ⟨hx, hb, hml, hown, hts⟩ (c_indexOf l dC dI cI ks vs ch hc) (cwV 1 hts gX5_kindOf_J0_indexOf_0f7a4 rfl rfl rfl (by decide +kernel) ⟨Nat.le_of_ble_eq_true rfl, Nat.le_of_ble_eq_true rfl⟩) (roz_pk hK hZ hS hP [] rfl) rfl rfl hl.1 rfl (lv_room (Nat.le_of_ble_eq_true rfl)) dX5_kindOf_4 ⟨Nat.zero_le _, Nat.zero_le _⟩) hS hP (fun r1 H locs hr1 hP hS => ?_)
  subst hr1
  exact W.iret hx hb hr (fun t ht hW => ⟨⟨_, (), rfl, rfl, trivial⟩, hS.F ht⟩) hS.2.2 dX5_kindOf_7

set_option maxHeartbeats 4000000 in
set_option maxRecDepth 100000 in
theorem c_X5_fitsSingers (l : Launch) (dC : Nat → ClassId) (dI : Nat → Nat → Nat) (cI : ClassId) (ks vs : Nat → Nat) (ch q_ : Nat) (hc : ch < 127) (hq : q_ ≤ 32) : Met l yX5_fitsSingers wsX5_fitsSingers ({ frames := 5, cells := 0, slots := 0, locals := 126 } : Room) (roPz dC dI cI ks vs ([]) [.int (nI (ch)), .int (nI (q_))]) (roI (fun r => r = bI (rS ch q_))) 0 0 (fun _ => False) := by
  refine Met.ofW (cc := cX5_fitsSingers) (maxL := 4) (ret := (some .boolean)) (by decide) rfl ?_
  intro p e s m args below meth c s₁ B hml hv
  obtain ⟨rfl, hP, hK, hZ⟩ := hv
  have hx := B.exec
  have hb := B.bytes
  have hr := B.returns
  have hts := atoms_spec (ws := wsX5_fitsSingers) B.pre
  have hown : s.vm.findClass RX5 = some m.cls := findClass_of_methodNamed B.named
  have hlocks := B.notSynchronized
  have hS : va_S (fun _ => False) s.heap s.heap [] := va_S.rf
  have hl := lv_entry ([.int (nI (ch)), .int (nI (q_))]) (n := 4) (Nat.le_of_ble_eq_true rfl)
  rw [lg_entry_eq]
  generalize (lg_sl ([.int (nI (ch)), .int (nI (q_))]) ++ List.replicate (4 - (lg_sl ([.int (nI (ch)), .int (nI (q_))])).length) Slot.unset).toArray = ls at hl ⊢
  have hl : lv_has ls 4 [(0, .int (nI (ch))), (1, .int (nI (q_)))] := hl
  refine lv_iload_n hx hb dX5_fitsSingers_0 rfl (lv_at hl 1 rfl) ?_
  refine lv_bipush (v := nI (6)) hx hb dX5_fitsSingers_1 (by decide) ?_
  refine lv_idiv hx hb dX5_fitsSingers_3 (by decide) ?_
  refine tp_i (z := nI (q_ / 6)) (pk_div (by omega) (by decide) (by decide)) ?_
  refine lv_istore_n (lv' := [(2, .int (nI (q_ / 6))), (0, .int (nI (ch))), (1, .int (nI (q_)))]) hx hb dX5_fitsSingers_4 rfl hl (by decide) rfl (fun ls hl => ?_)
  refine lv_iload_n hx hb dX5_fitsSingers_5 rfl (lv_at hl 2 rfl) ?_
  refine lv_bipush (v := nI (6)) hx hb dX5_fitsSingers_6 (by decide) ?_
  refine lv_irem hx hb dX5_fitsSingers_8 (by decide) ?_
  refine tp_i (z := nI (q_ % 6)) (pk_rem (by omega) (by decide) (by decide)) ?_
  refine lv_istore_n (lv' := [(3, .int (nI (q_ % 6))), (2, .int (nI (q_ / 6))), (0, .int (nI (ch))), (1, .int (nI (q_)))]) hx hb dX5_fitsSingers_9 rfl hl (by decide) rfl (fun ls hl => ?_)
  refine lv_iload_n hx hb dX5_fitsSingers_10 rfl (lv_at hl 0 rfl) ?_
  refine lv_if_ne (tgt := 28) hx hb dX5_fitsSingers_11 (by decide) (fun c1 => ?_) (fun c1 => ?_)
  · have c1 := mt (z_eq (by omega)).mpr c1
    refine lv_iload_n hx hb dX5_fitsSingers_28 rfl (lv_at hl 0 rfl) ?_
    refine lv_iconst (v := nI (5)) hx hb dX5_fitsSingers_29 (by decide) ?_
    refine lv_icmp_ge (tgt := 51) hx hb dX5_fitsSingers_30 (by decide) (fun c2 => ?_) (fun c2 => ?_)
    · have c2 := (nI_leI (by decide) (by omega)).mp c2
      refine lv_iload_n hx hb dX5_fitsSingers_51 rfl (lv_at hl 2 rfl) ?_
      refine lv_bipush (v := nI (44)) hx hb dX5_fitsSingers_52 (by decide) ?_
      refine lv_icmp_ne (tgt := 64) hx hb dX5_fitsSingers_54 (by decide) (fun c3 => ?_) (fun c3 => ?_)
      · have c3 := mt (nI_eq (by omega) (by decide)).mpr c3
        refine lv_iload_n hx hb dX5_fitsSingers_64 rfl (lv_at hl 2 rfl) ?_
        refine lv_bipush (v := nI (59)) hx hb dX5_fitsSingers_65 (by decide) ?_
        refine lv_icmp_ne (tgt := 81) hx hb dX5_fitsSingers_67 (by decide) (fun c4 => ?_) (fun c4 => ?_)
        · have c4 := mt (nI_eq (by omega) (by decide)).mpr c4
          refine lv_iconst (v := nI (0)) hx hb dX5_fitsSingers_81 (by decide) ?_
          exact W.zret hx hb hr (by first | rfl | exact bI_nz) (fun t ht hW => ⟨⟨_, (), rfl, (bI_f (fun h => by rcases h with ⟨h1, h2⟩ | ⟨h1, h2, h3, h4⟩ | ⟨h1, h2⟩ <;> first | omega | (exact h2 (by assumption)))).symm, trivial⟩, hS.F ht⟩) hS.2.2 dX5_fitsSingers_82
        · have c4 := (nI_eq (by omega) (by decide)).mp c4
          refine lv_iload_n hx hb dX5_fitsSingers_70 rfl (lv_at hl 1 rfl) ?_
          refine lv_iconst (v := nI (1)) hx hb dX5_fitsSingers_71 (by decide) ?_
          refine lv_iadd hx hb dX5_fitsSingers_72 ?_
          refine tp_i (z := nI (q_ / 6 + 1)) (nI_add (q_ / 6) (1)) ?_
          refine lv_iconst (v := nI (2)) hx hb dX5_fitsSingers_73 (by decide) ?_
          refine lv_icmp_lt (tgt := 81) hx hb dX5_fitsSingers_74 (by decide) (fun c5 => ?_) (fun c5 => ?_)
          · have c5 := (nI_ltI (by omega) (by decide)).mp c5
            refine lv_iconst (v := nI (0)) hx hb dX5_fitsSingers_81 (by decide) ?_
            exact W.zret hx hb hr (by first | rfl | exact bI_nz) (fun t ht hW => ⟨⟨_, (), rfl, (bI_f (fun h => by rcases h with ⟨h1, h2⟩ | ⟨h1, h2, h3, h4⟩ | ⟨h1, h2⟩ <;> first | omega | (exact h2 (by assumption)))).symm, trivial⟩, hS.F ht⟩) hS.2.2 dX5_fitsSingers_82
          · have c5 := mt (nI_ltI (by omega) (by decide)).mpr c5
            refine lv_iconst (v := nI (1)) hx hb dX5_fitsSingers_77 (by decide) ?_
            refine lv_goto (tgt := 82) hx hb dX5_fitsSingers_78 (by decide) ?_
            exact W.zret hx hb hr (by first | rfl | exact bI_nz) (fun t ht hW => ⟨⟨_, (), rfl, (bI_t (by first | exact Or.inl ⟨by omega, by assumption⟩ | exact Or.inr (Or.inl ⟨by omega, by omega, by omega, by omega⟩) | exact Or.inr (Or.inr ⟨by omega, by omega⟩))).symm, trivial⟩, hS.F ht⟩) hS.2.2 dX5_fitsSingers_82
      · have c3 := (nI_eq (by omega) (by decide)).mp c3
        refine lv_iload_n hx hb dX5_fitsSingers_57 rfl (lv_at hl 1 rfl) ?_
        refine lv_iconst (v := nI (1)) hx hb dX5_fitsSingers_58 (by decide) ?_
        refine lv_iadd hx hb dX5_fitsSingers_59 ?_
        refine tp_i (z := nI (q_ / 6 + 1)) (nI_add (q_ / 6) (1)) ?_
        refine lv_iconst (v := nI (4)) hx hb dX5_fitsSingers_60 (by decide) ?_
        refine lv_icmp_lt (tgt := 77) hx hb dX5_fitsSingers_61 (by decide) (fun c6 => ?_) (fun c6 => ?_)
        · have c6 := (nI_ltI (by omega) (by decide)).mp c6
          refine lv_iconst (v := nI (1)) hx hb dX5_fitsSingers_77 (by decide) ?_
          refine lv_goto (tgt := 82) hx hb dX5_fitsSingers_78 (by decide) ?_
          exact W.zret hx hb hr (by first | rfl | exact bI_nz) (fun t ht hW => ⟨⟨_, (), rfl, (bI_t (by first | exact Or.inl ⟨by omega, by assumption⟩ | exact Or.inr (Or.inl ⟨by omega, by omega, by omega, by omega⟩) | exact Or.inr (Or.inr ⟨by omega, by omega⟩))).symm, trivial⟩, hS.F ht⟩) hS.2.2 dX5_fitsSingers_82
        · have c6 := mt (nI_ltI (by omega) (by decide)).mpr c6
          refine lv_iload_n hx hb dX5_fitsSingers_64 rfl (lv_at hl 2 rfl) ?_
          refine lv_bipush (v := nI (59)) hx hb dX5_fitsSingers_65 (by decide) ?_
          refine lv_icmp_ne (tgt := 81) hx hb dX5_fitsSingers_67 (by decide) (fun c7 => ?_) (fun c7 => ?_)
          · have c7 := mt (nI_eq (by omega) (by decide)).mpr c7
            refine lv_iconst (v := nI (0)) hx hb dX5_fitsSingers_81 (by decide) ?_
            exact W.zret hx hb hr (by first | rfl | exact bI_nz) (fun t ht hW => ⟨⟨_, (), rfl, (bI_f (fun h => by rcases h with ⟨h1, h2⟩ | ⟨h1, h2, h3, h4⟩ | ⟨h1, h2⟩ <;> first | omega | (exact h2 (by assumption)))).symm, trivial⟩, hS.F ht⟩) hS.2.2 dX5_fitsSingers_82
          · have c7 := (nI_eq (by omega) (by decide)).mp c7
            refine lv_iload_n hx hb dX5_fitsSingers_70 rfl (lv_at hl 1 rfl) ?_
            refine lv_iconst (v := nI (1)) hx hb dX5_fitsSingers_71 (by decide) ?_
            refine lv_iadd hx hb dX5_fitsSingers_72 ?_
            refine tp_i (z := nI (q_ / 6 + 1)) (nI_add (q_ / 6) (1)) ?_
            refine lv_iconst (v := nI (2)) hx hb dX5_fitsSingers_73 (by decide) ?_
            refine lv_icmp_lt (tgt := 81) hx hb dX5_fitsSingers_74 (by decide) (fun c8 => ?_) (fun c8 => ?_)
            · have c8 := (nI_ltI (by omega) (by decide)).mp c8
              refine lv_iconst (v := nI (0)) hx hb dX5_fitsSingers_81 (by decide) ?_
              exact W.zret hx hb hr (by first | rfl | exact bI_nz) (fun t ht hW => ⟨⟨_, (), rfl, (bI_f (fun h => by rcases h with ⟨h1, h2⟩ | ⟨h1, h2, h3, h4⟩ | ⟨h1, h2⟩ <;> first | omega | (exact h2 (by assumption)))).symm, trivial⟩, hS.F ht⟩) hS.2.2 dX5_fitsSingers_82
            · have c8 := mt (nI_ltI (by omega) (by decide)).mpr c8
              refine lv_iconst (v := nI (1)) hx hb dX5_fitsSingers_77 (by decide) ?_
              refine lv_goto (tgt := 82) hx hb dX5_fitsSingers_78 (by decide) ?_
              exact W.zret hx hb hr (by first | rfl | exact bI_nz) (fun t ht hW => ⟨⟨_, (), rfl, (bI_t (by first | exact Or.inl ⟨by omega, by assumption⟩ | exact Or.inr (Or.inl ⟨by omega, by omega, by omega, by omega⟩) | exact Or.inr (Or.inr ⟨by omega, by omega⟩))).symm, trivial⟩, hS.F ht⟩) hS.2.2 dX5_fitsSingers_82
    · have c2 := mt (nI_leI (by decide) (by omega)).mpr c2
      refine lv_iload_n hx hb dX5_fitsSingers_33 rfl (lv_at hl 2 rfl) ?_
      refine lv_bipush (v := nI (48)) hx hb dX5_fitsSingers_34 (by decide) ?_
      refine lv_icmp_lt (tgt := 49) hx hb dX5_fitsSingers_36 (by decide) (fun c9 => ?_) (fun c9 => ?_)
      · have c9 := (nI_ltI (by omega) (by decide)).mp c9
        refine lv_iconst (v := nI (0)) hx hb dX5_fitsSingers_49 (by decide) ?_
        exact W.zret hx hb hr (by first | rfl | exact bI_nz) (fun t ht hW => ⟨⟨_, (), rfl, (bI_f (fun h => by rcases h with ⟨h1, h2⟩ | ⟨h1, h2, h3, h4⟩ | ⟨h1, h2⟩ <;> first | omega | (exact h2 (by assumption)))).symm, trivial⟩, hS.F ht⟩) hS.2.2 dX5_fitsSingers_50
      · have c9 := mt (nI_ltI (by omega) (by decide)).mpr c9
        refine lv_iload_n hx hb dX5_fitsSingers_39 rfl (lv_at hl 2 rfl) ?_
        refine lv_bipush (v := nI (57)) hx hb dX5_fitsSingers_40 (by decide) ?_
        refine lv_icmp_gt (tgt := 49) hx hb dX5_fitsSingers_42 (by decide) (fun c10 => ?_) (fun c10 => ?_)
        · have c10 := (nI_ltI (by decide) (by omega)).mp c10
          refine lv_iconst (v := nI (0)) hx hb dX5_fitsSingers_49 (by decide) ?_
          exact W.zret hx hb hr (by first | rfl | exact bI_nz) (fun t ht hW => ⟨⟨_, (), rfl, (bI_f (fun h => by rcases h with ⟨h1, h2⟩ | ⟨h1, h2, h3, h4⟩ | ⟨h1, h2⟩ <;> first | omega | (exact h2 (by assumption)))).symm, trivial⟩, hS.F ht⟩) hS.2.2 dX5_fitsSingers_50
        · have c10 := mt (nI_ltI (by decide) (by omega)).mpr c10
          refine lv_iconst (v := nI (1)) hx hb dX5_fitsSingers_45 (by decide) ?_
          refine lv_goto (tgt := 50) hx hb dX5_fitsSingers_46 (by decide) ?_
          exact W.zret hx hb hr (by first | rfl | exact bI_nz) (fun t ht hW => ⟨⟨_, (), rfl, (bI_t (by first | exact Or.inl ⟨by omega, by assumption⟩ | exact Or.inr (Or.inl ⟨by omega, by omega, by omega, by omega⟩) | exact Or.inr (Or.inr ⟨by omega, by omega⟩))).symm, trivial⟩, hS.F ht⟩) hS.2.2 dX5_fitsSingers_50
  · have c1 := (z_eq (by omega)).mp c1
    refine lv_iload_n hx hb dX5_fitsSingers_14 rfl (lv_at hl 2 rfl) ?_
    refine ro_calli (va_runS (As := [.int (nI (ch))]) (rest := []) ⟨hx, hb, hml, hown, hts⟩ (c_X5_kindOf l dC dI cI ks vs (ch) (by omega)) (va_cwS 1 hts gX5_fitsSingers_X5_kindOf rfl rfl rfl (by decide +kernel) ⟨Nat.le_of_ble_eq_true rfl, Nat.le_of_ble_eq_true rfl⟩) (roz_ps hK hZ hS hP [] rfl) rfl rfl hl.1 rfl (lv_room (Nat.le_of_ble_eq_true rfl)) dX5_fitsSingers_15 ⟨Nat.zero_le _, Nat.zero_le _⟩) hS hP (fun r11 H locs hr11 hP hS => ?_)
    subst hr11
    refine lv_iconst (v := -1) hx hb dX5_fitsSingers_18 (by decide) ?_
    refine lv_icmp_eq (tgt := 26) hx hb dX5_fitsSingers_19 (by decide) (fun c12 => ?_) (fun c12 => ?_)
    · refine lv_iconst (v := nI (0)) hx hb dX5_fitsSingers_26 (by decide) ?_
      exact W.zret hx hb hr (by first | rfl | exact bI_nz) (fun t ht hW => ⟨⟨_, (), rfl, (bI_f (fun h => by rcases h with ⟨h1, h2⟩ | ⟨h1, h2, h3, h4⟩ | ⟨h1, h2⟩ <;> first | omega | (exact h2 (by assumption)))).symm, trivial⟩, hS.F ht⟩) hS.2.2 dX5_fitsSingers_27
    · refine lv_iconst (v := nI (1)) hx hb dX5_fitsSingers_22 (by decide) ?_
      refine lv_goto (tgt := 27) hx hb dX5_fitsSingers_23 (by decide) ?_
      exact W.zret hx hb hr (by first | rfl | exact bI_nz) (fun t ht hW => ⟨⟨_, (), rfl, (bI_t (by first | exact Or.inl ⟨by omega, by assumption⟩ | exact Or.inr (Or.inl ⟨by omega, by omega, by omega, by omega⟩) | exact Or.inr (Or.inr ⟨by omega, by omega⟩))).symm, trivial⟩, hS.F ht⟩) hS.2.2 dX5_fitsSingers_27

set_option maxHeartbeats 4000000 in
set_option maxRecDepth 100000 in
theorem c_X5_kindAt (l : Launch) (dC : Nat → ClassId) (dI : Nat → Nat → Nat) (cI : ClassId) (ks vs : Nat → Nat) (a : Nat → Nat) (pg : Nat → Nat) (len : Nat) (hlen : len ≤ 32) (hpc : ∀ i, i < len → 1 ≤ pg i ∧ pg i < 127) (i_ : Nat) (hi : i_ < len) : Met l yX5_kindAt wsX5_kindAt ({ frames := 5, cells := 0, slots := 0, locals := 126 } : Room) (roPz dC dI cI ks vs (pgW cI a pg len) [.ref (a 0), .int (nI (i_))]) (roI (fun r => r = kc (pg i_))) 0 0 (fun _ => False) := by
  refine Met.ofW (cc := cX5_kindAt) (maxL := 2) (ret := (some .int)) (by decide) rfl ?_
  intro p e s m args below meth c s₁ B hml hv
  obtain ⟨rfl, hP, hK, hZ⟩ := hv
  have hx := B.exec
  have hb := B.bytes
  have hr := B.returns
  have hts := atoms_spec (ws := wsX5_kindAt) B.pre
  have hown : s.vm.findClass RX5 = some m.cls := findClass_of_methodNamed B.named
  have hlocks := B.notSynchronized
  have hS : va_S (fun _ => False) s.heap s.heap [] := va_S.rf
  have hl := lv_entry ([.ref (a 0), .int (nI (i_))]) (n := 2) (Nat.le_of_ble_eq_true rfl)
  rw [lg_entry_eq]
  generalize (lg_sl ([.ref (a 0), .int (nI (i_))]) ++ List.replicate (2 - (lg_sl ([.ref (a 0), .int (nI (i_))])).length) Slot.unset).toArray = ls at hl ⊢
  have hl : lv_has ls 2 [(0, .ref (a 0)), (1, .int (nI (i_)))] := hl
  have hp1 := (hpc i_ hi).2
  refine lv_aload_n hx hb dX5_kindAt_0 rfl (lv_at hl 0 rfl) ?_
  refine lv_iload_n hx hb dX5_kindAt_1 rfl (lv_at hl 1 rfl) ?_
  refine ro_calli (va_runV (As := [.int (nI (i_))]) (rest := []) ⟨hx, hb, hml, hown, hts⟩ (c_X5_codeAt l dC dI cI a pg len hlen (i_) (by omega)) (cwV 1 hts gX5_kindAt_X5_codeAt rfl rfl rfl (by decide +kernel) ⟨Nat.le_of_ble_eq_true rfl, Nat.le_of_ble_eq_true rfl⟩) (ro_pv hK hP [0, 1] rfl (ci := 5) (q0 := 0) (C := RX5) (T := TX5) (N := 2) rfl rfl) rfl rfl hl.1 rfl (lv_room (Nat.le_of_ble_eq_true rfl)) dX5_kindAt_2 ⟨Nat.zero_le _, Nat.zero_le _⟩) hS hP (fun r1 H locs hr1 hP hS => ?_)
  subst hr1
  refine ro_calli (va_runS (As := [.int (nI (pg i_))]) (rest := []) ⟨hx, hb, hml, hown, hts⟩ (c_X5_kindOf l dC dI cI ks vs (pg i_) (by omega)) (va_cwS 1 hts gX5_kindAt_X5_kindOf rfl rfl rfl (by decide +kernel) ⟨Nat.le_of_ble_eq_true rfl, Nat.le_of_ble_eq_true rfl⟩) (roz_ps hK hZ hS hP [] rfl) rfl rfl hl.1 rfl (lv_room (Nat.le_of_ble_eq_true rfl)) dX5_kindAt_5 ⟨Nat.zero_le _, Nat.zero_le _⟩) hS hP (fun r2 H locs hr2 hP hS => ?_)
  subst hr2
  exact W.iret hx hb hr (fun t ht hW => ⟨⟨_, (), rfl, rfl, trivial⟩, hS.F ht⟩) hS.2.2 dX5_kindAt_8

set_option maxHeartbeats 4000000 in
set_option maxRecDepth 100000 in
theorem c_X5_firstWrong (l : Launch) (dC : Nat → ClassId) (dI : Nat → Nat → Nat) (cI : ClassId) (ks vs : Nat → Nat) (a : Nat → Nat) (pg : Nat → Nat) (len : Nat) (hlen : len ≤ 32) (hpc : ∀ i, i < len → 1 ≤ pg i ∧ pg i < 127) : Met l yX5_firstWrong wsX5_firstWrong ({ frames := 6, cells := 0, slots := 0, locals := 149 } : Room) (roPz dC dI cI ks vs (pgW cI a pg len) [.ref (a 0)]) (roI (fun r => r = nI (fw pg len))) 0 0 (fun _ => False) := by
  refine Met.ofW (cc := cX5_firstWrong) (maxL := 5) (ret := (some .int)) (by decide) rfl ?_
  intro p e s m args below meth c s₁ B hml hv
  obtain ⟨rfl, hP, hK, hZ⟩ := hv
  have hx := B.exec
  have hb := B.bytes
  have hr := B.returns
  have hts := atoms_spec (ws := wsX5_firstWrong) B.pre
  have hown : s.vm.findClass RX5 = some m.cls := findClass_of_methodNamed B.named
  have hlocks := B.notSynchronized
  have hS : va_S (fun _ => False) s.heap s.heap [] := va_S.rf
  have hl := lv_entry ([.ref (a 0)]) (n := 5) (Nat.le_of_ble_eq_true rfl)
  rw [lg_entry_eq]
  generalize (lg_sl ([.ref (a 0)]) ++ List.replicate (5 - (lg_sl ([.ref (a 0)])).length) Slot.unset).toArray = ls at hl ⊢
  have hl : lv_has ls 5 [(0, .ref (a 0))] := hl
  refine W_abs (fun G hG => ?_)
  have L4 : ∀ (fu : Nat) (i : Nat), i ≤ len → fw pg i = i → len + 1 ≤ i + fu → ∀ (H : Heap) (locs : List Loc), va_P (dC, dI) vwCl [((a 0), .inr (5, [.ref (a 1), .int (nI (len))])), ((a 1), .inl (cI, 32, .inl (fun ii => nI (pg ii))))] H → va_S (fun _ => False) s.heap H locs → ∀ (ls : Array Slot), lv_has ls 5 [(0, .ref (a 0)), (1, .int (eN pg i)), (2, .int (nI (i)))] → G H locs (F0 m 4 ls []) := by
    intro fu
    induction fu with
    | zero => intro i h2 h3 hfu H locs hP hS ls hl; omega
    | succ fu ih =>
      intro i h2 h3 hfu H locs hP hS ls hl
      refine (hG _ _ _).mpr ?_
      have hpi : i < len → pg i < 127 := fun q => (hpc i q).2
      refine lv_iload_n hx hb dX5_firstWrong_4 rfl (lv_at hl 2 rfl) ?_
      refine lv_aload_n hx hb dX5_firstWrong_5 rfl (lv_at hl 0 rfl) ?_
      refine va_get (D := (dC, dI)) (ci := 5) (v := .int (nI (len))) (C := RX5) (T := TX5) (N := 2) hx hb hts (fun _ h => List.mem_cons_of_mem _ (List.mem_append_right _ (h))) hown hK.1 hP 0 rfl rfl 1 (by decide) (hts (Cond.fieldLink RX5 15 "WorstVoice$Page" "length" "I") (List.mem_of_getElem? (i := 1) rfl)) (fun _ h9 => h9) rfl dX5_firstWrong_6 ?_
      refine lv_icmp_ge (tgt := 61) hx hb dX5_firstWrong_9 (by decide) (fun c1 => ?_) (fun c1 => ?_)
      · have c1 := (nI_leI (by omega) (by omega)).mp c1
        refine lv_aload_n hx hb dX5_firstWrong_61 rfl (lv_at hl 0 rfl) ?_
        refine va_get (D := (dC, dI)) (ci := 5) (v := .int (nI (len))) (C := RX5) (T := TX5) (N := 2) hx hb hts (fun _ h => List.mem_cons_of_mem _ (List.mem_append_right _ (h))) hown hK.1 hP 0 rfl rfl 1 (by decide) (hts (Cond.fieldLink RX5 15 "WorstVoice$Page" "length" "I") (List.mem_of_getElem? (i := 1) rfl)) (fun _ h9 => h9) rfl dX5_firstWrong_62 ?_
        exact W.iret hx hb hr (fun t ht hW => ⟨⟨_, (), rfl, (by rw [show i = len by omega] at h3; rw [h3]), trivial⟩, hS.F ht⟩) hS.2.2 dX5_firstWrong_65
      · have c1 := mt (nI_leI (by omega) (by omega)).mpr c1
        refine lv_aload_n hx hb dX5_firstWrong_12 rfl (lv_at hl 0 rfl) ?_
        refine lv_iload_n hx hb dX5_firstWrong_13 rfl (lv_at hl 2 rfl) ?_
        refine ro_calli (va_runV (As := [.int (nI (i))]) (rest := []) ⟨hx, hb, hml, hown, hts⟩ (c_X5_codeAt l dC dI cI a pg len hlen (i) (by omega)) (cwV 1 hts gX5_firstWrong_X5_codeAt rfl rfl rfl (by decide +kernel) ⟨Nat.le_of_ble_eq_true rfl, Nat.le_of_ble_eq_true rfl⟩) (ro_pv hK hP [0, 1] rfl (ci := 5) (q0 := 0) (C := RX5) (T := TX5) (N := 2) rfl rfl) rfl rfl hl.1 rfl (lv_room (Nat.le_of_ble_eq_true rfl)) dX5_firstWrong_14 ⟨Nat.zero_le _, Nat.zero_le _⟩) hS hP (fun r2 H locs hr2 hP hS => ?_)
        subst hr2
        refine lv_istore_n (lv' := [(3, .int (nI (pg i))), (0, .ref (a 0)), (1, .int (eN pg i)), (2, .int (nI (i)))]) hx hb dX5_firstWrong_17 rfl hl (by decide) rfl (fun ls hl => ?_)
        refine lv_iload_n hx hb dX5_firstWrong_18 rfl (lv_at hl 2 rfl) ?_
        refine lv_iconst (v := -1) hx hb dX5_firstWrong_19 (by decide) ?_
        refine lv_icmp_ne (tgt := 31) hx hb dX5_firstWrong_20 (by decide) (fun c3 => ?_) (fun c3 => ?_)
        · have c3 := eN_n c3
          have hsl := se_le pg i
          refine lv_iload_n hx hb dX5_firstWrong_31 rfl (lv_at hl 0 rfl) ?_
          refine lv_iload_n hx hb dX5_firstWrong_32 rfl (lv_at hl 3 rfl) ?_
          refine lv_iload_n hx hb dX5_firstWrong_33 rfl (lv_at hl 2 rfl) ?_
          refine lv_isub hx hb dX5_firstWrong_34 ?_
          refine tp_i (z := nI (i - se pg i)) (by rw [eN_v (by assumption)]; exact pk_sub (by omega)) ?_
          refine ro_calli (va_runS (As := [.int (nI (pg i)), .int (nI (i - se pg i))]) (rest := []) ⟨hx, hb, hml, hown, hts⟩ (c_X5_fitsWidows l dC dI cI (pg i) (i - se pg i) (by omega) (by omega)) (va_cwS 2 hts gX5_firstWrong_X5_fitsWidows rfl rfl rfl (by decide +kernel) ⟨Nat.le_of_ble_eq_true rfl, Nat.le_of_ble_eq_true rfl⟩) (ro_ps hK hP [] rfl) rfl rfl hl.1 rfl (lv_room (Nat.le_of_ble_eq_true rfl)) dX5_firstWrong_35 ⟨Nat.zero_le _, Nat.zero_le _⟩) hS hP (fun r4 H locs hr4 hP hS => ?_)
          subst hr4
          refine tp_i (z := bI (rt pg i)) (bI_i ⟨fun h => Or.inr ⟨by omega, h⟩, fun h => h.elim (fun q => absurd q.1 (by assumption)) (fun q => q.2)⟩) ?_
          refine lv_istore (lv' := [(4, .int (bI (rt pg i))), (3, .int (nI (pg i))), (0, .ref (a 0)), (1, .int (eN pg i)), (2, .int (nI (i)))]) hx hb dX5_firstWrong_38 hl (by decide) rfl (fun ls hl => ?_)
          refine lv_iload hx hb dX5_firstWrong_40 (lv_at hl 0 rfl) ?_
          refine lv_if_ne (tgt := 47) hx hb dX5_firstWrong_42 (by decide) (fun c5 => ?_) (fun c5 => ?_)
          · have c5 := Decidable.not_not.mp (mt bI_0.mpr c5)
            refine lv_iload_n hx hb dX5_firstWrong_47 rfl (lv_at hl 1 rfl) ?_
            refine lv_bipush (v := nI (59)) hx hb dX5_firstWrong_48 (by decide) ?_
            refine lv_icmp_ne (tgt := 55) hx hb dX5_firstWrong_50 (by decide) (fun c6 => ?_) (fun c6 => ?_)
            · have c6 := mt (nI_eq (by omega) (by decide)).mpr c6
              refine lv_iinc (v := nI (i + 1)) (lv' := [(2, .int (nI (i + 1))), (4, .int (bI (rt pg i))), (3, .int (nI (pg i))), (0, .ref (a 0)), (1, .int (eN pg i))]) hx hb dX5_firstWrong_55 hl (k := 4) rfl (nI_add (i) 1) (by decide) rfl (fun ls hl => ?_)
              refine lv_goto (tgt := 4) hx hb dX5_firstWrong_58 (by decide) ?_
              exact (hG _ _ _).mp (ih (i + 1) (by omega) (fw_y h3 (by assumption)) (by omega) _ _ hP hS _ (by rw [eN_sn (by assumption)]; exact lv_sub hl [3, 4, 0] rfl))
            · have c6 := (nI_eq (by omega) (by decide)).mp c6
              refine lv_iload_n hx hb dX5_firstWrong_53 rfl (lv_at hl 4 rfl) ?_
              refine lv_istore_n (lv' := [(1, .int (nI (i))), (4, .int (bI (rt pg i))), (3, .int (nI (pg i))), (0, .ref (a 0)), (2, .int (nI (i)))]) hx hb dX5_firstWrong_54 rfl hl (by decide) rfl (fun ls hl => ?_)
              refine lv_iinc (v := nI (i + 1)) (lv' := [(2, .int (nI (i + 1))), (1, .int (nI (i))), (4, .int (bI (rt pg i))), (3, .int (nI (pg i))), (0, .ref (a 0))]) hx hb dX5_firstWrong_55 hl (k := 4) rfl (nI_add (i) 1) (by decide) rfl (fun ls hl => ?_)
              refine lv_goto (tgt := 4) hx hb dX5_firstWrong_58 (by decide) ?_
              exact (hG _ _ _).mp (ih (i + 1) (by omega) (fw_y h3 (by assumption)) (by omega) _ _ hP hS _ (by rw [eN_s59 (by assumption) (by assumption)]; exact lv_sub hl [4, 1, 0] rfl))
          · have c5 := bI_0.mp c5
            refine lv_iload_n hx hb dX5_firstWrong_45 rfl (lv_at hl 4 rfl) ?_
            exact W.iret hx hb hr (fun t ht hW => ⟨⟨_, (), rfl, (by rw [fw_stop h3 (by assumption) len (by omega)]), trivial⟩, hS.F ht⟩) hS.2.2 dX5_firstWrong_46
        · have c3 := eN_y (by omega) c3
          refine lv_iload_n hx hb dX5_firstWrong_23 rfl (lv_at hl 0 rfl) ?_
          refine lv_iload_n hx hb dX5_firstWrong_24 rfl (lv_at hl 3 rfl) ?_
          refine ro_calli (va_runS (As := [.int (nI (pg i)), .int (nI (i))]) (rest := []) ⟨hx, hb, hml, hown, hts⟩ (c_X5_fitsSingers l dC dI cI ks vs (pg i) (i) (by omega) (by omega)) (va_cwS 2 hts gX5_firstWrong_X5_fitsSingers rfl rfl rfl (by decide +kernel) ⟨Nat.le_of_ble_eq_true rfl, Nat.le_of_ble_eq_true rfl⟩) (roz_ps hK hZ hS hP [] rfl) rfl rfl hl.1 rfl (lv_room (Nat.le_of_ble_eq_true rfl)) dX5_firstWrong_25 ⟨Nat.zero_le _, Nat.zero_le _⟩) hS hP (fun r7 H locs hr7 hP hS => ?_)
          subst hr7
          refine lv_goto (tgt := 38) hx hb dX5_firstWrong_28 (by decide) ?_
          refine tp_i (z := bI (rt pg i)) (bI_i ⟨fun h => Or.inl ⟨by assumption, h⟩, fun h => h.elim (fun q => q.2) (fun q => absurd q.1 (by omega))⟩) ?_
          refine lv_istore (lv' := [(4, .int (bI (rt pg i))), (3, .int (nI (pg i))), (0, .ref (a 0)), (1, .int (eN pg i)), (2, .int (nI (i)))]) hx hb dX5_firstWrong_38 hl (by decide) rfl (fun ls hl => ?_)
          refine lv_iload hx hb dX5_firstWrong_40 (lv_at hl 0 rfl) ?_
          refine lv_if_ne (tgt := 47) hx hb dX5_firstWrong_42 (by decide) (fun c8 => ?_) (fun c8 => ?_)
          · have c8 := Decidable.not_not.mp (mt bI_0.mpr c8)
            refine lv_iload_n hx hb dX5_firstWrong_47 rfl (lv_at hl 1 rfl) ?_
            refine lv_bipush (v := nI (59)) hx hb dX5_firstWrong_48 (by decide) ?_
            refine lv_icmp_ne (tgt := 55) hx hb dX5_firstWrong_50 (by decide) (fun c9 => ?_) (fun c9 => ?_)
            · have c9 := mt (nI_eq (by omega) (by decide)).mpr c9
              refine lv_iinc (v := nI (i + 1)) (lv' := [(2, .int (nI (i + 1))), (4, .int (bI (rt pg i))), (3, .int (nI (pg i))), (0, .ref (a 0)), (1, .int (eN pg i))]) hx hb dX5_firstWrong_55 hl (k := 4) rfl (nI_add (i) 1) (by decide) rfl (fun ls hl => ?_)
              refine lv_goto (tgt := 4) hx hb dX5_firstWrong_58 (by decide) ?_
              exact (hG _ _ _).mp (ih (i + 1) (by omega) (fw_y h3 (by assumption)) (by omega) _ _ hP hS _ (by rw [eN_sn (by assumption)]; exact lv_sub hl [3, 4, 0] rfl))
            · have c9 := (nI_eq (by omega) (by decide)).mp c9
              refine lv_iload_n hx hb dX5_firstWrong_53 rfl (lv_at hl 4 rfl) ?_
              refine lv_istore_n (lv' := [(1, .int (nI (i))), (4, .int (bI (rt pg i))), (3, .int (nI (pg i))), (0, .ref (a 0)), (2, .int (nI (i)))]) hx hb dX5_firstWrong_54 rfl hl (by decide) rfl (fun ls hl => ?_)
              refine lv_iinc (v := nI (i + 1)) (lv' := [(2, .int (nI (i + 1))), (1, .int (nI (i))), (4, .int (bI (rt pg i))), (3, .int (nI (pg i))), (0, .ref (a 0))]) hx hb dX5_firstWrong_55 hl (k := 4) rfl (nI_add (i) 1) (by decide) rfl (fun ls hl => ?_)
              refine lv_goto (tgt := 4) hx hb dX5_firstWrong_58 (by decide) ?_
              exact (hG _ _ _).mp (ih (i + 1) (by omega) (fw_y h3 (by assumption)) (by omega) _ _ hP hS _ (by rw [eN_s59 (by assumption) (by assumption)]; exact lv_sub hl [4, 1, 0] rfl))
          · have c8 := bI_0.mp c8
            refine lv_iload_n hx hb dX5_firstWrong_45 rfl (lv_at hl 4 rfl) ?_
            exact W.iret hx hb hr (fun t ht hW => ⟨⟨_, (), rfl, (by rw [fw_stop h3 (by assumption) len (by omega)]), trivial⟩, hS.F ht⟩) hS.2.2 dX5_firstWrong_46
  refine (hG _ _ _).mpr ?_
  refine lv_iconst (v := -1) hx hb dX5_firstWrong_0 (by decide) ?_
  refine lv_istore_n (lv' := [(1, .int (-1)), (0, .ref (a 0))]) hx hb dX5_firstWrong_1 rfl hl (by decide) rfl (fun ls hl => ?_)
  refine lv_iconst (v := nI (0)) hx hb dX5_firstWrong_2 (by decide) ?_
  refine lv_istore_n (lv' := [(2, .int (nI (0))), (1, .int (-1)), (0, .ref (a 0))]) hx hb dX5_firstWrong_3 rfl hl (by decide) rfl (fun ls hl => ?_)
  exact (hG _ _ _).mp (L4 (len + 1) (0) (by omega) rfl (by omega) _ _ hP hS _ (lv_sub hl [2, 1, 0] rfl))

set_option maxHeartbeats 4000000 in
set_option maxRecDepth 100000 in
theorem c_X5_isWhole (l : Launch) (dC : Nat → ClassId) (dI : Nat → Nat → Nat) (cI : ClassId) (ks vs : Nat → Nat) (a : Nat → Nat) (pg : Nat → Nat) (len : Nat) (hlen : len ≤ 32) (hpc : ∀ i, i < len → 1 ≤ pg i ∧ pg i < 127) : Met l yX5_isWhole wsX5_isWhole ({ frames := 7, cells := 0, slots := 0, locals := 173 } : Room) (roPz dC dI cI ks vs (pgW cI a pg len) [.ref (a 0)]) (roI (fun r => r = bI (whl pg len))) 0 0 (fun _ => False) := by
  refine Met.ofW (cc := cX5_isWhole) (maxL := 1) (ret := (some .boolean)) (by decide) rfl ?_
  intro p e s m args below meth c s₁ B hml hv
  obtain ⟨rfl, hP, hK, hZ⟩ := hv
  have hx := B.exec
  have hb := B.bytes
  have hr := B.returns
  have hts := atoms_spec (ws := wsX5_isWhole) B.pre
  have hown : s.vm.findClass RX5 = some m.cls := findClass_of_methodNamed B.named
  have hlocks := B.notSynchronized
  have hS : va_S (fun _ => False) s.heap s.heap [] := va_S.rf
  have hl := lv_entry ([.ref (a 0)]) (n := 1) (Nat.le_of_ble_eq_true rfl)
  rw [lg_entry_eq]
  generalize (lg_sl ([.ref (a 0)]) ++ List.replicate (1 - (lg_sl ([.ref (a 0)])).length) Slot.unset).toArray = ls at hl ⊢
  have hl : lv_has ls 1 [(0, .ref (a 0))] := hl
  have hf1 := fw_le pg len
  have hs1 := se_le pg len
  have hm1 := m1_toInt (k := len) (by omega)
  refine lv_aload_n hx hb dX5_isWhole_0 rfl (lv_at hl 0 rfl) ?_
  refine ro_calli (va_runV (As := []) (rest := []) ⟨hx, hb, hml, hown, hts⟩ (c_X5_firstWrong l dC dI cI ks vs a pg len hlen hpc) (cwV 0 hts gX5_isWhole_X5_firstWrong rfl rfl rfl (by decide +kernel) ⟨Nat.le_of_ble_eq_true rfl, Nat.le_of_ble_eq_true rfl⟩) (roz_pv hK hZ hS hP [0, 1] rfl (ci := 5) (q0 := 0) (C := RX5) (T := TX5) (N := 2) rfl rfl) rfl rfl hl.1 rfl (lv_room (Nat.le_of_ble_eq_true rfl)) dX5_isWhole_1 ⟨Nat.zero_le _, Nat.zero_le _⟩) hS hP (fun r1 H locs hr1 hP hS => ?_)
  subst hr1
  refine lv_aload_n hx hb dX5_isWhole_4 rfl (lv_at hl 0 rfl) ?_
  refine va_get (D := (dC, dI)) (ci := 5) (v := .int (nI (len))) (C := RX5) (T := TX5) (N := 2) hx hb hts (fun _ h => List.mem_cons_of_mem _ (List.mem_append_right _ (h))) hown hK.1 hP 0 rfl rfl 1 (by decide) (hts (Cond.fieldLink RX5 15 "WorstVoice$Page" "length" "I") (List.mem_of_getElem? (i := 1) rfl)) (fun _ h9 => h9) rfl dX5_isWhole_5 ?_
  refine lv_icmp_ne (tgt := 28) hx hb dX5_isWhole_8 (by decide) (fun c2 => ?_) (fun c2 => ?_)
  · have c2 := mt (nI_eq (by omega) (by omega)).mpr c2
    refine lv_iconst (v := nI (0)) hx hb dX5_isWhole_28 (by decide) ?_
    exact W.zret hx hb hr (by first | rfl | exact bI_nz) (fun t ht hW => ⟨⟨_, (), rfl, (bI_f (fun h => by have h1 := h.1; have h2 := h.2; omega)).symm, trivial⟩, hS.F ht⟩) hS.2.2 dX5_isWhole_29
  · have c2 := (nI_eq (by omega) (by omega)).mp c2
    refine lv_aload_n hx hb dX5_isWhole_11 rfl (lv_at hl 0 rfl) ?_
    refine ro_calli (va_runV (As := []) (rest := []) ⟨hx, hb, hml, hown, hts⟩ (c_X5_singersEnd l dC dI cI a pg len hlen hpc) (cwV 0 hts gX5_isWhole_X5_singersEnd rfl rfl rfl (by decide +kernel) ⟨Nat.le_of_ble_eq_true rfl, Nat.le_of_ble_eq_true rfl⟩) (ro_pv hK hP [0, 1] rfl (ci := 5) (q0 := 0) (C := RX5) (T := TX5) (N := 2) rfl rfl) rfl rfl hl.1 rfl (lv_room (Nat.le_of_ble_eq_true rfl)) dX5_isWhole_12 ⟨Nat.zero_le _, Nat.zero_le _⟩) hS hP (fun r3 H locs hr3 hP hS => ?_)
    subst hr3
    refine lv_aload_n hx hb dX5_isWhole_15 rfl (lv_at hl 0 rfl) ?_
    refine va_get (D := (dC, dI)) (ci := 5) (v := .int (nI (len))) (C := RX5) (T := TX5) (N := 2) hx hb hts (fun _ h => List.mem_cons_of_mem _ (List.mem_append_right _ (h))) hown hK.1 hP 0 rfl rfl 1 (by decide) (hts (Cond.fieldLink RX5 15 "WorstVoice$Page" "length" "I") (List.mem_of_getElem? (i := 1) rfl)) (fun _ h9 => h9) rfl dX5_isWhole_16 ?_
    refine lv_iconst (v := nI (1)) hx hb dX5_isWhole_19 (by decide) ?_
    refine lv_isub hx hb dX5_isWhole_20 ?_
    refine lv_icmp_ge (tgt := 28) hx hb dX5_isWhole_21 (by decide) (fun c4 => ?_) (fun c4 => ?_)
    · have c4 := (rI_le (by omega)).mp c4
      refine lv_iconst (v := nI (0)) hx hb dX5_isWhole_28 (by decide) ?_
      exact W.zret hx hb hr (by first | rfl | exact bI_nz) (fun t ht hW => ⟨⟨_, (), rfl, (bI_f (fun h => by have h1 := h.1; have h2 := h.2; omega)).symm, trivial⟩, hS.F ht⟩) hS.2.2 dX5_isWhole_29
    · have c4 := mt (rI_le (by omega)).mpr c4
      refine lv_iconst (v := nI (1)) hx hb dX5_isWhole_24 (by decide) ?_
      refine lv_goto (tgt := 29) hx hb dX5_isWhole_25 (by decide) ?_
      exact W.zret hx hb hr (by first | rfl | exact bI_nz) (fun t ht hW => ⟨⟨_, (), rfl, (bI_t ⟨by omega, by omega⟩).symm, trivial⟩, hS.F ht⟩) hS.2.2 dX5_isWhole_29
