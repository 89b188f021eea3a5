/-! the choir: what it tells -/
set_option maxHeartbeats 4000000 in
set_option maxRecDepth 100000 in
theorem c_X6_number (l : Launch) (dC : Nat → ClassId) (dI : Nat → Nat → Nat) (cI : ClassId) (o : Nat) : Met l yX6_number wsX6_number ({ frames := 0, cells := 0, slots := 0, locals := 0 } : Room) (roP dC dI cI ([(o, .inr (6, []))]) [.ref o]) (roI (fun r => r = nI 0)) 0 0 (fun _ => False) := by
  refine Met.ofW (cc := cX6_number) (maxL := 1) (ret := (some .int)) (by decide) rfl ?_
  intro p e s m args below meth c s₁ B hml hv
  obtain ⟨rfl, hP, hK⟩ := hv
  have hx := B.exec
  have hb := B.bytes
  have hr := B.returns
  have hts := atoms_spec (ws := wsX6_number) B.pre
  have hown : s.vm.findClass RX6 = some m.cls := findClass_of_methodNamed B.named
  have hlocks := B.notSynchronized
  have hS : va_S (fun _ => False) s.heap s.heap [] := va_S.rf
  have hl := lv_entry ([.ref o]) (n := 1) (Nat.le_of_ble_eq_true rfl)
  rw [lg_entry_eq]
  generalize (lg_sl ([.ref o]) ++ List.replicate (1 - (lg_sl ([.ref o])).length) Slot.unset).toArray = ls at hl ⊢
  have hl : lv_has ls 1 [(0, .ref o)] := hl
  refine lv_iconst (v := nI (0)) hx hb dX6_number_0 (by decide) ?_
  exact W.iret hx hb hr (fun t ht hW => ⟨⟨_, (), rfl, rfl, trivial⟩, hS.F ht⟩) hS.2.2 dX6_number_1

set_option maxHeartbeats 4000000 in
set_option maxRecDepth 100000 in
theorem c_X6_plainBad (l : Launch) (dC : Nat → ClassId) (dI : Nat → Nat → Nat) (cI : ClassId) (o f x : Nat) (hf : f < 4) (hx9 : x ≤ 9) : Met l yX6_plainBad wsX6_plainBad ({ frames := 0, cells := 0, slots := 0, locals := 0 } : Room) (roP dC dI cI ([(o, .inr (6, []))]) [.ref o, .int (nI (f)), .int (nI (x))]) (roI (fun r => r = nI (pb 0 f x))) 0 0 (fun _ => False) := by
  refine Met.ofW (cc := cX6_plainBad) (maxL := 3) (ret := (some .int)) (by decide) rfl ?_
  intro p e s m args below meth c s₁ B hml hv
  obtain ⟨rfl, hP, hK⟩ := hv
  have hx := B.exec
  have hb := B.bytes
  have hr := B.returns
  have hts := atoms_spec (ws := wsX6_plainBad) B.pre
  have hown : s.vm.findClass RX6 = some m.cls := findClass_of_methodNamed B.named
  have hlocks := B.notSynchronized
  have hS : va_S (fun _ => False) s.heap s.heap [] := va_S.rf
  have hl := lv_entry ([.ref o, .int (nI (f)), .int (nI (x))]) (n := 3) (Nat.le_of_ble_eq_true rfl)
  rw [lg_entry_eq]
  generalize (lg_sl ([.ref o, .int (nI (f)), .int (nI (x))]) ++ List.replicate (3 - (lg_sl ([.ref o, .int (nI (f)), .int (nI (x))])).length) Slot.unset).toArray = ls at hl ⊢
  have hl : lv_has ls 3 [(0, .ref o), (1, .int (nI (f))), (2, .int (nI (x)))] := hl
  refine lv_iload_n hx hb dX6_plainBad_0 rfl (lv_at hl 2 rfl) ?_
  exact W.iret hx hb hr (fun t ht hW => ⟨⟨_, (), rfl, (by congr 1; unfold pb; (repeat' split) <;> omega), trivial⟩, hS.F ht⟩) hS.2.2 dX6_plainBad_1

set_option maxHeartbeats 4000000 in
set_option maxRecDepth 100000 in
theorem c_X7_number (l : Launch) (dC : Nat → ClassId) (dI : Nat → Nat → Nat) (cI : ClassId) (o : Nat) : Met l yX7_number wsX7_number ({ frames := 0, cells := 0, slots := 0, locals := 0 } : Room) (roP dC dI cI ([(o, .inr (7, []))]) [.ref o]) (roI (fun r => r = nI 1)) 0 0 (fun _ => False) := by
  refine Met.ofW (cc := cX7_number) (maxL := 1) (ret := (some .int)) (by decide) rfl ?_
  intro p e s m args below meth c s₁ B hml hv
  obtain ⟨rfl, hP, hK⟩ := hv
  have hx := B.exec
  have hb := B.bytes
  have hr := B.returns
  have hts := atoms_spec (ws := wsX7_number) B.pre
  have hown : s.vm.findClass RX7 = some m.cls := findClass_of_methodNamed B.named
  have hlocks := B.notSynchronized
  have hS : va_S (fun _ => False) s.heap s.heap [] := va_S.rf
  have hl := lv_entry ([.ref o]) (n := 1) (Nat.le_of_ble_eq_true rfl)
  rw [lg_entry_eq]
  generalize (lg_sl ([.ref o]) ++ List.replicate (1 - (lg_sl ([.ref o])).length) Slot.unset).toArray = ls at hl ⊢
  have hl : lv_has ls 1 [(0, .ref o)] := hl
  refine lv_iconst (v := nI (1)) hx hb dX7_number_0 (by decide) ?_
  exact W.iret hx hb hr (fun t ht hW => ⟨⟨_, (), rfl, rfl, trivial⟩, hS.F ht⟩) hS.2.2 dX7_number_1

set_option maxHeartbeats 4000000 in
set_option maxRecDepth 100000 in
theorem c_X7_plainBad (l : Launch) (dC : Nat → ClassId) (dI : Nat → Nat → Nat) (cI : ClassId) (o f x : Nat) (hf : f < 4) (hx9 : x ≤ 9) : Met l yX7_plainBad wsX7_plainBad ({ frames := 0, cells := 0, slots := 0, locals := 0 } : Room) (roP dC dI cI ([(o, .inr (7, []))]) [.ref o, .int (nI (f)), .int (nI (x))]) (roI (fun r => r = nI (pb 1 f x))) 0 0 (fun _ => False) := by
  refine Met.ofW (cc := cX7_plainBad) (maxL := 3) (ret := (some .int)) (by decide) rfl ?_
  intro p e s m args below meth c s₁ B hml hv
  obtain ⟨rfl, hP, hK⟩ := hv
  have hx := B.exec
  have hb := B.bytes
  have hr := B.returns
  have hts := atoms_spec (ws := wsX7_plainBad) B.pre
  have hown : s.vm.findClass RX7 = some m.cls := findClass_of_methodNamed B.named
  have hlocks := B.notSynchronized
  have hS : va_S (fun _ => False) s.heap s.heap [] := va_S.rf
  have hl := lv_entry ([.ref o, .int (nI (f)), .int (nI (x))]) (n := 3) (Nat.le_of_ble_eq_true rfl)
  rw [lg_entry_eq]
  generalize (lg_sl ([.ref o, .int (nI (f)), .int (nI (x))]) ++ List.replicate (3 - (lg_sl ([.ref o, .int (nI (f)), .int (nI (x))])).length) Slot.unset).toArray = ls at hl ⊢
  have hl : lv_has ls 3 [(0, .ref o), (1, .int (nI (f))), (2, .int (nI (x)))] := hl
  refine lv_iload_n hx hb dX7_plainBad_0 rfl (lv_at hl 1 rfl) ?_
  refine lv_if_ne (tgt := 10) hx hb dX7_plainBad_1 (by decide) (fun c1 => ?_) (fun c1 => ?_)
  · have c1 := mt (z_eq (by omega)).mpr c1
    refine lv_iload_n hx hb dX7_plainBad_10 rfl (lv_at hl 2 rfl) ?_
    exact W.iret hx hb hr (fun t ht hW => ⟨⟨_, (), rfl, (by congr 1; unfold pb; (repeat' split) <;> omega), trivial⟩, hS.F ht⟩) hS.2.2 dX7_plainBad_11
  · have c1 := (z_eq (by omega)).mp c1
    refine lv_iload_n hx hb dX7_plainBad_4 rfl (lv_at hl 2 rfl) ?_
    refine lv_iconst (v := nI (2)) hx hb dX7_plainBad_5 (by decide) ?_
    refine lv_idiv hx hb dX7_plainBad_6 (by decide) ?_
    refine tp_i (z := nI (x / 2)) (pk_div (by omega) (by decide) (by decide)) ?_
    refine lv_goto (tgt := 11) hx hb dX7_plainBad_7 (by decide) ?_
    exact W.iret hx hb hr (fun t ht hW => ⟨⟨_, (), rfl, (by congr 1; unfold pb; (repeat' split) <;> omega), trivial⟩, hS.F ht⟩) hS.2.2 dX7_plainBad_11

set_option maxHeartbeats 4000000 in
set_option maxRecDepth 100000 in
theorem c_X0_number (l : Launch) (dC : Nat → ClassId) (dI : Nat → Nat → Nat) (cI : ClassId) (o : Nat) : Met l yX0_number wsX0_number ({ frames := 0, cells := 0, slots := 0, locals := 0 } : Room) (roP dC dI cI ([(o, .inr (0, []))]) [.ref o]) (roI (fun r => r = nI 2)) 0 0 (fun _ => False) := by
  refine Met.ofW (cc := cX0_number) (maxL := 1) (ret := (some .int)) (by decide) rfl ?_
  intro p e s m args below meth c s₁ B hml hv
  obtain ⟨rfl, hP, hK⟩ := hv
  have hx := B.exec
  have hb := B.bytes
  have hr := B.returns
  have hts := atoms_spec (ws := wsX0_number) B.pre
  have hown : s.vm.findClass RX0 = some m.cls := findClass_of_methodNamed B.named
  have hlocks := B.notSynchronized
  have hS : va_S (fun _ => False) s.heap s.heap [] := va_S.rf
  have hl := lv_entry ([.ref o]) (n := 1) (Nat.le_of_ble_eq_true rfl)
  rw [lg_entry_eq]
  generalize (lg_sl ([.ref o]) ++ List.replicate (1 - (lg_sl ([.ref o])).length) Slot.unset).toArray = ls at hl ⊢
  have hl : lv_has ls 1 [(0, .ref o)] := hl
  refine lv_iconst (v := nI (2)) hx hb dX0_number_0 (by decide) ?_
  exact W.iret hx hb hr (fun t ht hW => ⟨⟨_, (), rfl, rfl, trivial⟩, hS.F ht⟩) hS.2.2 dX0_number_1

set_option maxHeartbeats 4000000 in
set_option maxRecDepth 100000 in
theorem c_X0_plainBad (l : Launch) (dC : Nat → ClassId) (dI : Nat → Nat → Nat) (cI : ClassId) (o f x : Nat) (hf : f < 4) (hx9 : x ≤ 9) : Met l yX0_plainBad wsX0_plainBad ({ frames := 0, cells := 0, slots := 0, locals := 0 } : Room) (roP dC dI cI ([(o, .inr (0, []))]) [.ref o, .int (nI (f)), .int (nI (x))]) (roI (fun r => r = nI (pb 2 f x))) 0 0 (fun _ => False) := by
  refine Met.ofW (cc := cX0_plainBad) (maxL := 3) (ret := (some .int)) (by decide) rfl ?_
  intro p e s m args below meth c s₁ B hml hv
  obtain ⟨rfl, hP, hK⟩ := hv
  have hx := B.exec
  have hb := B.bytes
  have hr := B.returns
  have hts := atoms_spec (ws := wsX0_plainBad) B.pre
  have hown : s.vm.findClass RX0 = some m.cls := findClass_of_methodNamed B.named
  have hlocks := B.notSynchronized
  have hS : va_S (fun _ => False) s.heap s.heap [] := va_S.rf
  have hl := lv_entry ([.ref o, .int (nI (f)), .int (nI (x))]) (n := 3) (Nat.le_of_ble_eq_true rfl)
  rw [lg_entry_eq]
  generalize (lg_sl ([.ref o, .int (nI (f)), .int (nI (x))]) ++ List.replicate (3 - (lg_sl ([.ref o, .int (nI (f)), .int (nI (x))])).length) Slot.unset).toArray = ls at hl ⊢
  have hl : lv_has ls 3 [(0, .ref o), (1, .int (nI (f))), (2, .int (nI (x)))] := hl
  refine lv_iload_n hx hb dX0_plainBad_0 rfl (lv_at hl 1 rfl) ?_
  refine lv_iconst (v := nI (3)) hx hb dX0_plainBad_1 (by decide) ?_
  refine lv_icmp_ne (tgt := 11) hx hb dX0_plainBad_2 (by decide) (fun c1 => ?_) (fun c1 => ?_)
  · have c1 := mt (nI_eq (by omega) (by decide)).mpr c1
    refine lv_iload_n hx hb dX0_plainBad_11 rfl (lv_at hl 2 rfl) ?_
    exact W.iret hx hb hr (fun t ht hW => ⟨⟨_, (), rfl, (by congr 1; unfold pb; (repeat' split) <;> omega), trivial⟩, hS.F ht⟩) hS.2.2 dX0_plainBad_12
  · have c1 := (nI_eq (by omega) (by decide)).mp c1
    refine lv_iconst (v := nI (2)) hx hb dX0_plainBad_5 (by decide) ?_
    refine lv_iload_n hx hb dX0_plainBad_6 rfl (lv_at hl 2 rfl) ?_
    refine lv_imul hx hb dX0_plainBad_7 ?_
    refine tp_i (z := nI (2 * x)) (pk_mul (2) (x)) ?_
    refine lv_goto (tgt := 12) hx hb dX0_plainBad_8 (by decide) ?_
    exact W.iret hx hb hr (fun t ht hW => ⟨⟨_, (), rfl, (by congr 1; unfold pb; (repeat' split) <;> omega), trivial⟩, hS.F ht⟩) hS.2.2 dX0_plainBad_12

set_option maxHeartbeats 4000000 in
set_option maxRecDepth 100000 in
theorem c_X3_number (l : Launch) (dC : Nat → ClassId) (dI : Nat → Nat → Nat) (cI : ClassId) (o : Nat) : Met l yX3_number wsX3_number ({ frames := 0, cells := 0, slots := 0, locals := 0 } : Room) (roP dC dI cI ([(o, .inr (3, []))]) [.ref o]) (roI (fun r => r = nI 3)) 0 0 (fun _ => False) := by
  refine Met.ofW (cc := cX3_number) (maxL := 1) (ret := (some .int)) (by decide) rfl ?_
  intro p e s m args below meth c s₁ B hml hv
  obtain ⟨rfl, hP, hK⟩ := hv
  have hx := B.exec
  have hb := B.bytes
  have hr := B.returns
  have hts := atoms_spec (ws := wsX3_number) B.pre
  have hown : s.vm.findClass RX3 = some m.cls := findClass_of_methodNamed B.named
  have hlocks := B.notSynchronized
  have hS : va_S (fun _ => False) s.heap s.heap [] := va_S.rf
  have hl := lv_entry ([.ref o]) (n := 1) (Nat.le_of_ble_eq_true rfl)
  rw [lg_entry_eq]
  generalize (lg_sl ([.ref o]) ++ List.replicate (1 - (lg_sl ([.ref o])).length) Slot.unset).toArray = ls at hl ⊢
  have hl : lv_has ls 1 [(0, .ref o)] := hl
  refine lv_iconst (v := nI (3)) hx hb dX3_number_0 (by decide) ?_
  exact W.iret hx hb hr (fun t ht hW => ⟨⟨_, (), rfl, rfl, trivial⟩, hS.F ht⟩) hS.2.2 dX3_number_1

set_option maxHeartbeats 4000000 in
set_option maxRecDepth 100000 in
theorem c_X3_plainBad (l : Launch) (dC : Nat → ClassId) (dI : Nat → Nat → Nat) (cI : ClassId) (o f x : Nat) (hf : f < 4) (hx9 : x ≤ 9) : Met l yX3_plainBad wsX3_plainBad ({ frames := 0, cells := 0, slots := 0, locals := 0 } : Room) (roP dC dI cI ([(o, .inr (3, []))]) [.ref o, .int (nI (f)), .int (nI (x))]) (roI (fun r => r = nI (pb 3 f x))) 0 0 (fun _ => False) := by
  refine Met.ofW (cc := cX3_plainBad) (maxL := 3) (ret := (some .int)) (by decide) rfl ?_
  intro p e s m args below meth c s₁ B hml hv
  obtain ⟨rfl, hP, hK⟩ := hv
  have hx := B.exec
  have hb := B.bytes
  have hr := B.returns
  have hts := atoms_spec (ws := wsX3_plainBad) B.pre
  have hown : s.vm.findClass RX3 = some m.cls := findClass_of_methodNamed B.named
  have hlocks := B.notSynchronized
  have hS : va_S (fun _ => False) s.heap s.heap [] := va_S.rf
  have hl := lv_entry ([.ref o, .int (nI (f)), .int (nI (x))]) (n := 3) (Nat.le_of_ble_eq_true rfl)
  rw [lg_entry_eq]
  generalize (lg_sl ([.ref o, .int (nI (f)), .int (nI (x))]) ++ List.replicate (3 - (lg_sl ([.ref o, .int (nI (f)), .int (nI (x))])).length) Slot.unset).toArray = ls at hl ⊢
  have hl : lv_has ls 3 [(0, .ref o), (1, .int (nI (f))), (2, .int (nI (x)))] := hl
  refine lv_iload_n hx hb dX3_plainBad_0 rfl (lv_at hl 1 rfl) ?_
  refine lv_if_ne (tgt := 9) hx hb dX3_plainBad_1 (by decide) (fun c1 => ?_) (fun c1 => ?_)
  · have c1 := mt (z_eq (by omega)).mpr c1
    refine lv_iload_n hx hb dX3_plainBad_9 rfl (lv_at hl 2 rfl) ?_
    exact W.iret hx hb hr (fun t ht hW => ⟨⟨_, (), rfl, (by congr 1; unfold pb; (repeat' split) <;> omega), trivial⟩, hS.F ht⟩) hS.2.2 dX3_plainBad_10
  · have c1 := (z_eq (by omega)).mp c1
    refine lv_bipush (v := nI (9)) hx hb dX3_plainBad_4 (by decide) ?_
    refine lv_goto (tgt := 10) hx hb dX3_plainBad_6 (by decide) ?_
    exact W.iret hx hb hr (fun t ht hW => ⟨⟨_, (), rfl, (by congr 1; unfold pb; (repeat' split) <;> omega), trivial⟩, hS.F ht⟩) hS.2.2 dX3_plainBad_10

set_option maxHeartbeats 4000000 in
set_option maxRecDepth 100000 in
theorem c_X2_number (l : Launch) (dC : Nat → ClassId) (dI : Nat → Nat → Nat) (cI : ClassId) (o : Nat) : Met l yX2_number wsX2_number ({ frames := 0, cells := 0, slots := 0, locals := 0 } : Room) (roP dC dI cI ([(o, .inr (2, []))]) [.ref o]) (roI (fun r => r = nI 4)) 0 0 (fun _ => False) := by
  refine Met.ofW (cc := cX2_number) (maxL := 1) (ret := (some .int)) (by decide) rfl ?_
  intro p e s m args below meth c s₁ B hml hv
  obtain ⟨rfl, hP, hK⟩ := hv
  have hx := B.exec
  have hb := B.bytes
  have hr := B.returns
  have hts := atoms_spec (ws := wsX2_number) B.pre
  have hown : s.vm.findClass RX2 = some m.cls := findClass_of_methodNamed B.named
  have hlocks := B.notSynchronized
  have hS : va_S (fun _ => False) s.heap s.heap [] := va_S.rf
  have hl := lv_entry ([.ref o]) (n := 1) (Nat.le_of_ble_eq_true rfl)
  rw [lg_entry_eq]
  generalize (lg_sl ([.ref o]) ++ List.replicate (1 - (lg_sl ([.ref o])).length) Slot.unset).toArray = ls at hl ⊢
  have hl : lv_has ls 1 [(0, .ref o)] := hl
  refine lv_iconst (v := nI (4)) hx hb dX2_number_0 (by decide) ?_
  exact W.iret hx hb hr (fun t ht hW => ⟨⟨_, (), rfl, rfl, trivial⟩, hS.F ht⟩) hS.2.2 dX2_number_1

set_option maxHeartbeats 4000000 in
set_option maxRecDepth 100000 in
theorem c_X2_plainBad (l : Launch) (dC : Nat → ClassId) (dI : Nat → Nat → Nat) (cI : ClassId) (o f x : Nat) (hf : f < 4) (hx9 : x ≤ 9) : Met l yX2_plainBad wsX2_plainBad ({ frames := 0, cells := 0, slots := 0, locals := 0 } : Room) (roP dC dI cI ([(o, .inr (2, []))]) [.ref o, .int (nI (f)), .int (nI (x))]) (roI (fun r => r = nI (pb 4 f x))) 0 0 (fun _ => False) := by
  refine Met.ofW (cc := cX2_plainBad) (maxL := 3) (ret := (some .int)) (by decide) rfl ?_
  intro p e s m args below meth c s₁ B hml hv
  obtain ⟨rfl, hP, hK⟩ := hv
  have hx := B.exec
  have hb := B.bytes
  have hr := B.returns
  have hts := atoms_spec (ws := wsX2_plainBad) B.pre
  have hown : s.vm.findClass RX2 = some m.cls := findClass_of_methodNamed B.named
  have hlocks := B.notSynchronized
  have hS : va_S (fun _ => False) s.heap s.heap [] := va_S.rf
  have hl := lv_entry ([.ref o, .int (nI (f)), .int (nI (x))]) (n := 3) (Nat.le_of_ble_eq_true rfl)
  rw [lg_entry_eq]
  generalize (lg_sl ([.ref o, .int (nI (f)), .int (nI (x))]) ++ List.replicate (3 - (lg_sl ([.ref o, .int (nI (f)), .int (nI (x))])).length) Slot.unset).toArray = ls at hl ⊢
  have hl : lv_has ls 3 [(0, .ref o), (1, .int (nI (f))), (2, .int (nI (x)))] := hl
  refine lv_iload_n hx hb dX2_plainBad_0 rfl (lv_at hl 1 rfl) ?_
  refine lv_if_eq (tgt := 9) hx hb dX2_plainBad_1 (by decide) (fun c1 => ?_) (fun c1 => ?_)
  · have c1 := (z_eq (by omega)).mp c1
    refine lv_iload_n hx hb dX2_plainBad_9 rfl (lv_at hl 2 rfl) ?_
    refine lv_iconst (v := nI (2)) hx hb dX2_plainBad_10 (by decide) ?_
    refine lv_idiv hx hb dX2_plainBad_11 (by decide) ?_
    refine tp_i (z := nI (x / 2)) (pk_div (by omega) (by decide) (by decide)) ?_
    refine lv_goto (tgt := 16) hx hb dX2_plainBad_12 (by decide) ?_
    exact W.iret hx hb hr (fun t ht hW => ⟨⟨_, (), rfl, (by congr 1; unfold pb; (repeat' split) <;> omega), trivial⟩, hS.F ht⟩) hS.2.2 dX2_plainBad_16
  · have c1 := mt (z_eq (by omega)).mpr c1
    refine lv_iload_n hx hb dX2_plainBad_4 rfl (lv_at hl 1 rfl) ?_
    refine lv_iconst (v := nI (1)) hx hb dX2_plainBad_5 (by decide) ?_
    refine lv_icmp_ne (tgt := 15) hx hb dX2_plainBad_6 (by decide) (fun c2 => ?_) (fun c2 => ?_)
    · have c2 := mt (nI_eq (by omega) (by decide)).mpr c2
      refine lv_iload_n hx hb dX2_plainBad_15 rfl (lv_at hl 2 rfl) ?_
      exact W.iret hx hb hr (fun t ht hW => ⟨⟨_, (), rfl, (by congr 1; unfold pb; (repeat' split) <;> omega), trivial⟩, hS.F ht⟩) hS.2.2 dX2_plainBad_16
    · have c2 := (nI_eq (by omega) (by decide)).mp c2
      refine lv_iload_n hx hb dX2_plainBad_9 rfl (lv_at hl 2 rfl) ?_
      refine lv_iconst (v := nI (2)) hx hb dX2_plainBad_10 (by decide) ?_
      refine lv_idiv hx hb dX2_plainBad_11 (by decide) ?_
      refine tp_i (z := nI (x / 2)) (pk_div (by omega) (by decide) (by decide)) ?_
      refine lv_goto (tgt := 16) hx hb dX2_plainBad_12 (by decide) ?_
      exact W.iret hx hb hr (fun t ht hW => ⟨⟨_, (), rfl, (by congr 1; unfold pb; (repeat' split) <;> omega), trivial⟩, hS.F ht⟩) hS.2.2 dX2_plainBad_16

set_option maxHeartbeats 4000000 in
set_option maxRecDepth 100000 in
theorem c_X6_practised_X6 (l : Launch) (dC : Nat → ClassId) (dI : Nat → Nat → Nat) (cI : ClassId) (o x : Nat) (hx9 : x ≤ 9) : Met l yX6_practised wsX6_practised ({ frames := 0, cells := 0, slots := 0, locals := 0 } : Room) (roP dC dI cI ([(o, .inr (6, []))]) [.ref o, .int (nI (x))]) (roI (fun r => r = nI (pr 0 x))) 0 0 (fun _ => False) := by
  refine Met.ofW (cc := cX6_practised) (maxL := 2) (ret := (some .int)) (by decide) rfl ?_
  intro p e s m args below meth c s₁ B hml hv
  obtain ⟨rfl, hP, hK⟩ := hv
  have hx := B.exec
  have hb := B.bytes
  have hr := B.returns
  have hts := atoms_spec (ws := wsX6_practised) B.pre
  have hown : s.vm.findClass RX6 = some m.cls := findClass_of_methodNamed B.named
  have hlocks := B.notSynchronized
  have hS : va_S (fun _ => False) s.heap s.heap [] := va_S.rf
  have hl := lv_entry ([.ref o, .int (nI (x))]) (n := 2) (Nat.le_of_ble_eq_true rfl)
  rw [lg_entry_eq]
  generalize (lg_sl ([.ref o, .int (nI (x))]) ++ List.replicate (2 - (lg_sl ([.ref o, .int (nI (x))])).length) Slot.unset).toArray = ls at hl ⊢
  have hl : lv_has ls 2 [(0, .ref o), (1, .int (nI (x)))] := hl
  refine lv_iload_n hx hb dX6_practised_0 rfl (lv_at hl 1 rfl) ?_
  refine lv_if_le (tgt := 10) hx hb dX6_practised_1 (by decide) (fun c1 => ?_) (fun c1 => ?_)
  · have c1 := (z_le (by omega)).mp c1
    refine lv_iconst (v := nI (0)) hx hb dX6_practised_10 (by decide) ?_
    exact W.iret hx hb hr (fun t ht hW => ⟨⟨_, (), rfl, (congrArg nI (by unfold pr; (repeat' split) <;> omega)), trivial⟩, hS.F ht⟩) hS.2.2 dX6_practised_11
  · have c1 := mt (z_le (by omega)).mpr c1
    refine lv_iload_n hx hb dX6_practised_4 rfl (lv_at hl 1 rfl) ?_
    refine lv_iconst (v := nI (1)) hx hb dX6_practised_5 (by decide) ?_
    refine lv_isub hx hb dX6_practised_6 ?_
    refine tp_i (z := nI (x - 1)) (pk_sub (by omega)) ?_
    refine lv_goto (tgt := 11) hx hb dX6_practised_7 (by decide) ?_
    exact W.iret hx hb hr (fun t ht hW => ⟨⟨_, (), rfl, (congrArg nI (by unfold pr; (repeat' split) <;> omega)), trivial⟩, hS.F ht⟩) hS.2.2 dX6_practised_11

set_option maxHeartbeats 4000000 in
set_option maxRecDepth 100000 in
theorem c_X6_practised_X7 (l : Launch) (dC : Nat → ClassId) (dI : Nat → Nat → Nat) (cI : ClassId) (o x : Nat) (hx9 : x ≤ 9) : Met l yX6_practised wsX6_practised ({ frames := 0, cells := 0, slots := 0, locals := 0 } : Room) (roP dC dI cI ([(o, .inr (7, []))]) [.ref o, .int (nI (x))]) (roI (fun r => r = nI (pr 1 x))) 0 0 (fun _ => False) := by
  refine Met.ofW (cc := cX6_practised) (maxL := 2) (ret := (some .int)) (by decide) rfl ?_
  intro p e s m args below meth c s₁ B hml hv
  obtain ⟨rfl, hP, hK⟩ := hv
  have hx := B.exec
  have hb := B.bytes
  have hr := B.returns
  have hts := atoms_spec (ws := wsX6_practised) B.pre
  have hown : s.vm.findClass RX6 = some m.cls := findClass_of_methodNamed B.named
  have hlocks := B.notSynchronized
  have hS : va_S (fun _ => False) s.heap s.heap [] := va_S.rf
  have hl := lv_entry ([.ref o, .int (nI (x))]) (n := 2) (Nat.le_of_ble_eq_true rfl)
  rw [lg_entry_eq]
  generalize (lg_sl ([.ref o, .int (nI (x))]) ++ List.replicate (2 - (lg_sl ([.ref o, .int (nI (x))])).length) Slot.unset).toArray = ls at hl ⊢
  have hl : lv_has ls 2 [(0, .ref o), (1, .int (nI (x)))] := hl
  refine lv_iload_n hx hb dX6_practised_0 rfl (lv_at hl 1 rfl) ?_
  refine lv_if_le (tgt := 10) hx hb dX6_practised_1 (by decide) (fun c1 => ?_) (fun c1 => ?_)
  · have c1 := (z_le (by omega)).mp c1
    refine lv_iconst (v := nI (0)) hx hb dX6_practised_10 (by decide) ?_
    exact W.iret hx hb hr (fun t ht hW => ⟨⟨_, (), rfl, (congrArg nI (by unfold pr; (repeat' split) <;> omega)), trivial⟩, hS.F ht⟩) hS.2.2 dX6_practised_11
  · have c1 := mt (z_le (by omega)).mpr c1
    refine lv_iload_n hx hb dX6_practised_4 rfl (lv_at hl 1 rfl) ?_
    refine lv_iconst (v := nI (1)) hx hb dX6_practised_5 (by decide) ?_
    refine lv_isub hx hb dX6_practised_6 ?_
    refine tp_i (z := nI (x - 1)) (pk_sub (by omega)) ?_
    refine lv_goto (tgt := 11) hx hb dX6_practised_7 (by decide) ?_
    exact W.iret hx hb hr (fun t ht hW => ⟨⟨_, (), rfl, (congrArg nI (by unfold pr; (repeat' split) <;> omega)), trivial⟩, hS.F ht⟩) hS.2.2 dX6_practised_11

set_option maxHeartbeats 4000000 in
set_option maxRecDepth 100000 in
theorem c_X6_practised_X3 (l : Launch) (dC : Nat → ClassId) (dI : Nat → Nat → Nat) (cI : ClassId) (o x : Nat) (hx9 : x ≤ 9) : Met l yX6_practised wsX6_practised ({ frames := 0, cells := 0, slots := 0, locals := 0 } : Room) (roP dC dI cI ([(o, .inr (3, []))]) [.ref o, .int (nI (x))]) (roI (fun r => r = nI (pr 3 x))) 0 0 (fun _ => False) := by
  refine Met.ofW (cc := cX6_practised) (maxL := 2) (ret := (some .int)) (by decide) rfl ?_
  intro p e s m args below meth c s₁ B hml hv
  obtain ⟨rfl, hP, hK⟩ := hv
  have hx := B.exec
  have hb := B.bytes
  have hr := B.returns
  have hts := atoms_spec (ws := wsX6_practised) B.pre
  have hown : s.vm.findClass RX6 = some m.cls := findClass_of_methodNamed B.named
  have hlocks := B.notSynchronized
  have hS : va_S (fun _ => False) s.heap s.heap [] := va_S.rf
  have hl := lv_entry ([.ref o, .int (nI (x))]) (n := 2) (Nat.le_of_ble_eq_true rfl)
  rw [lg_entry_eq]
  generalize (lg_sl ([.ref o, .int (nI (x))]) ++ List.replicate (2 - (lg_sl ([.ref o, .int (nI (x))])).length) Slot.unset).toArray = ls at hl ⊢
  have hl : lv_has ls 2 [(0, .ref o), (1, .int (nI (x)))] := hl
  refine lv_iload_n hx hb dX6_practised_0 rfl (lv_at hl 1 rfl) ?_
  refine lv_if_le (tgt := 10) hx hb dX6_practised_1 (by decide) (fun c1 => ?_) (fun c1 => ?_)
  · have c1 := (z_le (by omega)).mp c1
    refine lv_iconst (v := nI (0)) hx hb dX6_practised_10 (by decide) ?_
    exact W.iret hx hb hr (fun t ht hW => ⟨⟨_, (), rfl, (congrArg nI (by unfold pr; (repeat' split) <;> omega)), trivial⟩, hS.F ht⟩) hS.2.2 dX6_practised_11
  · have c1 := mt (z_le (by omega)).mpr c1
    refine lv_iload_n hx hb dX6_practised_4 rfl (lv_at hl 1 rfl) ?_
    refine lv_iconst (v := nI (1)) hx hb dX6_practised_5 (by decide) ?_
    refine lv_isub hx hb dX6_practised_6 ?_
    refine tp_i (z := nI (x - 1)) (pk_sub (by omega)) ?_
    refine lv_goto (tgt := 11) hx hb dX6_practised_7 (by decide) ?_
    exact W.iret hx hb hr (fun t ht hW => ⟨⟨_, (), rfl, (congrArg nI (by unfold pr; (repeat' split) <;> omega)), trivial⟩, hS.F ht⟩) hS.2.2 dX6_practised_11

set_option maxHeartbeats 4000000 in
set_option maxRecDepth 100000 in
theorem c_X6_practised_X2 (l : Launch) (dC : Nat → ClassId) (dI : Nat → Nat → Nat) (cI : ClassId) (o x : Nat) (hx9 : x ≤ 9) : Met l yX6_practised wsX6_practised ({ frames := 0, cells := 0, slots := 0, locals := 0 } : Room) (roP dC dI cI ([(o, .inr (2, []))]) [.ref o, .int (nI (x))]) (roI (fun r => r = nI (pr 4 x))) 0 0 (fun _ => False) := by
  refine Met.ofW (cc := cX6_practised) (maxL := 2) (ret := (some .int)) (by decide) rfl ?_
  intro p e s m args below meth c s₁ B hml hv
  obtain ⟨rfl, hP, hK⟩ := hv
  have hx := B.exec
  have hb := B.bytes
  have hr := B.returns
  have hts := atoms_spec (ws := wsX6_practised) B.pre
  have hown : s.vm.findClass RX6 = some m.cls := findClass_of_methodNamed B.named
  have hlocks := B.notSynchronized
  have hS : va_S (fun _ => False) s.heap s.heap [] := va_S.rf
  have hl := lv_entry ([.ref o, .int (nI (x))]) (n := 2) (Nat.le_of_ble_eq_true rfl)
  rw [lg_entry_eq]
  generalize (lg_sl ([.ref o, .int (nI (x))]) ++ List.replicate (2 - (lg_sl ([.ref o, .int (nI (x))])).length) Slot.unset).toArray = ls at hl ⊢
  have hl : lv_has ls 2 [(0, .ref o), (1, .int (nI (x)))] := hl
  refine lv_iload_n hx hb dX6_practised_0 rfl (lv_at hl 1 rfl) ?_
  refine lv_if_le (tgt := 10) hx hb dX6_practised_1 (by decide) (fun c1 => ?_) (fun c1 => ?_)
  · have c1 := (z_le (by omega)).mp c1
    refine lv_iconst (v := nI (0)) hx hb dX6_practised_10 (by decide) ?_
    exact W.iret hx hb hr (fun t ht hW => ⟨⟨_, (), rfl, (congrArg nI (by unfold pr; (repeat' split) <;> omega)), trivial⟩, hS.F ht⟩) hS.2.2 dX6_practised_11
  · have c1 := mt (z_le (by omega)).mpr c1
    refine lv_iload_n hx hb dX6_practised_4 rfl (lv_at hl 1 rfl) ?_
    refine lv_iconst (v := nI (1)) hx hb dX6_practised_5 (by decide) ?_
    refine lv_isub hx hb dX6_practised_6 ?_
    refine tp_i (z := nI (x - 1)) (pk_sub (by omega)) ?_
    refine lv_goto (tgt := 11) hx hb dX6_practised_7 (by decide) ?_
    exact W.iret hx hb hr (fun t ht hW => ⟨⟨_, (), rfl, (congrArg nI (by unfold pr; (repeat' split) <;> omega)), trivial⟩, hS.F ht⟩) hS.2.2 dX6_practised_11

set_option maxHeartbeats 4000000 in
set_option maxRecDepth 100000 in
theorem c_X0_practised (l : Launch) (dC : Nat → ClassId) (dI : Nat → Nat → Nat) (cI : ClassId) (o x : Nat) (hx9 : x ≤ 9) : Met l yX0_practised wsX0_practised ({ frames := 0, cells := 0, slots := 0, locals := 0 } : Room) (roP dC dI cI ([(o, .inr (0, []))]) [.ref o, .int (nI (x))]) (roI (fun r => r = nI (pr 2 x))) 0 0 (fun _ => False) := by
  refine Met.ofW (cc := cX0_practised) (maxL := 2) (ret := (some .int)) (by decide) rfl ?_
  intro p e s m args below meth c s₁ B hml hv
  obtain ⟨rfl, hP, hK⟩ := hv
  have hx := B.exec
  have hb := B.bytes
  have hr := B.returns
  have hts := atoms_spec (ws := wsX0_practised) B.pre
  have hown : s.vm.findClass RX0 = some m.cls := findClass_of_methodNamed B.named
  have hlocks := B.notSynchronized
  have hS : va_S (fun _ => False) s.heap s.heap [] := va_S.rf
  have hl := lv_entry ([.ref o, .int (nI (x))]) (n := 2) (Nat.le_of_ble_eq_true rfl)
  rw [lg_entry_eq]
  generalize (lg_sl ([.ref o, .int (nI (x))]) ++ List.replicate (2 - (lg_sl ([.ref o, .int (nI (x))])).length) Slot.unset).toArray = ls at hl ⊢
  have hl : lv_has ls 2 [(0, .ref o), (1, .int (nI (x)))] := hl
  refine lv_iload_n hx hb dX0_practised_0 rfl (lv_at hl 1 rfl) ?_
  refine lv_bipush (v := nI (9)) hx hb dX0_practised_1 (by decide) ?_
  refine lv_icmp_ge (tgt := 12) hx hb dX0_practised_3 (by decide) (fun c1 => ?_) (fun c1 => ?_)
  · have c1 := (nI_leI (by decide) (by omega)).mp c1
    refine lv_bipush (v := nI (9)) hx hb dX0_practised_12 (by decide) ?_
    exact W.iret hx hb hr (fun t ht hW => ⟨⟨_, (), rfl, (congrArg nI (by unfold pr; (repeat' split) <;> omega)), trivial⟩, hS.F ht⟩) hS.2.2 dX0_practised_14
  · have c1 := mt (nI_leI (by decide) (by omega)).mpr c1
    refine lv_iload_n hx hb dX0_practised_6 rfl (lv_at hl 1 rfl) ?_
    refine lv_iconst (v := nI (1)) hx hb dX0_practised_7 (by decide) ?_
    refine lv_iadd hx hb dX0_practised_8 ?_
    refine tp_i (z := nI (x + 1)) (nI_add (x) (1)) ?_
    refine lv_goto (tgt := 14) hx hb dX0_practised_9 (by decide) ?_
    exact W.iret hx hb hr (fun t ht hW => ⟨⟨_, (), rfl, (congrArg nI (by unfold pr; (repeat' split) <;> omega)), trivial⟩, hS.F ht⟩) hS.2.2 dX0_practised_14

set_option maxHeartbeats 4000000 in
set_option maxRecDepth 100000 in
theorem c_X8_ofKind (l : Launch) (dC : Nat → ClassId) (dI : Nat → Nat → Nat) (cI : ClassId) (v : Nat → Nat) (k : Nat) (hk : k < 5) : Met l yX8_ofKind wsX8_ofKind ({ frames := 0, cells := 0, slots := 0, locals := 0 } : Room) (roP dC dI cI (voW v) [.ref (v 0), .int (nI (k))]) (roR (fun r => r = v (k + 1))) 0 0 (fun _ => False) := by
  refine Met.ofW (cc := cX8_ofKind) (maxL := 2) (ret := (some (.object "WorstVoice$Singer"))) (by decide) rfl ?_
  intro p e s m args below meth c s₁ B hml hv
  obtain ⟨rfl, hP, hK⟩ := hv
  have hx := B.exec
  have hb := B.bytes
  have hr := B.returns
  have hts := atoms_spec (ws := wsX8_ofKind) B.pre
  have hown : s.vm.findClass RX8 = some m.cls := findClass_of_methodNamed B.named
  have hlocks := B.notSynchronized
  have hS : va_S (fun _ => False) s.heap s.heap [] := va_S.rf
  have hl := lv_entry ([.ref (v 0), .int (nI (k))]) (n := 2) (Nat.le_of_ble_eq_true rfl)
  rw [lg_entry_eq]
  generalize (lg_sl ([.ref (v 0), .int (nI (k))]) ++ List.replicate (2 - (lg_sl ([.ref (v 0), .int (nI (k))])).length) Slot.unset).toArray = ls at hl ⊢
  have hl : lv_has ls 2 [(0, .ref (v 0)), (1, .int (nI (k)))] := hl
  refine lv_iload_n hx hb dX8_ofKind_0 rfl (lv_at hl 1 rfl) ?_
  rcases (show k = 0 ∨ k = 1 ∨ k = 2 ∨ k = 3 ∨ k = 4 by omega) with rfl | rfl | rfl | rfl | rfl
  · refine lv_tableOut (tgt := 52) hx hb dX8_ofKind_1 (by decide) (by decide) ?_
    refine lv_aload_n hx hb dX8_ofKind_52 rfl (lv_at hl 0 rfl) ?_
    refine va_get (D := (dC, dI)) (ci := 8) (v := .ref (v 1)) (C := RX8) (T := TX8) (N := 5) hx hb hts (fun _ h => List.mem_cons_of_mem _ (List.mem_append_right _ (h))) hown hK.1 hP 0 rfl rfl 0 (by decide) (hts (Cond.fieldLink RX8 12 "WorstVoice$Voices" "plain" "LWorstVoice$Singer;") (List.mem_of_getElem? (i := 5) rfl)) (fun _ h9 => h9) rfl dX8_ofKind_53 ?_
    exact W.aret (v := .ref (v 1)) hx hb hr (Or.inl ⟨_, rfl⟩) (Or.inr ⟨_, rfl⟩) (fun t ht hW => ⟨⟨(), _, rfl, trivial, rfl⟩, hS.F ht⟩) hS.2.2 dX8_ofKind_56
  · refine lv_tableIn (tgt := 32) hx hb dX8_ofKind_1 (by decide) (by decide) (off := 31) (by decide) (by decide) ?_
    refine lv_aload_n hx hb dX8_ofKind_32 rfl (lv_at hl 0 rfl) ?_
    refine va_get (D := (dC, dI)) (ci := 8) (v := .ref (v 2)) (C := RX8) (T := TX8) (N := 5) hx hb hts (fun _ h => List.mem_cons_of_mem _ (List.mem_append_right _ (h))) hown hK.1 hP 0 rfl rfl 1 (by decide) (hts (Cond.fieldLink RX8 21 "WorstVoice$Voices" "tenor" "LWorstVoice$Tenor;") (List.mem_of_getElem? (i := 1) rfl)) (fun _ h9 => h9) rfl dX8_ofKind_33 ?_
    exact W.aret (v := .ref (v 2)) hx hb hr (Or.inl ⟨_, rfl⟩) (Or.inr ⟨_, rfl⟩) (fun t ht hW => ⟨⟨(), _, rfl, trivial, rfl⟩, hS.F ht⟩) hS.2.2 dX8_ofKind_36
  · refine lv_tableIn (tgt := 37) hx hb dX8_ofKind_1 (by decide) (by decide) (off := 36) (by decide) (by decide) ?_
    refine lv_aload_n hx hb dX8_ofKind_37 rfl (lv_at hl 0 rfl) ?_
    refine va_get (D := (dC, dI)) (ci := 8) (v := .ref (v 3)) (C := RX8) (T := TX8) (N := 5) hx hb hts (fun _ h => List.mem_cons_of_mem _ (List.mem_append_right _ (h))) hown hK.1 hP 0 rfl rfl 2 (by decide) (hts (Cond.fieldLink RX8 28 "WorstVoice$Voices" "boy" "LWorstVoice$Boy;") (List.mem_of_getElem? (i := 2) rfl)) (fun _ h9 => h9) rfl dX8_ofKind_38 ?_
    exact W.aret (v := .ref (v 3)) hx hb hr (Or.inl ⟨_, rfl⟩) (Or.inr ⟨_, rfl⟩) (fun t ht hW => ⟨⟨(), _, rfl, trivial, rfl⟩, hS.F ht⟩) hS.2.2 dX8_ofKind_41
  · refine lv_tableIn (tgt := 42) hx hb dX8_ofKind_1 (by decide) (by decide) (off := 41) (by decide) (by decide) ?_
    refine lv_aload_n hx hb dX8_ofKind_42 rfl (lv_at hl 0 rfl) ?_
    refine va_get (D := (dC, dI)) (ci := 8) (v := .ref (v 4)) (C := RX8) (T := TX8) (N := 5) hx hb hts (fun _ h => List.mem_cons_of_mem _ (List.mem_append_right _ (h))) hown hK.1 hP 0 rfl rfl 3 (by decide) (hts (Cond.fieldLink RX8 35 "WorstVoice$Voices" "deaf" "LWorstVoice$Deaf;") (List.mem_of_getElem? (i := 3) rfl)) (fun _ h9 => h9) rfl dX8_ofKind_43 ?_
    exact W.aret (v := .ref (v 4)) hx hb hr (Or.inl ⟨_, rfl⟩) (Or.inr ⟨_, rfl⟩) (fun t ht hW => ⟨⟨(), _, rfl, trivial, rfl⟩, hS.F ht⟩) hS.2.2 dX8_ofKind_46
  · refine lv_tableIn (tgt := 47) hx hb dX8_ofKind_1 (by decide) (by decide) (off := 46) (by decide) (by decide) ?_
    refine lv_aload_n hx hb dX8_ofKind_47 rfl (lv_at hl 0 rfl) ?_
    refine va_get (D := (dC, dI)) (ci := 8) (v := .ref (v 5)) (C := RX8) (T := TX8) (N := 5) hx hb hts (fun _ h => List.mem_cons_of_mem _ (List.mem_append_right _ (h))) hown hK.1 hP 0 rfl rfl 4 (by decide) (hts (Cond.fieldLink RX8 42 "WorstVoice$Voices" "chorister" "LWorstVoice$Chorister;") (List.mem_of_getElem? (i := 4) rfl)) (fun _ h9 => h9) rfl dX8_ofKind_48 ?_
    exact W.aret (v := .ref (v 5)) hx hb hr (Or.inl ⟨_, rfl⟩) (Or.inr ⟨_, rfl⟩) (fun t ht hW => ⟨⟨(), _, rfl, trivial, rfl⟩, hS.F ht⟩) hS.2.2 dX8_ofKind_51

set_option maxHeartbeats 4000000 in
set_option maxRecDepth 100000 in
theorem c_X1_hasSinger (l : Launch) (dC : Nat → ClassId) (dI : Nat → Nat → Nat) (cI : ClassId) (a : Nat → Nat) (v0 : Nat) (R mi : Nat → Nat) (n w : Nat) (wk : Int32) (hn : n ≤ 4) (hw : w ≤ 5) (x : Int32) : Met l yX1_hasSinger wsX1_hasSinger ({ frames := 0, cells := 0, slots := 0, locals := 0 } : Room) (roP dC dI cI (chW cI a v0 R mi n w wk) [.ref (a 0), .int (x)]) (roI (fun r => r = bI (inR x n))) 0 0 (fun _ => False) := by
  refine Met.ofW (cc := cX1_hasSinger) (maxL := 2) (ret := (some .boolean)) (by decide) rfl ?_
  intro p e s m args below meth c s₁ B hml hv
  obtain ⟨rfl, hP, hK⟩ := hv
  have hx := B.exec
  have hb := B.bytes
  have hr := B.returns
  have hts := atoms_spec (ws := wsX1_hasSinger) B.pre
  have hown : s.vm.findClass RX1 = some m.cls := findClass_of_methodNamed B.named
  have hlocks := B.notSynchronized
  have hS : va_S (fun _ => False) s.heap s.heap [] := va_S.rf
  have hl := lv_entry ([.ref (a 0), .int (x)]) (n := 2) (Nat.le_of_ble_eq_true rfl)
  rw [lg_entry_eq]
  generalize (lg_sl ([.ref (a 0), .int (x)]) ++ List.replicate (2 - (lg_sl ([.ref (a 0), .int (x)])).length) Slot.unset).toArray = ls at hl ⊢
  have hl : lv_has ls 2 [(0, .ref (a 0)), (1, .int (x))] := hl
  refine lv_iload_n hx hb dX1_hasSinger_0 rfl (lv_at hl 1 rfl) ?_
  refine lv_if_lt (tgt := 21) hx hb dX1_hasSinger_1 (by decide) (fun c1 => ?_) (fun c1 => ?_)
  · have c1 := r0_lt.mp c1
    refine lv_iconst (v := nI (0)) hx hb dX1_hasSinger_21 (by decide) ?_
    exact W.zret hx hb hr (by first | rfl | exact bI_nz) (fun t ht hW => ⟨⟨_, (), rfl, (bI_f (fun h => by have h1 := h.1; have h2 := h.2; omega)).symm, trivial⟩, hS.F ht⟩) hS.2.2 dX1_hasSinger_22
  · have c1 := mt r0_lt.mpr c1
    refine lv_iload_n hx hb dX1_hasSinger_4 rfl (lv_at hl 1 rfl) ?_
    refine lv_aload_n hx hb dX1_hasSinger_5 rfl (lv_at hl 0 rfl) ?_
    refine va_get (D := (dC, dI)) (ci := 1) (v := .int (nI (n))) (C := RX1) (T := TX1) (N := 10) hx hb hts (fun _ h => List.mem_cons_of_mem _ (List.mem_append_right _ (h))) hown hK.1 hP 0 rfl rfl 7 (by decide) (hts (Cond.fieldLink RX1 46 "WorstVoice$Choir" "singers" "I") (List.mem_of_getElem? (i := 1) rfl)) (fun _ h9 => h9) rfl dX1_hasSinger_6 ?_
    refine lv_icmp_ge (tgt := 21) hx hb dX1_hasSinger_9 (by decide) (fun c2 => ?_) (fun c2 => ?_)
    · have c2 := (rI_ge (by omega)).mp c2
      refine lv_iconst (v := nI (0)) hx hb dX1_hasSinger_21 (by decide) ?_
      exact W.zret hx hb hr (by first | rfl | exact bI_nz) (fun t ht hW => ⟨⟨_, (), rfl, (bI_f (fun h => by have h1 := h.1; have h2 := h.2; omega)).symm, trivial⟩, hS.F ht⟩) hS.2.2 dX1_hasSinger_22
    · have c2 := mt (rI_ge (by omega)).mpr c2
      refine lv_iload_n hx hb dX1_hasSinger_12 rfl (lv_at hl 1 rfl) ?_
      refine lv_iconst (v := nI (4)) hx hb dX1_hasSinger_13 (by decide) ?_
      refine lv_icmp_ge (tgt := 21) hx hb dX1_hasSinger_14 (by decide) (fun c3 => ?_) (fun c3 => ?_)
      · have c3 := (rI_ge (by decide)).mp c3
        refine lv_iconst (v := nI (0)) hx hb dX1_hasSinger_21 (by decide) ?_
        exact W.zret hx hb hr (by first | rfl | exact bI_nz) (fun t ht hW => ⟨⟨_, (), rfl, (bI_f (fun h => by have h1 := h.1; have h2 := h.2; omega)).symm, trivial⟩, hS.F ht⟩) hS.2.2 dX1_hasSinger_22
      · have c3 := mt (rI_ge (by decide)).mpr c3
        refine lv_iconst (v := nI (1)) hx hb dX1_hasSinger_17 (by decide) ?_
        refine lv_goto (tgt := 22) hx hb dX1_hasSinger_18 (by decide) ?_
        exact W.zret hx hb hr (by first | rfl | exact bI_nz) (fun t ht hW => ⟨⟨_, (), rfl, (bI_t (by constructor <;> omega)).symm, trivial⟩, hS.F ht⟩) hS.2.2 dX1_hasSinger_22

set_option maxHeartbeats 4000000 in
set_option maxRecDepth 100000 in
theorem c_X1_hasWidow (l : Launch) (dC : Nat → ClassId) (dI : Nat → Nat → Nat) (cI : ClassId) (a : Nat → Nat) (v0 : Nat) (R mi : Nat → Nat) (n w : Nat) (wk : Int32) (hn : n ≤ 4) (hw : w ≤ 5) (x : Int32) : Met l yX1_hasWidow wsX1_hasWidow ({ frames := 0, cells := 0, slots := 0, locals := 0 } : Room) (roP dC dI cI (chW cI a v0 R mi n w wk) [.ref (a 0), .int (x)]) (roI (fun r => r = bI (inR x w))) 0 0 (fun _ => False) := by
  refine Met.ofW (cc := cX1_hasWidow) (maxL := 2) (ret := (some .boolean)) (by decide) rfl ?_
  intro p e s m args below meth c s₁ B hml hv
  obtain ⟨rfl, hP, hK⟩ := hv
  have hx := B.exec
  have hb := B.bytes
  have hr := B.returns
  have hts := atoms_spec (ws := wsX1_hasWidow) B.pre
  have hown : s.vm.findClass RX1 = some m.cls := findClass_of_methodNamed B.named
  have hlocks := B.notSynchronized
  have hS : va_S (fun _ => False) s.heap s.heap [] := va_S.rf
  have hl := lv_entry ([.ref (a 0), .int (x)]) (n := 2) (Nat.le_of_ble_eq_true rfl)
  rw [lg_entry_eq]
  generalize (lg_sl ([.ref (a 0), .int (x)]) ++ List.replicate (2 - (lg_sl ([.ref (a 0), .int (x)])).length) Slot.unset).toArray = ls at hl ⊢
  have hl : lv_has ls 2 [(0, .ref (a 0)), (1, .int (x))] := hl
  refine lv_iload_n hx hb dX1_hasWidow_0 rfl (lv_at hl 1 rfl) ?_
  refine lv_if_lt (tgt := 21) hx hb dX1_hasWidow_1 (by decide) (fun c1 => ?_) (fun c1 => ?_)
  · have c1 := r0_lt.mp c1
    refine lv_iconst (v := nI (0)) hx hb dX1_hasWidow_21 (by decide) ?_
    exact W.zret hx hb hr (by first | rfl | exact bI_nz) (fun t ht hW => ⟨⟨_, (), rfl, (bI_f (fun h => by have h1 := h.1; have h2 := h.2; omega)).symm, trivial⟩, hS.F ht⟩) hS.2.2 dX1_hasWidow_22
  · have c1 := mt r0_lt.mpr c1
    refine lv_iload_n hx hb dX1_hasWidow_4 rfl (lv_at hl 1 rfl) ?_
    refine lv_aload_n hx hb dX1_hasWidow_5 rfl (lv_at hl 0 rfl) ?_
    refine va_get (D := (dC, dI)) (ci := 1) (v := .int (nI (w))) (C := RX1) (T := TX1) (N := 10) hx hb hts (fun _ h => List.mem_cons_of_mem _ (List.mem_append_right _ (h))) hown hK.1 hP 0 rfl rfl 8 (by decide) (hts (Cond.fieldLink RX1 56 "WorstVoice$Choir" "widows" "I") (List.mem_of_getElem? (i := 1) rfl)) (fun _ h9 => h9) rfl dX1_hasWidow_6 ?_
    refine lv_icmp_ge (tgt := 21) hx hb dX1_hasWidow_9 (by decide) (fun c2 => ?_) (fun c2 => ?_)
    · have c2 := (rI_ge (by omega)).mp c2
      refine lv_iconst (v := nI (0)) hx hb dX1_hasWidow_21 (by decide) ?_
      exact W.zret hx hb hr (by first | rfl | exact bI_nz) (fun t ht hW => ⟨⟨_, (), rfl, (bI_f (fun h => by have h1 := h.1; have h2 := h.2; omega)).symm, trivial⟩, hS.F ht⟩) hS.2.2 dX1_hasWidow_22
    · have c2 := mt (rI_ge (by omega)).mpr c2
      refine lv_iload_n hx hb dX1_hasWidow_12 rfl (lv_at hl 1 rfl) ?_
      refine lv_iconst (v := nI (5)) hx hb dX1_hasWidow_13 (by decide) ?_
      refine lv_icmp_ge (tgt := 21) hx hb dX1_hasWidow_14 (by decide) (fun c3 => ?_) (fun c3 => ?_)
      · have c3 := (rI_ge (by decide)).mp c3
        refine lv_iconst (v := nI (0)) hx hb dX1_hasWidow_21 (by decide) ?_
        exact W.zret hx hb hr (by first | rfl | exact bI_nz) (fun t ht hW => ⟨⟨_, (), rfl, (bI_f (fun h => by have h1 := h.1; have h2 := h.2; omega)).symm, trivial⟩, hS.F ht⟩) hS.2.2 dX1_hasWidow_22
      · have c3 := mt (rI_ge (by decide)).mpr c3
        refine lv_iconst (v := nI (1)) hx hb dX1_hasWidow_17 (by decide) ?_
        refine lv_goto (tgt := 22) hx hb dX1_hasWidow_18 (by decide) ?_
        exact W.zret hx hb hr (by first | rfl | exact bI_nz) (fun t ht hW => ⟨⟨_, (), rfl, (bI_t (by constructor <;> omega)).symm, trivial⟩, hS.F ht⟩) hS.2.2 dX1_hasWidow_22

set_option maxHeartbeats 4000000 in
set_option maxRecDepth 100000 in
theorem c_X1_isFault (l : Launch) (dC : Nat → ClassId) (dI : Nat → Nat → Nat) (cI : ClassId) (x : Int32) : Met l yX1_isFault wsX1_isFault ({ frames := 0, cells := 0, slots := 0, locals := 0 } : Room) (roP dC dI cI ([]) [.int (x)]) (roI (fun r => r = bI (inR x 4))) 0 0 (fun _ => False) := by
  refine Met.ofW (cc := cX1_isFault) (maxL := 1) (ret := (some .boolean)) (by decide) rfl ?_
  intro p e s m args below meth c s₁ B hml hv
  obtain ⟨rfl, hP, hK⟩ := hv
  have hx := B.exec
  have hb := B.bytes
  have hr := B.returns
  have hts := atoms_spec (ws := wsX1_isFault) B.pre
  have hown : s.vm.findClass RX1 = some m.cls := findClass_of_methodNamed B.named
  have hlocks := B.notSynchronized
  have hS : va_S (fun _ => False) s.heap s.heap [] := va_S.rf
  have hl := lv_entry ([.int (x)]) (n := 1) (Nat.le_of_ble_eq_true rfl)
  rw [lg_entry_eq]
  generalize (lg_sl ([.int (x)]) ++ List.replicate (1 - (lg_sl ([.int (x)])).length) Slot.unset).toArray = ls at hl ⊢
  have hl : lv_has ls 1 [(0, .int (x))] := hl
  refine lv_iload_n hx hb dX1_isFault_0 rfl (lv_at hl 0 rfl) ?_
  refine lv_if_lt (tgt := 13) hx hb dX1_isFault_1 (by decide) (fun c1 => ?_) (fun c1 => ?_)
  · have c1 := r0_lt.mp c1
    refine lv_iconst (v := nI (0)) hx hb dX1_isFault_13 (by decide) ?_
    exact W.zret hx hb hr (by first | rfl | exact bI_nz) (fun t ht hW => ⟨⟨_, (), rfl, (bI_f (fun h => by have h1 := h.1; have h2 := h.2; omega)).symm, trivial⟩, hS.F ht⟩) hS.2.2 dX1_isFault_14
  · have c1 := mt r0_lt.mpr c1
    refine lv_iload_n hx hb dX1_isFault_4 rfl (lv_at hl 0 rfl) ?_
    refine lv_iconst (v := nI (4)) hx hb dX1_isFault_5 (by decide) ?_
    refine lv_icmp_ge (tgt := 13) hx hb dX1_isFault_6 (by decide) (fun c2 => ?_) (fun c2 => ?_)
    · have c2 := (rI_ge (by decide)).mp c2
      refine lv_iconst (v := nI (0)) hx hb dX1_isFault_13 (by decide) ?_
      exact W.zret hx hb hr (by first | rfl | exact bI_nz) (fun t ht hW => ⟨⟨_, (), rfl, (bI_f (fun h => by have h1 := h.1; have h2 := h.2; omega)).symm, trivial⟩, hS.F ht⟩) hS.2.2 dX1_isFault_14
    · have c2 := mt (rI_ge (by decide)).mpr c2
      refine lv_iconst (v := nI (1)) hx hb dX1_isFault_9 (by decide) ?_
      refine lv_goto (tgt := 14) hx hb dX1_isFault_10 (by decide) ?_
      exact W.zret hx hb hr (by first | rfl | exact bI_nz) (fun t ht hW => ⟨⟨_, (), rfl, (bI_t (by constructor <;> omega)).symm, trivial⟩, hS.F ht⟩) hS.2.2 dX1_isFault_14

set_option maxHeartbeats 4000000 in
set_option maxRecDepth 100000 in
theorem c_X1_isEmpty (l : Launch) (dC : Nat → ClassId) (dI : Nat → Nat → Nat) (cI : ClassId) (a : Nat → Nat) (v0 : Nat) (R mi : Nat → Nat) (n w : Nat) (wk : Int32) (hn : n ≤ 4) : Met l yX1_isEmpty wsX1_isEmpty ({ frames := 0, cells := 0, slots := 0, locals := 0 } : Room) (roP dC dI cI (chW cI a v0 R mi n w wk) [.ref (a 0)]) (roI (fun r => r = bI (n = 0))) 0 0 (fun _ => False) := by
  refine Met.ofW (cc := cX1_isEmpty) (maxL := 1) (ret := (some .boolean)) (by decide) rfl ?_
  intro p e s m args below meth c s₁ B hml hv
  obtain ⟨rfl, hP, hK⟩ := hv
  have hx := B.exec
  have hb := B.bytes
  have hr := B.returns
  have hts := atoms_spec (ws := wsX1_isEmpty) B.pre
  have hown : s.vm.findClass RX1 = some m.cls := findClass_of_methodNamed B.named
  have hlocks := B.notSynchronized
  have hS : va_S (fun _ => False) s.heap s.heap [] := va_S.rf
  have hl := lv_entry ([.ref (a 0)]) (n := 1) (Nat.le_of_ble_eq_true rfl)
  rw [lg_entry_eq]
  generalize (lg_sl ([.ref (a 0)]) ++ List.replicate (1 - (lg_sl ([.ref (a 0)])).length) Slot.unset).toArray = ls at hl ⊢
  have hl : lv_has ls 1 [(0, .ref (a 0))] := hl
  refine lv_aload_n hx hb dX1_isEmpty_0 rfl (lv_at hl 0 rfl) ?_
  refine va_get (D := (dC, dI)) (ci := 1) (v := .int (nI (n))) (C := RX1) (T := TX1) (N := 10) hx hb hts (fun _ h => List.mem_cons_of_mem _ (List.mem_append_right _ (h))) hown hK.1 hP 0 rfl rfl 7 (by decide) (hts (Cond.fieldLink RX1 46 "WorstVoice$Choir" "singers" "I") (List.mem_of_getElem? (i := 1) rfl)) (fun _ h9 => h9) rfl dX1_isEmpty_1 ?_
  refine lv_if_ne (tgt := 11) hx hb dX1_isEmpty_4 (by decide) (fun c1 => ?_) (fun c1 => ?_)
  · have c1 := mt (z_eq (by omega)).mpr c1
    refine lv_iconst (v := nI (0)) hx hb dX1_isEmpty_11 (by decide) ?_
    exact W.zret hx hb hr (by first | rfl | exact bI_nz) (fun t ht hW => ⟨⟨_, (), rfl, (bI_f (by assumption)).symm, trivial⟩, hS.F ht⟩) hS.2.2 dX1_isEmpty_12
  · have c1 := (z_eq (by omega)).mp c1
    refine lv_iconst (v := nI (1)) hx hb dX1_isEmpty_7 (by decide) ?_
    refine lv_goto (tgt := 12) hx hb dX1_isEmpty_8 (by decide) ?_
    exact W.zret hx hb hr (by first | rfl | exact bI_nz) (fun t ht hW => ⟨⟨_, (), rfl, (bI_t (by assumption)).symm, trivial⟩, hS.F ht⟩) hS.2.2 dX1_isEmpty_12

set_option maxHeartbeats 4000000 in
set_option maxRecDepth 100000 in
theorem c_X1_coldOf (l : Launch) (dC : Nat → ClassId) (dI : Nat → Nat → Nat) (cI : ClassId) (a : Nat → Nat) (v0 : Nat) (R mi : Nat → Nat) (n w : Nat) (wk : Int32) (hn : n ≤ 4) (hw : w ≤ 5) (s_ : Nat) (hs : s_ < n) : Met l yX1_coldOf wsX1_coldOf ({ frames := 1, cells := 0, slots := 0, locals := 21 } : Room) (roP dC dI cI (chW cI a v0 R mi n w wk) [.ref (a 0), .int (nI (s_))]) (roI (fun r => r = nI (R (8 * s_ + 5)))) 0 0 (fun _ => False) := by
  refine Met.ofW (cc := cX1_coldOf) (maxL := 2) (ret := (some .int)) (by decide) rfl ?_
  intro p e s m args below meth c s₁ B hml hv
  obtain ⟨rfl, hP, hK⟩ := hv
  have hx := B.exec
  have hb := B.bytes
  have hr := B.returns
  have hts := atoms_spec (ws := wsX1_coldOf) B.pre
  have hown : s.vm.findClass RX1 = some m.cls := findClass_of_methodNamed B.named
  have hlocks := B.notSynchronized
  have hS : va_S (fun _ => False) s.heap s.heap [] := va_S.rf
  have hl := lv_entry ([.ref (a 0), .int (nI (s_))]) (n := 2) (Nat.le_of_ble_eq_true rfl)
  rw [lg_entry_eq]
  generalize (lg_sl ([.ref (a 0), .int (nI (s_))]) ++ List.replicate (2 - (lg_sl ([.ref (a 0), .int (nI (s_))])).length) Slot.unset).toArray = ls at hl ⊢
  have hl : lv_has ls 2 [(0, .ref (a 0)), (1, .int (nI (s_)))] := hl
  refine lv_aload_n hx hb dX1_coldOf_0 rfl (lv_at hl 0 rfl) ?_
  refine lv_iload_n hx hb dX1_coldOf_1 rfl (lv_at hl 1 rfl) ?_
  refine ro_calli (va_runV (As := [.int (nI (s_))]) (rest := []) ⟨hx, hb, hml, hown, hts⟩ (c_X1_hasSinger l dC dI cI a v0 R mi n w wk (by omega) (by omega) (nI (s_))) (cwV 1 hts gX1_coldOf_X1_hasSinger rfl rfl rfl (by decide +kernel) ⟨Nat.le_of_ble_eq_true rfl, Nat.le_of_ble_eq_true rfl⟩) (ro_pv hK hP [0, 1, 2, 3, 4, 5, 6] rfl (ci := 1) (q0 := 0) (C := RX1) (T := TX1) (N := 10) rfl rfl) rfl rfl hl.1 rfl (lv_room (Nat.le_of_ble_eq_true rfl)) dX1_coldOf_2 ⟨Nat.zero_le _, Nat.zero_le _⟩) hS hP (fun r1 H locs hr1 hP hS => ?_)
  subst hr1
  refine tp_i (z := nI 1) (bI_t (inR_n (by omega) (by omega))) ?_
  refine lv_if_eq (tgt := 17) hx hb dX1_coldOf_5 (by decide) (fun c => absurd c (by decide)) (fun _ => ?_)
  refine lv_aload_n hx hb dX1_coldOf_8 rfl (lv_at hl 0 rfl) ?_
  refine va_get (D := (dC, dI)) (ci := 1) (v := .ref (a 3)) (C := RX1) (T := TX1) (N := 10) hx hb hts (fun _ h => List.mem_cons_of_mem _ (List.mem_append_right _ (h))) hown hK.1 hP 0 rfl rfl 3 (by decide) (hts (Cond.fieldLink RX1 18 "WorstVoice$Choir" "colds" "[I") (List.mem_of_getElem? (i := 1) rfl)) (fun _ h9 => h9) rfl dX1_coldOf_9 ?_
  refine lv_iload_n hx hb dX1_coldOf_12 rfl (lv_at hl 1 rfl) ?_
  refine va_iald hx hb hK.1 hP 3 0 rfl rfl (vp_in_nI (by omega) (by decide)) dX1_coldOf_13 ?_
  refine tp_i (z := nI (R (8 * (s_) + 5))) (ld_n (fun ii => nI (R (8 * ii + 5))) (by omega)) ?_
  refine lv_goto (tgt := 18) hx hb dX1_coldOf_14 (by decide) ?_
  exact W.iret hx hb hr (fun t ht hW => ⟨⟨_, (), rfl, rfl, trivial⟩, hS.F ht⟩) hS.2.2 dX1_coldOf_18

set_option maxHeartbeats 4000000 in
set_option maxRecDepth 100000 in
theorem c_X1_leftOf (l : Launch) (dC : Nat → ClassId) (dI : Nat → Nat → Nat) (cI : ClassId) (a : Nat → Nat) (v0 : Nat) (R mi : Nat → Nat) (n w : Nat) (wk : Int32) (hn : n ≤ 4) (hw : w ≤ 5) (s_ : Nat) (hs : s_ < n) : Met l yX1_leftOf wsX1_leftOf ({ frames := 1, cells := 0, slots := 0, locals := 21 } : Room) (roP dC dI cI (chW cI a v0 R mi n w wk) [.ref (a 0), .int (nI (s_))]) (roI (fun r => r = nI (R (8 * s_ + 6)))) 0 0 (fun _ => False) := by
  refine Met.ofW (cc := cX1_leftOf) (maxL := 2) (ret := (some .int)) (by decide) rfl ?_
  intro p e s m args below meth c s₁ B hml hv
  obtain ⟨rfl, hP, hK⟩ := hv
  have hx := B.exec
  have hb := B.bytes
  have hr := B.returns
  have hts := atoms_spec (ws := wsX1_leftOf) B.pre
  have hown : s.vm.findClass RX1 = some m.cls := findClass_of_methodNamed B.named
  have hlocks := B.notSynchronized
  have hS : va_S (fun _ => False) s.heap s.heap [] := va_S.rf
  have hl := lv_entry ([.ref (a 0), .int (nI (s_))]) (n := 2) (Nat.le_of_ble_eq_true rfl)
  rw [lg_entry_eq]
  generalize (lg_sl ([.ref (a 0), .int (nI (s_))]) ++ List.replicate (2 - (lg_sl ([.ref (a 0), .int (nI (s_))])).length) Slot.unset).toArray = ls at hl ⊢
  have hl : lv_has ls 2 [(0, .ref (a 0)), (1, .int (nI (s_)))] := hl
  refine lv_aload_n hx hb dX1_leftOf_0 rfl (lv_at hl 0 rfl) ?_
  refine lv_iload_n hx hb dX1_leftOf_1 rfl (lv_at hl 1 rfl) ?_
  refine ro_calli (va_runV (As := [.int (nI (s_))]) (rest := []) ⟨hx, hb, hml, hown, hts⟩ (c_X1_hasSinger l dC dI cI a v0 R mi n w wk (by omega) (by omega) (nI (s_))) (cwV 1 hts gX1_leftOf_X1_hasSinger rfl rfl rfl (by decide +kernel) ⟨Nat.le_of_ble_eq_true rfl, Nat.le_of_ble_eq_true rfl⟩) (ro_pv hK hP [0, 1, 2, 3, 4, 5, 6] rfl (ci := 1) (q0 := 0) (C := RX1) (T := TX1) (N := 10) rfl rfl) rfl rfl hl.1 rfl (lv_room (Nat.le_of_ble_eq_true rfl)) dX1_leftOf_2 ⟨Nat.zero_le _, Nat.zero_le _⟩) hS hP (fun r1 H locs hr1 hP hS => ?_)
  subst hr1
  refine tp_i (z := nI 1) (bI_t (inR_n (by omega) (by omega))) ?_
  refine lv_if_eq (tgt := 17) hx hb dX1_leftOf_5 (by decide) (fun c => absurd c (by decide)) (fun _ => ?_)
  refine lv_aload_n hx hb dX1_leftOf_8 rfl (lv_at hl 0 rfl) ?_
  refine va_get (D := (dC, dI)) (ci := 1) (v := .ref (a 4)) (C := RX1) (T := TX1) (N := 10) hx hb hts (fun _ h => List.mem_cons_of_mem _ (List.mem_append_right _ (h))) hown hK.1 hP 0 rfl rfl 4 (by decide) (hts (Cond.fieldLink RX1 21 "WorstVoice$Choir" "lefts" "[I") (List.mem_of_getElem? (i := 1) rfl)) (fun _ h9 => h9) rfl dX1_leftOf_9 ?_
  refine lv_iload_n hx hb dX1_leftOf_12 rfl (lv_at hl 1 rfl) ?_
  refine va_iald hx hb hK.1 hP 4 0 rfl rfl (vp_in_nI (by omega) (by decide)) dX1_leftOf_13 ?_
  refine tp_i (z := nI (R (8 * (s_) + 6))) (ld_n (fun ii => nI (R (8 * ii + 6))) (by omega)) ?_
  refine lv_goto (tgt := 18) hx hb dX1_leftOf_14 (by decide) ?_
  exact W.iret hx hb hr (fun t ht hW => ⟨⟨_, (), rfl, rfl, trivial⟩, hS.F ht⟩) hS.2.2 dX1_leftOf_18

set_option maxHeartbeats 4000000 in
set_option maxRecDepth 100000 in
theorem c_X1_honeyOf (l : Launch) (dC : Nat → ClassId) (dI : Nat → Nat → Nat) (cI : ClassId) (a : Nat → Nat) (v0 : Nat) (R mi : Nat → Nat) (n w : Nat) (wk : Int32) (hn : n ≤ 4) (hw : w ≤ 5) (s_ : Nat) (hs : s_ < n) : Met l yX1_honeyOf wsX1_honeyOf ({ frames := 1, cells := 0, slots := 0, locals := 21 } : Room) (roP dC dI cI (chW cI a v0 R mi n w wk) [.ref (a 0), .int (nI (s_))]) (roI (fun r => r = nI (R (8 * s_ + 7)))) 0 0 (fun _ => False) := by
  refine Met.ofW (cc := cX1_honeyOf) (maxL := 2) (ret := (some .int)) (by decide) rfl ?_
  intro p e s m args below meth c s₁ B hml hv
  obtain ⟨rfl, hP, hK⟩ := hv
  have hx := B.exec
  have hb := B.bytes
  have hr := B.returns
  have hts := atoms_spec (ws := wsX1_honeyOf) B.pre
  have hown : s.vm.findClass RX1 = some m.cls := findClass_of_methodNamed B.named
  have hlocks := B.notSynchronized
  have hS : va_S (fun _ => False) s.heap s.heap [] := va_S.rf
  have hl := lv_entry ([.ref (a 0), .int (nI (s_))]) (n := 2) (Nat.le_of_ble_eq_true rfl)
  rw [lg_entry_eq]
  generalize (lg_sl ([.ref (a 0), .int (nI (s_))]) ++ List.replicate (2 - (lg_sl ([.ref (a 0), .int (nI (s_))])).length) Slot.unset).toArray = ls at hl ⊢
  have hl : lv_has ls 2 [(0, .ref (a 0)), (1, .int (nI (s_)))] := hl
  refine lv_aload_n hx hb dX1_honeyOf_0 rfl (lv_at hl 0 rfl) ?_
  refine lv_iload_n hx hb dX1_honeyOf_1 rfl (lv_at hl 1 rfl) ?_
  refine ro_calli (va_runV (As := [.int (nI (s_))]) (rest := []) ⟨hx, hb, hml, hown, hts⟩ (c_X1_hasSinger l dC dI cI a v0 R mi n w wk (by omega) (by omega) (nI (s_))) (cwV 1 hts gX1_honeyOf_X1_hasSinger rfl rfl rfl (by decide +kernel) ⟨Nat.le_of_ble_eq_true rfl, Nat.le_of_ble_eq_true rfl⟩) (ro_pv hK hP [0, 1, 2, 3, 4, 5, 6] rfl (ci := 1) (q0 := 0) (C := RX1) (T := TX1) (N := 10) rfl rfl) rfl rfl hl.1 rfl (lv_room (Nat.le_of_ble_eq_true rfl)) dX1_honeyOf_2 ⟨Nat.zero_le _, Nat.zero_le _⟩) hS hP (fun r1 H locs hr1 hP hS => ?_)
  subst hr1
  refine tp_i (z := nI 1) (bI_t (inR_n (by omega) (by omega))) ?_
  refine lv_if_eq (tgt := 17) hx hb dX1_honeyOf_5 (by decide) (fun c => absurd c (by decide)) (fun _ => ?_)
  refine lv_aload_n hx hb dX1_honeyOf_8 rfl (lv_at hl 0 rfl) ?_
  refine va_get (D := (dC, dI)) (ci := 1) (v := .ref (a 5)) (C := RX1) (T := TX1) (N := 10) hx hb hts (fun _ h => List.mem_cons_of_mem _ (List.mem_append_right _ (h))) hown hK.1 hP 0 rfl rfl 5 (by decide) (hts (Cond.fieldLink RX1 24 "WorstVoice$Choir" "honeys" "[I") (List.mem_of_getElem? (i := 1) rfl)) (fun _ h9 => h9) rfl dX1_honeyOf_9 ?_
  refine lv_iload_n hx hb dX1_honeyOf_12 rfl (lv_at hl 1 rfl) ?_
  refine va_iald hx hb hK.1 hP 5 0 rfl rfl (vp_in_nI (by omega) (by decide)) dX1_honeyOf_13 ?_
  refine tp_i (z := nI (R (8 * (s_) + 7))) (ld_n (fun ii => nI (R (8 * ii + 7))) (by omega)) ?_
  refine lv_goto (tgt := 18) hx hb dX1_honeyOf_14 (by decide) ?_
  exact W.iret hx hb hr (fun t ht hW => ⟨⟨_, (), rfl, rfl, trivial⟩, hS.F ht⟩) hS.2.2 dX1_honeyOf_18

set_option maxHeartbeats 4000000 in
set_option maxRecDepth 100000 in
theorem c_X1_faultOf (l : Launch) (dC : Nat → ClassId) (dI : Nat → Nat → Nat) (cI : ClassId) (a : Nat → Nat) (v0 : Nat) (R mi : Nat → Nat) (n w : Nat) (wk : Int32) (hn : n ≤ 4) (hw : w ≤ 5) (s_ f : Nat) (hs : s_ < n) (hf : f < 4) : Met l yX1_faultOf wsX1_faultOf ({ frames := 1, cells := 0, slots := 0, locals := 21 } : Room) (roP dC dI cI (chW cI a v0 R mi n w wk) [.ref (a 0), .int (nI (s_)), .int (nI (f))]) (roI (fun r => r = nI (R (8 * s_ + 1 + f)))) 0 0 (fun _ => False) := by
  refine Met.ofW (cc := cX1_faultOf) (maxL := 3) (ret := (some .int)) (by decide) rfl ?_
  intro p e s m args below meth c s₁ B hml hv
  obtain ⟨rfl, hP, hK⟩ := hv
  have hx := B.exec
  have hb := B.bytes
  have hr := B.returns
  have hts := atoms_spec (ws := wsX1_faultOf) B.pre
  have hown : s.vm.findClass RX1 = some m.cls := findClass_of_methodNamed B.named
  have hlocks := B.notSynchronized
  have hS : va_S (fun _ => False) s.heap s.heap [] := va_S.rf
  have hl := lv_entry ([.ref (a 0), .int (nI (s_)), .int (nI (f))]) (n := 3) (Nat.le_of_ble_eq_true rfl)
  rw [lg_entry_eq]
  generalize (lg_sl ([.ref (a 0), .int (nI (s_)), .int (nI (f))]) ++ List.replicate (3 - (lg_sl ([.ref (a 0), .int (nI (s_)), .int (nI (f))])).length) Slot.unset).toArray = ls at hl ⊢
  have hl : lv_has ls 3 [(0, .ref (a 0)), (1, .int (nI (s_))), (2, .int (nI (f)))] := hl
  refine lv_aload_n hx hb dX1_faultOf_0 rfl (lv_at hl 0 rfl) ?_
  refine lv_iload_n hx hb dX1_faultOf_1 rfl (lv_at hl 1 rfl) ?_
  refine ro_calli (va_runV (As := [.int (nI (s_))]) (rest := []) ⟨hx, hb, hml, hown, hts⟩ (c_X1_hasSinger l dC dI cI a v0 R mi n w wk (by omega) (by omega) (nI (s_))) (cwV 1 hts gX1_faultOf_X1_hasSinger rfl rfl rfl (by decide +kernel) ⟨Nat.le_of_ble_eq_true rfl, Nat.le_of_ble_eq_true rfl⟩) (ro_pv hK hP [0, 1, 2, 3, 4, 5, 6] rfl (ci := 1) (q0 := 0) (C := RX1) (T := TX1) (N := 10) rfl rfl) rfl rfl hl.1 rfl (lv_room (Nat.le_of_ble_eq_true rfl)) dX1_faultOf_2 ⟨Nat.zero_le _, Nat.zero_le _⟩) hS hP (fun r1 H locs hr1 hP hS => ?_)
  subst hr1
  refine tp_i (z := nI 1) (bI_t (inR_n (by omega) (by omega))) ?_
  refine lv_if_eq (tgt := 28) hx hb dX1_faultOf_5 (by decide) (fun c => absurd c (by decide)) (fun _ => ?_)
  refine lv_iload_n hx hb dX1_faultOf_8 rfl (lv_at hl 2 rfl) ?_
  refine ro_calli (va_runS (As := [.int (nI (f))]) (rest := []) ⟨hx, hb, hml, hown, hts⟩ (c_X1_isFault l dC dI cI (nI (f))) (va_cwS 1 hts gX1_faultOf_X1_isFault rfl rfl rfl (by decide +kernel) ⟨Nat.le_of_ble_eq_true rfl, Nat.le_of_ble_eq_true rfl⟩) (ro_ps hK hP [] rfl) rfl rfl hl.1 rfl (lv_room (Nat.le_of_ble_eq_true rfl)) dX1_faultOf_9 ⟨Nat.zero_le _, Nat.zero_le _⟩) hS hP (fun r2 H locs hr2 hP hS => ?_)
  subst hr2
  refine tp_i (z := nI 1) (bI_t (inR_n (by omega) (by omega))) ?_
  refine lv_if_eq (tgt := 28) hx hb dX1_faultOf_12 (by decide) (fun c => absurd c (by decide)) (fun _ => ?_)
  refine lv_aload_n hx hb dX1_faultOf_15 rfl (lv_at hl 0 rfl) ?_
  refine va_get (D := (dC, dI)) (ci := 1) (v := .ref (a 2)) (C := RX1) (T := TX1) (N := 10) hx hb hts (fun _ h => List.mem_cons_of_mem _ (List.mem_append_right _ (h))) hown hK.1 hP 0 rfl rfl 2 (by decide) (hts (Cond.fieldLink RX1 15 "WorstVoice$Choir" "faults" "[I") (List.mem_of_getElem? (i := 1) rfl)) (fun _ h9 => h9) rfl dX1_faultOf_16 ?_
  refine lv_iconst (v := nI (4)) hx hb dX1_faultOf_19 (by decide) ?_
  refine lv_iload_n hx hb dX1_faultOf_20 rfl (lv_at hl 1 rfl) ?_
  refine lv_imul hx hb dX1_faultOf_21 ?_
  refine tp_i (z := nI (4 * s_)) (pk_mul (4) (s_)) ?_
  refine lv_iload_n hx hb dX1_faultOf_22 rfl (lv_at hl 2 rfl) ?_
  refine lv_iadd hx hb dX1_faultOf_23 ?_
  refine tp_i (z := nI (4 * s_ + f)) (nI_add (4 * s_) (f)) ?_
  refine va_iald hx hb hK.1 hP 2 0 rfl rfl (vp_in_nI (by omega) (by decide)) dX1_faultOf_24 ?_
  refine tp_i (z := nI (R (8 * ((4 * s_ + f) / 4) + 1 + (4 * s_ + f) % 4))) (ld_n (fun ii => nI (R (8 * (ii / 4) + 1 + ii % 4))) (by omega)) ?_
  refine lv_goto (tgt := 29) hx hb dX1_faultOf_25 (by decide) ?_
  exact W.iret hx hb hr (fun t ht hW => ⟨⟨_, (), rfl, (by congr 2; omega), trivial⟩, hS.F ht⟩) hS.2.2 dX1_faultOf_29

set_option maxHeartbeats 4000000 in
set_option maxRecDepth 100000 in
theorem c_X1_minds (l : Launch) (dC : Nat → ClassId) (dI : Nat → Nat → Nat) (cI : ClassId) (a : Nat → Nat) (v0 : Nat) (R mi : Nat → Nat) (n w : Nat) (wk : Int32) (hn : n ≤ 4) (hw : w ≤ 5) (s_ : Nat) (hs : s_ < w) : Met l yX1_minds wsX1_minds ({ frames := 1, cells := 0, slots := 0, locals := 21 } : Room) (roP dC dI cI (chW cI a v0 R mi n w wk) [.ref (a 0), .int (nI (s_))]) (roI (fun r => r = nI (mi s_))) 0 0 (fun _ => False) := by
  refine Met.ofW (cc := cX1_minds) (maxL := 2) (ret := (some .int)) (by decide) rfl ?_
  intro p e s m args below meth c s₁ B hml hv
  obtain ⟨rfl, hP, hK⟩ := hv
  have hx := B.exec
  have hb := B.bytes
  have hr := B.returns
  have hts := atoms_spec (ws := wsX1_minds) B.pre
  have hown : s.vm.findClass RX1 = some m.cls := findClass_of_methodNamed B.named
  have hlocks := B.notSynchronized
  have hS : va_S (fun _ => False) s.heap s.heap [] := va_S.rf
  have hl := lv_entry ([.ref (a 0), .int (nI (s_))]) (n := 2) (Nat.le_of_ble_eq_true rfl)
  rw [lg_entry_eq]
  generalize (lg_sl ([.ref (a 0), .int (nI (s_))]) ++ List.replicate (2 - (lg_sl ([.ref (a 0), .int (nI (s_))])).length) Slot.unset).toArray = ls at hl ⊢
  have hl : lv_has ls 2 [(0, .ref (a 0)), (1, .int (nI (s_)))] := hl
  refine lv_aload_n hx hb dX1_minds_0 rfl (lv_at hl 0 rfl) ?_
  refine lv_iload_n hx hb dX1_minds_1 rfl (lv_at hl 1 rfl) ?_
  refine ro_calli (va_runV (As := [.int (nI (s_))]) (rest := []) ⟨hx, hb, hml, hown, hts⟩ (c_X1_hasWidow l dC dI cI a v0 R mi n w wk (by omega) (by omega) (nI (s_))) (cwV 1 hts gX1_minds_X1_hasWidow rfl rfl rfl (by decide +kernel) ⟨Nat.le_of_ble_eq_true rfl, Nat.le_of_ble_eq_true rfl⟩) (ro_pv hK hP [0, 1, 2, 3, 4, 5, 6] rfl (ci := 1) (q0 := 0) (C := RX1) (T := TX1) (N := 10) rfl rfl) rfl rfl hl.1 rfl (lv_room (Nat.le_of_ble_eq_true rfl)) dX1_minds_2 ⟨Nat.zero_le _, Nat.zero_le _⟩) hS hP (fun r1 H locs hr1 hP hS => ?_)
  subst hr1
  refine tp_i (z := nI 1) (bI_t (inR_n (by omega) (by omega))) ?_
  refine lv_if_eq (tgt := 17) hx hb dX1_minds_5 (by decide) (fun c => absurd c (by decide)) (fun _ => ?_)
  refine lv_aload_n hx hb dX1_minds_8 rfl (lv_at hl 0 rfl) ?_
  refine va_get (D := (dC, dI)) (ci := 1) (v := .ref (a 6)) (C := RX1) (T := TX1) (N := 10) hx hb hts (fun _ h => List.mem_cons_of_mem _ (List.mem_append_right _ (h))) hown hK.1 hP 0 rfl rfl 6 (by decide) (hts (Cond.fieldLink RX1 27 "WorstVoice$Choir" "minded" "[I") (List.mem_of_getElem? (i := 1) rfl)) (fun _ h9 => h9) rfl dX1_minds_9 ?_
  refine lv_iload_n hx hb dX1_minds_12 rfl (lv_at hl 1 rfl) ?_
  refine va_iald hx hb hK.1 hP 6 0 rfl rfl (vp_in_nI (by omega) (by decide)) dX1_minds_13 ?_
  refine tp_i (z := nI (mi (s_))) (ld_n (fun ii => nI (mi ii)) (by omega)) ?_
  refine lv_goto (tgt := 18) hx hb dX1_minds_14 (by decide) ?_
  exact W.iret hx hb hr (fun t ht hW => ⟨⟨_, (), rfl, rfl, trivial⟩, hS.F ht⟩) hS.2.2 dX1_minds_18

set_option maxHeartbeats 4000000 in
set_option maxRecDepth 100000 in
theorem c_X1_voice (l : Launch) (dC : Nat → ClassId) (dI : Nat → Nat → Nat) (cI : ClassId) (a v : Nat → Nat) (R mi : Nat → Nat) (n w : Nat) (wk : Int32) (hR : WR R) (hn : n ≤ 4) (hw : w ≤ 5) (s_ : Nat) (hs : s_ < n) : Met l yX1_voice wsX1_voice ({ frames := 1, cells := 0, slots := 0, locals := 21 } : Room) (roP dC dI cI (chW cI a (v 0) R mi n w wk ++ voW v) [.ref (a 0), .int (nI (s_))]) (roR (fun r => r = v (R (8 * s_) + 1))) 0 0 (fun _ => False) := by
  refine Met.ofW (cc := cX1_voice) (maxL := 2) (ret := (some (.object "WorstVoice$Singer"))) (by decide) rfl ?_
  intro p e s m args below meth c s₁ B hml hv
  obtain ⟨rfl, hP, hK⟩ := hv
  have hx := B.exec
  have hb := B.bytes
  have hr := B.returns
  have hts := atoms_spec (ws := wsX1_voice) B.pre
  have hown : s.vm.findClass RX1 = some m.cls := findClass_of_methodNamed B.named
  have hlocks := B.notSynchronized
  have hS : va_S (fun _ => False) s.heap s.heap [] := va_S.rf
  have hl := lv_entry ([.ref (a 0), .int (nI (s_))]) (n := 2) (Nat.le_of_ble_eq_true rfl)
  rw [lg_entry_eq]
  generalize (lg_sl ([.ref (a 0), .int (nI (s_))]) ++ List.replicate (2 - (lg_sl ([.ref (a 0), .int (nI (s_))])).length) Slot.unset).toArray = ls at hl ⊢
  have hl : lv_has ls 2 [(0, .ref (a 0)), (1, .int (nI (s_)))] := hl
  refine lv_aload_n hx hb dX1_voice_0 rfl (lv_at hl 0 rfl) ?_
  refine va_get (D := (dC, dI)) (ci := 1) (v := .ref (v 0)) (C := RX1) (T := TX1) (N := 10) hx hb hts (fun _ h => List.mem_cons_of_mem _ (List.mem_append_left _ (List.mem_append_right _ (h)))) hown hK.1 hP 0 rfl rfl 0 (by decide) (hts (Cond.fieldLink RX1 30 "WorstVoice$Choir" "voices" "LWorstVoice$Voices;") (List.mem_of_getElem? (i := 1) rfl)) (fun _ h9 => h9) rfl dX1_voice_1 ?_
  refine lv_aload_n hx hb dX1_voice_4 rfl (lv_at hl 0 rfl) ?_
  refine lv_iload_n hx hb dX1_voice_5 rfl (lv_at hl 1 rfl) ?_
  refine ro_calli (va_runV (As := [.int (nI (s_))]) (rest := [.ref (v 0)]) ⟨hx, hb, hml, hown, hts⟩ (c_X1_hasSinger l dC dI cI a (v 0) R mi n w wk (by omega) (by omega) (nI (s_))) (cwV 1 hts gX1_voice_X1_hasSinger rfl rfl rfl (by decide +kernel) ⟨Nat.le_of_ble_eq_true rfl, Nat.le_of_ble_eq_true rfl⟩) (ro_pv hK hP [0, 1, 2, 3, 4, 5, 6] rfl (ci := 1) (q0 := 0) (C := RX1) (T := TX1) (N := 10) rfl rfl) rfl rfl hl.1 rfl (lv_room (Nat.le_of_ble_eq_true rfl)) dX1_voice_6 ⟨Nat.zero_le _, Nat.zero_le _⟩) hS hP (fun r1 H locs hr1 hP hS => ?_)
  subst hr1
  refine tp_i (z := nI 1) (bI_t (inR_n (by omega) (by omega))) ?_
  refine lv_if_eq (tgt := 21) hx hb dX1_voice_9 (by decide) (fun c => absurd c (by decide)) (fun _ => ?_)
  refine lv_aload_n hx hb dX1_voice_12 rfl (lv_at hl 0 rfl) ?_
  refine va_get (D := (dC, dI)) (ci := 1) (v := .ref (a 1)) (C := RX1) (T := TX1) (N := 10) hx hb hts (fun _ h => List.mem_cons_of_mem _ (List.mem_append_left _ (List.mem_append_right _ (h)))) hown hK.1 hP 0 rfl rfl 1 (by decide) (hts (Cond.fieldLink RX1 9 "WorstVoice$Choir" "kinds" "[I") (List.mem_of_getElem? (i := 2) rfl)) (fun _ h9 => h9) rfl dX1_voice_13 ?_
  refine lv_iload_n hx hb dX1_voice_16 rfl (lv_at hl 1 rfl) ?_
  refine va_iald hx hb hK.1 hP 1 0 rfl rfl (vp_in_nI (by omega) (by decide)) dX1_voice_17 ?_
  refine tp_i (z := nI (R (8 * (s_)))) (ld_n (fun ii => nI (R (8 * ii))) (by omega)) ?_
  refine lv_goto (tgt := 22) hx hb dX1_voice_18 (by decide) ?_
  refine ro_callr (va_runV (As := [.int (nI (R (8 * (s_))))]) (rest := []) ⟨hx, hb, hml, hown, hts⟩ (c_X8_ofKind l dC dI cI v (R (8 * (s_))) (hR.k (by omega))) (cwV 1 hts gX1_voice_X8_ofKind rfl rfl rfl (by decide +kernel) ⟨Nat.le_of_ble_eq_true rfl, Nat.le_of_ble_eq_true rfl⟩) (ro_pv hK hP [7, 8, 9, 10, 11, 12] rfl (ci := 8) (q0 := 7) (C := RX8) (T := TX8) (N := 5) rfl rfl) rfl rfl hl.1 rfl (lv_room (Nat.le_of_ble_eq_true rfl)) dX1_voice_22 ⟨Nat.zero_le _, Nat.zero_le _⟩) hS hP (fun r2 H locs hr2 hP hS => ?_)
  subst hr2
  exact W.aret (v := .ref (v (R (8 * (s_)) + 1))) hx hb hr (Or.inl ⟨_, rfl⟩) (Or.inr ⟨_, rfl⟩) (fun t ht hW => ⟨⟨(), _, rfl, trivial, rfl⟩, hS.F ht⟩) hS.2.2 dX1_voice_25

set_option maxHeartbeats 4000000 in
set_option maxRecDepth 100000 in
theorem c_X1_bad (l : Launch) (dC : Nat → ClassId) (dI : Nat → Nat → Nat) (cI : ClassId) (a v : Nat → Nat) (R mi : Nat → Nat) (n w : Nat) (wk : Int32) (hR : WR R) (hn : n ≤ 4) (hw : w ≤ 5) (s_ f : Nat) (hs : s_ < n) (hf : f < 4) : Met l yX1_bad wsX1_bad ({ frames := 1, cells := 0, slots := 0, locals := 40 } : Room) (roP dC dI cI (chW cI a (v 0) R mi n w wk ++ voW v) [.ref (a 0), .int (nI (s_)), .int (nI (f))]) (roI (fun r => r = nI (hb_ R s_ f))) 0 0 (fun _ => False) := by
  refine Met.ofW (cc := cX1_bad) (maxL := 4) (ret := (some .int)) (by decide) rfl ?_
  intro p e s m args below meth c s₁ B hml hv
  obtain ⟨rfl, hP, hK⟩ := hv
  have hx := B.exec
  have hb := B.bytes
  have hr := B.returns
  have hts := atoms_spec (ws := wsX1_bad) B.pre
  have hown : s.vm.findClass RX1 = some m.cls := findClass_of_methodNamed B.named
  have hlocks := B.notSynchronized
  have hS : va_S (fun _ => False) s.heap s.heap [] := va_S.rf
  have hl := lv_entry ([.ref (a 0), .int (nI (s_)), .int (nI (f))]) (n := 4) (Nat.le_of_ble_eq_true rfl)
  rw [lg_entry_eq]
  generalize (lg_sl ([.ref (a 0), .int (nI (s_)), .int (nI (f))]) ++ List.replicate (4 - (lg_sl ([.ref (a 0), .int (nI (s_)), .int (nI (f))])).length) Slot.unset).toArray = ls at hl ⊢
  have hl : lv_has ls 4 [(0, .ref (a 0)), (1, .int (nI (s_))), (2, .int (nI (f)))] := hl
  refine W_abs (fun G hG => ?_)
  have L65 : ∀ (_ : Unit), ∀ (H : Heap) (locs : List Loc), va_P (dC, dI) vwCl [((a 0), .inr (1, [.ref (v 0), .ref (a 1), .ref (a 2), .ref (a 3), .ref (a 4), .ref (a 5), .ref (a 6), .int (nI (n)), .int (nI (w)), .int (wk)])), ((a 1), .inl (cI, 4, .inl (fun ii => nI (R (8 * ii))))), ((a 2), .inl (cI, 16, .inl (fun ii => nI (R (8 * (ii / 4) + 1 + ii % 4))))), ((a 3), .inl (cI, 4, .inl (fun ii => nI (R (8 * ii + 5))))), ((a 4), .inl (cI, 4, .inl (fun ii => nI (R (8 * ii + 6))))), ((a 5), .inl (cI, 4, .inl (fun ii => nI (R (8 * ii + 7))))), ((a 6), .inl (cI, 5, .inl (fun ii => nI (mi ii)))), ((v 0), .inr (8, [.ref (v 1), .ref (v 2), .ref (v 3), .ref (v 4), .ref (v 5)])), ((v 1), .inr (6, [])), ((v 2), .inr (7, [])), ((v 3), .inr (0, [])), ((v 4), .inr (3, [])), ((v 5), .inr (2, []))] H → va_S (fun _ => False) s.heap H locs → ∀ (ls : Array Slot), lv_has ls 4 [(0, .ref (a 0)), (1, .int (nI (s_))), (2, .int (nI (f))), (3, .int (nI (pb (R (8 * s_)) f (R (8 * s_ + 1 + f)) + (if f = 0 ∨ f = 1 then 3 * R (8 * s_ + 5) else 0))))] → G H locs (F0 m 65 ls []) := by
    intro _  H locs hP hS ls hl
    refine (hG _ _ _).mpr ?_
    have hpb := pb_le (k := R (8 * s_)) (f := f) (hR.f (s := s_) (by omega) hf)
    have hcc := hR.c (s := s_) (by omega)
    have hll := hR.l (s := s_) (by omega)
    have hhh := hR.h (s := s_) (by omega)
    have hif : (if f = 0 ∨ f = 1 then 3 * R (8 * s_ + 5) else 0) ≤ 3 := by split <;> omega
    refine lv_iconst (v := nI (0)) hx hb dX1_bad_65 (by decide) ?_
    refine lv_iload_n hx hb dX1_bad_66 rfl (lv_at hl 3 rfl) ?_
    refine lv_iconst (v := nI (1)) hx hb dX1_bad_67 (by decide) ?_
    refine lv_aload_n hx hb dX1_bad_68 rfl (lv_at hl 0 rfl) ?_
    refine va_get (D := (dC, dI)) (ci := 1) (v := .ref (a 4)) (C := RX1) (T := TX1) (N := 10) hx hb hts (fun _ h => List.mem_cons_of_mem _ (List.mem_append_left _ (List.mem_append_right _ (h)))) hown hK.1 hP 0 rfl rfl 4 (by decide) (hts (Cond.fieldLink RX1 21 "WorstVoice$Choir" "lefts" "[I") (List.mem_of_getElem? (i := 5) rfl)) (fun _ h9 => h9) rfl dX1_bad_69 ?_
    refine lv_iload_n hx hb dX1_bad_72 rfl (lv_at hl 1 rfl) ?_
    refine va_iald hx hb hK.1 hP 4 0 rfl rfl (vp_in_nI (by omega) (by decide)) dX1_bad_73 ?_
    refine tp_i (z := nI (R (8 * (s_) + 6))) (ld_n (fun ii => nI (R (8 * ii + 6))) (by omega)) ?_
    refine lv_imul hx hb dX1_bad_74 ?_
    refine tp_i (z := nI (1 * (R (8 * (s_) + 6)))) (pk_mul (1) (R (8 * (s_) + 6))) ?_
    refine lv_isub hx hb dX1_bad_75 ?_
    refine lv_aload_n hx hb dX1_bad_76 rfl (lv_at hl 0 rfl) ?_
    refine va_get (D := (dC, dI)) (ci := 1) (v := .ref (a 5)) (C := RX1) (T := TX1) (N := 10) hx hb hts (fun _ h => List.mem_cons_of_mem _ (List.mem_append_left _ (List.mem_append_right _ (h)))) hown hK.1 hP 0 rfl rfl 5 (by decide) (hts (Cond.fieldLink RX1 24 "WorstVoice$Choir" "honeys" "[I") (List.mem_of_getElem? (i := 6) rfl)) (fun _ h9 => h9) rfl dX1_bad_77 ?_
    refine lv_iload_n hx hb dX1_bad_80 rfl (lv_at hl 1 rfl) ?_
    refine va_iald hx hb hK.1 hP 5 0 rfl rfl (vp_in_nI (by omega) (by decide)) dX1_bad_81 ?_
    refine tp_i (z := nI (R (8 * (s_) + 7))) (ld_n (fun ii => nI (R (8 * ii + 7))) (by omega)) ?_
    refine lv_isub hx hb dX1_bad_82 ?_
    refine va_mmax hx hb (hml.trans hl.1.symm) hown (hts (Cond.methodLink RX1 53 Lib.Math.max.name) (List.mem_of_getElem? (i := 7) rfl)) (hts (Cond.static Lib.Math.max.name) (List.mem_of_getElem? (i := 8) rfl)) (hts (Cond.initialized "java/lang/Math") (List.mem_of_getElem? (i := 9) rfl)) (hts (Cond.code Lib.Math.max.name Lib.Math.max.code 2 (some .int)) (List.mem_of_getElem? (i := 10) rfl)) (Nat.le_of_ble_eq_true rfl) (Nat.le_of_ble_eq_true rfl) (Nat.zero_le _) (Nat.zero_le _) dX1_bad_83 ?_
    refine tp_i (z := nI (hb_ R s_ f)) (mx_sub (by omega) (by omega) (by omega)) ?_
    exact W.iret hx hb hr (fun t ht hW => ⟨⟨_, (), rfl, rfl, trivial⟩, hS.F ht⟩) hS.2.2 dX1_bad_86
  have L44 : ∀ (_ : Unit), ∀ (H : Heap) (locs : List Loc), va_P (dC, dI) vwCl [((a 0), .inr (1, [.ref (v 0), .ref (a 1), .ref (a 2), .ref (a 3), .ref (a 4), .ref (a 5), .ref (a 6), .int (nI (n)), .int (nI (w)), .int (wk)])), ((a 1), .inl (cI, 4, .inl (fun ii => nI (R (8 * ii))))), ((a 2), .inl (cI, 16, .inl (fun ii => nI (R (8 * (ii / 4) + 1 + ii % 4))))), ((a 3), .inl (cI, 4, .inl (fun ii => nI (R (8 * ii + 5))))), ((a 4), .inl (cI, 4, .inl (fun ii => nI (R (8 * ii + 6))))), ((a 5), .inl (cI, 4, .inl (fun ii => nI (R (8 * ii + 7))))), ((a 6), .inl (cI, 5, .inl (fun ii => nI (mi ii)))), ((v 0), .inr (8, [.ref (v 1), .ref (v 2), .ref (v 3), .ref (v 4), .ref (v 5)])), ((v 1), .inr (6, [])), ((v 2), .inr (7, [])), ((v 3), .inr (0, [])), ((v 4), .inr (3, [])), ((v 5), .inr (2, []))] H → va_S (fun _ => False) s.heap H locs → ∀ (ls : Array Slot), lv_has ls 4 [(0, .ref (a 0)), (1, .int (nI (s_))), (2, .int (nI (f)))] → G H locs (F0 m 44 ls [.int (nI (pb (R (8 * s_)) f (R (8 * s_ + 1 + f))))]) := by
    intro _  H locs hP hS ls hl
    refine (hG _ _ _).mpr ?_
    have hpb := pb_le (k := R (8 * s_)) (f := f) (hR.f (s := s_) (by omega) hf)
    have hcc := hR.c (s := s_) (by omega)
    have hll := hR.l (s := s_) (by omega)
    have hhh := hR.h (s := s_) (by omega)
    refine lv_istore_n (lv' := [(3, .int (nI (pb (R (8 * s_)) f (R (8 * s_ + 1 + f))))), (0, .ref (a 0)), (1, .int (nI (s_))), (2, .int (nI (f)))]) hx hb dX1_bad_44 rfl hl (by decide) rfl (fun ls hl => ?_)
    refine lv_iload_n hx hb dX1_bad_45 rfl (lv_at hl 3 rfl) ?_
    refine lv_if_eq (tgt := 54) hx hb dX1_bad_46 (by decide) (fun c1 => ?_) (fun c1 => ?_)
    · have c1 := (z_eq (by omega)).mp c1
      refine lv_iload_n hx hb dX1_bad_54 rfl (lv_at hl 0 rfl) ?_
      refine lv_iconst (v := nI (3)) hx hb dX1_bad_55 (by decide) ?_
      refine lv_aload_n hx hb dX1_bad_56 rfl (lv_at hl 1 rfl) ?_
      refine va_get (D := (dC, dI)) (ci := 1) (v := .ref (a 3)) (C := RX1) (T := TX1) (N := 10) hx hb hts (fun _ h => List.mem_cons_of_mem _ (List.mem_append_left _ (List.mem_append_right _ (h)))) hown hK.1 hP 0 rfl rfl 3 (by decide) (hts (Cond.fieldLink RX1 18 "WorstVoice$Choir" "colds" "[I") (List.mem_of_getElem? (i := 4) rfl)) (fun _ h9 => h9) rfl dX1_bad_57 ?_
      refine lv_iload_n hx hb dX1_bad_60 rfl (lv_at hl 2 rfl) ?_
      refine va_iald hx hb hK.1 hP 3 0 rfl rfl (vp_in_nI (by omega) (by decide)) dX1_bad_61 ?_
      refine tp_i (z := nI (R (8 * (s_) + 5))) (ld_n (fun ii => nI (R (8 * ii + 5))) (by omega)) ?_
      refine lv_imul hx hb dX1_bad_62 ?_
      refine tp_i (z := nI (3 * (R (8 * (s_) + 5)))) (pk_mul (3) (R (8 * (s_) + 5))) ?_
      refine lv_iadd hx hb dX1_bad_63 ?_
      refine tp_i (z := nI (pb (R (8 * s_)) f (R (8 * s_ + 1 + f)) + 3 * (R (8 * (s_) + 5)))) (nI_add (pb (R (8 * s_)) f (R (8 * s_ + 1 + f))) (3 * (R (8 * (s_) + 5)))) ?_
      refine lv_istore_n (lv' := [(3, .int (nI (pb (R (8 * s_)) f (R (8 * s_ + 1 + f)) + 3 * (R (8 * (s_) + 5))))), (0, .ref (a 0)), (1, .int (nI (s_))), (2, .int (nI (f)))]) hx hb dX1_bad_64 rfl hl (by decide) rfl (fun ls hl => ?_)
      exact (hG _ _ _).mp (L65 ()  _ _ hP hS _ (by rw [show (if f = 0 ∨ f = 1 then 3 * R (8 * s_ + 5) else 0) = 3 * R (8 * s_ + 5) from if_pos (by omega)]; exact lv_sub hl [1, 2, 3, 0] rfl))
    · have c1 := mt (z_eq (by omega)).mpr c1
      refine lv_iload_n hx hb dX1_bad_49 rfl (lv_at hl 3 rfl) ?_
      refine lv_iconst (v := nI (1)) hx hb dX1_bad_50 (by decide) ?_
      refine lv_icmp_ne (tgt := 65) hx hb dX1_bad_51 (by decide) (fun c2 => ?_) (fun c2 => ?_)
      · have c2 := mt (nI_eq (by omega) (by decide)).mpr c2
        exact (hG _ _ _).mp (L65 ()  _ _ hP hS _ (by rw [show (if f = 0 ∨ f = 1 then 3 * R (8 * s_ + 5) else 0) = 0 from if_neg (by omega), Nat.add_zero]; exact lv_sub hl [1, 2, 3, 0] rfl))
      · have c2 := (nI_eq (by omega) (by decide)).mp c2
        refine lv_iload_n hx hb dX1_bad_54 rfl (lv_at hl 0 rfl) ?_
        refine lv_iconst (v := nI (3)) hx hb dX1_bad_55 (by decide) ?_
        refine lv_aload_n hx hb dX1_bad_56 rfl (lv_at hl 1 rfl) ?_
        refine va_get (D := (dC, dI)) (ci := 1) (v := .ref (a 3)) (C := RX1) (T := TX1) (N := 10) hx hb hts (fun _ h => List.mem_cons_of_mem _ (List.mem_append_left _ (List.mem_append_right _ (h)))) hown hK.1 hP 0 rfl rfl 3 (by decide) (hts (Cond.fieldLink RX1 18 "WorstVoice$Choir" "colds" "[I") (List.mem_of_getElem? (i := 4) rfl)) (fun _ h9 => h9) rfl dX1_bad_57 ?_
        refine lv_iload_n hx hb dX1_bad_60 rfl (lv_at hl 2 rfl) ?_
        refine va_iald hx hb hK.1 hP 3 0 rfl rfl (vp_in_nI (by omega) (by decide)) dX1_bad_61 ?_
        refine tp_i (z := nI (R (8 * (s_) + 5))) (ld_n (fun ii => nI (R (8 * ii + 5))) (by omega)) ?_
        refine lv_imul hx hb dX1_bad_62 ?_
        refine tp_i (z := nI (3 * (R (8 * (s_) + 5)))) (pk_mul (3) (R (8 * (s_) + 5))) ?_
        refine lv_iadd hx hb dX1_bad_63 ?_
        refine tp_i (z := nI (pb (R (8 * s_)) f (R (8 * s_ + 1 + f)) + 3 * (R (8 * (s_) + 5)))) (nI_add (pb (R (8 * s_)) f (R (8 * s_ + 1 + f))) (3 * (R (8 * (s_) + 5)))) ?_
        refine lv_istore_n (lv' := [(3, .int (nI (pb (R (8 * s_)) f (R (8 * s_ + 1 + f)) + 3 * (R (8 * (s_) + 5))))), (0, .ref (a 0)), (1, .int (nI (s_))), (2, .int (nI (f)))]) hx hb dX1_bad_64 rfl hl (by decide) rfl (fun ls hl => ?_)
        exact (hG _ _ _).mp (L65 ()  _ _ hP hS _ (by rw [show (if f = 0 ∨ f = 1 then 3 * R (8 * s_ + 5) else 0) = 3 * R (8 * s_ + 5) from if_pos (by omega)]; exact lv_sub hl [1, 2, 3, 0] rfl))
  refine (hG _ _ _).mpr ?_
  refine lv_aload_n hx hb dX1_bad_0 rfl (lv_at hl 0 rfl) ?_
  refine lv_iload_n hx hb dX1_bad_1 rfl (lv_at hl 1 rfl) ?_
  refine ro_calli (va_runV (As := [.int (nI (s_))]) (rest := []) ⟨hx, hb, hml, hown, hts⟩ (c_X1_hasSinger l dC dI cI a (v 0) R mi n w wk (by omega) (by omega) (nI (s_))) (cwV 1 hts gX1_bad_X1_hasSinger rfl rfl rfl (by decide +kernel) ⟨Nat.le_of_ble_eq_true rfl, Nat.le_of_ble_eq_true rfl⟩) (ro_pv hK hP [0, 1, 2, 3, 4, 5, 6] rfl (ci := 1) (q0 := 0) (C := RX1) (T := TX1) (N := 10) rfl rfl) rfl rfl hl.1 rfl (lv_room (Nat.le_of_ble_eq_true rfl)) dX1_bad_2 ⟨Nat.zero_le _, Nat.zero_le _⟩) hS hP (fun r3 H locs hr3 hP hS => ?_)
  subst hr3
  refine tp_i (z := nI 1) (bI_t (inR_n (by omega) (by omega))) ?_
  refine lv_if_eq (tgt := 15) hx hb dX1_bad_5 (by decide) (fun c => absurd c (by decide)) (fun _ => ?_)
  refine lv_iload_n hx hb dX1_bad_8 rfl (lv_at hl 2 rfl) ?_
  refine ro_calli (va_runS (As := [.int (nI (f))]) (rest := []) ⟨hx, hb, hml, hown, hts⟩ (c_X1_isFault l dC dI cI (nI (f))) (va_cwS 1 hts gX1_bad_X1_isFault rfl rfl rfl (by decide +kernel) ⟨Nat.le_of_ble_eq_true rfl, Nat.le_of_ble_eq_true rfl⟩) (ro_ps hK hP [] rfl) rfl rfl hl.1 rfl (lv_room (Nat.le_of_ble_eq_true rfl)) dX1_bad_9 ⟨Nat.zero_le _, Nat.zero_le _⟩) hS hP (fun r4 H locs hr4 hP hS => ?_)
  subst hr4
  refine tp_i (z := nI 1) (bI_t (inR_n (by omega) (by omega))) ?_
  refine lv_if_ne (tgt := 17) hx hb dX1_bad_12 (by decide) (fun _ => ?_) (fun c => absurd c (by decide))
  refine lv_aload_n hx hb dX1_bad_17 rfl (lv_at hl 0 rfl) ?_
  refine va_get (D := (dC, dI)) (ci := 1) (v := .ref (v 0)) (C := RX1) (T := TX1) (N := 10) hx hb hts (fun _ h => List.mem_cons_of_mem _ (List.mem_append_left _ (List.mem_append_right _ (h)))) hown hK.1 hP 0 rfl rfl 0 (by decide) (hts (Cond.fieldLink RX1 30 "WorstVoice$Choir" "voices" "LWorstVoice$Voices;") (List.mem_of_getElem? (i := 1) rfl)) (fun _ h9 => h9) rfl dX1_bad_18 ?_
  refine lv_aload_n hx hb dX1_bad_21 rfl (lv_at hl 0 rfl) ?_
  refine va_get (D := (dC, dI)) (ci := 1) (v := .ref (a 1)) (C := RX1) (T := TX1) (N := 10) hx hb hts (fun _ h => List.mem_cons_of_mem _ (List.mem_append_left _ (List.mem_append_right _ (h)))) hown hK.1 hP 0 rfl rfl 1 (by decide) (hts (Cond.fieldLink RX1 9 "WorstVoice$Choir" "kinds" "[I") (List.mem_of_getElem? (i := 2) rfl)) (fun _ h9 => h9) rfl dX1_bad_22 ?_
  refine lv_iload_n hx hb dX1_bad_25 rfl (lv_at hl 1 rfl) ?_
  refine va_iald hx hb hK.1 hP 1 0 rfl rfl (vp_in_nI (by omega) (by decide)) dX1_bad_26 ?_
  refine tp_i (z := nI (R (8 * (s_)))) (ld_n (fun ii => nI (R (8 * ii))) (by omega)) ?_
  refine ro_callr (va_runV (As := [.int (nI (R (8 * (s_))))]) (rest := []) ⟨hx, hb, hml, hown, hts⟩ (c_X8_ofKind l dC dI cI v (R (8 * (s_))) (hR.k (by omega))) (cwV 1 hts gX1_bad_X8_ofKind rfl rfl rfl (by decide +kernel) ⟨Nat.le_of_ble_eq_true rfl, Nat.le_of_ble_eq_true rfl⟩) (ro_pv hK hP [7, 8, 9, 10, 11, 12] rfl (ci := 8) (q0 := 7) (C := RX8) (T := TX8) (N := 5) rfl rfl) rfl rfl hl.1 rfl (lv_room (Nat.le_of_ble_eq_true rfl)) dX1_bad_27 ⟨Nat.zero_le _, Nat.zero_le _⟩) hS hP (fun r5 H locs hr5 hP hS => ?_)
  subst hr5
  refine lv_iload_n hx hb dX1_bad_30 rfl (lv_at hl 2 rfl) ?_
  refine lv_aload_n hx hb dX1_bad_31 rfl (lv_at hl 0 rfl) ?_
  refine va_get (D := (dC, dI)) (ci := 1) (v := .ref (a 2)) (C := RX1) (T := TX1) (N := 10) hx hb hts (fun _ h => List.mem_cons_of_mem _ (List.mem_append_left _ (List.mem_append_right _ (h)))) hown hK.1 hP 0 rfl rfl 2 (by decide) (hts (Cond.fieldLink RX1 15 "WorstVoice$Choir" "faults" "[I") (List.mem_of_getElem? (i := 3) rfl)) (fun _ h9 => h9) rfl dX1_bad_32 ?_
  refine lv_iconst (v := nI (4)) hx hb dX1_bad_35 (by decide) ?_
  refine lv_iload_n hx hb dX1_bad_36 rfl (lv_at hl 1 rfl) ?_
  refine lv_imul hx hb dX1_bad_37 ?_
  refine tp_i (z := nI (4 * s_)) (pk_mul (4) (s_)) ?_
  refine lv_iload_n hx hb dX1_bad_38 rfl (lv_at hl 2 rfl) ?_
  refine lv_iadd hx hb dX1_bad_39 ?_
  refine tp_i (z := nI (4 * s_ + f)) (nI_add (4 * s_) (f)) ?_
  refine va_iald hx hb hK.1 hP 2 0 rfl rfl (vp_in_nI (by omega) (by decide)) dX1_bad_40 ?_
  refine tp_i (z := nI (R (8 * s_ + 1 + f))) ((ld_n (fun ii => nI (R (8 * (ii / 4) + 1 + ii % 4))) (by omega)).trans (by show nI (R _) = nI (R _); congr 2; omega)) ?_
  have hk5 := hR.k (s := s_) (by omega)
  rcases (show R (8 * s_) = 0 ∨ R (8 * s_) = 1 ∨ R (8 * s_) = 2 ∨ R (8 * s_) = 3 ∨ R (8 * s_) = 4 by omega) with hk | hk | hk | hk | hk
  · refine W.eq (g2 := F0 m 41 ls [.int (nI (R (8 * s_ + 1 + f))), .int (nI (f)), .ref (v 1)]) (by rw [hk]) ?_
    refine ro_calli (va_runV (As := [.int (nI (f)), .int (nI (R (8 * s_ + 1 + f)))]) (rest := []) ⟨hx, hb, hml, hown, hts⟩ (c_X6_plainBad l dC dI cI (v 1) (f) (R (8 * s_ + 1 + f)) hf (hR.f (by omega) hf)) (cwV 2 hts gX1_bad_X6_plainBad rfl rfl rfl (by decide +kernel) ⟨Nat.le_of_ble_eq_true rfl, Nat.le_of_ble_eq_true rfl⟩) (ro_pv hK hP [8] rfl (ci := 6) (q0 := 8) (C := RX6) (T := TX6) (N := 0) rfl rfl) rfl rfl hl.1 rfl (lv_room (Nat.le_of_ble_eq_true rfl)) dX1_bad_41 ⟨Nat.zero_le _, Nat.zero_le _⟩) hS hP (fun r6 H locs hr6 hP hS => ?_)
    subst hr6
    refine tp_i (z := nI (pb (R (8 * s_)) f (R (8 * s_ + 1 + f)))) (by rw [hk]) ?_
    exact (hG _ _ _).mp (L44 ()  _ _ hP hS _ (lv_sub hl [0, 1, 2] rfl))
  · refine W.eq (g2 := F0 m 41 ls [.int (nI (R (8 * s_ + 1 + f))), .int (nI (f)), .ref (v 2)]) (by rw [hk]) ?_
    refine ro_calli (va_runU (As := [.int (nI (f)), .int (nI (R (8 * s_ + 1 + f)))]) (rest := []) ⟨hx, hb, hml, hown, hts⟩ (c_X7_plainBad l dC dI cI (v 2) (f) (R (8 * s_ + 1 + f)) hf (hR.f (by omega) hf)) (va_cwO 2 hts gX1_bad_X7_plainBad_u101X7 rfl rfl rfl (b0 := cX6_plainBad) (m0 := 3) (r0 := some .int) (List.mem_of_getElem? (i := 37) rfl) (by decide +kernel) ⟨Nat.le_of_ble_eq_true rfl, Nat.le_of_ble_eq_true rfl⟩) (ro_pv hK hP [9] rfl (ci := 7) (q0 := 9) (C := RX7) (T := TX7) (N := 0) rfl rfl) rfl rfl hl.1 rfl (lv_room (Nat.le_of_ble_eq_true rfl)) dX1_bad_41 ⟨Nat.zero_le _, Nat.zero_le _⟩) hS hP (fun r7 H locs hr7 hP hS => ?_)
    subst hr7
    refine tp_i (z := nI (pb (R (8 * s_)) f (R (8 * s_ + 1 + f)))) (by rw [hk]) ?_
    exact (hG _ _ _).mp (L44 ()  _ _ hP hS _ (lv_sub hl [0, 1, 2] rfl))
  · refine W.eq (g2 := F0 m 41 ls [.int (nI (R (8 * s_ + 1 + f))), .int (nI (f)), .ref (v 3)]) (by rw [hk]) ?_
    refine ro_calli (va_runU (As := [.int (nI (f)), .int (nI (R (8 * s_ + 1 + f)))]) (rest := []) ⟨hx, hb, hml, hown, hts⟩ (c_X0_plainBad l dC dI cI (v 3) (f) (R (8 * s_ + 1 + f)) hf (hR.f (by omega) hf)) (va_cwO 2 hts gX1_bad_X0_plainBad_u101X0 rfl rfl rfl (b0 := cX6_plainBad) (m0 := 3) (r0 := some .int) (List.mem_of_getElem? (i := 37) rfl) (by decide +kernel) ⟨Nat.le_of_ble_eq_true rfl, Nat.le_of_ble_eq_true rfl⟩) (ro_pv hK hP [10] rfl (ci := 0) (q0 := 10) (C := RX0) (T := TX0) (N := 0) rfl rfl) rfl rfl hl.1 rfl (lv_room (Nat.le_of_ble_eq_true rfl)) dX1_bad_41 ⟨Nat.zero_le _, Nat.zero_le _⟩) hS hP (fun r8 H locs hr8 hP hS => ?_)
    subst hr8
    refine tp_i (z := nI (pb (R (8 * s_)) f (R (8 * s_ + 1 + f)))) (by rw [hk]) ?_
    exact (hG _ _ _).mp (L44 ()  _ _ hP hS _ (lv_sub hl [0, 1, 2] rfl))
  · refine W.eq (g2 := F0 m 41 ls [.int (nI (R (8 * s_ + 1 + f))), .int (nI (f)), .ref (v 4)]) (by rw [hk]) ?_
    refine ro_calli (va_runU (As := [.int (nI (f)), .int (nI (R (8 * s_ + 1 + f)))]) (rest := []) ⟨hx, hb, hml, hown, hts⟩ (c_X3_plainBad l dC dI cI (v 4) (f) (R (8 * s_ + 1 + f)) hf (hR.f (by omega) hf)) (va_cwO 2 hts gX1_bad_X3_plainBad_u101X3 rfl rfl rfl (b0 := cX6_plainBad) (m0 := 3) (r0 := some .int) (List.mem_of_getElem? (i := 37) rfl) (by decide +kernel) ⟨Nat.le_of_ble_eq_true rfl, Nat.le_of_ble_eq_true rfl⟩) (ro_pv hK hP [11] rfl (ci := 3) (q0 := 11) (C := RX3) (T := TX3) (N := 0) rfl rfl) rfl rfl hl.1 rfl (lv_room (Nat.le_of_ble_eq_true rfl)) dX1_bad_41 ⟨Nat.zero_le _, Nat.zero_le _⟩) hS hP (fun r9 H locs hr9 hP hS => ?_)
    subst hr9
    refine tp_i (z := nI (pb (R (8 * s_)) f (R (8 * s_ + 1 + f)))) (by rw [hk]) ?_
    exact (hG _ _ _).mp (L44 ()  _ _ hP hS _ (lv_sub hl [0, 1, 2] rfl))
  · refine W.eq (g2 := F0 m 41 ls [.int (nI (R (8 * s_ + 1 + f))), .int (nI (f)), .ref (v 5)]) (by rw [hk]) ?_
    refine ro_calli (va_runU (As := [.int (nI (f)), .int (nI (R (8 * s_ + 1 + f)))]) (rest := []) ⟨hx, hb, hml, hown, hts⟩ (c_X2_plainBad l dC dI cI (v 5) (f) (R (8 * s_ + 1 + f)) hf (hR.f (by omega) hf)) (va_cwO 2 hts gX1_bad_X2_plainBad_u101X2 rfl rfl rfl (b0 := cX6_plainBad) (m0 := 3) (r0 := some .int) (List.mem_of_getElem? (i := 37) rfl) (by decide +kernel) ⟨Nat.le_of_ble_eq_true rfl, Nat.le_of_ble_eq_true rfl⟩) (ro_pv hK hP [12] rfl (ci := 2) (q0 := 12) (C := RX2) (T := TX2) (N := 0) rfl rfl) rfl rfl hl.1 rfl (lv_room (Nat.le_of_ble_eq_true rfl)) dX1_bad_41 ⟨Nat.zero_le _, Nat.zero_le _⟩) hS hP (fun r10 H locs hr10 hP hS => ?_)
    subst hr10
    refine tp_i (z := nI (pb (R (8 * s_)) f (R (8 * s_ + 1 + f)))) (by rw [hk]) ?_
    exact (hG _ _ _).mp (L44 ()  _ _ hP hS _ (lv_sub hl [0, 1, 2] rfl))

set_option maxHeartbeats 4000000 in
set_option maxRecDepth 100000 in
theorem c_X1_favourite (l : Launch) (dC : Nat → ClassId) (dI : Nat → Nat → Nat) (cI : ClassId) (a v : Nat → Nat) (R mi : Nat → Nat) (n w : Nat) (wk : Int32) (hR : WR R) (hn : n ≤ 4) (hn1 : 1 ≤ n) (hw : w ≤ 5) (i_ : Nat) (hi : i_ < w) (hf : mi i_ < 4) : Met l yX1_favourite wsX1_favourite ({ frames := 2, cells := 0, slots := 0, locals := 63 } : Room) (roP dC dI cI (chW cI a (v 0) R mi n w wk ++ voW v) [.ref (a 0), .int (nI (i_))]) (roI (fun r => r = nI (fv R (mi i_) n))) 0 0 (fun _ => False) := by
  refine Met.ofW (cc := cX1_favourite) (maxL := 5) (ret := (some .int)) (by decide) rfl ?_
  intro p e s m args below meth c s₁ B hml hv
  obtain ⟨rfl, hP, hK⟩ := hv
  have hx := B.exec
  have hb := B.bytes
  have hr := B.returns
  have hts := atoms_spec (ws := wsX1_favourite) B.pre
  have hown : s.vm.findClass RX1 = some m.cls := findClass_of_methodNamed B.named
  have hlocks := B.notSynchronized
  have hS : va_S (fun _ => False) s.heap s.heap [] := va_S.rf
  have hl := lv_entry ([.ref (a 0), .int (nI (i_))]) (n := 5) (Nat.le_of_ble_eq_true rfl)
  rw [lg_entry_eq]
  generalize (lg_sl ([.ref (a 0), .int (nI (i_))]) ++ List.replicate (5 - (lg_sl ([.ref (a 0), .int (nI (i_))])).length) Slot.unset).toArray = ls at hl ⊢
  have hl : lv_has ls 5 [(0, .ref (a 0)), (1, .int (nI (i_)))] := hl
  refine W_abs (fun G hG => ?_)
  have L11 : ∀ (fu : Nat) (i : Nat), 1 ≤ i → i ≤ n → n + 1 ≤ i + fu → ∀ (H : Heap) (locs : List Loc), va_P (dC, dI) vwCl [((a 0), .inr (1, [.ref (v 0), .ref (a 1), .ref (a 2), .ref (a 3), .ref (a 4), .ref (a 5), .ref (a 6), .int (nI (n)), .int (nI (w)), .int (wk)])), ((a 1), .inl (cI, 4, .inl (fun ii => nI (R (8 * ii))))), ((a 2), .inl (cI, 16, .inl (fun ii => nI (R (8 * (ii / 4) + 1 + ii % 4))))), ((a 3), .inl (cI, 4, .inl (fun ii => nI (R (8 * ii + 5))))), ((a 4), .inl (cI, 4, .inl (fun ii => nI (R (8 * ii + 6))))), ((a 5), .inl (cI, 4, .inl (fun ii => nI (R (8 * ii + 7))))), ((a 6), .inl (cI, 5, .inl (fun ii => nI (mi ii)))), ((v 0), .inr (8, [.ref (v 1), .ref (v 2), .ref (v 3), .ref (v 4), .ref (v 5)])), ((v 1), .inr (6, [])), ((v 2), .inr (7, [])), ((v 3), .inr (0, [])), ((v 4), .inr (3, [])), ((v 5), .inr (2, []))] H → va_S (fun _ => False) s.heap H locs → ∀ (ls : Array Slot), lv_has ls 5 [(0, .ref (a 0)), (1, .int (nI (i_))), (2, .int (nI (mi i_))), (3, .int (nI (am (fun s => hb_ R s (mi i_)) (i)))), (4, .int (nI (i)))] → G H locs (F0 m 11 ls []) := by
    intro fu
    induction fu with
    | zero => intro i h1 h2 hfu H locs hP hS ls hl; omega
    | succ fu ih =>
      intro i h1 h2 hfu H locs hP hS ls hl
      refine (hG _ _ _).mpr ?_
      have hlt := am_lt (fun s => hb_ R s (mi i_)) i (by omega)
      refine lv_iload hx hb dX1_favourite_11 (lv_at hl 4 rfl) ?_
      refine lv_aload_n hx hb dX1_favourite_13 rfl (lv_at hl 0 rfl) ?_
      refine va_get (D := (dC, dI)) (ci := 1) (v := .int (nI (n))) (C := RX1) (T := TX1) (N := 10) hx hb hts (fun _ h => List.mem_cons_of_mem _ (List.mem_append_left _ (List.mem_append_right _ (h)))) hown hK.1 hP 0 rfl rfl 7 (by decide) (hts (Cond.fieldLink RX1 46 "WorstVoice$Choir" "singers" "I") (List.mem_of_getElem? (i := 1) rfl)) (fun _ h9 => h9) rfl dX1_favourite_14 ?_
      refine lv_icmp_ge (tgt := 45) hx hb dX1_favourite_17 (by decide) (fun c1 => ?_) (fun c1 => ?_)
      · have c1 := (nI_leI (by omega) (by omega)).mp c1
        refine lv_iload_n hx hb dX1_favourite_45 rfl (lv_at hl 3 rfl) ?_
        exact W.iret hx hb hr (fun t ht hW => ⟨⟨_, (), rfl, (by rw [show i = n by omega]; rfl), trivial⟩, hS.F ht⟩) hS.2.2 dX1_favourite_46
      · have c1 := mt (nI_leI (by omega) (by omega)).mpr c1
        refine lv_aload_n hx hb dX1_favourite_20 rfl (lv_at hl 0 rfl) ?_
        refine lv_iload hx hb dX1_favourite_21 (lv_at hl 4 rfl) ?_
        refine lv_iload_n hx hb dX1_favourite_23 rfl (lv_at hl 2 rfl) ?_
        refine ro_calli (va_runV (As := [.int (nI (i)), .int (nI (mi i_))]) (rest := []) ⟨hx, hb, hml, hown, hts⟩ (c_X1_bad l dC dI cI a v R mi n w wk hR hn hw (i) (mi i_) (by omega) hf) (cwV 2 hts gX1_favourite_X1_bad rfl rfl rfl (by decide +kernel) ⟨Nat.le_of_ble_eq_true rfl, Nat.le_of_ble_eq_true rfl⟩) (ro_pv hK hP [0, 1, 2, 3, 4, 5, 6, 7, 8, 9, 10, 11, 12] rfl (ci := 1) (q0 := 0) (C := RX1) (T := TX1) (N := 10) rfl rfl) rfl rfl hl.1 rfl (lv_room (Nat.le_of_ble_eq_true rfl)) dX1_favourite_24 ⟨Nat.zero_le _, Nat.zero_le _⟩) hS hP (fun r2 H locs hr2 hP hS => ?_)
        subst hr2
        have hb1 := hb_le hR (s := i) (f := mi i_) (by omega) hf
        refine lv_aload_n hx hb dX1_favourite_27 rfl (lv_at hl 0 rfl) ?_
        refine lv_iload_n hx hb dX1_favourite_28 rfl (lv_at hl 3 rfl) ?_
        refine lv_iload_n hx hb dX1_favourite_29 rfl (lv_at hl 2 rfl) ?_
        refine ro_calli (va_runV (As := [.int (nI (am (fun s => hb_ R s (mi i_)) (i))), .int (nI (mi i_))]) (rest := [.int (nI (hb_ R (i) (mi i_)))]) ⟨hx, hb, hml, hown, hts⟩ (c_X1_bad l dC dI cI a v R mi n w wk hR hn hw (am (fun s => hb_ R s (mi i_)) (i)) (mi i_) (by omega) hf) (cwV 2 hts gX1_favourite_X1_bad rfl rfl rfl (by decide +kernel) ⟨Nat.le_of_ble_eq_true rfl, Nat.le_of_ble_eq_true rfl⟩) (ro_pv hK hP [0, 1, 2, 3, 4, 5, 6, 7, 8, 9, 10, 11, 12] rfl (ci := 1) (q0 := 0) (C := RX1) (T := TX1) (N := 10) rfl rfl) rfl rfl hl.1 rfl (lv_room (Nat.le_of_ble_eq_true rfl)) dX1_favourite_30 ⟨Nat.zero_le _, Nat.zero_le _⟩) hS hP (fun r3 H locs hr3 hP hS => ?_)
        subst hr3
        have hb2 := hb_le hR (s := am (fun s => hb_ R s (mi i_)) (i)) (f := mi i_) (by omega) hf
        refine lv_icmp_le (tgt := 39) hx hb dX1_favourite_33 (by decide) (fun c4 => ?_) (fun c4 => ?_)
        · have c4 := (nI_leI (by omega) (by omega)).mp c4
          refine lv_iinc (v := nI (i + 1)) (lv' := [(4, .int (nI (i + 1))), (0, .ref (a 0)), (1, .int (nI (i_))), (2, .int (nI (mi i_))), (3, .int (nI (am (fun s => hb_ R s (mi i_)) (i))))]) hx hb dX1_favourite_39 hl (k := 4) rfl (nI_add (i) 1) (by decide) rfl (fun ls hl => ?_)
          refine lv_goto (tgt := 11) hx hb dX1_favourite_42 (by decide) ?_
          exact (hG _ _ _).mp (ih (i + 1) (by omega) (by omega) (by omega) _ _ hP hS _ (by rw [am_n (g := fun s => hb_ R s (mi i_)) (by omega)]; exact lv_sub hl [1, 2, 3, 4, 0] rfl))
        · have c4 := mt (nI_leI (by omega) (by omega)).mpr c4
          refine lv_iload hx hb dX1_favourite_36 (lv_at hl 4 rfl) ?_
          refine lv_istore_n (lv' := [(3, .int (nI (i))), (0, .ref (a 0)), (1, .int (nI (i_))), (2, .int (nI (mi i_))), (4, .int (nI (i)))]) hx hb dX1_favourite_38 rfl hl (by decide) rfl (fun ls hl => ?_)
          refine lv_iinc (v := nI (i + 1)) (lv' := [(4, .int (nI (i + 1))), (3, .int (nI (i))), (0, .ref (a 0)), (1, .int (nI (i_))), (2, .int (nI (mi i_)))]) hx hb dX1_favourite_39 hl (k := 4) rfl (nI_add (i) 1) (by decide) rfl (fun ls hl => ?_)
          refine lv_goto (tgt := 11) hx hb dX1_favourite_42 (by decide) ?_
          exact (hG _ _ _).mp (ih (i + 1) (by omega) (by omega) (by omega) _ _ hP hS _ (by rw [am_y (g := fun s => hb_ R s (mi i_)) (by omega)]; exact lv_sub hl [2, 3, 4, 1, 0] rfl))
  refine (hG _ _ _).mpr ?_
  refine lv_aload_n hx hb dX1_favourite_0 rfl (lv_at hl 0 rfl) ?_
  refine lv_iload_n hx hb dX1_favourite_1 rfl (lv_at hl 1 rfl) ?_
  refine ro_calli (va_runV (As := [.int (nI (i_))]) (rest := []) ⟨hx, hb, hml, hown, hts⟩ (c_X1_minds l dC dI cI a (v 0) R mi n w wk hn hw (i_) (by omega)) (cwV 1 hts gX1_favourite_X1_minds rfl rfl rfl (by decide +kernel) ⟨Nat.le_of_ble_eq_true rfl, Nat.le_of_ble_eq_true rfl⟩) (ro_pv hK hP [0, 1, 2, 3, 4, 5, 6] rfl (ci := 1) (q0 := 0) (C := RX1) (T := TX1) (N := 10) rfl rfl) rfl rfl hl.1 rfl (lv_room (Nat.le_of_ble_eq_true rfl)) dX1_favourite_2 ⟨Nat.zero_le _, Nat.zero_le _⟩) hS hP (fun r5 H locs hr5 hP hS => ?_)
  subst hr5
  refine lv_istore_n (lv' := [(2, .int (nI (mi i_))), (0, .ref (a 0)), (1, .int (nI (i_)))]) hx hb dX1_favourite_5 rfl hl (by decide) rfl (fun ls hl => ?_)
  refine lv_iconst (v := nI (0)) hx hb dX1_favourite_6 (by decide) ?_
  refine lv_istore_n (lv' := [(3, .int (nI (0))), (2, .int (nI (mi i_))), (0, .ref (a 0)), (1, .int (nI (i_)))]) hx hb dX1_favourite_7 rfl hl (by decide) rfl (fun ls hl => ?_)
  refine lv_iconst (v := nI (1)) hx hb dX1_favourite_8 (by decide) ?_
  refine lv_istore (lv' := [(4, .int (nI (1))), (3, .int (nI (0))), (2, .int (nI (mi i_))), (0, .ref (a 0)), (1, .int (nI (i_)))]) hx hb dX1_favourite_9 hl (by decide) rfl (fun ls hl => ?_)
  exact (hG _ _ _).mp (L11 (n + 1) (1) (by omega) (by omega) (by omega) _ _ hP hS _ (by rw [am_1]; exact lv_sub hl [3, 4, 2, 1, 0] rfl))

set_option maxHeartbeats 4000000 in
set_option maxRecDepth 100000 in
theorem c_X1_votes (l : Launch) (dC : Nat → ClassId) (dI : Nat → Nat → Nat) (cI : ClassId) (a v : Nat → Nat) (R mi : Nat → Nat) (n w : Nat) (wk : Int32) (hR : WR R) (hn : n ≤ 4) (hn1 : 1 ≤ n) (hw : w ≤ 5) (hm : ∀ k, k < w → mi k < 4) (s_ : Nat) (hs : s_ < n) : Met l yX1_votes wsX1_votes ({ frames := 3, cells := 0, slots := 0, locals := 87 } : Room) (roP dC dI cI (chW cI a (v 0) R mi n w wk ++ voW v) [.ref (a 0), .int (nI (s_))]) (roI (fun r => r = nI (vt R mi n s_ w))) 0 0 (fun _ => False) := by
  refine Met.ofW (cc := cX1_votes) (maxL := 4) (ret := (some .int)) (by decide) rfl ?_
  intro p e s m args below meth c s₁ B hml hv
  obtain ⟨rfl, hP, hK⟩ := hv
  have hx := B.exec
  have hb := B.bytes
  have hr := B.returns
  have hts := atoms_spec (ws := wsX1_votes) B.pre
  have hown : s.vm.findClass RX1 = some m.cls := findClass_of_methodNamed B.named
  have hlocks := B.notSynchronized
  have hS : va_S (fun _ => False) s.heap s.heap [] := va_S.rf
  have hl := lv_entry ([.ref (a 0), .int (nI (s_))]) (n := 4) (Nat.le_of_ble_eq_true rfl)
  rw [lg_entry_eq]
  generalize (lg_sl ([.ref (a 0), .int (nI (s_))]) ++ List.replicate (4 - (lg_sl ([.ref (a 0), .int (nI (s_))])).length) Slot.unset).toArray = ls at hl ⊢
  have hl : lv_has ls 4 [(0, .ref (a 0)), (1, .int (nI (s_)))] := hl
  refine W_abs (fun G hG => ?_)
  have L4 : ∀ (fu : Nat) (i : Nat), i ≤ w → w + 1 ≤ i + fu → ∀ (H : Heap) (locs : List Loc), va_P (dC, dI) vwCl [((a 0), .inr (1, [.ref (v 0), .ref (a 1), .ref (a 2), .ref (a 3), .ref (a 4), .ref (a 5), .ref (a 6), .int (nI (n)), .int (nI (w)), .int (wk)])), ((a 1), .inl (cI, 4, .inl (fun ii => nI (R (8 * ii))))), ((a 2), .inl (cI, 16, .inl (fun ii => nI (R (8 * (ii / 4) + 1 + ii % 4))))), ((a 3), .inl (cI, 4, .inl (fun ii => nI (R (8 * ii + 5))))), ((a 4), .inl (cI, 4, .inl (fun ii => nI (R (8 * ii + 6))))), ((a 5), .inl (cI, 4, .inl (fun ii => nI (R (8 * ii + 7))))), ((a 6), .inl (cI, 5, .inl (fun ii => nI (mi ii)))), ((v 0), .inr (8, [.ref (v 1), .ref (v 2), .ref (v 3), .ref (v 4), .ref (v 5)])), ((v 1), .inr (6, [])), ((v 2), .inr (7, [])), ((v 3), .inr (0, [])), ((v 4), .inr (3, [])), ((v 5), .inr (2, []))] H → va_S (fun _ => False) s.heap H locs → ∀ (ls : Array Slot), lv_has ls 4 [(0, .ref (a 0)), (1, .int (nI (s_))), (2, .int (nI (vt R mi n s_ i))), (3, .int (nI (i)))] → G H locs (F0 m 4 ls []) := by
    intro fu
    induction fu with
    | zero => intro i h2 hfu H locs hP hS ls hl; omega
    | succ fu ih =>
      intro i h2 hfu H locs hP hS ls hl
      refine (hG _ _ _).mpr ?_
      have hvl := vt_le R mi n s_ i
      refine lv_iload_n hx hb dX1_votes_4 rfl (lv_at hl 3 rfl) ?_
      refine lv_aload_n hx hb dX1_votes_5 rfl (lv_at hl 0 rfl) ?_
      refine va_get (D := (dC, dI)) (ci := 1) (v := .int (nI (w))) (C := RX1) (T := TX1) (N := 10) hx hb hts (fun _ h => List.mem_cons_of_mem _ (List.mem_append_left _ (List.mem_append_right _ (h)))) hown hK.1 hP 0 rfl rfl 8 (by decide) (hts (Cond.fieldLink RX1 56 "WorstVoice$Choir" "widows" "I") (List.mem_of_getElem? (i := 1) rfl)) (fun _ h9 => h9) rfl dX1_votes_6 ?_
      refine lv_icmp_ge (tgt := 35) hx hb dX1_votes_9 (by decide) (fun c1 => ?_) (fun c1 => ?_)
      · have c1 := (nI_leI (by omega) (by omega)).mp c1
        refine lv_iload_n hx hb dX1_votes_35 rfl (lv_at hl 2 rfl) ?_
        exact W.iret hx hb hr (fun t ht hW => ⟨⟨_, (), rfl, (by rw [show i = w by omega]), trivial⟩, hS.F ht⟩) hS.2.2 dX1_votes_36
      · have c1 := mt (nI_leI (by omega) (by omega)).mpr c1
        refine lv_iload_n hx hb dX1_votes_12 rfl (lv_at hl 2 rfl) ?_
        refine lv_aload_n hx hb dX1_votes_13 rfl (lv_at hl 0 rfl) ?_
        refine lv_iload_n hx hb dX1_votes_14 rfl (lv_at hl 3 rfl) ?_
        refine ro_calli (va_runV (As := [.int (nI (i))]) (rest := [.int (nI (vt R mi n s_ i))]) ⟨hx, hb, hml, hown, hts⟩ (c_X1_favourite l dC dI cI a v R mi n w wk hR hn hn1 hw (i) (by omega) (hm _ (by omega))) (cwV 1 hts gX1_votes_X1_favourite rfl rfl rfl (by decide +kernel) ⟨Nat.le_of_ble_eq_true rfl, Nat.le_of_ble_eq_true rfl⟩) (ro_pv hK hP [0, 1, 2, 3, 4, 5, 6, 7, 8, 9, 10, 11, 12] rfl (ci := 1) (q0 := 0) (C := RX1) (T := TX1) (N := 10) rfl rfl) rfl rfl hl.1 rfl (lv_room (Nat.le_of_ble_eq_true rfl)) dX1_votes_15 ⟨Nat.zero_le _, Nat.zero_le _⟩) hS hP (fun r2 H locs hr2 hP hS => ?_)
        subst hr2
        have hb1 : fv R (mi (i)) n < n := am_lt _ n (by omega)
        refine lv_iload_n hx hb dX1_votes_18 rfl (lv_at hl 1 rfl) ?_
        refine lv_icmp_ne (tgt := 26) hx hb dX1_votes_19 (by decide) (fun c3 => ?_) (fun c3 => ?_)
        · have c3 := mt (nI_eq (by omega) (by omega)).mpr c3
          refine lv_iconst (v := nI (0)) hx hb dX1_votes_26 (by decide) ?_
          refine lv_iadd hx hb dX1_votes_27 ?_
          refine tp_i (z := nI (vt R mi n s_ i + 0)) (nI_add (vt R mi n s_ i) (0)) ?_
          refine lv_istore_n (lv' := [(2, .int (nI (vt R mi n s_ i + 0))), (0, .ref (a 0)), (1, .int (nI (s_))), (3, .int (nI (i)))]) hx hb dX1_votes_28 rfl hl (by decide) rfl (fun ls hl => ?_)
          refine lv_iinc (v := nI (i + 1)) (lv' := [(3, .int (nI (i + 1))), (2, .int (nI (vt R mi n s_ i + 0))), (0, .ref (a 0)), (1, .int (nI (s_)))]) hx hb dX1_votes_29 hl (k := 3) rfl (nI_add (i) 1) (by decide) rfl (fun ls hl => ?_)
          refine lv_goto (tgt := 4) hx hb dX1_votes_32 (by decide) ?_
          exact (hG _ _ _).mp (ih (i + 1) (by omega) (by omega) _ _ hP hS _ (by rw [vt_n (by assumption)]; exact lv_sub hl [2, 3, 1, 0] rfl))
        · have c3 := (nI_eq (by omega) (by omega)).mp c3
          refine lv_iconst (v := nI (1)) hx hb dX1_votes_22 (by decide) ?_
          refine lv_goto (tgt := 27) hx hb dX1_votes_23 (by decide) ?_
          refine lv_iadd hx hb dX1_votes_27 ?_
          refine tp_i (z := nI (vt R mi n s_ i + 1)) (nI_add (vt R mi n s_ i) (1)) ?_
          refine lv_istore_n (lv' := [(2, .int (nI (vt R mi n s_ i + 1))), (0, .ref (a 0)), (1, .int (nI (s_))), (3, .int (nI (i)))]) hx hb dX1_votes_28 rfl hl (by decide) rfl (fun ls hl => ?_)
          refine lv_iinc (v := nI (i + 1)) (lv' := [(3, .int (nI (i + 1))), (2, .int (nI (vt R mi n s_ i + 1))), (0, .ref (a 0)), (1, .int (nI (s_)))]) hx hb dX1_votes_29 hl (k := 3) rfl (nI_add (i) 1) (by decide) rfl (fun ls hl => ?_)
          refine lv_goto (tgt := 4) hx hb dX1_votes_32 (by decide) ?_
          exact (hG _ _ _).mp (ih (i + 1) (by omega) (by omega) _ _ hP hS _ (by rw [vt_y (by assumption)]; exact lv_sub hl [2, 3, 1, 0] rfl))
  refine (hG _ _ _).mpr ?_
  refine lv_iconst (v := nI (0)) hx hb dX1_votes_0 (by decide) ?_
  refine lv_istore_n (lv' := [(2, .int (nI (0))), (0, .ref (a 0)), (1, .int (nI (s_)))]) hx hb dX1_votes_1 rfl hl (by decide) rfl (fun ls hl => ?_)
  refine lv_iconst (v := nI (0)) hx hb dX1_votes_2 (by decide) ?_
  refine lv_istore_n (lv' := [(3, .int (nI (0))), (2, .int (nI (0))), (0, .ref (a 0)), (1, .int (nI (s_)))]) hx hb dX1_votes_3 rfl hl (by decide) rfl (fun ls hl => ?_)
  exact (hG _ _ _).mp (L4 (w + 1) (0) (by omega) (by omega) _ _ hP hS _ (lv_sub hl [2, 3, 1, 0] rfl))

set_option maxHeartbeats 4000000 in
set_option maxRecDepth 100000 in
theorem c_X1_elected (l : Launch) (dC : Nat → ClassId) (dI : Nat → Nat → Nat) (cI : ClassId) (a v : Nat → Nat) (R mi : Nat → Nat) (n w : Nat) (wk : Int32) (hR : WR R) (hn : n ≤ 4) (hn1 : 1 ≤ n) (hw : w ≤ 5) (hm : ∀ k, k < w → mi k < 4) : Met l yX1_elected wsX1_elected ({ frames := 4, cells := 0, slots := 0, locals := 110 } : Room) (roP dC dI cI (chW cI a (v 0) R mi n w wk ++ voW v) [.ref (a 0)]) (roI (fun r => r = nI (my R mi n w))) 0 0 (fun _ => False) := by
  refine Met.ofW (cc := cX1_elected) (maxL := 3) (ret := (some .int)) (by decide) rfl ?_
  intro p e s m args below meth c s₁ B hml hv
  obtain ⟨rfl, hP, hK⟩ := hv
  have hx := B.exec
  have hb := B.bytes
  have hr := B.returns
  have hts := atoms_spec (ws := wsX1_elected) B.pre
  have hown : s.vm.findClass RX1 = some m.cls := findClass_of_methodNamed B.named
  have hlocks := B.notSynchronized
  have hS : va_S (fun _ => False) s.heap s.heap [] := va_S.rf
  have hl := lv_entry ([.ref (a 0)]) (n := 3) (Nat.le_of_ble_eq_true rfl)
  rw [lg_entry_eq]
  generalize (lg_sl ([.ref (a 0)]) ++ List.replicate (3 - (lg_sl ([.ref (a 0)])).length) Slot.unset).toArray = ls at hl ⊢
  have hl : lv_has ls 3 [(0, .ref (a 0))] := hl
  refine W_abs (fun G hG => ?_)
  have L4 : ∀ (fu : Nat) (i : Nat), 1 ≤ i → i ≤ n → n + 1 ≤ i + fu → ∀ (H : Heap) (locs : List Loc), va_P (dC, dI) vwCl [((a 0), .inr (1, [.ref (v 0), .ref (a 1), .ref (a 2), .ref (a 3), .ref (a 4), .ref (a 5), .ref (a 6), .int (nI (n)), .int (nI (w)), .int (wk)])), ((a 1), .inl (cI, 4, .inl (fun ii => nI (R (8 * ii))))), ((a 2), .inl (cI, 16, .inl (fun ii => nI (R (8 * (ii / 4) + 1 + ii % 4))))), ((a 3), .inl (cI, 4, .inl (fun ii => nI (R (8 * ii + 5))))), ((a 4), .inl (cI, 4, .inl (fun ii => nI (R (8 * ii + 6))))), ((a 5), .inl (cI, 4, .inl (fun ii => nI (R (8 * ii + 7))))), ((a 6), .inl (cI, 5, .inl (fun ii => nI (mi ii)))), ((v 0), .inr (8, [.ref (v 1), .ref (v 2), .ref (v 3), .ref (v 4), .ref (v 5)])), ((v 1), .inr (6, [])), ((v 2), .inr (7, [])), ((v 3), .inr (0, [])), ((v 4), .inr (3, [])), ((v 5), .inr (2, []))] H → va_S (fun _ => False) s.heap H locs → ∀ (ls : Array Slot), lv_has ls 3 [(0, .ref (a 0)), (1, .int (nI (am (fun s => vt R mi n s w) i))), (2, .int (nI (i)))] → G H locs (F0 m 4 ls []) := by
    intro fu
    induction fu with
    | zero => intro i h1 h2 hfu H locs hP hS ls hl; omega
    | succ fu ih =>
      intro i h1 h2 hfu H locs hP hS ls hl
      refine (hG _ _ _).mpr ?_
      have hlt := am_lt (fun s => vt R mi n s w) i (by omega)
      refine lv_iload_n hx hb dX1_elected_4 rfl (lv_at hl 2 rfl) ?_
      refine lv_aload_n hx hb dX1_elected_5 rfl (lv_at hl 0 rfl) ?_
      refine va_get (D := (dC, dI)) (ci := 1) (v := .int (nI (n))) (C := RX1) (T := TX1) (N := 10) hx hb hts (fun _ h => List.mem_cons_of_mem _ (List.mem_append_left _ (List.mem_append_right _ (h)))) hown hK.1 hP 0 rfl rfl 7 (by decide) (hts (Cond.fieldLink RX1 46 "WorstVoice$Choir" "singers" "I") (List.mem_of_getElem? (i := 1) rfl)) (fun _ h9 => h9) rfl dX1_elected_6 ?_
      refine lv_icmp_ge (tgt := 33) hx hb dX1_elected_9 (by decide) (fun c1 => ?_) (fun c1 => ?_)
      · have c1 := (nI_leI (by omega) (by omega)).mp c1
        refine lv_iload_n hx hb dX1_elected_33 rfl (lv_at hl 1 rfl) ?_
        exact W.iret hx hb hr (fun t ht hW => ⟨⟨_, (), rfl, (by rw [show i = n by omega]; rfl), trivial⟩, hS.F ht⟩) hS.2.2 dX1_elected_34
      · have c1 := mt (nI_leI (by omega) (by omega)).mpr c1
        refine lv_aload_n hx hb dX1_elected_12 rfl (lv_at hl 0 rfl) ?_
        refine lv_iload_n hx hb dX1_elected_13 rfl (lv_at hl 2 rfl) ?_
        refine ro_calli (va_runV (As := [.int (nI (i))]) (rest := []) ⟨hx, hb, hml, hown, hts⟩ (c_X1_votes l dC dI cI a v R mi n w wk hR hn hn1 hw hm (i) (by omega)) (cwV 1 hts gX1_elected_X1_votes rfl rfl rfl (by decide +kernel) ⟨Nat.le_of_ble_eq_true rfl, Nat.le_of_ble_eq_true rfl⟩) (ro_pv hK hP [0, 1, 2, 3, 4, 5, 6, 7, 8, 9, 10, 11, 12] rfl (ci := 1) (q0 := 0) (C := RX1) (T := TX1) (N := 10) rfl rfl) rfl rfl hl.1 rfl (lv_room (Nat.le_of_ble_eq_true rfl)) dX1_elected_14 ⟨Nat.zero_le _, Nat.zero_le _⟩) hS hP (fun r2 H locs hr2 hP hS => ?_)
        subst hr2
        have hb1 := vt_le R mi n (i) w
        refine lv_aload_n hx hb dX1_elected_17 rfl (lv_at hl 0 rfl) ?_
        refine lv_iload_n hx hb dX1_elected_18 rfl (lv_at hl 1 rfl) ?_
        refine ro_calli (va_runV (As := [.int (nI (am (fun s => vt R mi n s w) i))]) (rest := [.int (nI (vt R mi n (i) w))]) ⟨hx, hb, hml, hown, hts⟩ (c_X1_votes l dC dI cI a v R mi n w wk hR hn hn1 hw hm (am (fun s => vt R mi n s w) i) (by omega)) (cwV 1 hts gX1_elected_X1_votes rfl rfl rfl (by decide +kernel) ⟨Nat.le_of_ble_eq_true rfl, Nat.le_of_ble_eq_true rfl⟩) (ro_pv hK hP [0, 1, 2, 3, 4, 5, 6, 7, 8, 9, 10, 11, 12] rfl (ci := 1) (q0 := 0) (C := RX1) (T := TX1) (N := 10) rfl rfl) rfl rfl hl.1 rfl (lv_room (Nat.le_of_ble_eq_true rfl)) dX1_elected_19 ⟨Nat.zero_le _, Nat.zero_le _⟩) hS hP (fun r3 H locs hr3 hP hS => ?_)
        subst hr3
        have hb2 := vt_le R mi n (am (fun s => vt R mi n s w) i) w
        refine lv_icmp_le (tgt := 27) hx hb dX1_elected_22 (by decide) (fun c4 => ?_) (fun c4 => ?_)
        · have c4 := (nI_leI (by omega) (by omega)).mp c4
          refine lv_iinc (v := nI (i + 1)) (lv' := [(2, .int (nI (i + 1))), (0, .ref (a 0)), (1, .int (nI (am (fun s => vt R mi n s w) i)))]) hx hb dX1_elected_27 hl (k := 2) rfl (nI_add (i) 1) (by decide) rfl (fun ls hl => ?_)
          refine lv_goto (tgt := 4) hx hb dX1_elected_30 (by decide) ?_
          exact (hG _ _ _).mp (ih (i + 1) (by omega) (by omega) (by omega) _ _ hP hS _ (by rw [am_n (g := fun s => vt R mi n s w) (by omega)]; exact lv_sub hl [1, 2, 0] rfl))
        · have c4 := mt (nI_leI (by omega) (by omega)).mpr c4
          refine lv_iload_n hx hb dX1_elected_25 rfl (lv_at hl 2 rfl) ?_
          refine lv_istore_n (lv' := [(1, .int (nI (i))), (0, .ref (a 0)), (2, .int (nI (i)))]) hx hb dX1_elected_26 rfl hl (by decide) rfl (fun ls hl => ?_)
          refine lv_iinc (v := nI (i + 1)) (lv' := [(2, .int (nI (i + 1))), (1, .int (nI (i))), (0, .ref (a 0))]) hx hb dX1_elected_27 hl (k := 2) rfl (nI_add (i) 1) (by decide) rfl (fun ls hl => ?_)
          refine lv_goto (tgt := 4) hx hb dX1_elected_30 (by decide) ?_
          exact (hG _ _ _).mp (ih (i + 1) (by omega) (by omega) (by omega) _ _ hP hS _ (by rw [am_y (g := fun s => vt R mi n s w) (by omega)]; exact lv_sub hl [2, 1, 0] rfl))
  refine (hG _ _ _).mpr ?_
  refine lv_iconst (v := nI (0)) hx hb dX1_elected_0 (by decide) ?_
  refine lv_istore_n (lv' := [(1, .int (nI (0))), (0, .ref (a 0))]) hx hb dX1_elected_1 rfl hl (by decide) rfl (fun ls hl => ?_)
  refine lv_iconst (v := nI (1)) hx hb dX1_elected_2 (by decide) ?_
  refine lv_istore_n (lv' := [(2, .int (nI (1))), (1, .int (nI (0))), (0, .ref (a 0))]) hx hb dX1_elected_3 rfl hl (by decide) rfl (fun ls hl => ?_)
  exact (hG _ _ _).mp (L4 (n + 1) (1) (by omega) (by omega) (by omega) _ _ hP hS _ (by rw [am_1]; exact lv_sub hl [2, 1, 0] rfl))

set_option maxHeartbeats 4000000 in
set_option maxRecDepth 100000 in
theorem c_X1_coldsOfAll (l : Launch) (dC : Nat → ClassId) (dI : Nat → Nat → Nat) (cI : ClassId) (a : Nat → Nat) (v0 : Nat) (R mi : Nat → Nat) (n w : Nat) (wk : Int32) (hn : n ≤ 4) (hw : w ≤ 5) : Met l yX1_coldsOfAll wsX1_coldsOfAll ({ frames := 2, cells := 0, slots := 0, locals := 42 } : Room) (roP dC dI cI (chW cI a v0 R mi n w wk) [.ref (a 0)]) (roI (fun r => r = nI (sm R 5 n))) 0 0 (fun _ => False) := by
  refine Met.ofW (cc := cX1_coldsOfAll) (maxL := 3) (ret := (some .int)) (by decide) rfl ?_
  intro p e s m args below meth c s₁ B hml hv
  obtain ⟨rfl, hP, hK⟩ := hv
  have hx := B.exec
  have hb := B.bytes
  have hr := B.returns
  have hts := atoms_spec (ws := wsX1_coldsOfAll) B.pre
  have hown : s.vm.findClass RX1 = some m.cls := findClass_of_methodNamed B.named
  have hlocks := B.notSynchronized
  have hS : va_S (fun _ => False) s.heap s.heap [] := va_S.rf
  have hl := lv_entry ([.ref (a 0)]) (n := 3) (Nat.le_of_ble_eq_true rfl)
  rw [lg_entry_eq]
  generalize (lg_sl ([.ref (a 0)]) ++ List.replicate (3 - (lg_sl ([.ref (a 0)])).length) Slot.unset).toArray = ls at hl ⊢
  have hl : lv_has ls 3 [(0, .ref (a 0))] := hl
  refine W_abs (fun G hG => ?_)
  have L4 : ∀ (fu : Nat) (i : Nat), i ≤ n → n + 1 ≤ i + fu → ∀ (H : Heap) (locs : List Loc), va_P (dC, dI) vwCl [((a 0), .inr (1, [.ref v0, .ref (a 1), .ref (a 2), .ref (a 3), .ref (a 4), .ref (a 5), .ref (a 6), .int (nI (n)), .int (nI (w)), .int (wk)])), ((a 1), .inl (cI, 4, .inl (fun ii => nI (R (8 * ii))))), ((a 2), .inl (cI, 16, .inl (fun ii => nI (R (8 * (ii / 4) + 1 + ii % 4))))), ((a 3), .inl (cI, 4, .inl (fun ii => nI (R (8 * ii + 5))))), ((a 4), .inl (cI, 4, .inl (fun ii => nI (R (8 * ii + 6))))), ((a 5), .inl (cI, 4, .inl (fun ii => nI (R (8 * ii + 7))))), ((a 6), .inl (cI, 5, .inl (fun ii => nI (mi ii))))] H → va_S (fun _ => False) s.heap H locs → ∀ (ls : Array Slot), lv_has ls 3 [(0, .ref (a 0)), (1, .int (nI (sm R 5 i))), (2, .int (nI (i)))] → G H locs (F0 m 4 ls []) := by
    intro fu
    induction fu with
    | zero => intro i h2 hfu H locs hP hS ls hl; omega
    | succ fu ih =>
      intro i h2 hfu H locs hP hS ls hl
      refine (hG _ _ _).mpr ?_
      refine lv_iload_n hx hb dX1_coldsOfAll_4 rfl (lv_at hl 2 rfl) ?_
      refine lv_aload_n hx hb dX1_coldsOfAll_5 rfl (lv_at hl 0 rfl) ?_
      refine va_get (D := (dC, dI)) (ci := 1) (v := .int (nI (n))) (C := RX1) (T := TX1) (N := 10) hx hb hts (fun _ h => List.mem_cons_of_mem _ (List.mem_append_right _ (h))) hown hK.1 hP 0 rfl rfl 7 (by decide) (hts (Cond.fieldLink RX1 46 "WorstVoice$Choir" "singers" "I") (List.mem_of_getElem? (i := 1) rfl)) (fun _ h9 => h9) rfl dX1_coldsOfAll_6 ?_
      refine lv_icmp_ge (tgt := 26) hx hb dX1_coldsOfAll_9 (by decide) (fun c1 => ?_) (fun c1 => ?_)
      · have c1 := (nI_leI (by omega) (by omega)).mp c1
        refine lv_iload_n hx hb dX1_coldsOfAll_26 rfl (lv_at hl 1 rfl) ?_
        exact W.iret hx hb hr (fun t ht hW => ⟨⟨_, (), rfl, (by rw [show i = n by omega]), trivial⟩, hS.F ht⟩) hS.2.2 dX1_coldsOfAll_27
      · have c1 := mt (nI_leI (by omega) (by omega)).mpr c1
        refine lv_iload_n hx hb dX1_coldsOfAll_12 rfl (lv_at hl 1 rfl) ?_
        refine lv_aload_n hx hb dX1_coldsOfAll_13 rfl (lv_at hl 0 rfl) ?_
        refine lv_iload_n hx hb dX1_coldsOfAll_14 rfl (lv_at hl 2 rfl) ?_
        refine ro_calli (va_runV (As := [.int (nI (i))]) (rest := [.int (nI (sm R 5 i))]) ⟨hx, hb, hml, hown, hts⟩ (c_X1_coldOf l dC dI cI a v0 R mi n w wk hn hw (i) (by omega)) (cwV 1 hts gX1_coldsOfAll_X1_coldOf rfl rfl rfl (by decide +kernel) ⟨Nat.le_of_ble_eq_true rfl, Nat.le_of_ble_eq_true rfl⟩) (ro_pv hK hP [0, 1, 2, 3, 4, 5, 6] rfl (ci := 1) (q0 := 0) (C := RX1) (T := TX1) (N := 10) rfl rfl) rfl rfl hl.1 rfl (lv_room (Nat.le_of_ble_eq_true rfl)) dX1_coldsOfAll_15 ⟨Nat.zero_le _, Nat.zero_le _⟩) hS hP (fun r2 H locs hr2 hP hS => ?_)
        subst hr2
        refine lv_iadd hx hb dX1_coldsOfAll_18 ?_
        refine tp_i (z := nI (sm R 5 i + R (8 * (i) + 5))) (nI_add (sm R 5 i) (R (8 * (i) + 5))) ?_
        refine lv_istore_n (lv' := [(1, .int (nI (sm R 5 i + R (8 * (i) + 5)))), (0, .ref (a 0)), (2, .int (nI (i)))]) hx hb dX1_coldsOfAll_19 rfl hl (by decide) rfl (fun ls hl => ?_)
        refine lv_iinc (v := nI (i + 1)) (lv' := [(2, .int (nI (i + 1))), (1, .int (nI (sm R 5 i + R (8 * (i) + 5)))), (0, .ref (a 0))]) hx hb dX1_coldsOfAll_20 hl (k := 2) rfl (nI_add (i) 1) (by decide) rfl (fun ls hl => ?_)
        refine lv_goto (tgt := 4) hx hb dX1_coldsOfAll_23 (by decide) ?_
        exact (hG _ _ _).mp (ih (i + 1) (by omega) (by omega) _ _ hP hS _ (lv_sub hl [2, 1, 0] rfl))
  refine (hG _ _ _).mpr ?_
  refine lv_iconst (v := nI (0)) hx hb dX1_coldsOfAll_0 (by decide) ?_
  refine lv_istore_n (lv' := [(1, .int (nI (0))), (0, .ref (a 0))]) hx hb dX1_coldsOfAll_1 rfl hl (by decide) rfl (fun ls hl => ?_)
  refine lv_iconst (v := nI (0)) hx hb dX1_coldsOfAll_2 (by decide) ?_
  refine lv_istore_n (lv' := [(2, .int (nI (0))), (1, .int (nI (0))), (0, .ref (a 0))]) hx hb dX1_coldsOfAll_3 rfl hl (by decide) rfl (fun ls hl => ?_)
  exact (hG _ _ _).mp (L4 (n + 1) (0) (by omega) (by omega) _ _ hP hS _ (lv_sub hl [2, 1, 0] rfl))

set_option maxHeartbeats 4000000 in
set_option maxRecDepth 100000 in
theorem c_X1_honeyOfAll (l : Launch) (dC : Nat → ClassId) (dI : Nat → Nat → Nat) (cI : ClassId) (a : Nat → Nat) (v0 : Nat) (R mi : Nat → Nat) (n w : Nat) (wk : Int32) (hn : n ≤ 4) (hw : w ≤ 5) : Met l yX1_honeyOfAll wsX1_honeyOfAll ({ frames := 2, cells := 0, slots := 0, locals := 42 } : Room) (roP dC dI cI (chW cI a v0 R mi n w wk) [.ref (a 0)]) (roI (fun r => r = nI (sm R 7 n))) 0 0 (fun _ => False) := by
  refine Met.ofW (cc := cX1_honeyOfAll) (maxL := 3) (ret := (some .int)) (by decide) rfl ?_
  intro p e s m args below meth c s₁ B hml hv
  obtain ⟨rfl, hP, hK⟩ := hv
  have hx := B.exec
  have hb := B.bytes
  have hr := B.returns
  have hts := atoms_spec (ws := wsX1_honeyOfAll) B.pre
  have hown : s.vm.findClass RX1 = some m.cls := findClass_of_methodNamed B.named
  have hlocks := B.notSynchronized
  have hS : va_S (fun _ => False) s.heap s.heap [] := va_S.rf
  have hl := lv_entry ([.ref (a 0)]) (n := 3) (Nat.le_of_ble_eq_true rfl)
  rw [lg_entry_eq]
  generalize (lg_sl ([.ref (a 0)]) ++ List.replicate (3 - (lg_sl ([.ref (a 0)])).length) Slot.unset).toArray = ls at hl ⊢
  have hl : lv_has ls 3 [(0, .ref (a 0))] := hl
  refine W_abs (fun G hG => ?_)
  have L4 : ∀ (fu : Nat) (i : Nat), i ≤ n → n + 1 ≤ i + fu → ∀ (H : Heap) (locs : List Loc), va_P (dC, dI) vwCl [((a 0), .inr (1, [.ref v0, .ref (a 1), .ref (a 2), .ref (a 3), .ref (a 4), .ref (a 5), .ref (a 6), .int (nI (n)), .int (nI (w)), .int (wk)])), ((a 1), .inl (cI, 4, .inl (fun ii => nI (R (8 * ii))))), ((a 2), .inl (cI, 16, .inl (fun ii => nI (R (8 * (ii / 4) + 1 + ii % 4))))), ((a 3), .inl (cI, 4, .inl (fun ii => nI (R (8 * ii + 5))))), ((a 4), .inl (cI, 4, .inl (fun ii => nI (R (8 * ii + 6))))), ((a 5), .inl (cI, 4, .inl (fun ii => nI (R (8 * ii + 7))))), ((a 6), .inl (cI, 5, .inl (fun ii => nI (mi ii))))] H → va_S (fun _ => False) s.heap H locs → ∀ (ls : Array Slot), lv_has ls 3 [(0, .ref (a 0)), (1, .int (nI (sm R 7 i))), (2, .int (nI (i)))] → G H locs (F0 m 4 ls []) := by
    intro fu
    induction fu with
    | zero => intro i h2 hfu H locs hP hS ls hl; omega
    | succ fu ih =>
      intro i h2 hfu H locs hP hS ls hl
      refine (hG _ _ _).mpr ?_
      refine lv_iload_n hx hb dX1_honeyOfAll_4 rfl (lv_at hl 2 rfl) ?_
      refine lv_aload_n hx hb dX1_honeyOfAll_5 rfl (lv_at hl 0 rfl) ?_
      refine va_get (D := (dC, dI)) (ci := 1) (v := .int (nI (n))) (C := RX1) (T := TX1) (N := 10) hx hb hts (fun _ h => List.mem_cons_of_mem _ (List.mem_append_right _ (h))) hown hK.1 hP 0 rfl rfl 7 (by decide) (hts (Cond.fieldLink RX1 46 "WorstVoice$Choir" "singers" "I") (List.mem_of_getElem? (i := 1) rfl)) (fun _ h9 => h9) rfl dX1_honeyOfAll_6 ?_
      refine lv_icmp_ge (tgt := 26) hx hb dX1_honeyOfAll_9 (by decide) (fun c1 => ?_) (fun c1 => ?_)
      · have c1 := (nI_leI (by omega) (by omega)).mp c1
        refine lv_iload_n hx hb dX1_honeyOfAll_26 rfl (lv_at hl 1 rfl) ?_
        exact W.iret hx hb hr (fun t ht hW => ⟨⟨_, (), rfl, (by rw [show i = n by omega]), trivial⟩, hS.F ht⟩) hS.2.2 dX1_honeyOfAll_27
      · have c1 := mt (nI_leI (by omega) (by omega)).mpr c1
        refine lv_iload_n hx hb dX1_honeyOfAll_12 rfl (lv_at hl 1 rfl) ?_
        refine lv_aload_n hx hb dX1_honeyOfAll_13 rfl (lv_at hl 0 rfl) ?_
        refine lv_iload_n hx hb dX1_honeyOfAll_14 rfl (lv_at hl 2 rfl) ?_
        refine ro_calli (va_runV (As := [.int (nI (i))]) (rest := [.int (nI (sm R 7 i))]) ⟨hx, hb, hml, hown, hts⟩ (c_X1_honeyOf l dC dI cI a v0 R mi n w wk hn hw (i) (by omega)) (cwV 1 hts gX1_honeyOfAll_X1_honeyOf rfl rfl rfl (by decide +kernel) ⟨Nat.le_of_ble_eq_true rfl, Nat.le_of_ble_eq_true rfl⟩) (ro_pv hK hP [0, 1, 2, 3, 4, 5, 6] rfl (ci := 1) (q0 := 0) (C := RX1) (T := TX1) (N := 10) rfl rfl) rfl rfl hl.1 rfl (lv_room (Nat.le_of_ble_eq_true rfl)) dX1_honeyOfAll_15 ⟨Nat.zero_le _, Nat.zero_le _⟩) hS hP (fun r2 H locs hr2 hP hS => ?_)
        subst hr2
        refine lv_iadd hx hb dX1_honeyOfAll_18 ?_
        refine tp_i (z := nI (sm R 7 i + R (8 * (i) + 7))) (nI_add (sm R 7 i) (R (8 * (i) + 7))) ?_
        refine lv_istore_n (lv' := [(1, .int (nI (sm R 7 i + R (8 * (i) + 7)))), (0, .ref (a 0)), (2, .int (nI (i)))]) hx hb dX1_honeyOfAll_19 rfl hl (by decide) rfl (fun ls hl => ?_)
        refine lv_iinc (v := nI (i + 1)) (lv' := [(2, .int (nI (i + 1))), (1, .int (nI (sm R 7 i + R (8 * (i) + 7)))), (0, .ref (a 0))]) hx hb dX1_honeyOfAll_20 hl (k := 2) rfl (nI_add (i) 1) (by decide) rfl (fun ls hl => ?_)
        refine lv_goto (tgt := 4) hx hb dX1_honeyOfAll_23 (by decide) ?_
        exact (hG _ _ _).mp (ih (i + 1) (by omega) (by omega) _ _ hP hS _ (lv_sub hl [2, 1, 0] rfl))
  refine (hG _ _ _).mpr ?_
  refine lv_iconst (v := nI (0)) hx hb dX1_honeyOfAll_0 (by decide) ?_
  refine lv_istore_n (lv' := [(1, .int (nI (0))), (0, .ref (a 0))]) hx hb dX1_honeyOfAll_1 rfl hl (by decide) rfl (fun ls hl => ?_)
  refine lv_iconst (v := nI (0)) hx hb dX1_honeyOfAll_2 (by decide) ?_
  refine lv_istore_n (lv' := [(2, .int (nI (0))), (1, .int (nI (0))), (0, .ref (a 0))]) hx hb dX1_honeyOfAll_3 rfl hl (by decide) rfl (fun ls hl => ?_)
  exact (hG _ _ _).mp (L4 (n + 1) (0) (by omega) (by omega) _ _ hP hS _ (lv_sub hl [2, 1, 0] rfl))
