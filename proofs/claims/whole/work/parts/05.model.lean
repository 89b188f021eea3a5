/-! the model: what it tells of a town -/
set_option maxHeartbeats 4000000 in
set_option maxRecDepth 100000 in
theorem c_X10_in (l : Launch) (dC : Nat → ClassId) (dI : Nat → Nat → Nat) (cI : ClassId) (x y z : Int32) : Met l yX10_in wsX10_in ({ frames := 0, cells := 0, slots := 0, locals := 0 } : Room) (roP dC dI cI ([]) [.long ((x).toInt64), .long ((y).toInt64), .long ((z).toInt64)]) (roI (fun r => r = bI (y.toInt ≤ x.toInt ∧ x.toInt ≤ z.toInt))) 0 0 (fun _ => False) := by
  refine Met.ofW (cc := cX10_in) (maxL := 6) (ret := (some .boolean)) (by decide) rfl ?_
  intro p e s m args below meth c s₁ B hml hv
  obtain ⟨rfl, hP, hK⟩ := hv
  have hx := B.exec
  have hb := B.bytes
  have hr := B.returns
  have hts := atoms_spec (ws := wsX10_in) B.pre
  have hown : s.vm.findClass RX10 = some m.cls := findClass_of_methodNamed B.named
  have hlocks := B.notSynchronized
  have hS : va_S (fun _ => False) s.heap s.heap [] := va_S.rf
  have hl := lv_entry ([.long ((x).toInt64), .long ((y).toInt64), .long ((z).toInt64)]) (n := 6) (Nat.le_of_ble_eq_true rfl)
  rw [lg_entry_eq]
  generalize (lg_sl ([.long ((x).toInt64), .long ((y).toInt64), .long ((z).toInt64)]) ++ List.replicate (6 - (lg_sl ([.long ((x).toInt64), .long ((y).toInt64), .long ((z).toInt64)])).length) Slot.unset).toArray = ls at hl ⊢
  have hl : lv_has ls 6 [(0, .long ((x).toInt64)), (2, .long ((y).toInt64)), (4, .long ((z).toInt64))] := hl
  refine lv_lload_n hx hb dX10_in_0 rfl (lv_at hl 0 rfl) ?_
  refine lv_lload_n hx hb dX10_in_1 rfl (lv_at hl 1 rfl) ?_
  refine W.lcmp hx hb dX10_in_2 ?_
  refine lv_if_lt (tgt := 17) hx hb dX10_in_3 (by decide) (fun c1 => ?_) (fun c1 => ?_)
  · have c1 := (fa_wide_lt _ _).mp ((lg_cmp_lt _ _).mp c1)
    rw [fa_lt] at c1
    refine lv_iconst (v := nI (0)) hx hb dX10_in_17 (by decide) ?_
    exact W.zret hx hb hr (by first | rfl | exact bI_nz) (fun t ht hW => ⟨⟨_, (), rfl, (bI_f (fun h => by have h1 := h.1; have h2 := h.2; omega)).symm, trivial⟩, hS.F ht⟩) hS.2.2 dX10_in_18
  · have c1 := mt (fun q => (lg_cmp_lt _ _).mpr ((fa_wide_lt _ _).mpr q)) c1
    rw [fa_lt] at c1
    refine lv_lload_n hx hb dX10_in_6 rfl (lv_at hl 0 rfl) ?_
    refine lv_lload hx hb dX10_in_7 (lv_at hl 2 rfl) ?_
    refine W.lcmp hx hb dX10_in_9 ?_
    refine lv_if_gt (tgt := 17) hx hb dX10_in_10 (by decide) (fun c2 => ?_) (fun c2 => ?_)
    · have c2 := (fa_wide_lt _ _).mp ((lg_cmp_gt _ _).mp c2)
      rw [fa_lt] at c2
      refine lv_iconst (v := nI (0)) hx hb dX10_in_17 (by decide) ?_
      exact W.zret hx hb hr (by first | rfl | exact bI_nz) (fun t ht hW => ⟨⟨_, (), rfl, (bI_f (fun h => by have h1 := h.1; have h2 := h.2; omega)).symm, trivial⟩, hS.F ht⟩) hS.2.2 dX10_in_18
    · have c2 := mt (fun q => (lg_cmp_gt _ _).mpr ((fa_wide_lt _ _).mpr q)) c2
      rw [fa_lt] at c2
      refine lv_iconst (v := nI (1)) hx hb dX10_in_13 (by decide) ?_
      refine lv_goto (tgt := 18) hx hb dX10_in_14 (by decide) ?_
      exact W.zret hx hb hr (by first | rfl | exact bI_nz) (fun t ht hW => ⟨⟨_, (), rfl, (bI_t (by constructor <;> omega)).symm, trivial⟩, hS.F ht⟩) hS.2.2 dX10_in_18

set_option maxHeartbeats 4000000 in
set_option maxRecDepth 100000 in
theorem c_X10_isSinger (l : Launch) (dC : Nat → ClassId) (dI : Nat → Nat → Nat) (cI : ClassId) (b : Nat → Nat) (pm r_s r_w st : Int32) (n w : Nat) (wk tr nd hd sd kt kw kh : Int32) (hz : Int64) (hn : n ≤ 4) (hw : w ≤ 5) (x : Int32) : Met l yX10_isSinger wsX10_isSinger ({ frames := 1, cells := 0, slots := 0, locals := 25 } : Room) (roP dC dI cI ([moW b pm r_s r_w st n w wk tr nd hd sd kt kw kh hz]) [.ref (b 0), .int (x)]) (roI (fun r => r = bI (inR x n))) 0 0 (fun _ => False) := by
  refine Met.ofW (cc := cX10_isSinger) (maxL := 2) (ret := (some .boolean)) (by decide) rfl ?_
  intro p e s m args below meth c s₁ B hml hv
  obtain ⟨rfl, hP, hK⟩ := hv
  have hx := B.exec
  have hb := B.bytes
  have hr := B.returns
  have hts := atoms_spec (ws := wsX10_isSinger) B.pre
  have hown : s.vm.findClass RX10 = some m.cls := findClass_of_methodNamed B.named
  have hlocks := B.notSynchronized
  have hS : va_S (fun _ => False) s.heap s.heap [] := va_S.rf
  have hl := lv_entry ([.ref (b 0), .int (x)]) (n := 2) (Nat.le_of_ble_eq_true rfl)
  rw [lg_entry_eq]
  generalize (lg_sl ([.ref (b 0), .int (x)]) ++ List.replicate (2 - (lg_sl ([.ref (b 0), .int (x)])).length) Slot.unset).toArray = ls at hl ⊢
  have hl : lv_has ls 2 [(0, .ref (b 0)), (1, .int (x))] := hl
  refine lv_iload_n hx hb dX10_isSinger_0 rfl (lv_at hl 1 rfl) ?_
  refine lv_i2l (v := (x).toInt64) hx hb dX10_isSinger_1 rfl ?_
  refine lv_lconst (v := (nI 0).toInt64) hx hb dX10_isSinger_2 (by decide) ?_
  refine lv_aload_n hx hb dX10_isSinger_3 rfl (lv_at hl 0 rfl) ?_
  refine va_get (D := (dC, dI)) (ci := 10) (v := .int (nI (n))) (C := RX10) (T := TX10) (N := 26) hx hb hts (fun _ h => List.mem_cons_of_mem _ (List.mem_append_right _ (h))) hown hK.1 hP 0 rfl rfl 7 (by decide) (hts (Cond.fieldLink RX10 81 "WorstVoiceModel" "singers" "I") (List.mem_of_getElem? (i := 1) rfl)) (fun _ h9 => h9) rfl dX10_isSinger_4 ?_
  refine lv_iconst (v := nI (1)) hx hb dX10_isSinger_7 (by decide) ?_
  refine lv_isub hx hb dX10_isSinger_8 ?_
  refine lv_i2l (v := (nI (n) - nI (1)).toInt64) hx hb dX10_isSinger_9 rfl ?_
  refine ro_calli (va_runS (As := [.long ((x).toInt64), .long ((nI 0).toInt64), .long ((nI (n) - nI (1)).toInt64)]) (rest := []) ⟨hx, hb, hml, hown, hts⟩ (c_X10_in l dC dI cI x (nI (0)) (nI (n) - nI (1))) (va_cwS 3 hts gX10_isSinger_X10_in rfl rfl rfl (by decide +kernel) ⟨Nat.le_of_ble_eq_true rfl, Nat.le_of_ble_eq_true rfl⟩) (ro_ps hK hP [] rfl) rfl rfl hl.1 rfl (lv_room (Nat.le_of_ble_eq_true rfl)) dX10_isSinger_10 ⟨Nat.zero_le _, Nat.zero_le _⟩) hS hP (fun r1 H locs hr1 hP hS => ?_)
  subst hr1
  refine tp_i (z := bI (inR x n)) (bI_i (by rw [nI_toInt (n := 0) (by decide), m1_toInt (by omega)]; constructor <;> (intro h; constructor <;> omega))) ?_
  exact W.zret hx hb hr (by first | rfl | exact bI_nz) (fun t ht hW => ⟨⟨_, (), rfl, rfl, trivial⟩, hS.F ht⟩) hS.2.2 dX10_isSinger_13

set_option maxHeartbeats 4000000 in
set_option maxRecDepth 100000 in
theorem c_X10_isWidow (l : Launch) (dC : Nat → ClassId) (dI : Nat → Nat → Nat) (cI : ClassId) (b : Nat → Nat) (pm r_s r_w st : Int32) (n w : Nat) (wk tr nd hd sd kt kw kh : Int32) (hz : Int64) (hn : n ≤ 4) (hw : w ≤ 5) (x : Int32) : Met l yX10_isWidow wsX10_isWidow ({ frames := 1, cells := 0, slots := 0, locals := 25 } : Room) (roP dC dI cI ([moW b pm r_s r_w st n w wk tr nd hd sd kt kw kh hz]) [.ref (b 0), .int (x)]) (roI (fun r => r = bI (inR x w))) 0 0 (fun _ => False) := by
  refine Met.ofW (cc := cX10_isWidow) (maxL := 2) (ret := (some .boolean)) (by decide) rfl ?_
  intro p e s m args below meth c s₁ B hml hv
  obtain ⟨rfl, hP, hK⟩ := hv
  have hx := B.exec
  have hb := B.bytes
  have hr := B.returns
  have hts := atoms_spec (ws := wsX10_isWidow) B.pre
  have hown : s.vm.findClass RX10 = some m.cls := findClass_of_methodNamed B.named
  have hlocks := B.notSynchronized
  have hS : va_S (fun _ => False) s.heap s.heap [] := va_S.rf
  have hl := lv_entry ([.ref (b 0), .int (x)]) (n := 2) (Nat.le_of_ble_eq_true rfl)
  rw [lg_entry_eq]
  generalize (lg_sl ([.ref (b 0), .int (x)]) ++ List.replicate (2 - (lg_sl ([.ref (b 0), .int (x)])).length) Slot.unset).toArray = ls at hl ⊢
  have hl : lv_has ls 2 [(0, .ref (b 0)), (1, .int (x))] := hl
  refine lv_iload_n hx hb dX10_isWidow_0 rfl (lv_at hl 1 rfl) ?_
  refine lv_i2l (v := (x).toInt64) hx hb dX10_isWidow_1 rfl ?_
  refine lv_lconst (v := (nI 0).toInt64) hx hb dX10_isWidow_2 (by decide) ?_
  refine lv_aload_n hx hb dX10_isWidow_3 rfl (lv_at hl 0 rfl) ?_
  refine va_get (D := (dC, dI)) (ci := 10) (v := .int (nI (w))) (C := RX10) (T := TX10) (N := 26) hx hb hts (fun _ h => List.mem_cons_of_mem _ (List.mem_append_right _ (h))) hown hK.1 hP 0 rfl rfl 8 (by decide) (hts (Cond.fieldLink RX10 84 "WorstVoiceModel" "widows" "I") (List.mem_of_getElem? (i := 1) rfl)) (fun _ h9 => h9) rfl dX10_isWidow_4 ?_
  refine lv_iconst (v := nI (1)) hx hb dX10_isWidow_7 (by decide) ?_
  refine lv_isub hx hb dX10_isWidow_8 ?_
  refine lv_i2l (v := (nI (w) - nI (1)).toInt64) hx hb dX10_isWidow_9 rfl ?_
  refine ro_calli (va_runS (As := [.long ((x).toInt64), .long ((nI 0).toInt64), .long ((nI (w) - nI (1)).toInt64)]) (rest := []) ⟨hx, hb, hml, hown, hts⟩ (c_X10_in l dC dI cI x (nI (0)) (nI (w) - nI (1))) (va_cwS 3 hts gX10_isWidow_X10_in rfl rfl rfl (by decide +kernel) ⟨Nat.le_of_ble_eq_true rfl, Nat.le_of_ble_eq_true rfl⟩) (ro_ps hK hP [] rfl) rfl rfl hl.1 rfl (lv_room (Nat.le_of_ble_eq_true rfl)) dX10_isWidow_10 ⟨Nat.zero_le _, Nat.zero_le _⟩) hS hP (fun r1 H locs hr1 hP hS => ?_)
  subst hr1
  refine tp_i (z := bI (inR x w)) (bI_i (by rw [nI_toInt (n := 0) (by decide), m1_toInt (by omega)]; constructor <;> (intro h; constructor <;> omega))) ?_
  exact W.zret hx hb hr (by first | rfl | exact bI_nz) (fun t ht hW => ⟨⟨_, (), rfl, rfl, trivial⟩, hS.F ht⟩) hS.2.2 dX10_isWidow_13

set_option maxHeartbeats 4000000 in
set_option maxRecDepth 100000 in
theorem c_X10_badOf (l : Launch) (dC : Nat → ClassId) (dI : Nat → Nat → Nat) (cI : ClassId) (b : Nat → Nat) (pm r_s r_w st : Int32) (n w : Nat) (wk tr nd hd sd kt kw kh : Int32) (hz : Int64) (R : Nat → Nat) (hR : WR R) (hn : n ≤ 4) (s_ f : Nat) (hs : s_ < n) (hf : f < 4) : Met l yX10_badOf wsX10_badOf ({ frames := 0, cells := 0, slots := 0, locals := 0 } : Room) (roP dC dI cI ([moW b pm r_s r_w st n w wk tr nd hd sd kt kw kh hz] ++ [(b 4, .inl (cI, 32, .inl (fun i => nI (R i))))]) [.ref (b 0), .int (nI (s_)), .int (nI (f))]) (roI (fun r => r = nI (hb_ R s_ f))) 0 0 (fun _ => False) := by
  refine Met.ofW (cc := cX10_badOf) (maxL := 5) (ret := (some .int)) (by decide) rfl ?_
  intro p e s m args below meth c s₁ B hml hv
  obtain ⟨rfl, hP, hK⟩ := hv
  have hx := B.exec
  have hb := B.bytes
  have hr := B.returns
  have hts := atoms_spec (ws := wsX10_badOf) B.pre
  have hown : s.vm.findClass RX10 = some m.cls := findClass_of_methodNamed B.named
  have hlocks := B.notSynchronized
  have hS : va_S (fun _ => False) s.heap s.heap [] := va_S.rf
  have hl := lv_entry ([.ref (b 0), .int (nI (s_)), .int (nI (f))]) (n := 5) (Nat.le_of_ble_eq_true rfl)
  rw [lg_entry_eq]
  generalize (lg_sl ([.ref (b 0), .int (nI (s_)), .int (nI (f))]) ++ List.replicate (5 - (lg_sl ([.ref (b 0), .int (nI (s_)), .int (nI (f))])).length) Slot.unset).toArray = ls at hl ⊢
  have hl : lv_has ls 5 [(0, .ref (b 0)), (1, .int (nI (s_))), (2, .int (nI (f)))] := hl
  refine W_abs (fun G hG => ?_)
  have hkk := hR.k (s := s_) (by omega)
  have hff := hR.f (s := s_) (f := f) (by omega) hf
  have hcc := hR.c (s := s_) (by omega)
  have hll := hR.l (s := s_) (by omega)
  have hhh := hR.h (s := s_) (by omega)
  have L133 : ∀ (p : Nat) (q : Nat), p = q3 (R (8 * s_)) f (q2 (R (8 * s_)) f (q1 (R (8 * s_)) f (R (8 * s_ + 1 + f)))) → q = (if R (8 * s_ + 5) = 1 ∧ (f = 0 ∨ f = 1) then 3 else 0) → ∀ (H : Heap) (locs : List Loc), va_P (dC, dI) vwCl [((b 0), .inr (10, [.ref (b 1), .int (pm), .ref (b 2), .int (r_s), .ref (b 3), .int (r_w), .int (st), .int (nI (n)), .int (nI (w)), .int (wk), .int (tr), .ref (b 4), .ref (b 5), .int (nd), .ref (b 6), .ref (b 7), .int (hd), .ref (b 8), .int (sd), .ref (b 9), .int (kt), .int (kw), .int (kh), .ref (b 10), .ref (b 11), .long (hz)])), ((b 4), .inl (cI, 32, .inl (fun ii => nI (R ii))))] H → va_S (fun _ => False) s.heap H locs → ∀ (ls : Array Slot), lv_has ls 5 [(0, .ref (b 0)), (1, .int (nI (s_))), (2, .int (nI (f))), (3, .int (nI (R (8 * s_)))), (4, .int (nI (p)))] → G H locs (F0 m 133 ls [.int (nI (q)), .int (nI (p))]) := by
    intro p q hp hq H locs hP hS ls hl
    refine (hG _ _ _).mpr ?_
    have hkk := hR.k (s := s_) (by omega)
    have hff := hR.f (s := s_) (f := f) (by omega) hf
    have hcc := hR.c (s := s_) (by omega)
    have hll := hR.l (s := s_) (by omega)
    have hhh := hR.h (s := s_) (by omega)
    refine lv_iadd hx hb dX10_badOf_133 ?_
    refine tp_i (z := nI (p + q)) (nI_add (p) (q)) ?_
    refine lv_istore (lv' := [(4, .int (nI (p + q))), (0, .ref (b 0)), (1, .int (nI (s_))), (2, .int (nI (f))), (3, .int (nI (R (8 * s_))))]) hx hb dX10_badOf_134 hl (by decide) rfl (fun ls hl => ?_)
    refine lv_iload hx hb dX10_badOf_136 (lv_at hl 0 rfl) ?_
    refine lv_aload_n hx hb dX10_badOf_138 rfl (lv_at hl 1 rfl) ?_
    refine va_get (D := (dC, dI)) (ci := 10) (v := .ref (b 4)) (C := RX10) (T := TX10) (N := 26) hx hb hts (fun _ h => List.mem_cons_of_mem _ (List.mem_append_right _ (h))) hown hK.1 hP 0 rfl rfl 11 (by decide) (hts (Cond.fieldLink RX10 19 "WorstVoiceModel" "rows" "[I") (List.mem_of_getElem? (i := 1) rfl)) (fun _ h9 => h9) rfl dX10_badOf_139 ?_
    refine lv_bipush (v := nI (8)) hx hb dX10_badOf_142 (by decide) ?_
    refine lv_iload_n hx hb dX10_badOf_144 rfl (lv_at hl 2 rfl) ?_
    refine lv_imul hx hb dX10_badOf_145 ?_
    refine tp_i (z := nI (8 * s_)) (pk_mul (8) (s_)) ?_
    refine lv_bipush (v := nI (6)) hx hb dX10_badOf_146 (by decide) ?_
    refine lv_iadd hx hb dX10_badOf_148 ?_
    refine tp_i (z := nI (8 * s_ + 6)) (nI_add (8 * s_) (6)) ?_
    refine va_iald hx hb hK.1 hP 1 0 rfl rfl (vp_in_nI (by omega) (by decide)) dX10_badOf_149 ?_
    refine tp_i (z := nI (R (8 * s_ + 6))) (ld_n (fun ii => nI (R ii)) (by omega)) ?_
    refine lv_aload_n hx hb dX10_badOf_150 rfl (lv_at hl 1 rfl) ?_
    refine va_get (D := (dC, dI)) (ci := 10) (v := .ref (b 4)) (C := RX10) (T := TX10) (N := 26) hx hb hts (fun _ h => List.mem_cons_of_mem _ (List.mem_append_right _ (h))) hown hK.1 hP 0 rfl rfl 11 (by decide) (hts (Cond.fieldLink RX10 19 "WorstVoiceModel" "rows" "[I") (List.mem_of_getElem? (i := 1) rfl)) (fun _ h9 => h9) rfl dX10_badOf_151 ?_
    refine lv_bipush (v := nI (8)) hx hb dX10_badOf_154 (by decide) ?_
    refine lv_iload_n hx hb dX10_badOf_156 rfl (lv_at hl 2 rfl) ?_
    refine lv_imul hx hb dX10_badOf_157 ?_
    refine tp_i (z := nI (8 * s_)) (pk_mul (8) (s_)) ?_
    refine lv_bipush (v := nI (7)) hx hb dX10_badOf_158 (by decide) ?_
    refine lv_iadd hx hb dX10_badOf_160 ?_
    refine tp_i (z := nI (8 * s_ + 7)) (nI_add (8 * s_) (7)) ?_
    refine va_iald hx hb hK.1 hP 1 0 rfl rfl (vp_in_nI (by omega) (by decide)) dX10_badOf_161 ?_
    refine tp_i (z := nI (R (8 * s_ + 7))) (ld_n (fun ii => nI (R ii)) (by omega)) ?_
    refine lv_iadd hx hb dX10_badOf_162 ?_
    refine tp_i (z := nI (R (8 * s_ + 6) + R (8 * s_ + 7))) (nI_add (R (8 * s_ + 6)) (R (8 * s_ + 7))) ?_
    refine lv_isub hx hb dX10_badOf_163 ?_
    refine lv_istore (lv' := [(4, .int ((nI (p + q)) - (nI (R (8 * s_ + 6) + R (8 * s_ + 7))))), (0, .ref (b 0)), (1, .int (nI (s_))), (2, .int (nI (f))), (3, .int (nI (R (8 * s_))))]) hx hb dX10_badOf_164 hl (by decide) rfl (fun ls hl => ?_)
    refine lv_iload hx hb dX10_badOf_166 (lv_at hl 0 rfl) ?_
    refine lv_if_ge (tgt := 175) hx hb dX10_badOf_168 (by decide) (fun c1 => ?_) (fun c1 => ?_)
    · have c1 := r0_ge.mp c1
      refine lv_iload hx hb dX10_badOf_175 (lv_at hl 0 rfl) ?_
      exact W.iret hx hb hr (fun t ht hW => ⟨⟨_, (), rfl, (bad_end hp hq hf (by omega) (by omega) (by omega) (by omega) (Or.inr ⟨by assumption, rfl⟩)), trivial⟩, hS.F ht⟩) hS.2.2 dX10_badOf_177
    · have c1 := mt r0_ge.mpr c1
      refine lv_iconst (v := nI (0)) hx hb dX10_badOf_171 (by decide) ?_
      refine lv_goto (tgt := 177) hx hb dX10_badOf_172 (by decide) ?_
      exact W.iret hx hb hr (fun t ht hW => ⟨⟨_, (), rfl, (bad_end hp hq hf (by omega) (by omega) (by omega) (by omega) (Or.inl ⟨by assumption, rfl⟩)), trivial⟩, hS.F ht⟩) hS.2.2 dX10_badOf_177
  have L102 : ∀ (p : Nat), p = q3 (R (8 * s_)) f (q2 (R (8 * s_)) f (q1 (R (8 * s_)) f (R (8 * s_ + 1 + f)))) → ∀ (H : Heap) (locs : List Loc), va_P (dC, dI) vwCl [((b 0), .inr (10, [.ref (b 1), .int (pm), .ref (b 2), .int (r_s), .ref (b 3), .int (r_w), .int (st), .int (nI (n)), .int (nI (w)), .int (wk), .int (tr), .ref (b 4), .ref (b 5), .int (nd), .ref (b 6), .ref (b 7), .int (hd), .ref (b 8), .int (sd), .ref (b 9), .int (kt), .int (kw), .int (kh), .ref (b 10), .ref (b 11), .long (hz)])), ((b 4), .inl (cI, 32, .inl (fun ii => nI (R ii))))] H → va_S (fun _ => False) s.heap H locs → ∀ (ls : Array Slot), lv_has ls 5 [(0, .ref (b 0)), (1, .int (nI (s_))), (2, .int (nI (f))), (3, .int (nI (R (8 * s_)))), (4, .int (nI (p)))] → G H locs (F0 m 102 ls []) := by
    intro p hp H locs hP hS ls hl
    refine (hG _ _ _).mpr ?_
    have hkk := hR.k (s := s_) (by omega)
    have hff := hR.f (s := s_) (f := f) (by omega) hf
    have hcc := hR.c (s := s_) (by omega)
    have hll := hR.l (s := s_) (by omega)
    have hhh := hR.h (s := s_) (by omega)
    have hpb := q3_le (k := R (8 * s_)) (f := f) (q2_le (k := R (8 * s_)) (f := f) (q1_le (k := R (8 * s_)) (f := f) hff))
    rw [← hp] at hpb
    refine lv_iload hx hb dX10_badOf_102 (lv_at hl 4 rfl) ?_
    refine lv_aload_n hx hb dX10_badOf_104 rfl (lv_at hl 0 rfl) ?_
    refine va_get (D := (dC, dI)) (ci := 10) (v := .ref (b 4)) (C := RX10) (T := TX10) (N := 26) hx hb hts (fun _ h => List.mem_cons_of_mem _ (List.mem_append_right _ (h))) hown hK.1 hP 0 rfl rfl 11 (by decide) (hts (Cond.fieldLink RX10 19 "WorstVoiceModel" "rows" "[I") (List.mem_of_getElem? (i := 1) rfl)) (fun _ h9 => h9) rfl dX10_badOf_105 ?_
    refine lv_bipush (v := nI (8)) hx hb dX10_badOf_108 (by decide) ?_
    refine lv_iload_n hx hb dX10_badOf_110 rfl (lv_at hl 1 rfl) ?_
    refine lv_imul hx hb dX10_badOf_111 ?_
    refine tp_i (z := nI (8 * s_)) (pk_mul (8) (s_)) ?_
    refine lv_iconst (v := nI (5)) hx hb dX10_badOf_112 (by decide) ?_
    refine lv_iadd hx hb dX10_badOf_113 ?_
    refine tp_i (z := nI (8 * s_ + 5)) (nI_add (8 * s_) (5)) ?_
    refine va_iald hx hb hK.1 hP 1 0 rfl rfl (vp_in_nI (by omega) (by decide)) dX10_badOf_114 ?_
    refine tp_i (z := nI (R (8 * s_ + 5))) (ld_n (fun ii => nI (R ii)) (by omega)) ?_
    refine lv_iconst (v := nI (1)) hx hb dX10_badOf_115 (by decide) ?_
    refine lv_icmp_ne (tgt := 132) hx hb dX10_badOf_116 (by decide) (fun c2 => ?_) (fun c2 => ?_)
    · have c2 := mt (nI_eq (by omega) (by decide)).mpr c2
      refine lv_iconst (v := nI (0)) hx hb dX10_badOf_132 (by decide) ?_
      exact (hG _ _ _).mp (L133 (p) (0) hp (by (repeat' split) <;> omega) _ _ hP hS _ (lv_sub hl [0, 1, 2, 3, 4] rfl))
    · have c2 := (nI_eq (by omega) (by decide)).mp c2
      refine lv_iload_n hx hb dX10_badOf_119 rfl (lv_at hl 2 rfl) ?_
      refine lv_if_eq (tgt := 128) hx hb dX10_badOf_120 (by decide) (fun c3 => ?_) (fun c3 => ?_)
      · have c3 := (z_eq (by omega)).mp c3
        refine lv_iconst (v := nI (3)) hx hb dX10_badOf_128 (by decide) ?_
        refine lv_goto (tgt := 133) hx hb dX10_badOf_129 (by decide) ?_
        exact (hG _ _ _).mp (L133 (p) (3) hp (by (repeat' split) <;> omega) _ _ hP hS _ (lv_sub hl [0, 1, 2, 3, 4] rfl))
      · have c3 := mt (z_eq (by omega)).mpr c3
        refine lv_iload_n hx hb dX10_badOf_123 rfl (lv_at hl 2 rfl) ?_
        refine lv_iconst (v := nI (1)) hx hb dX10_badOf_124 (by decide) ?_
        refine lv_icmp_ne (tgt := 132) hx hb dX10_badOf_125 (by decide) (fun c4 => ?_) (fun c4 => ?_)
        · have c4 := mt (nI_eq (by omega) (by decide)).mpr c4
          refine lv_iconst (v := nI (0)) hx hb dX10_badOf_132 (by decide) ?_
          exact (hG _ _ _).mp (L133 (p) (0) hp (by (repeat' split) <;> omega) _ _ hP hS _ (lv_sub hl [0, 1, 2, 3, 4] rfl))
        · have c4 := (nI_eq (by omega) (by decide)).mp c4
          refine lv_iconst (v := nI (3)) hx hb dX10_badOf_128 (by decide) ?_
          refine lv_goto (tgt := 133) hx hb dX10_badOf_129 (by decide) ?_
          exact (hG _ _ _).mp (L133 (p) (3) hp (by (repeat' split) <;> omega) _ _ hP hS _ (lv_sub hl [0, 1, 2, 3, 4] rfl))
  have L81 : ∀ (p : Nat), p = q2 (R (8 * s_)) f (q1 (R (8 * s_)) f (R (8 * s_ + 1 + f))) → ∀ (H : Heap) (locs : List Loc), va_P (dC, dI) vwCl [((b 0), .inr (10, [.ref (b 1), .int (pm), .ref (b 2), .int (r_s), .ref (b 3), .int (r_w), .int (st), .int (nI (n)), .int (nI (w)), .int (wk), .int (tr), .ref (b 4), .ref (b 5), .int (nd), .ref (b 6), .ref (b 7), .int (hd), .ref (b 8), .int (sd), .ref (b 9), .int (kt), .int (kw), .int (kh), .ref (b 10), .ref (b 11), .long (hz)])), ((b 4), .inl (cI, 32, .inl (fun ii => nI (R ii))))] H → va_S (fun _ => False) s.heap H locs → ∀ (ls : Array Slot), lv_has ls 5 [(0, .ref (b 0)), (1, .int (nI (s_))), (2, .int (nI (f))), (3, .int (nI (R (8 * s_)))), (4, .int (nI (p)))] → G H locs (F0 m 81 ls []) := by
    intro p hp H locs hP hS ls hl
    refine (hG _ _ _).mpr ?_
    have hkk := hR.k (s := s_) (by omega)
    have hff := hR.f (s := s_) (f := f) (by omega) hf
    have hcc := hR.c (s := s_) (by omega)
    have hll := hR.l (s := s_) (by omega)
    have hhh := hR.h (s := s_) (by omega)
    have hpb := q2_le (k := R (8 * s_)) (f := f) (q1_le (k := R (8 * s_)) (f := f) hff)
    rw [← hp] at hpb
    refine lv_iload_n hx hb dX10_badOf_81 rfl (lv_at hl 2 rfl) ?_
    refine lv_iconst (v := nI (3)) hx hb dX10_badOf_82 (by decide) ?_
    refine lv_icmp_ne (tgt := 98) hx hb dX10_badOf_83 (by decide) (fun c5 => ?_) (fun c5 => ?_)
    · have c5 := mt (nI_eq (by omega) (by decide)).mpr c5
      refine lv_iload hx hb dX10_badOf_98 (lv_at hl 4 rfl) ?_
      refine lv_istore (lv' := [(4, .int (nI (p))), (0, .ref (b 0)), (1, .int (nI (s_))), (2, .int (nI (f))), (3, .int (nI (R (8 * s_))))]) hx hb dX10_badOf_100 hl (by decide) rfl (fun ls hl => ?_)
      exact (hG _ _ _).mp (L102 (p) (by rw [← hp]; simp only [q3]; (repeat' split) <;> omega) _ _ hP hS _ (lv_sub hl [1, 2, 3, 4, 0] rfl))
    · have c5 := (nI_eq (by omega) (by decide)).mp c5
      refine lv_iload_n hx hb dX10_badOf_86 rfl (lv_at hl 3 rfl) ?_
      refine lv_iconst (v := nI (2)) hx hb dX10_badOf_87 (by decide) ?_
      refine lv_icmp_ne (tgt := 98) hx hb dX10_badOf_88 (by decide) (fun c6 => ?_) (fun c6 => ?_)
      · have c6 := mt (nI_eq (by omega) (by decide)).mpr c6
        refine lv_iload hx hb dX10_badOf_98 (lv_at hl 4 rfl) ?_
        refine lv_istore (lv' := [(4, .int (nI (p))), (0, .ref (b 0)), (1, .int (nI (s_))), (2, .int (nI (f))), (3, .int (nI (R (8 * s_))))]) hx hb dX10_badOf_100 hl (by decide) rfl (fun ls hl => ?_)
        exact (hG _ _ _).mp (L102 (p) (by rw [← hp]; simp only [q3]; (repeat' split) <;> omega) _ _ hP hS _ (lv_sub hl [1, 2, 3, 4, 0] rfl))
      · have c6 := (nI_eq (by omega) (by decide)).mp c6
        refine lv_iconst (v := nI (2)) hx hb dX10_badOf_91 (by decide) ?_
        refine lv_iload hx hb dX10_badOf_92 (lv_at hl 4 rfl) ?_
        refine lv_imul hx hb dX10_badOf_94 ?_
        refine tp_i (z := nI (2 * p)) (pk_mul (2) (p)) ?_
        refine lv_goto (tgt := 100) hx hb dX10_badOf_95 (by decide) ?_
        refine lv_istore (lv' := [(4, .int (nI (2 * p))), (0, .ref (b 0)), (1, .int (nI (s_))), (2, .int (nI (f))), (3, .int (nI (R (8 * s_))))]) hx hb dX10_badOf_100 hl (by decide) rfl (fun ls hl => ?_)
        exact (hG _ _ _).mp (L102 (2 * p) (by rw [← hp]; simp only [q3]; (repeat' split) <;> omega) _ _ hP hS _ (lv_sub hl [1, 2, 3, 4, 0] rfl))
  have L60 : ∀ (p : Nat), p = q1 (R (8 * s_)) f (R (8 * s_ + 1 + f)) → ∀ (H : Heap) (locs : List Loc), va_P (dC, dI) vwCl [((b 0), .inr (10, [.ref (b 1), .int (pm), .ref (b 2), .int (r_s), .ref (b 3), .int (r_w), .int (st), .int (nI (n)), .int (nI (w)), .int (wk), .int (tr), .ref (b 4), .ref (b 5), .int (nd), .ref (b 6), .ref (b 7), .int (hd), .ref (b 8), .int (sd), .ref (b 9), .int (kt), .int (kw), .int (kh), .ref (b 10), .ref (b 11), .long (hz)])), ((b 4), .inl (cI, 32, .inl (fun ii => nI (R ii))))] H → va_S (fun _ => False) s.heap H locs → ∀ (ls : Array Slot), lv_has ls 5 [(0, .ref (b 0)), (1, .int (nI (s_))), (2, .int (nI (f))), (3, .int (nI (R (8 * s_)))), (4, .int (nI (p)))] → G H locs (F0 m 60 ls []) := by
    intro p hp H locs hP hS ls hl
    refine (hG _ _ _).mpr ?_
    have hkk := hR.k (s := s_) (by omega)
    have hff := hR.f (s := s_) (f := f) (by omega) hf
    have hcc := hR.c (s := s_) (by omega)
    have hll := hR.l (s := s_) (by omega)
    have hhh := hR.h (s := s_) (by omega)
    have hpb := q1_le (k := R (8 * s_)) (f := f) hff
    rw [← hp] at hpb
    refine lv_iload_n hx hb dX10_badOf_60 rfl (lv_at hl 2 rfl) ?_
    refine lv_iconst (v := nI (1)) hx hb dX10_badOf_61 (by decide) ?_
    refine lv_icmp_ne (tgt := 77) hx hb dX10_badOf_62 (by decide) (fun c7 => ?_) (fun c7 => ?_)
    · have c7 := mt (nI_eq (by omega) (by decide)).mpr c7
      refine lv_iload hx hb dX10_badOf_77 (lv_at hl 4 rfl) ?_
      refine lv_istore (lv' := [(4, .int (nI (p))), (0, .ref (b 0)), (1, .int (nI (s_))), (2, .int (nI (f))), (3, .int (nI (R (8 * s_))))]) hx hb dX10_badOf_79 hl (by decide) rfl (fun ls hl => ?_)
      exact (hG _ _ _).mp (L81 (p) (by rw [← hp]; simp only [q2]; (repeat' split) <;> omega) _ _ hP hS _ (lv_sub hl [1, 2, 3, 4, 0] rfl))
    · have c7 := (nI_eq (by omega) (by decide)).mp c7
      refine lv_iload_n hx hb dX10_badOf_65 rfl (lv_at hl 3 rfl) ?_
      refine lv_iconst (v := nI (4)) hx hb dX10_badOf_66 (by decide) ?_
      refine lv_icmp_ne (tgt := 77) hx hb dX10_badOf_67 (by decide) (fun c8 => ?_) (fun c8 => ?_)
      · have c8 := mt (nI_eq (by omega) (by decide)).mpr c8
        refine lv_iload hx hb dX10_badOf_77 (lv_at hl 4 rfl) ?_
        refine lv_istore (lv' := [(4, .int (nI (p))), (0, .ref (b 0)), (1, .int (nI (s_))), (2, .int (nI (f))), (3, .int (nI (R (8 * s_))))]) hx hb dX10_badOf_79 hl (by decide) rfl (fun ls hl => ?_)
        exact (hG _ _ _).mp (L81 (p) (by rw [← hp]; simp only [q2]; (repeat' split) <;> omega) _ _ hP hS _ (lv_sub hl [1, 2, 3, 4, 0] rfl))
      · have c8 := (nI_eq (by omega) (by decide)).mp c8
        refine lv_iload hx hb dX10_badOf_70 (lv_at hl 4 rfl) ?_
        refine lv_iconst (v := nI (2)) hx hb dX10_badOf_72 (by decide) ?_
        refine lv_idiv hx hb dX10_badOf_73 (by decide) ?_
        refine tp_i (z := nI (p / 2)) (pk_div (by omega) (by decide) (by decide)) ?_
        refine lv_goto (tgt := 79) hx hb dX10_badOf_74 (by decide) ?_
        refine lv_istore (lv' := [(4, .int (nI (p / 2))), (0, .ref (b 0)), (1, .int (nI (s_))), (2, .int (nI (f))), (3, .int (nI (R (8 * s_))))]) hx hb dX10_badOf_79 hl (by decide) rfl (fun ls hl => ?_)
        exact (hG _ _ _).mp (L81 (p / 2) (by rw [← hp]; simp only [q2]; (repeat' split) <;> omega) _ _ hP hS _ (lv_sub hl [1, 2, 3, 4, 0] rfl))
  refine (hG _ _ _).mpr ?_
  refine lv_aload_n hx hb dX10_badOf_0 rfl (lv_at hl 0 rfl) ?_
  refine va_get (D := (dC, dI)) (ci := 10) (v := .ref (b 4)) (C := RX10) (T := TX10) (N := 26) hx hb hts (fun _ h => List.mem_cons_of_mem _ (List.mem_append_right _ (h))) hown hK.1 hP 0 rfl rfl 11 (by decide) (hts (Cond.fieldLink RX10 19 "WorstVoiceModel" "rows" "[I") (List.mem_of_getElem? (i := 1) rfl)) (fun _ h9 => h9) rfl dX10_badOf_1 ?_
  refine lv_bipush (v := nI (8)) hx hb dX10_badOf_4 (by decide) ?_
  refine lv_iload_n hx hb dX10_badOf_6 rfl (lv_at hl 1 rfl) ?_
  refine lv_imul hx hb dX10_badOf_7 ?_
  refine tp_i (z := nI (8 * s_)) (pk_mul (8) (s_)) ?_
  refine va_iald hx hb hK.1 hP 1 0 rfl rfl (vp_in_nI (by omega) (by decide)) dX10_badOf_8 ?_
  refine tp_i (z := nI (R (8 * s_))) (ld_n (fun ii => nI (R ii)) (by omega)) ?_
  refine lv_istore_n (lv' := [(3, .int (nI (R (8 * s_)))), (0, .ref (b 0)), (1, .int (nI (s_))), (2, .int (nI (f)))]) hx hb dX10_badOf_9 rfl hl (by decide) rfl (fun ls hl => ?_)
  refine lv_aload_n hx hb dX10_badOf_10 rfl (lv_at hl 1 rfl) ?_
  refine va_get (D := (dC, dI)) (ci := 10) (v := .ref (b 4)) (C := RX10) (T := TX10) (N := 26) hx hb hts (fun _ h => List.mem_cons_of_mem _ (List.mem_append_right _ (h))) hown hK.1 hP 0 rfl rfl 11 (by decide) (hts (Cond.fieldLink RX10 19 "WorstVoiceModel" "rows" "[I") (List.mem_of_getElem? (i := 1) rfl)) (fun _ h9 => h9) rfl dX10_badOf_11 ?_
  refine lv_bipush (v := nI (8)) hx hb dX10_badOf_14 (by decide) ?_
  refine lv_iload_n hx hb dX10_badOf_16 rfl (lv_at hl 2 rfl) ?_
  refine lv_imul hx hb dX10_badOf_17 ?_
  refine tp_i (z := nI (8 * s_)) (pk_mul (8) (s_)) ?_
  refine lv_iconst (v := nI (1)) hx hb dX10_badOf_18 (by decide) ?_
  refine lv_iadd hx hb dX10_badOf_19 ?_
  refine tp_i (z := nI (8 * s_ + 1)) (nI_add (8 * s_) (1)) ?_
  refine lv_iload_n hx hb dX10_badOf_20 rfl (lv_at hl 3 rfl) ?_
  refine lv_iadd hx hb dX10_badOf_21 ?_
  refine tp_i (z := nI (8 * s_ + 1 + f)) (nI_add (8 * s_ + 1) (f)) ?_
  refine va_iald hx hb hK.1 hP 1 0 rfl rfl (vp_in_nI (by omega) (by decide)) dX10_badOf_22 ?_
  refine tp_i (z := nI (R (8 * s_ + 1 + f))) (ld_n (fun ii => nI (R ii)) (by omega)) ?_
  refine lv_istore (lv' := [(4, .int (nI (R (8 * s_ + 1 + f)))), (3, .int (nI (R (8 * s_)))), (0, .ref (b 0)), (1, .int (nI (s_))), (2, .int (nI (f)))]) hx hb dX10_badOf_23 hl (by decide) rfl (fun ls hl => ?_)
  refine lv_iload_n hx hb dX10_badOf_25 rfl (lv_at hl 4 rfl) ?_
  refine lv_if_ne (tgt := 60) hx hb dX10_badOf_26 (by decide) (fun c9 => ?_) (fun c9 => ?_)
  · have c9 := mt (z_eq (by omega)).mpr c9
    exact (hG _ _ _).mp (L60 (R (8 * s_ + 1 + f)) (by simp only [q1]; (repeat' split) <;> omega) _ _ hP hS _ (lv_sub hl [2, 3, 4, 1, 0] rfl))
  · have c9 := (z_eq (by omega)).mp c9
    refine lv_iload_n hx hb dX10_badOf_29 rfl (lv_at hl 1 rfl) ?_
    refine lv_iconst (v := nI (1)) hx hb dX10_badOf_30 (by decide) ?_
    refine lv_icmp_eq (tgt := 39) hx hb dX10_badOf_31 (by decide) (fun c10 => ?_) (fun c10 => ?_)
    · have c10 := (nI_eq (by omega) (by decide)).mp c10
      refine lv_iload hx hb dX10_badOf_39 (lv_at hl 0 rfl) ?_
      refine lv_iconst (v := nI (2)) hx hb dX10_badOf_41 (by decide) ?_
      refine lv_idiv hx hb dX10_badOf_42 (by decide) ?_
      refine tp_i (z := nI ((R (8 * s_ + 1 + f)) / 2)) (pk_div (by omega) (by decide) (by decide)) ?_
      refine lv_goto (tgt := 58) hx hb dX10_badOf_43 (by decide) ?_
      refine lv_istore (lv' := [(4, .int (nI ((R (8 * s_ + 1 + f)) / 2))), (3, .int (nI (R (8 * s_)))), (0, .ref (b 0)), (1, .int (nI (s_))), (2, .int (nI (f)))]) hx hb dX10_badOf_58 hl (by decide) rfl (fun ls hl => ?_)
      exact (hG _ _ _).mp (L60 ((R (8 * s_ + 1 + f)) / 2) (by simp only [q1]; (repeat' split) <;> omega) _ _ hP hS _ (lv_sub hl [2, 3, 4, 1, 0] rfl))
    · have c10 := mt (nI_eq (by omega) (by decide)).mpr c10
      refine lv_iload_n hx hb dX10_badOf_34 rfl (lv_at hl 1 rfl) ?_
      refine lv_iconst (v := nI (4)) hx hb dX10_badOf_35 (by decide) ?_
      refine lv_icmp_ne (tgt := 46) hx hb dX10_badOf_36 (by decide) (fun c11 => ?_) (fun c11 => ?_)
      · have c11 := mt (nI_eq (by omega) (by decide)).mpr c11
        refine lv_iload_n hx hb dX10_badOf_46 rfl (lv_at hl 1 rfl) ?_
        refine lv_iconst (v := nI (3)) hx hb dX10_badOf_47 (by decide) ?_
        refine lv_icmp_ne (tgt := 56) hx hb dX10_badOf_48 (by decide) (fun c12 => ?_) (fun c12 => ?_)
        · have c12 := mt (nI_eq (by omega) (by decide)).mpr c12
          refine lv_iload hx hb dX10_badOf_56 (lv_at hl 0 rfl) ?_
          refine lv_istore (lv' := [(4, .int (nI (R (8 * s_ + 1 + f)))), (3, .int (nI (R (8 * s_)))), (0, .ref (b 0)), (1, .int (nI (s_))), (2, .int (nI (f)))]) hx hb dX10_badOf_58 hl (by decide) rfl (fun ls hl => ?_)
          exact (hG _ _ _).mp (L60 (R (8 * s_ + 1 + f)) (by simp only [q1]; (repeat' split) <;> omega) _ _ hP hS _ (lv_sub hl [2, 3, 4, 1, 0] rfl))
        · have c12 := (nI_eq (by omega) (by decide)).mp c12
          refine lv_bipush (v := nI (9)) hx hb dX10_badOf_51 (by decide) ?_
          refine lv_goto (tgt := 58) hx hb dX10_badOf_53 (by decide) ?_
          refine lv_istore (lv' := [(4, .int (nI (9))), (3, .int (nI (R (8 * s_)))), (0, .ref (b 0)), (1, .int (nI (s_))), (2, .int (nI (f)))]) hx hb dX10_badOf_58 hl (by decide) rfl (fun ls hl => ?_)
          exact (hG _ _ _).mp (L60 (9) (by simp only [q1]; (repeat' split) <;> omega) _ _ hP hS _ (lv_sub hl [2, 3, 4, 1, 0] rfl))
      · have c11 := (nI_eq (by omega) (by decide)).mp c11
        refine lv_iload hx hb dX10_badOf_39 (lv_at hl 0 rfl) ?_
        refine lv_iconst (v := nI (2)) hx hb dX10_badOf_41 (by decide) ?_
        refine lv_idiv hx hb dX10_badOf_42 (by decide) ?_
        refine tp_i (z := nI ((R (8 * s_ + 1 + f)) / 2)) (pk_div (by omega) (by decide) (by decide)) ?_
        refine lv_goto (tgt := 58) hx hb dX10_badOf_43 (by decide) ?_
        refine lv_istore (lv' := [(4, .int (nI ((R (8 * s_ + 1 + f)) / 2))), (3, .int (nI (R (8 * s_)))), (0, .ref (b 0)), (1, .int (nI (s_))), (2, .int (nI (f)))]) hx hb dX10_badOf_58 hl (by decide) rfl (fun ls hl => ?_)
        exact (hG _ _ _).mp (L60 ((R (8 * s_ + 1 + f)) / 2) (by simp only [q1]; (repeat' split) <;> omega) _ _ hP hS _ (lv_sub hl [2, 3, 4, 1, 0] rfl))

set_option maxHeartbeats 4000000 in
set_option maxRecDepth 100000 in
theorem c_X10_forWhom (l : Launch) (dC : Nat → ClassId) (dI : Nat → Nat → Nat) (cI : ClassId) (b : Nat → Nat) (pm r_s r_w st : Int32) (n w : Nat) (wk tr nd hd sd kt kw kh : Int32) (hz : Int64) (R mi : Nat → Nat) (mm : Nat → Int32) (hm : ∀ k, k < w → mm k = nI (mi k)) (hm4 : ∀ k, k < w → mi k < 4) (hR : WR R) (hn : n ≤ 4) (hn1 : 1 ≤ n) (hw : w ≤ 5) (i_ : Nat) (hi : i_ < w) : Met l yX10_forWhom wsX10_forWhom ({ frames := 1, cells := 0, slots := 0, locals := 24 } : Room) (roP dC dI cI ([moW b pm r_s r_w st n w wk tr nd hd sd kt kw kh hz] ++ [(b 4, .inl (cI, 32, .inl (fun i => nI (R i))))] ++ [(b 5, .inl (cI, 5, .inl mm))]) [.ref (b 0), .int (nI (i_))]) (roI (fun r => r = nI (fv R (mi i_) n))) 0 0 (fun _ => False) := by
  refine Met.ofW (cc := cX10_forWhom) (maxL := 4) (ret := (some .int)) (by decide) rfl ?_
  intro p e s m args below meth c s₁ B hml hv
  obtain ⟨rfl, hP, hK⟩ := hv
  have hx := B.exec
  have hb := B.bytes
  have hr := B.returns
  have hts := atoms_spec (ws := wsX10_forWhom) B.pre
  have hown : s.vm.findClass RX10 = some m.cls := findClass_of_methodNamed B.named
  have hlocks := B.notSynchronized
  have hS : va_S (fun _ => False) s.heap s.heap [] := va_S.rf
  have hl := lv_entry ([.ref (b 0), .int (nI (i_))]) (n := 4) (Nat.le_of_ble_eq_true rfl)
  rw [lg_entry_eq]
  generalize (lg_sl ([.ref (b 0), .int (nI (i_))]) ++ List.replicate (4 - (lg_sl ([.ref (b 0), .int (nI (i_))])).length) Slot.unset).toArray = ls at hl ⊢
  have hl : lv_has ls 4 [(0, .ref (b 0)), (1, .int (nI (i_)))] := hl
  refine W_abs (fun G hG => ?_)
  have L4 : ∀ (fu : Nat) (i : Nat), 1 ≤ i → i ≤ n → n + 1 ≤ i + fu → ∀ (H : Heap) (locs : List Loc), va_P (dC, dI) vwCl [((b 0), .inr (10, [.ref (b 1), .int (pm), .ref (b 2), .int (r_s), .ref (b 3), .int (r_w), .int (st), .int (nI (n)), .int (nI (w)), .int (wk), .int (tr), .ref (b 4), .ref (b 5), .int (nd), .ref (b 6), .ref (b 7), .int (hd), .ref (b 8), .int (sd), .ref (b 9), .int (kt), .int (kw), .int (kh), .ref (b 10), .ref (b 11), .long (hz)])), ((b 4), .inl (cI, 32, .inl (fun ii => nI (R ii)))), ((b 5), .inl (cI, 5, .inl mm))] H → va_S (fun _ => False) s.heap H locs → ∀ (ls : Array Slot), lv_has ls 4 [(0, .ref (b 0)), (1, .int (nI (i_))), (2, .int (nI (am (fun s => hb_ R s (mi i_)) (i)))), (3, .int (nI (i)))] → G H locs (F0 m 4 ls []) := by
    intro fu
    induction fu with
    | zero => intro i h1 h2 hfu H locs hP hS ls hl; omega
    | succ fu ih =>
      intro i h1 h2 hfu H locs hP hS ls hl
      refine (hG _ _ _).mpr ?_
      have hlt := am_lt (fun s => hb_ R s (mi i_)) i (by omega)
      have hf := hm4 i_ hi
      refine lv_iload_n hx hb dX10_forWhom_4 rfl (lv_at hl 3 rfl) ?_
      refine lv_aload_n hx hb dX10_forWhom_5 rfl (lv_at hl 0 rfl) ?_
      refine va_get (D := (dC, dI)) (ci := 10) (v := .int (nI (n))) (C := RX10) (T := TX10) (N := 26) hx hb hts (fun _ h => List.mem_cons_of_mem _ (List.mem_append_right _ (h))) hown hK.1 hP 0 rfl rfl 7 (by decide) (hts (Cond.fieldLink RX10 81 "WorstVoiceModel" "singers" "I") (List.mem_of_getElem? (i := 1) rfl)) (fun _ h9 => h9) rfl dX10_forWhom_6 ?_
      refine lv_icmp_ge (tgt := 49) hx hb dX10_forWhom_9 (by decide) (fun c1 => ?_) (fun c1 => ?_)
      · have c1 := (nI_leI (by omega) (by omega)).mp c1
        refine lv_iload_n hx hb dX10_forWhom_49 rfl (lv_at hl 2 rfl) ?_
        exact W.iret hx hb hr (fun t ht hW => ⟨⟨_, (), rfl, (by rw [show i = n by omega]; rfl), trivial⟩, hS.F ht⟩) hS.2.2 dX10_forWhom_50
      · have c1 := mt (nI_leI (by omega) (by omega)).mpr c1
        refine lv_aload_n hx hb dX10_forWhom_12 rfl (lv_at hl 0 rfl) ?_
        refine lv_iload_n hx hb dX10_forWhom_13 rfl (lv_at hl 3 rfl) ?_
        refine lv_aload_n hx hb dX10_forWhom_14 rfl (lv_at hl 0 rfl) ?_
        refine va_get (D := (dC, dI)) (ci := 10) (v := .ref (b 5)) (C := RX10) (T := TX10) (N := 26) hx hb hts (fun _ h => List.mem_cons_of_mem _ (List.mem_append_right _ (h))) hown hK.1 hP 0 rfl rfl 12 (by decide) (hts (Cond.fieldLink RX10 22 "WorstVoiceModel" "minds" "[I") (List.mem_of_getElem? (i := 2) rfl)) (fun _ h9 => h9) rfl dX10_forWhom_15 ?_
        refine lv_iload_n hx hb dX10_forWhom_18 rfl (lv_at hl 1 rfl) ?_
        refine va_iald hx hb hK.1 hP 2 0 rfl rfl (vp_in_nI (by omega) (by decide)) dX10_forWhom_19 ?_
        refine tp_i (z := nI (mi i_)) ((ld_n mm (by omega)).trans (hm _ (by omega))) ?_
        refine ro_calli (va_runV (As := [.int (nI (i)), .int (nI (mi i_))]) (rest := []) ⟨hx, hb, hml, hown, hts⟩ (c_X10_badOf l dC dI cI b pm r_s r_w st n w wk tr nd hd sd kt kw kh hz R hR hn (i) (mi i_) (by omega) (hf)) (cwV 2 hts gX10_forWhom_X10_badOf rfl rfl rfl (by decide +kernel) ⟨Nat.le_of_ble_eq_true rfl, Nat.le_of_ble_eq_true rfl⟩) (ro_pv hK hP [0, 1] rfl (ci := 10) (q0 := 0) (C := RX10) (T := TX10) (N := 26) rfl rfl) rfl rfl hl.1 rfl (lv_room (Nat.le_of_ble_eq_true rfl)) dX10_forWhom_20 ⟨Nat.zero_le _, Nat.zero_le _⟩) hS hP (fun r2 H locs hr2 hP hS => ?_)
        subst hr2
        have hb1 := hb_le hR (s := i) (f := mi i_) (by omega) (hf)
        refine lv_aload_n hx hb dX10_forWhom_23 rfl (lv_at hl 0 rfl) ?_
        refine lv_iload_n hx hb dX10_forWhom_24 rfl (lv_at hl 2 rfl) ?_
        refine lv_aload_n hx hb dX10_forWhom_25 rfl (lv_at hl 0 rfl) ?_
        refine va_get (D := (dC, dI)) (ci := 10) (v := .ref (b 5)) (C := RX10) (T := TX10) (N := 26) hx hb hts (fun _ h => List.mem_cons_of_mem _ (List.mem_append_right _ (h))) hown hK.1 hP 0 rfl rfl 12 (by decide) (hts (Cond.fieldLink RX10 22 "WorstVoiceModel" "minds" "[I") (List.mem_of_getElem? (i := 2) rfl)) (fun _ h9 => h9) rfl dX10_forWhom_26 ?_
        refine lv_iload_n hx hb dX10_forWhom_29 rfl (lv_at hl 1 rfl) ?_
        refine va_iald hx hb hK.1 hP 2 0 rfl rfl (vp_in_nI (by omega) (by decide)) dX10_forWhom_30 ?_
        refine tp_i (z := nI (mi i_)) ((ld_n mm (by omega)).trans (hm _ (by omega))) ?_
        refine ro_calli (va_runV (As := [.int (nI (am (fun s => hb_ R s (mi i_)) (i))), .int (nI (mi i_))]) (rest := [.int (nI (hb_ R (i) (mi i_)))]) ⟨hx, hb, hml, hown, hts⟩ (c_X10_badOf l dC dI cI b pm r_s r_w st n w wk tr nd hd sd kt kw kh hz R hR hn (am (fun s => hb_ R s (mi i_)) (i)) (mi i_) (by omega) (hf)) (cwV 2 hts gX10_forWhom_X10_badOf rfl rfl rfl (by decide +kernel) ⟨Nat.le_of_ble_eq_true rfl, Nat.le_of_ble_eq_true rfl⟩) (ro_pv hK hP [0, 1] rfl (ci := 10) (q0 := 0) (C := RX10) (T := TX10) (N := 26) rfl rfl) rfl rfl hl.1 rfl (lv_room (Nat.le_of_ble_eq_true rfl)) dX10_forWhom_31 ⟨Nat.zero_le _, Nat.zero_le _⟩) hS hP (fun r3 H locs hr3 hP hS => ?_)
        subst hr3
        have hb2 := hb_le hR (s := am (fun s => hb_ R s (mi i_)) (i)) (f := mi i_) (by omega) (hf)
        refine lv_icmp_le (tgt := 41) hx hb dX10_forWhom_34 (by decide) (fun c4 => ?_) (fun c4 => ?_)
        · have c4 := (nI_leI (by omega) (by omega)).mp c4
          refine lv_iload_n hx hb dX10_forWhom_41 rfl (lv_at hl 2 rfl) ?_
          refine lv_istore_n (lv' := [(2, .int (nI (am (fun s => hb_ R s (mi i_)) (i)))), (0, .ref (b 0)), (1, .int (nI (i_))), (3, .int (nI (i)))]) hx hb dX10_forWhom_42 rfl hl (by decide) rfl (fun ls hl => ?_)
          refine lv_iinc (v := nI (i + 1)) (lv' := [(3, .int (nI (i + 1))), (2, .int (nI (am (fun s => hb_ R s (mi i_)) (i)))), (0, .ref (b 0)), (1, .int (nI (i_)))]) hx hb dX10_forWhom_43 hl (k := 3) rfl (nI_add (i) 1) (by decide) rfl (fun ls hl => ?_)
          refine lv_goto (tgt := 4) hx hb dX10_forWhom_46 (by decide) ?_
          exact (hG _ _ _).mp (ih (i + 1) (by omega) (by omega) (by omega) _ _ hP hS _ (by rw [am_n (g := fun s => hb_ R s (mi i_)) (by omega)]; exact lv_sub hl [2, 3, 1, 0] rfl))
        · have c4 := mt (nI_leI (by omega) (by omega)).mpr c4
          refine lv_iload_n hx hb dX10_forWhom_37 rfl (lv_at hl 3 rfl) ?_
          refine lv_goto (tgt := 42) hx hb dX10_forWhom_38 (by decide) ?_
          refine lv_istore_n (lv' := [(2, .int (nI (i))), (0, .ref (b 0)), (1, .int (nI (i_))), (3, .int (nI (i)))]) hx hb dX10_forWhom_42 rfl hl (by decide) rfl (fun ls hl => ?_)
          refine lv_iinc (v := nI (i + 1)) (lv' := [(3, .int (nI (i + 1))), (2, .int (nI (i))), (0, .ref (b 0)), (1, .int (nI (i_)))]) hx hb dX10_forWhom_43 hl (k := 3) rfl (nI_add (i) 1) (by decide) rfl (fun ls hl => ?_)
          refine lv_goto (tgt := 4) hx hb dX10_forWhom_46 (by decide) ?_
          exact (hG _ _ _).mp (ih (i + 1) (by omega) (by omega) (by omega) _ _ hP hS _ (by rw [am_y (g := fun s => hb_ R s (mi i_)) (by omega)]; exact lv_sub hl [2, 3, 1, 0] rfl))
  refine (hG _ _ _).mpr ?_
  refine lv_iconst (v := nI (0)) hx hb dX10_forWhom_0 (by decide) ?_
  refine lv_istore_n (lv' := [(2, .int (nI (0))), (0, .ref (b 0)), (1, .int (nI (i_)))]) hx hb dX10_forWhom_1 rfl hl (by decide) rfl (fun ls hl => ?_)
  refine lv_iconst (v := nI (1)) hx hb dX10_forWhom_2 (by decide) ?_
  refine lv_istore_n (lv' := [(3, .int (nI (1))), (2, .int (nI (0))), (0, .ref (b 0)), (1, .int (nI (i_)))]) hx hb dX10_forWhom_3 rfl hl (by decide) rfl (fun ls hl => ?_)
  exact (hG _ _ _).mp (L4 (n + 1) (1) (by omega) (by omega) (by omega) _ _ hP hS _ (by rw [am_1]; exact lv_sub hl [2, 3, 1, 0] rfl))

set_option maxHeartbeats 4000000 in
set_option maxRecDepth 100000 in
theorem c_X10_votesOf (l : Launch) (dC : Nat → ClassId) (dI : Nat → Nat → Nat) (cI : ClassId) (b : Nat → Nat) (pm r_s r_w st : Int32) (n w : Nat) (wk tr nd hd sd kt kw kh : Int32) (hz : Int64) (R mi : Nat → Nat) (mm : Nat → Int32) (hm : ∀ k, k < w → mm k = nI (mi k)) (hm4 : ∀ k, k < w → mi k < 4) (hR : WR R) (hn : n ≤ 4) (hn1 : 1 ≤ n) (hw : w ≤ 5) (s_ : Nat) (hs : s_ < n) : Met l yX10_votesOf wsX10_votesOf ({ frames := 2, cells := 0, slots := 0, locals := 47 } : Room) (roP dC dI cI ([moW b pm r_s r_w st n w wk tr nd hd sd kt kw kh hz] ++ [(b 4, .inl (cI, 32, .inl (fun i => nI (R i))))] ++ [(b 5, .inl (cI, 5, .inl mm))]) [.ref (b 0), .int (nI (s_))]) (roI (fun r => r = nI (vt R mi n s_ w))) 0 0 (fun _ => False) := by
  refine Met.ofW (cc := cX10_votesOf) (maxL := 4) (ret := (some .int)) (by decide) rfl ?_
  intro p e s m args below meth c s₁ B hml hv
  obtain ⟨rfl, hP, hK⟩ := hv
  have hx := B.exec
  have hb := B.bytes
  have hr := B.returns
  have hts := atoms_spec (ws := wsX10_votesOf) B.pre
  have hown : s.vm.findClass RX10 = some m.cls := findClass_of_methodNamed B.named
  have hlocks := B.notSynchronized
  have hS : va_S (fun _ => False) s.heap s.heap [] := va_S.rf
  have hl := lv_entry ([.ref (b 0), .int (nI (s_))]) (n := 4) (Nat.le_of_ble_eq_true rfl)
  rw [lg_entry_eq]
  generalize (lg_sl ([.ref (b 0), .int (nI (s_))]) ++ List.replicate (4 - (lg_sl ([.ref (b 0), .int (nI (s_))])).length) Slot.unset).toArray = ls at hl ⊢
  have hl : lv_has ls 4 [(0, .ref (b 0)), (1, .int (nI (s_)))] := hl
  refine W_abs (fun G hG => ?_)
  have L4 : ∀ (fu : Nat) (i : Nat), i ≤ w → w + 1 ≤ i + fu → ∀ (H : Heap) (locs : List Loc), va_P (dC, dI) vwCl [((b 0), .inr (10, [.ref (b 1), .int (pm), .ref (b 2), .int (r_s), .ref (b 3), .int (r_w), .int (st), .int (nI (n)), .int (nI (w)), .int (wk), .int (tr), .ref (b 4), .ref (b 5), .int (nd), .ref (b 6), .ref (b 7), .int (hd), .ref (b 8), .int (sd), .ref (b 9), .int (kt), .int (kw), .int (kh), .ref (b 10), .ref (b 11), .long (hz)])), ((b 4), .inl (cI, 32, .inl (fun ii => nI (R ii)))), ((b 5), .inl (cI, 5, .inl mm))] H → va_S (fun _ => False) s.heap H locs → ∀ (ls : Array Slot), lv_has ls 4 [(0, .ref (b 0)), (1, .int (nI (s_))), (2, .int (nI (vt R mi n s_ i))), (3, .int (nI (i)))] → G H locs (F0 m 4 ls []) := by
    intro fu
    induction fu with
    | zero => intro i h2 hfu H locs hP hS ls hl; omega
    | succ fu ih =>
      intro i h2 hfu H locs hP hS ls hl
      refine (hG _ _ _).mpr ?_
      have hvl := vt_le R mi n s_ i
      refine lv_iload_n hx hb dX10_votesOf_4 rfl (lv_at hl 3 rfl) ?_
      refine lv_aload_n hx hb dX10_votesOf_5 rfl (lv_at hl 0 rfl) ?_
      refine va_get (D := (dC, dI)) (ci := 10) (v := .int (nI (w))) (C := RX10) (T := TX10) (N := 26) hx hb hts (fun _ h => List.mem_cons_of_mem _ (List.mem_append_right _ (h))) hown hK.1 hP 0 rfl rfl 8 (by decide) (hts (Cond.fieldLink RX10 84 "WorstVoiceModel" "widows" "I") (List.mem_of_getElem? (i := 1) rfl)) (fun _ h9 => h9) rfl dX10_votesOf_6 ?_
      refine lv_icmp_ge (tgt := 35) hx hb dX10_votesOf_9 (by decide) (fun c1 => ?_) (fun c1 => ?_)
      · have c1 := (nI_leI (by omega) (by omega)).mp c1
        refine lv_iload_n hx hb dX10_votesOf_35 rfl (lv_at hl 2 rfl) ?_
        exact W.iret hx hb hr (fun t ht hW => ⟨⟨_, (), rfl, (by rw [show i = w by omega]), trivial⟩, hS.F ht⟩) hS.2.2 dX10_votesOf_36
      · have c1 := mt (nI_leI (by omega) (by omega)).mpr c1
        refine lv_iload_n hx hb dX10_votesOf_12 rfl (lv_at hl 2 rfl) ?_
        refine lv_aload_n hx hb dX10_votesOf_13 rfl (lv_at hl 0 rfl) ?_
        refine lv_iload_n hx hb dX10_votesOf_14 rfl (lv_at hl 3 rfl) ?_
        refine ro_calli (va_runV (As := [.int (nI (i))]) (rest := [.int (nI (vt R mi n s_ i))]) ⟨hx, hb, hml, hown, hts⟩ (c_X10_forWhom l dC dI cI b pm r_s r_w st n w wk tr nd hd sd kt kw kh hz R mi mm hm hm4 hR hn hn1 hw (i) (by omega)) (cwV 1 hts gX10_votesOf_X10_forWhom rfl rfl rfl (by decide +kernel) ⟨Nat.le_of_ble_eq_true rfl, Nat.le_of_ble_eq_true rfl⟩) (ro_pv hK hP [0, 1, 2] rfl (ci := 10) (q0 := 0) (C := RX10) (T := TX10) (N := 26) rfl rfl) rfl rfl hl.1 rfl (lv_room (Nat.le_of_ble_eq_true rfl)) dX10_votesOf_15 ⟨Nat.zero_le _, Nat.zero_le _⟩) hS hP (fun r2 H locs hr2 hP hS => ?_)
        subst hr2
        have hb1 : fv R (mi (i)) n < n := am_lt _ n (by omega)
        refine lv_iload_n hx hb dX10_votesOf_18 rfl (lv_at hl 1 rfl) ?_
        refine lv_icmp_ne (tgt := 26) hx hb dX10_votesOf_19 (by decide) (fun c3 => ?_) (fun c3 => ?_)
        · have c3 := mt (nI_eq (by omega) (by omega)).mpr c3
          refine lv_iconst (v := nI (0)) hx hb dX10_votesOf_26 (by decide) ?_
          refine lv_iadd hx hb dX10_votesOf_27 ?_
          refine tp_i (z := nI (vt R mi n s_ i + 0)) (nI_add (vt R mi n s_ i) (0)) ?_
          refine lv_istore_n (lv' := [(2, .int (nI (vt R mi n s_ i + 0))), (0, .ref (b 0)), (1, .int (nI (s_))), (3, .int (nI (i)))]) hx hb dX10_votesOf_28 rfl hl (by decide) rfl (fun ls hl => ?_)
          refine lv_iinc (v := nI (i + 1)) (lv' := [(3, .int (nI (i + 1))), (2, .int (nI (vt R mi n s_ i + 0))), (0, .ref (b 0)), (1, .int (nI (s_)))]) hx hb dX10_votesOf_29 hl (k := 3) rfl (nI_add (i) 1) (by decide) rfl (fun ls hl => ?_)
          refine lv_goto (tgt := 4) hx hb dX10_votesOf_32 (by decide) ?_
          exact (hG _ _ _).mp (ih (i + 1) (by omega) (by omega) _ _ hP hS _ (by rw [vt_n (by assumption)]; exact lv_sub hl [2, 3, 1, 0] rfl))
        · have c3 := (nI_eq (by omega) (by omega)).mp c3
          refine lv_iconst (v := nI (1)) hx hb dX10_votesOf_22 (by decide) ?_
          refine lv_goto (tgt := 27) hx hb dX10_votesOf_23 (by decide) ?_
          refine lv_iadd hx hb dX10_votesOf_27 ?_
          refine tp_i (z := nI (vt R mi n s_ i + 1)) (nI_add (vt R mi n s_ i) (1)) ?_
          refine lv_istore_n (lv' := [(2, .int (nI (vt R mi n s_ i + 1))), (0, .ref (b 0)), (1, .int (nI (s_))), (3, .int (nI (i)))]) hx hb dX10_votesOf_28 rfl hl (by decide) rfl (fun ls hl => ?_)
          refine lv_iinc (v := nI (i + 1)) (lv' := [(3, .int (nI (i + 1))), (2, .int (nI (vt R mi n s_ i + 1))), (0, .ref (b 0)), (1, .int (nI (s_)))]) hx hb dX10_votesOf_29 hl (k := 3) rfl (nI_add (i) 1) (by decide) rfl (fun ls hl => ?_)
          refine lv_goto (tgt := 4) hx hb dX10_votesOf_32 (by decide) ?_
          exact (hG _ _ _).mp (ih (i + 1) (by omega) (by omega) _ _ hP hS _ (by rw [vt_y (by assumption)]; exact lv_sub hl [2, 3, 1, 0] rfl))
  refine (hG _ _ _).mpr ?_
  refine lv_iconst (v := nI (0)) hx hb dX10_votesOf_0 (by decide) ?_
  refine lv_istore_n (lv' := [(2, .int (nI (0))), (0, .ref (b 0)), (1, .int (nI (s_)))]) hx hb dX10_votesOf_1 rfl hl (by decide) rfl (fun ls hl => ?_)
  refine lv_iconst (v := nI (0)) hx hb dX10_votesOf_2 (by decide) ?_
  refine lv_istore_n (lv' := [(3, .int (nI (0))), (2, .int (nI (0))), (0, .ref (b 0)), (1, .int (nI (s_)))]) hx hb dX10_votesOf_3 rfl hl (by decide) rfl (fun ls hl => ?_)
  exact (hG _ _ _).mp (L4 (w + 1) (0) (by omega) (by omega) _ _ hP hS _ (lv_sub hl [2, 3, 1, 0] rfl))

set_option maxHeartbeats 4000000 in
set_option maxRecDepth 100000 in
theorem c_X10_mayorOf (l : Launch) (dC : Nat → ClassId) (dI : Nat → Nat → Nat) (cI : ClassId) (b : Nat → Nat) (pm r_s r_w st : Int32) (n w : Nat) (wk tr nd hd sd kt kw kh : Int32) (hz : Int64) (R mi : Nat → Nat) (mm : Nat → Int32) (hm : ∀ k, k < w → mm k = nI (mi k)) (hm4 : ∀ k, k < w → mi k < 4) (hR : WR R) (hn : n ≤ 4) (hn1 : 1 ≤ n) (hw : w ≤ 5) : Met l yX10_mayorOf wsX10_mayorOf ({ frames := 3, cells := 0, slots := 0, locals := 70 } : Room) (roP dC dI cI ([moW b pm r_s r_w st n w wk tr nd hd sd kt kw kh hz] ++ [(b 4, .inl (cI, 32, .inl (fun i => nI (R i))))] ++ [(b 5, .inl (cI, 5, .inl mm))]) [.ref (b 0)]) (roI (fun r => r = nI (my R mi n w))) 0 0 (fun _ => False) := by
  refine Met.ofW (cc := cX10_mayorOf) (maxL := 3) (ret := (some .int)) (by decide) rfl ?_
  intro p e s m args below meth c s₁ B hml hv
  obtain ⟨rfl, hP, hK⟩ := hv
  have hx := B.exec
  have hb := B.bytes
  have hr := B.returns
  have hts := atoms_spec (ws := wsX10_mayorOf) B.pre
  have hown : s.vm.findClass RX10 = some m.cls := findClass_of_methodNamed B.named
  have hlocks := B.notSynchronized
  have hS : va_S (fun _ => False) s.heap s.heap [] := va_S.rf
  have hl := lv_entry ([.ref (b 0)]) (n := 3) (Nat.le_of_ble_eq_true rfl)
  rw [lg_entry_eq]
  generalize (lg_sl ([.ref (b 0)]) ++ List.replicate (3 - (lg_sl ([.ref (b 0)])).length) Slot.unset).toArray = ls at hl ⊢
  have hl : lv_has ls 3 [(0, .ref (b 0))] := hl
  refine W_abs (fun G hG => ?_)
  have L4 : ∀ (fu : Nat) (i : Nat), 1 ≤ i → i ≤ n → n + 1 ≤ i + fu → ∀ (H : Heap) (locs : List Loc), va_P (dC, dI) vwCl [((b 0), .inr (10, [.ref (b 1), .int (pm), .ref (b 2), .int (r_s), .ref (b 3), .int (r_w), .int (st), .int (nI (n)), .int (nI (w)), .int (wk), .int (tr), .ref (b 4), .ref (b 5), .int (nd), .ref (b 6), .ref (b 7), .int (hd), .ref (b 8), .int (sd), .ref (b 9), .int (kt), .int (kw), .int (kh), .ref (b 10), .ref (b 11), .long (hz)])), ((b 4), .inl (cI, 32, .inl (fun ii => nI (R ii)))), ((b 5), .inl (cI, 5, .inl mm))] H → va_S (fun _ => False) s.heap H locs → ∀ (ls : Array Slot), lv_has ls 3 [(0, .ref (b 0)), (1, .int (nI (am (fun s => vt R mi n s w) i))), (2, .int (nI (i)))] → G H locs (F0 m 4 ls []) := by
    intro fu
    induction fu with
    | zero => intro i h1 h2 hfu H locs hP hS ls hl; omega
    | succ fu ih =>
      intro i h1 h2 hfu H locs hP hS ls hl
      refine (hG _ _ _).mpr ?_
      have hlt := am_lt (fun s => vt R mi n s w) i (by omega)
      refine lv_iload_n hx hb dX10_mayorOf_4 rfl (lv_at hl 2 rfl) ?_
      refine lv_aload_n hx hb dX10_mayorOf_5 rfl (lv_at hl 0 rfl) ?_
      refine va_get (D := (dC, dI)) (ci := 10) (v := .int (nI (n))) (C := RX10) (T := TX10) (N := 26) hx hb hts (fun _ h => List.mem_cons_of_mem _ (List.mem_append_right _ (h))) hown hK.1 hP 0 rfl rfl 7 (by decide) (hts (Cond.fieldLink RX10 81 "WorstVoiceModel" "singers" "I") (List.mem_of_getElem? (i := 1) rfl)) (fun _ h9 => h9) rfl dX10_mayorOf_6 ?_
      refine lv_icmp_ge (tgt := 37) hx hb dX10_mayorOf_9 (by decide) (fun c1 => ?_) (fun c1 => ?_)
      · have c1 := (nI_leI (by omega) (by omega)).mp c1
        refine lv_iload_n hx hb dX10_mayorOf_37 rfl (lv_at hl 1 rfl) ?_
        exact W.iret hx hb hr (fun t ht hW => ⟨⟨_, (), rfl, (by rw [show i = n by omega]; rfl), trivial⟩, hS.F ht⟩) hS.2.2 dX10_mayorOf_38
      · have c1 := mt (nI_leI (by omega) (by omega)).mpr c1
        refine lv_aload_n hx hb dX10_mayorOf_12 rfl (lv_at hl 0 rfl) ?_
        refine lv_iload_n hx hb dX10_mayorOf_13 rfl (lv_at hl 2 rfl) ?_
        refine ro_calli (va_runV (As := [.int (nI (i))]) (rest := []) ⟨hx, hb, hml, hown, hts⟩ (c_X10_votesOf l dC dI cI b pm r_s r_w st n w wk tr nd hd sd kt kw kh hz R mi mm hm hm4 hR hn hn1 hw (i) (by omega)) (cwV 1 hts gX10_mayorOf_X10_votesOf rfl rfl rfl (by decide +kernel) ⟨Nat.le_of_ble_eq_true rfl, Nat.le_of_ble_eq_true rfl⟩) (ro_pv hK hP [0, 1, 2] rfl (ci := 10) (q0 := 0) (C := RX10) (T := TX10) (N := 26) rfl rfl) rfl rfl hl.1 rfl (lv_room (Nat.le_of_ble_eq_true rfl)) dX10_mayorOf_14 ⟨Nat.zero_le _, Nat.zero_le _⟩) hS hP (fun r2 H locs hr2 hP hS => ?_)
        subst hr2
        have hb1 := vt_le R mi n (i) w
        refine lv_aload_n hx hb dX10_mayorOf_17 rfl (lv_at hl 0 rfl) ?_
        refine lv_iload_n hx hb dX10_mayorOf_18 rfl (lv_at hl 1 rfl) ?_
        refine ro_calli (va_runV (As := [.int (nI (am (fun s => vt R mi n s w) i))]) (rest := [.int (nI (vt R mi n (i) w))]) ⟨hx, hb, hml, hown, hts⟩ (c_X10_votesOf l dC dI cI b pm r_s r_w st n w wk tr nd hd sd kt kw kh hz R mi mm hm hm4 hR hn hn1 hw (am (fun s => vt R mi n s w) i) (by omega)) (cwV 1 hts gX10_mayorOf_X10_votesOf rfl rfl rfl (by decide +kernel) ⟨Nat.le_of_ble_eq_true rfl, Nat.le_of_ble_eq_true rfl⟩) (ro_pv hK hP [0, 1, 2] rfl (ci := 10) (q0 := 0) (C := RX10) (T := TX10) (N := 26) rfl rfl) rfl rfl hl.1 rfl (lv_room (Nat.le_of_ble_eq_true rfl)) dX10_mayorOf_19 ⟨Nat.zero_le _, Nat.zero_le _⟩) hS hP (fun r3 H locs hr3 hP hS => ?_)
        subst hr3
        have hb2 := vt_le R mi n (am (fun s => vt R mi n s w) i) w
        refine lv_icmp_le (tgt := 29) hx hb dX10_mayorOf_22 (by decide) (fun c4 => ?_) (fun c4 => ?_)
        · have c4 := (nI_leI (by omega) (by omega)).mp c4
          refine lv_iload_n hx hb dX10_mayorOf_29 rfl (lv_at hl 1 rfl) ?_
          refine lv_istore_n (lv' := [(1, .int (nI (am (fun s => vt R mi n s w) i))), (0, .ref (b 0)), (2, .int (nI (i)))]) hx hb dX10_mayorOf_30 rfl hl (by decide) rfl (fun ls hl => ?_)
          refine lv_iinc (v := nI (i + 1)) (lv' := [(2, .int (nI (i + 1))), (1, .int (nI (am (fun s => vt R mi n s w) i))), (0, .ref (b 0))]) hx hb dX10_mayorOf_31 hl (k := 2) rfl (nI_add (i) 1) (by decide) rfl (fun ls hl => ?_)
          refine lv_goto (tgt := 4) hx hb dX10_mayorOf_34 (by decide) ?_
          exact (hG _ _ _).mp (ih (i + 1) (by omega) (by omega) (by omega) _ _ hP hS _ (by rw [am_n (g := fun s => vt R mi n s w) (by omega)]; exact lv_sub hl [2, 1, 0] rfl))
        · have c4 := mt (nI_leI (by omega) (by omega)).mpr c4
          refine lv_iload_n hx hb dX10_mayorOf_25 rfl (lv_at hl 2 rfl) ?_
          refine lv_goto (tgt := 30) hx hb dX10_mayorOf_26 (by decide) ?_
          refine lv_istore_n (lv' := [(1, .int (nI (i))), (0, .ref (b 0)), (2, .int (nI (i)))]) hx hb dX10_mayorOf_30 rfl hl (by decide) rfl (fun ls hl => ?_)
          refine lv_iinc (v := nI (i + 1)) (lv' := [(2, .int (nI (i + 1))), (1, .int (nI (i))), (0, .ref (b 0))]) hx hb dX10_mayorOf_31 hl (k := 2) rfl (nI_add (i) 1) (by decide) rfl (fun ls hl => ?_)
          refine lv_goto (tgt := 4) hx hb dX10_mayorOf_34 (by decide) ?_
          exact (hG _ _ _).mp (ih (i + 1) (by omega) (by omega) (by omega) _ _ hP hS _ (by rw [am_y (g := fun s => vt R mi n s w) (by omega)]; exact lv_sub hl [2, 1, 0] rfl))
  refine (hG _ _ _).mpr ?_
  refine lv_iconst (v := nI (0)) hx hb dX10_mayorOf_0 (by decide) ?_
  refine lv_istore_n (lv' := [(1, .int (nI (0))), (0, .ref (b 0))]) hx hb dX10_mayorOf_1 rfl hl (by decide) rfl (fun ls hl => ?_)
  refine lv_iconst (v := nI (1)) hx hb dX10_mayorOf_2 (by decide) ?_
  refine lv_istore_n (lv' := [(2, .int (nI (1))), (1, .int (nI (0))), (0, .ref (b 0))]) hx hb dX10_mayorOf_3 rfl hl (by decide) rfl (fun ls hl => ?_)
  exact (hG _ _ _).mp (L4 (n + 1) (1) (by omega) (by omega) (by omega) _ _ hP hS _ (by rw [am_1]; exact lv_sub hl [2, 1, 0] rfl))

set_option maxHeartbeats 4000000 in
set_option maxRecDepth 100000 in
theorem c_X10_sumAt (l : Launch) (dC : Nat → ClassId) (dI : Nat → Nat → Nat) (cI : ClassId) (b : Nat → Nat) (pm r_s r_w st : Int32) (n w : Nat) (wk tr nd hd sd kt kw kh : Int32) (hz : Int64) (R : Nat → Nat) (hn : n ≤ 4) (k_ : Nat) (hc : k_ < 8) : Met l yX10_sumAt wsX10_sumAt ({ frames := 0, cells := 0, slots := 0, locals := 0 } : Room) (roP dC dI cI ([moW b pm r_s r_w st n w wk tr nd hd sd kt kw kh hz] ++ [(b 4, .inl (cI, 32, .inl (fun i => nI (R i))))]) [.ref (b 0), .int (nI (k_))]) (roI (fun r => r = nI (sm R k_ n))) 0 0 (fun _ => False) := by
  refine Met.ofW (cc := cX10_sumAt) (maxL := 4) (ret := (some .int)) (by decide) rfl ?_
  intro p e s m args below meth c s₁ B hml hv
  obtain ⟨rfl, hP, hK⟩ := hv
  have hx := B.exec
  have hb := B.bytes
  have hr := B.returns
  have hts := atoms_spec (ws := wsX10_sumAt) B.pre
  have hown : s.vm.findClass RX10 = some m.cls := findClass_of_methodNamed B.named
  have hlocks := B.notSynchronized
  have hS : va_S (fun _ => False) s.heap s.heap [] := va_S.rf
  have hl := lv_entry ([.ref (b 0), .int (nI (k_))]) (n := 4) (Nat.le_of_ble_eq_true rfl)
  rw [lg_entry_eq]
  generalize (lg_sl ([.ref (b 0), .int (nI (k_))]) ++ List.replicate (4 - (lg_sl ([.ref (b 0), .int (nI (k_))])).length) Slot.unset).toArray = ls at hl ⊢
  have hl : lv_has ls 4 [(0, .ref (b 0)), (1, .int (nI (k_)))] := hl
  refine W_abs (fun G hG => ?_)
  have L4 : ∀ (fu : Nat) (i : Nat), i ≤ n → n + 1 ≤ i + fu → ∀ (H : Heap) (locs : List Loc), va_P (dC, dI) vwCl [((b 0), .inr (10, [.ref (b 1), .int (pm), .ref (b 2), .int (r_s), .ref (b 3), .int (r_w), .int (st), .int (nI (n)), .int (nI (w)), .int (wk), .int (tr), .ref (b 4), .ref (b 5), .int (nd), .ref (b 6), .ref (b 7), .int (hd), .ref (b 8), .int (sd), .ref (b 9), .int (kt), .int (kw), .int (kh), .ref (b 10), .ref (b 11), .long (hz)])), ((b 4), .inl (cI, 32, .inl (fun ii => nI (R ii))))] H → va_S (fun _ => False) s.heap H locs → ∀ (ls : Array Slot), lv_has ls 4 [(0, .ref (b 0)), (1, .int (nI (k_))), (2, .int (nI (sm R k_ i))), (3, .int (nI (i)))] → G H locs (F0 m 4 ls []) := by
    intro fu
    induction fu with
    | zero => intro i h2 hfu H locs hP hS ls hl; omega
    | succ fu ih =>
      intro i h2 hfu H locs hP hS ls hl
      refine (hG _ _ _).mpr ?_
      refine lv_iload_n hx hb dX10_sumAt_4 rfl (lv_at hl 3 rfl) ?_
      refine lv_aload_n hx hb dX10_sumAt_5 rfl (lv_at hl 0 rfl) ?_
      refine va_get (D := (dC, dI)) (ci := 10) (v := .int (nI (n))) (C := RX10) (T := TX10) (N := 26) hx hb hts (fun _ h => List.mem_cons_of_mem _ (List.mem_append_right _ (h))) hown hK.1 hP 0 rfl rfl 7 (by decide) (hts (Cond.fieldLink RX10 81 "WorstVoiceModel" "singers" "I") (List.mem_of_getElem? (i := 1) rfl)) (fun _ h9 => h9) rfl dX10_sumAt_6 ?_
      refine lv_icmp_ge (tgt := 32) hx hb dX10_sumAt_9 (by decide) (fun c1 => ?_) (fun c1 => ?_)
      · have c1 := (nI_leI (by omega) (by omega)).mp c1
        refine lv_iload_n hx hb dX10_sumAt_32 rfl (lv_at hl 2 rfl) ?_
        exact W.iret hx hb hr (fun t ht hW => ⟨⟨_, (), rfl, (by rw [show i = n by omega]), trivial⟩, hS.F ht⟩) hS.2.2 dX10_sumAt_33
      · have c1 := mt (nI_leI (by omega) (by omega)).mpr c1
        refine lv_iload_n hx hb dX10_sumAt_12 rfl (lv_at hl 2 rfl) ?_
        refine lv_aload_n hx hb dX10_sumAt_13 rfl (lv_at hl 0 rfl) ?_
        refine va_get (D := (dC, dI)) (ci := 10) (v := .ref (b 4)) (C := RX10) (T := TX10) (N := 26) hx hb hts (fun _ h => List.mem_cons_of_mem _ (List.mem_append_right _ (h))) hown hK.1 hP 0 rfl rfl 11 (by decide) (hts (Cond.fieldLink RX10 19 "WorstVoiceModel" "rows" "[I") (List.mem_of_getElem? (i := 2) rfl)) (fun _ h9 => h9) rfl dX10_sumAt_14 ?_
        refine lv_bipush (v := nI (8)) hx hb dX10_sumAt_17 (by decide) ?_
        refine lv_iload_n hx hb dX10_sumAt_19 rfl (lv_at hl 3 rfl) ?_
        refine lv_imul hx hb dX10_sumAt_20 ?_
        refine tp_i (z := nI (8 * i)) (pk_mul (8) (i)) ?_
        refine lv_iload_n hx hb dX10_sumAt_21 rfl (lv_at hl 1 rfl) ?_
        refine lv_iadd hx hb dX10_sumAt_22 ?_
        refine tp_i (z := nI (8 * i + k_)) (nI_add (8 * i) (k_)) ?_
        refine va_iald hx hb hK.1 hP 1 0 rfl rfl (vp_in_nI (by omega) (by decide)) dX10_sumAt_23 ?_
        refine tp_i (z := nI (R (8 * i + k_))) (ld_n (fun ii => nI (R ii)) (by omega)) ?_
        refine lv_iadd hx hb dX10_sumAt_24 ?_
        refine tp_i (z := nI (sm R k_ i + R (8 * i + k_))) (nI_add (sm R k_ i) (R (8 * i + k_))) ?_
        refine lv_istore_n (lv' := [(2, .int (nI (sm R k_ i + R (8 * i + k_)))), (0, .ref (b 0)), (1, .int (nI (k_))), (3, .int (nI (i)))]) hx hb dX10_sumAt_25 rfl hl (by decide) rfl (fun ls hl => ?_)
        refine lv_iinc (v := nI (i + 1)) (lv' := [(3, .int (nI (i + 1))), (2, .int (nI (sm R k_ i + R (8 * i + k_)))), (0, .ref (b 0)), (1, .int (nI (k_)))]) hx hb dX10_sumAt_26 hl (k := 3) rfl (nI_add (i) 1) (by decide) rfl (fun ls hl => ?_)
        refine lv_goto (tgt := 4) hx hb dX10_sumAt_29 (by decide) ?_
        exact (hG _ _ _).mp (ih (i + 1) (by omega) (by omega) _ _ hP hS _ (lv_sub hl [2, 3, 1, 0] rfl))
  refine (hG _ _ _).mpr ?_
  refine lv_iconst (v := nI (0)) hx hb dX10_sumAt_0 (by decide) ?_
  refine lv_istore_n (lv' := [(2, .int (nI (0))), (0, .ref (b 0)), (1, .int (nI (k_)))]) hx hb dX10_sumAt_1 rfl hl (by decide) rfl (fun ls hl => ?_)
  refine lv_iconst (v := nI (0)) hx hb dX10_sumAt_2 (by decide) ?_
  refine lv_istore_n (lv' := [(3, .int (nI (0))), (2, .int (nI (0))), (0, .ref (b 0)), (1, .int (nI (k_)))]) hx hb dX10_sumAt_3 rfl hl (by decide) rfl (fun ls hl => ?_)
  exact (hG _ _ _).mp (L4 (n + 1) (0) (by omega) (by omega) _ _ hP hS _ (lv_sub hl [2, 3, 1, 0] rfl))

set_option maxHeartbeats 4000000 in
set_option maxRecDepth 100000 in
theorem c_X10_isMore (l : Launch) (dC : Nat → ClassId) (dI : Nat → Nat → Nat) (cI : ClassId) (b : Nat → Nat) (pm r_s r_w st : Int32) (n w : Nat) (wk tr nd hd sd kt kw kh : Int32) (hz : Int64) (R : Nat → Nat) (hR : WR R) (hn : n ≤ 4) (x y f : Nat) (hs1 : x < n) (hs2 : y < n) (hf : f < 4) : Met l yX10_isMore wsX10_isMore ({ frames := 1, cells := 0, slots := 0, locals := 24 } : Room) (roP dC dI cI ([moW b pm r_s r_w st n w wk tr nd hd sd kt kw kh hz] ++ [(b 4, .inl (cI, 32, .inl (fun i => nI (R i))))]) [.ref (b 0), .int (nI (x)), .int (nI (y)), .int (nI (f))]) (roI (fun r => r = bI (hb_ R y f < hb_ R x f))) 0 0 (fun _ => False) := by
  refine Met.ofW (cc := cX10_isMore) (maxL := 4) (ret := (some .int)) (by decide) rfl ?_
  intro p e s m args below meth c s₁ B hml hv
  obtain ⟨rfl, hP, hK⟩ := hv
  have hx := B.exec
  have hb := B.bytes
  have hr := B.returns
  have hts := atoms_spec (ws := wsX10_isMore) B.pre
  have hown : s.vm.findClass RX10 = some m.cls := findClass_of_methodNamed B.named
  have hlocks := B.notSynchronized
  have hS : va_S (fun _ => False) s.heap s.heap [] := va_S.rf
  have hl := lv_entry ([.ref (b 0), .int (nI (x)), .int (nI (y)), .int (nI (f))]) (n := 4) (Nat.le_of_ble_eq_true rfl)
  rw [lg_entry_eq]
  generalize (lg_sl ([.ref (b 0), .int (nI (x)), .int (nI (y)), .int (nI (f))]) ++ List.replicate (4 - (lg_sl ([.ref (b 0), .int (nI (x)), .int (nI (y)), .int (nI (f))])).length) Slot.unset).toArray = ls at hl ⊢
  have hl : lv_has ls 4 [(0, .ref (b 0)), (1, .int (nI (x))), (2, .int (nI (y))), (3, .int (nI (f)))] := hl
  refine lv_aload_n hx hb dX10_isMore_0 rfl (lv_at hl 0 rfl) ?_
  refine lv_iload_n hx hb dX10_isMore_1 rfl (lv_at hl 1 rfl) ?_
  refine lv_iload_n hx hb dX10_isMore_2 rfl (lv_at hl 3 rfl) ?_
  refine ro_calli (va_runV (As := [.int (nI (x)), .int (nI (f))]) (rest := []) ⟨hx, hb, hml, hown, hts⟩ (c_X10_badOf l dC dI cI b pm r_s r_w st n w wk tr nd hd sd kt kw kh hz R hR hn (x) (f) (by omega) (hf)) (cwV 2 hts gX10_isMore_X10_badOf rfl rfl rfl (by decide +kernel) ⟨Nat.le_of_ble_eq_true rfl, Nat.le_of_ble_eq_true rfl⟩) (ro_pv hK hP [0, 1] rfl (ci := 10) (q0 := 0) (C := RX10) (T := TX10) (N := 26) rfl rfl) rfl rfl hl.1 rfl (lv_room (Nat.le_of_ble_eq_true rfl)) dX10_isMore_3 ⟨Nat.zero_le _, Nat.zero_le _⟩) hS hP (fun r1 H locs hr1 hP hS => ?_)
  subst hr1
  have hb0 := hb_le hR (s := x) (f := f) (by omega) (hf)
  refine lv_aload_n hx hb dX10_isMore_6 rfl (lv_at hl 0 rfl) ?_
  refine lv_iload_n hx hb dX10_isMore_7 rfl (lv_at hl 2 rfl) ?_
  refine lv_iload_n hx hb dX10_isMore_8 rfl (lv_at hl 3 rfl) ?_
  refine ro_calli (va_runV (As := [.int (nI (y)), .int (nI (f))]) (rest := [.int (nI (hb_ R (x) (f)))]) ⟨hx, hb, hml, hown, hts⟩ (c_X10_badOf l dC dI cI b pm r_s r_w st n w wk tr nd hd sd kt kw kh hz R hR hn (y) (f) (by omega) (hf)) (cwV 2 hts gX10_isMore_X10_badOf rfl rfl rfl (by decide +kernel) ⟨Nat.le_of_ble_eq_true rfl, Nat.le_of_ble_eq_true rfl⟩) (ro_pv hK hP [0, 1] rfl (ci := 10) (q0 := 0) (C := RX10) (T := TX10) (N := 26) rfl rfl) rfl rfl hl.1 rfl (lv_room (Nat.le_of_ble_eq_true rfl)) dX10_isMore_9 ⟨Nat.zero_le _, Nat.zero_le _⟩) hS hP (fun r2 H locs hr2 hP hS => ?_)
  subst hr2
  have hb1 := hb_le hR (s := y) (f := f) (by omega) (hf)
  refine lv_icmp_le (tgt := 19) hx hb dX10_isMore_12 (by decide) (fun c3 => ?_) (fun c3 => ?_)
  · have c3 := (nI_leI (by omega) (by omega)).mp c3
    refine lv_iconst (v := nI (0)) hx hb dX10_isMore_19 (by decide) ?_
    exact W.iret hx hb hr (fun t ht hW => ⟨⟨_, (), rfl, (bI_f (by omega)).symm, trivial⟩, hS.F ht⟩) hS.2.2 dX10_isMore_20
  · have c3 := mt (nI_leI (by omega) (by omega)).mpr c3
    refine lv_iconst (v := nI (1)) hx hb dX10_isMore_15 (by decide) ?_
    refine lv_goto (tgt := 20) hx hb dX10_isMore_16 (by decide) ?_
    exact W.iret hx hb hr (fun t ht hW => ⟨⟨_, (), rfl, (bI_t (by omega)).symm, trivial⟩, hS.F ht⟩) hS.2.2 dX10_isMore_20

set_option maxHeartbeats 4000000 in
set_option maxRecDepth 100000 in
theorem c_X10_kindBy (l : Launch) (dC : Nat → ClassId) (dI : Nat → Nat → Nat) (cI : ClassId) (ch : Nat) (hc : ch < 127) : Met l yX10_kindBy wsX10_kindBy ({ frames := 0, cells := 0, slots := 0, locals := 0 } : Room) (roP dC dI cI ([]) [.int (nI (ch))]) (roI (fun r => r = kc ch)) 0 0 (fun _ => False) := by
  refine Met.ofW (cc := cX10_kindBy) (maxL := 1) (ret := (some .int)) (by decide) rfl ?_
  intro p e s m args below meth c s₁ B hml hv
  obtain ⟨rfl, hP, hK⟩ := hv
  have hx := B.exec
  have hb := B.bytes
  have hr := B.returns
  have hts := atoms_spec (ws := wsX10_kindBy) B.pre
  have hown : s.vm.findClass RX10 = some m.cls := findClass_of_methodNamed B.named
  have hlocks := B.notSynchronized
  have hS : va_S (fun _ => False) s.heap s.heap [] := va_S.rf
  have hl := lv_entry ([.int (nI (ch))]) (n := 1) (Nat.le_of_ble_eq_true rfl)
  rw [lg_entry_eq]
  generalize (lg_sl ([.int (nI (ch))]) ++ List.replicate (1 - (lg_sl ([.int (nI (ch))])).length) Slot.unset).toArray = ls at hl ⊢
  have hl : lv_has ls 1 [(0, .int (nI (ch)))] := hl
  refine lv_iload_n hx hb dX10_kindBy_0 rfl (lv_at hl 0 rfl) ?_
  refine lv_bipush (v := nI (115)) hx hb dX10_kindBy_1 (by decide) ?_
  refine lv_icmp_ne (tgt := 10) hx hb dX10_kindBy_3 (by decide) (fun c1 => ?_) (fun c1 => ?_)
  · have c1 := mt (nI_eq (by omega) (by decide)).mpr c1
    refine lv_iload_n hx hb dX10_kindBy_10 rfl (lv_at hl 0 rfl) ?_
    refine lv_bipush (v := nI (116)) hx hb dX10_kindBy_11 (by decide) ?_
    refine lv_icmp_ne (tgt := 20) hx hb dX10_kindBy_13 (by decide) (fun c2 => ?_) (fun c2 => ?_)
    · have c2 := mt (nI_eq (by omega) (by decide)).mpr c2
      refine lv_iload_n hx hb dX10_kindBy_20 rfl (lv_at hl 0 rfl) ?_
      refine lv_bipush (v := nI (98)) hx hb dX10_kindBy_21 (by decide) ?_
      refine lv_icmp_ne (tgt := 30) hx hb dX10_kindBy_23 (by decide) (fun c3 => ?_) (fun c3 => ?_)
      · have c3 := mt (nI_eq (by omega) (by decide)).mpr c3
        refine lv_iload_n hx hb dX10_kindBy_30 rfl (lv_at hl 0 rfl) ?_
        refine lv_bipush (v := nI (100)) hx hb dX10_kindBy_31 (by decide) ?_
        refine lv_icmp_ne (tgt := 40) hx hb dX10_kindBy_33 (by decide) (fun c4 => ?_) (fun c4 => ?_)
        · have c4 := mt (nI_eq (by omega) (by decide)).mpr c4
          refine lv_iload_n hx hb dX10_kindBy_40 rfl (lv_at hl 0 rfl) ?_
          refine lv_bipush (v := nI (99)) hx hb dX10_kindBy_41 (by decide) ?_
          refine lv_icmp_ne (tgt := 50) hx hb dX10_kindBy_43 (by decide) (fun c5 => ?_) (fun c5 => ?_)
          · have c5 := mt (nI_eq (by omega) (by decide)).mpr c5
            refine lv_iconst (v := -1) hx hb dX10_kindBy_50 (by decide) ?_
            exact W.iret hx hb hr (fun t ht hW => ⟨⟨_, (), rfl, (by unfold kc; (repeat' split) <;> first | rfl | omega), trivial⟩, hS.F ht⟩) hS.2.2 dX10_kindBy_51
          · have c5 := (nI_eq (by omega) (by decide)).mp c5
            refine lv_iconst (v := nI (4)) hx hb dX10_kindBy_46 (by decide) ?_
            refine lv_goto (tgt := 51) hx hb dX10_kindBy_47 (by decide) ?_
            exact W.iret hx hb hr (fun t ht hW => ⟨⟨_, (), rfl, (by unfold kc; (repeat' split) <;> first | rfl | omega), trivial⟩, hS.F ht⟩) hS.2.2 dX10_kindBy_51
        · have c4 := (nI_eq (by omega) (by decide)).mp c4
          refine lv_iconst (v := nI (3)) hx hb dX10_kindBy_36 (by decide) ?_
          refine lv_goto (tgt := 51) hx hb dX10_kindBy_37 (by decide) ?_
          exact W.iret hx hb hr (fun t ht hW => ⟨⟨_, (), rfl, (by unfold kc; (repeat' split) <;> first | rfl | omega), trivial⟩, hS.F ht⟩) hS.2.2 dX10_kindBy_51
      · have c3 := (nI_eq (by omega) (by decide)).mp c3
        refine lv_iconst (v := nI (2)) hx hb dX10_kindBy_26 (by decide) ?_
        refine lv_goto (tgt := 51) hx hb dX10_kindBy_27 (by decide) ?_
        exact W.iret hx hb hr (fun t ht hW => ⟨⟨_, (), rfl, (by unfold kc; (repeat' split) <;> first | rfl | omega), trivial⟩, hS.F ht⟩) hS.2.2 dX10_kindBy_51
    · have c2 := (nI_eq (by omega) (by decide)).mp c2
      refine lv_iconst (v := nI (1)) hx hb dX10_kindBy_16 (by decide) ?_
      refine lv_goto (tgt := 51) hx hb dX10_kindBy_17 (by decide) ?_
      exact W.iret hx hb hr (fun t ht hW => ⟨⟨_, (), rfl, (by unfold kc; (repeat' split) <;> first | rfl | omega), trivial⟩, hS.F ht⟩) hS.2.2 dX10_kindBy_51
  · have c1 := (nI_eq (by omega) (by decide)).mp c1
    refine lv_iconst (v := nI (0)) hx hb dX10_kindBy_6 (by decide) ?_
    refine lv_goto (tgt := 51) hx hb dX10_kindBy_7 (by decide) ?_
    exact W.iret hx hb hr (fun t ht hW => ⟨⟨_, (), rfl, (by unfold kc; (repeat' split) <;> first | rfl | omega), trivial⟩, hS.F ht⟩) hS.2.2 dX10_kindBy_51
