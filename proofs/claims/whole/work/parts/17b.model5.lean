/-! the model: hearsay, counts, images, years -/
set_option maxHeartbeats 4000000 in
set_option maxRecDepth 100000 in
theorem c_M_copy (l : Launch) (dC : Nat → ClassId) (dI : Nat → Nat → Nat) (cI : ClassId) (sz : Nat) (p_ q_ k_ : Nat) (f_ g_ : Nat → Int32) (hk : k_ < 2 ^ 31) : Met l yX10_copy wsX10_copy ({ frames := 0, cells := 0, slots := 0, locals := 0 } : Room) (muP dC dI cI ([(p_, .inl (cI, k_, .inl f_)), (q_, .inl (cI, k_, .inl g_))]) sz [.ref p_, .ref q_]) (muV dC dI ([(p_, .inl (cI, k_, .inl f_)), (q_, .inl (cI, k_, .inl g_))]) sz (fun (_ : Unit) => [(p_, .inl (cI, k_, .inl f_)), (q_, .inl (cI, k_, .inl f_))]) (fun _ => True)) 0 0 (va_A ([(p_, .inl (cI, k_, .inl f_)), (q_, .inl (cI, k_, .inl g_))]) sz) := by
  refine Met.ofW (cc := cX10_copy) (maxL := 3) (ret := none) (by decide) rfl ?_
  intro p e s m args below meth c s₁ B hml hv
  obtain ⟨rfl, hsz, hP, hK, hD0⟩ := hv
  have hx := B.exec
  have hb := B.bytes
  have hr := B.returns
  have hts := atoms_spec (ws := wsX10_copy) B.pre
  have hown : s.vm.findClass RX10 = some m.cls := findClass_of_methodNamed B.named
  have hlocks := B.notSynchronized
  subst hsz
  unfold muV muB
  have hD := hD0.self (sz := s.heap.size)
  generalize hAe : va_A ([(p_, .inl (cI, k_, .inl f_)), (q_, .inl (cI, k_, .inl g_))]) s.heap.size = A at hD ⊢
  have hA : ∀ q : Nat, s.heap.size ≤ q → A q := fun q h => by rw [← hAe]; exact Or.inr h
  have hS : va_S A s.heap s.heap [] := va_S.rf
  have hl := lv_entry ([.ref p_, .ref q_]) (n := 3) (Nat.le_of_ble_eq_true rfl)
  rw [lg_entry_eq]
  generalize (lg_sl ([.ref p_, .ref q_]) ++ List.replicate (3 - (lg_sl ([.ref p_, .ref q_])).length) Slot.unset).toArray = ls at hl ⊢
  have hl : lv_has ls 3 [(0, .ref p_), (1, .ref q_)] := hl
  refine W_abs (fun G hG => ?_)
  have L2 : ∀ (fu : Nat) (i : Nat), i ≤ k_ → k_ + 1 ≤ i + fu → ∀ (H : Heap) (locs : List Loc), va_P (dC, dI) vwCl [(p_, .inl (cI, k_, .inl f_)), (q_, .inl (cI, k_, .inl (mix_ f_ g_ i)))] H → va_D A [(p_, .inl (cI, k_, .inl f_)), (q_, .inl (cI, k_, .inl (mix_ f_ g_ i)))] → va_S A s.heap H locs → ∀ (ls : Array Slot), lv_has ls 3 [(0, .ref p_), (1, .ref q_), (2, .int (nI (i)))] → G H locs (F0 m 2 ls []) := by
    intro fu
    induction fu with
    | zero => intro i h2 hfu H locs hP hD hS ls hl; omega
    | succ fu ih2 =>
      intro i h2 hfu H locs hP hD hS ls hl
      refine (hG _ _ _).mpr ?_
      refine lv_iload_n hx hb dX10_copy_2 rfl (lv_at hl 2 rfl) ?_
      refine lv_aload_n hx hb dX10_copy_3 rfl (lv_at hl 0 rfl) ?_
      refine va_alen hx hb hK.1 hP 0 0 rfl rfl (v := nI k_) rfl dX10_copy_4 ?_
      refine lv_icmp_ge (tgt := 20) hx hb dX10_copy_5 (by decide) (fun c1 => ?_) (fun c1 => ?_)
      · have c1 := (nI_leI (by omega) (by omega)).mp c1
        have hP9 := hP.re 1 rfl f_ (fun j hj => if_pos (by omega))
        exact W.vret hx hb hr (fun t ht hW => ⟨⟨(), rfl, trivial, by rw [ht]; exact hP9, hD.as rfl⟩, hS.F ht⟩) hS.2.2 dX10_copy_20
      · have c1 := mt (nI_leI (by omega) (by omega)).mpr c1
        refine lv_aload_n hx hb dX10_copy_8 rfl (lv_at hl 1 rfl) ?_
        refine lv_iload_n hx hb dX10_copy_9 rfl (lv_at hl 2 rfl) ?_
        refine lv_aload_n hx hb dX10_copy_10 rfl (lv_at hl 0 rfl) ?_
        refine lv_iload_n hx hb dX10_copy_11 rfl (lv_at hl 2 rfl) ?_
        refine va_iald hx hb hK.1 hP 0 0 rfl rfl (vp_in_nI (by omega) (by assumption)) dX10_copy_12 ?_
        refine tp_i (z := f_ (i)) (ld_n f_ (by omega)) ?_
        refine va_iast hx hb hK.1 hP hD hS 1 0 rfl rfl (vp_in_nI (by omega) (by assumption)) dX10_copy_13 (fun H locs hP hD hS => ?_)
        rw [nI_clamp (by omega)] at hP hD
        have hP : va_P (dC, dI) vwCl [(p_, .inl (cI, k_, .inl f_)), (q_, .inl (cI, k_, .inl (upd (mix_ f_ g_ i) (i) (f_ (i)))))] H := hP
        have hD : va_D A [(p_, .inl (cI, k_, .inl f_)), (q_, .inl (cI, k_, .inl (upd (mix_ f_ g_ i) (i) (f_ (i)))))] := hD
        refine lv_iinc (v := nI (i + 1)) (lv' := [(2, .int (nI (i + 1))), (0, .ref p_), (1, .ref q_)]) hx hb dX10_copy_14 hl (k := 2) rfl (nI_add (i) 1) (by decide) rfl (fun ls hl => ?_)
        refine lv_goto (tgt := 2) hx hb dX10_copy_17 (by decide) ?_
        rw [mix_s] at hP hD
        exact (hG _ _ _).mp (ih2 (i + 1) (by omega) (by omega) _ _ hP hD hS _ (lv_sub hl [1, 2, 0] rfl))
  refine (hG _ _ _).mpr ?_
  refine lv_iconst (v := nI (0)) hx hb dX10_copy_0 (by decide) ?_
  refine lv_istore_n (lv' := [(2, .int (nI (0))), (0, .ref p_), (1, .ref q_)]) hx hb dX10_copy_1 rfl hl (by decide) rfl (fun ls hl => ?_)
  have hP : va_P (dC, dI) vwCl [(p_, .inl (cI, k_, .inl f_)), (q_, .inl (cI, k_, .inl (mix_ f_ g_ 0)))] s.heap := by rw [mix_0]; exact hP
  have hD : va_D A [(p_, .inl (cI, k_, .inl f_)), (q_, .inl (cI, k_, .inl (mix_ f_ g_ 0)))] := hD.as rfl
  exact (hG _ _ _).mp (L2 (k_ + 1) (0) (by omega) (by omega) _ _ hP hD hS _ (lv_sub hl [1, 2, 0] rfl))

set_option maxHeartbeats 4000000 in
set_option maxRecDepth 100000 in
theorem c_M_hearN (l : Launch) (dC : Nat → ClassId) (dI : Nat → Nat → Nat) (cI : ClassId) (b : Nat → Nat) (pm r_s r_w st : Int32) (n w : Nat) (wk tr nd hd sd kt kw kh : Int32) (hz : Int64) (hn : n ≤ 4) (hw : w ≤ 5) (x y z : Int32) (v_ : Nat) (hno : ¬ (inR x w ∧ inR y n ∧ inR z n ∧ ¬ y = z)) : Met l yX10_hear wsX10_hear ({ frames := 2, cells := 0, slots := 0, locals := 46 } : Room) (roP dC dI cI ([moW b pm r_s r_w st n w wk tr nd hd sd kt kw kh hz]) [.ref (b 0), .int (x), .int (y), .int (z), .int (nI (v_))]) (roI (fun r => r = -101)) 0 0 (fun _ => False) := by
  refine Met.ofW (cc := cX10_hear) (maxL := 5) (ret := (some .int)) (by decide) rfl ?_
  intro p e s m args below meth c s₁ B hml hv
  obtain ⟨rfl, hP, hK⟩ := hv
  have hx := B.exec
  have hb := B.bytes
  have hr := B.returns
  have hts := atoms_spec (ws := wsX10_hear) B.pre
  have hown : s.vm.findClass RX10 = some m.cls := findClass_of_methodNamed B.named
  have hlocks := B.notSynchronized
  have hS : va_S (fun _ => False) s.heap s.heap [] := va_S.rf
  have hl := lv_entry ([.ref (b 0), .int (x), .int (y), .int (z), .int (nI (v_))]) (n := 5) (Nat.le_of_ble_eq_true rfl)
  rw [lg_entry_eq]
  generalize (lg_sl ([.ref (b 0), .int (x), .int (y), .int (z), .int (nI (v_))]) ++ List.replicate (5 - (lg_sl ([.ref (b 0), .int (x), .int (y), .int (z), .int (nI (v_))])).length) Slot.unset).toArray = ls at hl ⊢
  have hl : lv_has ls 5 [(0, .ref (b 0)), (1, .int (x)), (2, .int (y)), (3, .int (z)), (4, .int (nI (v_)))] := hl
  refine lv_aload_n hx hb dX10_hear_0 rfl (lv_at hl 0 rfl) ?_
  refine lv_iload_n hx hb dX10_hear_1 rfl (lv_at hl 1 rfl) ?_
  refine ro_calli (va_runV (As := [.int (x)]) (rest := []) ⟨hx, hb, hml, hown, hts⟩ (c_X10_isWidow l dC dI cI b pm r_s r_w st n w wk tr nd hd sd kt kw kh hz (by omega) (by omega) (x)) (cwV 1 hts gX10_hear_X10_isWidow rfl rfl rfl (by decide +kernel) ⟨Nat.le_of_ble_eq_true rfl, Nat.le_of_ble_eq_true rfl⟩) (ro_pv hK hP [0] rfl (ci := 10) (q0 := 0) (C := RX10) (T := TX10) (N := 26) rfl rfl) rfl rfl hl.1 rfl (lv_room (Nat.le_of_ble_eq_true rfl)) dX10_hear_2 ⟨Nat.zero_le _, Nat.zero_le _⟩) hS hP (fun r1 H locs hr1 hP hS => ?_)
  subst hr1
  refine lv_if_eq (tgt := 29) hx hb dX10_hear_5 (by decide) (fun c2 => ?_) (fun c2 => ?_)
  · have c2 := bI_0.mp c2
    refine lv_bipush (v := -101) hx hb dX10_hear_29 (by decide) ?_
    exact W.iret hx hb hr (fun t ht hW => ⟨⟨_, (), rfl, rfl, trivial⟩, hS.F ht⟩) hS.2.2 dX10_hear_31
  · have c2 := Decidable.not_not.mp (mt bI_0.mpr c2)
    refine lv_aload_n hx hb dX10_hear_8 rfl (lv_at hl 0 rfl) ?_
    refine lv_iload_n hx hb dX10_hear_9 rfl (lv_at hl 2 rfl) ?_
    refine ro_calli (va_runV (As := [.int (y)]) (rest := []) ⟨hx, hb, hml, hown, hts⟩ (c_X10_isSinger l dC dI cI b pm r_s r_w st n w wk tr nd hd sd kt kw kh hz (by omega) (by omega) (y)) (cwV 1 hts gX10_hear_X10_isSinger rfl rfl rfl (by decide +kernel) ⟨Nat.le_of_ble_eq_true rfl, Nat.le_of_ble_eq_true rfl⟩) (ro_pv hK hP [0] rfl (ci := 10) (q0 := 0) (C := RX10) (T := TX10) (N := 26) rfl rfl) rfl rfl hl.1 rfl (lv_room (Nat.le_of_ble_eq_true rfl)) dX10_hear_10 ⟨Nat.zero_le _, Nat.zero_le _⟩) hS hP (fun r3 H locs hr3 hP hS => ?_)
    subst hr3
    refine lv_if_eq (tgt := 29) hx hb dX10_hear_13 (by decide) (fun c4 => ?_) (fun c4 => ?_)
    · have c4 := bI_0.mp c4
      refine lv_bipush (v := -101) hx hb dX10_hear_29 (by decide) ?_
      exact W.iret hx hb hr (fun t ht hW => ⟨⟨_, (), rfl, rfl, trivial⟩, hS.F ht⟩) hS.2.2 dX10_hear_31
    · have c4 := Decidable.not_not.mp (mt bI_0.mpr c4)
      refine lv_aload_n hx hb dX10_hear_16 rfl (lv_at hl 0 rfl) ?_
      refine lv_iload_n hx hb dX10_hear_17 rfl (lv_at hl 3 rfl) ?_
      refine ro_calli (va_runV (As := [.int (z)]) (rest := []) ⟨hx, hb, hml, hown, hts⟩ (c_X10_isSinger l dC dI cI b pm r_s r_w st n w wk tr nd hd sd kt kw kh hz (by omega) (by omega) (z)) (cwV 1 hts gX10_hear_X10_isSinger rfl rfl rfl (by decide +kernel) ⟨Nat.le_of_ble_eq_true rfl, Nat.le_of_ble_eq_true rfl⟩) (ro_pv hK hP [0] rfl (ci := 10) (q0 := 0) (C := RX10) (T := TX10) (N := 26) rfl rfl) rfl rfl hl.1 rfl (lv_room (Nat.le_of_ble_eq_true rfl)) dX10_hear_18 ⟨Nat.zero_le _, Nat.zero_le _⟩) hS hP (fun r5 H locs hr5 hP hS => ?_)
      subst hr5
      refine lv_if_eq (tgt := 29) hx hb dX10_hear_21 (by decide) (fun c6 => ?_) (fun c6 => ?_)
      · have c6 := bI_0.mp c6
        refine lv_bipush (v := -101) hx hb dX10_hear_29 (by decide) ?_
        exact W.iret hx hb hr (fun t ht hW => ⟨⟨_, (), rfl, rfl, trivial⟩, hS.F ht⟩) hS.2.2 dX10_hear_31
      · have c6 := Decidable.not_not.mp (mt bI_0.mpr c6)
        refine lv_iload_n hx hb dX10_hear_24 rfl (lv_at hl 2 rfl) ?_
        refine lv_iload_n hx hb dX10_hear_25 rfl (lv_at hl 3 rfl) ?_
        refine lv_icmp_ne (tgt := 32) hx hb dX10_hear_26 (by decide) (fun c7 => absurd ⟨by assumption, by assumption, by assumption, c7⟩ hno) (fun c7 => ?_)
        refine lv_bipush (v := -101) hx hb dX10_hear_29 (by decide) ?_
        exact W.iret hx hb hr (fun t ht hW => ⟨⟨_, (), rfl, rfl, trivial⟩, hS.F ht⟩) hS.2.2 dX10_hear_31

set_option maxHeartbeats 4000000 in
set_option maxRecDepth 100000 in
theorem c_M_hearF (l : Launch) (dC : Nat → ClassId) (dI : Nat → Nat → Nat) (cI : ClassId) (b : Nat → Nat) (pm : Int32) (r_s : Int32) (r_w : Int32) (st : Int32) (n : Nat) (w : Nat) (wk : Int32) (tr : Int32) (nd : Int32) (h : Nat) (sd : Int32) (kt : Int32) (kw : Int32) (kh : Int32) (hz : Int64) (hn : n ≤ 4) (hw : w ≤ 5) (E : Nat → Nat) (hh : h ≤ 8) (w_ p_ q_ v_ : Nat) (hw_ : w_ < w) (hp_ : p_ < n) (hq_ : q_ < n) (hpq : p_ ≠ q_) (hv : v_ ≤ 1) (hok : ¬ h < 8) : Met l yX10_hear wsX10_hear ({ frames := 2, cells := 0, slots := 0, locals := 46 } : Room) (roP dC dI cI ([moW b pm r_s r_w st n w wk tr nd (nI h) sd kt kw kh hz] ++ [(b 8, .inl (cI, 32, .inl (fun i => nI (E i))))]) [.ref (b 0), .int (nI (w_)), .int (nI (p_)), .int (nI (q_)), .int (nI (v_))]) (roI (fun r => r = -104)) 0 0 (fun _ => False) := by
  refine Met.ofW (cc := cX10_hear) (maxL := 5) (ret := (some .int)) (by decide) rfl ?_
  intro p e s m args below meth c s₁ B hml hv
  obtain ⟨rfl, hP, hK⟩ := hv
  have hx := B.exec
  have hb := B.bytes
  have hr := B.returns
  have hts := atoms_spec (ws := wsX10_hear) B.pre
  have hown : s.vm.findClass RX10 = some m.cls := findClass_of_methodNamed B.named
  have hlocks := B.notSynchronized
  have hS : va_S (fun _ => False) s.heap s.heap [] := va_S.rf
  have hl := lv_entry ([.ref (b 0), .int (nI (w_)), .int (nI (p_)), .int (nI (q_)), .int (nI (v_))]) (n := 5) (Nat.le_of_ble_eq_true rfl)
  rw [lg_entry_eq]
  generalize (lg_sl ([.ref (b 0), .int (nI (w_)), .int (nI (p_)), .int (nI (q_)), .int (nI (v_))]) ++ List.replicate (5 - (lg_sl ([.ref (b 0), .int (nI (w_)), .int (nI (p_)), .int (nI (q_)), .int (nI (v_))])).length) Slot.unset).toArray = ls at hl ⊢
  have hl : lv_has ls 5 [(0, .ref (b 0)), (1, .int (nI (w_))), (2, .int (nI (p_))), (3, .int (nI (q_))), (4, .int (nI (v_)))] := hl
  refine lv_aload_n hx hb dX10_hear_0 rfl (lv_at hl 0 rfl) ?_
  refine lv_iload_n hx hb dX10_hear_1 rfl (lv_at hl 1 rfl) ?_
  refine ro_calli (va_runV (As := [.int (nI (w_))]) (rest := []) ⟨hx, hb, hml, hown, hts⟩ (c_X10_isWidow l dC dI cI b pm r_s r_w st n w wk tr nd (nI (h)) sd kt kw kh hz (by omega) (by omega) (nI (w_))) (cwV 1 hts gX10_hear_X10_isWidow rfl rfl rfl (by decide +kernel) ⟨Nat.le_of_ble_eq_true rfl, Nat.le_of_ble_eq_true rfl⟩) (ro_pv hK hP [0] rfl (ci := 10) (q0 := 0) (C := RX10) (T := TX10) (N := 26) rfl rfl) rfl rfl hl.1 rfl (lv_room (Nat.le_of_ble_eq_true rfl)) dX10_hear_2 ⟨Nat.zero_le _, Nat.zero_le _⟩) hS hP (fun r1 H locs hr1 hP hS => ?_)
  subst hr1
  refine tp_i (z := nI 1) (bI_t (inR_n (by omega) (by omega))) ?_
  refine lv_if_eq (tgt := 29) hx hb dX10_hear_5 (by decide) (fun c => absurd c (by decide)) (fun _ => ?_)
  refine lv_aload_n hx hb dX10_hear_8 rfl (lv_at hl 0 rfl) ?_
  refine lv_iload_n hx hb dX10_hear_9 rfl (lv_at hl 2 rfl) ?_
  refine ro_calli (va_runV (As := [.int (nI (p_))]) (rest := []) ⟨hx, hb, hml, hown, hts⟩ (c_X10_isSinger l dC dI cI b pm r_s r_w st n w wk tr nd (nI (h)) sd kt kw kh hz (by omega) (by omega) (nI (p_))) (cwV 1 hts gX10_hear_X10_isSinger rfl rfl rfl (by decide +kernel) ⟨Nat.le_of_ble_eq_true rfl, Nat.le_of_ble_eq_true rfl⟩) (ro_pv hK hP [0] rfl (ci := 10) (q0 := 0) (C := RX10) (T := TX10) (N := 26) rfl rfl) rfl rfl hl.1 rfl (lv_room (Nat.le_of_ble_eq_true rfl)) dX10_hear_10 ⟨Nat.zero_le _, Nat.zero_le _⟩) hS hP (fun r2 H locs hr2 hP hS => ?_)
  subst hr2
  refine tp_i (z := nI 1) (bI_t (inR_n (by omega) (by omega))) ?_
  refine lv_if_eq (tgt := 29) hx hb dX10_hear_13 (by decide) (fun c => absurd c (by decide)) (fun _ => ?_)
  refine lv_aload_n hx hb dX10_hear_16 rfl (lv_at hl 0 rfl) ?_
  refine lv_iload_n hx hb dX10_hear_17 rfl (lv_at hl 3 rfl) ?_
  refine ro_calli (va_runV (As := [.int (nI (q_))]) (rest := []) ⟨hx, hb, hml, hown, hts⟩ (c_X10_isSinger l dC dI cI b pm r_s r_w st n w wk tr nd (nI (h)) sd kt kw kh hz (by omega) (by omega) (nI (q_))) (cwV 1 hts gX10_hear_X10_isSinger rfl rfl rfl (by decide +kernel) ⟨Nat.le_of_ble_eq_true rfl, Nat.le_of_ble_eq_true rfl⟩) (ro_pv hK hP [0] rfl (ci := 10) (q0 := 0) (C := RX10) (T := TX10) (N := 26) rfl rfl) rfl rfl hl.1 rfl (lv_room (Nat.le_of_ble_eq_true rfl)) dX10_hear_18 ⟨Nat.zero_le _, Nat.zero_le _⟩) hS hP (fun r3 H locs hr3 hP hS => ?_)
  subst hr3
  refine tp_i (z := nI 1) (bI_t (inR_n (by omega) (by omega))) ?_
  refine lv_if_eq (tgt := 29) hx hb dX10_hear_21 (by decide) (fun c => absurd c (by decide)) (fun _ => ?_)
  refine lv_iload_n hx hb dX10_hear_24 rfl (lv_at hl 2 rfl) ?_
  refine lv_iload_n hx hb dX10_hear_25 rfl (lv_at hl 3 rfl) ?_
  refine lv_icmp_ne (tgt := 32) hx hb dX10_hear_26 (by decide) (fun c4 => ?_) (fun c4 => ?_)
  · have c4 := mt (nI_eq (by omega) (by omega)).mpr c4
    refine lv_aload_n hx hb dX10_hear_32 rfl (lv_at hl 0 rfl) ?_
    refine va_get (D := (dC, dI)) (ci := 10) (v := .int (nI (h))) (C := RX10) (T := TX10) (N := 26) hx hb hts (fun _ h => List.mem_cons_of_mem _ (List.mem_append_right _ (h))) hown hK.1 hP 0 rfl rfl 16 (by decide) (hts (Cond.fieldLink RX10 94 "WorstVoiceModel" "heardMany" "I") (List.mem_of_getElem? (i := 1) rfl)) (fun _ h9 => h9) rfl dX10_hear_33 ?_
    refine lv_bipush (v := nI (8)) hx hb dX10_hear_36 (by decide) ?_
    refine lv_icmp_ne (tgt := 44) hx hb dX10_hear_38 (by decide) (fun c5 => ?_) (fun c5 => ?_)
    · have c5 := mt (nI_eq (by omega) (by decide)).mpr c5
      exfalso; omega
    have c5 := (nI_eq (by omega) (by decide)).mp c5
    refine lv_bipush (v := -104) hx hb dX10_hear_41 (by decide) ?_
    exact W.iret hx hb hr (fun t ht hW => ⟨⟨_, (), rfl, rfl, trivial⟩, hS.F ht⟩) hS.2.2 dX10_hear_43
  · have c4 := (nI_eq (by omega) (by omega)).mp c4
    exfalso; omega

set_option maxHeartbeats 4000000 in
set_option maxRecDepth 100000 in
theorem c_M_hear (l : Launch) (dC : Nat → ClassId) (dI : Nat → Nat → Nat) (cI : ClassId) (sz : Nat) (b : Nat → Nat) (pm : Int32) (r_s : Int32) (r_w : Int32) (st : Int32) (n : Nat) (w : Nat) (wk : Int32) (tr : Int32) (nd : Int32) (h : Nat) (sd : Int32) (kt : Int32) (kw : Int32) (kh : Int32) (hz : Int64) (hn : n ≤ 4) (hw : w ≤ 5) (E : Nat → Nat) (hh : h ≤ 8) (w_ p_ q_ v_ : Nat) (hw_ : w_ < w) (hp_ : p_ < n) (hq_ : q_ < n) (hpq : p_ ≠ q_) (hv : v_ ≤ 1) (hok : h < 8) : Met l yX10_hear wsX10_hear ({ frames := 2, cells := 0, slots := 0, locals := 46 } : Room) (muP dC dI cI ([moW b pm r_s r_w st n w wk tr nd (nI h) sd kt kw kh hz] ++ [(b 8, .inl (cI, 32, .inl (fun i => nI (E i))))]) sz [.ref (b 0), .int (nI (w_)), .int (nI (p_)), .int (nI (q_)), .int (nI (v_))]) (muI dC dI ([moW b pm r_s r_w st n w wk tr nd (nI h) sd kt kw kh hz] ++ [(b 8, .inl (cI, 32, .inl (fun i => nI (E i))))]) sz (fun (_ : Unit) => [moW b pm r_s r_w st n w wk tr nd (nI (h + 1)) sd kt kw kh hz] ++ [(b 8, .inl (cI, 32, .inl (fun i => nI ((upN (upN (upN (upN E (4 * h) w_) (4 * h + 1) p_) (4 * h + 2) q_) (4 * h + 3) v_) i))))]) (fun r _ => r = nI (h + 1))) 0 0 (va_A ([moW b pm r_s r_w st n w wk tr nd (nI h) sd kt kw kh hz] ++ [(b 8, .inl (cI, 32, .inl (fun i => nI (E i))))]) sz) := by
  refine Met.ofW (cc := cX10_hear) (maxL := 5) (ret := (some .int)) (by decide) rfl ?_
  intro p e s m args below meth c s₁ B hml hv
  obtain ⟨rfl, hsz, hP, hK, hD0⟩ := hv
  have hx := B.exec
  have hb := B.bytes
  have hr := B.returns
  have hts := atoms_spec (ws := wsX10_hear) B.pre
  have hown : s.vm.findClass RX10 = some m.cls := findClass_of_methodNamed B.named
  have hlocks := B.notSynchronized
  subst hsz
  unfold muI muB
  have hD := hD0.self (sz := s.heap.size)
  generalize hAe : va_A ([moW b pm r_s r_w st n w wk tr nd (nI h) sd kt kw kh hz] ++ [(b 8, .inl (cI, 32, .inl (fun i => nI (E i))))]) s.heap.size = A at hD ⊢
  have hA : ∀ q : Nat, s.heap.size ≤ q → A q := fun q h => by rw [← hAe]; exact Or.inr h
  have hS : va_S A s.heap s.heap [] := va_S.rf
  have hl := lv_entry ([.ref (b 0), .int (nI (w_)), .int (nI (p_)), .int (nI (q_)), .int (nI (v_))]) (n := 5) (Nat.le_of_ble_eq_true rfl)
  rw [lg_entry_eq]
  generalize (lg_sl ([.ref (b 0), .int (nI (w_)), .int (nI (p_)), .int (nI (q_)), .int (nI (v_))]) ++ List.replicate (5 - (lg_sl ([.ref (b 0), .int (nI (w_)), .int (nI (p_)), .int (nI (q_)), .int (nI (v_))])).length) Slot.unset).toArray = ls at hl ⊢
  have hl : lv_has ls 5 [(0, .ref (b 0)), (1, .int (nI (w_))), (2, .int (nI (p_))), (3, .int (nI (q_))), (4, .int (nI (v_)))] := hl
  refine lv_aload_n hx hb dX10_hear_0 rfl (lv_at hl 0 rfl) ?_
  refine lv_iload_n hx hb dX10_hear_1 rfl (lv_at hl 1 rfl) ?_
  refine ro_calli (va_runV (As := [.int (nI (w_))]) (rest := []) ⟨hx, hb, hml, hown, hts⟩ (c_X10_isWidow l dC dI cI b pm r_s r_w st n w wk tr nd (nI (h)) sd kt kw kh hz (by omega) (by omega) (nI (w_))) (cwV 1 hts gX10_hear_X10_isWidow rfl rfl rfl (by decide +kernel) ⟨Nat.le_of_ble_eq_true rfl, Nat.le_of_ble_eq_true rfl⟩) (ro_pv hK hP [0] rfl (ci := 10) (q0 := 0) (C := RX10) (T := TX10) (N := 26) rfl rfl) rfl rfl hl.1 rfl (lv_room (Nat.le_of_ble_eq_true rfl)) dX10_hear_2 ⟨Nat.zero_le _, Nat.zero_le _⟩) hS hP (fun r1 H locs hr1 hP hS => ?_)
  subst hr1
  refine tp_i (z := nI 1) (bI_t (inR_n (by omega) (by omega))) ?_
  refine lv_if_eq (tgt := 29) hx hb dX10_hear_5 (by decide) (fun c => absurd c (by decide)) (fun _ => ?_)
  refine lv_aload_n hx hb dX10_hear_8 rfl (lv_at hl 0 rfl) ?_
  refine lv_iload_n hx hb dX10_hear_9 rfl (lv_at hl 2 rfl) ?_
  refine ro_calli (va_runV (As := [.int (nI (p_))]) (rest := []) ⟨hx, hb, hml, hown, hts⟩ (c_X10_isSinger l dC dI cI b pm r_s r_w st n w wk tr nd (nI (h)) sd kt kw kh hz (by omega) (by omega) (nI (p_))) (cwV 1 hts gX10_hear_X10_isSinger rfl rfl rfl (by decide +kernel) ⟨Nat.le_of_ble_eq_true rfl, Nat.le_of_ble_eq_true rfl⟩) (ro_pv hK hP [0] rfl (ci := 10) (q0 := 0) (C := RX10) (T := TX10) (N := 26) rfl rfl) rfl rfl hl.1 rfl (lv_room (Nat.le_of_ble_eq_true rfl)) dX10_hear_10 ⟨Nat.zero_le _, Nat.zero_le _⟩) hS hP (fun r2 H locs hr2 hP hS => ?_)
  subst hr2
  refine tp_i (z := nI 1) (bI_t (inR_n (by omega) (by omega))) ?_
  refine lv_if_eq (tgt := 29) hx hb dX10_hear_13 (by decide) (fun c => absurd c (by decide)) (fun _ => ?_)
  refine lv_aload_n hx hb dX10_hear_16 rfl (lv_at hl 0 rfl) ?_
  refine lv_iload_n hx hb dX10_hear_17 rfl (lv_at hl 3 rfl) ?_
  refine ro_calli (va_runV (As := [.int (nI (q_))]) (rest := []) ⟨hx, hb, hml, hown, hts⟩ (c_X10_isSinger l dC dI cI b pm r_s r_w st n w wk tr nd (nI (h)) sd kt kw kh hz (by omega) (by omega) (nI (q_))) (cwV 1 hts gX10_hear_X10_isSinger rfl rfl rfl (by decide +kernel) ⟨Nat.le_of_ble_eq_true rfl, Nat.le_of_ble_eq_true rfl⟩) (ro_pv hK hP [0] rfl (ci := 10) (q0 := 0) (C := RX10) (T := TX10) (N := 26) rfl rfl) rfl rfl hl.1 rfl (lv_room (Nat.le_of_ble_eq_true rfl)) dX10_hear_18 ⟨Nat.zero_le _, Nat.zero_le _⟩) hS hP (fun r3 H locs hr3 hP hS => ?_)
  subst hr3
  refine tp_i (z := nI 1) (bI_t (inR_n (by omega) (by omega))) ?_
  refine lv_if_eq (tgt := 29) hx hb dX10_hear_21 (by decide) (fun c => absurd c (by decide)) (fun _ => ?_)
  refine lv_iload_n hx hb dX10_hear_24 rfl (lv_at hl 2 rfl) ?_
  refine lv_iload_n hx hb dX10_hear_25 rfl (lv_at hl 3 rfl) ?_
  refine lv_icmp_ne (tgt := 32) hx hb dX10_hear_26 (by decide) (fun c4 => ?_) (fun c4 => ?_)
  · have c4 := mt (nI_eq (by omega) (by omega)).mpr c4
    refine lv_aload_n hx hb dX10_hear_32 rfl (lv_at hl 0 rfl) ?_
    refine va_get (D := (dC, dI)) (ci := 10) (v := .int (nI (h))) (C := RX10) (T := TX10) (N := 26) hx hb hts (fun _ h => List.mem_cons_of_mem _ (List.mem_append_right _ (h))) hown hK.1 hP 0 rfl rfl 16 (by decide) (hts (Cond.fieldLink RX10 94 "WorstVoiceModel" "heardMany" "I") (List.mem_of_getElem? (i := 1) rfl)) (fun _ h9 => h9) rfl dX10_hear_33 ?_
    refine lv_bipush (v := nI (8)) hx hb dX10_hear_36 (by decide) ?_
    refine lv_icmp_ne (tgt := 44) hx hb dX10_hear_38 (by decide) (fun c5 => ?_) (fun c5 => ?_)
    · have c5 := mt (nI_eq (by omega) (by decide)).mpr c5
      refine lv_aload_n hx hb dX10_hear_44 rfl (lv_at hl 0 rfl) ?_
      refine va_get (D := (dC, dI)) (ci := 10) (v := .ref (b 8)) (C := RX10) (T := TX10) (N := 26) hx hb hts (fun _ h => List.mem_cons_of_mem _ (List.mem_append_right _ (h))) hown hK.1 hP 0 rfl rfl 17 (by decide) (hts (Cond.fieldLink RX10 31 "WorstVoiceModel" "heards" "[I") (List.mem_of_getElem? (i := 2) rfl)) (fun _ h9 => h9) rfl dX10_hear_45 ?_
      refine lv_iconst (v := nI (4)) hx hb dX10_hear_48 (by decide) ?_
      refine lv_aload_n hx hb dX10_hear_49 rfl (lv_at hl 0 rfl) ?_
      refine va_get (D := (dC, dI)) (ci := 10) (v := .int (nI (h))) (C := RX10) (T := TX10) (N := 26) hx hb hts (fun _ h => List.mem_cons_of_mem _ (List.mem_append_right _ (h))) hown hK.1 hP 0 rfl rfl 16 (by decide) (hts (Cond.fieldLink RX10 94 "WorstVoiceModel" "heardMany" "I") (List.mem_of_getElem? (i := 1) rfl)) (fun _ h9 => h9) rfl dX10_hear_50 ?_
      refine lv_imul hx hb dX10_hear_53 ?_
      refine tp_i (z := nI (4 * h)) (pk_mul (4) (h)) ?_
      refine lv_iload_n hx hb dX10_hear_54 rfl (lv_at hl 1 rfl) ?_
      refine va_iast hx hb hK.1 hP hD hS 1 0 rfl rfl (vp_in_nI (by omega) (by decide)) dX10_hear_55 (fun H locs hP hD hS => ?_)
      rw [nI_clamp (by omega), upd_nI] at hP hD
      have hP : va_P (dC, dI) vwCl [((b 0), .inr (10, [.ref (b 1), .int (pm), .ref (b 2), .int (r_s), .ref (b 3), .int (r_w), .int (st), .int (nI (n)), .int (nI (w)), .int (wk), .int (tr), .ref (b 4), .ref (b 5), .int (nd), .ref (b 6), .ref (b 7), .int (nI (h)), .ref (b 8), .int (sd), .ref (b 9), .int (kt), .int (kw), .int (kh), .ref (b 10), .ref (b 11), .long (hz)])), ((b 8), .inl (cI, 32, .inl (fun ii => nI ((upN E (4 * h) (w_)) ii))))] H := hP
      have hD : va_D A [((b 0), .inr (10, [.ref (b 1), .int (pm), .ref (b 2), .int (r_s), .ref (b 3), .int (r_w), .int (st), .int (nI (n)), .int (nI (w)), .int (wk), .int (tr), .ref (b 4), .ref (b 5), .int (nd), .ref (b 6), .ref (b 7), .int (nI (h)), .ref (b 8), .int (sd), .ref (b 9), .int (kt), .int (kw), .int (kh), .ref (b 10), .ref (b 11), .long (hz)])), ((b 8), .inl (cI, 32, .inl (fun ii => nI ((upN E (4 * h) (w_)) ii))))] := hD
      refine lv_aload_n hx hb dX10_hear_56 rfl (lv_at hl 0 rfl) ?_
      refine va_get (D := (dC, dI)) (ci := 10) (v := .ref (b 8)) (C := RX10) (T := TX10) (N := 26) hx hb hts (fun _ h => List.mem_cons_of_mem _ (List.mem_append_right _ (h))) hown hK.1 hP 0 rfl rfl 17 (by decide) (hts (Cond.fieldLink RX10 31 "WorstVoiceModel" "heards" "[I") (List.mem_of_getElem? (i := 2) rfl)) (fun _ h9 => h9) rfl dX10_hear_57 ?_
      refine lv_iconst (v := nI (4)) hx hb dX10_hear_60 (by decide) ?_
      refine lv_aload_n hx hb dX10_hear_61 rfl (lv_at hl 0 rfl) ?_
      refine va_get (D := (dC, dI)) (ci := 10) (v := .int (nI (h))) (C := RX10) (T := TX10) (N := 26) hx hb hts (fun _ h => List.mem_cons_of_mem _ (List.mem_append_right _ (h))) hown hK.1 hP 0 rfl rfl 16 (by decide) (hts (Cond.fieldLink RX10 94 "WorstVoiceModel" "heardMany" "I") (List.mem_of_getElem? (i := 1) rfl)) (fun _ h9 => h9) rfl dX10_hear_62 ?_
      refine lv_imul hx hb dX10_hear_65 ?_
      refine tp_i (z := nI (4 * h)) (pk_mul (4) (h)) ?_
      refine lv_iconst (v := nI (1)) hx hb dX10_hear_66 (by decide) ?_
      refine lv_iadd hx hb dX10_hear_67 ?_
      refine tp_i (z := nI (4 * h + 1)) (nI_add (4 * h) (1)) ?_
      refine lv_iload_n hx hb dX10_hear_68 rfl (lv_at hl 2 rfl) ?_
      refine va_iast hx hb hK.1 hP hD hS 1 0 rfl rfl (vp_in_nI (by omega) (by decide)) dX10_hear_69 (fun H locs hP hD hS => ?_)
      rw [nI_clamp (by omega), upd_nI] at hP hD
      have hP : va_P (dC, dI) vwCl [((b 0), .inr (10, [.ref (b 1), .int (pm), .ref (b 2), .int (r_s), .ref (b 3), .int (r_w), .int (st), .int (nI (n)), .int (nI (w)), .int (wk), .int (tr), .ref (b 4), .ref (b 5), .int (nd), .ref (b 6), .ref (b 7), .int (nI (h)), .ref (b 8), .int (sd), .ref (b 9), .int (kt), .int (kw), .int (kh), .ref (b 10), .ref (b 11), .long (hz)])), ((b 8), .inl (cI, 32, .inl (fun ii => nI ((upN (upN E (4 * h) (w_)) (4 * h + 1) (p_)) ii))))] H := hP
      have hD : va_D A [((b 0), .inr (10, [.ref (b 1), .int (pm), .ref (b 2), .int (r_s), .ref (b 3), .int (r_w), .int (st), .int (nI (n)), .int (nI (w)), .int (wk), .int (tr), .ref (b 4), .ref (b 5), .int (nd), .ref (b 6), .ref (b 7), .int (nI (h)), .ref (b 8), .int (sd), .ref (b 9), .int (kt), .int (kw), .int (kh), .ref (b 10), .ref (b 11), .long (hz)])), ((b 8), .inl (cI, 32, .inl (fun ii => nI ((upN (upN E (4 * h) (w_)) (4 * h + 1) (p_)) ii))))] := hD
      refine lv_aload_n hx hb dX10_hear_70 rfl (lv_at hl 0 rfl) ?_
      refine va_get (D := (dC, dI)) (ci := 10) (v := .ref (b 8)) (C := RX10) (T := TX10) (N := 26) hx hb hts (fun _ h => List.mem_cons_of_mem _ (List.mem_append_right _ (h))) hown hK.1 hP 0 rfl rfl 17 (by decide) (hts (Cond.fieldLink RX10 31 "WorstVoiceModel" "heards" "[I") (List.mem_of_getElem? (i := 2) rfl)) (fun _ h9 => h9) rfl dX10_hear_71 ?_
      refine lv_iconst (v := nI (4)) hx hb dX10_hear_74 (by decide) ?_
      refine lv_aload_n hx hb dX10_hear_75 rfl (lv_at hl 0 rfl) ?_
      refine va_get (D := (dC, dI)) (ci := 10) (v := .int (nI (h))) (C := RX10) (T := TX10) (N := 26) hx hb hts (fun _ h => List.mem_cons_of_mem _ (List.mem_append_right _ (h))) hown hK.1 hP 0 rfl rfl 16 (by decide) (hts (Cond.fieldLink RX10 94 "WorstVoiceModel" "heardMany" "I") (List.mem_of_getElem? (i := 1) rfl)) (fun _ h9 => h9) rfl dX10_hear_76 ?_
      refine lv_imul hx hb dX10_hear_79 ?_
      refine tp_i (z := nI (4 * h)) (pk_mul (4) (h)) ?_
      refine lv_iconst (v := nI (2)) hx hb dX10_hear_80 (by decide) ?_
      refine lv_iadd hx hb dX10_hear_81 ?_
      refine tp_i (z := nI (4 * h + 2)) (nI_add (4 * h) (2)) ?_
      refine lv_iload_n hx hb dX10_hear_82 rfl (lv_at hl 3 rfl) ?_
      refine va_iast hx hb hK.1 hP hD hS 1 0 rfl rfl (vp_in_nI (by omega) (by decide)) dX10_hear_83 (fun H locs hP hD hS => ?_)
      rw [nI_clamp (by omega), upd_nI] at hP hD
      have hP : va_P (dC, dI) vwCl [((b 0), .inr (10, [.ref (b 1), .int (pm), .ref (b 2), .int (r_s), .ref (b 3), .int (r_w), .int (st), .int (nI (n)), .int (nI (w)), .int (wk), .int (tr), .ref (b 4), .ref (b 5), .int (nd), .ref (b 6), .ref (b 7), .int (nI (h)), .ref (b 8), .int (sd), .ref (b 9), .int (kt), .int (kw), .int (kh), .ref (b 10), .ref (b 11), .long (hz)])), ((b 8), .inl (cI, 32, .inl (fun ii => nI ((upN (upN (upN E (4 * h) (w_)) (4 * h + 1) (p_)) (4 * h + 2) (q_)) ii))))] H := hP
      have hD : va_D A [((b 0), .inr (10, [.ref (b 1), .int (pm), .ref (b 2), .int (r_s), .ref (b 3), .int (r_w), .int (st), .int (nI (n)), .int (nI (w)), .int (wk), .int (tr), .ref (b 4), .ref (b 5), .int (nd), .ref (b 6), .ref (b 7), .int (nI (h)), .ref (b 8), .int (sd), .ref (b 9), .int (kt), .int (kw), .int (kh), .ref (b 10), .ref (b 11), .long (hz)])), ((b 8), .inl (cI, 32, .inl (fun ii => nI ((upN (upN (upN E (4 * h) (w_)) (4 * h + 1) (p_)) (4 * h + 2) (q_)) ii))))] := hD
      refine lv_aload_n hx hb dX10_hear_84 rfl (lv_at hl 0 rfl) ?_
      refine va_get (D := (dC, dI)) (ci := 10) (v := .ref (b 8)) (C := RX10) (T := TX10) (N := 26) hx hb hts (fun _ h => List.mem_cons_of_mem _ (List.mem_append_right _ (h))) hown hK.1 hP 0 rfl rfl 17 (by decide) (hts (Cond.fieldLink RX10 31 "WorstVoiceModel" "heards" "[I") (List.mem_of_getElem? (i := 2) rfl)) (fun _ h9 => h9) rfl dX10_hear_85 ?_
      refine lv_iconst (v := nI (4)) hx hb dX10_hear_88 (by decide) ?_
      refine lv_aload_n hx hb dX10_hear_89 rfl (lv_at hl 0 rfl) ?_
      refine va_get (D := (dC, dI)) (ci := 10) (v := .int (nI (h))) (C := RX10) (T := TX10) (N := 26) hx hb hts (fun _ h => List.mem_cons_of_mem _ (List.mem_append_right _ (h))) hown hK.1 hP 0 rfl rfl 16 (by decide) (hts (Cond.fieldLink RX10 94 "WorstVoiceModel" "heardMany" "I") (List.mem_of_getElem? (i := 1) rfl)) (fun _ h9 => h9) rfl dX10_hear_90 ?_
      refine lv_imul hx hb dX10_hear_93 ?_
      refine tp_i (z := nI (4 * h)) (pk_mul (4) (h)) ?_
      refine lv_iconst (v := nI (3)) hx hb dX10_hear_94 (by decide) ?_
      refine lv_iadd hx hb dX10_hear_95 ?_
      refine tp_i (z := nI (4 * h + 3)) (nI_add (4 * h) (3)) ?_
      refine lv_iload hx hb dX10_hear_96 (lv_at hl 4 rfl) ?_
      refine lv_if_eq (tgt := 105) hx hb dX10_hear_98 (by decide) (fun c6 => ?_) (fun c6 => ?_)
      · have c6 := (z_eq (by omega)).mp c6
        refine lv_iconst (v := nI (0)) hx hb dX10_hear_105 (by decide) ?_
        refine tp_i (z := nI v_) (by congr 1; omega) ?_
        refine va_iast hx hb hK.1 hP hD hS 1 0 rfl rfl (vp_in_nI (by omega) (by decide)) dX10_hear_106 (fun H locs hP hD hS => ?_)
        rw [nI_clamp (by omega), upd_nI] at hP hD
        have hP : va_P (dC, dI) vwCl [((b 0), .inr (10, [.ref (b 1), .int (pm), .ref (b 2), .int (r_s), .ref (b 3), .int (r_w), .int (st), .int (nI (n)), .int (nI (w)), .int (wk), .int (tr), .ref (b 4), .ref (b 5), .int (nd), .ref (b 6), .ref (b 7), .int (nI (h)), .ref (b 8), .int (sd), .ref (b 9), .int (kt), .int (kw), .int (kh), .ref (b 10), .ref (b 11), .long (hz)])), ((b 8), .inl (cI, 32, .inl (fun ii => nI ((upN (upN (upN (upN E (4 * h) (w_)) (4 * h + 1) (p_)) (4 * h + 2) (q_)) (4 * h + 3) (v_)) ii))))] H := hP
        have hD : va_D A [((b 0), .inr (10, [.ref (b 1), .int (pm), .ref (b 2), .int (r_s), .ref (b 3), .int (r_w), .int (st), .int (nI (n)), .int (nI (w)), .int (wk), .int (tr), .ref (b 4), .ref (b 5), .int (nd), .ref (b 6), .ref (b 7), .int (nI (h)), .ref (b 8), .int (sd), .ref (b 9), .int (kt), .int (kw), .int (kh), .ref (b 10), .ref (b 11), .long (hz)])), ((b 8), .inl (cI, 32, .inl (fun ii => nI ((upN (upN (upN (upN E (4 * h) (w_)) (4 * h + 1) (p_)) (4 * h + 2) (q_)) (4 * h + 3) (v_)) ii))))] := hD
        refine lv_aload_n hx hb dX10_hear_107 rfl (lv_at hl 0 rfl) ?_
        refine lv_dup hx hb dX10_hear_108 rfl ?_
        refine va_get (D := (dC, dI)) (ci := 10) (v := .int (nI (h))) (C := RX10) (T := TX10) (N := 26) hx hb hts (fun _ h => List.mem_cons_of_mem _ (List.mem_append_right _ (h))) hown hK.1 hP 0 rfl rfl 16 (by decide) (hts (Cond.fieldLink RX10 94 "WorstVoiceModel" "heardMany" "I") (List.mem_of_getElem? (i := 1) rfl)) (fun _ h9 => h9) rfl dX10_hear_109 ?_
        refine lv_iconst (v := nI (1)) hx hb dX10_hear_112 (by decide) ?_
        refine lv_iadd hx hb dX10_hear_113 ?_
        refine tp_i (z := nI (h + 1)) (nI_add (h) (1)) ?_
        refine va_put (D := (dC, dI)) (ci := 10) (v := .int (nI (h + 1))) (ty := .int) (C := RX10) (T := TX10) (N := 26) hx hb hts (fun _ h => List.mem_cons_of_mem _ (List.mem_append_right _ (h))) tyX10 tyX10_ok nmX10 hown hK.1 hP hD hS 0 rfl rfl 16 (by decide) (hts (Cond.fieldLink RX10 94 "WorstVoiceModel" "heardMany" "I") (List.mem_of_getElem? (i := 1) rfl)) (fun _ h9 => h9) rfl (by decide +kernel) rfl rfl (Nat.le_of_ble_eq_true rfl) dX10_hear_114 (fun H locs hP hD hS => ?_)
        have hP : va_P (dC, dI) vwCl [((b 0), .inr (10, [.ref (b 1), .int (pm), .ref (b 2), .int (r_s), .ref (b 3), .int (r_w), .int (st), .int (nI (n)), .int (nI (w)), .int (wk), .int (tr), .ref (b 4), .ref (b 5), .int (nd), .ref (b 6), .ref (b 7), .int (nI (h + 1)), .ref (b 8), .int (sd), .ref (b 9), .int (kt), .int (kw), .int (kh), .ref (b 10), .ref (b 11), .long (hz)])), ((b 8), .inl (cI, 32, .inl (fun ii => nI ((upN (upN (upN (upN E (4 * h) (w_)) (4 * h + 1) (p_)) (4 * h + 2) (q_)) (4 * h + 3) (v_)) ii))))] H := hP
        have hD : va_D A [((b 0), .inr (10, [.ref (b 1), .int (pm), .ref (b 2), .int (r_s), .ref (b 3), .int (r_w), .int (st), .int (nI (n)), .int (nI (w)), .int (wk), .int (tr), .ref (b 4), .ref (b 5), .int (nd), .ref (b 6), .ref (b 7), .int (nI (h + 1)), .ref (b 8), .int (sd), .ref (b 9), .int (kt), .int (kw), .int (kh), .ref (b 10), .ref (b 11), .long (hz)])), ((b 8), .inl (cI, 32, .inl (fun ii => nI ((upN (upN (upN (upN E (4 * h) (w_)) (4 * h + 1) (p_)) (4 * h + 2) (q_)) (4 * h + 3) (v_)) ii))))] := hD
        refine lv_aload_n hx hb dX10_hear_117 rfl (lv_at hl 0 rfl) ?_
        refine va_get (D := (dC, dI)) (ci := 10) (v := .int (nI (h + 1))) (C := RX10) (T := TX10) (N := 26) hx hb hts (fun _ h => List.mem_cons_of_mem _ (List.mem_append_right _ (h))) hown hK.1 hP 0 rfl rfl 16 (by decide) (hts (Cond.fieldLink RX10 94 "WorstVoiceModel" "heardMany" "I") (List.mem_of_getElem? (i := 1) rfl)) (fun _ h9 => h9) rfl dX10_hear_118 ?_
        exact W.iret hx hb hr (fun t ht hW => ⟨⟨_, (), rfl, rfl, by rw [ht]; exact hP, hD.as rfl⟩, hS.F ht⟩) hS.2.2 dX10_hear_121
      · have c6 := mt (z_eq (by omega)).mpr c6
        refine lv_iconst (v := nI (1)) hx hb dX10_hear_101 (by decide) ?_
        refine lv_goto (tgt := 106) hx hb dX10_hear_102 (by decide) ?_
        refine tp_i (z := nI v_) (by congr 1; omega) ?_
        refine va_iast hx hb hK.1 hP hD hS 1 0 rfl rfl (vp_in_nI (by omega) (by decide)) dX10_hear_106 (fun H locs hP hD hS => ?_)
        rw [nI_clamp (by omega), upd_nI] at hP hD
        have hP : va_P (dC, dI) vwCl [((b 0), .inr (10, [.ref (b 1), .int (pm), .ref (b 2), .int (r_s), .ref (b 3), .int (r_w), .int (st), .int (nI (n)), .int (nI (w)), .int (wk), .int (tr), .ref (b 4), .ref (b 5), .int (nd), .ref (b 6), .ref (b 7), .int (nI (h)), .ref (b 8), .int (sd), .ref (b 9), .int (kt), .int (kw), .int (kh), .ref (b 10), .ref (b 11), .long (hz)])), ((b 8), .inl (cI, 32, .inl (fun ii => nI ((upN (upN (upN (upN E (4 * h) (w_)) (4 * h + 1) (p_)) (4 * h + 2) (q_)) (4 * h + 3) (v_)) ii))))] H := hP
        have hD : va_D A [((b 0), .inr (10, [.ref (b 1), .int (pm), .ref (b 2), .int (r_s), .ref (b 3), .int (r_w), .int (st), .int (nI (n)), .int (nI (w)), .int (wk), .int (tr), .ref (b 4), .ref (b 5), .int (nd), .ref (b 6), .ref (b 7), .int (nI (h)), .ref (b 8), .int (sd), .ref (b 9), .int (kt), .int (kw), .int (kh), .ref (b 10), .ref (b 11), .long (hz)])), ((b 8), .inl (cI, 32, .inl (fun ii => nI ((upN (upN (upN (upN E (4 * h) (w_)) (4 * h + 1) (p_)) (4 * h + 2) (q_)) (4 * h + 3) (v_)) ii))))] := hD
        refine lv_aload_n hx hb dX10_hear_107 rfl (lv_at hl 0 rfl) ?_
        refine lv_dup hx hb dX10_hear_108 rfl ?_
        refine va_get (D := (dC, dI)) (ci := 10) (v := .int (nI (h))) (C := RX10) (T := TX10) (N := 26) hx hb hts (fun _ h => List.mem_cons_of_mem _ (List.mem_append_right _ (h))) hown hK.1 hP 0 rfl rfl 16 (by decide) (hts (Cond.fieldLink RX10 94 "WorstVoiceModel" "heardMany" "I") (List.mem_of_getElem? (i := 1) rfl)) (fun _ h9 => h9) rfl dX10_hear_109 ?_
        refine lv_iconst (v := nI (1)) hx hb dX10_hear_112 (by decide) ?_
        refine lv_iadd hx hb dX10_hear_113 ?_
        refine tp_i (z := nI (h + 1)) (nI_add (h) (1)) ?_
        refine va_put (D := (dC, dI)) (ci := 10) (v := .int (nI (h + 1))) (ty := .int) (C := RX10) (T := TX10) (N := 26) hx hb hts (fun _ h => List.mem_cons_of_mem _ (List.mem_append_right _ (h))) tyX10 tyX10_ok nmX10 hown hK.1 hP hD hS 0 rfl rfl 16 (by decide) (hts (Cond.fieldLink RX10 94 "WorstVoiceModel" "heardMany" "I") (List.mem_of_getElem? (i := 1) rfl)) (fun _ h9 => h9) rfl (by decide +kernel) rfl rfl (Nat.le_of_ble_eq_true rfl) dX10_hear_114 (fun H locs hP hD hS => ?_)
        have hP : va_P (dC, dI) vwCl [((b 0), .inr (10, [.ref (b 1), .int (pm), .ref (b 2), .int (r_s), .ref (b 3), .int (r_w), .int (st), .int (nI (n)), .int (nI (w)), .int (wk), .int (tr), .ref (b 4), .ref (b 5), .int (nd), .ref (b 6), .ref (b 7), .int (nI (h + 1)), .ref (b 8), .int (sd), .ref (b 9), .int (kt), .int (kw), .int (kh), .ref (b 10), .ref (b 11), .long (hz)])), ((b 8), .inl (cI, 32, .inl (fun ii => nI ((upN (upN (upN (upN E (4 * h) (w_)) (4 * h + 1) (p_)) (4 * h + 2) (q_)) (4 * h + 3) (v_)) ii))))] H := hP
        have hD : va_D A [((b 0), .inr (10, [.ref (b 1), .int (pm), .ref (b 2), .int (r_s), .ref (b 3), .int (r_w), .int (st), .int (nI (n)), .int (nI (w)), .int (wk), .int (tr), .ref (b 4), .ref (b 5), .int (nd), .ref (b 6), .ref (b 7), .int (nI (h + 1)), .ref (b 8), .int (sd), .ref (b 9), .int (kt), .int (kw), .int (kh), .ref (b 10), .ref (b 11), .long (hz)])), ((b 8), .inl (cI, 32, .inl (fun ii => nI ((upN (upN (upN (upN E (4 * h) (w_)) (4 * h + 1) (p_)) (4 * h + 2) (q_)) (4 * h + 3) (v_)) ii))))] := hD
        refine lv_aload_n hx hb dX10_hear_117 rfl (lv_at hl 0 rfl) ?_
        refine va_get (D := (dC, dI)) (ci := 10) (v := .int (nI (h + 1))) (C := RX10) (T := TX10) (N := 26) hx hb hts (fun _ h => List.mem_cons_of_mem _ (List.mem_append_right _ (h))) hown hK.1 hP 0 rfl rfl 16 (by decide) (hts (Cond.fieldLink RX10 94 "WorstVoiceModel" "heardMany" "I") (List.mem_of_getElem? (i := 1) rfl)) (fun _ h9 => h9) rfl dX10_hear_118 ?_
        exact W.iret hx hb hr (fun t ht hW => ⟨⟨_, (), rfl, rfl, by rw [ht]; exact hP, hD.as rfl⟩, hS.F ht⟩) hS.2.2 dX10_hear_121
    · have c5 := (nI_eq (by omega) (by decide)).mp c5
      exfalso; omega
  · have c4 := (nI_eq (by omega) (by omega)).mp c4
    exfalso; omega

set_option maxHeartbeats 4000000 in
set_option maxRecDepth 100000 in
theorem c_M_forget (l : Launch) (dC : Nat → ClassId) (dI : Nat → Nat → Nat) (cI : ClassId) (sz : Nat) (b : Nat → Nat) (pm : Int32) (r_s : Int32) (r_w : Int32) (st : Int32) (n : Nat) (w : Nat) (wk : Int32) (tr : Int32) (nd : Int32) (h : Nat) (sd : Int32) (kt : Int32) (kw : Int32) (kh : Int32) (hz : Int64) : Met l yX10_forget wsX10_forget ({ frames := 0, cells := 0, slots := 0, locals := 0 } : Room) (muP dC dI cI ([moW b pm r_s r_w st n w wk tr nd (nI h) sd kt kw kh hz]) sz [.ref (b 0)]) (muI dC dI ([moW b pm r_s r_w st n w wk tr nd (nI h) sd kt kw kh hz]) sz (fun (_ : Unit) => [moW b pm r_s r_w st n w wk tr nd (nI 0) sd kt kw kh hz]) (fun r _ => r = nI h)) 0 0 (va_A ([moW b pm r_s r_w st n w wk tr nd (nI h) sd kt kw kh hz]) sz) := by
  refine Met.ofW (cc := cX10_forget) (maxL := 2) (ret := (some .int)) (by decide) rfl ?_
  intro p e s m args below meth c s₁ B hml hv
  obtain ⟨rfl, hsz, hP, hK, hD0⟩ := hv
  have hx := B.exec
  have hb := B.bytes
  have hr := B.returns
  have hts := atoms_spec (ws := wsX10_forget) B.pre
  have hown : s.vm.findClass RX10 = some m.cls := findClass_of_methodNamed B.named
  have hlocks := B.notSynchronized
  subst hsz
  unfold muI muB
  have hD := hD0.self (sz := s.heap.size)
  generalize hAe : va_A ([moW b pm r_s r_w st n w wk tr nd (nI h) sd kt kw kh hz]) s.heap.size = A at hD ⊢
  have hA : ∀ q : Nat, s.heap.size ≤ q → A q := fun q h => by rw [← hAe]; exact Or.inr h
  have hS : va_S A s.heap s.heap [] := va_S.rf
  have hl := lv_entry ([.ref (b 0)]) (n := 2) (Nat.le_of_ble_eq_true rfl)
  rw [lg_entry_eq]
  generalize (lg_sl ([.ref (b 0)]) ++ List.replicate (2 - (lg_sl ([.ref (b 0)])).length) Slot.unset).toArray = ls at hl ⊢
  have hl : lv_has ls 2 [(0, .ref (b 0))] := hl
  refine lv_aload_n hx hb dX10_forget_0 rfl (lv_at hl 0 rfl) ?_
  refine va_get (D := (dC, dI)) (ci := 10) (v := .int (nI (h))) (C := RX10) (T := TX10) (N := 26) hx hb hts (fun _ h => List.mem_cons_of_mem _ (List.mem_append_right _ (h))) hown hK.1 hP 0 rfl rfl 16 (by decide) (hts (Cond.fieldLink RX10 94 "WorstVoiceModel" "heardMany" "I") (List.mem_of_getElem? (i := 1) rfl)) (fun _ h9 => h9) rfl dX10_forget_1 ?_
  refine lv_istore_n (lv' := [(1, .int (nI (h))), (0, .ref (b 0))]) hx hb dX10_forget_4 rfl hl (by decide) rfl (fun ls hl => ?_)
  refine lv_aload_n hx hb dX10_forget_5 rfl (lv_at hl 1 rfl) ?_
  refine lv_iconst (v := nI (0)) hx hb dX10_forget_6 (by decide) ?_
  refine va_put (D := (dC, dI)) (ci := 10) (v := .int (nI (0))) (ty := .int) (C := RX10) (T := TX10) (N := 26) hx hb hts (fun _ h => List.mem_cons_of_mem _ (List.mem_append_right _ (h))) tyX10 tyX10_ok nmX10 hown hK.1 hP hD hS 0 rfl rfl 16 (by decide) (hts (Cond.fieldLink RX10 94 "WorstVoiceModel" "heardMany" "I") (List.mem_of_getElem? (i := 1) rfl)) (fun _ h9 => h9) rfl (by decide +kernel) rfl rfl (Nat.le_of_ble_eq_true rfl) dX10_forget_7 (fun H locs hP hD hS => ?_)
  have hP : va_P (dC, dI) vwCl [((b 0), .inr (10, [.ref (b 1), .int (pm), .ref (b 2), .int (r_s), .ref (b 3), .int (r_w), .int (st), .int (nI (n)), .int (nI (w)), .int (wk), .int (tr), .ref (b 4), .ref (b 5), .int (nd), .ref (b 6), .ref (b 7), .int (nI (0)), .ref (b 8), .int (sd), .ref (b 9), .int (kt), .int (kw), .int (kh), .ref (b 10), .ref (b 11), .long (hz)]))] H := hP
  have hD : va_D A [((b 0), .inr (10, [.ref (b 1), .int (pm), .ref (b 2), .int (r_s), .ref (b 3), .int (r_w), .int (st), .int (nI (n)), .int (nI (w)), .int (wk), .int (tr), .ref (b 4), .ref (b 5), .int (nd), .ref (b 6), .ref (b 7), .int (nI (0)), .ref (b 8), .int (sd), .ref (b 9), .int (kt), .int (kw), .int (kh), .ref (b 10), .ref (b 11), .long (hz)]))] := hD
  refine lv_iload_n hx hb dX10_forget_10 rfl (lv_at hl 0 rfl) ?_
  exact W.iret hx hb hr (fun t ht hW => ⟨⟨_, (), rfl, rfl, by rw [ht]; exact hP, hD.as rfl⟩, hS.F ht⟩) hS.2.2 dX10_forget_11

set_option maxHeartbeats 4000000 in
set_option maxRecDepth 100000 in
theorem c_M_countOf (l : Launch) (dC : Nat → ClassId) (dI : Nat → Nat → Nat) (cI : ClassId) (b : Nat → Nat) (len : Nat) (r_s : Int32) (r_w : Int32) (st : Int32) (n : Nat) (w : Nat) (wk : Int32) (tr : Int32) (nd_ : Nat) (h : Nat) (sd : Int32) (kt : Int32) (kw : Int32) (kh : Int32) (hz : Int64) (R : Nat → Nat) (hR : WR R) (hn : n ≤ 4) (hw : w ≤ 5) (x : Int32) : Met l yX10_countOf wsX10_countOf ({ frames := 1, cells := 0, slots := 0, locals := 23 } : Room) (roP dC dI cI ([moW b (nI len) r_s r_w st n w wk tr (nI nd_) (nI h) sd kt kw kh hz] ++ [(b 4, .inl (cI, 32, .inl (fun i => nI (R i))))]) [.ref (b 0), .int (x)]) (roI (fun r => r = aC R n w wk h len tr nd_ x)) 0 0 (fun _ => False) := by
  refine Met.ofW (cc := cX10_countOf) (maxL := 2) (ret := (some .int)) (by decide) rfl ?_
  intro p e s m args below meth c s₁ B hml hv
  obtain ⟨rfl, hP, hK⟩ := hv
  have hx := B.exec
  have hb := B.bytes
  have hr := B.returns
  have hts := atoms_spec (ws := wsX10_countOf) B.pre
  have hown : s.vm.findClass RX10 = some m.cls := findClass_of_methodNamed B.named
  have hlocks := B.notSynchronized
  have hS : va_S (fun _ => False) s.heap s.heap [] := va_S.rf
  have hl := lv_entry ([.ref (b 0), .int (x)]) (n := 2) (Nat.le_of_ble_eq_true rfl)
  rw [lg_entry_eq]
  generalize (lg_sl ([.ref (b 0), .int (x)]) ++ List.replicate (2 - (lg_sl ([.ref (b 0), .int (x)])).length) Slot.unset).toArray = ls at hl ⊢
  have hl : lv_has ls 2 [(0, .ref (b 0)), (1, .int (x))] := hl
  refine lv_iload_n hx hb dX10_countOf_0 rfl (lv_at hl 1 rfl) ?_
  by_cases hx7 : inR x 9
  · obtain ⟨k_, hk_, hk_j, rfl⟩ := inR_of hx7
    rcases (show k_ = 0 ∨ k_ = 1 ∨ k_ = 2 ∨ k_ = 3 ∨ k_ = 4 ∨ k_ = 5 ∨ k_ = 6 ∨ k_ = 7 ∨ k_ = 8 by omega) with rfl | rfl | rfl | rfl | rfl | rfl | rfl | rfl | rfl
    · have hl : lv_has ls 2 [(0, .ref (b 0)), (1, .int (nI (0)))] := hl
      refine lv_tableIn (tgt := 52) hx hb dX10_countOf_1 (by decide) (by decide) (off := 51) (by decide) (by decide) ?_
      refine lv_aload_n hx hb dX10_countOf_52 rfl (lv_at hl 0 rfl) ?_
      refine va_get (D := (dC, dI)) (ci := 10) (v := .int (nI (n))) (C := RX10) (T := TX10) (N := 26) hx hb hts (fun _ h => List.mem_cons_of_mem _ (List.mem_append_right _ (h))) hown hK.1 hP 0 rfl rfl 7 (by decide) (hts (Cond.fieldLink RX10 81 "WorstVoiceModel" "singers" "I") (List.mem_of_getElem? (i := 1) rfl)) (fun _ h9 => h9) rfl dX10_countOf_53 ?_
      exact W.iret hx hb hr (fun t ht hW => ⟨⟨_, (), rfl, (aC_e (by decide) rfl), trivial⟩, hS.F ht⟩) hS.2.2 dX10_countOf_56
    · have hl : lv_has ls 2 [(0, .ref (b 0)), (1, .int (nI (1)))] := hl
      refine lv_tableIn (tgt := 57) hx hb dX10_countOf_1 (by decide) (by decide) (off := 56) (by decide) (by decide) ?_
      refine lv_aload_n hx hb dX10_countOf_57 rfl (lv_at hl 0 rfl) ?_
      refine va_get (D := (dC, dI)) (ci := 10) (v := .int (nI (w))) (C := RX10) (T := TX10) (N := 26) hx hb hts (fun _ h => List.mem_cons_of_mem _ (List.mem_append_right _ (h))) hown hK.1 hP 0 rfl rfl 8 (by decide) (hts (Cond.fieldLink RX10 84 "WorstVoiceModel" "widows" "I") (List.mem_of_getElem? (i := 2) rfl)) (fun _ h9 => h9) rfl dX10_countOf_58 ?_
      exact W.iret hx hb hr (fun t ht hW => ⟨⟨_, (), rfl, (aC_e (by decide) rfl), trivial⟩, hS.F ht⟩) hS.2.2 dX10_countOf_61
    · have hl : lv_has ls 2 [(0, .ref (b 0)), (1, .int (nI (2)))] := hl
      refine lv_tableIn (tgt := 62) hx hb dX10_countOf_1 (by decide) (by decide) (off := 61) (by decide) (by decide) ?_
      refine lv_aload_n hx hb dX10_countOf_62 rfl (lv_at hl 0 rfl) ?_
      refine lv_iconst (v := nI (5)) hx hb dX10_countOf_63 (by decide) ?_
      refine ro_calli (va_runV (As := [.int (nI (5))]) (rest := []) ⟨hx, hb, hml, hown, hts⟩ (c_X10_sumAt l dC dI cI b (nI (len)) r_s r_w st n w wk tr (nI (nd_)) (nI (h)) sd kt kw kh hz R hn 5 (by decide)) (cwV 1 hts gX10_countOf_X10_sumAt rfl rfl rfl (by decide +kernel) ⟨Nat.le_of_ble_eq_true rfl, Nat.le_of_ble_eq_true rfl⟩) (ro_pv hK hP [0, 1] rfl (ci := 10) (q0 := 0) (C := RX10) (T := TX10) (N := 26) rfl rfl) rfl rfl hl.1 rfl (lv_room (Nat.le_of_ble_eq_true rfl)) dX10_countOf_64 ⟨Nat.zero_le _, Nat.zero_le _⟩) hS hP (fun r1 H locs hr1 hP hS => ?_)
      subst hr1
      exact W.iret hx hb hr (fun t ht hW => ⟨⟨_, (), rfl, (aC_e (by decide) rfl), trivial⟩, hS.F ht⟩) hS.2.2 dX10_countOf_67
    · have hl : lv_has ls 2 [(0, .ref (b 0)), (1, .int (nI (3)))] := hl
      refine lv_tableIn (tgt := 68) hx hb dX10_countOf_1 (by decide) (by decide) (off := 67) (by decide) (by decide) ?_
      refine lv_aload_n hx hb dX10_countOf_68 rfl (lv_at hl 0 rfl) ?_
      refine lv_bipush (v := nI (7)) hx hb dX10_countOf_69 (by decide) ?_
      refine ro_calli (va_runV (As := [.int (nI (7))]) (rest := []) ⟨hx, hb, hml, hown, hts⟩ (c_X10_sumAt l dC dI cI b (nI (len)) r_s r_w st n w wk tr (nI (nd_)) (nI (h)) sd kt kw kh hz R hn 7 (by decide)) (cwV 1 hts gX10_countOf_X10_sumAt rfl rfl rfl (by decide +kernel) ⟨Nat.le_of_ble_eq_true rfl, Nat.le_of_ble_eq_true rfl⟩) (ro_pv hK hP [0, 1] rfl (ci := 10) (q0 := 0) (C := RX10) (T := TX10) (N := 26) rfl rfl) rfl rfl hl.1 rfl (lv_room (Nat.le_of_ble_eq_true rfl)) dX10_countOf_71 ⟨Nat.zero_le _, Nat.zero_le _⟩) hS hP (fun r2 H locs hr2 hP hS => ?_)
      subst hr2
      exact W.iret hx hb hr (fun t ht hW => ⟨⟨_, (), rfl, (aC_e (by decide) rfl), trivial⟩, hS.F ht⟩) hS.2.2 dX10_countOf_74
    · have hl : lv_has ls 2 [(0, .ref (b 0)), (1, .int (nI (4)))] := hl
      refine lv_tableIn (tgt := 75) hx hb dX10_countOf_1 (by decide) (by decide) (off := 74) (by decide) (by decide) ?_
      refine lv_aload_n hx hb dX10_countOf_75 rfl (lv_at hl 0 rfl) ?_
      refine va_get (D := (dC, dI)) (ci := 10) (v := .int (wk)) (C := RX10) (T := TX10) (N := 26) hx hb hts (fun _ h => List.mem_cons_of_mem _ (List.mem_append_right _ (h))) hown hK.1 hP 0 rfl rfl 9 (by decide) (hts (Cond.fieldLink RX10 91 "WorstVoiceModel" "weeks" "I") (List.mem_of_getElem? (i := 3) rfl)) (fun _ h9 => h9) rfl dX10_countOf_76 ?_
      exact W.iret hx hb hr (fun t ht hW => ⟨⟨_, (), rfl, (aC_e (by decide) rfl), trivial⟩, hS.F ht⟩) hS.2.2 dX10_countOf_79
    · have hl : lv_has ls 2 [(0, .ref (b 0)), (1, .int (nI (5)))] := hl
      refine lv_tableIn (tgt := 80) hx hb dX10_countOf_1 (by decide) (by decide) (off := 79) (by decide) (by decide) ?_
      refine lv_aload_n hx hb dX10_countOf_80 rfl (lv_at hl 0 rfl) ?_
      refine va_get (D := (dC, dI)) (ci := 10) (v := .int (nI (h))) (C := RX10) (T := TX10) (N := 26) hx hb hts (fun _ h => List.mem_cons_of_mem _ (List.mem_append_right _ (h))) hown hK.1 hP 0 rfl rfl 16 (by decide) (hts (Cond.fieldLink RX10 94 "WorstVoiceModel" "heardMany" "I") (List.mem_of_getElem? (i := 4) rfl)) (fun _ h9 => h9) rfl dX10_countOf_81 ?_
      exact W.iret hx hb hr (fun t ht hW => ⟨⟨_, (), rfl, (aC_e (by decide) rfl), trivial⟩, hS.F ht⟩) hS.2.2 dX10_countOf_84
    · have hl : lv_has ls 2 [(0, .ref (b 0)), (1, .int (nI (6)))] := hl
      refine lv_tableIn (tgt := 85) hx hb dX10_countOf_1 (by decide) (by decide) (off := 84) (by decide) (by decide) ?_
      refine lv_aload_n hx hb dX10_countOf_85 rfl (lv_at hl 0 rfl) ?_
      refine va_get (D := (dC, dI)) (ci := 10) (v := .int (nI (len))) (C := RX10) (T := TX10) (N := 26) hx hb hts (fun _ h => List.mem_cons_of_mem _ (List.mem_append_right _ (h))) hown hK.1 hP 0 rfl rfl 1 (by decide) (hts (Cond.fieldLink RX10 53 "WorstVoiceModel" "pageMany" "I") (List.mem_of_getElem? (i := 5) rfl)) (fun _ h9 => h9) rfl dX10_countOf_86 ?_
      exact W.iret hx hb hr (fun t ht hW => ⟨⟨_, (), rfl, (aC_e (by decide) rfl), trivial⟩, hS.F ht⟩) hS.2.2 dX10_countOf_89
    · have hl : lv_has ls 2 [(0, .ref (b 0)), (1, .int (nI (7)))] := hl
      refine lv_tableIn (tgt := 90) hx hb dX10_countOf_1 (by decide) (by decide) (off := 89) (by decide) (by decide) ?_
      refine lv_aload_n hx hb dX10_countOf_90 rfl (lv_at hl 0 rfl) ?_
      refine va_get (D := (dC, dI)) (ci := 10) (v := .int (tr)) (C := RX10) (T := TX10) (N := 26) hx hb hts (fun _ h => List.mem_cons_of_mem _ (List.mem_append_right _ (h))) hown hK.1 hP 0 rfl rfl 10 (by decide) (hts (Cond.fieldLink RX10 97 "WorstVoiceModel" "townsRead" "I") (List.mem_of_getElem? (i := 6) rfl)) (fun _ h9 => h9) rfl dX10_countOf_91 ?_
      exact W.iret hx hb hr (fun t ht hW => ⟨⟨_, (), rfl, (aC_e (by decide) rfl), trivial⟩, hS.F ht⟩) hS.2.2 dX10_countOf_94
    · have hl : lv_has ls 2 [(0, .ref (b 0)), (1, .int (nI (8)))] := hl
      refine lv_tableIn (tgt := 95) hx hb dX10_countOf_1 (by decide) (by decide) (off := 94) (by decide) (by decide) ?_
      refine lv_aload_n hx hb dX10_countOf_95 rfl (lv_at hl 0 rfl) ?_
      refine va_get (D := (dC, dI)) (ci := 10) (v := .int (nI (nd_))) (C := RX10) (T := TX10) (N := 26) hx hb hts (fun _ h => List.mem_cons_of_mem _ (List.mem_append_right _ (h))) hown hK.1 hP 0 rfl rfl 13 (by decide) (hts (Cond.fieldLink RX10 151 "WorstVoiceModel" "needMany" "I") (List.mem_of_getElem? (i := 7) rfl)) (fun _ h9 => h9) rfl dX10_countOf_96 ?_
      exact W.iret hx hb hr (fun t ht hW => ⟨⟨_, (), rfl, (aC_e (by decide) rfl), trivial⟩, hS.F ht⟩) hS.2.2 dX10_countOf_99
  · refine lv_tableOut (tgt := 100) hx hb dX10_countOf_1 (by omega) (by decide) ?_
    refine lv_bipush (v := -102) hx hb dX10_countOf_100 (by decide) ?_
    exact W.iret hx hb hr (fun t ht hW => ⟨⟨_, (), rfl, (aC_o hx7).symm, trivial⟩, hS.F ht⟩) hS.2.2 dX10_countOf_102

set_option maxHeartbeats 4000000 in
set_option maxRecDepth 100000 in
theorem c_M_count (l : Launch) (dC : Nat → ClassId) (dI : Nat → Nat → Nat) (cI : ClassId) (b : Nat → Nat) (len : Nat) (r_s : Int32) (r_w : Int32) (st : Int32) (n : Nat) (w : Nat) (wk : Int32) (tr : Int32) (nd_ : Nat) (h : Nat) (sd : Int32) (kt : Int32) (kw : Int32) (kh : Int32) (hz : Int64) (R : Nat → Nat) (hR : WR R) (hn : n ≤ 4) (hw : w ≤ 5) (x : Int32) : Met l yX10_count wsX10_count ({ frames := 2, cells := 0, slots := 0, locals := 44 } : Room) (roP dC dI cI ([moW b (nI len) r_s r_w st n w wk tr (nI nd_) (nI h) sd kt kw kh hz] ++ [(b 4, .inl (cI, 32, .inl (fun i => nI (R i))))]) [.ref (b 0), .int (x)]) (roI (fun r => r = aC R n w wk h len tr nd_ x)) 0 0 (fun _ => False) := by
  refine Met.ofW (cc := cX10_count) (maxL := 2) (ret := (some .int)) (by decide) rfl ?_
  intro p e s m args below meth c s₁ B hml hv
  obtain ⟨rfl, hP, hK⟩ := hv
  have hx := B.exec
  have hb := B.bytes
  have hr := B.returns
  have hts := atoms_spec (ws := wsX10_count) B.pre
  have hown : s.vm.findClass RX10 = some m.cls := findClass_of_methodNamed B.named
  have hlocks := B.notSynchronized
  have hS : va_S (fun _ => False) s.heap s.heap [] := va_S.rf
  have hl := lv_entry ([.ref (b 0), .int (x)]) (n := 2) (Nat.le_of_ble_eq_true rfl)
  rw [lg_entry_eq]
  generalize (lg_sl ([.ref (b 0), .int (x)]) ++ List.replicate (2 - (lg_sl ([.ref (b 0), .int (x)])).length) Slot.unset).toArray = ls at hl ⊢
  have hl : lv_has ls 2 [(0, .ref (b 0)), (1, .int (x))] := hl
  refine lv_aload_n hx hb dX10_count_0 rfl (lv_at hl 0 rfl) ?_
  refine lv_iload_n hx hb dX10_count_1 rfl (lv_at hl 1 rfl) ?_
  refine ro_calli (va_runV (As := [.int (x)]) (rest := []) ⟨hx, hb, hml, hown, hts⟩ (c_M_countOf l dC dI cI b len r_s r_w st n w wk tr nd_ h sd kt kw kh hz R hR hn hw (x)) (cwV 1 hts gX10_count_X10_countOf rfl rfl rfl (by decide +kernel) ⟨Nat.le_of_ble_eq_true rfl, Nat.le_of_ble_eq_true rfl⟩) (ro_pv hK hP [0, 1] rfl (ci := 10) (q0 := 0) (C := RX10) (T := TX10) (N := 26) rfl rfl) rfl rfl hl.1 rfl (lv_room (Nat.le_of_ble_eq_true rfl)) dX10_count_2 ⟨Nat.zero_le _, Nat.zero_le _⟩) hS hP (fun r1 H locs hr1 hP hS => ?_)
  subst hr1
  exact W.iret hx hb hr (fun t ht hW => ⟨⟨_, (), rfl, rfl, trivial⟩, hS.F ht⟩) hS.2.2 dX10_count_5

set_option maxHeartbeats 4000000 in
set_option maxRecDepth 100000 in
theorem c_M_imageN (l : Launch) (dC : Nat → ClassId) (dI : Nat → Nat → Nat) (cI : ClassId) (b : Nat → Nat) (pm r_s r_w st : Int32) (n w : Nat) (wk tr nd hd sd kt kw kh : Int32) (hz : Int64) (hn0 : n = 0) : Met l yX10_image wsX10_image ({ frames := 0, cells := 0, slots := 0, locals := 0 } : Room) (roP dC dI cI ([moW b pm r_s r_w st n w wk tr nd hd sd kt kw kh hz]) [.ref (b 0)]) (roI (fun r => r = -103)) 0 0 (fun _ => False) := by
  refine Met.ofW (cc := cX10_image) (maxL := 1) (ret := (some .int)) (by decide) rfl ?_
  intro p e s m args below meth c s₁ B hml hv
  obtain ⟨rfl, hP, hK⟩ := hv
  have hx := B.exec
  have hb := B.bytes
  have hr := B.returns
  have hts := atoms_spec (ws := wsX10_image) B.pre
  have hown : s.vm.findClass RX10 = some m.cls := findClass_of_methodNamed B.named
  have hlocks := B.notSynchronized
  have hS : va_S (fun _ => False) s.heap s.heap [] := va_S.rf
  have hl := lv_entry ([.ref (b 0)]) (n := 1) (Nat.le_of_ble_eq_true rfl)
  rw [lg_entry_eq]
  generalize (lg_sl ([.ref (b 0)]) ++ List.replicate (1 - (lg_sl ([.ref (b 0)])).length) Slot.unset).toArray = ls at hl ⊢
  have hl : lv_has ls 1 [(0, .ref (b 0))] := hl
  have hn4 : n < 2 ^ 31 := by omega
  refine lv_aload_n hx hb dX10_image_0 rfl (lv_at hl 0 rfl) ?_
  refine va_get (D := (dC, dI)) (ci := 10) (v := .int (nI (n))) (C := RX10) (T := TX10) (N := 26) hx hb hts (fun _ h => List.mem_cons_of_mem _ (List.mem_append_right _ (h))) hown hK.1 hP 0 rfl rfl 7 (by decide) (hts (Cond.fieldLink RX10 81 "WorstVoiceModel" "singers" "I") (List.mem_of_getElem? (i := 1) rfl)) (fun _ h9 => h9) rfl dX10_image_1 ?_
  refine lv_if_ne (tgt := 10) hx hb dX10_image_4 (by decide) (fun c1 => absurd (by rw [hn0]; rfl) c1) (fun c1 => ?_)
  refine lv_bipush (v := -103) hx hb dX10_image_7 (by decide) ?_
  exact W.iret hx hb hr (fun t ht hW => ⟨⟨_, (), rfl, rfl, trivial⟩, hS.F ht⟩) hS.2.2 dX10_image_9

set_option maxHeartbeats 4000000 in
set_option maxRecDepth 100000 in
theorem c_M_image (l : Launch) (dC : Nat → ClassId) (dI : Nat → Nat → Nat) (cI : ClassId) (sz : Nat) (b : Nat → Nat) (pm r_s r_w st : Int32) (n w : Nat) (wk tr nd hd sd kt kw kh : Int32) (hz : Int64) (R E KR KE : Nat → Nat) (hn : n ≤ 4) (hn1 : 1 ≤ n) : Met l yX10_image wsX10_image ({ frames := 1, cells := 0, slots := 0, locals := 22 } : Room) (muP dC dI cI ([moW b pm r_s r_w st n w wk tr nd hd sd kt kw kh hz] ++ [(b 4, .inl (cI, 32, .inl (fun i => nI (R i))))] ++ [(b 8, .inl (cI, 32, .inl (fun i => nI (E i))))] ++ [(b 10, .inl (cI, 32, .inl (fun i => nI (KR i))))] ++ [(b 11, .inl (cI, 32, .inl (fun i => nI (KE i))))]) sz [.ref (b 0)]) (muI dC dI ([moW b pm r_s r_w st n w wk tr nd hd sd kt kw kh hz] ++ [(b 4, .inl (cI, 32, .inl (fun i => nI (R i))))] ++ [(b 8, .inl (cI, 32, .inl (fun i => nI (E i))))] ++ [(b 10, .inl (cI, 32, .inl (fun i => nI (KR i))))] ++ [(b 11, .inl (cI, 32, .inl (fun i => nI (KE i))))]) sz (fun (_ : Unit) => [moW b pm r_s r_w st n w wk tr nd hd sd tr wk hd hz] ++ [(b 4, .inl (cI, 32, .inl (fun i => nI (R i))))] ++ [(b 8, .inl (cI, 32, .inl (fun i => nI (E i))))] ++ [(b 10, .inl (cI, 32, .inl (fun i => nI (R i))))] ++ [(b 11, .inl (cI, 32, .inl (fun i => nI (E i))))]) (fun r _ => r = wk)) 0 0 (va_A ([moW b pm r_s r_w st n w wk tr nd hd sd kt kw kh hz] ++ [(b 4, .inl (cI, 32, .inl (fun i => nI (R i))))] ++ [(b 8, .inl (cI, 32, .inl (fun i => nI (E i))))] ++ [(b 10, .inl (cI, 32, .inl (fun i => nI (KR i))))] ++ [(b 11, .inl (cI, 32, .inl (fun i => nI (KE i))))]) sz) := by
  refine Met.ofW (cc := cX10_image) (maxL := 1) (ret := (some .int)) (by decide) rfl ?_
  intro p e s m args below meth c s₁ B hml hv
  obtain ⟨rfl, hsz, hP, hK, hD0⟩ := hv
  have hx := B.exec
  have hb := B.bytes
  have hr := B.returns
  have hts := atoms_spec (ws := wsX10_image) B.pre
  have hown : s.vm.findClass RX10 = some m.cls := findClass_of_methodNamed B.named
  have hlocks := B.notSynchronized
  subst hsz
  unfold muI muB
  have hD := hD0.self (sz := s.heap.size)
  generalize hAe : va_A ([moW b pm r_s r_w st n w wk tr nd hd sd kt kw kh hz] ++ [(b 4, .inl (cI, 32, .inl (fun i => nI (R i))))] ++ [(b 8, .inl (cI, 32, .inl (fun i => nI (E i))))] ++ [(b 10, .inl (cI, 32, .inl (fun i => nI (KR i))))] ++ [(b 11, .inl (cI, 32, .inl (fun i => nI (KE i))))]) s.heap.size = A at hD ⊢
  have hA : ∀ q : Nat, s.heap.size ≤ q → A q := fun q h => by rw [← hAe]; exact Or.inr h
  have hS : va_S A s.heap s.heap [] := va_S.rf
  have hl := lv_entry ([.ref (b 0)]) (n := 1) (Nat.le_of_ble_eq_true rfl)
  rw [lg_entry_eq]
  generalize (lg_sl ([.ref (b 0)]) ++ List.replicate (1 - (lg_sl ([.ref (b 0)])).length) Slot.unset).toArray = ls at hl ⊢
  have hl : lv_has ls 1 [(0, .ref (b 0))] := hl
  refine lv_aload_n hx hb dX10_image_0 rfl (lv_at hl 0 rfl) ?_
  refine va_get (D := (dC, dI)) (ci := 10) (v := .int (nI (n))) (C := RX10) (T := TX10) (N := 26) hx hb hts (fun _ h => List.mem_cons_of_mem _ (List.mem_append_right _ (h))) hown hK.1 hP 0 rfl rfl 7 (by decide) (hts (Cond.fieldLink RX10 81 "WorstVoiceModel" "singers" "I") (List.mem_of_getElem? (i := 1) rfl)) (fun _ h9 => h9) rfl dX10_image_1 ?_
  refine lv_if_ne (tgt := 10) hx hb dX10_image_4 (by decide) (fun c1 => ?_) (fun c1 => ?_)
  · have c1 := mt (z_eq (by omega)).mpr c1
    refine lv_aload_n hx hb dX10_image_10 rfl (lv_at hl 0 rfl) ?_
    refine va_get (D := (dC, dI)) (ci := 10) (v := .ref (b 4)) (C := RX10) (T := TX10) (N := 26) hx hb hts (fun _ h => List.mem_cons_of_mem _ (List.mem_append_right _ (h))) hown hK.1 hP 0 rfl rfl 11 (by decide) (hts (Cond.fieldLink RX10 19 "WorstVoiceModel" "rows" "[I") (List.mem_of_getElem? (i := 2) rfl)) (fun _ h9 => h9) rfl dX10_image_11 ?_
    refine lv_aload_n hx hb dX10_image_14 rfl (lv_at hl 0 rfl) ?_
    refine va_get (D := (dC, dI)) (ci := 10) (v := .ref (b 10)) (C := RX10) (T := TX10) (N := 26) hx hb hts (fun _ h => List.mem_cons_of_mem _ (List.mem_append_right _ (h))) hown hK.1 hP 0 rfl rfl 23 (by decide) (hts (Cond.fieldLink RX10 37 "WorstVoiceModel" "keptRows" "[I") (List.mem_of_getElem? (i := 3) rfl)) (fun _ h9 => h9) rfl dX10_image_15 ?_
    refine mu_callv (wr := [((b 0), .inr (10, [.ref (b 1), .int (pm), .ref (b 2), .int (r_s), .ref (b 3), .int (r_w), .int (st), .int (nI (n)), .int (nI (w)), .int (wk), .int (tr), .ref (b 4), .ref (b 5), .int (nd), .ref (b 6), .ref (b 7), .int (hd), .ref (b 8), .int (sd), .ref (b 9), .int (kt), .int (kw), .int (kh), .ref (b 10), .ref (b 11), .long (hz)])), ((b 8), .inl (cI, 32, .inl (fun ii => nI (E ii)))), ((b 11), .inl (cI, 32, .inl (fun ii => nI (KE ii))))]) (wn := (fun _ => [((b 0), .inr (10, [.ref (b 1), .int (pm), .ref (b 2), .int (r_s), .ref (b 3), .int (r_w), .int (st), .int (nI (n)), .int (nI (w)), .int (wk), .int (tr), .ref (b 4), .ref (b 5), .int (nd), .ref (b 6), .ref (b 7), .int (hd), .ref (b 8), .int (sd), .ref (b 9), .int (kt), .int (kw), .int (kh), .ref (b 10), .ref (b 11), .long (hz)])), ((b 4), .inl (cI, 32, .inl (fun ii => nI (R ii)))), ((b 8), .inl (cI, 32, .inl (fun ii => nI (E ii)))), ((b 10), .inl (cI, 32, .inl (fun ii => nI (R ii)))), ((b 11), .inl (cI, 32, .inl (fun ii => nI (KE ii))))])) (va_runS (As := [.ref (b 4), .ref (b 10)]) (rest := []) ⟨hx, hb, hml, hown, hts⟩ (c_M_copy l dC dI cI _ (b 4) (b 10) 32 (fun ii => nI (R ii)) (fun ii => nI (KR ii)) (by decide)) (va_cwS 2 hts gX10_image_X10_copy rfl rfl rfl (by decide +kernel) ⟨Nat.le_of_ble_eq_true rfl, Nat.le_of_ble_eq_true rfl⟩) (mu_ps hK hP hD [1, 3] (by decide) rfl rfl) rfl rfl hl.1 rfl (lv_room (Nat.le_of_ble_eq_true rfl)) dX10_image_18 ⟨Nat.zero_le _, Nat.zero_le _⟩) hS hA hP hD [1, 3] [0, 2, 4] [0, 3, 1, 4, 2] rfl rfl (by decide) (by decide) (by decide) (fun _ => rfl) (fun _ => rfl) (fun u2 H locs hr3 hP hD hS => ?_)
    have hP : va_P (dC, dI) vwCl [((b 0), .inr (10, [.ref (b 1), .int (pm), .ref (b 2), .int (r_s), .ref (b 3), .int (r_w), .int (st), .int (nI (n)), .int (nI (w)), .int (wk), .int (tr), .ref (b 4), .ref (b 5), .int (nd), .ref (b 6), .ref (b 7), .int (hd), .ref (b 8), .int (sd), .ref (b 9), .int (kt), .int (kw), .int (kh), .ref (b 10), .ref (b 11), .long (hz)])), ((b 4), .inl (cI, 32, .inl (fun ii => nI (R ii)))), ((b 8), .inl (cI, 32, .inl (fun ii => nI (E ii)))), ((b 10), .inl (cI, 32, .inl (fun ii => nI (R ii)))), ((b 11), .inl (cI, 32, .inl (fun ii => nI (KE ii))))] H := hP
    have hD : va_D A [((b 0), .inr (10, [.ref (b 1), .int (pm), .ref (b 2), .int (r_s), .ref (b 3), .int (r_w), .int (st), .int (nI (n)), .int (nI (w)), .int (wk), .int (tr), .ref (b 4), .ref (b 5), .int (nd), .ref (b 6), .ref (b 7), .int (hd), .ref (b 8), .int (sd), .ref (b 9), .int (kt), .int (kw), .int (kh), .ref (b 10), .ref (b 11), .long (hz)])), ((b 4), .inl (cI, 32, .inl (fun ii => nI (R ii)))), ((b 8), .inl (cI, 32, .inl (fun ii => nI (E ii)))), ((b 10), .inl (cI, 32, .inl (fun ii => nI (R ii)))), ((b 11), .inl (cI, 32, .inl (fun ii => nI (KE ii))))] := hD
    refine lv_aload_n hx hb dX10_image_21 rfl (lv_at hl 0 rfl) ?_
    refine va_get (D := (dC, dI)) (ci := 10) (v := .ref (b 8)) (C := RX10) (T := TX10) (N := 26) hx hb hts (fun _ h => List.mem_cons_of_mem _ (List.mem_append_right _ (h))) hown hK.1 hP 0 rfl rfl 17 (by decide) (hts (Cond.fieldLink RX10 31 "WorstVoiceModel" "heards" "[I") (List.mem_of_getElem? (i := 4) rfl)) (fun _ h9 => h9) rfl dX10_image_22 ?_
    refine lv_aload_n hx hb dX10_image_25 rfl (lv_at hl 0 rfl) ?_
    refine va_get (D := (dC, dI)) (ci := 10) (v := .ref (b 11)) (C := RX10) (T := TX10) (N := 26) hx hb hts (fun _ h => List.mem_cons_of_mem _ (List.mem_append_right _ (h))) hown hK.1 hP 0 rfl rfl 24 (by decide) (hts (Cond.fieldLink RX10 40 "WorstVoiceModel" "keptHeards" "[I") (List.mem_of_getElem? (i := 5) rfl)) (fun _ h9 => h9) rfl dX10_image_26 ?_
    refine mu_callv (wr := [((b 0), .inr (10, [.ref (b 1), .int (pm), .ref (b 2), .int (r_s), .ref (b 3), .int (r_w), .int (st), .int (nI (n)), .int (nI (w)), .int (wk), .int (tr), .ref (b 4), .ref (b 5), .int (nd), .ref (b 6), .ref (b 7), .int (hd), .ref (b 8), .int (sd), .ref (b 9), .int (kt), .int (kw), .int (kh), .ref (b 10), .ref (b 11), .long (hz)])), ((b 4), .inl (cI, 32, .inl (fun ii => nI (R ii)))), ((b 10), .inl (cI, 32, .inl (fun ii => nI (R ii))))]) (wn := (fun _ => [((b 0), .inr (10, [.ref (b 1), .int (pm), .ref (b 2), .int (r_s), .ref (b 3), .int (r_w), .int (st), .int (nI (n)), .int (nI (w)), .int (wk), .int (tr), .ref (b 4), .ref (b 5), .int (nd), .ref (b 6), .ref (b 7), .int (hd), .ref (b 8), .int (sd), .ref (b 9), .int (kt), .int (kw), .int (kh), .ref (b 10), .ref (b 11), .long (hz)])), ((b 4), .inl (cI, 32, .inl (fun ii => nI (R ii)))), ((b 8), .inl (cI, 32, .inl (fun ii => nI (E ii)))), ((b 10), .inl (cI, 32, .inl (fun ii => nI (R ii)))), ((b 11), .inl (cI, 32, .inl (fun ii => nI (E ii))))])) (va_runS (As := [.ref (b 8), .ref (b 11)]) (rest := []) ⟨hx, hb, hml, hown, hts⟩ (c_M_copy l dC dI cI _ (b 8) (b 11) 32 (fun ii => nI (E ii)) (fun ii => nI (KE ii)) (by decide)) (va_cwS 2 hts gX10_image_X10_copy rfl rfl rfl (by decide +kernel) ⟨Nat.le_of_ble_eq_true rfl, Nat.le_of_ble_eq_true rfl⟩) (mu_ps hK hP hD [2, 4] (by decide) rfl rfl) rfl rfl hl.1 rfl (lv_room (Nat.le_of_ble_eq_true rfl)) dX10_image_29 ⟨Nat.zero_le _, Nat.zero_le _⟩) hS hA hP hD [2, 4] [0, 1, 3] [0, 1, 3, 2, 4] rfl rfl (by decide) (by decide) (by decide) (fun _ => rfl) (fun _ => rfl) (fun u4 H locs hr5 hP hD hS => ?_)
    have hP : va_P (dC, dI) vwCl [((b 0), .inr (10, [.ref (b 1), .int (pm), .ref (b 2), .int (r_s), .ref (b 3), .int (r_w), .int (st), .int (nI (n)), .int (nI (w)), .int (wk), .int (tr), .ref (b 4), .ref (b 5), .int (nd), .ref (b 6), .ref (b 7), .int (hd), .ref (b 8), .int (sd), .ref (b 9), .int (kt), .int (kw), .int (kh), .ref (b 10), .ref (b 11), .long (hz)])), ((b 4), .inl (cI, 32, .inl (fun ii => nI (R ii)))), ((b 8), .inl (cI, 32, .inl (fun ii => nI (E ii)))), ((b 10), .inl (cI, 32, .inl (fun ii => nI (R ii)))), ((b 11), .inl (cI, 32, .inl (fun ii => nI (E ii))))] H := hP
    have hD : va_D A [((b 0), .inr (10, [.ref (b 1), .int (pm), .ref (b 2), .int (r_s), .ref (b 3), .int (r_w), .int (st), .int (nI (n)), .int (nI (w)), .int (wk), .int (tr), .ref (b 4), .ref (b 5), .int (nd), .ref (b 6), .ref (b 7), .int (hd), .ref (b 8), .int (sd), .ref (b 9), .int (kt), .int (kw), .int (kh), .ref (b 10), .ref (b 11), .long (hz)])), ((b 4), .inl (cI, 32, .inl (fun ii => nI (R ii)))), ((b 8), .inl (cI, 32, .inl (fun ii => nI (E ii)))), ((b 10), .inl (cI, 32, .inl (fun ii => nI (R ii)))), ((b 11), .inl (cI, 32, .inl (fun ii => nI (E ii))))] := hD
    refine lv_aload_n hx hb dX10_image_32 rfl (lv_at hl 0 rfl) ?_
    refine lv_aload_n hx hb dX10_image_33 rfl (lv_at hl 0 rfl) ?_
    refine va_get (D := (dC, dI)) (ci := 10) (v := .int (wk)) (C := RX10) (T := TX10) (N := 26) hx hb hts (fun _ h => List.mem_cons_of_mem _ (List.mem_append_right _ (h))) hown hK.1 hP 0 rfl rfl 9 (by decide) (hts (Cond.fieldLink RX10 91 "WorstVoiceModel" "weeks" "I") (List.mem_of_getElem? (i := 6) rfl)) (fun _ h9 => h9) rfl dX10_image_34 ?_
    refine va_put (D := (dC, dI)) (ci := 10) (v := .int (wk)) (ty := .int) (C := RX10) (T := TX10) (N := 26) hx hb hts (fun _ h => List.mem_cons_of_mem _ (List.mem_append_right _ (h))) tyX10 tyX10_ok nmX10 hown hK.1 hP hD hS 0 rfl rfl 21 (by decide) (hts (Cond.fieldLink RX10 178 "WorstVoiceModel" "keptWeeks" "I") (List.mem_of_getElem? (i := 7) rfl)) (fun _ h9 => h9) rfl (by decide +kernel) rfl rfl (Nat.le_of_ble_eq_true rfl) dX10_image_37 (fun H locs hP hD hS => ?_)
    have hP : va_P (dC, dI) vwCl [((b 0), .inr (10, [.ref (b 1), .int (pm), .ref (b 2), .int (r_s), .ref (b 3), .int (r_w), .int (st), .int (nI (n)), .int (nI (w)), .int (wk), .int (tr), .ref (b 4), .ref (b 5), .int (nd), .ref (b 6), .ref (b 7), .int (hd), .ref (b 8), .int (sd), .ref (b 9), .int (kt), .int (wk), .int (kh), .ref (b 10), .ref (b 11), .long (hz)])), ((b 4), .inl (cI, 32, .inl (fun ii => nI (R ii)))), ((b 8), .inl (cI, 32, .inl (fun ii => nI (E ii)))), ((b 10), .inl (cI, 32, .inl (fun ii => nI (R ii)))), ((b 11), .inl (cI, 32, .inl (fun ii => nI (E ii))))] H := hP
    have hD : va_D A [((b 0), .inr (10, [.ref (b 1), .int (pm), .ref (b 2), .int (r_s), .ref (b 3), .int (r_w), .int (st), .int (nI (n)), .int (nI (w)), .int (wk), .int (tr), .ref (b 4), .ref (b 5), .int (nd), .ref (b 6), .ref (b 7), .int (hd), .ref (b 8), .int (sd), .ref (b 9), .int (kt), .int (wk), .int (kh), .ref (b 10), .ref (b 11), .long (hz)])), ((b 4), .inl (cI, 32, .inl (fun ii => nI (R ii)))), ((b 8), .inl (cI, 32, .inl (fun ii => nI (E ii)))), ((b 10), .inl (cI, 32, .inl (fun ii => nI (R ii)))), ((b 11), .inl (cI, 32, .inl (fun ii => nI (E ii))))] := hD
    refine lv_aload_n hx hb dX10_image_40 rfl (lv_at hl 0 rfl) ?_
    refine lv_aload_n hx hb dX10_image_41 rfl (lv_at hl 0 rfl) ?_
    refine va_get (D := (dC, dI)) (ci := 10) (v := .int (hd)) (C := RX10) (T := TX10) (N := 26) hx hb hts (fun _ h => List.mem_cons_of_mem _ (List.mem_append_right _ (h))) hown hK.1 hP 0 rfl rfl 16 (by decide) (hts (Cond.fieldLink RX10 94 "WorstVoiceModel" "heardMany" "I") (List.mem_of_getElem? (i := 8) rfl)) (fun _ h9 => h9) rfl dX10_image_42 ?_
    refine va_put (D := (dC, dI)) (ci := 10) (v := .int (hd)) (ty := .int) (C := RX10) (T := TX10) (N := 26) hx hb hts (fun _ h => List.mem_cons_of_mem _ (List.mem_append_right _ (h))) tyX10 tyX10_ok nmX10 hown hK.1 hP hD hS 0 rfl rfl 22 (by decide) (hts (Cond.fieldLink RX10 181 "WorstVoiceModel" "keptHeard" "I") (List.mem_of_getElem? (i := 9) rfl)) (fun _ h9 => h9) rfl (by decide +kernel) rfl rfl (Nat.le_of_ble_eq_true rfl) dX10_image_45 (fun H locs hP hD hS => ?_)
    have hP : va_P (dC, dI) vwCl [((b 0), .inr (10, [.ref (b 1), .int (pm), .ref (b 2), .int (r_s), .ref (b 3), .int (r_w), .int (st), .int (nI (n)), .int (nI (w)), .int (wk), .int (tr), .ref (b 4), .ref (b 5), .int (nd), .ref (b 6), .ref (b 7), .int (hd), .ref (b 8), .int (sd), .ref (b 9), .int (kt), .int (wk), .int (hd), .ref (b 10), .ref (b 11), .long (hz)])), ((b 4), .inl (cI, 32, .inl (fun ii => nI (R ii)))), ((b 8), .inl (cI, 32, .inl (fun ii => nI (E ii)))), ((b 10), .inl (cI, 32, .inl (fun ii => nI (R ii)))), ((b 11), .inl (cI, 32, .inl (fun ii => nI (E ii))))] H := hP
    have hD : va_D A [((b 0), .inr (10, [.ref (b 1), .int (pm), .ref (b 2), .int (r_s), .ref (b 3), .int (r_w), .int (st), .int (nI (n)), .int (nI (w)), .int (wk), .int (tr), .ref (b 4), .ref (b 5), .int (nd), .ref (b 6), .ref (b 7), .int (hd), .ref (b 8), .int (sd), .ref (b 9), .int (kt), .int (wk), .int (hd), .ref (b 10), .ref (b 11), .long (hz)])), ((b 4), .inl (cI, 32, .inl (fun ii => nI (R ii)))), ((b 8), .inl (cI, 32, .inl (fun ii => nI (E ii)))), ((b 10), .inl (cI, 32, .inl (fun ii => nI (R ii)))), ((b 11), .inl (cI, 32, .inl (fun ii => nI (E ii))))] := hD
    refine lv_aload_n hx hb dX10_image_48 rfl (lv_at hl 0 rfl) ?_
    refine lv_aload_n hx hb dX10_image_49 rfl (lv_at hl 0 rfl) ?_
    refine va_get (D := (dC, dI)) (ci := 10) (v := .int (tr)) (C := RX10) (T := TX10) (N := 26) hx hb hts (fun _ h => List.mem_cons_of_mem _ (List.mem_append_right _ (h))) hown hK.1 hP 0 rfl rfl 10 (by decide) (hts (Cond.fieldLink RX10 97 "WorstVoiceModel" "townsRead" "I") (List.mem_of_getElem? (i := 10) rfl)) (fun _ h9 => h9) rfl dX10_image_50 ?_
    refine va_put (D := (dC, dI)) (ci := 10) (v := .int (tr)) (ty := .int) (C := RX10) (T := TX10) (N := 26) hx hb hts (fun _ h => List.mem_cons_of_mem _ (List.mem_append_right _ (h))) tyX10 tyX10_ok nmX10 hown hK.1 hP hD hS 0 rfl rfl 20 (by decide) (hts (Cond.fieldLink RX10 43 "WorstVoiceModel" "keptTown" "I") (List.mem_of_getElem? (i := 11) rfl)) (fun _ h9 => h9) rfl (by decide +kernel) rfl rfl (Nat.le_of_ble_eq_true rfl) dX10_image_53 (fun H locs hP hD hS => ?_)
    have hP : va_P (dC, dI) vwCl [((b 0), .inr (10, [.ref (b 1), .int (pm), .ref (b 2), .int (r_s), .ref (b 3), .int (r_w), .int (st), .int (nI (n)), .int (nI (w)), .int (wk), .int (tr), .ref (b 4), .ref (b 5), .int (nd), .ref (b 6), .ref (b 7), .int (hd), .ref (b 8), .int (sd), .ref (b 9), .int (tr), .int (wk), .int (hd), .ref (b 10), .ref (b 11), .long (hz)])), ((b 4), .inl (cI, 32, .inl (fun ii => nI (R ii)))), ((b 8), .inl (cI, 32, .inl (fun ii => nI (E ii)))), ((b 10), .inl (cI, 32, .inl (fun ii => nI (R ii)))), ((b 11), .inl (cI, 32, .inl (fun ii => nI (E ii))))] H := hP
    have hD : va_D A [((b 0), .inr (10, [.ref (b 1), .int (pm), .ref (b 2), .int (r_s), .ref (b 3), .int (r_w), .int (st), .int (nI (n)), .int (nI (w)), .int (wk), .int (tr), .ref (b 4), .ref (b 5), .int (nd), .ref (b 6), .ref (b 7), .int (hd), .ref (b 8), .int (sd), .ref (b 9), .int (tr), .int (wk), .int (hd), .ref (b 10), .ref (b 11), .long (hz)])), ((b 4), .inl (cI, 32, .inl (fun ii => nI (R ii)))), ((b 8), .inl (cI, 32, .inl (fun ii => nI (E ii)))), ((b 10), .inl (cI, 32, .inl (fun ii => nI (R ii)))), ((b 11), .inl (cI, 32, .inl (fun ii => nI (E ii))))] := hD
    refine lv_aload_n hx hb dX10_image_56 rfl (lv_at hl 0 rfl) ?_
    refine va_get (D := (dC, dI)) (ci := 10) (v := .int (wk)) (C := RX10) (T := TX10) (N := 26) hx hb hts (fun _ h => List.mem_cons_of_mem _ (List.mem_append_right _ (h))) hown hK.1 hP 0 rfl rfl 9 (by decide) (hts (Cond.fieldLink RX10 91 "WorstVoiceModel" "weeks" "I") (List.mem_of_getElem? (i := 6) rfl)) (fun _ h9 => h9) rfl dX10_image_57 ?_
    exact W.iret hx hb hr (fun t ht hW => ⟨⟨_, (), rfl, rfl, by rw [ht]; exact hP, hD.as rfl⟩, hS.F ht⟩) hS.2.2 dX10_image_60
  · have c1 := (z_eq (by omega)).mp c1
    exfalso; omega

set_option maxHeartbeats 4000000 in
set_option maxRecDepth 100000 in
theorem c_M_restoreN (l : Launch) (dC : Nat → ClassId) (dI : Nat → Nat → Nat) (cI : ClassId) (b : Nat → Nat) (pm r_s r_w st : Int32) (n w : Nat) (wk tr nd hd sd kt kw kh : Int32) (hz : Int64) (hne : ¬ kt = tr) : Met l yX10_restore wsX10_restore ({ frames := 0, cells := 0, slots := 0, locals := 0 } : Room) (roP dC dI cI ([moW b pm r_s r_w st n w wk tr nd hd sd kt kw kh hz]) [.ref (b 0)]) (roI (fun r => r = -103)) 0 0 (fun _ => False) := by
  refine Met.ofW (cc := cX10_restore) (maxL := 1) (ret := (some .int)) (by decide) rfl ?_
  intro p e s m args below meth c s₁ B hml hv
  obtain ⟨rfl, hP, hK⟩ := hv
  have hx := B.exec
  have hb := B.bytes
  have hr := B.returns
  have hts := atoms_spec (ws := wsX10_restore) B.pre
  have hown : s.vm.findClass RX10 = some m.cls := findClass_of_methodNamed B.named
  have hlocks := B.notSynchronized
  have hS : va_S (fun _ => False) s.heap s.heap [] := va_S.rf
  have hl := lv_entry ([.ref (b 0)]) (n := 1) (Nat.le_of_ble_eq_true rfl)
  rw [lg_entry_eq]
  generalize (lg_sl ([.ref (b 0)]) ++ List.replicate (1 - (lg_sl ([.ref (b 0)])).length) Slot.unset).toArray = ls at hl ⊢
  have hl : lv_has ls 1 [(0, .ref (b 0))] := hl
  refine lv_aload_n hx hb dX10_restore_0 rfl (lv_at hl 0 rfl) ?_
  refine va_get (D := (dC, dI)) (ci := 10) (v := .int (kt)) (C := RX10) (T := TX10) (N := 26) hx hb hts (fun _ h => List.mem_cons_of_mem _ (List.mem_append_right _ (h))) hown hK.1 hP 0 rfl rfl 20 (by decide) (hts (Cond.fieldLink RX10 43 "WorstVoiceModel" "keptTown" "I") (List.mem_of_getElem? (i := 1) rfl)) (fun _ h9 => h9) rfl dX10_restore_1 ?_
  refine lv_aload_n hx hb dX10_restore_4 rfl (lv_at hl 0 rfl) ?_
  refine va_get (D := (dC, dI)) (ci := 10) (v := .int (tr)) (C := RX10) (T := TX10) (N := 26) hx hb hts (fun _ h => List.mem_cons_of_mem _ (List.mem_append_right _ (h))) hown hK.1 hP 0 rfl rfl 10 (by decide) (hts (Cond.fieldLink RX10 97 "WorstVoiceModel" "townsRead" "I") (List.mem_of_getElem? (i := 2) rfl)) (fun _ h9 => h9) rfl dX10_restore_5 ?_
  refine lv_icmp_eq (tgt := 14) hx hb dX10_restore_8 (by decide) (fun c1 => absurd c1 hne) (fun c1 => ?_)
  refine lv_bipush (v := -103) hx hb dX10_restore_11 (by decide) ?_
  exact W.iret hx hb hr (fun t ht hW => ⟨⟨_, (), rfl, rfl, trivial⟩, hS.F ht⟩) hS.2.2 dX10_restore_13

set_option maxHeartbeats 4000000 in
set_option maxRecDepth 100000 in
theorem c_M_restore (l : Launch) (dC : Nat → ClassId) (dI : Nat → Nat → Nat) (cI : ClassId) (sz : Nat) (b : Nat → Nat) (pm r_s r_w st : Int32) (n w : Nat) (wk tr nd hd sd kt kw kh : Int32) (hz : Int64) (R E KR KE : Nat → Nat) (heq : kt = tr) : Met l yX10_restore wsX10_restore ({ frames := 1, cells := 0, slots := 0, locals := 22 } : Room) (muP dC dI cI ([moW b pm r_s r_w st n w wk tr nd hd sd kt kw kh hz] ++ [(b 4, .inl (cI, 32, .inl (fun i => nI (R i))))] ++ [(b 8, .inl (cI, 32, .inl (fun i => nI (E i))))] ++ [(b 10, .inl (cI, 32, .inl (fun i => nI (KR i))))] ++ [(b 11, .inl (cI, 32, .inl (fun i => nI (KE i))))]) sz [.ref (b 0)]) (muI dC dI ([moW b pm r_s r_w st n w wk tr nd hd sd kt kw kh hz] ++ [(b 4, .inl (cI, 32, .inl (fun i => nI (R i))))] ++ [(b 8, .inl (cI, 32, .inl (fun i => nI (E i))))] ++ [(b 10, .inl (cI, 32, .inl (fun i => nI (KR i))))] ++ [(b 11, .inl (cI, 32, .inl (fun i => nI (KE i))))]) sz (fun (_ : Unit) => [moW b pm r_s r_w st n w kw tr nd kh sd kt kw kh hz] ++ [(b 4, .inl (cI, 32, .inl (fun i => nI (KR i))))] ++ [(b 8, .inl (cI, 32, .inl (fun i => nI (KE i))))] ++ [(b 10, .inl (cI, 32, .inl (fun i => nI (KR i))))] ++ [(b 11, .inl (cI, 32, .inl (fun i => nI (KE i))))]) (fun r _ => r = kw)) 0 0 (va_A ([moW b pm r_s r_w st n w wk tr nd hd sd kt kw kh hz] ++ [(b 4, .inl (cI, 32, .inl (fun i => nI (R i))))] ++ [(b 8, .inl (cI, 32, .inl (fun i => nI (E i))))] ++ [(b 10, .inl (cI, 32, .inl (fun i => nI (KR i))))] ++ [(b 11, .inl (cI, 32, .inl (fun i => nI (KE i))))]) sz) := by
  refine Met.ofW (cc := cX10_restore) (maxL := 1) (ret := (some .int)) (by decide) rfl ?_
  intro p e s m args below meth c s₁ B hml hv
  obtain ⟨rfl, hsz, hP, hK, hD0⟩ := hv
  have hx := B.exec
  have hb := B.bytes
  have hr := B.returns
  have hts := atoms_spec (ws := wsX10_restore) B.pre
  have hown : s.vm.findClass RX10 = some m.cls := findClass_of_methodNamed B.named
  have hlocks := B.notSynchronized
  subst hsz
  unfold muI muB
  have hD := hD0.self (sz := s.heap.size)
  generalize hAe : va_A ([moW b pm r_s r_w st n w wk tr nd hd sd kt kw kh hz] ++ [(b 4, .inl (cI, 32, .inl (fun i => nI (R i))))] ++ [(b 8, .inl (cI, 32, .inl (fun i => nI (E i))))] ++ [(b 10, .inl (cI, 32, .inl (fun i => nI (KR i))))] ++ [(b 11, .inl (cI, 32, .inl (fun i => nI (KE i))))]) s.heap.size = A at hD ⊢
  have hA : ∀ q : Nat, s.heap.size ≤ q → A q := fun q h => by rw [← hAe]; exact Or.inr h
  have hS : va_S A s.heap s.heap [] := va_S.rf
  have hl := lv_entry ([.ref (b 0)]) (n := 1) (Nat.le_of_ble_eq_true rfl)
  rw [lg_entry_eq]
  generalize (lg_sl ([.ref (b 0)]) ++ List.replicate (1 - (lg_sl ([.ref (b 0)])).length) Slot.unset).toArray = ls at hl ⊢
  have hl : lv_has ls 1 [(0, .ref (b 0))] := hl
  refine lv_aload_n hx hb dX10_restore_0 rfl (lv_at hl 0 rfl) ?_
  refine va_get (D := (dC, dI)) (ci := 10) (v := .int (kt)) (C := RX10) (T := TX10) (N := 26) hx hb hts (fun _ h => List.mem_cons_of_mem _ (List.mem_append_right _ (h))) hown hK.1 hP 0 rfl rfl 20 (by decide) (hts (Cond.fieldLink RX10 43 "WorstVoiceModel" "keptTown" "I") (List.mem_of_getElem? (i := 1) rfl)) (fun _ h9 => h9) rfl dX10_restore_1 ?_
  refine lv_aload_n hx hb dX10_restore_4 rfl (lv_at hl 0 rfl) ?_
  refine va_get (D := (dC, dI)) (ci := 10) (v := .int (tr)) (C := RX10) (T := TX10) (N := 26) hx hb hts (fun _ h => List.mem_cons_of_mem _ (List.mem_append_right _ (h))) hown hK.1 hP 0 rfl rfl 10 (by decide) (hts (Cond.fieldLink RX10 97 "WorstVoiceModel" "townsRead" "I") (List.mem_of_getElem? (i := 2) rfl)) (fun _ h9 => h9) rfl dX10_restore_5 ?_
  refine lv_icmp_eq (tgt := 14) hx hb dX10_restore_8 (by decide) (fun c1 => ?_) (fun c1 => absurd heq c1)
  refine lv_aload_n hx hb dX10_restore_14 rfl (lv_at hl 0 rfl) ?_
  refine va_get (D := (dC, dI)) (ci := 10) (v := .ref (b 10)) (C := RX10) (T := TX10) (N := 26) hx hb hts (fun _ h => List.mem_cons_of_mem _ (List.mem_append_right _ (h))) hown hK.1 hP 0 rfl rfl 23 (by decide) (hts (Cond.fieldLink RX10 37 "WorstVoiceModel" "keptRows" "[I") (List.mem_of_getElem? (i := 3) rfl)) (fun _ h9 => h9) rfl dX10_restore_15 ?_
  refine lv_aload_n hx hb dX10_restore_18 rfl (lv_at hl 0 rfl) ?_
  refine va_get (D := (dC, dI)) (ci := 10) (v := .ref (b 4)) (C := RX10) (T := TX10) (N := 26) hx hb hts (fun _ h => List.mem_cons_of_mem _ (List.mem_append_right _ (h))) hown hK.1 hP 0 rfl rfl 11 (by decide) (hts (Cond.fieldLink RX10 19 "WorstVoiceModel" "rows" "[I") (List.mem_of_getElem? (i := 4) rfl)) (fun _ h9 => h9) rfl dX10_restore_19 ?_
  refine mu_callv (wr := [((b 0), .inr (10, [.ref (b 1), .int (pm), .ref (b 2), .int (r_s), .ref (b 3), .int (r_w), .int (st), .int (nI (n)), .int (nI (w)), .int (wk), .int (tr), .ref (b 4), .ref (b 5), .int (nd), .ref (b 6), .ref (b 7), .int (hd), .ref (b 8), .int (sd), .ref (b 9), .int (kt), .int (kw), .int (kh), .ref (b 10), .ref (b 11), .long (hz)])), ((b 8), .inl (cI, 32, .inl (fun ii => nI (E ii)))), ((b 11), .inl (cI, 32, .inl (fun ii => nI (KE ii))))]) (wn := (fun _ => [((b 0), .inr (10, [.ref (b 1), .int (pm), .ref (b 2), .int (r_s), .ref (b 3), .int (r_w), .int (st), .int (nI (n)), .int (nI (w)), .int (wk), .int (tr), .ref (b 4), .ref (b 5), .int (nd), .ref (b 6), .ref (b 7), .int (hd), .ref (b 8), .int (sd), .ref (b 9), .int (kt), .int (kw), .int (kh), .ref (b 10), .ref (b 11), .long (hz)])), ((b 4), .inl (cI, 32, .inl (fun ii => nI (KR ii)))), ((b 8), .inl (cI, 32, .inl (fun ii => nI (E ii)))), ((b 10), .inl (cI, 32, .inl (fun ii => nI (KR ii)))), ((b 11), .inl (cI, 32, .inl (fun ii => nI (KE ii))))])) (va_runS (As := [.ref (b 10), .ref (b 4)]) (rest := []) ⟨hx, hb, hml, hown, hts⟩ (c_M_copy l dC dI cI _ (b 10) (b 4) 32 (fun ii => nI (KR ii)) (fun ii => nI (R ii)) (by decide)) (va_cwS 2 hts gX10_restore_X10_copy rfl rfl rfl (by decide +kernel) ⟨Nat.le_of_ble_eq_true rfl, Nat.le_of_ble_eq_true rfl⟩) (mu_ps hK hP hD [3, 1] (by decide) rfl rfl) rfl rfl hl.1 rfl (lv_room (Nat.le_of_ble_eq_true rfl)) dX10_restore_22 ⟨Nat.zero_le _, Nat.zero_le _⟩) hS hA hP hD [3, 1] [0, 2, 4] [0, 4, 1, 3, 2] rfl rfl (by decide) (by decide) (by decide) (fun _ => rfl) (fun _ => rfl) (fun u2 H locs hr3 hP hD hS => ?_)
  have hP : va_P (dC, dI) vwCl [((b 0), .inr (10, [.ref (b 1), .int (pm), .ref (b 2), .int (r_s), .ref (b 3), .int (r_w), .int (st), .int (nI (n)), .int (nI (w)), .int (wk), .int (tr), .ref (b 4), .ref (b 5), .int (nd), .ref (b 6), .ref (b 7), .int (hd), .ref (b 8), .int (sd), .ref (b 9), .int (kt), .int (kw), .int (kh), .ref (b 10), .ref (b 11), .long (hz)])), ((b 4), .inl (cI, 32, .inl (fun ii => nI (KR ii)))), ((b 8), .inl (cI, 32, .inl (fun ii => nI (E ii)))), ((b 10), .inl (cI, 32, .inl (fun ii => nI (KR ii)))), ((b 11), .inl (cI, 32, .inl (fun ii => nI (KE ii))))] H := hP
  have hD : va_D A [((b 0), .inr (10, [.ref (b 1), .int (pm), .ref (b 2), .int (r_s), .ref (b 3), .int (r_w), .int (st), .int (nI (n)), .int (nI (w)), .int (wk), .int (tr), .ref (b 4), .ref (b 5), .int (nd), .ref (b 6), .ref (b 7), .int (hd), .ref (b 8), .int (sd), .ref (b 9), .int (kt), .int (kw), .int (kh), .ref (b 10), .ref (b 11), .long (hz)])), ((b 4), .inl (cI, 32, .inl (fun ii => nI (KR ii)))), ((b 8), .inl (cI, 32, .inl (fun ii => nI (E ii)))), ((b 10), .inl (cI, 32, .inl (fun ii => nI (KR ii)))), ((b 11), .inl (cI, 32, .inl (fun ii => nI (KE ii))))] := hD
  refine lv_aload_n hx hb dX10_restore_25 rfl (lv_at hl 0 rfl) ?_
  refine va_get (D := (dC, dI)) (ci := 10) (v := .ref (b 11)) (C := RX10) (T := TX10) (N := 26) hx hb hts (fun _ h => List.mem_cons_of_mem _ (List.mem_append_right _ (h))) hown hK.1 hP 0 rfl rfl 24 (by decide) (hts (Cond.fieldLink RX10 40 "WorstVoiceModel" "keptHeards" "[I") (List.mem_of_getElem? (i := 5) rfl)) (fun _ h9 => h9) rfl dX10_restore_26 ?_
  refine lv_aload_n hx hb dX10_restore_29 rfl (lv_at hl 0 rfl) ?_
  refine va_get (D := (dC, dI)) (ci := 10) (v := .ref (b 8)) (C := RX10) (T := TX10) (N := 26) hx hb hts (fun _ h => List.mem_cons_of_mem _ (List.mem_append_right _ (h))) hown hK.1 hP 0 rfl rfl 17 (by decide) (hts (Cond.fieldLink RX10 31 "WorstVoiceModel" "heards" "[I") (List.mem_of_getElem? (i := 6) rfl)) (fun _ h9 => h9) rfl dX10_restore_30 ?_
  refine mu_callv (wr := [((b 0), .inr (10, [.ref (b 1), .int (pm), .ref (b 2), .int (r_s), .ref (b 3), .int (r_w), .int (st), .int (nI (n)), .int (nI (w)), .int (wk), .int (tr), .ref (b 4), .ref (b 5), .int (nd), .ref (b 6), .ref (b 7), .int (hd), .ref (b 8), .int (sd), .ref (b 9), .int (kt), .int (kw), .int (kh), .ref (b 10), .ref (b 11), .long (hz)])), ((b 4), .inl (cI, 32, .inl (fun ii => nI (KR ii)))), ((b 10), .inl (cI, 32, .inl (fun ii => nI (KR ii))))]) (wn := (fun _ => [((b 0), .inr (10, [.ref (b 1), .int (pm), .ref (b 2), .int (r_s), .ref (b 3), .int (r_w), .int (st), .int (nI (n)), .int (nI (w)), .int (wk), .int (tr), .ref (b 4), .ref (b 5), .int (nd), .ref (b 6), .ref (b 7), .int (hd), .ref (b 8), .int (sd), .ref (b 9), .int (kt), .int (kw), .int (kh), .ref (b 10), .ref (b 11), .long (hz)])), ((b 4), .inl (cI, 32, .inl (fun ii => nI (KR ii)))), ((b 8), .inl (cI, 32, .inl (fun ii => nI (KE ii)))), ((b 10), .inl (cI, 32, .inl (fun ii => nI (KR ii)))), ((b 11), .inl (cI, 32, .inl (fun ii => nI (KE ii))))])) (va_runS (As := [.ref (b 11), .ref (b 8)]) (rest := []) ⟨hx, hb, hml, hown, hts⟩ (c_M_copy l dC dI cI _ (b 11) (b 8) 32 (fun ii => nI (KE ii)) (fun ii => nI (E ii)) (by decide)) (va_cwS 2 hts gX10_restore_X10_copy rfl rfl rfl (by decide +kernel) ⟨Nat.le_of_ble_eq_true rfl, Nat.le_of_ble_eq_true rfl⟩) (mu_ps hK hP hD [4, 2] (by decide) rfl rfl) rfl rfl hl.1 rfl (lv_room (Nat.le_of_ble_eq_true rfl)) dX10_restore_33 ⟨Nat.zero_le _, Nat.zero_le _⟩) hS hA hP hD [4, 2] [0, 1, 3] [0, 1, 4, 2, 3] rfl rfl (by decide) (by decide) (by decide) (fun _ => rfl) (fun _ => rfl) (fun u4 H locs hr5 hP hD hS => ?_)
  have hP : va_P (dC, dI) vwCl [((b 0), .inr (10, [.ref (b 1), .int (pm), .ref (b 2), .int (r_s), .ref (b 3), .int (r_w), .int (st), .int (nI (n)), .int (nI (w)), .int (wk), .int (tr), .ref (b 4), .ref (b 5), .int (nd), .ref (b 6), .ref (b 7), .int (hd), .ref (b 8), .int (sd), .ref (b 9), .int (kt), .int (kw), .int (kh), .ref (b 10), .ref (b 11), .long (hz)])), ((b 4), .inl (cI, 32, .inl (fun ii => nI (KR ii)))), ((b 8), .inl (cI, 32, .inl (fun ii => nI (KE ii)))), ((b 10), .inl (cI, 32, .inl (fun ii => nI (KR ii)))), ((b 11), .inl (cI, 32, .inl (fun ii => nI (KE ii))))] H := hP
  have hD : va_D A [((b 0), .inr (10, [.ref (b 1), .int (pm), .ref (b 2), .int (r_s), .ref (b 3), .int (r_w), .int (st), .int (nI (n)), .int (nI (w)), .int (wk), .int (tr), .ref (b 4), .ref (b 5), .int (nd), .ref (b 6), .ref (b 7), .int (hd), .ref (b 8), .int (sd), .ref (b 9), .int (kt), .int (kw), .int (kh), .ref (b 10), .ref (b 11), .long (hz)])), ((b 4), .inl (cI, 32, .inl (fun ii => nI (KR ii)))), ((b 8), .inl (cI, 32, .inl (fun ii => nI (KE ii)))), ((b 10), .inl (cI, 32, .inl (fun ii => nI (KR ii)))), ((b 11), .inl (cI, 32, .inl (fun ii => nI (KE ii))))] := hD
  refine lv_aload_n hx hb dX10_restore_36 rfl (lv_at hl 0 rfl) ?_
  refine lv_aload_n hx hb dX10_restore_37 rfl (lv_at hl 0 rfl) ?_
  refine va_get (D := (dC, dI)) (ci := 10) (v := .int (kw)) (C := RX10) (T := TX10) (N := 26) hx hb hts (fun _ h => List.mem_cons_of_mem _ (List.mem_append_right _ (h))) hown hK.1 hP 0 rfl rfl 21 (by decide) (hts (Cond.fieldLink RX10 178 "WorstVoiceModel" "keptWeeks" "I") (List.mem_of_getElem? (i := 7) rfl)) (fun _ h9 => h9) rfl dX10_restore_38 ?_
  refine va_put (D := (dC, dI)) (ci := 10) (v := .int (kw)) (ty := .int) (C := RX10) (T := TX10) (N := 26) hx hb hts (fun _ h => List.mem_cons_of_mem _ (List.mem_append_right _ (h))) tyX10 tyX10_ok nmX10 hown hK.1 hP hD hS 0 rfl rfl 9 (by decide) (hts (Cond.fieldLink RX10 91 "WorstVoiceModel" "weeks" "I") (List.mem_of_getElem? (i := 8) rfl)) (fun _ h9 => h9) rfl (by decide +kernel) rfl rfl (Nat.le_of_ble_eq_true rfl) dX10_restore_41 (fun H locs hP hD hS => ?_)
  have hP : va_P (dC, dI) vwCl [((b 0), .inr (10, [.ref (b 1), .int (pm), .ref (b 2), .int (r_s), .ref (b 3), .int (r_w), .int (st), .int (nI (n)), .int (nI (w)), .int (kw), .int (tr), .ref (b 4), .ref (b 5), .int (nd), .ref (b 6), .ref (b 7), .int (hd), .ref (b 8), .int (sd), .ref (b 9), .int (kt), .int (kw), .int (kh), .ref (b 10), .ref (b 11), .long (hz)])), ((b 4), .inl (cI, 32, .inl (fun ii => nI (KR ii)))), ((b 8), .inl (cI, 32, .inl (fun ii => nI (KE ii)))), ((b 10), .inl (cI, 32, .inl (fun ii => nI (KR ii)))), ((b 11), .inl (cI, 32, .inl (fun ii => nI (KE ii))))] H := hP
  have hD : va_D A [((b 0), .inr (10, [.ref (b 1), .int (pm), .ref (b 2), .int (r_s), .ref (b 3), .int (r_w), .int (st), .int (nI (n)), .int (nI (w)), .int (kw), .int (tr), .ref (b 4), .ref (b 5), .int (nd), .ref (b 6), .ref (b 7), .int (hd), .ref (b 8), .int (sd), .ref (b 9), .int (kt), .int (kw), .int (kh), .ref (b 10), .ref (b 11), .long (hz)])), ((b 4), .inl (cI, 32, .inl (fun ii => nI (KR ii)))), ((b 8), .inl (cI, 32, .inl (fun ii => nI (KE ii)))), ((b 10), .inl (cI, 32, .inl (fun ii => nI (KR ii)))), ((b 11), .inl (cI, 32, .inl (fun ii => nI (KE ii))))] := hD
  refine lv_aload_n hx hb dX10_restore_44 rfl (lv_at hl 0 rfl) ?_
  refine lv_aload_n hx hb dX10_restore_45 rfl (lv_at hl 0 rfl) ?_
  refine va_get (D := (dC, dI)) (ci := 10) (v := .int (kh)) (C := RX10) (T := TX10) (N := 26) hx hb hts (fun _ h => List.mem_cons_of_mem _ (List.mem_append_right _ (h))) hown hK.1 hP 0 rfl rfl 22 (by decide) (hts (Cond.fieldLink RX10 181 "WorstVoiceModel" "keptHeard" "I") (List.mem_of_getElem? (i := 9) rfl)) (fun _ h9 => h9) rfl dX10_restore_46 ?_
  refine va_put (D := (dC, dI)) (ci := 10) (v := .int (kh)) (ty := .int) (C := RX10) (T := TX10) (N := 26) hx hb hts (fun _ h => List.mem_cons_of_mem _ (List.mem_append_right _ (h))) tyX10 tyX10_ok nmX10 hown hK.1 hP hD hS 0 rfl rfl 16 (by decide) (hts (Cond.fieldLink RX10 94 "WorstVoiceModel" "heardMany" "I") (List.mem_of_getElem? (i := 10) rfl)) (fun _ h9 => h9) rfl (by decide +kernel) rfl rfl (Nat.le_of_ble_eq_true rfl) dX10_restore_49 (fun H locs hP hD hS => ?_)
  have hP : va_P (dC, dI) vwCl [((b 0), .inr (10, [.ref (b 1), .int (pm), .ref (b 2), .int (r_s), .ref (b 3), .int (r_w), .int (st), .int (nI (n)), .int (nI (w)), .int (kw), .int (tr), .ref (b 4), .ref (b 5), .int (nd), .ref (b 6), .ref (b 7), .int (kh), .ref (b 8), .int (sd), .ref (b 9), .int (kt), .int (kw), .int (kh), .ref (b 10), .ref (b 11), .long (hz)])), ((b 4), .inl (cI, 32, .inl (fun ii => nI (KR ii)))), ((b 8), .inl (cI, 32, .inl (fun ii => nI (KE ii)))), ((b 10), .inl (cI, 32, .inl (fun ii => nI (KR ii)))), ((b 11), .inl (cI, 32, .inl (fun ii => nI (KE ii))))] H := hP
  have hD : va_D A [((b 0), .inr (10, [.ref (b 1), .int (pm), .ref (b 2), .int (r_s), .ref (b 3), .int (r_w), .int (st), .int (nI (n)), .int (nI (w)), .int (kw), .int (tr), .ref (b 4), .ref (b 5), .int (nd), .ref (b 6), .ref (b 7), .int (kh), .ref (b 8), .int (sd), .ref (b 9), .int (kt), .int (kw), .int (kh), .ref (b 10), .ref (b 11), .long (hz)])), ((b 4), .inl (cI, 32, .inl (fun ii => nI (KR ii)))), ((b 8), .inl (cI, 32, .inl (fun ii => nI (KE ii)))), ((b 10), .inl (cI, 32, .inl (fun ii => nI (KR ii)))), ((b 11), .inl (cI, 32, .inl (fun ii => nI (KE ii))))] := hD
  refine lv_aload_n hx hb dX10_restore_52 rfl (lv_at hl 0 rfl) ?_
  refine va_get (D := (dC, dI)) (ci := 10) (v := .int (kw)) (C := RX10) (T := TX10) (N := 26) hx hb hts (fun _ h => List.mem_cons_of_mem _ (List.mem_append_right _ (h))) hown hK.1 hP 0 rfl rfl 9 (by decide) (hts (Cond.fieldLink RX10 91 "WorstVoiceModel" "weeks" "I") (List.mem_of_getElem? (i := 8) rfl)) (fun _ h9 => h9) rfl dX10_restore_53 ?_
  exact W.iret hx hb hr (fun t ht hW => ⟨⟨_, (), rfl, rfl, by rw [ht]; exact hP, hD.as rfl⟩, hS.F ht⟩) hS.2.2 dX10_restore_56

set_option maxHeartbeats 4000000 in
set_option maxRecDepth 100000 in
theorem c_M_draw (l : Launch) (dC : Nat → ClassId) (dI : Nat → Nat → Nat) (cI : ClassId) (sz : Nat) (b : Nat → Nat) (pm : Int32) (r_s : Int32) (r_w : Int32) (st : Int32) (n : Nat) (w : Nat) (wk : Int32) (tr : Int32) (nd : Int32) (hd : Int32) (x_ : Nat) (kt : Int32) (kw : Int32) (kh : Int32) (hz : Int64) (k_ : Nat) (hx_ : x_ < 2147483648) (hk_ : 1 ≤ k_) (hk4 : k_ ≤ 4) : Met l yX10_draw wsX10_draw ({ frames := 0, cells := 0, slots := 0, locals := 0 } : Room) (muP dC dI cI ([moW b pm r_s r_w st n w wk tr nd hd (nI x_) kt kw kh hz]) sz [.ref (b 0), .int (nI (k_))]) (muI dC dI ([moW b pm r_s r_w st n w wk tr nd hd (nI x_) kt kw kh hz]) sz (fun (_ : Unit) => [moW b pm r_s r_w st n w wk tr nd hd (nI (nS x_)) kt kw kh hz]) (fun r _ => r = nI (nS x_ / 65536 % k_))) 0 0 (va_A ([moW b pm r_s r_w st n w wk tr nd hd (nI x_) kt kw kh hz]) sz) := by
  refine Met.ofW (cc := cX10_draw) (maxL := 2) (ret := (some .int)) (by decide) rfl ?_
  intro p e s m args below meth c s₁ B hml hv
  obtain ⟨rfl, hsz, hP, hK, hD0⟩ := hv
  have hx := B.exec
  have hb := B.bytes
  have hr := B.returns
  have hts := atoms_spec (ws := wsX10_draw) B.pre
  have hown : s.vm.findClass RX10 = some m.cls := findClass_of_methodNamed B.named
  have hlocks := B.notSynchronized
  subst hsz
  unfold muI muB
  have hD := hD0.self (sz := s.heap.size)
  generalize hAe : va_A ([moW b pm r_s r_w st n w wk tr nd hd (nI x_) kt kw kh hz]) s.heap.size = A at hD ⊢
  have hA : ∀ q : Nat, s.heap.size ≤ q → A q := fun q h => by rw [← hAe]; exact Or.inr h
  have hS : va_S A s.heap s.heap [] := va_S.rf
  have hl := lv_entry ([.ref (b 0), .int (nI (k_))]) (n := 2) (Nat.le_of_ble_eq_true rfl)
  rw [lg_entry_eq]
  generalize (lg_sl ([.ref (b 0), .int (nI (k_))]) ++ List.replicate (2 - (lg_sl ([.ref (b 0), .int (nI (k_))])).length) Slot.unset).toArray = ls at hl ⊢
  have hl : lv_has ls 2 [(0, .ref (b 0)), (1, .int (nI (k_)))] := hl
  have hns := nS_lt x_
  refine lv_aload_n hx hb dX10_draw_0 rfl (lv_at hl 0 rfl) ?_
  refine lv_ldc2 (v := 1103515245) hx hb hown (hts (Cond.constantLong RX10 161 (1103515245)) (List.mem_of_getElem? (i := 1) rfl)) dX10_draw_1 ?_
  refine lv_aload_n hx hb dX10_draw_4 rfl (lv_at hl 0 rfl) ?_
  refine va_get (D := (dC, dI)) (ci := 10) (v := .int (nI (x_))) (C := RX10) (T := TX10) (N := 26) hx hb hts (fun _ h => List.mem_cons_of_mem _ (List.mem_append_right _ (h))) hown hK.1 hP 0 rfl rfl 18 (by decide) (hts (Cond.fieldLink RX10 163 "WorstVoiceModel" "seedNow" "I") (List.mem_of_getElem? (i := 2) rfl)) (fun _ h9 => h9) rfl dX10_draw_5 ?_
  refine lv_i2l (v := (nI (x_)).toInt64) hx hb dX10_draw_8 rfl ?_
  refine lv_lmul hx hb dX10_draw_9 ?_
  refine lv_ldc2 (v := 12345) hx hb hown (hts (Cond.constantLong RX10 166 (12345)) (List.mem_of_getElem? (i := 3) rfl)) dX10_draw_10 ?_
  refine lv_ladd hx hb dX10_draw_13 ?_
  refine lv_ldc2 (v := 2147483647) hx hb hown (hts (Cond.constantLong RX10 168 (2147483647)) (List.mem_of_getElem? (i := 4) rfl)) dX10_draw_14 ?_
  refine lv_land hx hb dX10_draw_17 ?_
  refine lv_l2i (v := (((1103515245 * ((nI (x_)).toInt64)) + 12345) &&& 2147483647).toInt32) hx hb dX10_draw_18 rfl ?_
  refine tp_i (z := nI (nS x_)) (seed_I hx_) ?_
  refine va_put (D := (dC, dI)) (ci := 10) (v := .int (nI (nS x_))) (ty := .int) (C := RX10) (T := TX10) (N := 26) hx hb hts (fun _ h => List.mem_cons_of_mem _ (List.mem_append_right _ (h))) tyX10 tyX10_ok nmX10 hown hK.1 hP hD hS 0 rfl rfl 18 (by decide) (hts (Cond.fieldLink RX10 163 "WorstVoiceModel" "seedNow" "I") (List.mem_of_getElem? (i := 2) rfl)) (fun _ h9 => h9) rfl (by decide +kernel) rfl rfl (Nat.le_of_ble_eq_true rfl) dX10_draw_19 (fun H locs hP hD hS => ?_)
  have hP : va_P (dC, dI) vwCl [((b 0), .inr (10, [.ref (b 1), .int (pm), .ref (b 2), .int (r_s), .ref (b 3), .int (r_w), .int (st), .int (nI (n)), .int (nI (w)), .int (wk), .int (tr), .ref (b 4), .ref (b 5), .int (nd), .ref (b 6), .ref (b 7), .int (hd), .ref (b 8), .int (nI (nS x_)), .ref (b 9), .int (kt), .int (kw), .int (kh), .ref (b 10), .ref (b 11), .long (hz)]))] H := hP
  have hD : va_D A [((b 0), .inr (10, [.ref (b 1), .int (pm), .ref (b 2), .int (r_s), .ref (b 3), .int (r_w), .int (st), .int (nI (n)), .int (nI (w)), .int (wk), .int (tr), .ref (b 4), .ref (b 5), .int (nd), .ref (b 6), .ref (b 7), .int (hd), .ref (b 8), .int (nI (nS x_)), .ref (b 9), .int (kt), .int (kw), .int (kh), .ref (b 10), .ref (b 11), .long (hz)]))] := hD
  refine lv_aload_n hx hb dX10_draw_22 rfl (lv_at hl 0 rfl) ?_
  refine va_get (D := (dC, dI)) (ci := 10) (v := .int (nI (nS x_))) (C := RX10) (T := TX10) (N := 26) hx hb hts (fun _ h => List.mem_cons_of_mem _ (List.mem_append_right _ (h))) hown hK.1 hP 0 rfl rfl 18 (by decide) (hts (Cond.fieldLink RX10 163 "WorstVoiceModel" "seedNow" "I") (List.mem_of_getElem? (i := 2) rfl)) (fun _ h9 => h9) rfl dX10_draw_23 ?_
  refine lv_ldc (v := 65536) hx hb hown (hts (Cond.constant RX10 170 (65536)) (List.mem_of_getElem? (i := 5) rfl)) dX10_draw_26 ?_
  refine tp_i (z := nI 65536) (by decide) ?_
  refine lv_idiv hx hb dX10_draw_28 (by decide) ?_
  refine tp_i (z := nI ((nS x_) / 65536)) (pk_div (by omega) (by decide) (by decide)) ?_
  refine lv_iload_n hx hb dX10_draw_29 rfl (lv_at hl 1 rfl) ?_
  refine lv_irem hx hb dX10_draw_30 (nI_ne0 (by omega) (by omega)) ?_
  refine tp_i (z := nI (((nS x_) / 65536) % k_)) (pk_rem (by omega) (by omega) (by omega)) ?_
  exact W.iret hx hb hr (fun t ht hW => ⟨⟨_, (), rfl, rfl, by rw [ht]; exact hP, hD.as rfl⟩, hS.F ht⟩) hS.2.2 dX10_draw_31

set_option maxHeartbeats 4000000 in
set_option maxRecDepth 100000 in
theorem c_M_yearsO (l : Launch) (dC : Nat → ClassId) (dI : Nat → Nat → Nat) (cI : ClassId) (b : Nat → Nat) (pm r_s r_w st : Int32) (n w : Nat) (wk tr nd hd sd kt kw kh : Int32) (hz : Int64) (x y z : Int32) (hno : ¬ ((1 ≤ x.toInt ∧ x.toInt ≤ 60) ∧ 0 ≤ y.toInt ∧ inR z 3)) : Met l yX10_years wsX10_years ({ frames := 1, cells := 0, slots := 0, locals := 25 } : Room) (roP dC dI cI ([moW b pm r_s r_w st n w wk tr nd hd sd kt kw kh hz]) [.ref (b 0), .int (x), .int (y), .int (z)]) (roI (fun r => r = -102)) 0 0 (fun _ => False) := by
  refine Met.ofW (cc := cX10_years) (maxL := 9) (ret := (some .int)) (by decide) rfl ?_
  intro p e s m args below meth c s₁ B hml hv
  obtain ⟨rfl, hP, hK⟩ := hv
  have hx := B.exec
  have hb := B.bytes
  have hr := B.returns
  have hts := atoms_spec (ws := wsX10_years) B.pre
  have hown : s.vm.findClass RX10 = some m.cls := findClass_of_methodNamed B.named
  have hlocks := B.notSynchronized
  have hS : va_S (fun _ => False) s.heap s.heap [] := va_S.rf
  have hl := lv_entry ([.ref (b 0), .int (x), .int (y), .int (z)]) (n := 9) (Nat.le_of_ble_eq_true rfl)
  rw [lg_entry_eq]
  generalize (lg_sl ([.ref (b 0), .int (x), .int (y), .int (z)]) ++ List.replicate (9 - (lg_sl ([.ref (b 0), .int (x), .int (y), .int (z)])).length) Slot.unset).toArray = ls at hl ⊢
  have hl : lv_has ls 9 [(0, .ref (b 0)), (1, .int (x)), (2, .int (y)), (3, .int (z))] := hl
  refine lv_iload_n hx hb dX10_years_0 rfl (lv_at hl 1 rfl) ?_
  refine lv_i2l (v := (x).toInt64) hx hb dX10_years_1 rfl ?_
  refine lv_lconst (v := (nI 1).toInt64) hx hb dX10_years_2 (by decide) ?_
  refine lv_ldc2 (v := 60) hx hb hown (hts (Cond.constantLong RX10 171 (60)) (List.mem_of_getElem? (i := 1) rfl)) dX10_years_3 ?_
  refine tp_l (z := (nI 60).toInt64) (by decide) ?_
  refine ro_calli (va_runS (As := [.long ((x).toInt64), .long ((nI 1).toInt64), .long ((nI 60).toInt64)]) (rest := []) ⟨hx, hb, hml, hown, hts⟩ (c_X10_in l dC dI cI (x) (nI 1) (nI 60)) (va_cwS 3 hts gX10_years_X10_in rfl rfl rfl (by decide +kernel) ⟨Nat.le_of_ble_eq_true rfl, Nat.le_of_ble_eq_true rfl⟩) (ro_ps hK hP [] rfl) rfl rfl hl.1 rfl (lv_room (Nat.le_of_ble_eq_true rfl)) dX10_years_6 ⟨Nat.zero_le _, Nat.zero_le _⟩) hS hP (fun r1 H locs hr1 hP hS => ?_)
  subst hr1
  have e2 : bI ((nI 1).toInt ≤ (x).toInt ∧ (x).toInt ≤ (nI 60).toInt) = bI ((1 : Int) ≤ (x).toInt ∧ (x).toInt ≤ (60 : Int)) := bI_i (by rw [nI_toInt (n := 1) (by decide), nI_toInt (n := 60) (by decide)] <;> omega)
  refine tp_i (z := bI ((1 : Int) ≤ (x).toInt ∧ (x).toInt ≤ (60 : Int))) e2 ?_
  refine lv_if_eq (tgt := 28) hx hb dX10_years_9 (by decide) (fun c3 => ?_) (fun c3 => ?_)
  · have c3 := bI_0.mp c3
    refine lv_bipush (v := -102) hx hb dX10_years_28 (by decide) ?_
    exact W.iret hx hb hr (fun t ht hW => ⟨⟨_, (), rfl, rfl, trivial⟩, hS.F ht⟩) hS.2.2 dX10_years_30
  · have c3 := Decidable.not_not.mp (mt bI_0.mpr c3)
    refine lv_iload_n hx hb dX10_years_12 rfl (lv_at hl 2 rfl) ?_
    refine lv_if_lt (tgt := 28) hx hb dX10_years_13 (by decide) (fun c4 => ?_) (fun c4 => ?_)
    · have c4 := r0_lt.mp c4
      refine lv_bipush (v := -102) hx hb dX10_years_28 (by decide) ?_
      exact W.iret hx hb hr (fun t ht hW => ⟨⟨_, (), rfl, rfl, trivial⟩, hS.F ht⟩) hS.2.2 dX10_years_30
    · have c4 := mt r0_lt.mpr c4
      refine lv_iload_n hx hb dX10_years_16 rfl (lv_at hl 3 rfl) ?_
      refine lv_i2l (v := (z).toInt64) hx hb dX10_years_17 rfl ?_
      refine lv_lconst (v := (nI 0).toInt64) hx hb dX10_years_18 (by decide) ?_
      refine lv_ldc2 (v := 2) hx hb hown (hts (Cond.constantLong RX10 173 (2)) (List.mem_of_getElem? (i := 2) rfl)) dX10_years_19 ?_
      refine tp_l (z := (nI 2).toInt64) (by decide) ?_
      refine ro_calli (va_runS (As := [.long ((z).toInt64), .long ((nI 0).toInt64), .long ((nI 2).toInt64)]) (rest := []) ⟨hx, hb, hml, hown, hts⟩ (c_X10_in l dC dI cI (z) (nI 0) (nI 2)) (va_cwS 3 hts gX10_years_X10_in rfl rfl rfl (by decide +kernel) ⟨Nat.le_of_ble_eq_true rfl, Nat.le_of_ble_eq_true rfl⟩) (ro_ps hK hP [] rfl) rfl rfl hl.1 rfl (lv_room (Nat.le_of_ble_eq_true rfl)) dX10_years_22 ⟨Nat.zero_le _, Nat.zero_le _⟩) hS hP (fun r5 H locs hr5 hP hS => ?_)
      subst hr5
      have e6 : bI ((nI 0).toInt ≤ (z).toInt ∧ (z).toInt ≤ (nI 2).toInt) = bI ((0 : Int) ≤ (z).toInt ∧ (z).toInt ≤ (2 : Int)) := bI_i (by rw [nI_toInt (n := 0) (by decide), nI_toInt (n := 2) (by decide)] <;> omega)
      refine tp_i (z := bI ((0 : Int) ≤ (z).toInt ∧ (z).toInt ≤ (2 : Int))) e6 ?_
      refine lv_if_ne (tgt := 31) hx hb dX10_years_25 (by decide) (fun c7 => ?_) (fun c7 => ?_)
      · have c7 := Decidable.not_not.mp (mt bI_0.mpr c7)
        exfalso; omega
      have c7 := bI_0.mp c7
      refine lv_bipush (v := -102) hx hb dX10_years_28 (by decide) ?_
      exact W.iret hx hb hr (fun t ht hW => ⟨⟨_, (), rfl, rfl, trivial⟩, hS.F ht⟩) hS.2.2 dX10_years_30

set_option maxHeartbeats 4000000 in
set_option maxRecDepth 100000 in
theorem c_M_yearsE (l : Launch) (dC : Nat → ClassId) (dI : Nat → Nat → Nat) (cI : ClassId) (b : Nat → Nat) (pm r_s r_w st : Int32) (n w : Nat) (wk tr nd hd sd kt kw kh : Int32) (hz : Int64) (t_ x_ z_ : Nat) (ht1 : 1 ≤ t_) (ht2 : t_ ≤ 60) (hx_ : x_ < 2147483648) (hz_ : z_ < 3) (hn0 : n = 0) : Met l yX10_years wsX10_years ({ frames := 1, cells := 0, slots := 0, locals := 25 } : Room) (roP dC dI cI ([moW b pm r_s r_w st n w wk tr nd hd sd kt kw kh hz]) [.ref (b 0), .int (nI (t_)), .int (nI (x_)), .int (nI (z_))]) (roI (fun r => r = -103)) 0 0 (fun _ => False) := by
  refine Met.ofW (cc := cX10_years) (maxL := 9) (ret := (some .int)) (by decide) rfl ?_
  intro p e s m args below meth c s₁ B hml hv
  obtain ⟨rfl, hP, hK⟩ := hv
  have hx := B.exec
  have hb := B.bytes
  have hr := B.returns
  have hts := atoms_spec (ws := wsX10_years) B.pre
  have hown : s.vm.findClass RX10 = some m.cls := findClass_of_methodNamed B.named
  have hlocks := B.notSynchronized
  have hS : va_S (fun _ => False) s.heap s.heap [] := va_S.rf
  have hl := lv_entry ([.ref (b 0), .int (nI (t_)), .int (nI (x_)), .int (nI (z_))]) (n := 9) (Nat.le_of_ble_eq_true rfl)
  rw [lg_entry_eq]
  generalize (lg_sl ([.ref (b 0), .int (nI (t_)), .int (nI (x_)), .int (nI (z_))]) ++ List.replicate (9 - (lg_sl ([.ref (b 0), .int (nI (t_)), .int (nI (x_)), .int (nI (z_))])).length) Slot.unset).toArray = ls at hl ⊢
  have hl : lv_has ls 9 [(0, .ref (b 0)), (1, .int (nI (t_))), (2, .int (nI (x_))), (3, .int (nI (z_)))] := hl
  refine lv_iload_n hx hb dX10_years_0 rfl (lv_at hl 1 rfl) ?_
  refine lv_i2l (v := (nI (t_)).toInt64) hx hb dX10_years_1 rfl ?_
  refine lv_lconst (v := (nI 1).toInt64) hx hb dX10_years_2 (by decide) ?_
  refine lv_ldc2 (v := 60) hx hb hown (hts (Cond.constantLong RX10 171 (60)) (List.mem_of_getElem? (i := 1) rfl)) dX10_years_3 ?_
  refine tp_l (z := (nI 60).toInt64) (by decide) ?_
  refine ro_calli (va_runS (As := [.long ((nI (t_)).toInt64), .long ((nI 1).toInt64), .long ((nI 60).toInt64)]) (rest := []) ⟨hx, hb, hml, hown, hts⟩ (c_X10_in l dC dI cI (nI (t_)) (nI 1) (nI 60)) (va_cwS 3 hts gX10_years_X10_in rfl rfl rfl (by decide +kernel) ⟨Nat.le_of_ble_eq_true rfl, Nat.le_of_ble_eq_true rfl⟩) (ro_ps hK hP [] rfl) rfl rfl hl.1 rfl (lv_room (Nat.le_of_ble_eq_true rfl)) dX10_years_6 ⟨Nat.zero_le _, Nat.zero_le _⟩) hS hP (fun r1 H locs hr1 hP hS => ?_)
  subst hr1
  have e2 : bI ((nI 1).toInt ≤ (nI (t_)).toInt ∧ (nI (t_)).toInt ≤ (nI 60).toInt) = bI ((1 : Int) ≤ (t_ : Int) ∧ (t_ : Int) ≤ (60 : Int)) := bI_i (by rw [nI_toInt (n := t_) (by omega), nI_toInt (n := 1) (by decide), nI_toInt (n := 60) (by decide)] <;> omega)
  refine tp_i (z := bI ((1 : Int) ≤ (t_ : Int) ∧ (t_ : Int) ≤ (60 : Int))) e2 ?_
  refine lv_if_eq (tgt := 28) hx hb dX10_years_9 (by decide) (fun c3 => ?_) (fun c3 => ?_)
  · have c3 := bI_0.mp c3
    exfalso; omega
  have c3 := Decidable.not_not.mp (mt bI_0.mpr c3)
  refine lv_iload_n hx hb dX10_years_12 rfl (lv_at hl 2 rfl) ?_
  refine lv_if_lt (tgt := 28) hx hb dX10_years_13 (by decide) (fun c4 => absurd c4 (z_lt (by omega))) (fun c4 => ?_)
  refine lv_iload_n hx hb dX10_years_16 rfl (lv_at hl 3 rfl) ?_
  refine lv_i2l (v := (nI (z_)).toInt64) hx hb dX10_years_17 rfl ?_
  refine lv_lconst (v := (nI 0).toInt64) hx hb dX10_years_18 (by decide) ?_
  refine lv_ldc2 (v := 2) hx hb hown (hts (Cond.constantLong RX10 173 (2)) (List.mem_of_getElem? (i := 2) rfl)) dX10_years_19 ?_
  refine tp_l (z := (nI 2).toInt64) (by decide) ?_
  refine ro_calli (va_runS (As := [.long ((nI (z_)).toInt64), .long ((nI 0).toInt64), .long ((nI 2).toInt64)]) (rest := []) ⟨hx, hb, hml, hown, hts⟩ (c_X10_in l dC dI cI (nI (z_)) (nI 0) (nI 2)) (va_cwS 3 hts gX10_years_X10_in rfl rfl rfl (by decide +kernel) ⟨Nat.le_of_ble_eq_true rfl, Nat.le_of_ble_eq_true rfl⟩) (ro_ps hK hP [] rfl) rfl rfl hl.1 rfl (lv_room (Nat.le_of_ble_eq_true rfl)) dX10_years_22 ⟨Nat.zero_le _, Nat.zero_le _⟩) hS hP (fun r5 H locs hr5 hP hS => ?_)
  subst hr5
  have e6 : bI ((nI 0).toInt ≤ (nI (z_)).toInt ∧ (nI (z_)).toInt ≤ (nI 2).toInt) = bI ((0 : Int) ≤ (z_ : Int) ∧ (z_ : Int) ≤ (2 : Int)) := bI_i (by rw [nI_toInt (n := z_) (by omega), nI_toInt (n := 0) (by decide), nI_toInt (n := 2) (by decide)] <;> omega)
  refine tp_i (z := bI ((0 : Int) ≤ (z_ : Int) ∧ (z_ : Int) ≤ (2 : Int))) e6 ?_
  refine lv_if_ne (tgt := 31) hx hb dX10_years_25 (by decide) (fun c7 => ?_) (fun c7 => ?_)
  · have c7 := Decidable.not_not.mp (mt bI_0.mpr c7)
    refine lv_aload_n hx hb dX10_years_31 rfl (lv_at hl 0 rfl) ?_
    refine va_get (D := (dC, dI)) (ci := 10) (v := .int (nI (n))) (C := RX10) (T := TX10) (N := 26) hx hb hts (fun _ h => List.mem_cons_of_mem _ (List.mem_append_right _ (h))) hown hK.1 hP 0 rfl rfl 7 (by decide) (hts (Cond.fieldLink RX10 81 "WorstVoiceModel" "singers" "I") (List.mem_of_getElem? (i := 3) rfl)) (fun _ h9 => h9) rfl dX10_years_32 ?_
    refine lv_if_ne (tgt := 41) hx hb dX10_years_35 (by decide) (fun c8 => absurd (by rw [hn0]; rfl) c8) (fun c8 => ?_)
    refine lv_bipush (v := -103) hx hb dX10_years_38 (by decide) ?_
    exact W.iret hx hb hr (fun t ht hW => ⟨⟨_, (), rfl, rfl, trivial⟩, hS.F ht⟩) hS.2.2 dX10_years_40
  · have c7 := bI_0.mp c7
    exfalso; omega

set_option maxHeartbeats 4000000 in
set_option maxRecDepth 100000 in
theorem c_M_years (l : Launch) (dC : Nat → ClassId) (dI : Nat → Nat → Nat) (cI : ClassId) (sz : Nat) (b : Nat → Nat) (pm r_s r_w st : Int32) (n w : Nat) (wk tr nd hd sd kt kw kh : Int32) (hz : Int64) (R mi : Nat → Nat) (mm : Nat → Int32) (hm : ∀ k, k < w → mm k = nI (mi k)) (hm4 : ∀ k, k < w → mi k < 4) (hR : WR R) (hn : n ≤ 4) (hn1 : 1 ≤ n) (hw : w ≤ 5) (SV : Nat → Nat) (t_ x_ z_ : Nat) (ht1 : 1 ≤ t_) (ht2 : t_ ≤ 60) (hx_ : x_ < 2147483648) (hz_ : z_ < 3) : Met l yX10_years wsX10_years ({ frames := 4, cells := 0, slots := 0, locals := 92 } : Room) (muP dC dI cI ([moW b pm r_s r_w st n w wk tr nd hd sd kt kw kh hz] ++ [(b 4, .inl (cI, 32, .inl (fun i => nI (R i))))] ++ [(b 5, .inl (cI, 5, .inl mm))] ++ [(b 9, .inl (cI, 32, .inl (fun i => nI (SV i))))]) sz [.ref (b 0), .int (nI (t_)), .int (nI (x_)), .int (nI (z_))]) (muI dC dI ([moW b pm r_s r_w st n w wk tr nd hd sd kt kw kh hz] ++ [(b 4, .inl (cI, 32, .inl (fun i => nI (R i))))] ++ [(b 5, .inl (cI, 5, .inl mm))] ++ [(b 9, .inl (cI, 32, .inl (fun i => nI (SV i))))]) sz (fun (_ : Unit) => [moW b pm r_s r_w st n w wk tr nd hd (nI (yR R mi n w x_ t_).2.1) kt kw kh hz] ++ [(b 4, .inl (cI, 32, .inl (fun i => nI (R i))))] ++ [(b 5, .inl (cI, 5, .inl mm))] ++ [(b 9, .inl (cI, 32, .inl (fun i => nI (R i))))]) (fun r _ => r = yA R mi n w x_ t_ z_)) 0 0 (va_A ([moW b pm r_s r_w st n w wk tr nd hd sd kt kw kh hz] ++ [(b 4, .inl (cI, 32, .inl (fun i => nI (R i))))] ++ [(b 5, .inl (cI, 5, .inl mm))] ++ [(b 9, .inl (cI, 32, .inl (fun i => nI (SV i))))]) sz) := by
  refine Met.ofW (cc := cX10_years) (maxL := 9) (ret := (some .int)) (by decide) rfl ?_
  intro p e s m args below meth c s₁ B hml hv
  obtain ⟨rfl, hsz, hP, hK, hD0⟩ := hv
  have hx := B.exec
  have hb := B.bytes
  have hr := B.returns
  have hts := atoms_spec (ws := wsX10_years) B.pre
  have hown : s.vm.findClass RX10 = some m.cls := findClass_of_methodNamed B.named
  have hlocks := B.notSynchronized
  subst hsz
  unfold muI muB
  have hD := hD0.self (sz := s.heap.size)
  generalize hAe : va_A ([moW b pm r_s r_w st n w wk tr nd hd sd kt kw kh hz] ++ [(b 4, .inl (cI, 32, .inl (fun i => nI (R i))))] ++ [(b 5, .inl (cI, 5, .inl mm))] ++ [(b 9, .inl (cI, 32, .inl (fun i => nI (SV i))))]) s.heap.size = A at hD ⊢
  have hA : ∀ q : Nat, s.heap.size ≤ q → A q := fun q h => by rw [← hAe]; exact Or.inr h
  have hS : va_S A s.heap s.heap [] := va_S.rf
  have hl := lv_entry ([.ref (b 0), .int (nI (t_)), .int (nI (x_)), .int (nI (z_))]) (n := 9) (Nat.le_of_ble_eq_true rfl)
  rw [lg_entry_eq]
  generalize (lg_sl ([.ref (b 0), .int (nI (t_)), .int (nI (x_)), .int (nI (z_))]) ++ List.replicate (9 - (lg_sl ([.ref (b 0), .int (nI (t_)), .int (nI (x_)), .int (nI (z_))])).length) Slot.unset).toArray = ls at hl ⊢
  have hl : lv_has ls 9 [(0, .ref (b 0)), (1, .int (nI (t_))), (2, .int (nI (x_))), (3, .int (nI (z_)))] := hl
  refine W_abs (fun G hG => ?_)
  have L66 : ∀ (fu : Nat) (k : Nat), k ≤ t_ → t_ + 1 ≤ k + fu → ∀ (H : Heap) (locs : List Loc), va_P (dC, dI) vwCl [((b 0), .inr (10, [.ref (b 1), .int (pm), .ref (b 2), .int (r_s), .ref (b 3), .int (r_w), .int (st), .int (nI (n)), .int (nI (w)), .int (wk), .int (tr), .ref (b 4), .ref (b 5), .int (nd), .ref (b 6), .ref (b 7), .int (hd), .ref (b 8), .int (nI ((yR R mi n w x_ k).2.1)), .ref (b 9), .int (kt), .int (kw), .int (kh), .ref (b 10), .ref (b 11), .long (hz)])), ((b 4), .inl (cI, 32, .inl (fun ii => nI (((yR R mi n w x_ k).1) ii)))), ((b 5), .inl (cI, 5, .inl mm)), ((b 9), .inl (cI, 32, .inl (fun ii => nI (R ii))))] H → va_D A [((b 0), .inr (10, [.ref (b 1), .int (pm), .ref (b 2), .int (r_s), .ref (b 3), .int (r_w), .int (st), .int (nI (n)), .int (nI (w)), .int (wk), .int (tr), .ref (b 4), .ref (b 5), .int (nd), .ref (b 6), .ref (b 7), .int (hd), .ref (b 8), .int (nI ((yR R mi n w x_ k).2.1)), .ref (b 9), .int (kt), .int (kw), .int (kh), .ref (b 10), .ref (b 11), .long (hz)])), ((b 4), .inl (cI, 32, .inl (fun ii => nI (((yR R mi n w x_ k).1) ii)))), ((b 5), .inl (cI, 5, .inl mm)), ((b 9), .inl (cI, 32, .inl (fun ii => nI (R ii))))] → va_S A s.heap H locs → ∀ (ls : Array Slot), lv_has ls 9 [(0, .ref (b 0)), (1, .int (nI (t_))), (2, .int (nI (x_))), (3, .int (nI (z_))), (4, .int (nI ((yR R mi n w x_ k).2.2.1))), (5, .int (oI (yR R mi n w x_ k).2.2.2)), (6, .int (nI (k)))] → G H locs (F0 m 66 ls []) := by
    intro fu
    induction fu with
    | zero => intro k h2 hfu H locs hP hD hS ls hl; omega
    | succ fu ih66 =>
      intro k h2 hfu H locs hP hD hS ls hl
      have hRy := WR_yR hR (mi := mi) (w := w) (x := x_) hn (by omega) k
      have hyl := yR_lt (R := R) (mi := mi) (n := n) (w := w) hx_ k
      have hyc := yR_c_le (R := R) (mi := mi) (n := n) (w := w) (x := x_) k
      refine (hG _ _ _).mpr ?_
      refine lv_iload hx hb dX10_years_66 (lv_at hl 6 rfl) ?_
      refine lv_iload_n hx hb dX10_years_68 rfl (lv_at hl 1 rfl) ?_
      refine lv_icmp_ge (tgt := 149) hx hb dX10_years_69 (by decide) (fun c1 => ?_) (fun c1 => ?_)
      · have c1 := (nI_leI (by omega) (by omega)).mp c1
        refine lv_aload_n hx hb dX10_years_149 rfl (lv_at hl 0 rfl) ?_
        refine va_get (D := (dC, dI)) (ci := 10) (v := .ref (b 9)) (C := RX10) (T := TX10) (N := 26) hx hb hts (fun _ h => List.mem_cons_of_mem _ (List.mem_append_right _ (h))) hown hK.1 hP 0 rfl rfl 19 (by decide) (hts (Cond.fieldLink RX10 34 "WorstVoiceModel" "savedRows" "[I") (List.mem_of_getElem? (i := 5) rfl)) (fun _ h9 => h9) rfl dX10_years_150 ?_
        refine lv_aload_n hx hb dX10_years_153 rfl (lv_at hl 0 rfl) ?_
        refine va_get (D := (dC, dI)) (ci := 10) (v := .ref (b 4)) (C := RX10) (T := TX10) (N := 26) hx hb hts (fun _ h => List.mem_cons_of_mem _ (List.mem_append_right _ (h))) hown hK.1 hP 0 rfl rfl 11 (by decide) (hts (Cond.fieldLink RX10 19 "WorstVoiceModel" "rows" "[I") (List.mem_of_getElem? (i := 4) rfl)) (fun _ h9 => h9) rfl dX10_years_154 ?_
        refine mu_callv (wr := [((b 0), .inr (10, [.ref (b 1), .int (pm), .ref (b 2), .int (r_s), .ref (b 3), .int (r_w), .int (st), .int (nI (n)), .int (nI (w)), .int (wk), .int (tr), .ref (b 4), .ref (b 5), .int (nd), .ref (b 6), .ref (b 7), .int (hd), .ref (b 8), .int (nI ((yR R mi n w x_ k).2.1)), .ref (b 9), .int (kt), .int (kw), .int (kh), .ref (b 10), .ref (b 11), .long (hz)])), ((b 5), .inl (cI, 5, .inl mm))]) (wn := (fun _ => [((b 0), .inr (10, [.ref (b 1), .int (pm), .ref (b 2), .int (r_s), .ref (b 3), .int (r_w), .int (st), .int (nI (n)), .int (nI (w)), .int (wk), .int (tr), .ref (b 4), .ref (b 5), .int (nd), .ref (b 6), .ref (b 7), .int (hd), .ref (b 8), .int (nI ((yR R mi n w x_ k).2.1)), .ref (b 9), .int (kt), .int (kw), .int (kh), .ref (b 10), .ref (b 11), .long (hz)])), ((b 4), .inl (cI, 32, .inl (fun ii => nI (R ii)))), ((b 5), .inl (cI, 5, .inl mm)), ((b 9), .inl (cI, 32, .inl (fun ii => nI (R ii))))])) (va_runS (As := [.ref (b 9), .ref (b 4)]) (rest := []) ⟨hx, hb, hml, hown, hts⟩ (c_M_copy l dC dI cI _ (b 9) (b 4) 32 (fun ii => nI (R ii)) (fun ii => nI (((yR R mi n w x_ k).1) ii)) (by decide)) (va_cwS 2 hts gX10_years_X10_copy rfl rfl rfl (by decide +kernel) ⟨Nat.le_of_ble_eq_true rfl, Nat.le_of_ble_eq_true rfl⟩) (mu_ps hK hP hD [3, 1] (by decide) rfl rfl) rfl rfl hl.1 rfl (lv_room (Nat.le_of_ble_eq_true rfl)) dX10_years_157 ⟨Nat.zero_le _, Nat.zero_le _⟩) hS hA hP hD [3, 1] [0, 2] [0, 3, 1, 2] rfl rfl (by decide) (by decide) (by decide) (fun _ => rfl) (fun _ => rfl) (fun u2 H locs hr3 hP hD hS => ?_)
        have hP : va_P (dC, dI) vwCl [((b 0), .inr (10, [.ref (b 1), .int (pm), .ref (b 2), .int (r_s), .ref (b 3), .int (r_w), .int (st), .int (nI (n)), .int (nI (w)), .int (wk), .int (tr), .ref (b 4), .ref (b 5), .int (nd), .ref (b 6), .ref (b 7), .int (hd), .ref (b 8), .int (nI ((yR R mi n w x_ k).2.1)), .ref (b 9), .int (kt), .int (kw), .int (kh), .ref (b 10), .ref (b 11), .long (hz)])), ((b 4), .inl (cI, 32, .inl (fun ii => nI (R ii)))), ((b 5), .inl (cI, 5, .inl mm)), ((b 9), .inl (cI, 32, .inl (fun ii => nI (R ii))))] H := hP
        have hD : va_D A [((b 0), .inr (10, [.ref (b 1), .int (pm), .ref (b 2), .int (r_s), .ref (b 3), .int (r_w), .int (st), .int (nI (n)), .int (nI (w)), .int (wk), .int (tr), .ref (b 4), .ref (b 5), .int (nd), .ref (b 6), .ref (b 7), .int (hd), .ref (b 8), .int (nI ((yR R mi n w x_ k).2.1)), .ref (b 9), .int (kt), .int (kw), .int (kh), .ref (b 10), .ref (b 11), .long (hz)])), ((b 4), .inl (cI, 32, .inl (fun ii => nI (R ii)))), ((b 5), .inl (cI, 5, .inl mm)), ((b 9), .inl (cI, 32, .inl (fun ii => nI (R ii))))] := hD
        refine lv_iload_n hx hb dX10_years_160 rfl (lv_at hl 3 rfl) ?_
        refine lv_if_ne (tgt := 169) hx hb dX10_years_161 (by decide) (fun c4 => ?_) (fun c4 => ?_)
        · have c4 := mt (z_eq (by omega)).mpr c4
          refine lv_iload_n hx hb dX10_years_169 rfl (lv_at hl 3 rfl) ?_
          refine lv_iconst (v := nI (1)) hx hb dX10_years_170 (by decide) ?_
          refine lv_icmp_ne (tgt := 179) hx hb dX10_years_171 (by decide) (fun c5 => ?_) (fun c5 => ?_)
          · have c5 := mt (nI_eq (by omega) (by decide)).mpr c5
            refine lv_aload_n hx hb dX10_years_179 rfl (lv_at hl 0 rfl) ?_
            refine va_get (D := (dC, dI)) (ci := 10) (v := .int (nI ((yR R mi n w x_ k).2.1))) (C := RX10) (T := TX10) (N := 26) hx hb hts (fun _ h => List.mem_cons_of_mem _ (List.mem_append_right _ (h))) hown hK.1 hP 0 rfl rfl 18 (by decide) (hts (Cond.fieldLink RX10 163 "WorstVoiceModel" "seedNow" "I") (List.mem_of_getElem? (i := 6) rfl)) (fun _ h9 => h9) rfl dX10_years_180 ?_
            have hP9 := hP
            rw [show k = t_ by omega] at hP9
            exact W.iret hx hb hr (fun t ht hW => ⟨⟨_, (), rfl, (by unfold yA; first | rw [if_pos (by assumption), show k = t_ by omega] | rw [if_neg (by assumption), if_pos (by assumption), show k = t_ by omega] | rw [if_neg (by assumption), if_neg (by assumption), show k = t_ by omega]), by rw [ht]; exact hP9, hD.as rfl⟩, hS.F ht⟩) hS.2.2 dX10_years_183
          · have c5 := (nI_eq (by omega) (by decide)).mp c5
            refine lv_iload hx hb dX10_years_174 (lv_at hl 5 rfl) ?_
            refine lv_goto (tgt := 183) hx hb dX10_years_176 (by decide) ?_
            have hP9 := hP
            rw [show k = t_ by omega] at hP9
            exact W.iret hx hb hr (fun t ht hW => ⟨⟨_, (), rfl, (by unfold yA; first | rw [if_pos (by assumption), show k = t_ by omega] | rw [if_neg (by assumption), if_pos (by assumption), show k = t_ by omega] | rw [if_neg (by assumption), if_neg (by assumption), show k = t_ by omega]), by rw [ht]; exact hP9, hD.as rfl⟩, hS.F ht⟩) hS.2.2 dX10_years_183
        · have c4 := (z_eq (by omega)).mp c4
          refine lv_iload hx hb dX10_years_164 (lv_at hl 4 rfl) ?_
          refine lv_goto (tgt := 183) hx hb dX10_years_166 (by decide) ?_
          have hP9 := hP
          rw [show k = t_ by omega] at hP9
          exact W.iret hx hb hr (fun t ht hW => ⟨⟨_, (), rfl, (by unfold yA; first | rw [if_pos (by assumption), show k = t_ by omega] | rw [if_neg (by assumption), if_pos (by assumption), show k = t_ by omega] | rw [if_neg (by assumption), if_neg (by assumption), show k = t_ by omega]), by rw [ht]; exact hP9, hD.as rfl⟩, hS.F ht⟩) hS.2.2 dX10_years_183
      · have c1 := mt (nI_leI (by omega) (by omega)).mpr c1
        refine lv_aload_n hx hb dX10_years_72 rfl (lv_at hl 0 rfl) ?_
        refine lv_aload_n hx hb dX10_years_73 rfl (lv_at hl 0 rfl) ?_
        refine lv_aload_n hx hb dX10_years_74 rfl (lv_at hl 0 rfl) ?_
        refine va_get (D := (dC, dI)) (ci := 10) (v := .int (nI (n))) (C := RX10) (T := TX10) (N := 26) hx hb hts (fun _ h => List.mem_cons_of_mem _ (List.mem_append_right _ (h))) hown hK.1 hP 0 rfl rfl 7 (by decide) (hts (Cond.fieldLink RX10 81 "WorstVoiceModel" "singers" "I") (List.mem_of_getElem? (i := 3) rfl)) (fun _ h9 => h9) rfl dX10_years_75 ?_
        refine mu_calli (wr := [((b 4), .inl (cI, 32, .inl (fun ii => nI (((yR R mi n w x_ k).1) ii)))), ((b 5), .inl (cI, 5, .inl mm)), ((b 9), .inl (cI, 32, .inl (fun ii => nI (R ii))))]) (wn := (fun _ => [((b 0), .inr (10, [.ref (b 1), .int (pm), .ref (b 2), .int (r_s), .ref (b 3), .int (r_w), .int (st), .int (nI (n)), .int (nI (w)), .int (wk), .int (tr), .ref (b 4), .ref (b 5), .int (nd), .ref (b 6), .ref (b 7), .int (hd), .ref (b 8), .int (nI (nS ((yR R mi n w x_ k).2.1))), .ref (b 9), .int (kt), .int (kw), .int (kh), .ref (b 10), .ref (b 11), .long (hz)])), ((b 4), .inl (cI, 32, .inl (fun ii => nI (((yR R mi n w x_ k).1) ii)))), ((b 5), .inl (cI, 5, .inl mm)), ((b 9), .inl (cI, 32, .inl (fun ii => nI (R ii))))])) (va_runV (As := [.int (nI (n))]) (rest := [.ref (b 0)]) ⟨hx, hb, hml, hown, hts⟩ (c_M_draw l dC dI cI _ b pm r_s r_w st n w wk tr nd hd ((yR R mi n w x_ k).2.1) kt kw kh hz n (by first | exact nS_lt _ | omega) (by omega) hn) (cwV 1 hts gX10_years_X10_draw rfl rfl rfl (by decide +kernel) ⟨Nat.le_of_ble_eq_true rfl, Nat.le_of_ble_eq_true rfl⟩) (mu_pv hK hP hD [0] (by decide) rfl rfl (ci := 10) (q0 := 0) (C := RX10) (T := TX10) (N := 26) rfl rfl) rfl rfl hl.1 rfl (lv_room (Nat.le_of_ble_eq_true rfl)) dX10_years_78 ⟨Nat.zero_le _, Nat.zero_le _⟩) hS hA hP hD [0] [1, 2, 3] [3, 0, 1, 2] rfl rfl (by decide) (by decide) (by decide) (fun _ => rfl) (fun _ => rfl) (fun r7 u6 H locs hr7 hP hD hS => ?_)
        subst hr7
        have hP : va_P (dC, dI) vwCl [((b 0), .inr (10, [.ref (b 1), .int (pm), .ref (b 2), .int (r_s), .ref (b 3), .int (r_w), .int (st), .int (nI (n)), .int (nI (w)), .int (wk), .int (tr), .ref (b 4), .ref (b 5), .int (nd), .ref (b 6), .ref (b 7), .int (hd), .ref (b 8), .int (nI (nS ((yR R mi n w x_ k).2.1))), .ref (b 9), .int (kt), .int (kw), .int (kh), .ref (b 10), .ref (b 11), .long (hz)])), ((b 4), .inl (cI, 32, .inl (fun ii => nI (((yR R mi n w x_ k).1) ii)))), ((b 5), .inl (cI, 5, .inl mm)), ((b 9), .inl (cI, 32, .inl (fun ii => nI (R ii))))] H := hP
        have hD : va_D A [((b 0), .inr (10, [.ref (b 1), .int (pm), .ref (b 2), .int (r_s), .ref (b 3), .int (r_w), .int (st), .int (nI (n)), .int (nI (w)), .int (wk), .int (tr), .ref (b 4), .ref (b 5), .int (nd), .ref (b 6), .ref (b 7), .int (hd), .ref (b 8), .int (nI (nS ((yR R mi n w x_ k).2.1))), .ref (b 9), .int (kt), .int (kw), .int (kh), .ref (b 10), .ref (b 11), .long (hz)])), ((b 4), .inl (cI, 32, .inl (fun ii => nI (((yR R mi n w x_ k).1) ii)))), ((b 5), .inl (cI, 5, .inl mm)), ((b 9), .inl (cI, 32, .inl (fun ii => nI (R ii))))] := hD
        have hns5 := nS_lt ((yR R mi n w x_ k).2.1)
        have hdr5 : nS ((yR R mi n w x_ k).2.1) / 65536 % n < n := Nat.mod_lt _ (by omega)
        refine mu_calli (wr := [((b 5), .inl (cI, 5, .inl mm)), ((b 9), .inl (cI, 32, .inl (fun ii => nI (R ii))))]) (wn := (fun _ => [((b 0), .inr (10, [.ref (b 1), .int (pm), .ref (b 2), .int (r_s), .ref (b 3), .int (r_w), .int (st), .int (nI (n)), .int (nI (w)), .int (wk), .int (tr), .ref (b 4), .ref (b 5), .int (nd), .ref (b 6), .ref (b 7), .int (hd), .ref (b 8), .int (nI (nS ((yR R mi n w x_ k).2.1))), .ref (b 9), .int (kt), .int (kw), .int (kh), .ref (b 10), .ref (b 11), .long (hz)])), ((b 4), .inl (cI, 32, .inl (fun ii => nI ((wkP ((yR R mi n w x_ k).1) (nS ((yR R mi n w x_ k).2.1) / 65536 % n) 4) ii)))), ((b 5), .inl (cI, 5, .inl mm)), ((b 9), .inl (cI, 32, .inl (fun ii => nI (R ii))))])) (va_runV (As := [.int (nI (nS ((yR R mi n w x_ k).2.1) / 65536 % n))]) (rest := []) ⟨hx, hb, hml, hown, hts⟩ (c_M_weekOf l dC dI cI _ b pm r_s r_w st n w wk tr nd hd (nI (nS ((yR R mi n w x_ k).2.1))) kt kw kh hz ((yR R mi n w x_ k).1) hRy hn hw (nS ((yR R mi n w x_ k).2.1) / 65536 % n) (by omega)) (cwV 1 hts gX10_years_X10_weekOf rfl rfl rfl (by decide +kernel) ⟨Nat.le_of_ble_eq_true rfl, Nat.le_of_ble_eq_true rfl⟩) (mu_pv hK hP hD [0, 1] (by decide) rfl rfl (ci := 10) (q0 := 0) (C := RX10) (T := TX10) (N := 26) rfl rfl) rfl rfl hl.1 rfl (lv_room (Nat.le_of_ble_eq_true rfl)) dX10_years_81 ⟨Nat.zero_le _, Nat.zero_le _⟩) hS hA hP hD [0, 1] [2, 3] [2, 3, 0, 1] rfl rfl (by decide) (by decide) (by decide) (fun _ => rfl) (fun _ => rfl) (fun r9 u8 H locs hr9 hP hD hS => ?_)
        subst hr9
        have hP : va_P (dC, dI) vwCl [((b 0), .inr (10, [.ref (b 1), .int (pm), .ref (b 2), .int (r_s), .ref (b 3), .int (r_w), .int (st), .int (nI (n)), .int (nI (w)), .int (wk), .int (tr), .ref (b 4), .ref (b 5), .int (nd), .ref (b 6), .ref (b 7), .int (hd), .ref (b 8), .int (nI (nS ((yR R mi n w x_ k).2.1))), .ref (b 9), .int (kt), .int (kw), .int (kh), .ref (b 10), .ref (b 11), .long (hz)])), ((b 4), .inl (cI, 32, .inl (fun ii => nI ((wkP ((yR R mi n w x_ k).1) (nS ((yR R mi n w x_ k).2.1) / 65536 % n) 4) ii)))), ((b 5), .inl (cI, 5, .inl mm)), ((b 9), .inl (cI, 32, .inl (fun ii => nI (R ii))))] H := hP
        have hD : va_D A [((b 0), .inr (10, [.ref (b 1), .int (pm), .ref (b 2), .int (r_s), .ref (b 3), .int (r_w), .int (st), .int (nI (n)), .int (nI (w)), .int (wk), .int (tr), .ref (b 4), .ref (b 5), .int (nd), .ref (b 6), .ref (b 7), .int (hd), .ref (b 8), .int (nI (nS ((yR R mi n w x_ k).2.1))), .ref (b 9), .int (kt), .int (kw), .int (kh), .ref (b 10), .ref (b 11), .long (hz)])), ((b 4), .inl (cI, 32, .inl (fun ii => nI ((wkP ((yR R mi n w x_ k).1) (nS ((yR R mi n w x_ k).2.1) / 65536 % n) 4) ii)))), ((b 5), .inl (cI, 5, .inl mm)), ((b 9), .inl (cI, 32, .inl (fun ii => nI (R ii))))] := hD
        refine lv_istore (lv' := [(7, .int (nI (wsm ((yR R mi n w x_ k).1) (nS ((yR R mi n w x_ k).2.1) / 65536 % n) 4))), (0, .ref (b 0)), (1, .int (nI (t_))), (2, .int (nI (x_))), (3, .int (nI (z_))), (4, .int (nI ((yR R mi n w x_ k).2.2.1))), (5, .int (oI (yR R mi n w x_ k).2.2.2)), (6, .int (nI (k)))]) hx hb dX10_years_84 hl (by decide) rfl (fun ls hl => ?_)
        refine lv_aload_n hx hb dX10_years_86 rfl (lv_at hl 1 rfl) ?_
        refine lv_aload_n hx hb dX10_years_87 rfl (lv_at hl 1 rfl) ?_
        refine va_get (D := (dC, dI)) (ci := 10) (v := .int (nI (n))) (C := RX10) (T := TX10) (N := 26) hx hb hts (fun _ h => List.mem_cons_of_mem _ (List.mem_append_right _ (h))) hown hK.1 hP 0 rfl rfl 7 (by decide) (hts (Cond.fieldLink RX10 81 "WorstVoiceModel" "singers" "I") (List.mem_of_getElem? (i := 3) rfl)) (fun _ h9 => h9) rfl dX10_years_88 ?_
        refine mu_calli (wr := [((b 4), .inl (cI, 32, .inl (fun ii => nI ((wkP ((yR R mi n w x_ k).1) (nS ((yR R mi n w x_ k).2.1) / 65536 % n) 4) ii)))), ((b 5), .inl (cI, 5, .inl mm)), ((b 9), .inl (cI, 32, .inl (fun ii => nI (R ii))))]) (wn := (fun _ => [((b 0), .inr (10, [.ref (b 1), .int (pm), .ref (b 2), .int (r_s), .ref (b 3), .int (r_w), .int (st), .int (nI (n)), .int (nI (w)), .int (wk), .int (tr), .ref (b 4), .ref (b 5), .int (nd), .ref (b 6), .ref (b 7), .int (hd), .ref (b 8), .int (nI (nS (nS ((yR R mi n w x_ k).2.1)))), .ref (b 9), .int (kt), .int (kw), .int (kh), .ref (b 10), .ref (b 11), .long (hz)])), ((b 4), .inl (cI, 32, .inl (fun ii => nI ((wkP ((yR R mi n w x_ k).1) (nS ((yR R mi n w x_ k).2.1) / 65536 % n) 4) ii)))), ((b 5), .inl (cI, 5, .inl mm)), ((b 9), .inl (cI, 32, .inl (fun ii => nI (R ii))))])) (va_runV (As := [.int (nI (n))]) (rest := []) ⟨hx, hb, hml, hown, hts⟩ (c_M_draw l dC dI cI _ b pm r_s r_w st n w wk tr nd hd (nS ((yR R mi n w x_ k).2.1)) kt kw kh hz n (by first | exact nS_lt _ | omega) (by omega) hn) (cwV 1 hts gX10_years_X10_draw rfl rfl rfl (by decide +kernel) ⟨Nat.le_of_ble_eq_true rfl, Nat.le_of_ble_eq_true rfl⟩) (mu_pv hK hP hD [0] (by decide) rfl rfl (ci := 10) (q0 := 0) (C := RX10) (T := TX10) (N := 26) rfl rfl) rfl rfl hl.1 rfl (lv_room (Nat.le_of_ble_eq_true rfl)) dX10_years_91 ⟨Nat.zero_le _, Nat.zero_le _⟩) hS hA hP hD [0] [1, 2, 3] [3, 0, 1, 2] rfl rfl (by decide) (by decide) (by decide) (fun _ => rfl) (fun _ => rfl) (fun r11 u10 H locs hr11 hP hD hS => ?_)
        subst hr11
        have hP : va_P (dC, dI) vwCl [((b 0), .inr (10, [.ref (b 1), .int (pm), .ref (b 2), .int (r_s), .ref (b 3), .int (r_w), .int (st), .int (nI (n)), .int (nI (w)), .int (wk), .int (tr), .ref (b 4), .ref (b 5), .int (nd), .ref (b 6), .ref (b 7), .int (hd), .ref (b 8), .int (nI (nS (nS ((yR R mi n w x_ k).2.1)))), .ref (b 9), .int (kt), .int (kw), .int (kh), .ref (b 10), .ref (b 11), .long (hz)])), ((b 4), .inl (cI, 32, .inl (fun ii => nI ((wkP ((yR R mi n w x_ k).1) (nS ((yR R mi n w x_ k).2.1) / 65536 % n) 4) ii)))), ((b 5), .inl (cI, 5, .inl mm)), ((b 9), .inl (cI, 32, .inl (fun ii => nI (R ii))))] H := hP
        have hD : va_D A [((b 0), .inr (10, [.ref (b 1), .int (pm), .ref (b 2), .int (r_s), .ref (b 3), .int (r_w), .int (st), .int (nI (n)), .int (nI (w)), .int (wk), .int (tr), .ref (b 4), .ref (b 5), .int (nd), .ref (b 6), .ref (b 7), .int (hd), .ref (b 8), .int (nI (nS (nS ((yR R mi n w x_ k).2.1)))), .ref (b 9), .int (kt), .int (kw), .int (kh), .ref (b 10), .ref (b 11), .long (hz)])), ((b 4), .inl (cI, 32, .inl (fun ii => nI ((wkP ((yR R mi n w x_ k).1) (nS ((yR R mi n w x_ k).2.1) / 65536 % n) 4) ii)))), ((b 5), .inl (cI, 5, .inl mm)), ((b 9), .inl (cI, 32, .inl (fun ii => nI (R ii))))] := hD
        have hns9 := nS_lt (nS ((yR R mi n w x_ k).2.1))
        have hdr9 : nS (nS ((yR R mi n w x_ k).2.1)) / 65536 % n < n := Nat.mod_lt _ (by omega)
        refine lv_istore (lv' := [(8, .int (nI (nS (nS ((yR R mi n w x_ k).2.1)) / 65536 % n))), (7, .int (nI (wsm ((yR R mi n w x_ k).1) (nS ((yR R mi n w x_ k).2.1) / 65536 % n) 4))), (0, .ref (b 0)), (1, .int (nI (t_))), (2, .int (nI (x_))), (3, .int (nI (z_))), (4, .int (nI ((yR R mi n w x_ k).2.2.1))), (5, .int (oI (yR R mi n w x_ k).2.2.2)), (6, .int (nI (k)))]) hx hb dX10_years_94 hl (by decide) rfl (fun ls hl => ?_)
        refine lv_aload_n hx hb dX10_years_96 rfl (lv_at hl 2 rfl) ?_
        refine va_get (D := (dC, dI)) (ci := 10) (v := .ref (b 4)) (C := RX10) (T := TX10) (N := 26) hx hb hts (fun _ h => List.mem_cons_of_mem _ (List.mem_append_right _ (h))) hown hK.1 hP 0 rfl rfl 11 (by decide) (hts (Cond.fieldLink RX10 19 "WorstVoiceModel" "rows" "[I") (List.mem_of_getElem? (i := 4) rfl)) (fun _ h9 => h9) rfl dX10_years_97 ?_
        refine lv_bipush (v := nI (8)) hx hb dX10_years_100 (by decide) ?_
        refine lv_iload hx hb dX10_years_102 (lv_at hl 0 rfl) ?_
        refine lv_imul hx hb dX10_years_104 ?_
        refine tp_i (z := nI (8 * (nS (nS ((yR R mi n w x_ k).2.1)) / 65536 % n))) (pk_mul (8) (nS (nS ((yR R mi n w x_ k).2.1)) / 65536 % n)) ?_
        refine lv_iconst (v := nI (5)) hx hb dX10_years_105 (by decide) ?_
        refine lv_iadd hx hb dX10_years_106 ?_
        refine tp_i (z := nI (8 * (nS (nS ((yR R mi n w x_ k).2.1)) / 65536 % n) + 5)) (nI_add (8 * (nS (nS ((yR R mi n w x_ k).2.1)) / 65536 % n)) (5)) ?_
        refine lv_iconst (v := nI (1)) hx hb dX10_years_107 (by decide) ?_
        refine lv_aload_n hx hb dX10_years_108 rfl (lv_at hl 2 rfl) ?_
        refine va_get (D := (dC, dI)) (ci := 10) (v := .ref (b 4)) (C := RX10) (T := TX10) (N := 26) hx hb hts (fun _ h => List.mem_cons_of_mem _ (List.mem_append_right _ (h))) hown hK.1 hP 0 rfl rfl 11 (by decide) (hts (Cond.fieldLink RX10 19 "WorstVoiceModel" "rows" "[I") (List.mem_of_getElem? (i := 4) rfl)) (fun _ h9 => h9) rfl dX10_years_109 ?_
        refine lv_bipush (v := nI (8)) hx hb dX10_years_112 (by decide) ?_
        refine lv_iload hx hb dX10_years_114 (lv_at hl 0 rfl) ?_
        refine lv_imul hx hb dX10_years_116 ?_
        refine tp_i (z := nI (8 * (nS (nS ((yR R mi n w x_ k).2.1)) / 65536 % n))) (pk_mul (8) (nS (nS ((yR R mi n w x_ k).2.1)) / 65536 % n)) ?_
        refine lv_iconst (v := nI (5)) hx hb dX10_years_117 (by decide) ?_
        refine lv_iadd hx hb dX10_years_118 ?_
        refine tp_i (z := nI (8 * (nS (nS ((yR R mi n w x_ k).2.1)) / 65536 % n) + 5)) (nI_add (8 * (nS (nS ((yR R mi n w x_ k).2.1)) / 65536 % n)) (5)) ?_
        refine va_iald hx hb hK.1 hP 1 0 rfl rfl (vp_in_nI (by omega) (by decide)) dX10_years_119 ?_
        refine tp_i (z := nI ((wkP ((yR R mi n w x_ k).1) (nS ((yR R mi n w x_ k).2.1) / 65536 % n) 4) (8 * (nS (nS ((yR R mi n w x_ k).2.1)) / 65536 % n) + 5))) (ld_n (fun ii => nI ((wkP ((yR R mi n w x_ k).1) (nS ((yR R mi n w x_ k).2.1) / 65536 % n) 4) ii)) (by omega)) ?_
        refine lv_isub hx hb dX10_years_120 ?_
        have hcy := ((hRy.wk (s := nS (yR R mi n w x_ k).2.1 / 65536 % n) (f := 4) (by omega) (by omega)).1 (nS (nS (yR R mi n w x_ k).2.1) / 65536 % n) (by omega)).2.1
        refine tp_i (z := nI (1 - (wkP ((yR R mi n w x_ k).1) (nS ((yR R mi n w x_ k).2.1) / 65536 % n) 4) (8 * (nS (nS ((yR R mi n w x_ k).2.1)) / 65536 % n) + 5))) (pk_sub hcy) ?_
        refine va_iast hx hb hK.1 hP hD hS 1 0 rfl rfl (vp_in_nI (by omega) (by decide)) dX10_years_121 (fun H locs hP hD hS => ?_)
        rw [nI_clamp (by omega), upd_nI] at hP hD
        have hP : va_P (dC, dI) vwCl [((b 0), .inr (10, [.ref (b 1), .int (pm), .ref (b 2), .int (r_s), .ref (b 3), .int (r_w), .int (st), .int (nI (n)), .int (nI (w)), .int (wk), .int (tr), .ref (b 4), .ref (b 5), .int (nd), .ref (b 6), .ref (b 7), .int (hd), .ref (b 8), .int (nI (nS (nS ((yR R mi n w x_ k).2.1)))), .ref (b 9), .int (kt), .int (kw), .int (kh), .ref (b 10), .ref (b 11), .long (hz)])), ((b 4), .inl (cI, 32, .inl (fun ii => nI ((upN (wkP ((yR R mi n w x_ k).1) (nS ((yR R mi n w x_ k).2.1) / 65536 % n) 4) (8 * (nS (nS ((yR R mi n w x_ k).2.1)) / 65536 % n) + 5) (1 - (wkP ((yR R mi n w x_ k).1) (nS ((yR R mi n w x_ k).2.1) / 65536 % n) 4) (8 * (nS (nS ((yR R mi n w x_ k).2.1)) / 65536 % n) + 5))) ii)))), ((b 5), .inl (cI, 5, .inl mm)), ((b 9), .inl (cI, 32, .inl (fun ii => nI (R ii))))] H := hP
        have hD : va_D A [((b 0), .inr (10, [.ref (b 1), .int (pm), .ref (b 2), .int (r_s), .ref (b 3), .int (r_w), .int (st), .int (nI (n)), .int (nI (w)), .int (wk), .int (tr), .ref (b 4), .ref (b 5), .int (nd), .ref (b 6), .ref (b 7), .int (hd), .ref (b 8), .int (nI (nS (nS ((yR R mi n w x_ k).2.1)))), .ref (b 9), .int (kt), .int (kw), .int (kh), .ref (b 10), .ref (b 11), .long (hz)])), ((b 4), .inl (cI, 32, .inl (fun ii => nI ((upN (wkP ((yR R mi n w x_ k).1) (nS ((yR R mi n w x_ k).2.1) / 65536 % n) 4) (8 * (nS (nS ((yR R mi n w x_ k).2.1)) / 65536 % n) + 5) (1 - (wkP ((yR R mi n w x_ k).1) (nS ((yR R mi n w x_ k).2.1) / 65536 % n) 4) (8 * (nS (nS ((yR R mi n w x_ k).2.1)) / 65536 % n) + 5))) ii)))), ((b 5), .inl (cI, 5, .inl mm)), ((b 9), .inl (cI, 32, .inl (fun ii => nI (R ii))))] := hD
        refine lv_aload_n hx hb dX10_years_122 rfl (lv_at hl 2 rfl) ?_
        refine ro_calli (va_runV (As := []) (rest := []) ⟨hx, hb, hml, hown, hts⟩ (c_X10_mayorOf l dC dI cI b pm r_s r_w st n w wk tr nd hd (nI (nS (nS ((yR R mi n w x_ k).2.1)))) kt kw kh hz (upN (wkP ((yR R mi n w x_ k).1) (nS ((yR R mi n w x_ k).2.1) / 65536 % n) 4) (8 * (nS (nS ((yR R mi n w x_ k).2.1)) / 65536 % n) + 5) (1 - (wkP ((yR R mi n w x_ k).1) (nS ((yR R mi n w x_ k).2.1) / 65536 % n) 4) (8 * (nS (nS ((yR R mi n w x_ k).2.1)) / 65536 % n) + 5))) mi mm hm hm4 ((hRy.wk (by omega) (by omega)).up (Or.inl ⟨by omega, by omega⟩)) hn (by omega) hw) (cwV 0 hts gX10_years_X10_mayorOf rfl rfl rfl (by decide +kernel) ⟨Nat.le_of_ble_eq_true rfl, Nat.le_of_ble_eq_true rfl⟩) (ro_pv hK hP [0, 1, 2] rfl (ci := 10) (q0 := 0) (C := RX10) (T := TX10) (N := 26) rfl rfl) rfl rfl hl.1 rfl (lv_room (Nat.le_of_ble_eq_true rfl)) dX10_years_123 ⟨Nat.zero_le _, Nat.zero_le _⟩) hS hP (fun r12 H locs hr12 hP hS => ?_)
        subst hr12
        have hmyl : my (upN (wkP ((yR R mi n w x_ k).1) (nS ((yR R mi n w x_ k).2.1) / 65536 % n) 4) (8 * (nS (nS ((yR R mi n w x_ k).2.1)) / 65536 % n) + 5) (1 - (wkP ((yR R mi n w x_ k).1) (nS ((yR R mi n w x_ k).2.1) / 65536 % n) 4) (8 * (nS (nS ((yR R mi n w x_ k).2.1)) / 65536 % n) + 5))) mi n w < n := am_lt _ n (by omega)
        refine lv_istore (lv' := [(5, .int (nI (my (upN (wkP ((yR R mi n w x_ k).1) (nS ((yR R mi n w x_ k).2.1) / 65536 % n) 4) (8 * (nS (nS ((yR R mi n w x_ k).2.1)) / 65536 % n) + 5) (1 - (wkP ((yR R mi n w x_ k).1) (nS ((yR R mi n w x_ k).2.1) / 65536 % n) 4) (8 * (nS (nS ((yR R mi n w x_ k).2.1)) / 65536 % n) + 5))) mi n w))), (8, .int (nI (nS (nS ((yR R mi n w x_ k).2.1)) / 65536 % n))), (7, .int (nI (wsm ((yR R mi n w x_ k).1) (nS ((yR R mi n w x_ k).2.1) / 65536 % n) 4))), (0, .ref (b 0)), (1, .int (nI (t_))), (2, .int (nI (x_))), (3, .int (nI (z_))), (4, .int (nI ((yR R mi n w x_ k).2.2.1))), (6, .int (nI (k)))]) hx hb dX10_years_126 hl (by decide) rfl (fun ls hl => ?_)
        refine lv_iload hx hb dX10_years_128 (lv_at hl 7 rfl) ?_
        refine lv_iload hx hb dX10_years_130 (lv_at hl 0 rfl) ?_
        refine lv_if_ne (tgt := 139) hx hb dX10_years_132 (by decide) (fun c13 => ?_) (fun c13 => ?_)
        · have c13 := mt (z_eq (by omega)).mpr c13
          refine lv_iconst (v := nI (0)) hx hb dX10_years_139 (by decide) ?_
          refine lv_iadd hx hb dX10_years_140 ?_
          refine tp_i (z := nI ((yR R mi n w x_ k).2.2.1 + (if my (upN (wkP ((yR R mi n w x_ k).1) (nS ((yR R mi n w x_ k).2.1) / 65536 % n) 4) (8 * (nS (nS ((yR R mi n w x_ k).2.1)) / 65536 % n) + 5) (1 - (wkP ((yR R mi n w x_ k).1) (nS ((yR R mi n w x_ k).2.1) / 65536 % n) 4) (8 * (nS (nS ((yR R mi n w x_ k).2.1)) / 65536 % n) + 5))) mi n w = 0 then 1 else 0))) ((nI_add _ _).trans (congrArg nI (by rw [if_neg (by assumption)]))) ?_
          refine lv_istore (lv' := [(4, .int (nI ((yR R mi n w x_ k).2.2.1 + (if my (upN (wkP ((yR R mi n w x_ k).1) (nS ((yR R mi n w x_ k).2.1) / 65536 % n) 4) (8 * (nS (nS ((yR R mi n w x_ k).2.1)) / 65536 % n) + 5) (1 - (wkP ((yR R mi n w x_ k).1) (nS ((yR R mi n w x_ k).2.1) / 65536 % n) 4) (8 * (nS (nS ((yR R mi n w x_ k).2.1)) / 65536 % n) + 5))) mi n w = 0 then 1 else 0)))), (5, .int (nI (my (upN (wkP ((yR R mi n w x_ k).1) (nS ((yR R mi n w x_ k).2.1) / 65536 % n) 4) (8 * (nS (nS ((yR R mi n w x_ k).2.1)) / 65536 % n) + 5) (1 - (wkP ((yR R mi n w x_ k).1) (nS ((yR R mi n w x_ k).2.1) / 65536 % n) 4) (8 * (nS (nS ((yR R mi n w x_ k).2.1)) / 65536 % n) + 5))) mi n w))), (8, .int (nI (nS (nS ((yR R mi n w x_ k).2.1)) / 65536 % n))), (7, .int (nI (wsm ((yR R mi n w x_ k).1) (nS ((yR R mi n w x_ k).2.1) / 65536 % n) 4))), (0, .ref (b 0)), (1, .int (nI (t_))), (2, .int (nI (x_))), (3, .int (nI (z_))), (6, .int (nI (k)))]) hx hb dX10_years_141 hl (by decide) rfl (fun ls hl => ?_)
          refine lv_iinc (v := nI (k + 1)) (lv' := [(6, .int (nI (k + 1))), (4, .int (nI ((yR R mi n w x_ k).2.2.1 + (if my (upN (wkP ((yR R mi n w x_ k).1) (nS ((yR R mi n w x_ k).2.1) / 65536 % n) 4) (8 * (nS (nS ((yR R mi n w x_ k).2.1)) / 65536 % n) + 5) (1 - (wkP ((yR R mi n w x_ k).1) (nS ((yR R mi n w x_ k).2.1) / 65536 % n) 4) (8 * (nS (nS ((yR R mi n w x_ k).2.1)) / 65536 % n) + 5))) mi n w = 0 then 1 else 0)))), (5, .int (nI (my (upN (wkP ((yR R mi n w x_ k).1) (nS ((yR R mi n w x_ k).2.1) / 65536 % n) 4) (8 * (nS (nS ((yR R mi n w x_ k).2.1)) / 65536 % n) + 5) (1 - (wkP ((yR R mi n w x_ k).1) (nS ((yR R mi n w x_ k).2.1) / 65536 % n) 4) (8 * (nS (nS ((yR R mi n w x_ k).2.1)) / 65536 % n) + 5))) mi n w))), (8, .int (nI (nS (nS ((yR R mi n w x_ k).2.1)) / 65536 % n))), (7, .int (nI (wsm ((yR R mi n w x_ k).1) (nS ((yR R mi n w x_ k).2.1) / 65536 % n) 4))), (0, .ref (b 0)), (1, .int (nI (t_))), (2, .int (nI (x_))), (3, .int (nI (z_)))]) hx hb dX10_years_143 hl (k := 8) rfl (nI_add (k) 1) (by decide) rfl (fun ls hl => ?_)
          refine lv_goto (tgt := 66) hx hb dX10_years_146 (by decide) ?_
          have hP : va_P (dC, dI) vwCl [((b 0), .inr (10, [.ref (b 1), .int (pm), .ref (b 2), .int (r_s), .ref (b 3), .int (r_w), .int (st), .int (nI (n)), .int (nI (w)), .int (wk), .int (tr), .ref (b 4), .ref (b 5), .int (nd), .ref (b 6), .ref (b 7), .int (hd), .ref (b 8), .int (nI ((yR R mi n w x_ (k + 1)).2.1)), .ref (b 9), .int (kt), .int (kw), .int (kh), .ref (b 10), .ref (b 11), .long (hz)])), ((b 4), .inl (cI, 32, .inl (fun ii => nI (((yR R mi n w x_ (k + 1)).1) ii)))), ((b 5), .inl (cI, 5, .inl mm)), ((b 9), .inl (cI, 32, .inl (fun ii => nI (R ii))))] H := hP
          have hD : va_D A [((b 0), .inr (10, [.ref (b 1), .int (pm), .ref (b 2), .int (r_s), .ref (b 3), .int (r_w), .int (st), .int (nI (n)), .int (nI (w)), .int (wk), .int (tr), .ref (b 4), .ref (b 5), .int (nd), .ref (b 6), .ref (b 7), .int (hd), .ref (b 8), .int (nI ((yR R mi n w x_ (k + 1)).2.1)), .ref (b 9), .int (kt), .int (kw), .int (kh), .ref (b 10), .ref (b 11), .long (hz)])), ((b 4), .inl (cI, 32, .inl (fun ii => nI (((yR R mi n w x_ (k + 1)).1) ii)))), ((b 5), .inl (cI, 5, .inl mm)), ((b 9), .inl (cI, 32, .inl (fun ii => nI (R ii))))] := hD
          exact (hG _ _ _).mp (ih66 (k + 1) (by omega) (by omega) _ _ hP hD hS _ (lv_sub hl [5, 6, 7, 8, 1, 2, 0] rfl))
        · have c13 := (z_eq (by omega)).mp c13
          refine lv_iconst (v := nI (1)) hx hb dX10_years_135 (by decide) ?_
          refine lv_goto (tgt := 140) hx hb dX10_years_136 (by decide) ?_
          refine lv_iadd hx hb dX10_years_140 ?_
          refine tp_i (z := nI ((yR R mi n w x_ k).2.2.1 + (if my (upN (wkP ((yR R mi n w x_ k).1) (nS ((yR R mi n w x_ k).2.1) / 65536 % n) 4) (8 * (nS (nS ((yR R mi n w x_ k).2.1)) / 65536 % n) + 5) (1 - (wkP ((yR R mi n w x_ k).1) (nS ((yR R mi n w x_ k).2.1) / 65536 % n) 4) (8 * (nS (nS ((yR R mi n w x_ k).2.1)) / 65536 % n) + 5))) mi n w = 0 then 1 else 0))) ((nI_add _ _).trans (congrArg nI (by rw [if_pos (by assumption)]))) ?_
          refine lv_istore (lv' := [(4, .int (nI ((yR R mi n w x_ k).2.2.1 + (if my (upN (wkP ((yR R mi n w x_ k).1) (nS ((yR R mi n w x_ k).2.1) / 65536 % n) 4) (8 * (nS (nS ((yR R mi n w x_ k).2.1)) / 65536 % n) + 5) (1 - (wkP ((yR R mi n w x_ k).1) (nS ((yR R mi n w x_ k).2.1) / 65536 % n) 4) (8 * (nS (nS ((yR R mi n w x_ k).2.1)) / 65536 % n) + 5))) mi n w = 0 then 1 else 0)))), (5, .int (nI (my (upN (wkP ((yR R mi n w x_ k).1) (nS ((yR R mi n w x_ k).2.1) / 65536 % n) 4) (8 * (nS (nS ((yR R mi n w x_ k).2.1)) / 65536 % n) + 5) (1 - (wkP ((yR R mi n w x_ k).1) (nS ((yR R mi n w x_ k).2.1) / 65536 % n) 4) (8 * (nS (nS ((yR R mi n w x_ k).2.1)) / 65536 % n) + 5))) mi n w))), (8, .int (nI (nS (nS ((yR R mi n w x_ k).2.1)) / 65536 % n))), (7, .int (nI (wsm ((yR R mi n w x_ k).1) (nS ((yR R mi n w x_ k).2.1) / 65536 % n) 4))), (0, .ref (b 0)), (1, .int (nI (t_))), (2, .int (nI (x_))), (3, .int (nI (z_))), (6, .int (nI (k)))]) hx hb dX10_years_141 hl (by decide) rfl (fun ls hl => ?_)
          refine lv_iinc (v := nI (k + 1)) (lv' := [(6, .int (nI (k + 1))), (4, .int (nI ((yR R mi n w x_ k).2.2.1 + (if my (upN (wkP ((yR R mi n w x_ k).1) (nS ((yR R mi n w x_ k).2.1) / 65536 % n) 4) (8 * (nS (nS ((yR R mi n w x_ k).2.1)) / 65536 % n) + 5) (1 - (wkP ((yR R mi n w x_ k).1) (nS ((yR R mi n w x_ k).2.1) / 65536 % n) 4) (8 * (nS (nS ((yR R mi n w x_ k).2.1)) / 65536 % n) + 5))) mi n w = 0 then 1 else 0)))), (5, .int (nI (my (upN (wkP ((yR R mi n w x_ k).1) (nS ((yR R mi n w x_ k).2.1) / 65536 % n) 4) (8 * (nS (nS ((yR R mi n w x_ k).2.1)) / 65536 % n) + 5) (1 - (wkP ((yR R mi n w x_ k).1) (nS ((yR R mi n w x_ k).2.1) / 65536 % n) 4) (8 * (nS (nS ((yR R mi n w x_ k).2.1)) / 65536 % n) + 5))) mi n w))), (8, .int (nI (nS (nS ((yR R mi n w x_ k).2.1)) / 65536 % n))), (7, .int (nI (wsm ((yR R mi n w x_ k).1) (nS ((yR R mi n w x_ k).2.1) / 65536 % n) 4))), (0, .ref (b 0)), (1, .int (nI (t_))), (2, .int (nI (x_))), (3, .int (nI (z_)))]) hx hb dX10_years_143 hl (k := 8) rfl (nI_add (k) 1) (by decide) rfl (fun ls hl => ?_)
          refine lv_goto (tgt := 66) hx hb dX10_years_146 (by decide) ?_
          have hP : va_P (dC, dI) vwCl [((b 0), .inr (10, [.ref (b 1), .int (pm), .ref (b 2), .int (r_s), .ref (b 3), .int (r_w), .int (st), .int (nI (n)), .int (nI (w)), .int (wk), .int (tr), .ref (b 4), .ref (b 5), .int (nd), .ref (b 6), .ref (b 7), .int (hd), .ref (b 8), .int (nI ((yR R mi n w x_ (k + 1)).2.1)), .ref (b 9), .int (kt), .int (kw), .int (kh), .ref (b 10), .ref (b 11), .long (hz)])), ((b 4), .inl (cI, 32, .inl (fun ii => nI (((yR R mi n w x_ (k + 1)).1) ii)))), ((b 5), .inl (cI, 5, .inl mm)), ((b 9), .inl (cI, 32, .inl (fun ii => nI (R ii))))] H := hP
          have hD : va_D A [((b 0), .inr (10, [.ref (b 1), .int (pm), .ref (b 2), .int (r_s), .ref (b 3), .int (r_w), .int (st), .int (nI (n)), .int (nI (w)), .int (wk), .int (tr), .ref (b 4), .ref (b 5), .int (nd), .ref (b 6), .ref (b 7), .int (hd), .ref (b 8), .int (nI ((yR R mi n w x_ (k + 1)).2.1)), .ref (b 9), .int (kt), .int (kw), .int (kh), .ref (b 10), .ref (b 11), .long (hz)])), ((b 4), .inl (cI, 32, .inl (fun ii => nI (((yR R mi n w x_ (k + 1)).1) ii)))), ((b 5), .inl (cI, 5, .inl mm)), ((b 9), .inl (cI, 32, .inl (fun ii => nI (R ii))))] := hD
          exact (hG _ _ _).mp (ih66 (k + 1) (by omega) (by omega) _ _ hP hD hS _ (lv_sub hl [5, 6, 7, 8, 1, 2, 0] rfl))
  refine (hG _ _ _).mpr ?_
  refine lv_iload_n hx hb dX10_years_0 rfl (lv_at hl 1 rfl) ?_
  refine lv_i2l (v := (nI (t_)).toInt64) hx hb dX10_years_1 rfl ?_
  refine lv_lconst (v := (nI 1).toInt64) hx hb dX10_years_2 (by decide) ?_
  refine lv_ldc2 (v := 60) hx hb hown (hts (Cond.constantLong RX10 171 (60)) (List.mem_of_getElem? (i := 1) rfl)) dX10_years_3 ?_
  refine tp_l (z := (nI 60).toInt64) (by decide) ?_
  refine ro_calli (va_runS (As := [.long ((nI (t_)).toInt64), .long ((nI 1).toInt64), .long ((nI 60).toInt64)]) (rest := []) ⟨hx, hb, hml, hown, hts⟩ (c_X10_in l dC dI cI (nI (t_)) (nI 1) (nI 60)) (va_cwS 3 hts gX10_years_X10_in rfl rfl rfl (by decide +kernel) ⟨Nat.le_of_ble_eq_true rfl, Nat.le_of_ble_eq_true rfl⟩) (ro_ps hK hP [] rfl) rfl rfl hl.1 rfl (lv_room (Nat.le_of_ble_eq_true rfl)) dX10_years_6 ⟨Nat.zero_le _, Nat.zero_le _⟩) hS hP (fun r14 H locs hr14 hP hS => ?_)
  subst hr14
  have e15 : bI ((nI 1).toInt ≤ (nI (t_)).toInt ∧ (nI (t_)).toInt ≤ (nI 60).toInt) = bI ((1 : Int) ≤ (t_ : Int) ∧ (t_ : Int) ≤ (60 : Int)) := bI_i (by rw [nI_toInt (n := t_) (by omega), nI_toInt (n := 1) (by decide), nI_toInt (n := 60) (by decide)] <;> omega)
  refine tp_i (z := bI ((1 : Int) ≤ (t_ : Int) ∧ (t_ : Int) ≤ (60 : Int))) e15 ?_
  refine lv_if_eq (tgt := 28) hx hb dX10_years_9 (by decide) (fun c16 => ?_) (fun c16 => ?_)
  · have c16 := bI_0.mp c16
    exfalso; omega
  have c16 := Decidable.not_not.mp (mt bI_0.mpr c16)
  refine lv_iload_n hx hb dX10_years_12 rfl (lv_at hl 2 rfl) ?_
  refine lv_if_lt (tgt := 28) hx hb dX10_years_13 (by decide) (fun c17 => absurd c17 (z_lt (by omega))) (fun c17 => ?_)
  refine lv_iload_n hx hb dX10_years_16 rfl (lv_at hl 3 rfl) ?_
  refine lv_i2l (v := (nI (z_)).toInt64) hx hb dX10_years_17 rfl ?_
  refine lv_lconst (v := (nI 0).toInt64) hx hb dX10_years_18 (by decide) ?_
  refine lv_ldc2 (v := 2) hx hb hown (hts (Cond.constantLong RX10 173 (2)) (List.mem_of_getElem? (i := 2) rfl)) dX10_years_19 ?_
  refine tp_l (z := (nI 2).toInt64) (by decide) ?_
  refine ro_calli (va_runS (As := [.long ((nI (z_)).toInt64), .long ((nI 0).toInt64), .long ((nI 2).toInt64)]) (rest := []) ⟨hx, hb, hml, hown, hts⟩ (c_X10_in l dC dI cI (nI (z_)) (nI 0) (nI 2)) (va_cwS 3 hts gX10_years_X10_in rfl rfl rfl (by decide +kernel) ⟨Nat.le_of_ble_eq_true rfl, Nat.le_of_ble_eq_true rfl⟩) (ro_ps hK hP [] rfl) rfl rfl hl.1 rfl (lv_room (Nat.le_of_ble_eq_true rfl)) dX10_years_22 ⟨Nat.zero_le _, Nat.zero_le _⟩) hS hP (fun r18 H locs hr18 hP hS => ?_)
  subst hr18
  have e19 : bI ((nI 0).toInt ≤ (nI (z_)).toInt ∧ (nI (z_)).toInt ≤ (nI 2).toInt) = bI ((0 : Int) ≤ (z_ : Int) ∧ (z_ : Int) ≤ (2 : Int)) := bI_i (by rw [nI_toInt (n := z_) (by omega), nI_toInt (n := 0) (by decide), nI_toInt (n := 2) (by decide)] <;> omega)
  refine tp_i (z := bI ((0 : Int) ≤ (z_ : Int) ∧ (z_ : Int) ≤ (2 : Int))) e19 ?_
  refine lv_if_ne (tgt := 31) hx hb dX10_years_25 (by decide) (fun c20 => ?_) (fun c20 => ?_)
  · have c20 := Decidable.not_not.mp (mt bI_0.mpr c20)
    refine lv_aload_n hx hb dX10_years_31 rfl (lv_at hl 0 rfl) ?_
    refine va_get (D := (dC, dI)) (ci := 10) (v := .int (nI (n))) (C := RX10) (T := TX10) (N := 26) hx hb hts (fun _ h => List.mem_cons_of_mem _ (List.mem_append_right _ (h))) hown hK.1 hP 0 rfl rfl 7 (by decide) (hts (Cond.fieldLink RX10 81 "WorstVoiceModel" "singers" "I") (List.mem_of_getElem? (i := 3) rfl)) (fun _ h9 => h9) rfl dX10_years_32 ?_
    refine lv_if_ne (tgt := 41) hx hb dX10_years_35 (by decide) (fun c21 => ?_) (fun c21 => ?_)
    · have c21 := mt (z_eq (by omega)).mpr c21
      refine lv_aload_n hx hb dX10_years_41 rfl (lv_at hl 0 rfl) ?_
      refine va_get (D := (dC, dI)) (ci := 10) (v := .ref (b 4)) (C := RX10) (T := TX10) (N := 26) hx hb hts (fun _ h => List.mem_cons_of_mem _ (List.mem_append_right _ (h))) hown hK.1 hP 0 rfl rfl 11 (by decide) (hts (Cond.fieldLink RX10 19 "WorstVoiceModel" "rows" "[I") (List.mem_of_getElem? (i := 4) rfl)) (fun _ h9 => h9) rfl dX10_years_42 ?_
      refine lv_aload_n hx hb dX10_years_45 rfl (lv_at hl 0 rfl) ?_
      refine va_get (D := (dC, dI)) (ci := 10) (v := .ref (b 9)) (C := RX10) (T := TX10) (N := 26) hx hb hts (fun _ h => List.mem_cons_of_mem _ (List.mem_append_right _ (h))) hown hK.1 hP 0 rfl rfl 19 (by decide) (hts (Cond.fieldLink RX10 34 "WorstVoiceModel" "savedRows" "[I") (List.mem_of_getElem? (i := 5) rfl)) (fun _ h9 => h9) rfl dX10_years_46 ?_
      refine mu_callv (wr := [((b 0), .inr (10, [.ref (b 1), .int (pm), .ref (b 2), .int (r_s), .ref (b 3), .int (r_w), .int (st), .int (nI (n)), .int (nI (w)), .int (wk), .int (tr), .ref (b 4), .ref (b 5), .int (nd), .ref (b 6), .ref (b 7), .int (hd), .ref (b 8), .int (sd), .ref (b 9), .int (kt), .int (kw), .int (kh), .ref (b 10), .ref (b 11), .long (hz)])), ((b 5), .inl (cI, 5, .inl mm))]) (wn := (fun _ => [((b 0), .inr (10, [.ref (b 1), .int (pm), .ref (b 2), .int (r_s), .ref (b 3), .int (r_w), .int (st), .int (nI (n)), .int (nI (w)), .int (wk), .int (tr), .ref (b 4), .ref (b 5), .int (nd), .ref (b 6), .ref (b 7), .int (hd), .ref (b 8), .int (sd), .ref (b 9), .int (kt), .int (kw), .int (kh), .ref (b 10), .ref (b 11), .long (hz)])), ((b 4), .inl (cI, 32, .inl (fun ii => nI (R ii)))), ((b 5), .inl (cI, 5, .inl mm)), ((b 9), .inl (cI, 32, .inl (fun ii => nI (R ii))))])) (va_runS (As := [.ref (b 4), .ref (b 9)]) (rest := []) ⟨hx, hb, hml, hown, hts⟩ (c_M_copy l dC dI cI _ (b 4) (b 9) 32 (fun ii => nI (R ii)) (fun ii => nI (SV ii)) (by decide)) (va_cwS 2 hts gX10_years_X10_copy rfl rfl rfl (by decide +kernel) ⟨Nat.le_of_ble_eq_true rfl, Nat.le_of_ble_eq_true rfl⟩) (mu_ps hK hP hD [1, 3] (by decide) rfl rfl) rfl rfl hl.1 rfl (lv_room (Nat.le_of_ble_eq_true rfl)) dX10_years_49 ⟨Nat.zero_le _, Nat.zero_le _⟩) hS hA hP hD [1, 3] [0, 2] [0, 2, 1, 3] rfl rfl (by decide) (by decide) (by decide) (fun _ => rfl) (fun _ => rfl) (fun u22 H locs hr23 hP hD hS => ?_)
      have hP : va_P (dC, dI) vwCl [((b 0), .inr (10, [.ref (b 1), .int (pm), .ref (b 2), .int (r_s), .ref (b 3), .int (r_w), .int (st), .int (nI (n)), .int (nI (w)), .int (wk), .int (tr), .ref (b 4), .ref (b 5), .int (nd), .ref (b 6), .ref (b 7), .int (hd), .ref (b 8), .int (sd), .ref (b 9), .int (kt), .int (kw), .int (kh), .ref (b 10), .ref (b 11), .long (hz)])), ((b 4), .inl (cI, 32, .inl (fun ii => nI (R ii)))), ((b 5), .inl (cI, 5, .inl mm)), ((b 9), .inl (cI, 32, .inl (fun ii => nI (R ii))))] H := hP
      have hD : va_D A [((b 0), .inr (10, [.ref (b 1), .int (pm), .ref (b 2), .int (r_s), .ref (b 3), .int (r_w), .int (st), .int (nI (n)), .int (nI (w)), .int (wk), .int (tr), .ref (b 4), .ref (b 5), .int (nd), .ref (b 6), .ref (b 7), .int (hd), .ref (b 8), .int (sd), .ref (b 9), .int (kt), .int (kw), .int (kh), .ref (b 10), .ref (b 11), .long (hz)])), ((b 4), .inl (cI, 32, .inl (fun ii => nI (R ii)))), ((b 5), .inl (cI, 5, .inl mm)), ((b 9), .inl (cI, 32, .inl (fun ii => nI (R ii))))] := hD
      refine lv_aload_n hx hb dX10_years_52 rfl (lv_at hl 0 rfl) ?_
      refine lv_iload_n hx hb dX10_years_53 rfl (lv_at hl 2 rfl) ?_
      refine va_put (D := (dC, dI)) (ci := 10) (v := .int (nI (x_))) (ty := .int) (C := RX10) (T := TX10) (N := 26) hx hb hts (fun _ h => List.mem_cons_of_mem _ (List.mem_append_right _ (h))) tyX10 tyX10_ok nmX10 hown hK.1 hP hD hS 0 rfl rfl 18 (by decide) (hts (Cond.fieldLink RX10 163 "WorstVoiceModel" "seedNow" "I") (List.mem_of_getElem? (i := 6) rfl)) (fun _ h9 => h9) rfl (by decide +kernel) rfl rfl (Nat.le_of_ble_eq_true rfl) dX10_years_54 (fun H locs hP hD hS => ?_)
      have hP : va_P (dC, dI) vwCl [((b 0), .inr (10, [.ref (b 1), .int (pm), .ref (b 2), .int (r_s), .ref (b 3), .int (r_w), .int (st), .int (nI (n)), .int (nI (w)), .int (wk), .int (tr), .ref (b 4), .ref (b 5), .int (nd), .ref (b 6), .ref (b 7), .int (hd), .ref (b 8), .int (nI (x_)), .ref (b 9), .int (kt), .int (kw), .int (kh), .ref (b 10), .ref (b 11), .long (hz)])), ((b 4), .inl (cI, 32, .inl (fun ii => nI (R ii)))), ((b 5), .inl (cI, 5, .inl mm)), ((b 9), .inl (cI, 32, .inl (fun ii => nI (R ii))))] H := hP
      have hD : va_D A [((b 0), .inr (10, [.ref (b 1), .int (pm), .ref (b 2), .int (r_s), .ref (b 3), .int (r_w), .int (st), .int (nI (n)), .int (nI (w)), .int (wk), .int (tr), .ref (b 4), .ref (b 5), .int (nd), .ref (b 6), .ref (b 7), .int (hd), .ref (b 8), .int (nI (x_)), .ref (b 9), .int (kt), .int (kw), .int (kh), .ref (b 10), .ref (b 11), .long (hz)])), ((b 4), .inl (cI, 32, .inl (fun ii => nI (R ii)))), ((b 5), .inl (cI, 5, .inl mm)), ((b 9), .inl (cI, 32, .inl (fun ii => nI (R ii))))] := hD
      refine lv_iconst (v := nI (0)) hx hb dX10_years_57 (by decide) ?_
      refine lv_istore (lv' := [(4, .int (nI (0))), (0, .ref (b 0)), (1, .int (nI (t_))), (2, .int (nI (x_))), (3, .int (nI (z_)))]) hx hb dX10_years_58 hl (by decide) rfl (fun ls hl => ?_)
      refine lv_iconst (v := -1) hx hb dX10_years_60 (by decide) ?_
      refine lv_istore (lv' := [(5, .int (-1)), (4, .int (nI (0))), (0, .ref (b 0)), (1, .int (nI (t_))), (2, .int (nI (x_))), (3, .int (nI (z_)))]) hx hb dX10_years_61 hl (by decide) rfl (fun ls hl => ?_)
      refine lv_iconst (v := nI (0)) hx hb dX10_years_63 (by decide) ?_
      refine lv_istore (lv' := [(6, .int (nI (0))), (5, .int (-1)), (4, .int (nI (0))), (0, .ref (b 0)), (1, .int (nI (t_))), (2, .int (nI (x_))), (3, .int (nI (z_)))]) hx hb dX10_years_64 hl (by decide) rfl (fun ls hl => ?_)
      have hP : va_P (dC, dI) vwCl [((b 0), .inr (10, [.ref (b 1), .int (pm), .ref (b 2), .int (r_s), .ref (b 3), .int (r_w), .int (st), .int (nI (n)), .int (nI (w)), .int (wk), .int (tr), .ref (b 4), .ref (b 5), .int (nd), .ref (b 6), .ref (b 7), .int (hd), .ref (b 8), .int (nI ((yR R mi n w x_ 0).2.1)), .ref (b 9), .int (kt), .int (kw), .int (kh), .ref (b 10), .ref (b 11), .long (hz)])), ((b 4), .inl (cI, 32, .inl (fun ii => nI (((yR R mi n w x_ 0).1) ii)))), ((b 5), .inl (cI, 5, .inl mm)), ((b 9), .inl (cI, 32, .inl (fun ii => nI (((yR R mi n w x_ 0).1) ii))))] H := hP
      have hD : va_D A [((b 0), .inr (10, [.ref (b 1), .int (pm), .ref (b 2), .int (r_s), .ref (b 3), .int (r_w), .int (st), .int (nI (n)), .int (nI (w)), .int (wk), .int (tr), .ref (b 4), .ref (b 5), .int (nd), .ref (b 6), .ref (b 7), .int (hd), .ref (b 8), .int (nI ((yR R mi n w x_ 0).2.1)), .ref (b 9), .int (kt), .int (kw), .int (kh), .ref (b 10), .ref (b 11), .long (hz)])), ((b 4), .inl (cI, 32, .inl (fun ii => nI (((yR R mi n w x_ 0).1) ii)))), ((b 5), .inl (cI, 5, .inl mm)), ((b 9), .inl (cI, 32, .inl (fun ii => nI (((yR R mi n w x_ 0).1) ii))))] := hD
      exact (hG _ _ _).mp (L66 (t_ + 1) (0) (by omega) (by omega) _ _ hP hD hS _ (lv_sub hl [3, 4, 5, 6, 2, 1, 0] rfl))
    · have c21 := (z_eq (by omega)).mp c21
      exfalso; omega
  · have c20 := bI_0.mp c20
    exfalso; omega

set_option maxHeartbeats 4000000 in
set_option maxRecDepth 100000 in
theorem c_M_say (l : Launch) (dC : Nat → ClassId) (dI : Nat → Nat → Nat) (cI : ClassId) (sz : Nat) (b : Nat → Nat) (pm r_s r_w st : Int32) (n w : Nat) (wk tr nd hd sd kt kw kh : Int32) (hz : Int64) (v_ : Int64) : Met l yX10_say wsX10_say ({ frames := 0, cells := 0, slots := 0, locals := 0 } : Room) (muP dC dI cI ([moW b pm r_s r_w st n w wk tr nd hd sd kt kw kh hz]) sz [.ref (b 0), .long (v_)]) (muV dC dI ([moW b pm r_s r_w st n w wk tr nd hd sd kt kw kh hz]) sz (fun (_ : Unit) => [moW b pm r_s r_w st n w wk tr nd hd sd kt kw kh (31 * hz + v_)]) (fun _ => True)) 0 0 (va_A ([moW b pm r_s r_w st n w wk tr nd hd sd kt kw kh hz]) sz) := by
  refine Met.ofW (cc := cX10_say) (maxL := 3) (ret := none) (by decide) rfl ?_
  intro p e s m args below meth c s₁ B hml hv
  obtain ⟨rfl, hsz, hP, hK, hD0⟩ := hv
  have hx := B.exec
  have hb := B.bytes
  have hr := B.returns
  have hts := atoms_spec (ws := wsX10_say) B.pre
  have hown : s.vm.findClass RX10 = some m.cls := findClass_of_methodNamed B.named
  have hlocks := B.notSynchronized
  subst hsz
  unfold muV muB
  have hD := hD0.self (sz := s.heap.size)
  generalize hAe : va_A ([moW b pm r_s r_w st n w wk tr nd hd sd kt kw kh hz]) s.heap.size = A at hD ⊢
  have hA : ∀ q : Nat, s.heap.size ≤ q → A q := fun q h => by rw [← hAe]; exact Or.inr h
  have hS : va_S A s.heap s.heap [] := va_S.rf
  have hl := lv_entry ([.ref (b 0), .long (v_)]) (n := 3) (Nat.le_of_ble_eq_true rfl)
  rw [lg_entry_eq]
  generalize (lg_sl ([.ref (b 0), .long (v_)]) ++ List.replicate (3 - (lg_sl ([.ref (b 0), .long (v_)])).length) Slot.unset).toArray = ls at hl ⊢
  have hl : lv_has ls 3 [(0, .ref (b 0)), (1, .long (v_))] := hl
  refine lv_aload_n hx hb dX10_say_0 rfl (lv_at hl 0 rfl) ?_
  refine lv_ldc2 (v := 31) hx hb hown (hts (Cond.constantLong RX10 190 (31)) (List.mem_of_getElem? (i := 1) rfl)) dX10_say_1 ?_
  refine lv_aload_n hx hb dX10_say_4 rfl (lv_at hl 0 rfl) ?_
  refine va_get (D := (dC, dI)) (ci := 10) (v := .long (hz)) (C := RX10) (T := TX10) (N := 26) hx hb hts (fun _ h => List.mem_cons_of_mem _ (List.mem_append_right _ (h))) hown hK.1 hP 0 rfl rfl 25 (by decide) (hts (Cond.fieldLink RX10 192 "WorstVoiceModel" "hash" "J") (List.mem_of_getElem? (i := 2) rfl)) (fun _ h9 => h9) rfl dX10_say_5 ?_
  refine lv_lmul hx hb dX10_say_8 ?_
  refine lv_lload_n hx hb dX10_say_9 rfl (lv_at hl 1 rfl) ?_
  refine lv_ladd hx hb dX10_say_10 ?_
  refine va_put (D := (dC, dI)) (ci := 10) (v := .long ((31 * hz) + v_)) (ty := .long) (C := RX10) (T := TX10) (N := 26) hx hb hts (fun _ h => List.mem_cons_of_mem _ (List.mem_append_right _ (h))) tyX10 tyX10_ok nmX10 hown hK.1 hP hD hS 0 rfl rfl 25 (by decide) (hts (Cond.fieldLink RX10 192 "WorstVoiceModel" "hash" "J") (List.mem_of_getElem? (i := 2) rfl)) (fun _ h9 => h9) rfl (by decide +kernel) rfl rfl (Nat.le_of_ble_eq_true rfl) dX10_say_11 (fun H locs hP hD hS => ?_)
  have hP : va_P (dC, dI) vwCl [((b 0), .inr (10, [.ref (b 1), .int (pm), .ref (b 2), .int (r_s), .ref (b 3), .int (r_w), .int (st), .int (nI (n)), .int (nI (w)), .int (wk), .int (tr), .ref (b 4), .ref (b 5), .int (nd), .ref (b 6), .ref (b 7), .int (hd), .ref (b 8), .int (sd), .ref (b 9), .int (kt), .int (kw), .int (kh), .ref (b 10), .ref (b 11), .long ((31 * hz) + v_)]))] H := hP
  have hD : va_D A [((b 0), .inr (10, [.ref (b 1), .int (pm), .ref (b 2), .int (r_s), .ref (b 3), .int (r_w), .int (st), .int (nI (n)), .int (nI (w)), .int (wk), .int (tr), .ref (b 4), .ref (b 5), .int (nd), .ref (b 6), .ref (b 7), .int (hd), .ref (b 8), .int (sd), .ref (b 9), .int (kt), .int (kw), .int (kh), .ref (b 10), .ref (b 11), .long ((31 * hz) + v_)]))] := hD
  exact W.vret hx hb hr (fun t ht hW => ⟨⟨(), rfl, trivial, by rw [ht]; exact hP, hD.as rfl⟩, hS.F ht⟩) hS.2.2 dX10_say_14

set_option maxHeartbeats 4000000 in
set_option maxRecDepth 100000 in
theorem c_M_saySinger (l : Launch) (dC : Nat → ClassId) (dI : Nat → Nat → Nat) (cI : ClassId) (sz : Nat) (b : Nat → Nat) (pm r_s r_w st : Int32) (n w : Nat) (wk tr nd hd sd kt kw kh : Int32) (hz : Int64) (R mi : Nat → Nat) (mm : Nat → Int32) (hm : ∀ k, k < w → mm k = nI (mi k)) (hm4 : ∀ k, k < w → mi k < 4) (hR : WR R) (hn : n ≤ 4) (hn1 : 1 ≤ n) (hw : w ≤ 5) (s_ : Nat) (hs : s_ < n) : Met l yX10_saySinger wsX10_saySinger ({ frames := 5, cells := 0, slots := 0, locals := 120 } : Room) (muP dC dI cI ([moW b pm r_s r_w st n w wk tr nd hd sd kt kw kh hz] ++ [(b 4, .inl (cI, 32, .inl (fun i => nI (R i))))] ++ [(b 5, .inl (cI, 5, .inl mm))]) sz [.ref (b 0), .int (nI (s_))]) (muV dC dI ([moW b pm r_s r_w st n w wk tr nd hd sd kt kw kh hz] ++ [(b 4, .inl (cI, 32, .inl (fun i => nI (R i))))] ++ [(b 5, .inl (cI, 5, .inl mm))]) sz (fun (_ : Unit) => [moW b pm r_s r_w st n w wk tr nd hd sd kt kw kh (dS R mi n w s_ hz 15)] ++ [(b 4, .inl (cI, 32, .inl (fun i => nI (R i))))] ++ [(b 5, .inl (cI, 5, .inl mm))]) (fun _ => True)) 0 0 (va_A ([moW b pm r_s r_w st n w wk tr nd hd sd kt kw kh hz] ++ [(b 4, .inl (cI, 32, .inl (fun i => nI (R i))))] ++ [(b 5, .inl (cI, 5, .inl mm))]) sz) := by
  refine Met.ofW (cc := cX10_saySinger) (maxL := 3) (ret := none) (by decide) rfl ?_
  intro p e s m args below meth c s₁ B hml hv
  obtain ⟨rfl, hsz, hP, hK, hD0⟩ := hv
  have hx := B.exec
  have hb := B.bytes
  have hr := B.returns
  have hts := atoms_spec (ws := wsX10_saySinger) B.pre
  have hown : s.vm.findClass RX10 = some m.cls := findClass_of_methodNamed B.named
  have hlocks := B.notSynchronized
  subst hsz
  unfold muV muB
  have hD := hD0.self (sz := s.heap.size)
  generalize hAe : va_A ([moW b pm r_s r_w st n w wk tr nd hd sd kt kw kh hz] ++ [(b 4, .inl (cI, 32, .inl (fun i => nI (R i))))] ++ [(b 5, .inl (cI, 5, .inl mm))]) s.heap.size = A at hD ⊢
  have hA : ∀ q : Nat, s.heap.size ≤ q → A q := fun q h => by rw [← hAe]; exact Or.inr h
  have hS : va_S A s.heap s.heap [] := va_S.rf
  have hl := lv_entry ([.ref (b 0), .int (nI (s_))]) (n := 3) (Nat.le_of_ble_eq_true rfl)
  rw [lg_entry_eq]
  generalize (lg_sl ([.ref (b 0), .int (nI (s_))]) ++ List.replicate (3 - (lg_sl ([.ref (b 0), .int (nI (s_))])).length) Slot.unset).toArray = ls at hl ⊢
  have hl : lv_has ls 3 [(0, .ref (b 0)), (1, .int (nI (s_)))] := hl
  refine W_abs (fun G hG => ?_)
  have L2 : ∀ (fu : Nat) (k : Nat), k ≤ 24 → 24 + 1 ≤ k + fu → ∀ (H : Heap) (locs : List Loc), va_P (dC, dI) vwCl [((b 0), .inr (10, [.ref (b 1), .int (pm), .ref (b 2), .int (r_s), .ref (b 3), .int (r_w), .int (st), .int (nI (n)), .int (nI (w)), .int (wk), .int (tr), .ref (b 4), .ref (b 5), .int (nd), .ref (b 6), .ref (b 7), .int (hd), .ref (b 8), .int (sd), .ref (b 9), .int (kt), .int (kw), .int (kh), .ref (b 10), .ref (b 11), .long (dS R mi n w s_ hz (cw_ k))])), ((b 4), .inl (cI, 32, .inl (fun ii => nI (R ii)))), ((b 5), .inl (cI, 5, .inl mm))] H → va_D A [((b 0), .inr (10, [.ref (b 1), .int (pm), .ref (b 2), .int (r_s), .ref (b 3), .int (r_w), .int (st), .int (nI (n)), .int (nI (w)), .int (wk), .int (tr), .ref (b 4), .ref (b 5), .int (nd), .ref (b 6), .ref (b 7), .int (hd), .ref (b 8), .int (sd), .ref (b 9), .int (kt), .int (kw), .int (kh), .ref (b 10), .ref (b 11), .long (dS R mi n w s_ hz (cw_ k))])), ((b 4), .inl (cI, 32, .inl (fun ii => nI (R ii)))), ((b 5), .inl (cI, 5, .inl mm))] → va_S A s.heap H locs → ∀ (ls : Array Slot), lv_has ls 3 [(0, .ref (b 0)), (1, .int (nI (s_))), (2, .int (nI (k)))] → G H locs (F0 m 2 ls []) := by
    intro fu
    induction fu with
    | zero => intro k h2 hfu H locs hP hD hS ls hl; omega
    | succ fu ih2 =>
      intro k h2 hfu H locs hP hD hS ls hl
      refine (hG _ _ _).mpr ?_
      refine lv_iload_n hx hb dX10_saySinger_2 rfl (lv_at hl 2 rfl) ?_
      refine lv_bipush (v := nI (24)) hx hb dX10_saySinger_3 (by decide) ?_
      refine lv_icmp_ge (tgt := 51) hx hb dX10_saySinger_5 (by decide) (fun c1 => ?_) (fun c1 => ?_)
      · have c1 := (nI_leI (by decide) (by omega)).mp c1
        have hP9 := hP
        rw [show k = 24 by omega] at hP9
        exact W.vret hx hb hr (fun t ht hW => ⟨⟨(), rfl, trivial, by rw [ht]; exact hP9, hD.as rfl⟩, hS.F ht⟩) hS.2.2 dX10_saySinger_51
      · have c1 := mt (nI_leI (by decide) (by omega)).mpr c1
        refine lv_iload_n hx hb dX10_saySinger_8 rfl (lv_at hl 2 rfl) ?_
        refine lv_bipush (v := nI (7)) hx hb dX10_saySinger_9 (by decide) ?_
        refine lv_icmp_lt (tgt := 34) hx hb dX10_saySinger_11 (by decide) (fun c2 => ?_) (fun c2 => ?_)
        · have c2 := (nI_ltI (by omega) (by decide)).mp c2
          refine lv_aload_n hx hb dX10_saySinger_34 rfl (lv_at hl 0 rfl) ?_
          refine lv_aload_n hx hb dX10_saySinger_35 rfl (lv_at hl 0 rfl) ?_
          refine lv_iload_n hx hb dX10_saySinger_36 rfl (lv_at hl 1 rfl) ?_
          refine lv_iload_n hx hb dX10_saySinger_37 rfl (lv_at hl 2 rfl) ?_
          refine mu_calli (wr := []) (wn := (fun _ => [((b 0), .inr (10, [.ref (b 1), .int (pm), .ref (b 2), .int (r_s), .ref (b 3), .int (r_w), .int (st), .int (nI (n)), .int (nI (w)), .int (wk), .int (tr), .ref (b 4), .ref (b 5), .int (nd), .ref (b 6), .ref (b 7), .int (hd), .ref (b 8), .int (sd), .ref (b 9), .int (kt), .int (kw), .int (kh), .ref (b 10), .ref (b 11), .long (dS R mi n w s_ hz (cw_ k))])), ((b 4), .inl (cI, 32, .inl (fun ii => nI (R ii)))), ((b 5), .inl (cI, 5, .inl mm))])) (va_runV (As := [.int (nI (s_)), .int (nI (k))]) (rest := [.ref (b 0)]) ⟨hx, hb, hml, hown, hts⟩ (c_M_tell l dC dI cI _ b pm r_s r_w st n w wk tr nd hd sd kt kw kh (dS R mi n w s_ hz (cw_ k)) R mi mm hm hm4 hR hn (by omega) hw (s_) (by omega) (nI (k))) (cwV 2 hts gX10_saySinger_X10_tell rfl rfl rfl (by decide +kernel) ⟨Nat.le_of_ble_eq_true rfl, Nat.le_of_ble_eq_true rfl⟩) (mu_pv hK hP hD [0, 1, 2] (by decide) rfl rfl (ci := 10) (q0 := 0) (C := RX10) (T := TX10) (N := 26) rfl rfl) rfl rfl hl.1 rfl (lv_room (Nat.le_of_ble_eq_true rfl)) dX10_saySinger_38 ⟨Nat.zero_le _, Nat.zero_le _⟩) hS hA hP hD [0, 1, 2] [] [0, 1, 2] rfl rfl (by decide) (by decide) (by decide) (fun _ => rfl) (fun _ => rfl) (fun r4 u3 H locs hr4 hP hD hS => ?_)
          subst hr4
          refine tp_i (z := tS R mi n w s_ k) (aS_n (by omega)) ?_
          have hP : va_P (dC, dI) vwCl [((b 0), .inr (10, [.ref (b 1), .int (pm), .ref (b 2), .int (r_s), .ref (b 3), .int (r_w), .int (st), .int (nI (n)), .int (nI (w)), .int (wk), .int (tr), .ref (b 4), .ref (b 5), .int (nd), .ref (b 6), .ref (b 7), .int (hd), .ref (b 8), .int (sd), .ref (b 9), .int (kt), .int (kw), .int (kh), .ref (b 10), .ref (b 11), .long (dS R mi n w s_ hz (cw_ k))])), ((b 4), .inl (cI, 32, .inl (fun ii => nI (R ii)))), ((b 5), .inl (cI, 5, .inl mm))] H := hP
          have hD : va_D A [((b 0), .inr (10, [.ref (b 1), .int (pm), .ref (b 2), .int (r_s), .ref (b 3), .int (r_w), .int (st), .int (nI (n)), .int (nI (w)), .int (wk), .int (tr), .ref (b 4), .ref (b 5), .int (nd), .ref (b 6), .ref (b 7), .int (hd), .ref (b 8), .int (sd), .ref (b 9), .int (kt), .int (kw), .int (kh), .ref (b 10), .ref (b 11), .long (dS R mi n w s_ hz (cw_ k))])), ((b 4), .inl (cI, 32, .inl (fun ii => nI (R ii)))), ((b 5), .inl (cI, 5, .inl mm))] := hD
          refine lv_i2l (v := (tS R mi n w s_ k).toInt64) hx hb dX10_saySinger_41 rfl ?_
          refine mu_callv (wr := [((b 4), .inl (cI, 32, .inl (fun ii => nI (R ii)))), ((b 5), .inl (cI, 5, .inl mm))]) (wn := (fun _ => [((b 0), .inr (10, [.ref (b 1), .int (pm), .ref (b 2), .int (r_s), .ref (b 3), .int (r_w), .int (st), .int (nI (n)), .int (nI (w)), .int (wk), .int (tr), .ref (b 4), .ref (b 5), .int (nd), .ref (b 6), .ref (b 7), .int (hd), .ref (b 8), .int (sd), .ref (b 9), .int (kt), .int (kw), .int (kh), .ref (b 10), .ref (b 11), .long (dg (dS R mi n w s_ hz (cw_ k)) (tS R mi n w s_ k))])), ((b 4), .inl (cI, 32, .inl (fun ii => nI (R ii)))), ((b 5), .inl (cI, 5, .inl mm))])) (va_runV (As := [.long ((tS R mi n w s_ k).toInt64)]) (rest := []) ⟨hx, hb, hml, hown, hts⟩ (c_M_say l dC dI cI _ b pm r_s r_w st n w wk tr nd hd sd kt kw kh (dS R mi n w s_ hz (cw_ k)) ((tS R mi n w s_ k).toInt64)) (cwV 1 hts gX10_saySinger_X10_say rfl rfl rfl (by decide +kernel) ⟨Nat.le_of_ble_eq_true rfl, Nat.le_of_ble_eq_true rfl⟩) (mu_pv hK hP hD [0] (by decide) rfl rfl (ci := 10) (q0 := 0) (C := RX10) (T := TX10) (N := 26) rfl rfl) rfl rfl hl.1 rfl (lv_room (Nat.le_of_ble_eq_true rfl)) dX10_saySinger_42 ⟨Nat.zero_le _, Nat.zero_le _⟩) hS hA hP hD [0] [1, 2] [2, 0, 1] rfl rfl (by decide) (by decide) (by decide) (fun _ => rfl) (fun _ => rfl) (fun u5 H locs hr6 hP hD hS => ?_)
          have hP : va_P (dC, dI) vwCl [((b 0), .inr (10, [.ref (b 1), .int (pm), .ref (b 2), .int (r_s), .ref (b 3), .int (r_w), .int (st), .int (nI (n)), .int (nI (w)), .int (wk), .int (tr), .ref (b 4), .ref (b 5), .int (nd), .ref (b 6), .ref (b 7), .int (hd), .ref (b 8), .int (sd), .ref (b 9), .int (kt), .int (kw), .int (kh), .ref (b 10), .ref (b 11), .long (dg (dS R mi n w s_ hz (cw_ k)) (tS R mi n w s_ k))])), ((b 4), .inl (cI, 32, .inl (fun ii => nI (R ii)))), ((b 5), .inl (cI, 5, .inl mm))] H := hP
          have hD : va_D A [((b 0), .inr (10, [.ref (b 1), .int (pm), .ref (b 2), .int (r_s), .ref (b 3), .int (r_w), .int (st), .int (nI (n)), .int (nI (w)), .int (wk), .int (tr), .ref (b 4), .ref (b 5), .int (nd), .ref (b 6), .ref (b 7), .int (hd), .ref (b 8), .int (sd), .ref (b 9), .int (kt), .int (kw), .int (kh), .ref (b 10), .ref (b 11), .long (dg (dS R mi n w s_ hz (cw_ k)) (tS R mi n w s_ k))])), ((b 4), .inl (cI, 32, .inl (fun ii => nI (R ii)))), ((b 5), .inl (cI, 5, .inl mm))] := hD
          refine lv_iinc (v := nI (k + 1)) (lv' := [(2, .int (nI (k + 1))), (0, .ref (b 0)), (1, .int (nI (s_)))]) hx hb dX10_saySinger_45 hl (k := 2) rfl (nI_add (k) 1) (by decide) rfl (fun ls hl => ?_)
          refine lv_goto (tgt := 2) hx hb dX10_saySinger_48 (by decide) ?_
          rw [← dS_y (by omega) (by omega)] at hP hD
          exact (hG _ _ _).mp (ih2 (k + 1) (by omega) (by omega) _ _ hP hD hS _ (lv_sub hl [1, 2, 0] rfl))
        · have c2 := mt (nI_ltI (by omega) (by decide)).mpr c2
          refine lv_iload_n hx hb dX10_saySinger_14 rfl (lv_at hl 2 rfl) ?_
          refine lv_i2l (v := (nI (k)).toInt64) hx hb dX10_saySinger_15 rfl ?_
          refine lv_ldc2 (v := 10) hx hb hown (hts (Cond.constantLong RX10 110 (10)) (List.mem_of_getElem? (i := 1) rfl)) dX10_saySinger_16 ?_
          refine tp_l (z := (nI 10).toInt64) (by decide) ?_
          refine lv_ldc2 (v := 13) hx hb hown (hts (Cond.constantLong RX10 112 (13)) (List.mem_of_getElem? (i := 2) rfl)) dX10_saySinger_19 ?_
          refine tp_l (z := (nI 13).toInt64) (by decide) ?_
          refine ro_calli (va_runS (As := [.long ((nI (k)).toInt64), .long ((nI 10).toInt64), .long ((nI 13).toInt64)]) (rest := []) ⟨hx, hb, hml, hown, hts⟩ (c_X10_in l dC dI cI (nI (k)) (nI 10) (nI 13)) (va_cwS 3 hts gX10_saySinger_X10_in rfl rfl rfl (by decide +kernel) ⟨Nat.le_of_ble_eq_true rfl, Nat.le_of_ble_eq_true rfl⟩) (ro_ps hK hP [] rfl) rfl rfl hl.1 rfl (lv_room (Nat.le_of_ble_eq_true rfl)) dX10_saySinger_22 ⟨Nat.zero_le _, Nat.zero_le _⟩) hS hP (fun r7 H locs hr7 hP hS => ?_)
          subst hr7
          have e8 : bI ((nI 10).toInt ≤ (nI (k)).toInt ∧ (nI (k)).toInt ≤ (nI 13).toInt) = bI ((10 : Int) ≤ (k : Int) ∧ (k : Int) ≤ (13 : Int)) := bI_i (by rw [nI_toInt (n := k) (by omega), nI_toInt (n := 10) (by decide), nI_toInt (n := 13) (by decide)] <;> omega)
          refine tp_i (z := bI ((10 : Int) ≤ (k : Int) ∧ (k : Int) ≤ (13 : Int))) e8 ?_
          refine lv_if_ne (tgt := 34) hx hb dX10_saySinger_25 (by decide) (fun c9 => ?_) (fun c9 => ?_)
          · have c9 := Decidable.not_not.mp (mt bI_0.mpr c9)
            refine lv_aload_n hx hb dX10_saySinger_34 rfl (lv_at hl 0 rfl) ?_
            refine lv_aload_n hx hb dX10_saySinger_35 rfl (lv_at hl 0 rfl) ?_
            refine lv_iload_n hx hb dX10_saySinger_36 rfl (lv_at hl 1 rfl) ?_
            refine lv_iload_n hx hb dX10_saySinger_37 rfl (lv_at hl 2 rfl) ?_
            refine mu_calli (wr := []) (wn := (fun _ => [((b 0), .inr (10, [.ref (b 1), .int (pm), .ref (b 2), .int (r_s), .ref (b 3), .int (r_w), .int (st), .int (nI (n)), .int (nI (w)), .int (wk), .int (tr), .ref (b 4), .ref (b 5), .int (nd), .ref (b 6), .ref (b 7), .int (hd), .ref (b 8), .int (sd), .ref (b 9), .int (kt), .int (kw), .int (kh), .ref (b 10), .ref (b 11), .long (dS R mi n w s_ hz (cw_ k))])), ((b 4), .inl (cI, 32, .inl (fun ii => nI (R ii)))), ((b 5), .inl (cI, 5, .inl mm))])) (va_runV (As := [.int (nI (s_)), .int (nI (k))]) (rest := [.ref (b 0)]) ⟨hx, hb, hml, hown, hts⟩ (c_M_tell l dC dI cI _ b pm r_s r_w st n w wk tr nd hd sd kt kw kh (dS R mi n w s_ hz (cw_ k)) R mi mm hm hm4 hR hn (by omega) hw (s_) (by omega) (nI (k))) (cwV 2 hts gX10_saySinger_X10_tell rfl rfl rfl (by decide +kernel) ⟨Nat.le_of_ble_eq_true rfl, Nat.le_of_ble_eq_true rfl⟩) (mu_pv hK hP hD [0, 1, 2] (by decide) rfl rfl (ci := 10) (q0 := 0) (C := RX10) (T := TX10) (N := 26) rfl rfl) rfl rfl hl.1 rfl (lv_room (Nat.le_of_ble_eq_true rfl)) dX10_saySinger_38 ⟨Nat.zero_le _, Nat.zero_le _⟩) hS hA hP hD [0, 1, 2] [] [0, 1, 2] rfl rfl (by decide) (by decide) (by decide) (fun _ => rfl) (fun _ => rfl) (fun r11 u10 H locs hr11 hP hD hS => ?_)
            subst hr11
            refine tp_i (z := tS R mi n w s_ k) (aS_n (by omega)) ?_
            have hP : va_P (dC, dI) vwCl [((b 0), .inr (10, [.ref (b 1), .int (pm), .ref (b 2), .int (r_s), .ref (b 3), .int (r_w), .int (st), .int (nI (n)), .int (nI (w)), .int (wk), .int (tr), .ref (b 4), .ref (b 5), .int (nd), .ref (b 6), .ref (b 7), .int (hd), .ref (b 8), .int (sd), .ref (b 9), .int (kt), .int (kw), .int (kh), .ref (b 10), .ref (b 11), .long (dS R mi n w s_ hz (cw_ k))])), ((b 4), .inl (cI, 32, .inl (fun ii => nI (R ii)))), ((b 5), .inl (cI, 5, .inl mm))] H := hP
            have hD : va_D A [((b 0), .inr (10, [.ref (b 1), .int (pm), .ref (b 2), .int (r_s), .ref (b 3), .int (r_w), .int (st), .int (nI (n)), .int (nI (w)), .int (wk), .int (tr), .ref (b 4), .ref (b 5), .int (nd), .ref (b 6), .ref (b 7), .int (hd), .ref (b 8), .int (sd), .ref (b 9), .int (kt), .int (kw), .int (kh), .ref (b 10), .ref (b 11), .long (dS R mi n w s_ hz (cw_ k))])), ((b 4), .inl (cI, 32, .inl (fun ii => nI (R ii)))), ((b 5), .inl (cI, 5, .inl mm))] := hD
            refine lv_i2l (v := (tS R mi n w s_ k).toInt64) hx hb dX10_saySinger_41 rfl ?_
            refine mu_callv (wr := [((b 4), .inl (cI, 32, .inl (fun ii => nI (R ii)))), ((b 5), .inl (cI, 5, .inl mm))]) (wn := (fun _ => [((b 0), .inr (10, [.ref (b 1), .int (pm), .ref (b 2), .int (r_s), .ref (b 3), .int (r_w), .int (st), .int (nI (n)), .int (nI (w)), .int (wk), .int (tr), .ref (b 4), .ref (b 5), .int (nd), .ref (b 6), .ref (b 7), .int (hd), .ref (b 8), .int (sd), .ref (b 9), .int (kt), .int (kw), .int (kh), .ref (b 10), .ref (b 11), .long (dg (dS R mi n w s_ hz (cw_ k)) (tS R mi n w s_ k))])), ((b 4), .inl (cI, 32, .inl (fun ii => nI (R ii)))), ((b 5), .inl (cI, 5, .inl mm))])) (va_runV (As := [.long ((tS R mi n w s_ k).toInt64)]) (rest := []) ⟨hx, hb, hml, hown, hts⟩ (c_M_say l dC dI cI _ b pm r_s r_w st n w wk tr nd hd sd kt kw kh (dS R mi n w s_ hz (cw_ k)) ((tS R mi n w s_ k).toInt64)) (cwV 1 hts gX10_saySinger_X10_say rfl rfl rfl (by decide +kernel) ⟨Nat.le_of_ble_eq_true rfl, Nat.le_of_ble_eq_true rfl⟩) (mu_pv hK hP hD [0] (by decide) rfl rfl (ci := 10) (q0 := 0) (C := RX10) (T := TX10) (N := 26) rfl rfl) rfl rfl hl.1 rfl (lv_room (Nat.le_of_ble_eq_true rfl)) dX10_saySinger_42 ⟨Nat.zero_le _, Nat.zero_le _⟩) hS hA hP hD [0] [1, 2] [2, 0, 1] rfl rfl (by decide) (by decide) (by decide) (fun _ => rfl) (fun _ => rfl) (fun u12 H locs hr13 hP hD hS => ?_)
            have hP : va_P (dC, dI) vwCl [((b 0), .inr (10, [.ref (b 1), .int (pm), .ref (b 2), .int (r_s), .ref (b 3), .int (r_w), .int (st), .int (nI (n)), .int (nI (w)), .int (wk), .int (tr), .ref (b 4), .ref (b 5), .int (nd), .ref (b 6), .ref (b 7), .int (hd), .ref (b 8), .int (sd), .ref (b 9), .int (kt), .int (kw), .int (kh), .ref (b 10), .ref (b 11), .long (dg (dS R mi n w s_ hz (cw_ k)) (tS R mi n w s_ k))])), ((b 4), .inl (cI, 32, .inl (fun ii => nI (R ii)))), ((b 5), .inl (cI, 5, .inl mm))] H := hP
            have hD : va_D A [((b 0), .inr (10, [.ref (b 1), .int (pm), .ref (b 2), .int (r_s), .ref (b 3), .int (r_w), .int (st), .int (nI (n)), .int (nI (w)), .int (wk), .int (tr), .ref (b 4), .ref (b 5), .int (nd), .ref (b 6), .ref (b 7), .int (hd), .ref (b 8), .int (sd), .ref (b 9), .int (kt), .int (kw), .int (kh), .ref (b 10), .ref (b 11), .long (dg (dS R mi n w s_ hz (cw_ k)) (tS R mi n w s_ k))])), ((b 4), .inl (cI, 32, .inl (fun ii => nI (R ii)))), ((b 5), .inl (cI, 5, .inl mm))] := hD
            refine lv_iinc (v := nI (k + 1)) (lv' := [(2, .int (nI (k + 1))), (0, .ref (b 0)), (1, .int (nI (s_)))]) hx hb dX10_saySinger_45 hl (k := 2) rfl (nI_add (k) 1) (by decide) rfl (fun ls hl => ?_)
            refine lv_goto (tgt := 2) hx hb dX10_saySinger_48 (by decide) ?_
            rw [← dS_y (by omega) (by omega)] at hP hD
            exact (hG _ _ _).mp (ih2 (k + 1) (by omega) (by omega) _ _ hP hD hS _ (lv_sub hl [1, 2, 0] rfl))
          · have c9 := bI_0.mp c9
            refine lv_iload_n hx hb dX10_saySinger_28 rfl (lv_at hl 2 rfl) ?_
            refine lv_bipush (v := nI (19)) hx hb dX10_saySinger_29 (by decide) ?_
            refine lv_icmp_le (tgt := 45) hx hb dX10_saySinger_31 (by decide) (fun c14 => ?_) (fun c14 => ?_)
            · have c14 := (nI_leI (by omega) (by decide)).mp c14
              refine lv_iinc (v := nI (k + 1)) (lv' := [(2, .int (nI (k + 1))), (0, .ref (b 0)), (1, .int (nI (s_)))]) hx hb dX10_saySinger_45 hl (k := 2) rfl (nI_add (k) 1) (by decide) rfl (fun ls hl => ?_)
              refine lv_goto (tgt := 2) hx hb dX10_saySinger_48 (by decide) ?_
              rw [← cw_n (k := k) (by omega) (by omega)] at hP hD
              exact (hG _ _ _).mp (ih2 (k + 1) (by omega) (by omega) _ _ hP hD hS _ (lv_sub hl [1, 2, 0] rfl))
            · have c14 := mt (nI_leI (by omega) (by decide)).mpr c14
              refine lv_aload_n hx hb dX10_saySinger_34 rfl (lv_at hl 0 rfl) ?_
              refine lv_aload_n hx hb dX10_saySinger_35 rfl (lv_at hl 0 rfl) ?_
              refine lv_iload_n hx hb dX10_saySinger_36 rfl (lv_at hl 1 rfl) ?_
              refine lv_iload_n hx hb dX10_saySinger_37 rfl (lv_at hl 2 rfl) ?_
              refine mu_calli (wr := []) (wn := (fun _ => [((b 0), .inr (10, [.ref (b 1), .int (pm), .ref (b 2), .int (r_s), .ref (b 3), .int (r_w), .int (st), .int (nI (n)), .int (nI (w)), .int (wk), .int (tr), .ref (b 4), .ref (b 5), .int (nd), .ref (b 6), .ref (b 7), .int (hd), .ref (b 8), .int (sd), .ref (b 9), .int (kt), .int (kw), .int (kh), .ref (b 10), .ref (b 11), .long (dS R mi n w s_ hz (cw_ k))])), ((b 4), .inl (cI, 32, .inl (fun ii => nI (R ii)))), ((b 5), .inl (cI, 5, .inl mm))])) (va_runV (As := [.int (nI (s_)), .int (nI (k))]) (rest := [.ref (b 0)]) ⟨hx, hb, hml, hown, hts⟩ (c_M_tell l dC dI cI _ b pm r_s r_w st n w wk tr nd hd sd kt kw kh (dS R mi n w s_ hz (cw_ k)) R mi mm hm hm4 hR hn (by omega) hw (s_) (by omega) (nI (k))) (cwV 2 hts gX10_saySinger_X10_tell rfl rfl rfl (by decide +kernel) ⟨Nat.le_of_ble_eq_true rfl, Nat.le_of_ble_eq_true rfl⟩) (mu_pv hK hP hD [0, 1, 2] (by decide) rfl rfl (ci := 10) (q0 := 0) (C := RX10) (T := TX10) (N := 26) rfl rfl) rfl rfl hl.1 rfl (lv_room (Nat.le_of_ble_eq_true rfl)) dX10_saySinger_38 ⟨Nat.zero_le _, Nat.zero_le _⟩) hS hA hP hD [0, 1, 2] [] [0, 1, 2] rfl rfl (by decide) (by decide) (by decide) (fun _ => rfl) (fun _ => rfl) (fun r16 u15 H locs hr16 hP hD hS => ?_)
              subst hr16
              refine tp_i (z := tS R mi n w s_ k) (aS_n (by omega)) ?_
              have hP : va_P (dC, dI) vwCl [((b 0), .inr (10, [.ref (b 1), .int (pm), .ref (b 2), .int (r_s), .ref (b 3), .int (r_w), .int (st), .int (nI (n)), .int (nI (w)), .int (wk), .int (tr), .ref (b 4), .ref (b 5), .int (nd), .ref (b 6), .ref (b 7), .int (hd), .ref (b 8), .int (sd), .ref (b 9), .int (kt), .int (kw), .int (kh), .ref (b 10), .ref (b 11), .long (dS R mi n w s_ hz (cw_ k))])), ((b 4), .inl (cI, 32, .inl (fun ii => nI (R ii)))), ((b 5), .inl (cI, 5, .inl mm))] H := hP
              have hD : va_D A [((b 0), .inr (10, [.ref (b 1), .int (pm), .ref (b 2), .int (r_s), .ref (b 3), .int (r_w), .int (st), .int (nI (n)), .int (nI (w)), .int (wk), .int (tr), .ref (b 4), .ref (b 5), .int (nd), .ref (b 6), .ref (b 7), .int (hd), .ref (b 8), .int (sd), .ref (b 9), .int (kt), .int (kw), .int (kh), .ref (b 10), .ref (b 11), .long (dS R mi n w s_ hz (cw_ k))])), ((b 4), .inl (cI, 32, .inl (fun ii => nI (R ii)))), ((b 5), .inl (cI, 5, .inl mm))] := hD
              refine lv_i2l (v := (tS R mi n w s_ k).toInt64) hx hb dX10_saySinger_41 rfl ?_
              refine mu_callv (wr := [((b 4), .inl (cI, 32, .inl (fun ii => nI (R ii)))), ((b 5), .inl (cI, 5, .inl mm))]) (wn := (fun _ => [((b 0), .inr (10, [.ref (b 1), .int (pm), .ref (b 2), .int (r_s), .ref (b 3), .int (r_w), .int (st), .int (nI (n)), .int (nI (w)), .int (wk), .int (tr), .ref (b 4), .ref (b 5), .int (nd), .ref (b 6), .ref (b 7), .int (hd), .ref (b 8), .int (sd), .ref (b 9), .int (kt), .int (kw), .int (kh), .ref (b 10), .ref (b 11), .long (dg (dS R mi n w s_ hz (cw_ k)) (tS R mi n w s_ k))])), ((b 4), .inl (cI, 32, .inl (fun ii => nI (R ii)))), ((b 5), .inl (cI, 5, .inl mm))])) (va_runV (As := [.long ((tS R mi n w s_ k).toInt64)]) (rest := []) ⟨hx, hb, hml, hown, hts⟩ (c_M_say l dC dI cI _ b pm r_s r_w st n w wk tr nd hd sd kt kw kh (dS R mi n w s_ hz (cw_ k)) ((tS R mi n w s_ k).toInt64)) (cwV 1 hts gX10_saySinger_X10_say rfl rfl rfl (by decide +kernel) ⟨Nat.le_of_ble_eq_true rfl, Nat.le_of_ble_eq_true rfl⟩) (mu_pv hK hP hD [0] (by decide) rfl rfl (ci := 10) (q0 := 0) (C := RX10) (T := TX10) (N := 26) rfl rfl) rfl rfl hl.1 rfl (lv_room (Nat.le_of_ble_eq_true rfl)) dX10_saySinger_42 ⟨Nat.zero_le _, Nat.zero_le _⟩) hS hA hP hD [0] [1, 2] [2, 0, 1] rfl rfl (by decide) (by decide) (by decide) (fun _ => rfl) (fun _ => rfl) (fun u17 H locs hr18 hP hD hS => ?_)
              have hP : va_P (dC, dI) vwCl [((b 0), .inr (10, [.ref (b 1), .int (pm), .ref (b 2), .int (r_s), .ref (b 3), .int (r_w), .int (st), .int (nI (n)), .int (nI (w)), .int (wk), .int (tr), .ref (b 4), .ref (b 5), .int (nd), .ref (b 6), .ref (b 7), .int (hd), .ref (b 8), .int (sd), .ref (b 9), .int (kt), .int (kw), .int (kh), .ref (b 10), .ref (b 11), .long (dg (dS R mi n w s_ hz (cw_ k)) (tS R mi n w s_ k))])), ((b 4), .inl (cI, 32, .inl (fun ii => nI (R ii)))), ((b 5), .inl (cI, 5, .inl mm))] H := hP
              have hD : va_D A [((b 0), .inr (10, [.ref (b 1), .int (pm), .ref (b 2), .int (r_s), .ref (b 3), .int (r_w), .int (st), .int (nI (n)), .int (nI (w)), .int (wk), .int (tr), .ref (b 4), .ref (b 5), .int (nd), .ref (b 6), .ref (b 7), .int (hd), .ref (b 8), .int (sd), .ref (b 9), .int (kt), .int (kw), .int (kh), .ref (b 10), .ref (b 11), .long (dg (dS R mi n w s_ hz (cw_ k)) (tS R mi n w s_ k))])), ((b 4), .inl (cI, 32, .inl (fun ii => nI (R ii)))), ((b 5), .inl (cI, 5, .inl mm))] := hD
              refine lv_iinc (v := nI (k + 1)) (lv' := [(2, .int (nI (k + 1))), (0, .ref (b 0)), (1, .int (nI (s_)))]) hx hb dX10_saySinger_45 hl (k := 2) rfl (nI_add (k) 1) (by decide) rfl (fun ls hl => ?_)
              refine lv_goto (tgt := 2) hx hb dX10_saySinger_48 (by decide) ?_
              rw [← dS_y (by omega) (by omega)] at hP hD
              exact (hG _ _ _).mp (ih2 (k + 1) (by omega) (by omega) _ _ hP hD hS _ (lv_sub hl [1, 2, 0] rfl))
  refine (hG _ _ _).mpr ?_
  refine lv_iconst (v := nI (0)) hx hb dX10_saySinger_0 (by decide) ?_
  refine lv_istore_n (lv' := [(2, .int (nI (0))), (0, .ref (b 0)), (1, .int (nI (s_)))]) hx hb dX10_saySinger_1 rfl hl (by decide) rfl (fun ls hl => ?_)
  have hP : va_P (dC, dI) vwCl [((b 0), .inr (10, [.ref (b 1), .int (pm), .ref (b 2), .int (r_s), .ref (b 3), .int (r_w), .int (st), .int (nI (n)), .int (nI (w)), .int (wk), .int (tr), .ref (b 4), .ref (b 5), .int (nd), .ref (b 6), .ref (b 7), .int (hd), .ref (b 8), .int (sd), .ref (b 9), .int (kt), .int (kw), .int (kh), .ref (b 10), .ref (b 11), .long (dS R mi n w s_ hz (cw_ 0))])), ((b 4), .inl (cI, 32, .inl (fun ii => nI (R ii)))), ((b 5), .inl (cI, 5, .inl mm))] s.heap := hP
  have hD : va_D A [((b 0), .inr (10, [.ref (b 1), .int (pm), .ref (b 2), .int (r_s), .ref (b 3), .int (r_w), .int (st), .int (nI (n)), .int (nI (w)), .int (wk), .int (tr), .ref (b 4), .ref (b 5), .int (nd), .ref (b 6), .ref (b 7), .int (hd), .ref (b 8), .int (sd), .ref (b 9), .int (kt), .int (kw), .int (kh), .ref (b 10), .ref (b 11), .long (dS R mi n w s_ hz (cw_ 0))])), ((b 4), .inl (cI, 32, .inl (fun ii => nI (R ii)))), ((b 5), .inl (cI, 5, .inl mm))] := hD
  exact (hG _ _ _).mp (L2 (24 + 1) (0) (by omega) (by omega) _ _ hP hD hS _ (lv_sub hl [1, 2, 0] rfl))
