/-! the class: what writes into its parts; the page; what is heard -/
set_option maxHeartbeats 4000000 in
set_option maxRecDepth 100000 in
theorem c_X9_copyRow (l : Launch) (dC : Nat → ClassId) (dI : Nat → Nat → Nat) (cI : ClassId) (sz : Nat) (p_ q_ k_ : Nat) (f_ g_ : Nat → Int32) (hk : k_ < 2 ^ 31) : Met l yX9_copyRow wsX9_copyRow ({ frames := 1, cells := 0, slots := 0, locals := 80 } : Room) (muP dC dI cI ([(p_, .inl (cI, k_, .inl f_)), (q_, .inl (cI, k_, .inl g_))]) sz [.ref p_, .ref q_]) (muV dC dI ([(p_, .inl (cI, k_, .inl f_)), (q_, .inl (cI, k_, .inl g_))]) sz (fun (_ : Unit) => [(p_, .inl (cI, k_, .inl f_)), (q_, .inl (cI, k_, .inl f_))]) (fun _ => True)) 0 0 (va_A ([(p_, .inl (cI, k_, .inl f_)), (q_, .inl (cI, k_, .inl g_))]) sz) := by
  refine Met.ofW (cc := cX9_copyRow) (maxL := 2) (ret := none) (by decide) rfl ?_
  intro p e s m args below meth c s₁ B hml hv
  obtain ⟨rfl, hsz, hP, hK, hD0⟩ := hv
  have hx := B.exec
  have hb := B.bytes
  have hr := B.returns
  have hts := atoms_spec (ws := wsX9_copyRow) B.pre
  have hown : s.vm.findClass RX9 = some m.cls := findClass_of_methodNamed B.named
  have hlocks := B.notSynchronized
  subst hsz
  unfold muV muB
  have hD := hD0.self (sz := s.heap.size)
  generalize hAe : va_A ([(p_, .inl (cI, k_, .inl f_)), (q_, .inl (cI, k_, .inl g_))]) s.heap.size = A at hD ⊢
  have hA : ∀ q : Nat, s.heap.size ≤ q → A q := fun q h => by rw [← hAe]; exact Or.inr h
  have hS : va_S A s.heap s.heap [] := va_S.rf
  have hl := lv_entry ([.ref p_, .ref q_]) (n := 2) (Nat.le_of_ble_eq_true rfl)
  rw [lg_entry_eq]
  generalize (lg_sl ([.ref p_, .ref q_]) ++ List.replicate (2 - (lg_sl ([.ref p_, .ref q_])).length) Slot.unset).toArray = ls at hl ⊢
  have hl : lv_has ls 2 [(0, .ref p_), (1, .ref q_)] := hl
  refine lv_aload_n hx hb dX9_copyRow_0 rfl (lv_at hl 0 rfl) ?_
  refine lv_iconst (v := nI (0)) hx hb dX9_copyRow_1 (by decide) ?_
  refine lv_aload_n hx hb dX9_copyRow_2 rfl (lv_at hl 1 rfl) ?_
  refine lv_iconst (v := nI (0)) hx hb dX9_copyRow_3 (by decide) ?_
  refine lv_aload_n hx hb dX9_copyRow_4 rfl (lv_at hl 0 rfl) ?_
  refine va_alen hx hb hK.1 hP 0 0 rfl rfl (v := nI k_) rfl dX9_copyRow_5 ?_
  refine lv_aload_n hx hb dX9_copyRow_6 rfl (lv_at hl 1 rfl) ?_
  refine va_alen hx hb hK.1 hP 1 0 rfl rfl (v := nI k_) rfl dX9_copyRow_7 ?_
  refine va_mmin hx hb (hml.trans hl.1.symm) hown (hts (Cond.methodLink RX9 264 Lib.Math.min.name) (List.mem_of_getElem? (i := 1) rfl)) (hts (Cond.static Lib.Math.min.name) (List.mem_of_getElem? (i := 2) rfl)) (hts (Cond.initialized "java/lang/Math") (List.mem_of_getElem? (i := 3) rfl)) (hts (Cond.code Lib.Math.min.name Lib.Math.min.code 2 (some .int)) (List.mem_of_getElem? (i := 4) rfl)) (Nat.le_of_ble_eq_true rfl) (Nat.le_of_ble_eq_true rfl) (Nat.zero_le _) (Nat.zero_le _) dX9_copyRow_8 ?_
  refine tp_i (z := nI k_) (ite_self _) ?_
  refine va_copyi hx hb (hml.trans hl.1.symm) hown (hts (Cond.methodLink RX9 267 arraycopyName) (List.mem_of_getElem? (i := 5) rfl)) (hts (Cond.native arraycopyName) (List.mem_of_getElem? (i := 6) rfl)) (hts (Cond.static arraycopyName) (List.mem_of_getElem? (i := 7) rfl)) (hts (Cond.initialized "java/lang/System") (List.mem_of_getElem? (i := 8) rfl)) hK.1 hP hD hS 0 1 0 0 rfl rfl rfl rfl rfl (by decide) (by decide) (nI_pos hk) (by rw [nI_clamp (by decide), nI_clamp hk]; omega) (by rw [nI_clamp (by decide), nI_clamp hk]; omega) (fun _ _ => rfl) (Nat.le_of_ble_eq_true rfl) (Nat.le_of_ble_eq_true rfl) dX9_copyRow_11 (fun H locs hP hD hS => ?_)
  have hP : va_P (dC, dI) vwCl [(p_, .inl (cI, k_, .inl f_)), (q_, .inl (cI, k_, .inl (va_cpy f_ g_ (nI 0).toNatClampNeg (nI 0).toNatClampNeg (nI k_).toNatClampNeg)))] H := hP
  have hD : va_D A [(p_, .inl (cI, k_, .inl f_)), (q_, .inl (cI, k_, .inl (va_cpy f_ g_ (nI 0).toNatClampNeg (nI 0).toNatClampNeg (nI k_).toNatClampNeg)))] := hD
  have hP9 := hP.re 1 rfl f_ (fun j hj => by rw [nI_clamp (by decide), nI_clamp hk]; exact (pk_cpy_in (Nat.zero_le j) (by omega)).trans (by rw [Nat.zero_add, Nat.sub_zero]))
  exact W.vret hx hb hr (fun t ht hW => ⟨⟨(), rfl, trivial, by rw [ht]; exact hP9, hD.as rfl⟩, hS.F ht⟩) hS.2.2 dX9_copyRow_14

/-- a choir behind column 5 of one is set -/
theorem ch_set5 {dC : Nat → ClassId} {dI : Nat → Nat → Nat} {cI : ClassId} {H : Heap} {a : Nat → Nat} {v0 : Nat} {R mi : Nat → Nat} {n w s_ x : Nat} {wk : Int32} (hP : va_P (dC, dI) vwCl [((a 0), .inr (1, [.ref v0, .ref (a 1), .ref (a 2), .ref (a 3), .ref (a 4), .ref (a 5), .ref (a 6), .int (nI (n)), .int (nI (w)), .int (wk)])), ((a 1), .inl (cI, 4, .inl (fun ii => nI (R (8 * ii))))), ((a 2), .inl (cI, 16, .inl (fun ii => nI (R (8 * (ii / 4) + 1 + ii % 4))))), ((a 3), .inl (cI, 4, .inl (upd (fun ii => nI (R (8 * ii + 5))) (s_) (nI (x))))), ((a 4), .inl (cI, 4, .inl (fun ii => nI (R (8 * ii + 6))))), ((a 5), .inl (cI, 4, .inl (fun ii => nI (R (8 * ii + 7))))), ((a 6), .inl (cI, 5, .inl (fun ii => nI (mi ii))))] H) : va_P (dC, dI) vwCl (chW cI a v0 (upN R (8 * s_ + 5) x) mi n w wk) H := by
  have hP := hP.re 1 rfl (fun i => nI ((upN R (8 * s_ + 5) x) (8 * i))) (fun j hj => by rw [upN_n (by omega)])
  have hP := hP.re 2 rfl (fun i => nI ((upN R (8 * s_ + 5) x) (8 * (i / 4) + 1 + i % 4))) (fun j hj => by rw [upN_n (by omega)])
  have hP := hP.re 3 rfl (fun i => nI ((upN R (8 * s_ + 5) x) (8 * i + 5))) (fun j hj => if q : j = s_ then by unfold upd upN; rw [if_pos q, if_pos (by omega)] else by unfold upd upN; rw [if_neg q, if_neg (by omega)])
  have hP := hP.re 4 rfl (fun i => nI ((upN R (8 * s_ + 5) x) (8 * i + 6))) (fun j hj => by rw [upN_n (by omega)])
  have hP := hP.re 5 rfl (fun i => nI ((upN R (8 * s_ + 5) x) (8 * i + 7))) (fun j hj => by rw [upN_n (by omega)])
  exact hP

/-- a choir behind column 6 of one is set -/
theorem ch_set6 {dC : Nat → ClassId} {dI : Nat → Nat → Nat} {cI : ClassId} {H : Heap} {a : Nat → Nat} {v0 : Nat} {R mi : Nat → Nat} {n w s_ x : Nat} {wk : Int32} (hP : va_P (dC, dI) vwCl [((a 0), .inr (1, [.ref v0, .ref (a 1), .ref (a 2), .ref (a 3), .ref (a 4), .ref (a 5), .ref (a 6), .int (nI (n)), .int (nI (w)), .int (wk)])), ((a 1), .inl (cI, 4, .inl (fun ii => nI (R (8 * ii))))), ((a 2), .inl (cI, 16, .inl (fun ii => nI (R (8 * (ii / 4) + 1 + ii % 4))))), ((a 3), .inl (cI, 4, .inl (fun ii => nI (R (8 * ii + 5))))), ((a 4), .inl (cI, 4, .inl (upd (fun ii => nI (R (8 * ii + 6))) (s_) (nI (x))))), ((a 5), .inl (cI, 4, .inl (fun ii => nI (R (8 * ii + 7))))), ((a 6), .inl (cI, 5, .inl (fun ii => nI (mi ii))))] H) : va_P (dC, dI) vwCl (chW cI a v0 (upN R (8 * s_ + 6) x) mi n w wk) H := by
  have hP := hP.re 1 rfl (fun i => nI ((upN R (8 * s_ + 6) x) (8 * i))) (fun j hj => by rw [upN_n (by omega)])
  have hP := hP.re 2 rfl (fun i => nI ((upN R (8 * s_ + 6) x) (8 * (i / 4) + 1 + i % 4))) (fun j hj => by rw [upN_n (by omega)])
  have hP := hP.re 3 rfl (fun i => nI ((upN R (8 * s_ + 6) x) (8 * i + 5))) (fun j hj => by rw [upN_n (by omega)])
  have hP := hP.re 4 rfl (fun i => nI ((upN R (8 * s_ + 6) x) (8 * i + 6))) (fun j hj => if q : j = s_ then by unfold upd upN; rw [if_pos q, if_pos (by omega)] else by unfold upd upN; rw [if_neg q, if_neg (by omega)])
  have hP := hP.re 5 rfl (fun i => nI ((upN R (8 * s_ + 6) x) (8 * i + 7))) (fun j hj => by rw [upN_n (by omega)])
  exact hP

/-- a choir behind column 7 of one is set -/
theorem ch_set7 {dC : Nat → ClassId} {dI : Nat → Nat → Nat} {cI : ClassId} {H : Heap} {a : Nat → Nat} {v0 : Nat} {R mi : Nat → Nat} {n w s_ x : Nat} {wk : Int32} (hP : va_P (dC, dI) vwCl [((a 0), .inr (1, [.ref v0, .ref (a 1), .ref (a 2), .ref (a 3), .ref (a 4), .ref (a 5), .ref (a 6), .int (nI (n)), .int (nI (w)), .int (wk)])), ((a 1), .inl (cI, 4, .inl (fun ii => nI (R (8 * ii))))), ((a 2), .inl (cI, 16, .inl (fun ii => nI (R (8 * (ii / 4) + 1 + ii % 4))))), ((a 3), .inl (cI, 4, .inl (fun ii => nI (R (8 * ii + 5))))), ((a 4), .inl (cI, 4, .inl (fun ii => nI (R (8 * ii + 6))))), ((a 5), .inl (cI, 4, .inl (upd (fun ii => nI (R (8 * ii + 7))) (s_) (nI (x))))), ((a 6), .inl (cI, 5, .inl (fun ii => nI (mi ii))))] H) : va_P (dC, dI) vwCl (chW cI a v0 (upN R (8 * s_ + 7) x) mi n w wk) H := by
  have hP := hP.re 1 rfl (fun i => nI ((upN R (8 * s_ + 7) x) (8 * i))) (fun j hj => by rw [upN_n (by omega)])
  have hP := hP.re 2 rfl (fun i => nI ((upN R (8 * s_ + 7) x) (8 * (i / 4) + 1 + i % 4))) (fun j hj => by rw [upN_n (by omega)])
  have hP := hP.re 3 rfl (fun i => nI ((upN R (8 * s_ + 7) x) (8 * i + 5))) (fun j hj => by rw [upN_n (by omega)])
  have hP := hP.re 4 rfl (fun i => nI ((upN R (8 * s_ + 7) x) (8 * i + 6))) (fun j hj => by rw [upN_n (by omega)])
  have hP := hP.re 5 rfl (fun i => nI ((upN R (8 * s_ + 7) x) (8 * i + 7))) (fun j hj => if q : j = s_ then by unfold upd upN; rw [if_pos q, if_pos (by omega)] else by unfold upd upN; rw [if_neg q, if_neg (by omega)])
  exact hP

set_option maxHeartbeats 4000000 in
set_option maxRecDepth 100000 in
theorem c_X1_setCold (l : Launch) (dC : Nat → ClassId) (dI : Nat → Nat → Nat) (cI : ClassId) (sz : Nat) (a : Nat → Nat) (v0 : Nat) (R mi : Nat → Nat) (n w : Nat) (wk : Int32) (hn : n ≤ 4) (hw : w ≤ 5) (s_ x : Nat) (hs : s_ < n) (hx1 : x ≤ 1) : Met l yX1_setCold wsX1_setCold ({ frames := 1, cells := 0, slots := 0, locals := 21 } : Room) (muP dC dI cI (chW cI a v0 R mi n w wk) sz [.ref (a 0), .int (nI (s_)), .int (nI (x))]) (muV dC dI (chW cI a v0 R mi n w wk) sz (fun (_ : Unit) => chW cI a v0 (upN R (8 * s_ + 5) x) mi n w wk) (fun _ => True)) 0 0 (va_A (chW cI a v0 R mi n w wk) sz) := by
  refine Met.ofW (cc := cX1_setCold) (maxL := 3) (ret := none) (by decide) rfl ?_
  intro p e s m args below meth c s₁ B hml hv
  obtain ⟨rfl, hsz, hP, hK, hD0⟩ := hv
  have hx := B.exec
  have hb := B.bytes
  have hr := B.returns
  have hts := atoms_spec (ws := wsX1_setCold) B.pre
  have hown : s.vm.findClass RX1 = some m.cls := findClass_of_methodNamed B.named
  have hlocks := B.notSynchronized
  subst hsz
  unfold muV muB
  have hD := hD0.self (sz := s.heap.size)
  generalize hAe : va_A (chW cI a v0 R mi n w wk) s.heap.size = A at hD ⊢
  have hA : ∀ q : Nat, s.heap.size ≤ q → A q := fun q h => by rw [← hAe]; exact Or.inr h
  have hS : va_S A s.heap s.heap [] := va_S.rf
  have hl := lv_entry ([.ref (a 0), .int (nI (s_)), .int (nI (x))]) (n := 3) (Nat.le_of_ble_eq_true rfl)
  rw [lg_entry_eq]
  generalize (lg_sl ([.ref (a 0), .int (nI (s_)), .int (nI (x))]) ++ List.replicate (3 - (lg_sl ([.ref (a 0), .int (nI (s_)), .int (nI (x))])).length) Slot.unset).toArray = ls at hl ⊢
  have hl : lv_has ls 3 [(0, .ref (a 0)), (1, .int (nI (s_))), (2, .int (nI (x)))] := hl
  refine lv_aload_n hx hb dX1_setCold_0 rfl (lv_at hl 0 rfl) ?_
  refine lv_iload_n hx hb dX1_setCold_1 rfl (lv_at hl 1 rfl) ?_
  refine ro_calli (va_runV (As := [.int (nI (s_))]) (rest := []) ⟨hx, hb, hml, hown, hts⟩ (c_X1_hasSinger l dC dI cI a v0 R mi n w wk (by omega) (by omega) (nI (s_))) (cwV 1 hts gX1_setCold_X1_hasSinger rfl rfl rfl (by decide +kernel) ⟨Nat.le_of_ble_eq_true rfl, Nat.le_of_ble_eq_true rfl⟩) (ro_pv hK hP [0, 1, 2, 3, 4, 5, 6] rfl (ci := 1) (q0 := 0) (C := RX1) (T := TX1) (N := 10) rfl rfl) rfl rfl hl.1 rfl (lv_room (Nat.le_of_ble_eq_true rfl)) dX1_setCold_2 ⟨Nat.zero_le _, Nat.zero_le _⟩) hS hP (fun r1 H locs hr1 hP hS => ?_)
  subst hr1
  refine tp_i (z := nI 1) (bI_t (inR_n (by omega) (by omega))) ?_
  refine lv_if_eq (tgt := 23) hx hb dX1_setCold_5 (by decide) (fun c => absurd c (by decide)) (fun _ => ?_)
  refine lv_aload_n hx hb dX1_setCold_8 rfl (lv_at hl 0 rfl) ?_
  refine va_get (D := (dC, dI)) (ci := 1) (v := .ref (a 3)) (C := RX1) (T := TX1) (N := 10) hx hb hts (fun _ h => List.mem_cons_of_mem _ (List.mem_append_right _ (h))) hown hK.1 hP 0 rfl rfl 3 (by decide) (hts (Cond.fieldLink RX1 18 "WorstVoice$Choir" "colds" "[I") (List.mem_of_getElem? (i := 1) rfl)) (fun _ h9 => h9) rfl dX1_setCold_9 ?_
  refine lv_iload_n hx hb dX1_setCold_12 rfl (lv_at hl 1 rfl) ?_
  refine lv_iload_n hx hb dX1_setCold_13 rfl (lv_at hl 2 rfl) ?_
  refine lv_if_eq (tgt := 21) hx hb dX1_setCold_14 (by decide) (fun c2 => ?_) (fun c2 => ?_)
  · have c2 := (z_eq (by omega)).mp c2
    refine lv_iconst (v := nI (0)) hx hb dX1_setCold_21 (by decide) ?_
    refine tp_i (z := nI (x)) (by congr 1; omega) ?_
    refine va_iast hx hb hK.1 hP hD hS 3 0 rfl rfl (vp_in_nI (by omega) (by decide)) dX1_setCold_22 (fun H locs hP hD hS => ?_)
    rw [nI_clamp (by omega)] at hP hD
    have hP : va_P (dC, dI) vwCl [((a 0), .inr (1, [.ref v0, .ref (a 1), .ref (a 2), .ref (a 3), .ref (a 4), .ref (a 5), .ref (a 6), .int (nI (n)), .int (nI (w)), .int (wk)])), ((a 1), .inl (cI, 4, .inl (fun ii => nI (R (8 * ii))))), ((a 2), .inl (cI, 16, .inl (fun ii => nI (R (8 * (ii / 4) + 1 + ii % 4))))), ((a 3), .inl (cI, 4, .inl (upd (fun ii => nI (R (8 * ii + 5))) (s_) (nI (x))))), ((a 4), .inl (cI, 4, .inl (fun ii => nI (R (8 * ii + 6))))), ((a 5), .inl (cI, 4, .inl (fun ii => nI (R (8 * ii + 7))))), ((a 6), .inl (cI, 5, .inl (fun ii => nI (mi ii))))] H := hP
    have hD : va_D A [((a 0), .inr (1, [.ref v0, .ref (a 1), .ref (a 2), .ref (a 3), .ref (a 4), .ref (a 5), .ref (a 6), .int (nI (n)), .int (nI (w)), .int (wk)])), ((a 1), .inl (cI, 4, .inl (fun ii => nI (R (8 * ii))))), ((a 2), .inl (cI, 16, .inl (fun ii => nI (R (8 * (ii / 4) + 1 + ii % 4))))), ((a 3), .inl (cI, 4, .inl (upd (fun ii => nI (R (8 * ii + 5))) (s_) (nI (x))))), ((a 4), .inl (cI, 4, .inl (fun ii => nI (R (8 * ii + 6))))), ((a 5), .inl (cI, 4, .inl (fun ii => nI (R (8 * ii + 7))))), ((a 6), .inl (cI, 5, .inl (fun ii => nI (mi ii))))] := hD
    have hP9 := ch_set5 hP
    exact W.vret hx hb hr (fun t ht hW => ⟨⟨(), rfl, trivial, by rw [ht]; exact hP9, hD.as rfl⟩, hS.F ht⟩) hS.2.2 dX1_setCold_23
  · have c2 := mt (z_eq (by omega)).mpr c2
    refine lv_iconst (v := nI (1)) hx hb dX1_setCold_17 (by decide) ?_
    refine lv_goto (tgt := 22) hx hb dX1_setCold_18 (by decide) ?_
    refine tp_i (z := nI (x)) (by congr 1; omega) ?_
    refine va_iast hx hb hK.1 hP hD hS 3 0 rfl rfl (vp_in_nI (by omega) (by decide)) dX1_setCold_22 (fun H locs hP hD hS => ?_)
    rw [nI_clamp (by omega)] at hP hD
    have hP : va_P (dC, dI) vwCl [((a 0), .inr (1, [.ref v0, .ref (a 1), .ref (a 2), .ref (a 3), .ref (a 4), .ref (a 5), .ref (a 6), .int (nI (n)), .int (nI (w)), .int (wk)])), ((a 1), .inl (cI, 4, .inl (fun ii => nI (R (8 * ii))))), ((a 2), .inl (cI, 16, .inl (fun ii => nI (R (8 * (ii / 4) + 1 + ii % 4))))), ((a 3), .inl (cI, 4, .inl (upd (fun ii => nI (R (8 * ii + 5))) (s_) (nI (x))))), ((a 4), .inl (cI, 4, .inl (fun ii => nI (R (8 * ii + 6))))), ((a 5), .inl (cI, 4, .inl (fun ii => nI (R (8 * ii + 7))))), ((a 6), .inl (cI, 5, .inl (fun ii => nI (mi ii))))] H := hP
    have hD : va_D A [((a 0), .inr (1, [.ref v0, .ref (a 1), .ref (a 2), .ref (a 3), .ref (a 4), .ref (a 5), .ref (a 6), .int (nI (n)), .int (nI (w)), .int (wk)])), ((a 1), .inl (cI, 4, .inl (fun ii => nI (R (8 * ii))))), ((a 2), .inl (cI, 16, .inl (fun ii => nI (R (8 * (ii / 4) + 1 + ii % 4))))), ((a 3), .inl (cI, 4, .inl (upd (fun ii => nI (R (8 * ii + 5))) (s_) (nI (x))))), ((a 4), .inl (cI, 4, .inl (fun ii => nI (R (8 * ii + 6))))), ((a 5), .inl (cI, 4, .inl (fun ii => nI (R (8 * ii + 7))))), ((a 6), .inl (cI, 5, .inl (fun ii => nI (mi ii))))] := hD
    have hP9 := ch_set5 hP
    exact W.vret hx hb hr (fun t ht hW => ⟨⟨(), rfl, trivial, by rw [ht]; exact hP9, hD.as rfl⟩, hS.F ht⟩) hS.2.2 dX1_setCold_23

set_option maxHeartbeats 4000000 in
set_option maxRecDepth 100000 in
theorem c_X1_setLeft (l : Launch) (dC : Nat → ClassId) (dI : Nat → Nat → Nat) (cI : ClassId) (sz : Nat) (a : Nat → Nat) (v0 : Nat) (R mi : Nat → Nat) (n w : Nat) (wk : Int32) (hn : n ≤ 4) (hw : w ≤ 5) (s_ x : Nat) (hs : s_ < n) (hx1 : x ≤ 1) : Met l yX1_setLeft wsX1_setLeft ({ frames := 1, cells := 0, slots := 0, locals := 21 } : Room) (muP dC dI cI (chW cI a v0 R mi n w wk) sz [.ref (a 0), .int (nI (s_)), .int (nI (x))]) (muV dC dI (chW cI a v0 R mi n w wk) sz (fun (_ : Unit) => chW cI a v0 (upN R (8 * s_ + 6) x) mi n w wk) (fun _ => True)) 0 0 (va_A (chW cI a v0 R mi n w wk) sz) := by
  refine Met.ofW (cc := cX1_setLeft) (maxL := 3) (ret := none) (by decide) rfl ?_
  intro p e s m args below meth c s₁ B hml hv
  obtain ⟨rfl, hsz, hP, hK, hD0⟩ := hv
  have hx := B.exec
  have hb := B.bytes
  have hr := B.returns
  have hts := atoms_spec (ws := wsX1_setLeft) B.pre
  have hown : s.vm.findClass RX1 = some m.cls := findClass_of_methodNamed B.named
  have hlocks := B.notSynchronized
  subst hsz
  unfold muV muB
  have hD := hD0.self (sz := s.heap.size)
  generalize hAe : va_A (chW cI a v0 R mi n w wk) s.heap.size = A at hD ⊢
  have hA : ∀ q : Nat, s.heap.size ≤ q → A q := fun q h => by rw [← hAe]; exact Or.inr h
  have hS : va_S A s.heap s.heap [] := va_S.rf
  have hl := lv_entry ([.ref (a 0), .int (nI (s_)), .int (nI (x))]) (n := 3) (Nat.le_of_ble_eq_true rfl)
  rw [lg_entry_eq]
  generalize (lg_sl ([.ref (a 0), .int (nI (s_)), .int (nI (x))]) ++ List.replicate (3 - (lg_sl ([.ref (a 0), .int (nI (s_)), .int (nI (x))])).length) Slot.unset).toArray = ls at hl ⊢
  have hl : lv_has ls 3 [(0, .ref (a 0)), (1, .int (nI (s_))), (2, .int (nI (x)))] := hl
  refine lv_aload_n hx hb dX1_setLeft_0 rfl (lv_at hl 0 rfl) ?_
  refine lv_iload_n hx hb dX1_setLeft_1 rfl (lv_at hl 1 rfl) ?_
  refine ro_calli (va_runV (As := [.int (nI (s_))]) (rest := []) ⟨hx, hb, hml, hown, hts⟩ (c_X1_hasSinger l dC dI cI a v0 R mi n w wk (by omega) (by omega) (nI (s_))) (cwV 1 hts gX1_setLeft_X1_hasSinger rfl rfl rfl (by decide +kernel) ⟨Nat.le_of_ble_eq_true rfl, Nat.le_of_ble_eq_true rfl⟩) (ro_pv hK hP [0, 1, 2, 3, 4, 5, 6] rfl (ci := 1) (q0 := 0) (C := RX1) (T := TX1) (N := 10) rfl rfl) rfl rfl hl.1 rfl (lv_room (Nat.le_of_ble_eq_true rfl)) dX1_setLeft_2 ⟨Nat.zero_le _, Nat.zero_le _⟩) hS hP (fun r1 H locs hr1 hP hS => ?_)
  subst hr1
  refine tp_i (z := nI 1) (bI_t (inR_n (by omega) (by omega))) ?_
  refine lv_if_eq (tgt := 23) hx hb dX1_setLeft_5 (by decide) (fun c => absurd c (by decide)) (fun _ => ?_)
  refine lv_aload_n hx hb dX1_setLeft_8 rfl (lv_at hl 0 rfl) ?_
  refine va_get (D := (dC, dI)) (ci := 1) (v := .ref (a 4)) (C := RX1) (T := TX1) (N := 10) hx hb hts (fun _ h => List.mem_cons_of_mem _ (List.mem_append_right _ (h))) hown hK.1 hP 0 rfl rfl 4 (by decide) (hts (Cond.fieldLink RX1 21 "WorstVoice$Choir" "lefts" "[I") (List.mem_of_getElem? (i := 1) rfl)) (fun _ h9 => h9) rfl dX1_setLeft_9 ?_
  refine lv_iload_n hx hb dX1_setLeft_12 rfl (lv_at hl 1 rfl) ?_
  refine lv_iload_n hx hb dX1_setLeft_13 rfl (lv_at hl 2 rfl) ?_
  refine lv_if_eq (tgt := 21) hx hb dX1_setLeft_14 (by decide) (fun c2 => ?_) (fun c2 => ?_)
  · have c2 := (z_eq (by omega)).mp c2
    refine lv_iconst (v := nI (0)) hx hb dX1_setLeft_21 (by decide) ?_
    refine tp_i (z := nI (x)) (by congr 1; omega) ?_
    refine va_iast hx hb hK.1 hP hD hS 4 0 rfl rfl (vp_in_nI (by omega) (by decide)) dX1_setLeft_22 (fun H locs hP hD hS => ?_)
    rw [nI_clamp (by omega)] at hP hD
    have hP : va_P (dC, dI) vwCl [((a 0), .inr (1, [.ref v0, .ref (a 1), .ref (a 2), .ref (a 3), .ref (a 4), .ref (a 5), .ref (a 6), .int (nI (n)), .int (nI (w)), .int (wk)])), ((a 1), .inl (cI, 4, .inl (fun ii => nI (R (8 * ii))))), ((a 2), .inl (cI, 16, .inl (fun ii => nI (R (8 * (ii / 4) + 1 + ii % 4))))), ((a 3), .inl (cI, 4, .inl (fun ii => nI (R (8 * ii + 5))))), ((a 4), .inl (cI, 4, .inl (upd (fun ii => nI (R (8 * ii + 6))) (s_) (nI (x))))), ((a 5), .inl (cI, 4, .inl (fun ii => nI (R (8 * ii + 7))))), ((a 6), .inl (cI, 5, .inl (fun ii => nI (mi ii))))] H := hP
    have hD : va_D A [((a 0), .inr (1, [.ref v0, .ref (a 1), .ref (a 2), .ref (a 3), .ref (a 4), .ref (a 5), .ref (a 6), .int (nI (n)), .int (nI (w)), .int (wk)])), ((a 1), .inl (cI, 4, .inl (fun ii => nI (R (8 * ii))))), ((a 2), .inl (cI, 16, .inl (fun ii => nI (R (8 * (ii / 4) + 1 + ii % 4))))), ((a 3), .inl (cI, 4, .inl (fun ii => nI (R (8 * ii + 5))))), ((a 4), .inl (cI, 4, .inl (upd (fun ii => nI (R (8 * ii + 6))) (s_) (nI (x))))), ((a 5), .inl (cI, 4, .inl (fun ii => nI (R (8 * ii + 7))))), ((a 6), .inl (cI, 5, .inl (fun ii => nI (mi ii))))] := hD
    have hP9 := ch_set6 hP
    exact W.vret hx hb hr (fun t ht hW => ⟨⟨(), rfl, trivial, by rw [ht]; exact hP9, hD.as rfl⟩, hS.F ht⟩) hS.2.2 dX1_setLeft_23
  · have c2 := mt (z_eq (by omega)).mpr c2
    refine lv_iconst (v := nI (1)) hx hb dX1_setLeft_17 (by decide) ?_
    refine lv_goto (tgt := 22) hx hb dX1_setLeft_18 (by decide) ?_
    refine tp_i (z := nI (x)) (by congr 1; omega) ?_
    refine va_iast hx hb hK.1 hP hD hS 4 0 rfl rfl (vp_in_nI (by omega) (by decide)) dX1_setLeft_22 (fun H locs hP hD hS => ?_)
    rw [nI_clamp (by omega)] at hP hD
    have hP : va_P (dC, dI) vwCl [((a 0), .inr (1, [.ref v0, .ref (a 1), .ref (a 2), .ref (a 3), .ref (a 4), .ref (a 5), .ref (a 6), .int (nI (n)), .int (nI (w)), .int (wk)])), ((a 1), .inl (cI, 4, .inl (fun ii => nI (R (8 * ii))))), ((a 2), .inl (cI, 16, .inl (fun ii => nI (R (8 * (ii / 4) + 1 + ii % 4))))), ((a 3), .inl (cI, 4, .inl (fun ii => nI (R (8 * ii + 5))))), ((a 4), .inl (cI, 4, .inl (upd (fun ii => nI (R (8 * ii + 6))) (s_) (nI (x))))), ((a 5), .inl (cI, 4, .inl (fun ii => nI (R (8 * ii + 7))))), ((a 6), .inl (cI, 5, .inl (fun ii => nI (mi ii))))] H := hP
    have hD : va_D A [((a 0), .inr (1, [.ref v0, .ref (a 1), .ref (a 2), .ref (a 3), .ref (a 4), .ref (a 5), .ref (a 6), .int (nI (n)), .int (nI (w)), .int (wk)])), ((a 1), .inl (cI, 4, .inl (fun ii => nI (R (8 * ii))))), ((a 2), .inl (cI, 16, .inl (fun ii => nI (R (8 * (ii / 4) + 1 + ii % 4))))), ((a 3), .inl (cI, 4, .inl (fun ii => nI (R (8 * ii + 5))))), ((a 4), .inl (cI, 4, .inl (upd (fun ii => nI (R (8 * ii + 6))) (s_) (nI (x))))), ((a 5), .inl (cI, 4, .inl (fun ii => nI (R (8 * ii + 7))))), ((a 6), .inl (cI, 5, .inl (fun ii => nI (mi ii))))] := hD
    have hP9 := ch_set6 hP
    exact W.vret hx hb hr (fun t ht hW => ⟨⟨(), rfl, trivial, by rw [ht]; exact hP9, hD.as rfl⟩, hS.F ht⟩) hS.2.2 dX1_setLeft_23

set_option maxHeartbeats 4000000 in
set_option maxRecDepth 100000 in
theorem c_X1_setHoney (l : Launch) (dC : Nat → ClassId) (dI : Nat → Nat → Nat) (cI : ClassId) (sz : Nat) (a : Nat → Nat) (v0 : Nat) (R mi : Nat → Nat) (n w : Nat) (wk : Int32) (hn : n ≤ 4) (hw : w ≤ 5) (s_ x : Nat) (hs : s_ < n) : Met l yX1_setHoney wsX1_setHoney ({ frames := 1, cells := 0, slots := 0, locals := 21 } : Room) (muP dC dI cI (chW cI a v0 R mi n w wk) sz [.ref (a 0), .int (nI (s_)), .int (nI (x))]) (muV dC dI (chW cI a v0 R mi n w wk) sz (fun (_ : Unit) => chW cI a v0 (upN R (8 * s_ + 7) x) mi n w wk) (fun _ => True)) 0 0 (va_A (chW cI a v0 R mi n w wk) sz) := by
  refine Met.ofW (cc := cX1_setHoney) (maxL := 3) (ret := none) (by decide) rfl ?_
  intro p e s m args below meth c s₁ B hml hv
  obtain ⟨rfl, hsz, hP, hK, hD0⟩ := hv
  have hx := B.exec
  have hb := B.bytes
  have hr := B.returns
  have hts := atoms_spec (ws := wsX1_setHoney) B.pre
  have hown : s.vm.findClass RX1 = some m.cls := findClass_of_methodNamed B.named
  have hlocks := B.notSynchronized
  subst hsz
  unfold muV muB
  have hD := hD0.self (sz := s.heap.size)
  generalize hAe : va_A (chW cI a v0 R mi n w wk) s.heap.size = A at hD ⊢
  have hA : ∀ q : Nat, s.heap.size ≤ q → A q := fun q h => by rw [← hAe]; exact Or.inr h
  have hS : va_S A s.heap s.heap [] := va_S.rf
  have hl := lv_entry ([.ref (a 0), .int (nI (s_)), .int (nI (x))]) (n := 3) (Nat.le_of_ble_eq_true rfl)
  rw [lg_entry_eq]
  generalize (lg_sl ([.ref (a 0), .int (nI (s_)), .int (nI (x))]) ++ List.replicate (3 - (lg_sl ([.ref (a 0), .int (nI (s_)), .int (nI (x))])).length) Slot.unset).toArray = ls at hl ⊢
  have hl : lv_has ls 3 [(0, .ref (a 0)), (1, .int (nI (s_))), (2, .int (nI (x)))] := hl
  refine lv_aload_n hx hb dX1_setHoney_0 rfl (lv_at hl 0 rfl) ?_
  refine lv_iload_n hx hb dX1_setHoney_1 rfl (lv_at hl 1 rfl) ?_
  refine ro_calli (va_runV (As := [.int (nI (s_))]) (rest := []) ⟨hx, hb, hml, hown, hts⟩ (c_X1_hasSinger l dC dI cI a v0 R mi n w wk (by omega) (by omega) (nI (s_))) (cwV 1 hts gX1_setHoney_X1_hasSinger rfl rfl rfl (by decide +kernel) ⟨Nat.le_of_ble_eq_true rfl, Nat.le_of_ble_eq_true rfl⟩) (ro_pv hK hP [0, 1, 2, 3, 4, 5, 6] rfl (ci := 1) (q0 := 0) (C := RX1) (T := TX1) (N := 10) rfl rfl) rfl rfl hl.1 rfl (lv_room (Nat.le_of_ble_eq_true rfl)) dX1_setHoney_2 ⟨Nat.zero_le _, Nat.zero_le _⟩) hS hP (fun r1 H locs hr1 hP hS => ?_)
  subst hr1
  refine tp_i (z := nI 1) (bI_t (inR_n (by omega) (by omega))) ?_
  refine lv_if_eq (tgt := 15) hx hb dX1_setHoney_5 (by decide) (fun c => absurd c (by decide)) (fun _ => ?_)
  refine lv_aload_n hx hb dX1_setHoney_8 rfl (lv_at hl 0 rfl) ?_
  refine va_get (D := (dC, dI)) (ci := 1) (v := .ref (a 5)) (C := RX1) (T := TX1) (N := 10) hx hb hts (fun _ h => List.mem_cons_of_mem _ (List.mem_append_right _ (h))) hown hK.1 hP 0 rfl rfl 5 (by decide) (hts (Cond.fieldLink RX1 24 "WorstVoice$Choir" "honeys" "[I") (List.mem_of_getElem? (i := 1) rfl)) (fun _ h9 => h9) rfl dX1_setHoney_9 ?_
  refine lv_iload_n hx hb dX1_setHoney_12 rfl (lv_at hl 1 rfl) ?_
  refine lv_iload_n hx hb dX1_setHoney_13 rfl (lv_at hl 2 rfl) ?_
  refine va_iast hx hb hK.1 hP hD hS 5 0 rfl rfl (vp_in_nI (by omega) (by decide)) dX1_setHoney_14 (fun H locs hP hD hS => ?_)
  rw [nI_clamp (by omega)] at hP hD
  have hP : va_P (dC, dI) vwCl [((a 0), .inr (1, [.ref v0, .ref (a 1), .ref (a 2), .ref (a 3), .ref (a 4), .ref (a 5), .ref (a 6), .int (nI (n)), .int (nI (w)), .int (wk)])), ((a 1), .inl (cI, 4, .inl (fun ii => nI (R (8 * ii))))), ((a 2), .inl (cI, 16, .inl (fun ii => nI (R (8 * (ii / 4) + 1 + ii % 4))))), ((a 3), .inl (cI, 4, .inl (fun ii => nI (R (8 * ii + 5))))), ((a 4), .inl (cI, 4, .inl (fun ii => nI (R (8 * ii + 6))))), ((a 5), .inl (cI, 4, .inl (upd (fun ii => nI (R (8 * ii + 7))) (s_) (nI (x))))), ((a 6), .inl (cI, 5, .inl (fun ii => nI (mi ii))))] H := hP
  have hD : va_D A [((a 0), .inr (1, [.ref v0, .ref (a 1), .ref (a 2), .ref (a 3), .ref (a 4), .ref (a 5), .ref (a 6), .int (nI (n)), .int (nI (w)), .int (wk)])), ((a 1), .inl (cI, 4, .inl (fun ii => nI (R (8 * ii))))), ((a 2), .inl (cI, 16, .inl (fun ii => nI (R (8 * (ii / 4) + 1 + ii % 4))))), ((a 3), .inl (cI, 4, .inl (fun ii => nI (R (8 * ii + 5))))), ((a 4), .inl (cI, 4, .inl (fun ii => nI (R (8 * ii + 6))))), ((a 5), .inl (cI, 4, .inl (upd (fun ii => nI (R (8 * ii + 7))) (s_) (nI (x))))), ((a 6), .inl (cI, 5, .inl (fun ii => nI (mi ii))))] := hD
  have hP9 := ch_set7 hP
  exact W.vret hx hb hr (fun t ht hW => ⟨⟨(), rfl, trivial, by rw [ht]; exact hP9, hD.as rfl⟩, hS.F ht⟩) hS.2.2 dX1_setHoney_15

set_option maxHeartbeats 4000000 in
set_option maxRecDepth 100000 in
theorem c_X5_write (l : Launch) (dC : Nat → ClassId) (dI : Nat → Nat → Nat) (cI : ClassId) (sz : Nat) (a : Nat → Nat) (pg : Nat → Nat) (len : Nat) (hlen : len ≤ 32) (hok : len < 32) (ch : Nat) : Met l yX5_write wsX5_write ({ frames := 0, cells := 0, slots := 0, locals := 0 } : Room) (muP dC dI cI (pgW cI a pg len) sz [.ref (a 0), .int (nI (ch))]) (muI dC dI (pgW cI a pg len) sz (fun (_ : Unit) => pgW cI a (upN pg len ch) (len + 1)) (fun r _ => r = nI 1)) 0 0 (va_A (pgW cI a pg len) sz) := by
  refine Met.ofW (cc := cX5_write) (maxL := 2) (ret := (some .boolean)) (by decide) rfl ?_
  intro p e s m args below meth c s₁ B hml hv
  obtain ⟨rfl, hsz, hP, hK, hD0⟩ := hv
  have hx := B.exec
  have hb := B.bytes
  have hr := B.returns
  have hts := atoms_spec (ws := wsX5_write) B.pre
  have hown : s.vm.findClass RX5 = some m.cls := findClass_of_methodNamed B.named
  have hlocks := B.notSynchronized
  subst hsz
  unfold muI muB
  have hD := hD0.self (sz := s.heap.size)
  generalize hAe : va_A (pgW cI a pg len) s.heap.size = A at hD ⊢
  have hA : ∀ q : Nat, s.heap.size ≤ q → A q := fun q h => by rw [← hAe]; exact Or.inr h
  have hS : va_S A s.heap s.heap [] := va_S.rf
  have hl := lv_entry ([.ref (a 0), .int (nI (ch))]) (n := 2) (Nat.le_of_ble_eq_true rfl)
  rw [lg_entry_eq]
  generalize (lg_sl ([.ref (a 0), .int (nI (ch))]) ++ List.replicate (2 - (lg_sl ([.ref (a 0), .int (nI (ch))])).length) Slot.unset).toArray = ls at hl ⊢
  have hl : lv_has ls 2 [(0, .ref (a 0)), (1, .int (nI (ch)))] := hl
  refine lv_aload_n hx hb dX5_write_0 rfl (lv_at hl 0 rfl) ?_
  refine va_get (D := (dC, dI)) (ci := 5) (v := .int (nI (len))) (C := RX5) (T := TX5) (N := 2) hx hb hts (fun _ h => List.mem_cons_of_mem _ (List.mem_append_right _ (h))) hown hK.1 hP 0 rfl rfl 1 (by decide) (hts (Cond.fieldLink RX5 15 "WorstVoice$Page" "length" "I") (List.mem_of_getElem? (i := 1) rfl)) (fun _ h9 => h9) rfl dX5_write_1 ?_
  refine lv_if_lt (tgt := 19) hx hb dX5_write_4 (by decide) (fun c1 => absurd c1 (z_lt (by omega))) (fun c1 => ?_)
  refine lv_aload_n hx hb dX5_write_7 rfl (lv_at hl 0 rfl) ?_
  refine va_get (D := (dC, dI)) (ci := 5) (v := .int (nI (len))) (C := RX5) (T := TX5) (N := 2) hx hb hts (fun _ h => List.mem_cons_of_mem _ (List.mem_append_right _ (h))) hown hK.1 hP 0 rfl rfl 1 (by decide) (hts (Cond.fieldLink RX5 15 "WorstVoice$Page" "length" "I") (List.mem_of_getElem? (i := 1) rfl)) (fun _ h9 => h9) rfl dX5_write_8 ?_
  refine lv_aload_n hx hb dX5_write_11 rfl (lv_at hl 0 rfl) ?_
  refine va_get (D := (dC, dI)) (ci := 5) (v := .ref (a 1)) (C := RX5) (T := TX5) (N := 2) hx hb hts (fun _ h => List.mem_cons_of_mem _ (List.mem_append_right _ (h))) hown hK.1 hP 0 rfl rfl 0 (by decide) (hts (Cond.fieldLink RX5 9 "WorstVoice$Page" "codes" "[I") (List.mem_of_getElem? (i := 2) rfl)) (fun _ h9 => h9) rfl dX5_write_12 ?_
  refine va_alen hx hb hK.1 hP 1 0 rfl rfl (v := nI 32) rfl dX5_write_15 ?_
  refine lv_icmp_lt (tgt := 21) hx hb dX5_write_16 (by decide) (fun c2 => ?_) (fun c2 => ?_)
  · have c2 := (nI_ltI (by omega) (by decide)).mp c2
    refine lv_aload_n hx hb dX5_write_21 rfl (lv_at hl 0 rfl) ?_
    refine va_get (D := (dC, dI)) (ci := 5) (v := .ref (a 1)) (C := RX5) (T := TX5) (N := 2) hx hb hts (fun _ h => List.mem_cons_of_mem _ (List.mem_append_right _ (h))) hown hK.1 hP 0 rfl rfl 0 (by decide) (hts (Cond.fieldLink RX5 9 "WorstVoice$Page" "codes" "[I") (List.mem_of_getElem? (i := 2) rfl)) (fun _ h9 => h9) rfl dX5_write_22 ?_
    refine lv_aload_n hx hb dX5_write_25 rfl (lv_at hl 0 rfl) ?_
    refine va_get (D := (dC, dI)) (ci := 5) (v := .int (nI (len))) (C := RX5) (T := TX5) (N := 2) hx hb hts (fun _ h => List.mem_cons_of_mem _ (List.mem_append_right _ (h))) hown hK.1 hP 0 rfl rfl 1 (by decide) (hts (Cond.fieldLink RX5 15 "WorstVoice$Page" "length" "I") (List.mem_of_getElem? (i := 1) rfl)) (fun _ h9 => h9) rfl dX5_write_26 ?_
    refine lv_iload_n hx hb dX5_write_29 rfl (lv_at hl 1 rfl) ?_
    refine va_iast hx hb hK.1 hP hD hS 1 0 rfl rfl (vp_in_nI (by omega) (by decide)) dX5_write_30 (fun H locs hP hD hS => ?_)
    rw [nI_clamp (by omega), upd_nI] at hP hD
    have hP : va_P (dC, dI) vwCl [((a 0), .inr (5, [.ref (a 1), .int (nI (len))])), ((a 1), .inl (cI, 32, .inl (fun ii => nI ((upN pg (len) (ch)) ii))))] H := hP
    have hD : va_D A [((a 0), .inr (5, [.ref (a 1), .int (nI (len))])), ((a 1), .inl (cI, 32, .inl (fun ii => nI ((upN pg (len) (ch)) ii))))] := hD
    refine lv_aload_n hx hb dX5_write_31 rfl (lv_at hl 0 rfl) ?_
    refine lv_dup hx hb dX5_write_32 rfl ?_
    refine va_get (D := (dC, dI)) (ci := 5) (v := .int (nI (len))) (C := RX5) (T := TX5) (N := 2) hx hb hts (fun _ h => List.mem_cons_of_mem _ (List.mem_append_right _ (h))) hown hK.1 hP 0 rfl rfl 1 (by decide) (hts (Cond.fieldLink RX5 15 "WorstVoice$Page" "length" "I") (List.mem_of_getElem? (i := 1) rfl)) (fun _ h9 => h9) rfl dX5_write_33 ?_
    refine lv_iconst (v := nI (1)) hx hb dX5_write_36 (by decide) ?_
    refine lv_iadd hx hb dX5_write_37 ?_
    refine tp_i (z := nI (len + 1)) (nI_add (len) (1)) ?_
    refine va_put (D := (dC, dI)) (ci := 5) (v := .int (nI (len + 1))) (ty := .int) (C := RX5) (T := TX5) (N := 2) hx hb hts (fun _ h => List.mem_cons_of_mem _ (List.mem_append_right _ (h))) tyX5 tyX5_ok nmX5 hown hK.1 hP hD hS 0 rfl rfl 1 (by decide) (hts (Cond.fieldLink RX5 15 "WorstVoice$Page" "length" "I") (List.mem_of_getElem? (i := 1) rfl)) (fun _ h9 => h9) rfl (by decide +kernel) rfl rfl (Nat.le_of_ble_eq_true rfl) dX5_write_38 (fun H locs hP hD hS => ?_)
    have hP : va_P (dC, dI) vwCl [((a 0), .inr (5, [.ref (a 1), .int (nI (len + 1))])), ((a 1), .inl (cI, 32, .inl (fun ii => nI ((upN pg (len) (ch)) ii))))] H := hP
    have hD : va_D A [((a 0), .inr (5, [.ref (a 1), .int (nI (len + 1))])), ((a 1), .inl (cI, 32, .inl (fun ii => nI ((upN pg (len) (ch)) ii))))] := hD
    refine lv_iconst (v := nI (1)) hx hb dX5_write_41 (by decide) ?_
    exact W.zret hx hb hr (by first | rfl | exact bI_nz) (fun t ht hW => ⟨⟨_, (), rfl, rfl, by rw [ht]; exact hP, hD.as rfl⟩, hS.F ht⟩) hS.2.2 dX5_write_42
  · have c2 := mt (nI_ltI (by omega) (by decide)).mpr c2
    exfalso; omega

set_option maxHeartbeats 4000000 in
set_option maxRecDepth 100000 in
theorem c_X5_wipe (l : Launch) (dC : Nat → ClassId) (dI : Nat → Nat → Nat) (cI : ClassId) (sz : Nat) (a : Nat → Nat) (pg : Nat → Nat) (len : Nat) (hlen : len ≤ 32) : Met l yX5_wipe wsX5_wipe ({ frames := 0, cells := 0, slots := 0, locals := 0 } : Room) (muP dC dI cI (pgW cI a pg len) sz [.ref (a 0)]) (muI dC dI (pgW cI a pg len) sz (fun (_ : Unit) => pgW cI a pg 0) (fun r _ => r = nI len)) 0 0 (va_A (pgW cI a pg len) sz) := by
  refine Met.ofW (cc := cX5_wipe) (maxL := 2) (ret := (some .int)) (by decide) rfl ?_
  intro p e s m args below meth c s₁ B hml hv
  obtain ⟨rfl, hsz, hP, hK, hD0⟩ := hv
  have hx := B.exec
  have hb := B.bytes
  have hr := B.returns
  have hts := atoms_spec (ws := wsX5_wipe) B.pre
  have hown : s.vm.findClass RX5 = some m.cls := findClass_of_methodNamed B.named
  have hlocks := B.notSynchronized
  subst hsz
  unfold muI muB
  have hD := hD0.self (sz := s.heap.size)
  generalize hAe : va_A (pgW cI a pg len) s.heap.size = A at hD ⊢
  have hA : ∀ q : Nat, s.heap.size ≤ q → A q := fun q h => by rw [← hAe]; exact Or.inr h
  have hS : va_S A s.heap s.heap [] := va_S.rf
  have hl := lv_entry ([.ref (a 0)]) (n := 2) (Nat.le_of_ble_eq_true rfl)
  rw [lg_entry_eq]
  generalize (lg_sl ([.ref (a 0)]) ++ List.replicate (2 - (lg_sl ([.ref (a 0)])).length) Slot.unset).toArray = ls at hl ⊢
  have hl : lv_has ls 2 [(0, .ref (a 0))] := hl
  refine lv_aload_n hx hb dX5_wipe_0 rfl (lv_at hl 0 rfl) ?_
  refine va_get (D := (dC, dI)) (ci := 5) (v := .int (nI (len))) (C := RX5) (T := TX5) (N := 2) hx hb hts (fun _ h => List.mem_cons_of_mem _ (List.mem_append_right _ (h))) hown hK.1 hP 0 rfl rfl 1 (by decide) (hts (Cond.fieldLink RX5 15 "WorstVoice$Page" "length" "I") (List.mem_of_getElem? (i := 1) rfl)) (fun _ h9 => h9) rfl dX5_wipe_1 ?_
  refine lv_istore_n (lv' := [(1, .int (nI (len))), (0, .ref (a 0))]) hx hb dX5_wipe_4 rfl hl (by decide) rfl (fun ls hl => ?_)
  refine lv_aload_n hx hb dX5_wipe_5 rfl (lv_at hl 1 rfl) ?_
  refine lv_iconst (v := nI (0)) hx hb dX5_wipe_6 (by decide) ?_
  refine va_put (D := (dC, dI)) (ci := 5) (v := .int (nI (0))) (ty := .int) (C := RX5) (T := TX5) (N := 2) hx hb hts (fun _ h => List.mem_cons_of_mem _ (List.mem_append_right _ (h))) tyX5 tyX5_ok nmX5 hown hK.1 hP hD hS 0 rfl rfl 1 (by decide) (hts (Cond.fieldLink RX5 15 "WorstVoice$Page" "length" "I") (List.mem_of_getElem? (i := 1) rfl)) (fun _ h9 => h9) rfl (by decide +kernel) rfl rfl (Nat.le_of_ble_eq_true rfl) dX5_wipe_7 (fun H locs hP hD hS => ?_)
  have hP : va_P (dC, dI) vwCl [((a 0), .inr (5, [.ref (a 1), .int (nI (0))])), ((a 1), .inl (cI, 32, .inl (fun ii => nI (pg ii))))] H := hP
  have hD : va_D A [((a 0), .inr (5, [.ref (a 1), .int (nI (0))])), ((a 1), .inl (cI, 32, .inl (fun ii => nI (pg ii))))] := hD
  refine lv_iload_n hx hb dX5_wipe_10 rfl (lv_at hl 0 rfl) ?_
  exact W.iret hx hb hr (fun t ht hW => ⟨⟨_, (), rfl, rfl, by rw [ht]; exact hP, hD.as rfl⟩, hS.F ht⟩) hS.2.2 dX5_wipe_11

set_option maxHeartbeats 4000000 in
set_option maxRecDepth 100000 in
theorem c_X5_codeAt (l : Launch) (dC : Nat → ClassId) (dI : Nat → Nat → Nat) (cI : ClassId) (a : Nat → Nat) (pg : Nat → Nat) (len : Nat) (hlen : len ≤ 32) (i_ : Nat) (hi : i_ < len) : Met l yX5_codeAt wsX5_codeAt ({ frames := 0, cells := 0, slots := 0, locals := 0 } : Room) (roP dC dI cI (pgW cI a pg len) [.ref (a 0), .int (nI (i_))]) (roI (fun r => r = nI (pg i_))) 0 0 (fun _ => False) := by
  refine Met.ofW (cc := cX5_codeAt) (maxL := 2) (ret := (some .int)) (by decide) rfl ?_
  intro p e s m args below meth c s₁ B hml hv
  obtain ⟨rfl, hP, hK⟩ := hv
  have hx := B.exec
  have hb := B.bytes
  have hr := B.returns
  have hts := atoms_spec (ws := wsX5_codeAt) B.pre
  have hown : s.vm.findClass RX5 = some m.cls := findClass_of_methodNamed B.named
  have hlocks := B.notSynchronized
  have hS : va_S (fun _ => False) s.heap s.heap [] := va_S.rf
  have hl := lv_entry ([.ref (a 0), .int (nI (i_))]) (n := 2) (Nat.le_of_ble_eq_true rfl)
  rw [lg_entry_eq]
  generalize (lg_sl ([.ref (a 0), .int (nI (i_))]) ++ List.replicate (2 - (lg_sl ([.ref (a 0), .int (nI (i_))])).length) Slot.unset).toArray = ls at hl ⊢
  have hl : lv_has ls 2 [(0, .ref (a 0)), (1, .int (nI (i_)))] := hl
  refine lv_iload_n hx hb dX5_codeAt_0 rfl (lv_at hl 1 rfl) ?_
  refine lv_if_lt (tgt := 30) hx hb dX5_codeAt_1 (by decide) (fun c1 => absurd c1 (z_lt (by omega))) (fun c1 => ?_)
  refine lv_iload_n hx hb dX5_codeAt_4 rfl (lv_at hl 1 rfl) ?_
  refine lv_aload_n hx hb dX5_codeAt_5 rfl (lv_at hl 0 rfl) ?_
  refine va_get (D := (dC, dI)) (ci := 5) (v := .int (nI (len))) (C := RX5) (T := TX5) (N := 2) hx hb hts (fun _ h => List.mem_cons_of_mem _ (List.mem_append_right _ (h))) hown hK.1 hP 0 rfl rfl 1 (by decide) (hts (Cond.fieldLink RX5 15 "WorstVoice$Page" "length" "I") (List.mem_of_getElem? (i := 1) rfl)) (fun _ h9 => h9) rfl dX5_codeAt_6 ?_
  refine lv_icmp_ge (tgt := 30) hx hb dX5_codeAt_9 (by decide) (fun c2 => ?_) (fun c2 => ?_)
  · have c2 := (nI_leI (by omega) (by omega)).mp c2
    exfalso; omega
  have c2 := mt (nI_leI (by omega) (by omega)).mpr c2
  refine lv_iload_n hx hb dX5_codeAt_12 rfl (lv_at hl 1 rfl) ?_
  refine lv_aload_n hx hb dX5_codeAt_13 rfl (lv_at hl 0 rfl) ?_
  refine va_get (D := (dC, dI)) (ci := 5) (v := .ref (a 1)) (C := RX5) (T := TX5) (N := 2) hx hb hts (fun _ h => List.mem_cons_of_mem _ (List.mem_append_right _ (h))) hown hK.1 hP 0 rfl rfl 0 (by decide) (hts (Cond.fieldLink RX5 9 "WorstVoice$Page" "codes" "[I") (List.mem_of_getElem? (i := 2) rfl)) (fun _ h9 => h9) rfl dX5_codeAt_14 ?_
  refine va_alen hx hb hK.1 hP 1 0 rfl rfl (v := nI 32) rfl dX5_codeAt_17 ?_
  refine lv_icmp_ge (tgt := 30) hx hb dX5_codeAt_18 (by decide) (fun c3 => ?_) (fun c3 => ?_)
  · have c3 := (nI_leI (by decide) (by omega)).mp c3
    exfalso; omega
  have c3 := mt (nI_leI (by decide) (by omega)).mpr c3
  refine lv_aload_n hx hb dX5_codeAt_21 rfl (lv_at hl 0 rfl) ?_
  refine va_get (D := (dC, dI)) (ci := 5) (v := .ref (a 1)) (C := RX5) (T := TX5) (N := 2) hx hb hts (fun _ h => List.mem_cons_of_mem _ (List.mem_append_right _ (h))) hown hK.1 hP 0 rfl rfl 0 (by decide) (hts (Cond.fieldLink RX5 9 "WorstVoice$Page" "codes" "[I") (List.mem_of_getElem? (i := 2) rfl)) (fun _ h9 => h9) rfl dX5_codeAt_22 ?_
  refine lv_iload_n hx hb dX5_codeAt_25 rfl (lv_at hl 1 rfl) ?_
  refine va_iald hx hb hK.1 hP 1 0 rfl rfl (vp_in_nI (by omega) (by decide)) dX5_codeAt_26 ?_
  refine tp_i (z := nI (pg i_)) (ld_n (fun ii => nI (pg ii)) (by omega)) ?_
  refine lv_goto (tgt := 31) hx hb dX5_codeAt_27 (by decide) ?_
  exact W.iret hx hb hr (fun t ht hW => ⟨⟨_, (), rfl, rfl, trivial⟩, hS.F ht⟩) hS.2.2 dX5_codeAt_31

set_option maxHeartbeats 4000000 in
set_option maxRecDepth 100000 in
theorem c_X5_digitAt (l : Launch) (dC : Nat → ClassId) (dI : Nat → Nat → Nat) (cI : ClassId) (a : Nat → Nat) (pg : Nat → Nat) (len : Nat) (hlen : len ≤ 32) (i_ : Nat) (hi : i_ < len) (h48 : 48 ≤ pg i_) : Met l yX5_digitAt wsX5_digitAt ({ frames := 1, cells := 0, slots := 0, locals := 21 } : Room) (roP dC dI cI (pgW cI a pg len) [.ref (a 0), .int (nI (i_))]) (roI (fun r => r = nI (pg i_ - 48))) 0 0 (fun _ => False) := by
  refine Met.ofW (cc := cX5_digitAt) (maxL := 2) (ret := (some .int)) (by decide) rfl ?_
  intro p e s m args below meth c s₁ B hml hv
  obtain ⟨rfl, hP, hK⟩ := hv
  have hx := B.exec
  have hb := B.bytes
  have hr := B.returns
  have hts := atoms_spec (ws := wsX5_digitAt) B.pre
  have hown : s.vm.findClass RX5 = some m.cls := findClass_of_methodNamed B.named
  have hlocks := B.notSynchronized
  have hS : va_S (fun _ => False) s.heap s.heap [] := va_S.rf
  have hl := lv_entry ([.ref (a 0), .int (nI (i_))]) (n := 2) (Nat.le_of_ble_eq_true rfl)
  rw [lg_entry_eq]
  generalize (lg_sl ([.ref (a 0), .int (nI (i_))]) ++ List.replicate (2 - (lg_sl ([.ref (a 0), .int (nI (i_))])).length) Slot.unset).toArray = ls at hl ⊢
  have hl : lv_has ls 2 [(0, .ref (a 0)), (1, .int (nI (i_)))] := hl
  refine lv_aload_n hx hb dX5_digitAt_0 rfl (lv_at hl 0 rfl) ?_
  refine lv_iload_n hx hb dX5_digitAt_1 rfl (lv_at hl 1 rfl) ?_
  refine ro_calli (va_runV (As := [.int (nI (i_))]) (rest := []) ⟨hx, hb, hml, hown, hts⟩ (c_X5_codeAt l dC dI cI a pg len hlen (i_) (by omega)) (cwV 1 hts gX5_digitAt_X5_codeAt rfl rfl rfl (by decide +kernel) ⟨Nat.le_of_ble_eq_true rfl, Nat.le_of_ble_eq_true rfl⟩) (ro_pv hK hP [0, 1] rfl (ci := 5) (q0 := 0) (C := RX5) (T := TX5) (N := 2) rfl rfl) rfl rfl hl.1 rfl (lv_room (Nat.le_of_ble_eq_true rfl)) dX5_digitAt_2 ⟨Nat.zero_le _, Nat.zero_le _⟩) hS hP (fun r1 H locs hr1 hP hS => ?_)
  subst hr1
  refine lv_bipush (v := nI (48)) hx hb dX5_digitAt_5 (by decide) ?_
  refine lv_isub hx hb dX5_digitAt_7 ?_
  refine tp_i (z := nI ((pg i_) - 48)) (pk_sub (by omega)) ?_
  exact W.iret hx hb hr (fun t ht hW => ⟨⟨_, (), rfl, rfl, trivial⟩, hS.F ht⟩) hS.2.2 dX5_digitAt_8

set_option maxHeartbeats 4000000 in
set_option maxRecDepth 100000 in
theorem c_X5_fitsWidows (l : Launch) (dC : Nat → ClassId) (dI : Nat → Nat → Nat) (cI : ClassId) (ch q_ : Nat) (hc : ch < 127) (hq : q_ ≤ 32) : Met l yX5_fitsWidows wsX5_fitsWidows ({ frames := 0, cells := 0, slots := 0, locals := 0 } : Room) (roP dC dI cI ([]) [.int (nI (ch)), .int (nI (q_))]) (roI (fun r => r = bI (rW ch q_))) 0 0 (fun _ => False) := by
  refine Met.ofW (cc := cX5_fitsWidows) (maxL := 2) (ret := (some .boolean)) (by decide) rfl ?_
  intro p e s m args below meth c s₁ B hml hv
  obtain ⟨rfl, hP, hK⟩ := hv
  have hx := B.exec
  have hb := B.bytes
  have hr := B.returns
  have hts := atoms_spec (ws := wsX5_fitsWidows) B.pre
  have hown : s.vm.findClass RX5 = some m.cls := findClass_of_methodNamed B.named
  have hlocks := B.notSynchronized
  have hS : va_S (fun _ => False) s.heap s.heap [] := va_S.rf
  have hl := lv_entry ([.int (nI (ch)), .int (nI (q_))]) (n := 2) (Nat.le_of_ble_eq_true rfl)
  rw [lg_entry_eq]
  generalize (lg_sl ([.int (nI (ch)), .int (nI (q_))]) ++ List.replicate (2 - (lg_sl ([.int (nI (ch)), .int (nI (q_))])).length) Slot.unset).toArray = ls at hl ⊢
  have hl : lv_has ls 2 [(0, .int (nI (ch))), (1, .int (nI (q_)))] := hl
  refine lv_iload_n hx hb dX5_fitsWidows_0 rfl (lv_at hl 1 rfl) ?_
  refine lv_iconst (v := nI (5)) hx hb dX5_fitsWidows_1 (by decide) ?_
  refine lv_icmp_gt (tgt := 21) hx hb dX5_fitsWidows_2 (by decide) (fun c1 => ?_) (fun c1 => ?_)
  · have c1 := (nI_ltI (by decide) (by omega)).mp c1
    refine lv_iconst (v := nI (0)) hx hb dX5_fitsWidows_21 (by decide) ?_
    exact W.zret hx hb hr (by first | rfl | exact bI_nz) (fun t ht hW => ⟨⟨_, (), rfl, (bI_f (fun h => by have h1 := h.1; have h2 := h.2.1; have h3 := h.2.2; omega)).symm, trivial⟩, hS.F ht⟩) hS.2.2 dX5_fitsWidows_22
  · have c1 := mt (nI_ltI (by decide) (by omega)).mpr c1
    refine lv_iload_n hx hb dX5_fitsWidows_5 rfl (lv_at hl 0 rfl) ?_
    refine lv_bipush (v := nI (48)) hx hb dX5_fitsWidows_6 (by decide) ?_
    refine lv_icmp_lt (tgt := 21) hx hb dX5_fitsWidows_8 (by decide) (fun c2 => ?_) (fun c2 => ?_)
    · have c2 := (nI_ltI (by omega) (by decide)).mp c2
      refine lv_iconst (v := nI (0)) hx hb dX5_fitsWidows_21 (by decide) ?_
      exact W.zret hx hb hr (by first | rfl | exact bI_nz) (fun t ht hW => ⟨⟨_, (), rfl, (bI_f (fun h => by have h1 := h.1; have h2 := h.2.1; have h3 := h.2.2; omega)).symm, trivial⟩, hS.F ht⟩) hS.2.2 dX5_fitsWidows_22
    · have c2 := mt (nI_ltI (by omega) (by decide)).mpr c2
      refine lv_iload_n hx hb dX5_fitsWidows_11 rfl (lv_at hl 0 rfl) ?_
      refine lv_bipush (v := nI (52)) hx hb dX5_fitsWidows_12 (by decide) ?_
      refine lv_icmp_ge (tgt := 21) hx hb dX5_fitsWidows_14 (by decide) (fun c3 => ?_) (fun c3 => ?_)
      · have c3 := (nI_leI (by decide) (by omega)).mp c3
        refine lv_iconst (v := nI (0)) hx hb dX5_fitsWidows_21 (by decide) ?_
        exact W.zret hx hb hr (by first | rfl | exact bI_nz) (fun t ht hW => ⟨⟨_, (), rfl, (bI_f (fun h => by have h1 := h.1; have h2 := h.2.1; have h3 := h.2.2; omega)).symm, trivial⟩, hS.F ht⟩) hS.2.2 dX5_fitsWidows_22
      · have c3 := mt (nI_leI (by decide) (by omega)).mpr c3
        refine lv_iconst (v := nI (1)) hx hb dX5_fitsWidows_17 (by decide) ?_
        refine lv_goto (tgt := 22) hx hb dX5_fitsWidows_18 (by decide) ?_
        exact W.zret hx hb hr (by first | rfl | exact bI_nz) (fun t ht hW => ⟨⟨_, (), rfl, (bI_t (by refine ⟨?_, ?_, ?_⟩ <;> omega)).symm, trivial⟩, hS.F ht⟩) hS.2.2 dX5_fitsWidows_22

set_option maxHeartbeats 4000000 in
set_option maxRecDepth 100000 in
theorem c_X5_singersEnd (l : Launch) (dC : Nat → ClassId) (dI : Nat → Nat → Nat) (cI : ClassId) (a : Nat → Nat) (pg : Nat → Nat) (len : Nat) (hlen : len ≤ 32) (hpc : ∀ i, i < len → 1 ≤ pg i ∧ pg i < 127) : Met l yX5_singersEnd wsX5_singersEnd ({ frames := 1, cells := 0, slots := 0, locals := 21 } : Room) (roP dC dI cI (pgW cI a pg len) [.ref (a 0)]) (roI (fun r => r = nI (se pg len))) 0 0 (fun _ => False) := by
  refine Met.ofW (cc := cX5_singersEnd) (maxL := 2) (ret := (some .int)) (by decide) rfl ?_
  intro p e s m args below meth c s₁ B hml hv
  obtain ⟨rfl, hP, hK⟩ := hv
  have hx := B.exec
  have hb := B.bytes
  have hr := B.returns
  have hts := atoms_spec (ws := wsX5_singersEnd) B.pre
  have hown : s.vm.findClass RX5 = some m.cls := findClass_of_methodNamed B.named
  have hlocks := B.notSynchronized
  have hS : va_S (fun _ => False) s.heap s.heap [] := va_S.rf
  have hl := lv_entry ([.ref (a 0)]) (n := 2) (Nat.le_of_ble_eq_true rfl)
  rw [lg_entry_eq]
  generalize (lg_sl ([.ref (a 0)]) ++ List.replicate (2 - (lg_sl ([.ref (a 0)])).length) Slot.unset).toArray = ls at hl ⊢
  have hl : lv_has ls 2 [(0, .ref (a 0))] := hl
  refine W_abs (fun G hG => ?_)
  have L2 : ∀ (fu : Nat) (i : Nat), i ≤ len → se pg i = i → len + 1 ≤ i + fu → ∀ (H : Heap) (locs : List Loc), va_P (dC, dI) vwCl [((a 0), .inr (5, [.ref (a 1), .int (nI (len))])), ((a 1), .inl (cI, 32, .inl (fun ii => nI (pg ii))))] H → va_S (fun _ => False) s.heap H locs → ∀ (ls : Array Slot), lv_has ls 2 [(0, .ref (a 0)), (1, .int (nI (i)))] → G H locs (F0 m 2 ls []) := by
    intro fu
    induction fu with
    | zero => intro i h2 h3 hfu H locs hP hS ls hl; omega
    | succ fu ih =>
      intro i h2 h3 hfu H locs hP hS ls hl
      refine (hG _ _ _).mpr ?_
      have hpi : i < len → pg i < 127 := fun q => (hpc i q).2
      refine lv_iload_n hx hb dX5_singersEnd_2 rfl (lv_at hl 1 rfl) ?_
      refine lv_aload_n hx hb dX5_singersEnd_3 rfl (lv_at hl 0 rfl) ?_
      refine va_get (D := (dC, dI)) (ci := 5) (v := .int (nI (len))) (C := RX5) (T := TX5) (N := 2) hx hb hts (fun _ h => List.mem_cons_of_mem _ (List.mem_append_right _ (h))) hown hK.1 hP 0 rfl rfl 1 (by decide) (hts (Cond.fieldLink RX5 15 "WorstVoice$Page" "length" "I") (List.mem_of_getElem? (i := 1) rfl)) (fun _ h9 => h9) rfl dX5_singersEnd_4 ?_
      refine lv_icmp_ge (tgt := 28) hx hb dX5_singersEnd_7 (by decide) (fun c1 => ?_) (fun c1 => ?_)
      · have c1 := (nI_leI (by omega) (by omega)).mp c1
        refine lv_aload_n hx hb dX5_singersEnd_28 rfl (lv_at hl 0 rfl) ?_
        refine va_get (D := (dC, dI)) (ci := 5) (v := .int (nI (len))) (C := RX5) (T := TX5) (N := 2) hx hb hts (fun _ h => List.mem_cons_of_mem _ (List.mem_append_right _ (h))) hown hK.1 hP 0 rfl rfl 1 (by decide) (hts (Cond.fieldLink RX5 15 "WorstVoice$Page" "length" "I") (List.mem_of_getElem? (i := 1) rfl)) (fun _ h9 => h9) rfl dX5_singersEnd_29 ?_
        exact W.iret hx hb hr (fun t ht hW => ⟨⟨_, (), rfl, (by rw [show i = len by omega] at h3; rw [h3]), trivial⟩, hS.F ht⟩) hS.2.2 dX5_singersEnd_32
      · have c1 := mt (nI_leI (by omega) (by omega)).mpr c1
        refine lv_aload_n hx hb dX5_singersEnd_10 rfl (lv_at hl 0 rfl) ?_
        refine lv_iload_n hx hb dX5_singersEnd_11 rfl (lv_at hl 1 rfl) ?_
        refine ro_calli (va_runV (As := [.int (nI (i))]) (rest := []) ⟨hx, hb, hml, hown, hts⟩ (c_X5_codeAt l dC dI cI a pg len hlen (i) (by omega)) (cwV 1 hts gX5_singersEnd_X5_codeAt rfl rfl rfl (by decide +kernel) ⟨Nat.le_of_ble_eq_true rfl, Nat.le_of_ble_eq_true rfl⟩) (ro_pv hK hP [0, 1] rfl (ci := 5) (q0 := 0) (C := RX5) (T := TX5) (N := 2) rfl rfl) rfl rfl hl.1 rfl (lv_room (Nat.le_of_ble_eq_true rfl)) dX5_singersEnd_12 ⟨Nat.zero_le _, Nat.zero_le _⟩) hS hP (fun r2 H locs hr2 hP hS => ?_)
        subst hr2
        refine lv_bipush (v := nI (59)) hx hb dX5_singersEnd_15 (by decide) ?_
        refine lv_icmp_ne (tgt := 22) hx hb dX5_singersEnd_17 (by decide) (fun c3 => ?_) (fun c3 => ?_)
        · have c3 := mt (nI_eq (by omega) (by decide)).mpr c3
          refine lv_iinc (v := nI (i + 1)) (lv' := [(1, .int (nI (i + 1))), (0, .ref (a 0))]) hx hb dX5_singersEnd_22 hl (k := 1) rfl (nI_add (i) 1) (by decide) rfl (fun ls hl => ?_)
          refine lv_goto (tgt := 2) hx hb dX5_singersEnd_25 (by decide) ?_
          exact (hG _ _ _).mp (ih (i + 1) (by omega) (se_n h3 (by assumption)) (by omega) _ _ hP hS _ (lv_sub hl [1, 0] rfl))
        · have c3 := (nI_eq (by omega) (by decide)).mp c3
          refine lv_iload_n hx hb dX5_singersEnd_20 rfl (lv_at hl 1 rfl) ?_
          exact W.iret hx hb hr (fun t ht hW => ⟨⟨_, (), rfl, (by rw [se_stop h3 (by assumption) len (by omega)]), trivial⟩, hS.F ht⟩) hS.2.2 dX5_singersEnd_21
  refine (hG _ _ _).mpr ?_
  refine lv_iconst (v := nI (0)) hx hb dX5_singersEnd_0 (by decide) ?_
  refine lv_istore_n (lv' := [(1, .int (nI (0))), (0, .ref (a 0))]) hx hb dX5_singersEnd_1 rfl hl (by decide) rfl (fun ls hl => ?_)
  exact (hG _ _ _).mp (L2 (len + 1) (0) (by omega) rfl (by omega) _ _ hP hS _ (lv_sub hl [1, 0] rfl))

set_option maxHeartbeats 4000000 in
set_option maxRecDepth 100000 in
theorem c_X4_clear (l : Launch) (dC : Nat → ClassId) (dI : Nat → Nat → Nat) (cI : ClassId) (sz : Nat) (a : Nat → Nat) (E : Nat → Nat) (h : Nat) (hh : h ≤ 8) : Met l yX4_clear wsX4_clear ({ frames := 0, cells := 0, slots := 0, locals := 0 } : Room) (muP dC dI cI (hsW cI a E h) sz [.ref (a 0)]) (muI dC dI (hsW cI a E h) sz (fun (_ : Unit) => hsW cI a E 0) (fun r _ => r = nI h)) 0 0 (va_A (hsW cI a E h) sz) := by
  refine Met.ofW (cc := cX4_clear) (maxL := 2) (ret := (some .int)) (by decide) rfl ?_
  intro p e s m args below meth c s₁ B hml hv
  obtain ⟨rfl, hsz, hP, hK, hD0⟩ := hv
  have hx := B.exec
  have hb := B.bytes
  have hr := B.returns
  have hts := atoms_spec (ws := wsX4_clear) B.pre
  have hown : s.vm.findClass RX4 = some m.cls := findClass_of_methodNamed B.named
  have hlocks := B.notSynchronized
  subst hsz
  unfold muI muB
  have hD := hD0.self (sz := s.heap.size)
  generalize hAe : va_A (hsW cI a E h) s.heap.size = A at hD ⊢
  have hA : ∀ q : Nat, s.heap.size ≤ q → A q := fun q h => by rw [← hAe]; exact Or.inr h
  have hS : va_S A s.heap s.heap [] := va_S.rf
  have hl := lv_entry ([.ref (a 0)]) (n := 2) (Nat.le_of_ble_eq_true rfl)
  rw [lg_entry_eq]
  generalize (lg_sl ([.ref (a 0)]) ++ List.replicate (2 - (lg_sl ([.ref (a 0)])).length) Slot.unset).toArray = ls at hl ⊢
  have hl : lv_has ls 2 [(0, .ref (a 0))] := hl
  refine lv_aload_n hx hb dX4_clear_0 rfl (lv_at hl 0 rfl) ?_
  refine va_get (D := (dC, dI)) (ci := 4) (v := .int (nI (h))) (C := RX4) (T := TX4) (N := 5) hx hb hts (fun _ h => List.mem_cons_of_mem _ (List.mem_append_right _ (h))) hown hK.1 hP 0 rfl rfl 4 (by decide) (hts (Cond.fieldLink RX4 24 "WorstVoice$Hearsay" "size" "I") (List.mem_of_getElem? (i := 1) rfl)) (fun _ h9 => h9) rfl dX4_clear_1 ?_
  refine lv_istore_n (lv' := [(1, .int (nI (h))), (0, .ref (a 0))]) hx hb dX4_clear_4 rfl hl (by decide) rfl (fun ls hl => ?_)
  refine lv_aload_n hx hb dX4_clear_5 rfl (lv_at hl 1 rfl) ?_
  refine lv_iconst (v := nI (0)) hx hb dX4_clear_6 (by decide) ?_
  refine va_put (D := (dC, dI)) (ci := 4) (v := .int (nI (0))) (ty := .int) (C := RX4) (T := TX4) (N := 5) hx hb hts (fun _ h => List.mem_cons_of_mem _ (List.mem_append_right _ (h))) tyX4 tyX4_ok nmX4 hown hK.1 hP hD hS 0 rfl rfl 4 (by decide) (hts (Cond.fieldLink RX4 24 "WorstVoice$Hearsay" "size" "I") (List.mem_of_getElem? (i := 1) rfl)) (fun _ h9 => h9) rfl (by decide +kernel) rfl rfl (Nat.le_of_ble_eq_true rfl) dX4_clear_7 (fun H locs hP hD hS => ?_)
  have hP : va_P (dC, dI) vwCl [((a 0), .inr (4, [.ref (a 1), .ref (a 2), .ref (a 3), .ref (a 4), .int (nI (0))])), ((a 1), .inl (cI, 8, .inl (fun ii => nI (E (4 * ii))))), ((a 2), .inl (cI, 8, .inl (fun ii => nI (E (4 * ii + 1))))), ((a 3), .inl (cI, 8, .inl (fun ii => nI (E (4 * ii + 2))))), ((a 4), .inl (cI, 8, .inl (fun ii => nI (E (4 * ii + 3)))))] H := hP
  have hD : va_D A [((a 0), .inr (4, [.ref (a 1), .ref (a 2), .ref (a 3), .ref (a 4), .int (nI (0))])), ((a 1), .inl (cI, 8, .inl (fun ii => nI (E (4 * ii))))), ((a 2), .inl (cI, 8, .inl (fun ii => nI (E (4 * ii + 1))))), ((a 3), .inl (cI, 8, .inl (fun ii => nI (E (4 * ii + 2))))), ((a 4), .inl (cI, 8, .inl (fun ii => nI (E (4 * ii + 3)))))] := hD
  refine lv_iload_n hx hb dX4_clear_10 rfl (lv_at hl 0 rfl) ?_
  exact W.iret hx hb hr (fun t ht hW => ⟨⟨_, (), rfl, rfl, by rw [ht]; exact hP, hD.as rfl⟩, hS.F ht⟩) hS.2.2 dX4_clear_11

set_option maxHeartbeats 4000000 in
set_option maxRecDepth 100000 in
theorem c_X4_add (l : Launch) (dC : Nat → ClassId) (dI : Nat → Nat → Nat) (cI : ClassId) (sz : Nat) (a : Nat → Nat) (E : Nat → Nat) (h : Nat) (hh : h ≤ 8) (hok : h < 8) (w_ x_ y_ z_ : Nat) (hz1 : z_ ≤ 1) : Met l yX4_add wsX4_add ({ frames := 0, cells := 0, slots := 0, locals := 0 } : Room) (muP dC dI cI (hsW cI a E h) sz [.ref (a 0), .int (nI (w_)), .int (nI (x_)), .int (nI (y_)), .int (nI (z_))]) (muI dC dI (hsW cI a E h) sz (fun (_ : Unit) => hsW cI a (upN (upN (upN (upN E (4 * h) w_) (4 * h + 1) x_) (4 * h + 2) y_) (4 * h + 3) z_) (h + 1)) (fun r _ => r = nI 1)) 0 0 (va_A (hsW cI a E h) sz) := by
  refine Met.ofW (cc := cX4_add) (maxL := 5) (ret := (some .boolean)) (by decide) rfl ?_
  intro p e s m args below meth c s₁ B hml hv
  obtain ⟨rfl, hsz, hP, hK, hD0⟩ := hv
  have hx := B.exec
  have hb := B.bytes
  have hr := B.returns
  have hts := atoms_spec (ws := wsX4_add) B.pre
  have hown : s.vm.findClass RX4 = some m.cls := findClass_of_methodNamed B.named
  have hlocks := B.notSynchronized
  subst hsz
  unfold muI muB
  have hD := hD0.self (sz := s.heap.size)
  generalize hAe : va_A (hsW cI a E h) s.heap.size = A at hD ⊢
  have hA : ∀ q : Nat, s.heap.size ≤ q → A q := fun q h => by rw [← hAe]; exact Or.inr h
  have hS : va_S A s.heap s.heap [] := va_S.rf
  have hl := lv_entry ([.ref (a 0), .int (nI (w_)), .int (nI (x_)), .int (nI (y_)), .int (nI (z_))]) (n := 5) (Nat.le_of_ble_eq_true rfl)
  rw [lg_entry_eq]
  generalize (lg_sl ([.ref (a 0), .int (nI (w_)), .int (nI (x_)), .int (nI (y_)), .int (nI (z_))]) ++ List.replicate (5 - (lg_sl ([.ref (a 0), .int (nI (w_)), .int (nI (x_)), .int (nI (y_)), .int (nI (z_))])).length) Slot.unset).toArray = ls at hl ⊢
  have hl : lv_has ls 5 [(0, .ref (a 0)), (1, .int (nI (w_))), (2, .int (nI (x_))), (3, .int (nI (y_))), (4, .int (nI (z_)))] := hl
  refine lv_aload_n hx hb dX4_add_0 rfl (lv_at hl 0 rfl) ?_
  refine va_get (D := (dC, dI)) (ci := 4) (v := .int (nI (h))) (C := RX4) (T := TX4) (N := 5) hx hb hts (fun _ h => List.mem_cons_of_mem _ (List.mem_append_right _ (h))) hown hK.1 hP 0 rfl rfl 4 (by decide) (hts (Cond.fieldLink RX4 24 "WorstVoice$Hearsay" "size" "I") (List.mem_of_getElem? (i := 1) rfl)) (fun _ h9 => h9) rfl dX4_add_1 ?_
  refine lv_if_lt (tgt := 16) hx hb dX4_add_4 (by decide) (fun c1 => absurd c1 (z_lt (by omega))) (fun c1 => ?_)
  refine lv_aload_n hx hb dX4_add_7 rfl (lv_at hl 0 rfl) ?_
  refine va_get (D := (dC, dI)) (ci := 4) (v := .int (nI (h))) (C := RX4) (T := TX4) (N := 5) hx hb hts (fun _ h => List.mem_cons_of_mem _ (List.mem_append_right _ (h))) hown hK.1 hP 0 rfl rfl 4 (by decide) (hts (Cond.fieldLink RX4 24 "WorstVoice$Hearsay" "size" "I") (List.mem_of_getElem? (i := 1) rfl)) (fun _ h9 => h9) rfl dX4_add_8 ?_
  refine lv_bipush (v := nI (8)) hx hb dX4_add_11 (by decide) ?_
  refine lv_icmp_lt (tgt := 18) hx hb dX4_add_13 (by decide) (fun c2 => ?_) (fun c2 => ?_)
  · have c2 := (nI_ltI (by omega) (by decide)).mp c2
    refine lv_aload_n hx hb dX4_add_18 rfl (lv_at hl 0 rfl) ?_
    refine va_get (D := (dC, dI)) (ci := 4) (v := .ref (a 1)) (C := RX4) (T := TX4) (N := 5) hx hb hts (fun _ h => List.mem_cons_of_mem _ (List.mem_append_right _ (h))) hown hK.1 hP 0 rfl rfl 0 (by decide) (hts (Cond.fieldLink RX4 9 "WorstVoice$Hearsay" "widows" "[I") (List.mem_of_getElem? (i := 2) rfl)) (fun _ h9 => h9) rfl dX4_add_19 ?_
    refine lv_aload_n hx hb dX4_add_22 rfl (lv_at hl 0 rfl) ?_
    refine va_get (D := (dC, dI)) (ci := 4) (v := .int (nI (h))) (C := RX4) (T := TX4) (N := 5) hx hb hts (fun _ h => List.mem_cons_of_mem _ (List.mem_append_right _ (h))) hown hK.1 hP 0 rfl rfl 4 (by decide) (hts (Cond.fieldLink RX4 24 "WorstVoice$Hearsay" "size" "I") (List.mem_of_getElem? (i := 1) rfl)) (fun _ h9 => h9) rfl dX4_add_23 ?_
    refine lv_iload_n hx hb dX4_add_26 rfl (lv_at hl 1 rfl) ?_
    refine va_iast hx hb hK.1 hP hD hS 1 0 rfl rfl (vp_in_nI (by omega) (by decide)) dX4_add_27 (fun H locs hP hD hS => ?_)
    rw [nI_clamp (by omega)] at hP hD
    have hP : va_P (dC, dI) vwCl [((a 0), .inr (4, [.ref (a 1), .ref (a 2), .ref (a 3), .ref (a 4), .int (nI (h))])), ((a 1), .inl (cI, 8, .inl (upd (fun ii => nI (E (4 * ii))) (h) (nI (w_))))), ((a 2), .inl (cI, 8, .inl (fun ii => nI (E (4 * ii + 1))))), ((a 3), .inl (cI, 8, .inl (fun ii => nI (E (4 * ii + 2))))), ((a 4), .inl (cI, 8, .inl (fun ii => nI (E (4 * ii + 3)))))] H := hP
    have hD : va_D A [((a 0), .inr (4, [.ref (a 1), .ref (a 2), .ref (a 3), .ref (a 4), .int (nI (h))])), ((a 1), .inl (cI, 8, .inl (upd (fun ii => nI (E (4 * ii))) (h) (nI (w_))))), ((a 2), .inl (cI, 8, .inl (fun ii => nI (E (4 * ii + 1))))), ((a 3), .inl (cI, 8, .inl (fun ii => nI (E (4 * ii + 2))))), ((a 4), .inl (cI, 8, .inl (fun ii => nI (E (4 * ii + 3)))))] := hD
    refine lv_aload_n hx hb dX4_add_28 rfl (lv_at hl 0 rfl) ?_
    refine va_get (D := (dC, dI)) (ci := 4) (v := .ref (a 2)) (C := RX4) (T := TX4) (N := 5) hx hb hts (fun _ h => List.mem_cons_of_mem _ (List.mem_append_right _ (h))) hown hK.1 hP 0 rfl rfl 1 (by decide) (hts (Cond.fieldLink RX4 15 "WorstVoice$Hearsay" "firsts" "[I") (List.mem_of_getElem? (i := 3) rfl)) (fun _ h9 => h9) rfl dX4_add_29 ?_
    refine lv_aload_n hx hb dX4_add_32 rfl (lv_at hl 0 rfl) ?_
    refine va_get (D := (dC, dI)) (ci := 4) (v := .int (nI (h))) (C := RX4) (T := TX4) (N := 5) hx hb hts (fun _ h => List.mem_cons_of_mem _ (List.mem_append_right _ (h))) hown hK.1 hP 0 rfl rfl 4 (by decide) (hts (Cond.fieldLink RX4 24 "WorstVoice$Hearsay" "size" "I") (List.mem_of_getElem? (i := 1) rfl)) (fun _ h9 => h9) rfl dX4_add_33 ?_
    refine lv_iload_n hx hb dX4_add_36 rfl (lv_at hl 2 rfl) ?_
    refine va_iast hx hb hK.1 hP hD hS 2 0 rfl rfl (vp_in_nI (by omega) (by decide)) dX4_add_37 (fun H locs hP hD hS => ?_)
    rw [nI_clamp (by omega)] at hP hD
    have hP : va_P (dC, dI) vwCl [((a 0), .inr (4, [.ref (a 1), .ref (a 2), .ref (a 3), .ref (a 4), .int (nI (h))])), ((a 1), .inl (cI, 8, .inl (upd (fun ii => nI (E (4 * ii))) (h) (nI (w_))))), ((a 2), .inl (cI, 8, .inl (upd (fun ii => nI (E (4 * ii + 1))) (h) (nI (x_))))), ((a 3), .inl (cI, 8, .inl (fun ii => nI (E (4 * ii + 2))))), ((a 4), .inl (cI, 8, .inl (fun ii => nI (E (4 * ii + 3)))))] H := hP
    have hD : va_D A [((a 0), .inr (4, [.ref (a 1), .ref (a 2), .ref (a 3), .ref (a 4), .int (nI (h))])), ((a 1), .inl (cI, 8, .inl (upd (fun ii => nI (E (4 * ii))) (h) (nI (w_))))), ((a 2), .inl (cI, 8, .inl (upd (fun ii => nI (E (4 * ii + 1))) (h) (nI (x_))))), ((a 3), .inl (cI, 8, .inl (fun ii => nI (E (4 * ii + 2))))), ((a 4), .inl (cI, 8, .inl (fun ii => nI (E (4 * ii + 3)))))] := hD
    refine lv_aload_n hx hb dX4_add_38 rfl (lv_at hl 0 rfl) ?_
    refine va_get (D := (dC, dI)) (ci := 4) (v := .ref (a 3)) (C := RX4) (T := TX4) (N := 5) hx hb hts (fun _ h => List.mem_cons_of_mem _ (List.mem_append_right _ (h))) hown hK.1 hP 0 rfl rfl 2 (by decide) (hts (Cond.fieldLink RX4 18 "WorstVoice$Hearsay" "seconds" "[I") (List.mem_of_getElem? (i := 4) rfl)) (fun _ h9 => h9) rfl dX4_add_39 ?_
    refine lv_aload_n hx hb dX4_add_42 rfl (lv_at hl 0 rfl) ?_
    refine va_get (D := (dC, dI)) (ci := 4) (v := .int (nI (h))) (C := RX4) (T := TX4) (N := 5) hx hb hts (fun _ h => List.mem_cons_of_mem _ (List.mem_append_right _ (h))) hown hK.1 hP 0 rfl rfl 4 (by decide) (hts (Cond.fieldLink RX4 24 "WorstVoice$Hearsay" "size" "I") (List.mem_of_getElem? (i := 1) rfl)) (fun _ h9 => h9) rfl dX4_add_43 ?_
    refine lv_iload_n hx hb dX4_add_46 rfl (lv_at hl 3 rfl) ?_
    refine va_iast hx hb hK.1 hP hD hS 3 0 rfl rfl (vp_in_nI (by omega) (by decide)) dX4_add_47 (fun H locs hP hD hS => ?_)
    rw [nI_clamp (by omega)] at hP hD
    have hP : va_P (dC, dI) vwCl [((a 0), .inr (4, [.ref (a 1), .ref (a 2), .ref (a 3), .ref (a 4), .int (nI (h))])), ((a 1), .inl (cI, 8, .inl (upd (fun ii => nI (E (4 * ii))) (h) (nI (w_))))), ((a 2), .inl (cI, 8, .inl (upd (fun ii => nI (E (4 * ii + 1))) (h) (nI (x_))))), ((a 3), .inl (cI, 8, .inl (upd (fun ii => nI (E (4 * ii + 2))) (h) (nI (y_))))), ((a 4), .inl (cI, 8, .inl (fun ii => nI (E (4 * ii + 3)))))] H := hP
    have hD : va_D A [((a 0), .inr (4, [.ref (a 1), .ref (a 2), .ref (a 3), .ref (a 4), .int (nI (h))])), ((a 1), .inl (cI, 8, .inl (upd (fun ii => nI (E (4 * ii))) (h) (nI (w_))))), ((a 2), .inl (cI, 8, .inl (upd (fun ii => nI (E (4 * ii + 1))) (h) (nI (x_))))), ((a 3), .inl (cI, 8, .inl (upd (fun ii => nI (E (4 * ii + 2))) (h) (nI (y_))))), ((a 4), .inl (cI, 8, .inl (fun ii => nI (E (4 * ii + 3)))))] := hD
    refine lv_aload_n hx hb dX4_add_48 rfl (lv_at hl 0 rfl) ?_
    refine va_get (D := (dC, dI)) (ci := 4) (v := .ref (a 4)) (C := RX4) (T := TX4) (N := 5) hx hb hts (fun _ h => List.mem_cons_of_mem _ (List.mem_append_right _ (h))) hown hK.1 hP 0 rfl rfl 3 (by decide) (hts (Cond.fieldLink RX4 21 "WorstVoice$Hearsay" "mores" "[I") (List.mem_of_getElem? (i := 5) rfl)) (fun _ h9 => h9) rfl dX4_add_49 ?_
    refine lv_aload_n hx hb dX4_add_52 rfl (lv_at hl 0 rfl) ?_
    refine va_get (D := (dC, dI)) (ci := 4) (v := .int (nI (h))) (C := RX4) (T := TX4) (N := 5) hx hb hts (fun _ h => List.mem_cons_of_mem _ (List.mem_append_right _ (h))) hown hK.1 hP 0 rfl rfl 4 (by decide) (hts (Cond.fieldLink RX4 24 "WorstVoice$Hearsay" "size" "I") (List.mem_of_getElem? (i := 1) rfl)) (fun _ h9 => h9) rfl dX4_add_53 ?_
    refine lv_iload hx hb dX4_add_56 (lv_at hl 4 rfl) ?_
    refine lv_if_eq (tgt := 65) hx hb dX4_add_58 (by decide) (fun c3 => ?_) (fun c3 => ?_)
    · have c3 := (z_eq (by omega)).mp c3
      refine lv_iconst (v := nI (0)) hx hb dX4_add_65 (by decide) ?_
      refine tp_i (z := nI (z_)) (by congr 1; omega) ?_
      refine va_iast hx hb hK.1 hP hD hS 4 0 rfl rfl (vp_in_nI (by omega) (by decide)) dX4_add_66 (fun H locs hP hD hS => ?_)
      rw [nI_clamp (by omega)] at hP hD
      have hP : va_P (dC, dI) vwCl [((a 0), .inr (4, [.ref (a 1), .ref (a 2), .ref (a 3), .ref (a 4), .int (nI (h))])), ((a 1), .inl (cI, 8, .inl (upd (fun ii => nI (E (4 * ii))) (h) (nI (w_))))), ((a 2), .inl (cI, 8, .inl (upd (fun ii => nI (E (4 * ii + 1))) (h) (nI (x_))))), ((a 3), .inl (cI, 8, .inl (upd (fun ii => nI (E (4 * ii + 2))) (h) (nI (y_))))), ((a 4), .inl (cI, 8, .inl (upd (fun ii => nI (E (4 * ii + 3))) (h) (nI (z_)))))] H := hP
      have hD : va_D A [((a 0), .inr (4, [.ref (a 1), .ref (a 2), .ref (a 3), .ref (a 4), .int (nI (h))])), ((a 1), .inl (cI, 8, .inl (upd (fun ii => nI (E (4 * ii))) (h) (nI (w_))))), ((a 2), .inl (cI, 8, .inl (upd (fun ii => nI (E (4 * ii + 1))) (h) (nI (x_))))), ((a 3), .inl (cI, 8, .inl (upd (fun ii => nI (E (4 * ii + 2))) (h) (nI (y_))))), ((a 4), .inl (cI, 8, .inl (upd (fun ii => nI (E (4 * ii + 3))) (h) (nI (z_)))))] := hD
      refine lv_aload_n hx hb dX4_add_67 rfl (lv_at hl 0 rfl) ?_
      refine lv_dup hx hb dX4_add_68 rfl ?_
      refine va_get (D := (dC, dI)) (ci := 4) (v := .int (nI (h))) (C := RX4) (T := TX4) (N := 5) hx hb hts (fun _ h => List.mem_cons_of_mem _ (List.mem_append_right _ (h))) hown hK.1 hP 0 rfl rfl 4 (by decide) (hts (Cond.fieldLink RX4 24 "WorstVoice$Hearsay" "size" "I") (List.mem_of_getElem? (i := 1) rfl)) (fun _ h9 => h9) rfl dX4_add_69 ?_
      refine lv_iconst (v := nI (1)) hx hb dX4_add_72 (by decide) ?_
      refine lv_iadd hx hb dX4_add_73 ?_
      refine tp_i (z := nI (h + 1)) (nI_add (h) (1)) ?_
      refine va_put (D := (dC, dI)) (ci := 4) (v := .int (nI (h + 1))) (ty := .int) (C := RX4) (T := TX4) (N := 5) hx hb hts (fun _ h => List.mem_cons_of_mem _ (List.mem_append_right _ (h))) tyX4 tyX4_ok nmX4 hown hK.1 hP hD hS 0 rfl rfl 4 (by decide) (hts (Cond.fieldLink RX4 24 "WorstVoice$Hearsay" "size" "I") (List.mem_of_getElem? (i := 1) rfl)) (fun _ h9 => h9) rfl (by decide +kernel) rfl rfl (Nat.le_of_ble_eq_true rfl) dX4_add_74 (fun H locs hP hD hS => ?_)
      have hP : va_P (dC, dI) vwCl [((a 0), .inr (4, [.ref (a 1), .ref (a 2), .ref (a 3), .ref (a 4), .int (nI (h + 1))])), ((a 1), .inl (cI, 8, .inl (upd (fun ii => nI (E (4 * ii))) (h) (nI (w_))))), ((a 2), .inl (cI, 8, .inl (upd (fun ii => nI (E (4 * ii + 1))) (h) (nI (x_))))), ((a 3), .inl (cI, 8, .inl (upd (fun ii => nI (E (4 * ii + 2))) (h) (nI (y_))))), ((a 4), .inl (cI, 8, .inl (upd (fun ii => nI (E (4 * ii + 3))) (h) (nI (z_)))))] H := hP
      have hD : va_D A [((a 0), .inr (4, [.ref (a 1), .ref (a 2), .ref (a 3), .ref (a 4), .int (nI (h + 1))])), ((a 1), .inl (cI, 8, .inl (upd (fun ii => nI (E (4 * ii))) (h) (nI (w_))))), ((a 2), .inl (cI, 8, .inl (upd (fun ii => nI (E (4 * ii + 1))) (h) (nI (x_))))), ((a 3), .inl (cI, 8, .inl (upd (fun ii => nI (E (4 * ii + 2))) (h) (nI (y_))))), ((a 4), .inl (cI, 8, .inl (upd (fun ii => nI (E (4 * ii + 3))) (h) (nI (z_)))))] := hD
      refine lv_iconst (v := nI (1)) hx hb dX4_add_77 (by decide) ?_
      have hP := hP.re 1 rfl (fun i => nI ((upN (upN (upN (upN E (4 * h) w_) (4 * h + 1) x_) (4 * h + 2) y_) (4 * h + 3) z_) (4 * i))) (fun j hj => if q : j = h then by unfold upd upN; rw [if_pos q]; (repeat' split) <;> first | rfl | (exfalso; omega) else by unfold upd upN; rw [if_neg q]; (repeat' split) <;> first | rfl | (exfalso; omega))
      have hP := hP.re 2 rfl (fun i => nI ((upN (upN (upN (upN E (4 * h) w_) (4 * h + 1) x_) (4 * h + 2) y_) (4 * h + 3) z_) (4 * i + 1))) (fun j hj => if q : j = h then by unfold upd upN; rw [if_pos q]; (repeat' split) <;> first | rfl | (exfalso; omega) else by unfold upd upN; rw [if_neg q]; (repeat' split) <;> first | rfl | (exfalso; omega))
      have hP := hP.re 3 rfl (fun i => nI ((upN (upN (upN (upN E (4 * h) w_) (4 * h + 1) x_) (4 * h + 2) y_) (4 * h + 3) z_) (4 * i + 2))) (fun j hj => if q : j = h then by unfold upd upN; rw [if_pos q]; (repeat' split) <;> first | rfl | (exfalso; omega) else by unfold upd upN; rw [if_neg q]; (repeat' split) <;> first | rfl | (exfalso; omega))
      have hP := hP.re 4 rfl (fun i => nI ((upN (upN (upN (upN E (4 * h) w_) (4 * h + 1) x_) (4 * h + 2) y_) (4 * h + 3) z_) (4 * i + 3))) (fun j hj => if q : j = h then by unfold upd upN; rw [if_pos q]; (repeat' split) <;> first | rfl | (exfalso; omega) else by unfold upd upN; rw [if_neg q]; (repeat' split) <;> first | rfl | (exfalso; omega))
      have hP9 := hP
      exact W.zret hx hb hr (by first | rfl | exact bI_nz) (fun t ht hW => ⟨⟨_, (), rfl, rfl, by rw [ht]; exact hP9, hD.as rfl⟩, hS.F ht⟩) hS.2.2 dX4_add_78
    · have c3 := mt (z_eq (by omega)).mpr c3
      refine lv_iconst (v := nI (1)) hx hb dX4_add_61 (by decide) ?_
      refine lv_goto (tgt := 66) hx hb dX4_add_62 (by decide) ?_
      refine tp_i (z := nI (z_)) (by congr 1; omega) ?_
      refine va_iast hx hb hK.1 hP hD hS 4 0 rfl rfl (vp_in_nI (by omega) (by decide)) dX4_add_66 (fun H locs hP hD hS => ?_)
      rw [nI_clamp (by omega)] at hP hD
      have hP : va_P (dC, dI) vwCl [((a 0), .inr (4, [.ref (a 1), .ref (a 2), .ref (a 3), .ref (a 4), .int (nI (h))])), ((a 1), .inl (cI, 8, .inl (upd (fun ii => nI (E (4 * ii))) (h) (nI (w_))))), ((a 2), .inl (cI, 8, .inl (upd (fun ii => nI (E (4 * ii + 1))) (h) (nI (x_))))), ((a 3), .inl (cI, 8, .inl (upd (fun ii => nI (E (4 * ii + 2))) (h) (nI (y_))))), ((a 4), .inl (cI, 8, .inl (upd (fun ii => nI (E (4 * ii + 3))) (h) (nI (z_)))))] H := hP
      have hD : va_D A [((a 0), .inr (4, [.ref (a 1), .ref (a 2), .ref (a 3), .ref (a 4), .int (nI (h))])), ((a 1), .inl (cI, 8, .inl (upd (fun ii => nI (E (4 * ii))) (h) (nI (w_))))), ((a 2), .inl (cI, 8, .inl (upd (fun ii => nI (E (4 * ii + 1))) (h) (nI (x_))))), ((a 3), .inl (cI, 8, .inl (upd (fun ii => nI (E (4 * ii + 2))) (h) (nI (y_))))), ((a 4), .inl (cI, 8, .inl (upd (fun ii => nI (E (4 * ii + 3))) (h) (nI (z_)))))] := hD
      refine lv_aload_n hx hb dX4_add_67 rfl (lv_at hl 0 rfl) ?_
      refine lv_dup hx hb dX4_add_68 rfl ?_
      refine va_get (D := (dC, dI)) (ci := 4) (v := .int (nI (h))) (C := RX4) (T := TX4) (N := 5) hx hb hts (fun _ h => List.mem_cons_of_mem _ (List.mem_append_right _ (h))) hown hK.1 hP 0 rfl rfl 4 (by decide) (hts (Cond.fieldLink RX4 24 "WorstVoice$Hearsay" "size" "I") (List.mem_of_getElem? (i := 1) rfl)) (fun _ h9 => h9) rfl dX4_add_69 ?_
      refine lv_iconst (v := nI (1)) hx hb dX4_add_72 (by decide) ?_
      refine lv_iadd hx hb dX4_add_73 ?_
      refine tp_i (z := nI (h + 1)) (nI_add (h) (1)) ?_
      refine va_put (D := (dC, dI)) (ci := 4) (v := .int (nI (h + 1))) (ty := .int) (C := RX4) (T := TX4) (N := 5) hx hb hts (fun _ h => List.mem_cons_of_mem _ (List.mem_append_right _ (h))) tyX4 tyX4_ok nmX4 hown hK.1 hP hD hS 0 rfl rfl 4 (by decide) (hts (Cond.fieldLink RX4 24 "WorstVoice$Hearsay" "size" "I") (List.mem_of_getElem? (i := 1) rfl)) (fun _ h9 => h9) rfl (by decide +kernel) rfl rfl (Nat.le_of_ble_eq_true rfl) dX4_add_74 (fun H locs hP hD hS => ?_)
      have hP : va_P (dC, dI) vwCl [((a 0), .inr (4, [.ref (a 1), .ref (a 2), .ref (a 3), .ref (a 4), .int (nI (h + 1))])), ((a 1), .inl (cI, 8, .inl (upd (fun ii => nI (E (4 * ii))) (h) (nI (w_))))), ((a 2), .inl (cI, 8, .inl (upd (fun ii => nI (E (4 * ii + 1))) (h) (nI (x_))))), ((a 3), .inl (cI, 8, .inl (upd (fun ii => nI (E (4 * ii + 2))) (h) (nI (y_))))), ((a 4), .inl (cI, 8, .inl (upd (fun ii => nI (E (4 * ii + 3))) (h) (nI (z_)))))] H := hP
      have hD : va_D A [((a 0), .inr (4, [.ref (a 1), .ref (a 2), .ref (a 3), .ref (a 4), .int (nI (h + 1))])), ((a 1), .inl (cI, 8, .inl (upd (fun ii => nI (E (4 * ii))) (h) (nI (w_))))), ((a 2), .inl (cI, 8, .inl (upd (fun ii => nI (E (4 * ii + 1))) (h) (nI (x_))))), ((a 3), .inl (cI, 8, .inl (upd (fun ii => nI (E (4 * ii + 2))) (h) (nI (y_))))), ((a 4), .inl (cI, 8, .inl (upd (fun ii => nI (E (4 * ii + 3))) (h) (nI (z_)))))] := hD
      refine lv_iconst (v := nI (1)) hx hb dX4_add_77 (by decide) ?_
      have hP := hP.re 1 rfl (fun i => nI ((upN (upN (upN (upN E (4 * h) w_) (4 * h + 1) x_) (4 * h + 2) y_) (4 * h + 3) z_) (4 * i))) (fun j hj => if q : j = h then by unfold upd upN; rw [if_pos q]; (repeat' split) <;> first | rfl | (exfalso; omega) else by unfold upd upN; rw [if_neg q]; (repeat' split) <;> first | rfl | (exfalso; omega))
      have hP := hP.re 2 rfl (fun i => nI ((upN (upN (upN (upN E (4 * h) w_) (4 * h + 1) x_) (4 * h + 2) y_) (4 * h + 3) z_) (4 * i + 1))) (fun j hj => if q : j = h then by unfold upd upN; rw [if_pos q]; (repeat' split) <;> first | rfl | (exfalso; omega) else by unfold upd upN; rw [if_neg q]; (repeat' split) <;> first | rfl | (exfalso; omega))
      have hP := hP.re 3 rfl (fun i => nI ((upN (upN (upN (upN E (4 * h) w_) (4 * h + 1) x_) (4 * h + 2) y_) (4 * h + 3) z_) (4 * i + 2))) (fun j hj => if q : j = h then by unfold upd upN; rw [if_pos q]; (repeat' split) <;> first | rfl | (exfalso; omega) else by unfold upd upN; rw [if_neg q]; (repeat' split) <;> first | rfl | (exfalso; omega))
      have hP := hP.re 4 rfl (fun i => nI ((upN (upN (upN (upN E (4 * h) w_) (4 * h + 1) x_) (4 * h + 2) y_) (4 * h + 3) z_) (4 * i + 3))) (fun j hj => if q : j = h then by unfold upd upN; rw [if_pos q]; (repeat' split) <;> first | rfl | (exfalso; omega) else by unfold upd upN; rw [if_neg q]; (repeat' split) <;> first | rfl | (exfalso; omega))
      have hP9 := hP
      exact W.zret hx hb hr (by first | rfl | exact bI_nz) (fun t ht hW => ⟨⟨_, (), rfl, rfl, by rw [ht]; exact hP9, hD.as rfl⟩, hS.F ht⟩) hS.2.2 dX4_add_78
  · have c2 := mt (nI_ltI (by omega) (by decide)).mpr c2
    exfalso; omega
