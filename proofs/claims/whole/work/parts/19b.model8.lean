/-! the model: a page read -/
set_option maxHeartbeats 4000000 in
set_option maxRecDepth 100000 in
theorem c_M_go (l : Launch) (dC : Nat → ClassId) (dI : Nat → Nat → Nat) (cI : ClassId) (sz : Nat) (b : Nat → Nat) (pm : Int32) (n : Nat) (w : Nat) (wk : Int32) (tr : Int32) (nd : Int32) (hd : Int32) (sd : Int32) (kt : Int32) (kw : Int32) (kh : Int32) (hz : Int64) (pg : Nat → Nat) (rd rm : Nat → Int32) (k : Nat) (hfw : fw pg k = k) (hch : pg k < 127) (hRD : rRD pg k rd) (hRM : rRM pg k rm) : Met l yX10_go wsX10_go ({ frames := 1, cells := 0, slots := 0, locals := 25 } : Room) (muP dC dI cI ([moW b pm (nI (sS pg k)) (nI (sW pg k)) (nI (sT pg k)) n w wk tr nd hd sd kt kw kh hz] ++ [(b 2, .inl (cI, 20, .inl rd)), (b 3, .inl (cI, 5, .inl rm))]) sz [.ref (b 0), .int (nI (pg k))]) (muI (S := (Nat → Int32) × (Nat → Int32) × Int32 × Int32 × Int32) dC dI ([moW b pm (nI (sS pg k)) (nI (sW pg k)) (nI (sT pg k)) n w wk tr nd hd sd kt kw kh hz] ++ [(b 2, .inl (cI, 20, .inl rd)), (b 3, .inl (cI, 5, .inl rm))]) sz (fun u => [moW b pm u.2.2.2.1 u.2.2.2.2 u.2.2.1 n w wk tr nd hd sd kt kw kh hz] ++ [(b 2, .inl (cI, 20, .inl u.1)), (b 3, .inl (cI, 5, .inl u.2.1))]) (fun r u => gQ pg k r u)) 0 0 (va_A ([moW b pm (nI (sS pg k)) (nI (sW pg k)) (nI (sT pg k)) n w wk tr nd hd sd kt kw kh hz] ++ [(b 2, .inl (cI, 20, .inl rd)), (b 3, .inl (cI, 5, .inl rm))]) sz) := by
  refine Met.ofW (cc := cX10_go) (maxL := 3) (ret := (some .boolean)) (by decide) rfl ?_
  intro p e s m args below meth c s₁ B hml hv
  obtain ⟨rfl, hsz, hP, hK, hD0⟩ := hv
  have hx := B.exec
  have hb := B.bytes
  have hr := B.returns
  have hts := atoms_spec (ws := wsX10_go) B.pre
  have hown : s.vm.findClass RX10 = some m.cls := findClass_of_methodNamed B.named
  have hlocks := B.notSynchronized
  subst hsz
  unfold muI muB
  have hD := hD0.self (sz := s.heap.size)
  generalize hAe : va_A ([moW b pm (nI (sS pg k)) (nI (sW pg k)) (nI (sT pg k)) n w wk tr nd hd sd kt kw kh hz] ++ [(b 2, .inl (cI, 20, .inl rd)), (b 3, .inl (cI, 5, .inl rm))]) s.heap.size = A at hD ⊢
  have hA : ∀ q : Nat, s.heap.size ≤ q → A q := fun q h => by rw [← hAe]; exact Or.inr h
  have hS : va_S A s.heap s.heap [] := va_S.rf
  have hl := lv_entry ([.ref (b 0), .int (nI (pg k))]) (n := 3) (Nat.le_of_ble_eq_true rfl)
  rw [lg_entry_eq]
  generalize (lg_sl ([.ref (b 0), .int (nI (pg k))]) ++ List.replicate (3 - (lg_sl ([.ref (b 0), .int (nI (pg k))])).length) Slot.unset).toArray = ls at hl ⊢
  have hl : lv_has ls 3 [(0, .ref (b 0)), (1, .int (nI (pg k)))] := hl
  have hT7 := sT_lt pg k
  have hSl := sS_le hfw
  have hSl2 := hSl.1
  have hSl3 := hSl.2
  have hW5 := sW_le hfw
  refine lv_iload_n hx hb dX10_go_0 rfl (lv_at hl 1 rfl) ?_
  refine lv_bipush (v := nI (48)) hx hb dX10_go_1 (by decide) ?_
  refine lv_isub hx hb dX10_go_3 ?_
  refine lv_istore_n (lv' := [(2, .int ((nI (pg k)) - (nI (48)))), (0, .ref (b 0)), (1, .int (nI (pg k)))]) hx hb dX10_go_4 rfl hl (by decide) rfl (fun ls hl => ?_)
  refine lv_aload_n hx hb dX10_go_5 rfl (lv_at hl 1 rfl) ?_
  refine va_get (D := (dC, dI)) (ci := 10) (v := .int (nI (sT pg k))) (C := RX10) (T := TX10) (N := 26) hx hb hts (fun _ h => List.mem_cons_of_mem _ (List.mem_append_right _ (h))) hown hK.1 hP 0 rfl rfl 6 (by decide) (hts (Cond.fieldLink RX10 56 "WorstVoiceModel" "state" "I") (List.mem_of_getElem? (i := 1) rfl)) (fun _ h9 => h9) rfl dX10_go_6 ?_
  refine lv_if_ne (tgt := 46) hx hb dX10_go_9 (by decide) (fun c1 => ?_) (fun c1 => ?_)
  · have c1 := mt (z_eq (by omega)).mpr c1
    refine lv_aload_n hx hb dX10_go_46 rfl (lv_at hl 1 rfl) ?_
    refine va_get (D := (dC, dI)) (ci := 10) (v := .int (nI (sT pg k))) (C := RX10) (T := TX10) (N := 26) hx hb hts (fun _ h => List.mem_cons_of_mem _ (List.mem_append_right _ (h))) hown hK.1 hP 0 rfl rfl 6 (by decide) (hts (Cond.fieldLink RX10 56 "WorstVoiceModel" "state" "I") (List.mem_of_getElem? (i := 1) rfl)) (fun _ h9 => h9) rfl dX10_go_47 ?_
    refine lv_iconst (v := nI (5)) hx hb dX10_go_50 (by decide) ?_
    refine lv_icmp_ge (tgt := 113) hx hb dX10_go_51 (by decide) (fun c2 => ?_) (fun c2 => ?_)
    · have c2 := (nI_leI (by decide) (by omega)).mp c2
      refine lv_aload_n hx hb dX10_go_113 rfl (lv_at hl 1 rfl) ?_
      refine va_get (D := (dC, dI)) (ci := 10) (v := .int (nI (sT pg k))) (C := RX10) (T := TX10) (N := 26) hx hb hts (fun _ h => List.mem_cons_of_mem _ (List.mem_append_right _ (h))) hown hK.1 hP 0 rfl rfl 6 (by decide) (hts (Cond.fieldLink RX10 56 "WorstVoiceModel" "state" "I") (List.mem_of_getElem? (i := 1) rfl)) (fun _ h9 => h9) rfl dX10_go_114 ?_
      refine lv_iconst (v := nI (5)) hx hb dX10_go_117 (by decide) ?_
      refine lv_icmp_ne (tgt := 179) hx hb dX10_go_118 (by decide) (fun c3 => ?_) (fun c3 => ?_)
      · have c3 := mt (nI_eq (by omega) (by decide)).mpr c3
        refine lv_aload_n hx hb dX10_go_179 rfl (lv_at hl 1 rfl) ?_
        refine va_get (D := (dC, dI)) (ci := 10) (v := .int (nI (sW pg k))) (C := RX10) (T := TX10) (N := 26) hx hb hts (fun _ h => List.mem_cons_of_mem _ (List.mem_append_right _ (h))) hown hK.1 hP 0 rfl rfl 5 (by decide) (hts (Cond.fieldLink RX10 68 "WorstVoiceModel" "readWidows" "I") (List.mem_of_getElem? (i := 5) rfl)) (fun _ h9 => h9) rfl dX10_go_180 ?_
        refine lv_iconst (v := nI (5)) hx hb dX10_go_183 (by decide) ?_
        refine lv_icmp_eq (tgt := 199) hx hb dX10_go_184 (by decide) (fun c4 => ?_) (fun c4 => ?_)
        · have c4 := (nI_eq (by omega) (by decide)).mp c4
          refine lv_iconst (v := nI (0)) hx hb dX10_go_199 (by decide) ?_
          exact W.zret hx hb hr (by first | rfl | exact bI_nz) (fun t ht hW => ⟨⟨_, (rd, rm, nI (sT pg k), nI (sS pg k), nI (sW pg k)), rfl, (by first | exact gQ_f (fun q => by have q1 := (rt_6 (by omega)).mp q; omega) | exact gQ_f (fun q => by have q1 := (rt_6 (by omega)).mp q; exact absurd ((dig_w hch).mpr q1.2) (by assumption))), by rw [ht]; exact hP, hD.as rfl⟩, hS.F ht⟩) hS.2.2 dX10_go_200
        · have c4 := mt (nI_eq (by omega) (by decide)).mpr c4
          refine lv_iload_n hx hb dX10_go_187 rfl (lv_at hl 0 rfl) ?_
          refine lv_i2l (v := ((nI (pg k)) - (nI (48))).toInt64) hx hb dX10_go_188 rfl ?_
          refine lv_lconst (v := (nI 0).toInt64) hx hb dX10_go_189 (by decide) ?_
          refine lv_ldc2 (v := 3) hx hb hown (hts (Cond.constantLong RX10 71 (3)) (List.mem_of_getElem? (i := 6) rfl)) dX10_go_190 ?_
          refine tp_l (z := (nI 3).toInt64) (by decide) ?_
          refine ro_calli (va_runS (As := [.long (((nI (pg k)) - (nI (48))).toInt64), .long ((nI 0).toInt64), .long ((nI 3).toInt64)]) (rest := []) ⟨hx, hb, hml, hown, hts⟩ (c_X10_in l dC dI cI ((nI (pg k)) - (nI (48))) (nI 0) (nI 3)) (va_cwS 3 hts gX10_go_X10_in rfl rfl rfl (by decide +kernel) ⟨Nat.le_of_ble_eq_true rfl, Nat.le_of_ble_eq_true rfl⟩) (ro_ps hK hP [] rfl) rfl rfl hl.1 rfl (lv_room (Nat.le_of_ble_eq_true rfl)) dX10_go_193 ⟨Nat.zero_le _, Nat.zero_le _⟩) hS hP (fun r5 H locs hr5 hP hS => ?_)
          subst hr5
          have e6 : bI ((nI 0).toInt ≤ ((nI (pg k)) - (nI (48))).toInt ∧ ((nI (pg k)) - (nI (48))).toInt ≤ (nI 3).toInt) = bI ((0 : Int) ≤ ((nI (pg k)) - (nI (48))).toInt ∧ ((nI (pg k)) - (nI (48))).toInt ≤ (3 : Int)) := bI_i (by rw [nI_toInt (n := 0) (by decide), nI_toInt (n := 3) (by decide)] <;> omega)
          refine tp_i (z := bI ((0 : Int) ≤ ((nI (pg k)) - (nI (48))).toInt ∧ ((nI (pg k)) - (nI (48))).toInt ≤ (3 : Int))) e6 ?_
          refine lv_if_ne (tgt := 201) hx hb dX10_go_196 (by decide) (fun c7 => ?_) (fun c7 => ?_)
          · have c7 := Decidable.not_not.mp (mt bI_0.mpr c7)
            refine lv_aload_n hx hb dX10_go_201 rfl (lv_at hl 1 rfl) ?_
            refine va_get (D := (dC, dI)) (ci := 10) (v := .ref (b 3)) (C := RX10) (T := TX10) (N := 26) hx hb hts (fun _ h => List.mem_cons_of_mem _ (List.mem_append_right _ (h))) hown hK.1 hP 0 rfl rfl 4 (by decide) (hts (Cond.fieldLink RX10 16 "WorstVoiceModel" "readMinds" "[I") (List.mem_of_getElem? (i := 7) rfl)) (fun _ h9 => h9) rfl dX10_go_202 ?_
            refine lv_aload_n hx hb dX10_go_205 rfl (lv_at hl 1 rfl) ?_
            refine va_get (D := (dC, dI)) (ci := 10) (v := .int (nI (sW pg k))) (C := RX10) (T := TX10) (N := 26) hx hb hts (fun _ h => List.mem_cons_of_mem _ (List.mem_append_right _ (h))) hown hK.1 hP 0 rfl rfl 5 (by decide) (hts (Cond.fieldLink RX10 68 "WorstVoiceModel" "readWidows" "I") (List.mem_of_getElem? (i := 5) rfl)) (fun _ h9 => h9) rfl dX10_go_206 ?_
            refine lv_iload_n hx hb dX10_go_209 rfl (lv_at hl 0 rfl) ?_
            refine va_iast hx hb hK.1 hP hD hS 2 0 rfl rfl (vp_in_nI (by omega) (by decide)) dX10_go_210 (fun H locs hP hD hS => ?_)
            rw [nI_clamp (by omega)] at hP hD
            have hP : va_P (dC, dI) vwCl [((b 0), .inr (10, [.ref (b 1), .int (pm), .ref (b 2), .int (nI (sS pg k)), .ref (b 3), .int (nI (sW pg k)), .int (nI (sT pg k)), .int (nI (n)), .int (nI (w)), .int (wk), .int (tr), .ref (b 4), .ref (b 5), .int (nd), .ref (b 6), .ref (b 7), .int (hd), .ref (b 8), .int (sd), .ref (b 9), .int (kt), .int (kw), .int (kh), .ref (b 10), .ref (b 11), .long (hz)])), ((b 2), .inl (cI, 20, .inl rd)), ((b 3), .inl (cI, 5, .inl (upd rm (sW pg k) ((nI (pg k)) - (nI (48))))))] H := hP
            have hD : va_D A [((b 0), .inr (10, [.ref (b 1), .int (pm), .ref (b 2), .int (nI (sS pg k)), .ref (b 3), .int (nI (sW pg k)), .int (nI (sT pg k)), .int (nI (n)), .int (nI (w)), .int (wk), .int (tr), .ref (b 4), .ref (b 5), .int (nd), .ref (b 6), .ref (b 7), .int (hd), .ref (b 8), .int (sd), .ref (b 9), .int (kt), .int (kw), .int (kh), .ref (b 10), .ref (b 11), .long (hz)])), ((b 2), .inl (cI, 20, .inl rd)), ((b 3), .inl (cI, 5, .inl (upd rm (sW pg k) ((nI (pg k)) - (nI (48))))))] := hD
            refine lv_aload_n hx hb dX10_go_211 rfl (lv_at hl 1 rfl) ?_
            refine lv_dup hx hb dX10_go_212 rfl ?_
            refine va_get (D := (dC, dI)) (ci := 10) (v := .int (nI (sW pg k))) (C := RX10) (T := TX10) (N := 26) hx hb hts (fun _ h => List.mem_cons_of_mem _ (List.mem_append_right _ (h))) hown hK.1 hP 0 rfl rfl 5 (by decide) (hts (Cond.fieldLink RX10 68 "WorstVoiceModel" "readWidows" "I") (List.mem_of_getElem? (i := 5) rfl)) (fun _ h9 => h9) rfl dX10_go_213 ?_
            refine lv_iconst (v := nI (1)) hx hb dX10_go_216 (by decide) ?_
            refine lv_iadd hx hb dX10_go_217 ?_
            refine tp_i (z := nI (sW pg k + 1)) (nI_add (sW pg k) (1)) ?_
            refine va_put (D := (dC, dI)) (ci := 10) (v := .int (nI (sW pg k + 1))) (ty := .int) (C := RX10) (T := TX10) (N := 26) hx hb hts (fun _ h => List.mem_cons_of_mem _ (List.mem_append_right _ (h))) tyX10 tyX10_ok nmX10 hown hK.1 hP hD hS 0 rfl rfl 5 (by decide) (hts (Cond.fieldLink RX10 68 "WorstVoiceModel" "readWidows" "I") (List.mem_of_getElem? (i := 5) rfl)) (fun _ h9 => h9) rfl (by decide +kernel) rfl rfl (Nat.le_of_ble_eq_true rfl) dX10_go_218 (fun H locs hP hD hS => ?_)
            have hP : va_P (dC, dI) vwCl [((b 0), .inr (10, [.ref (b 1), .int (pm), .ref (b 2), .int (nI (sS pg k)), .ref (b 3), .int (nI (sW pg k + 1)), .int (nI (sT pg k)), .int (nI (n)), .int (nI (w)), .int (wk), .int (tr), .ref (b 4), .ref (b 5), .int (nd), .ref (b 6), .ref (b 7), .int (hd), .ref (b 8), .int (sd), .ref (b 9), .int (kt), .int (kw), .int (kh), .ref (b 10), .ref (b 11), .long (hz)])), ((b 2), .inl (cI, 20, .inl rd)), ((b 3), .inl (cI, 5, .inl (upd rm (sW pg k) ((nI (pg k)) - (nI (48))))))] H := hP
            have hD : va_D A [((b 0), .inr (10, [.ref (b 1), .int (pm), .ref (b 2), .int (nI (sS pg k)), .ref (b 3), .int (nI (sW pg k + 1)), .int (nI (sT pg k)), .int (nI (n)), .int (nI (w)), .int (wk), .int (tr), .ref (b 4), .ref (b 5), .int (nd), .ref (b 6), .ref (b 7), .int (hd), .ref (b 8), .int (sd), .ref (b 9), .int (kt), .int (kw), .int (kh), .ref (b 10), .ref (b 11), .long (hz)])), ((b 2), .inl (cI, 20, .inl rd)), ((b 3), .inl (cI, 5, .inl (upd rm (sW pg k) ((nI (pg k)) - (nI (48))))))] := hD
            refine lv_iconst (v := nI (1)) hx hb dX10_go_221 (by decide) ?_
            exact W.zret hx hb hr (by first | rfl | exact bI_nz) (fun t ht hW => ⟨⟨_, (rd, (upd rm (sW pg k) ((nI (pg k)) - (nI (48)))), nI (sT pg k), nI (sS pg k), nI (sW pg k + 1)), rfl, (by first | exact gQ_6 (by omega) hch hRD hRM (by omega) (by assumption)), by rw [ht]; exact hP, hD.as rfl⟩, hS.F ht⟩) hS.2.2 dX10_go_222
          · have c7 := bI_0.mp c7
            refine lv_iconst (v := nI (0)) hx hb dX10_go_199 (by decide) ?_
            exact W.zret hx hb hr (by first | rfl | exact bI_nz) (fun t ht hW => ⟨⟨_, (rd, rm, nI (sT pg k), nI (sS pg k), nI (sW pg k)), rfl, (by first | exact gQ_f (fun q => by have q1 := (rt_6 (by omega)).mp q; omega) | exact gQ_f (fun q => by have q1 := (rt_6 (by omega)).mp q; exact absurd ((dig_w hch).mpr q1.2) (by assumption))), by rw [ht]; exact hP, hD.as rfl⟩, hS.F ht⟩) hS.2.2 dX10_go_200
      · have c3 := (nI_eq (by omega) (by decide)).mp c3
        refine lv_aload_n hx hb dX10_go_121 rfl (lv_at hl 1 rfl) ?_
        refine lv_iload_n hx hb dX10_go_122 rfl (lv_at hl 2 rfl) ?_
        refine lv_bipush (v := nI (44)) hx hb dX10_go_123 (by decide) ?_
        refine lv_icmp_ne (tgt := 132) hx hb dX10_go_125 (by decide) (fun c8 => ?_) (fun c8 => ?_)
        · have c8 := mt (nI_eq (by omega) (by decide)).mpr c8
          refine lv_bipush (v := nI (6)) hx hb dX10_go_132 (by decide) ?_
          refine va_put (D := (dC, dI)) (ci := 10) (v := .int (nI (6))) (ty := .int) (C := RX10) (T := TX10) (N := 26) hx hb hts (fun _ h => List.mem_cons_of_mem _ (List.mem_append_right _ (h))) tyX10 tyX10_ok nmX10 hown hK.1 hP hD hS 0 rfl rfl 6 (by decide) (hts (Cond.fieldLink RX10 56 "WorstVoiceModel" "state" "I") (List.mem_of_getElem? (i := 1) rfl)) (fun _ h9 => h9) rfl (by decide +kernel) rfl rfl (Nat.le_of_ble_eq_true rfl) dX10_go_134 (fun H locs hP hD hS => ?_)
          have hP : va_P (dC, dI) vwCl [((b 0), .inr (10, [.ref (b 1), .int (pm), .ref (b 2), .int (nI (sS pg k)), .ref (b 3), .int (nI (sW pg k)), .int (nI (6)), .int (nI (n)), .int (nI (w)), .int (wk), .int (tr), .ref (b 4), .ref (b 5), .int (nd), .ref (b 6), .ref (b 7), .int (hd), .ref (b 8), .int (sd), .ref (b 9), .int (kt), .int (kw), .int (kh), .ref (b 10), .ref (b 11), .long (hz)])), ((b 2), .inl (cI, 20, .inl rd)), ((b 3), .inl (cI, 5, .inl rm))] H := hP
          have hD : va_D A [((b 0), .inr (10, [.ref (b 1), .int (pm), .ref (b 2), .int (nI (sS pg k)), .ref (b 3), .int (nI (sW pg k)), .int (nI (6)), .int (nI (n)), .int (nI (w)), .int (wk), .int (tr), .ref (b 4), .ref (b 5), .int (nd), .ref (b 6), .ref (b 7), .int (hd), .ref (b 8), .int (sd), .ref (b 9), .int (kt), .int (kw), .int (kh), .ref (b 10), .ref (b 11), .long (hz)])), ((b 2), .inl (cI, 20, .inl rd)), ((b 3), .inl (cI, 5, .inl rm))] := hD
          refine lv_iload_n hx hb dX10_go_137 rfl (lv_at hl 2 rfl) ?_
          refine lv_bipush (v := nI (44)) hx hb dX10_go_138 (by decide) ?_
          refine lv_icmp_ne (tgt := 159) hx hb dX10_go_140 (by decide) (fun c9 => ?_) (fun c9 => ?_)
          · have c9 := mt (nI_eq (by omega) (by decide)).mpr c9
            refine lv_iload_n hx hb dX10_go_159 rfl (lv_at hl 2 rfl) ?_
            refine lv_bipush (v := nI (59)) hx hb dX10_go_160 (by decide) ?_
            refine lv_icmp_ne (tgt := 177) hx hb dX10_go_162 (by decide) (fun c10 => ?_) (fun c10 => ?_)
            · have c10 := mt (nI_eq (by omega) (by decide)).mpr c10
              refine lv_iconst (v := nI (0)) hx hb dX10_go_177 (by decide) ?_
              exact W.zret hx hb hr (by first | rfl | exact bI_nz) (fun t ht hW => ⟨⟨_, (rd, rm, nI (6), nI (sS pg k), nI (sW pg k)), rfl, (by first | exact gQ_5c (by omega) hRD (by omega) (by omega) | exact gQ_5s (by omega) hRD (by omega) (by omega) | exact gQ_f (fun q => by rcases (rt_5 (by omega)).mp q with z | z <;> omega) | (exfalso; omega)), by rw [ht]; exact hP, hD.as rfl⟩, hS.F ht⟩) hS.2.2 dX10_go_178
            · have c10 := (nI_eq (by omega) (by decide)).mp c10
              refine lv_aload_n hx hb dX10_go_165 rfl (lv_at hl 1 rfl) ?_
              refine va_get (D := (dC, dI)) (ci := 10) (v := .int (nI (sS pg k))) (C := RX10) (T := TX10) (N := 26) hx hb hts (fun _ h => List.mem_cons_of_mem _ (List.mem_append_right _ (h))) hown hK.1 hP 0 rfl rfl 3 (by decide) (hts (Cond.fieldLink RX10 59 "WorstVoiceModel" "readSingers" "I") (List.mem_of_getElem? (i := 3) rfl)) (fun _ h9 => h9) rfl dX10_go_166 ?_
              refine lv_iconst (v := nI (1)) hx hb dX10_go_169 (by decide) ?_
              refine lv_icmp_le (tgt := 177) hx hb dX10_go_170 (by decide) (fun c11 => ?_) (fun c11 => ?_)
              · have c11 := (nI_leI (by omega) (by decide)).mp c11
                refine lv_iconst (v := nI (0)) hx hb dX10_go_177 (by decide) ?_
                exact W.zret hx hb hr (by first | rfl | exact bI_nz) (fun t ht hW => ⟨⟨_, (rd, rm, nI (6), nI (sS pg k), nI (sW pg k)), rfl, (by first | exact gQ_5c (by omega) hRD (by omega) (by omega) | exact gQ_5s (by omega) hRD (by omega) (by omega) | exact gQ_f (fun q => by rcases (rt_5 (by omega)).mp q with z | z <;> omega) | (exfalso; omega)), by rw [ht]; exact hP, hD.as rfl⟩, hS.F ht⟩) hS.2.2 dX10_go_178
              · have c11 := mt (nI_leI (by omega) (by decide)).mpr c11
                refine lv_iconst (v := nI (1)) hx hb dX10_go_173 (by decide) ?_
                refine lv_goto (tgt := 178) hx hb dX10_go_174 (by decide) ?_
                exact W.zret hx hb hr (by first | rfl | exact bI_nz) (fun t ht hW => ⟨⟨_, (rd, rm, nI (6), nI (sS pg k), nI (sW pg k)), rfl, (by first | exact gQ_5c (by omega) hRD (by omega) (by omega) | exact gQ_5s (by omega) hRD (by omega) (by omega) | exact gQ_f (fun q => by rcases (rt_5 (by omega)).mp q with z | z <;> omega) | (exfalso; omega)), by rw [ht]; exact hP, hD.as rfl⟩, hS.F ht⟩) hS.2.2 dX10_go_178
          · have c9 := (nI_eq (by omega) (by decide)).mp c9
            refine lv_aload_n hx hb dX10_go_143 rfl (lv_at hl 1 rfl) ?_
            refine va_get (D := (dC, dI)) (ci := 10) (v := .int (nI (sS pg k))) (C := RX10) (T := TX10) (N := 26) hx hb hts (fun _ h => List.mem_cons_of_mem _ (List.mem_append_right _ (h))) hown hK.1 hP 0 rfl rfl 3 (by decide) (hts (Cond.fieldLink RX10 59 "WorstVoiceModel" "readSingers" "I") (List.mem_of_getElem? (i := 3) rfl)) (fun _ h9 => h9) rfl dX10_go_144 ?_
            refine lv_iconst (v := nI (4)) hx hb dX10_go_147 (by decide) ?_
            refine lv_icmp_ge (tgt := 155) hx hb dX10_go_148 (by decide) (fun c12 => ?_) (fun c12 => ?_)
            · have c12 := (nI_leI (by decide) (by omega)).mp c12
              refine lv_iconst (v := nI (0)) hx hb dX10_go_155 (by decide) ?_
              refine lv_goto (tgt := 178) hx hb dX10_go_156 (by decide) ?_
              exact W.zret hx hb hr (by first | rfl | exact bI_nz) (fun t ht hW => ⟨⟨_, (rd, rm, nI (6), nI (sS pg k), nI (sW pg k)), rfl, (by first | exact gQ_5c (by omega) hRD (by omega) (by omega) | exact gQ_5s (by omega) hRD (by omega) (by omega) | exact gQ_f (fun q => by rcases (rt_5 (by omega)).mp q with z | z <;> omega) | (exfalso; omega)), by rw [ht]; exact hP, hD.as rfl⟩, hS.F ht⟩) hS.2.2 dX10_go_178
            · have c12 := mt (nI_leI (by decide) (by omega)).mpr c12
              refine lv_iconst (v := nI (1)) hx hb dX10_go_151 (by decide) ?_
              refine lv_goto (tgt := 178) hx hb dX10_go_152 (by decide) ?_
              exact W.zret hx hb hr (by first | rfl | exact bI_nz) (fun t ht hW => ⟨⟨_, (rd, rm, nI (6), nI (sS pg k), nI (sW pg k)), rfl, (by first | exact gQ_5c (by omega) hRD (by omega) (by omega) | exact gQ_5s (by omega) hRD (by omega) (by omega) | exact gQ_f (fun q => by rcases (rt_5 (by omega)).mp q with z | z <;> omega) | (exfalso; omega)), by rw [ht]; exact hP, hD.as rfl⟩, hS.F ht⟩) hS.2.2 dX10_go_178
        · have c8 := (nI_eq (by omega) (by decide)).mp c8
          refine lv_iconst (v := nI (0)) hx hb dX10_go_128 (by decide) ?_
          refine lv_goto (tgt := 134) hx hb dX10_go_129 (by decide) ?_
          refine va_put (D := (dC, dI)) (ci := 10) (v := .int (nI (0))) (ty := .int) (C := RX10) (T := TX10) (N := 26) hx hb hts (fun _ h => List.mem_cons_of_mem _ (List.mem_append_right _ (h))) tyX10 tyX10_ok nmX10 hown hK.1 hP hD hS 0 rfl rfl 6 (by decide) (hts (Cond.fieldLink RX10 56 "WorstVoiceModel" "state" "I") (List.mem_of_getElem? (i := 1) rfl)) (fun _ h9 => h9) rfl (by decide +kernel) rfl rfl (Nat.le_of_ble_eq_true rfl) dX10_go_134 (fun H locs hP hD hS => ?_)
          have hP : va_P (dC, dI) vwCl [((b 0), .inr (10, [.ref (b 1), .int (pm), .ref (b 2), .int (nI (sS pg k)), .ref (b 3), .int (nI (sW pg k)), .int (nI (0)), .int (nI (n)), .int (nI (w)), .int (wk), .int (tr), .ref (b 4), .ref (b 5), .int (nd), .ref (b 6), .ref (b 7), .int (hd), .ref (b 8), .int (sd), .ref (b 9), .int (kt), .int (kw), .int (kh), .ref (b 10), .ref (b 11), .long (hz)])), ((b 2), .inl (cI, 20, .inl rd)), ((b 3), .inl (cI, 5, .inl rm))] H := hP
          have hD : va_D A [((b 0), .inr (10, [.ref (b 1), .int (pm), .ref (b 2), .int (nI (sS pg k)), .ref (b 3), .int (nI (sW pg k)), .int (nI (0)), .int (nI (n)), .int (nI (w)), .int (wk), .int (tr), .ref (b 4), .ref (b 5), .int (nd), .ref (b 6), .ref (b 7), .int (hd), .ref (b 8), .int (sd), .ref (b 9), .int (kt), .int (kw), .int (kh), .ref (b 10), .ref (b 11), .long (hz)])), ((b 2), .inl (cI, 20, .inl rd)), ((b 3), .inl (cI, 5, .inl rm))] := hD
          refine lv_iload_n hx hb dX10_go_137 rfl (lv_at hl 2 rfl) ?_
          refine lv_bipush (v := nI (44)) hx hb dX10_go_138 (by decide) ?_
          refine lv_icmp_ne (tgt := 159) hx hb dX10_go_140 (by decide) (fun c13 => ?_) (fun c13 => ?_)
          · have c13 := mt (nI_eq (by omega) (by decide)).mpr c13
            refine lv_iload_n hx hb dX10_go_159 rfl (lv_at hl 2 rfl) ?_
            refine lv_bipush (v := nI (59)) hx hb dX10_go_160 (by decide) ?_
            refine lv_icmp_ne (tgt := 177) hx hb dX10_go_162 (by decide) (fun c14 => ?_) (fun c14 => ?_)
            · have c14 := mt (nI_eq (by omega) (by decide)).mpr c14
              refine lv_iconst (v := nI (0)) hx hb dX10_go_177 (by decide) ?_
              exact W.zret hx hb hr (by first | rfl | exact bI_nz) (fun t ht hW => ⟨⟨_, (rd, rm, nI (0), nI (sS pg k), nI (sW pg k)), rfl, (by first | exact gQ_5c (by omega) hRD (by omega) (by omega) | exact gQ_5s (by omega) hRD (by omega) (by omega) | exact gQ_f (fun q => by rcases (rt_5 (by omega)).mp q with z | z <;> omega) | (exfalso; omega)), by rw [ht]; exact hP, hD.as rfl⟩, hS.F ht⟩) hS.2.2 dX10_go_178
            · have c14 := (nI_eq (by omega) (by decide)).mp c14
              refine lv_aload_n hx hb dX10_go_165 rfl (lv_at hl 1 rfl) ?_
              refine va_get (D := (dC, dI)) (ci := 10) (v := .int (nI (sS pg k))) (C := RX10) (T := TX10) (N := 26) hx hb hts (fun _ h => List.mem_cons_of_mem _ (List.mem_append_right _ (h))) hown hK.1 hP 0 rfl rfl 3 (by decide) (hts (Cond.fieldLink RX10 59 "WorstVoiceModel" "readSingers" "I") (List.mem_of_getElem? (i := 3) rfl)) (fun _ h9 => h9) rfl dX10_go_166 ?_
              refine lv_iconst (v := nI (1)) hx hb dX10_go_169 (by decide) ?_
              refine lv_icmp_le (tgt := 177) hx hb dX10_go_170 (by decide) (fun c15 => ?_) (fun c15 => ?_)
              · have c15 := (nI_leI (by omega) (by decide)).mp c15
                refine lv_iconst (v := nI (0)) hx hb dX10_go_177 (by decide) ?_
                exact W.zret hx hb hr (by first | rfl | exact bI_nz) (fun t ht hW => ⟨⟨_, (rd, rm, nI (0), nI (sS pg k), nI (sW pg k)), rfl, (by first | exact gQ_5c (by omega) hRD (by omega) (by omega) | exact gQ_5s (by omega) hRD (by omega) (by omega) | exact gQ_f (fun q => by rcases (rt_5 (by omega)).mp q with z | z <;> omega) | (exfalso; omega)), by rw [ht]; exact hP, hD.as rfl⟩, hS.F ht⟩) hS.2.2 dX10_go_178
              · have c15 := mt (nI_leI (by omega) (by decide)).mpr c15
                refine lv_iconst (v := nI (1)) hx hb dX10_go_173 (by decide) ?_
                refine lv_goto (tgt := 178) hx hb dX10_go_174 (by decide) ?_
                exact W.zret hx hb hr (by first | rfl | exact bI_nz) (fun t ht hW => ⟨⟨_, (rd, rm, nI (0), nI (sS pg k), nI (sW pg k)), rfl, (by first | exact gQ_5c (by omega) hRD (by omega) (by omega) | exact gQ_5s (by omega) hRD (by omega) (by omega) | exact gQ_f (fun q => by rcases (rt_5 (by omega)).mp q with z | z <;> omega) | (exfalso; omega)), by rw [ht]; exact hP, hD.as rfl⟩, hS.F ht⟩) hS.2.2 dX10_go_178
          · have c13 := (nI_eq (by omega) (by decide)).mp c13
            refine lv_aload_n hx hb dX10_go_143 rfl (lv_at hl 1 rfl) ?_
            refine va_get (D := (dC, dI)) (ci := 10) (v := .int (nI (sS pg k))) (C := RX10) (T := TX10) (N := 26) hx hb hts (fun _ h => List.mem_cons_of_mem _ (List.mem_append_right _ (h))) hown hK.1 hP 0 rfl rfl 3 (by decide) (hts (Cond.fieldLink RX10 59 "WorstVoiceModel" "readSingers" "I") (List.mem_of_getElem? (i := 3) rfl)) (fun _ h9 => h9) rfl dX10_go_144 ?_
            refine lv_iconst (v := nI (4)) hx hb dX10_go_147 (by decide) ?_
            refine lv_icmp_ge (tgt := 155) hx hb dX10_go_148 (by decide) (fun c16 => ?_) (fun c16 => ?_)
            · have c16 := (nI_leI (by decide) (by omega)).mp c16
              refine lv_iconst (v := nI (0)) hx hb dX10_go_155 (by decide) ?_
              refine lv_goto (tgt := 178) hx hb dX10_go_156 (by decide) ?_
              exact W.zret hx hb hr (by first | rfl | exact bI_nz) (fun t ht hW => ⟨⟨_, (rd, rm, nI (0), nI (sS pg k), nI (sW pg k)), rfl, (by first | exact gQ_5c (by omega) hRD (by omega) (by omega) | exact gQ_5s (by omega) hRD (by omega) (by omega) | exact gQ_f (fun q => by rcases (rt_5 (by omega)).mp q with z | z <;> omega) | (exfalso; omega)), by rw [ht]; exact hP, hD.as rfl⟩, hS.F ht⟩) hS.2.2 dX10_go_178
            · have c16 := mt (nI_leI (by decide) (by omega)).mpr c16
              refine lv_iconst (v := nI (1)) hx hb dX10_go_151 (by decide) ?_
              refine lv_goto (tgt := 178) hx hb dX10_go_152 (by decide) ?_
              exact W.zret hx hb hr (by first | rfl | exact bI_nz) (fun t ht hW => ⟨⟨_, (rd, rm, nI (0), nI (sS pg k), nI (sW pg k)), rfl, (by first | exact gQ_5c (by omega) hRD (by omega) (by omega) | exact gQ_5s (by omega) hRD (by omega) (by omega) | exact gQ_f (fun q => by rcases (rt_5 (by omega)).mp q with z | z <;> omega) | (exfalso; omega)), by rw [ht]; exact hP, hD.as rfl⟩, hS.F ht⟩) hS.2.2 dX10_go_178
    · have c2 := mt (nI_leI (by decide) (by omega)).mpr c2
      refine lv_aload_n hx hb dX10_go_54 rfl (lv_at hl 1 rfl) ?_
      refine va_get (D := (dC, dI)) (ci := 10) (v := .ref (b 2)) (C := RX10) (T := TX10) (N := 26) hx hb hts (fun _ h => List.mem_cons_of_mem _ (List.mem_append_right _ (h))) hown hK.1 hP 0 rfl rfl 2 (by decide) (hts (Cond.fieldLink RX10 13 "WorstVoiceModel" "read" "[I") (List.mem_of_getElem? (i := 2) rfl)) (fun _ h9 => h9) rfl dX10_go_55 ?_
      refine lv_iconst (v := nI (5)) hx hb dX10_go_58 (by decide) ?_
      refine lv_aload_n hx hb dX10_go_59 rfl (lv_at hl 1 rfl) ?_
      refine va_get (D := (dC, dI)) (ci := 10) (v := .int (nI (sS pg k))) (C := RX10) (T := TX10) (N := 26) hx hb hts (fun _ h => List.mem_cons_of_mem _ (List.mem_append_right _ (h))) hown hK.1 hP 0 rfl rfl 3 (by decide) (hts (Cond.fieldLink RX10 59 "WorstVoiceModel" "readSingers" "I") (List.mem_of_getElem? (i := 3) rfl)) (fun _ h9 => h9) rfl dX10_go_60 ?_
      refine lv_imul hx hb dX10_go_63 ?_
      refine tp_i (z := nI (5 * (sS pg k))) (pk_mul (5) (sS pg k)) ?_
      refine lv_aload_n hx hb dX10_go_64 rfl (lv_at hl 1 rfl) ?_
      refine va_get (D := (dC, dI)) (ci := 10) (v := .int (nI (sT pg k))) (C := RX10) (T := TX10) (N := 26) hx hb hts (fun _ h => List.mem_cons_of_mem _ (List.mem_append_right _ (h))) hown hK.1 hP 0 rfl rfl 6 (by decide) (hts (Cond.fieldLink RX10 56 "WorstVoiceModel" "state" "I") (List.mem_of_getElem? (i := 1) rfl)) (fun _ h9 => h9) rfl dX10_go_65 ?_
      refine lv_iadd hx hb dX10_go_68 ?_
      refine tp_i (z := nI (5 * (sS pg k) + sT pg k)) (nI_add (5 * (sS pg k)) (sT pg k)) ?_
      refine lv_iload_n hx hb dX10_go_69 rfl (lv_at hl 0 rfl) ?_
      refine va_iast hx hb hK.1 hP hD hS 1 0 rfl rfl (vp_in_nI (by omega) (by decide)) dX10_go_70 (fun H locs hP hD hS => ?_)
      rw [nI_clamp (by omega)] at hP hD
      have hP : va_P (dC, dI) vwCl [((b 0), .inr (10, [.ref (b 1), .int (pm), .ref (b 2), .int (nI (sS pg k)), .ref (b 3), .int (nI (sW pg k)), .int (nI (sT pg k)), .int (nI (n)), .int (nI (w)), .int (wk), .int (tr), .ref (b 4), .ref (b 5), .int (nd), .ref (b 6), .ref (b 7), .int (hd), .ref (b 8), .int (sd), .ref (b 9), .int (kt), .int (kw), .int (kh), .ref (b 10), .ref (b 11), .long (hz)])), ((b 2), .inl (cI, 20, .inl (upd rd (5 * (sS pg k) + sT pg k) ((nI (pg k)) - (nI (48)))))), ((b 3), .inl (cI, 5, .inl rm))] H := hP
      have hD : va_D A [((b 0), .inr (10, [.ref (b 1), .int (pm), .ref (b 2), .int (nI (sS pg k)), .ref (b 3), .int (nI (sW pg k)), .int (nI (sT pg k)), .int (nI (n)), .int (nI (w)), .int (wk), .int (tr), .ref (b 4), .ref (b 5), .int (nd), .ref (b 6), .ref (b 7), .int (hd), .ref (b 8), .int (sd), .ref (b 9), .int (kt), .int (kw), .int (kh), .ref (b 10), .ref (b 11), .long (hz)])), ((b 2), .inl (cI, 20, .inl (upd rd (5 * (sS pg k) + sT pg k) ((nI (pg k)) - (nI (48)))))), ((b 3), .inl (cI, 5, .inl rm))] := hD
      refine lv_aload_n hx hb dX10_go_71 rfl (lv_at hl 1 rfl) ?_
      refine lv_dup hx hb dX10_go_72 rfl ?_
      refine va_get (D := (dC, dI)) (ci := 10) (v := .int (nI (sT pg k))) (C := RX10) (T := TX10) (N := 26) hx hb hts (fun _ h => List.mem_cons_of_mem _ (List.mem_append_right _ (h))) hown hK.1 hP 0 rfl rfl 6 (by decide) (hts (Cond.fieldLink RX10 56 "WorstVoiceModel" "state" "I") (List.mem_of_getElem? (i := 1) rfl)) (fun _ h9 => h9) rfl dX10_go_73 ?_
      refine lv_iconst (v := nI (1)) hx hb dX10_go_76 (by decide) ?_
      refine lv_iadd hx hb dX10_go_77 ?_
      refine tp_i (z := nI (sT pg k + 1)) (nI_add (sT pg k) (1)) ?_
      refine va_put (D := (dC, dI)) (ci := 10) (v := .int (nI (sT pg k + 1))) (ty := .int) (C := RX10) (T := TX10) (N := 26) hx hb hts (fun _ h => List.mem_cons_of_mem _ (List.mem_append_right _ (h))) tyX10 tyX10_ok nmX10 hown hK.1 hP hD hS 0 rfl rfl 6 (by decide) (hts (Cond.fieldLink RX10 56 "WorstVoiceModel" "state" "I") (List.mem_of_getElem? (i := 1) rfl)) (fun _ h9 => h9) rfl (by decide +kernel) rfl rfl (Nat.le_of_ble_eq_true rfl) dX10_go_78 (fun H locs hP hD hS => ?_)
      have hP : va_P (dC, dI) vwCl [((b 0), .inr (10, [.ref (b 1), .int (pm), .ref (b 2), .int (nI (sS pg k)), .ref (b 3), .int (nI (sW pg k)), .int (nI (sT pg k + 1)), .int (nI (n)), .int (nI (w)), .int (wk), .int (tr), .ref (b 4), .ref (b 5), .int (nd), .ref (b 6), .ref (b 7), .int (hd), .ref (b 8), .int (sd), .ref (b 9), .int (kt), .int (kw), .int (kh), .ref (b 10), .ref (b 11), .long (hz)])), ((b 2), .inl (cI, 20, .inl (upd rd (5 * (sS pg k) + sT pg k) ((nI (pg k)) - (nI (48)))))), ((b 3), .inl (cI, 5, .inl rm))] H := hP
      have hD : va_D A [((b 0), .inr (10, [.ref (b 1), .int (pm), .ref (b 2), .int (nI (sS pg k)), .ref (b 3), .int (nI (sW pg k)), .int (nI (sT pg k + 1)), .int (nI (n)), .int (nI (w)), .int (wk), .int (tr), .ref (b 4), .ref (b 5), .int (nd), .ref (b 6), .ref (b 7), .int (hd), .ref (b 8), .int (sd), .ref (b 9), .int (kt), .int (kw), .int (kh), .ref (b 10), .ref (b 11), .long (hz)])), ((b 2), .inl (cI, 20, .inl (upd rd (5 * (sS pg k) + sT pg k) ((nI (pg k)) - (nI (48)))))), ((b 3), .inl (cI, 5, .inl rm))] := hD
      refine lv_aload_n hx hb dX10_go_81 rfl (lv_at hl 1 rfl) ?_
      refine lv_dup hx hb dX10_go_82 rfl ?_
      refine va_get (D := (dC, dI)) (ci := 10) (v := .int (nI (sS pg k))) (C := RX10) (T := TX10) (N := 26) hx hb hts (fun _ h => List.mem_cons_of_mem _ (List.mem_append_right _ (h))) hown hK.1 hP 0 rfl rfl 3 (by decide) (hts (Cond.fieldLink RX10 59 "WorstVoiceModel" "readSingers" "I") (List.mem_of_getElem? (i := 3) rfl)) (fun _ h9 => h9) rfl dX10_go_83 ?_
      refine lv_aload_n hx hb dX10_go_86 rfl (lv_at hl 1 rfl) ?_
      refine va_get (D := (dC, dI)) (ci := 10) (v := .int (nI (sT pg k + 1))) (C := RX10) (T := TX10) (N := 26) hx hb hts (fun _ h => List.mem_cons_of_mem _ (List.mem_append_right _ (h))) hown hK.1 hP 0 rfl rfl 6 (by decide) (hts (Cond.fieldLink RX10 56 "WorstVoiceModel" "state" "I") (List.mem_of_getElem? (i := 1) rfl)) (fun _ h9 => h9) rfl dX10_go_87 ?_
      refine lv_iconst (v := nI (5)) hx hb dX10_go_90 (by decide) ?_
      refine lv_icmp_ne (tgt := 98) hx hb dX10_go_91 (by decide) (fun c17 => ?_) (fun c17 => ?_)
      · have c17 := mt (nI_eq (by omega) (by decide)).mpr c17
        refine lv_iconst (v := nI (0)) hx hb dX10_go_98 (by decide) ?_
        refine lv_iadd hx hb dX10_go_99 ?_
        refine tp_i (z := nI (sS pg k + 0)) (nI_add (sS pg k) (0)) ?_
        refine va_put (D := (dC, dI)) (ci := 10) (v := .int (nI (sS pg k + 0))) (ty := .int) (C := RX10) (T := TX10) (N := 26) hx hb hts (fun _ h => List.mem_cons_of_mem _ (List.mem_append_right _ (h))) tyX10 tyX10_ok nmX10 hown hK.1 hP hD hS 0 rfl rfl 3 (by decide) (hts (Cond.fieldLink RX10 59 "WorstVoiceModel" "readSingers" "I") (List.mem_of_getElem? (i := 3) rfl)) (fun _ h9 => h9) rfl (by decide +kernel) rfl rfl (Nat.le_of_ble_eq_true rfl) dX10_go_100 (fun H locs hP hD hS => ?_)
        have hP : va_P (dC, dI) vwCl [((b 0), .inr (10, [.ref (b 1), .int (pm), .ref (b 2), .int (nI (sS pg k + 0)), .ref (b 3), .int (nI (sW pg k)), .int (nI (sT pg k + 1)), .int (nI (n)), .int (nI (w)), .int (wk), .int (tr), .ref (b 4), .ref (b 5), .int (nd), .ref (b 6), .ref (b 7), .int (hd), .ref (b 8), .int (sd), .ref (b 9), .int (kt), .int (kw), .int (kh), .ref (b 10), .ref (b 11), .long (hz)])), ((b 2), .inl (cI, 20, .inl (upd rd (5 * (sS pg k) + sT pg k) ((nI (pg k)) - (nI (48)))))), ((b 3), .inl (cI, 5, .inl rm))] H := hP
        have hD : va_D A [((b 0), .inr (10, [.ref (b 1), .int (pm), .ref (b 2), .int (nI (sS pg k + 0)), .ref (b 3), .int (nI (sW pg k)), .int (nI (sT pg k + 1)), .int (nI (n)), .int (nI (w)), .int (wk), .int (tr), .ref (b 4), .ref (b 5), .int (nd), .ref (b 6), .ref (b 7), .int (hd), .ref (b 8), .int (sd), .ref (b 9), .int (kt), .int (kw), .int (kh), .ref (b 10), .ref (b 11), .long (hz)])), ((b 2), .inl (cI, 20, .inl (upd rd (5 * (sS pg k) + sT pg k) ((nI (pg k)) - (nI (48)))))), ((b 3), .inl (cI, 5, .inl rm))] := hD
        refine lv_iload_n hx hb dX10_go_103 rfl (lv_at hl 0 rfl) ?_
        refine lv_i2l (v := ((nI (pg k)) - (nI (48))).toInt64) hx hb dX10_go_104 rfl ?_
        refine lv_lconst (v := (nI 0).toInt64) hx hb dX10_go_105 (by decide) ?_
        refine lv_ldc2 (v := 9) hx hb hown (hts (Cond.constantLong RX10 66 (9)) (List.mem_of_getElem? (i := 4) rfl)) dX10_go_106 ?_
        refine tp_l (z := (nI 9).toInt64) (by decide) ?_
        refine ro_calli (va_runS (As := [.long (((nI (pg k)) - (nI (48))).toInt64), .long ((nI 0).toInt64), .long ((nI 9).toInt64)]) (rest := []) ⟨hx, hb, hml, hown, hts⟩ (c_X10_in l dC dI cI ((nI (pg k)) - (nI (48))) (nI 0) (nI 9)) (va_cwS 3 hts gX10_go_X10_in rfl rfl rfl (by decide +kernel) ⟨Nat.le_of_ble_eq_true rfl, Nat.le_of_ble_eq_true rfl⟩) (ro_ps hK hP [] rfl) rfl rfl hl.1 rfl (lv_room (Nat.le_of_ble_eq_true rfl)) dX10_go_109 ⟨Nat.zero_le _, Nat.zero_le _⟩) hS hP (fun r18 H locs hr18 hP hS => ?_)
        subst hr18
        have e19 : bI ((nI 0).toInt ≤ ((nI (pg k)) - (nI (48))).toInt ∧ ((nI (pg k)) - (nI (48))).toInt ≤ (nI 9).toInt) = bI ((0 : Int) ≤ ((nI (pg k)) - (nI (48))).toInt ∧ ((nI (pg k)) - (nI (48))).toInt ≤ (9 : Int)) := bI_i (by rw [nI_toInt (n := 0) (by decide), nI_toInt (n := 9) (by decide)] <;> omega)
        refine tp_i (z := bI ((0 : Int) ≤ ((nI (pg k)) - (nI (48))).toInt ∧ ((nI (pg k)) - (nI (48))).toInt ≤ (9 : Int))) e19 ?_
        exact W.zret hx hb hr (by first | rfl | exact bI_nz) (fun t ht hW => ⟨⟨_, ((upd rd (5 * (sS pg k) + sT pg k) ((nI (pg k)) - (nI (48)))), rm, nI (sT pg k + 1), nI (sS pg k + 0), nI (sW pg k)), rfl, (by first | exact gQ_1 hch (by omega) (by omega) hRD rfl (by first | rw [if_pos (by omega)] | rw [if_neg (by omega)])), by rw [ht]; exact hP, hD.as rfl⟩, hS.F ht⟩) hS.2.2 dX10_go_112
      · have c17 := (nI_eq (by omega) (by decide)).mp c17
        refine lv_iconst (v := nI (1)) hx hb dX10_go_94 (by decide) ?_
        refine lv_goto (tgt := 99) hx hb dX10_go_95 (by decide) ?_
        refine lv_iadd hx hb dX10_go_99 ?_
        refine tp_i (z := nI (sS pg k + 1)) (nI_add (sS pg k) (1)) ?_
        refine va_put (D := (dC, dI)) (ci := 10) (v := .int (nI (sS pg k + 1))) (ty := .int) (C := RX10) (T := TX10) (N := 26) hx hb hts (fun _ h => List.mem_cons_of_mem _ (List.mem_append_right _ (h))) tyX10 tyX10_ok nmX10 hown hK.1 hP hD hS 0 rfl rfl 3 (by decide) (hts (Cond.fieldLink RX10 59 "WorstVoiceModel" "readSingers" "I") (List.mem_of_getElem? (i := 3) rfl)) (fun _ h9 => h9) rfl (by decide +kernel) rfl rfl (Nat.le_of_ble_eq_true rfl) dX10_go_100 (fun H locs hP hD hS => ?_)
        have hP : va_P (dC, dI) vwCl [((b 0), .inr (10, [.ref (b 1), .int (pm), .ref (b 2), .int (nI (sS pg k + 1)), .ref (b 3), .int (nI (sW pg k)), .int (nI (sT pg k + 1)), .int (nI (n)), .int (nI (w)), .int (wk), .int (tr), .ref (b 4), .ref (b 5), .int (nd), .ref (b 6), .ref (b 7), .int (hd), .ref (b 8), .int (sd), .ref (b 9), .int (kt), .int (kw), .int (kh), .ref (b 10), .ref (b 11), .long (hz)])), ((b 2), .inl (cI, 20, .inl (upd rd (5 * (sS pg k) + sT pg k) ((nI (pg k)) - (nI (48)))))), ((b 3), .inl (cI, 5, .inl rm))] H := hP
        have hD : va_D A [((b 0), .inr (10, [.ref (b 1), .int (pm), .ref (b 2), .int (nI (sS pg k + 1)), .ref (b 3), .int (nI (sW pg k)), .int (nI (sT pg k + 1)), .int (nI (n)), .int (nI (w)), .int (wk), .int (tr), .ref (b 4), .ref (b 5), .int (nd), .ref (b 6), .ref (b 7), .int (hd), .ref (b 8), .int (sd), .ref (b 9), .int (kt), .int (kw), .int (kh), .ref (b 10), .ref (b 11), .long (hz)])), ((b 2), .inl (cI, 20, .inl (upd rd (5 * (sS pg k) + sT pg k) ((nI (pg k)) - (nI (48)))))), ((b 3), .inl (cI, 5, .inl rm))] := hD
        refine lv_iload_n hx hb dX10_go_103 rfl (lv_at hl 0 rfl) ?_
        refine lv_i2l (v := ((nI (pg k)) - (nI (48))).toInt64) hx hb dX10_go_104 rfl ?_
        refine lv_lconst (v := (nI 0).toInt64) hx hb dX10_go_105 (by decide) ?_
        refine lv_ldc2 (v := 9) hx hb hown (hts (Cond.constantLong RX10 66 (9)) (List.mem_of_getElem? (i := 4) rfl)) dX10_go_106 ?_
        refine tp_l (z := (nI 9).toInt64) (by decide) ?_
        refine ro_calli (va_runS (As := [.long (((nI (pg k)) - (nI (48))).toInt64), .long ((nI 0).toInt64), .long ((nI 9).toInt64)]) (rest := []) ⟨hx, hb, hml, hown, hts⟩ (c_X10_in l dC dI cI ((nI (pg k)) - (nI (48))) (nI 0) (nI 9)) (va_cwS 3 hts gX10_go_X10_in rfl rfl rfl (by decide +kernel) ⟨Nat.le_of_ble_eq_true rfl, Nat.le_of_ble_eq_true rfl⟩) (ro_ps hK hP [] rfl) rfl rfl hl.1 rfl (lv_room (Nat.le_of_ble_eq_true rfl)) dX10_go_109 ⟨Nat.zero_le _, Nat.zero_le _⟩) hS hP (fun r20 H locs hr20 hP hS => ?_)
        subst hr20
        have e21 : bI ((nI 0).toInt ≤ ((nI (pg k)) - (nI (48))).toInt ∧ ((nI (pg k)) - (nI (48))).toInt ≤ (nI 9).toInt) = bI ((0 : Int) ≤ ((nI (pg k)) - (nI (48))).toInt ∧ ((nI (pg k)) - (nI (48))).toInt ≤ (9 : Int)) := bI_i (by rw [nI_toInt (n := 0) (by decide), nI_toInt (n := 9) (by decide)] <;> omega)
        refine tp_i (z := bI ((0 : Int) ≤ ((nI (pg k)) - (nI (48))).toInt ∧ ((nI (pg k)) - (nI (48))).toInt ≤ (9 : Int))) e21 ?_
        exact W.zret hx hb hr (by first | rfl | exact bI_nz) (fun t ht hW => ⟨⟨_, ((upd rd (5 * (sS pg k) + sT pg k) ((nI (pg k)) - (nI (48)))), rm, nI (sT pg k + 1), nI (sS pg k + 1), nI (sW pg k)), rfl, (by first | exact gQ_1 hch (by omega) (by omega) hRD rfl (by first | rw [if_pos (by omega)] | rw [if_neg (by omega)])), by rw [ht]; exact hP, hD.as rfl⟩, hS.F ht⟩) hS.2.2 dX10_go_112
  · have c1 := (z_eq (by omega)).mp c1
    refine lv_aload_n hx hb dX10_go_12 rfl (lv_at hl 1 rfl) ?_
    refine va_get (D := (dC, dI)) (ci := 10) (v := .ref (b 2)) (C := RX10) (T := TX10) (N := 26) hx hb hts (fun _ h => List.mem_cons_of_mem _ (List.mem_append_right _ (h))) hown hK.1 hP 0 rfl rfl 2 (by decide) (hts (Cond.fieldLink RX10 13 "WorstVoiceModel" "read" "[I") (List.mem_of_getElem? (i := 2) rfl)) (fun _ h9 => h9) rfl dX10_go_13 ?_
    refine lv_iconst (v := nI (5)) hx hb dX10_go_16 (by decide) ?_
    refine lv_aload_n hx hb dX10_go_17 rfl (lv_at hl 1 rfl) ?_
    refine va_get (D := (dC, dI)) (ci := 10) (v := .int (nI (sS pg k))) (C := RX10) (T := TX10) (N := 26) hx hb hts (fun _ h => List.mem_cons_of_mem _ (List.mem_append_right _ (h))) hown hK.1 hP 0 rfl rfl 3 (by decide) (hts (Cond.fieldLink RX10 59 "WorstVoiceModel" "readSingers" "I") (List.mem_of_getElem? (i := 3) rfl)) (fun _ h9 => h9) rfl dX10_go_18 ?_
    refine lv_imul hx hb dX10_go_21 ?_
    refine tp_i (z := nI (5 * (sS pg k))) (pk_mul (5) (sS pg k)) ?_
    refine lv_iload_n hx hb dX10_go_22 rfl (lv_at hl 2 rfl) ?_
    refine ro_calli (va_runS (As := [.int (nI (pg k))]) (rest := [.int (nI (5 * (sS pg k))), .ref (b 2)]) ⟨hx, hb, hml, hown, hts⟩ (c_X10_kindBy l dC dI cI (pg k) hch) (va_cwS 1 hts gX10_go_X10_kindBy rfl rfl rfl (by decide +kernel) ⟨Nat.le_of_ble_eq_true rfl, Nat.le_of_ble_eq_true rfl⟩) (ro_ps hK hP [] rfl) rfl rfl hl.1 rfl (lv_room (Nat.le_of_ble_eq_true rfl)) dX10_go_23 ⟨Nat.zero_le _, Nat.zero_le _⟩) hS hP (fun r22 H locs hr22 hP hS => ?_)
    subst hr22
    refine va_iast hx hb hK.1 hP hD hS 1 0 rfl rfl (vp_in_nI (by omega) (by decide)) dX10_go_26 (fun H locs hP hD hS => ?_)
    rw [nI_clamp (by omega)] at hP hD
    have hP : va_P (dC, dI) vwCl [((b 0), .inr (10, [.ref (b 1), .int (pm), .ref (b 2), .int (nI (sS pg k)), .ref (b 3), .int (nI (sW pg k)), .int (nI (sT pg k)), .int (nI (n)), .int (nI (w)), .int (wk), .int (tr), .ref (b 4), .ref (b 5), .int (nd), .ref (b 6), .ref (b 7), .int (hd), .ref (b 8), .int (sd), .ref (b 9), .int (kt), .int (kw), .int (kh), .ref (b 10), .ref (b 11), .long (hz)])), ((b 2), .inl (cI, 20, .inl (upd rd (5 * (sS pg k)) (kc (pg k))))), ((b 3), .inl (cI, 5, .inl rm))] H := hP
    have hD : va_D A [((b 0), .inr (10, [.ref (b 1), .int (pm), .ref (b 2), .int (nI (sS pg k)), .ref (b 3), .int (nI (sW pg k)), .int (nI (sT pg k)), .int (nI (n)), .int (nI (w)), .int (wk), .int (tr), .ref (b 4), .ref (b 5), .int (nd), .ref (b 6), .ref (b 7), .int (hd), .ref (b 8), .int (sd), .ref (b 9), .int (kt), .int (kw), .int (kh), .ref (b 10), .ref (b 11), .long (hz)])), ((b 2), .inl (cI, 20, .inl (upd rd (5 * (sS pg k)) (kc (pg k))))), ((b 3), .inl (cI, 5, .inl rm))] := hD
    refine lv_aload_n hx hb dX10_go_27 rfl (lv_at hl 1 rfl) ?_
    refine lv_iconst (v := nI (1)) hx hb dX10_go_28 (by decide) ?_
    refine va_put (D := (dC, dI)) (ci := 10) (v := .int (nI (1))) (ty := .int) (C := RX10) (T := TX10) (N := 26) hx hb hts (fun _ h => List.mem_cons_of_mem _ (List.mem_append_right _ (h))) tyX10 tyX10_ok nmX10 hown hK.1 hP hD hS 0 rfl rfl 6 (by decide) (hts (Cond.fieldLink RX10 56 "WorstVoiceModel" "state" "I") (List.mem_of_getElem? (i := 1) rfl)) (fun _ h9 => h9) rfl (by decide +kernel) rfl rfl (Nat.le_of_ble_eq_true rfl) dX10_go_29 (fun H locs hP hD hS => ?_)
    have hP : va_P (dC, dI) vwCl [((b 0), .inr (10, [.ref (b 1), .int (pm), .ref (b 2), .int (nI (sS pg k)), .ref (b 3), .int (nI (sW pg k)), .int (nI (1)), .int (nI (n)), .int (nI (w)), .int (wk), .int (tr), .ref (b 4), .ref (b 5), .int (nd), .ref (b 6), .ref (b 7), .int (hd), .ref (b 8), .int (sd), .ref (b 9), .int (kt), .int (kw), .int (kh), .ref (b 10), .ref (b 11), .long (hz)])), ((b 2), .inl (cI, 20, .inl (upd rd (5 * (sS pg k)) (kc (pg k))))), ((b 3), .inl (cI, 5, .inl rm))] H := hP
    have hD : va_D A [((b 0), .inr (10, [.ref (b 1), .int (pm), .ref (b 2), .int (nI (sS pg k)), .ref (b 3), .int (nI (sW pg k)), .int (nI (1)), .int (nI (n)), .int (nI (w)), .int (wk), .int (tr), .ref (b 4), .ref (b 5), .int (nd), .ref (b 6), .ref (b 7), .int (hd), .ref (b 8), .int (sd), .ref (b 9), .int (kt), .int (kw), .int (kh), .ref (b 10), .ref (b 11), .long (hz)])), ((b 2), .inl (cI, 20, .inl (upd rd (5 * (sS pg k)) (kc (pg k))))), ((b 3), .inl (cI, 5, .inl rm))] := hD
    refine lv_iload_n hx hb dX10_go_32 rfl (lv_at hl 2 rfl) ?_
    refine ro_calli (va_runS (As := [.int (nI (pg k))]) (rest := []) ⟨hx, hb, hml, hown, hts⟩ (c_X10_kindBy l dC dI cI (pg k) hch) (va_cwS 1 hts gX10_go_X10_kindBy rfl rfl rfl (by decide +kernel) ⟨Nat.le_of_ble_eq_true rfl, Nat.le_of_ble_eq_true rfl⟩) (ro_ps hK hP [] rfl) rfl rfl hl.1 rfl (lv_room (Nat.le_of_ble_eq_true rfl)) dX10_go_33 ⟨Nat.zero_le _, Nat.zero_le _⟩) hS hP (fun r23 H locs hr23 hP hS => ?_)
    subst hr23
    refine lv_iconst (v := -1) hx hb dX10_go_36 (by decide) ?_
    refine lv_icmp_eq (tgt := 44) hx hb dX10_go_37 (by decide) (fun c24 => ?_) (fun c24 => ?_)
    · refine lv_iconst (v := nI (0)) hx hb dX10_go_44 (by decide) ?_
      exact W.zret hx hb hr (by first | rfl | exact bI_nz) (fun t ht hW => ⟨⟨_, ((upd rd (5 * (sS pg k)) (kc (pg k))), rm, nI (1), nI (sS pg k), nI (sW pg k)), rfl, (by first | exact gQ_f (fun q => (rt_0 (by omega)).mp q (by assumption))), by rw [ht]; exact hP, hD.as rfl⟩, hS.F ht⟩) hS.2.2 dX10_go_45
    · refine lv_iconst (v := nI (1)) hx hb dX10_go_40 (by decide) ?_
      refine lv_goto (tgt := 45) hx hb dX10_go_41 (by decide) ?_
      exact W.zret hx hb hr (by first | rfl | exact bI_nz) (fun t ht hW => ⟨⟨_, ((upd rd (5 * (sS pg k)) (kc (pg k))), rm, nI (1), nI (sS pg k), nI (sW pg k)), rfl, (by first | exact gQ_0 (by omega) hRD (by assumption)), by rw [ht]; exact hP, hD.as rfl⟩, hS.F ht⟩) hS.2.2 dX10_go_45

set_option maxHeartbeats 4000000 in
set_option maxRecDepth 100000 in
theorem c_M_faultOf (l : Launch) (dC : Nat → ClassId) (dI : Nat → Nat → Nat) (cI : ClassId) (sz : Nat) (b : Nat → Nat) (len : Nat) (r_s : Int32) (r_w : Int32) (st : Int32) (n : Nat) (w : Nat) (wk : Int32) (tr : Int32) (nd : Int32) (hd : Int32) (sd : Int32) (kt : Int32) (kw : Int32) (kh : Int32) (hz : Int64) (pg : Nat → Nat) (rd rm : Nat → Int32) (hlen : len ≤ 32) (hpc : ∀ i, i < len → 1 ≤ pg i ∧ pg i < 127) : Met l yX10_faultOf wsX10_faultOf ({ frames := 2, cells := 0, slots := 0, locals := 47 } : Room) (muP dC dI cI ([moW b (nI len) r_s r_w st n w wk tr nd hd sd kt kw kh hz] ++ [(b 1, .inl (cI, 32, .inl (fun i => nI (pg i))))] ++ [(b 2, .inl (cI, 20, .inl rd)), (b 3, .inl (cI, 5, .inl rm))]) sz [.ref (b 0)]) (muI (S := (Nat → Int32) × (Nat → Int32) × Int32 × Int32 × Int32) dC dI ([moW b (nI len) r_s r_w st n w wk tr nd hd sd kt kw kh hz] ++ [(b 1, .inl (cI, 32, .inl (fun i => nI (pg i))))] ++ [(b 2, .inl (cI, 20, .inl rd)), (b 3, .inl (cI, 5, .inl rm))]) sz (fun u => [moW b (nI len) u.2.2.2.1 u.2.2.2.2 u.2.2.1 n w wk tr nd hd sd kt kw kh hz] ++ [(b 1, .inl (cI, 32, .inl (fun i => nI (pg i))))] ++ [(b 2, .inl (cI, 20, .inl u.1)), (b 3, .inl (cI, 5, .inl u.2.1))]) (fun r u => fQ pg len r u)) 0 0 (va_A ([moW b (nI len) r_s r_w st n w wk tr nd hd sd kt kw kh hz] ++ [(b 1, .inl (cI, 32, .inl (fun i => nI (pg i))))] ++ [(b 2, .inl (cI, 20, .inl rd)), (b 3, .inl (cI, 5, .inl rm))]) sz) := by
  refine Met.ofW (cc := cX10_faultOf) (maxL := 2) (ret := (some .int)) (by decide) rfl ?_
  intro p e s m args below meth c s₁ B hml hv
  obtain ⟨rfl, hsz, hP, hK, hD0⟩ := hv
  have hx := B.exec
  have hb := B.bytes
  have hr := B.returns
  have hts := atoms_spec (ws := wsX10_faultOf) B.pre
  have hown : s.vm.findClass RX10 = some m.cls := findClass_of_methodNamed B.named
  have hlocks := B.notSynchronized
  subst hsz
  unfold muI muB
  have hD := hD0.self (sz := s.heap.size)
  generalize hAe : va_A ([moW b (nI len) r_s r_w st n w wk tr nd hd sd kt kw kh hz] ++ [(b 1, .inl (cI, 32, .inl (fun i => nI (pg i))))] ++ [(b 2, .inl (cI, 20, .inl rd)), (b 3, .inl (cI, 5, .inl rm))]) s.heap.size = A at hD ⊢
  have hA : ∀ q : Nat, s.heap.size ≤ q → A q := fun q h => by rw [← hAe]; exact Or.inr h
  have hS : va_S A s.heap s.heap [] := va_S.rf
  have hl := lv_entry ([.ref (b 0)]) (n := 2) (Nat.le_of_ble_eq_true rfl)
  rw [lg_entry_eq]
  generalize (lg_sl ([.ref (b 0)]) ++ List.replicate (2 - (lg_sl ([.ref (b 0)])).length) Slot.unset).toArray = ls at hl ⊢
  have hl : lv_has ls 2 [(0, .ref (b 0))] := hl
  refine W_abs (fun G hG => ?_)
  have L17 : ∀ (fu : Nat) (k : Nat) (rd3 : Nat → Int32) (rm3 : Nat → Int32), fw pg k = k → k ≤ len → rRD pg k rd3 → rRM pg k rm3 → len + 1 ≤ k + fu → ∀ (H : Heap) (locs : List Loc), va_P (dC, dI) vwCl [((b 0), .inr (10, [.ref (b 1), .int (nI (len)), .ref (b 2), .int (nI (sS pg k)), .ref (b 3), .int (nI (sW pg k)), .int (nI (sT pg k)), .int (nI (n)), .int (nI (w)), .int (wk), .int (tr), .ref (b 4), .ref (b 5), .int (nd), .ref (b 6), .ref (b 7), .int (hd), .ref (b 8), .int (sd), .ref (b 9), .int (kt), .int (kw), .int (kh), .ref (b 10), .ref (b 11), .long (hz)])), ((b 1), .inl (cI, 32, .inl (fun ii => nI (pg ii)))), ((b 2), .inl (cI, 20, .inl rd3)), ((b 3), .inl (cI, 5, .inl rm3))] H → va_D A [((b 0), .inr (10, [.ref (b 1), .int (nI (len)), .ref (b 2), .int (nI (sS pg k)), .ref (b 3), .int (nI (sW pg k)), .int (nI (sT pg k)), .int (nI (n)), .int (nI (w)), .int (wk), .int (tr), .ref (b 4), .ref (b 5), .int (nd), .ref (b 6), .ref (b 7), .int (hd), .ref (b 8), .int (sd), .ref (b 9), .int (kt), .int (kw), .int (kh), .ref (b 10), .ref (b 11), .long (hz)])), ((b 1), .inl (cI, 32, .inl (fun ii => nI (pg ii)))), ((b 2), .inl (cI, 20, .inl rd3)), ((b 3), .inl (cI, 5, .inl rm3))] → va_S A s.heap H locs → ∀ (ls : Array Slot), lv_has ls 2 [(0, .ref (b 0)), (1, .int (nI (k)))] → G H locs (F0 m 17 ls []) := by
    intro fu
    induction fu with
    | zero => intro k rd3 rm3 hfw h2 hRD hRM hfu H locs hP hD hS ls hl; omega
    | succ fu ih17 =>
      intro k rd3 rm3 hfw h2 hRD hRM hfu H locs hP hD hS ls hl
      have hT7 := sT_lt pg k
      have hSl := sS_le hfw
      have hSl2 := hSl.1
      have hW5 := sW_le hfw
      refine (hG _ _ _).mpr ?_
      refine lv_iload_n hx hb dX10_faultOf_17 rfl (lv_at hl 1 rfl) ?_
      refine lv_aload_n hx hb dX10_faultOf_18 rfl (lv_at hl 0 rfl) ?_
      refine va_get (D := (dC, dI)) (ci := 10) (v := .int (nI (len))) (C := RX10) (T := TX10) (N := 26) hx hb hts (fun _ h => List.mem_cons_of_mem _ (List.mem_append_right _ (h))) hown hK.1 hP 0 rfl rfl 1 (by decide) (hts (Cond.fieldLink RX10 53 "WorstVoiceModel" "pageMany" "I") (List.mem_of_getElem? (i := 4) rfl)) (fun _ h9 => h9) rfl dX10_faultOf_19 ?_
      refine lv_icmp_ge (tgt := 44) hx hb dX10_faultOf_22 (by decide) (fun c1 => ?_) (fun c1 => ?_)
      · have c1 := (nI_leI (by omega) (by omega)).mp c1
        refine lv_iload_n hx hb dX10_faultOf_44 rfl (lv_at hl 1 rfl) ?_
        exact W.iret hx hb hr (fun t ht hW => ⟨⟨_, (rd3, rm3, nI (sT pg k), nI (sS pg k), nI (sW pg k)), rfl, (fQ_end hfw (by omega) hRD hRM), by rw [ht]; exact hP, hD.as rfl⟩, hS.F ht⟩) hS.2.2 dX10_faultOf_45
      · have c1 := mt (nI_leI (by omega) (by omega)).mpr c1
        refine lv_aload_n hx hb dX10_faultOf_25 rfl (lv_at hl 0 rfl) ?_
        refine lv_aload_n hx hb dX10_faultOf_26 rfl (lv_at hl 0 rfl) ?_
        refine va_get (D := (dC, dI)) (ci := 10) (v := .ref (b 1)) (C := RX10) (T := TX10) (N := 26) hx hb hts (fun _ h => List.mem_cons_of_mem _ (List.mem_append_right _ (h))) hown hK.1 hP 0 rfl rfl 0 (by decide) (hts (Cond.fieldLink RX10 7 "WorstVoiceModel" "page" "[I") (List.mem_of_getElem? (i := 5) rfl)) (fun _ h9 => h9) rfl dX10_faultOf_27 ?_
        refine lv_iload_n hx hb dX10_faultOf_30 rfl (lv_at hl 1 rfl) ?_
        refine va_iald hx hb hK.1 hP 1 0 rfl rfl (vp_in_nI (by omega) (by decide)) dX10_faultOf_31 ?_
        refine tp_i (z := nI (pg (k))) (ld_n (fun ii => nI (pg ii)) (by omega)) ?_
        refine mu_calli (wr := [((b 1), .inl (cI, 32, .inl (fun ii => nI (pg ii))))]) (wn := (fun u2 => [((b 0), .inr (10, [.ref (b 1), .int (nI (len)), .ref (b 2), .int (u2.2.2.2.1), .ref (b 3), .int (u2.2.2.2.2), .int (u2.2.2.1), .int (nI (n)), .int (nI (w)), .int (wk), .int (tr), .ref (b 4), .ref (b 5), .int (nd), .ref (b 6), .ref (b 7), .int (hd), .ref (b 8), .int (sd), .ref (b 9), .int (kt), .int (kw), .int (kh), .ref (b 10), .ref (b 11), .long (hz)])), ((b 1), .inl (cI, 32, .inl (fun ii => nI (pg ii)))), ((b 2), .inl (cI, 20, .inl u2.1)), ((b 3), .inl (cI, 5, .inl u2.2.1))])) (va_runV (As := [.int (nI (pg (k)))]) (rest := []) ⟨hx, hb, hml, hown, hts⟩ (c_M_go l dC dI cI _ b (nI (len)) n w wk tr nd hd sd kt kw kh hz pg rd3 rm3 k hfw (hpc k (by omega)).2 hRD hRM) (cwV 1 hts gX10_faultOf_X10_go rfl rfl rfl (by decide +kernel) ⟨Nat.le_of_ble_eq_true rfl, Nat.le_of_ble_eq_true rfl⟩) (mu_pv hK hP hD [0, 2, 3] (by decide) rfl rfl (ci := 10) (q0 := 0) (C := RX10) (T := TX10) (N := 26) rfl rfl) rfl rfl hl.1 rfl (lv_room (Nat.le_of_ble_eq_true rfl)) dX10_faultOf_32 ⟨Nat.zero_le _, Nat.zero_le _⟩) hS hA hP hD [0, 2, 3] [1] [1, 0, 2, 3] rfl rfl (by decide) (by decide) (by decide) (fun _ => rfl) (fun _ => rfl) (fun r3 u2 H locs hr3 hP hD hS => ?_)
        obtain ⟨rfl, hgo⟩ := hr3
        have hP : va_P (dC, dI) vwCl [((b 0), .inr (10, [.ref (b 1), .int (nI (len)), .ref (b 2), .int (u2.2.2.2.1), .ref (b 3), .int (u2.2.2.2.2), .int (u2.2.2.1), .int (nI (n)), .int (nI (w)), .int (wk), .int (tr), .ref (b 4), .ref (b 5), .int (nd), .ref (b 6), .ref (b 7), .int (hd), .ref (b 8), .int (sd), .ref (b 9), .int (kt), .int (kw), .int (kh), .ref (b 10), .ref (b 11), .long (hz)])), ((b 1), .inl (cI, 32, .inl (fun ii => nI (pg ii)))), ((b 2), .inl (cI, 20, .inl u2.1)), ((b 3), .inl (cI, 5, .inl u2.2.1))] H := hP
        have hD : va_D A [((b 0), .inr (10, [.ref (b 1), .int (nI (len)), .ref (b 2), .int (u2.2.2.2.1), .ref (b 3), .int (u2.2.2.2.2), .int (u2.2.2.1), .int (nI (n)), .int (nI (w)), .int (wk), .int (tr), .ref (b 4), .ref (b 5), .int (nd), .ref (b 6), .ref (b 7), .int (hd), .ref (b 8), .int (sd), .ref (b 9), .int (kt), .int (kw), .int (kh), .ref (b 10), .ref (b 11), .long (hz)])), ((b 1), .inl (cI, 32, .inl (fun ii => nI (pg ii)))), ((b 2), .inl (cI, 20, .inl u2.1)), ((b 3), .inl (cI, 5, .inl u2.2.1))] := hD
        refine lv_if_eq (tgt := 44) hx hb dX10_faultOf_35 (by decide) (fun c4 => ?_) (fun c4 => ?_)
        · have c4 := bI_0.mp c4
          refine lv_iload_n hx hb dX10_faultOf_44 rfl (lv_at hl 1 rfl) ?_
          exact W.iret hx hb hr (fun t ht hW => ⟨⟨_, (u2.1, u2.2.1, u2.2.2.1, u2.2.2.2.1, u2.2.2.2.2), rfl, (fQ_not hfw (by omega) (by assumption)), by rw [ht]; exact hP, hD.as rfl⟩, hS.F ht⟩) hS.2.2 dX10_faultOf_45
        · have c4 := Decidable.not_not.mp (mt bI_0.mpr c4)
          refine lv_iinc (v := nI (k + 1)) (lv' := [(1, .int (nI (k + 1))), (0, .ref (b 0))]) hx hb dX10_faultOf_38 hl (k := 1) rfl (nI_add (k) 1) (by decide) rfl (fun ls hl => ?_)
          refine lv_goto (tgt := 17) hx hb dX10_faultOf_41 (by decide) ?_
          obtain ⟨e1, e2, e3, e4, e5⟩ := hgo (by assumption)
          rw [e1, e2, e3] at hP hD
          have hP : va_P (dC, dI) vwCl [((b 0), .inr (10, [.ref (b 1), .int (nI (len)), .ref (b 2), .int (nI (sS pg (k + 1))), .ref (b 3), .int (nI (sW pg (k + 1))), .int (nI (sT pg (k + 1))), .int (nI (n)), .int (nI (w)), .int (wk), .int (tr), .ref (b 4), .ref (b 5), .int (nd), .ref (b 6), .ref (b 7), .int (hd), .ref (b 8), .int (sd), .ref (b 9), .int (kt), .int (kw), .int (kh), .ref (b 10), .ref (b 11), .long (hz)])), ((b 1), .inl (cI, 32, .inl (fun ii => nI (pg ii)))), ((b 2), .inl (cI, 20, .inl u2.1)), ((b 3), .inl (cI, 5, .inl u2.2.1))] H := hP
          have hD : va_D A [((b 0), .inr (10, [.ref (b 1), .int (nI (len)), .ref (b 2), .int (nI (sS pg (k + 1))), .ref (b 3), .int (nI (sW pg (k + 1))), .int (nI (sT pg (k + 1))), .int (nI (n)), .int (nI (w)), .int (wk), .int (tr), .ref (b 4), .ref (b 5), .int (nd), .ref (b 6), .ref (b 7), .int (hd), .ref (b 8), .int (sd), .ref (b 9), .int (kt), .int (kw), .int (kh), .ref (b 10), .ref (b 11), .long (hz)])), ((b 1), .inl (cI, 32, .inl (fun ii => nI (pg ii)))), ((b 2), .inl (cI, 20, .inl u2.1)), ((b 3), .inl (cI, 5, .inl u2.2.1))] := hD
          exact (hG _ _ _).mp (ih17 (k + 1) (u2.1) (u2.2.1) (fw_y hfw (by assumption)) (by omega) e4 e5 (by omega) _ _ hP hD hS _ (lv_sub hl [1, 0] rfl))
  refine (hG _ _ _).mpr ?_
  refine lv_aload_n hx hb dX10_faultOf_0 rfl (lv_at hl 0 rfl) ?_
  refine lv_iconst (v := nI (0)) hx hb dX10_faultOf_1 (by decide) ?_
  refine va_put (D := (dC, dI)) (ci := 10) (v := .int (nI (0))) (ty := .int) (C := RX10) (T := TX10) (N := 26) hx hb hts (fun _ h => List.mem_cons_of_mem _ (List.mem_append_right _ (h))) tyX10 tyX10_ok nmX10 hown hK.1 hP hD hS 0 rfl rfl 3 (by decide) (hts (Cond.fieldLink RX10 59 "WorstVoiceModel" "readSingers" "I") (List.mem_of_getElem? (i := 1) rfl)) (fun _ h9 => h9) rfl (by decide +kernel) rfl rfl (Nat.le_of_ble_eq_true rfl) dX10_faultOf_2 (fun H locs hP hD hS => ?_)
  have hP : va_P (dC, dI) vwCl [((b 0), .inr (10, [.ref (b 1), .int (nI (len)), .ref (b 2), .int (nI (0)), .ref (b 3), .int (r_w), .int (st), .int (nI (n)), .int (nI (w)), .int (wk), .int (tr), .ref (b 4), .ref (b 5), .int (nd), .ref (b 6), .ref (b 7), .int (hd), .ref (b 8), .int (sd), .ref (b 9), .int (kt), .int (kw), .int (kh), .ref (b 10), .ref (b 11), .long (hz)])), ((b 1), .inl (cI, 32, .inl (fun ii => nI (pg ii)))), ((b 2), .inl (cI, 20, .inl rd)), ((b 3), .inl (cI, 5, .inl rm))] H := hP
  have hD : va_D A [((b 0), .inr (10, [.ref (b 1), .int (nI (len)), .ref (b 2), .int (nI (0)), .ref (b 3), .int (r_w), .int (st), .int (nI (n)), .int (nI (w)), .int (wk), .int (tr), .ref (b 4), .ref (b 5), .int (nd), .ref (b 6), .ref (b 7), .int (hd), .ref (b 8), .int (sd), .ref (b 9), .int (kt), .int (kw), .int (kh), .ref (b 10), .ref (b 11), .long (hz)])), ((b 1), .inl (cI, 32, .inl (fun ii => nI (pg ii)))), ((b 2), .inl (cI, 20, .inl rd)), ((b 3), .inl (cI, 5, .inl rm))] := hD
  refine lv_aload_n hx hb dX10_faultOf_5 rfl (lv_at hl 0 rfl) ?_
  refine lv_iconst (v := nI (0)) hx hb dX10_faultOf_6 (by decide) ?_
  refine va_put (D := (dC, dI)) (ci := 10) (v := .int (nI (0))) (ty := .int) (C := RX10) (T := TX10) (N := 26) hx hb hts (fun _ h => List.mem_cons_of_mem _ (List.mem_append_right _ (h))) tyX10 tyX10_ok nmX10 hown hK.1 hP hD hS 0 rfl rfl 5 (by decide) (hts (Cond.fieldLink RX10 68 "WorstVoiceModel" "readWidows" "I") (List.mem_of_getElem? (i := 2) rfl)) (fun _ h9 => h9) rfl (by decide +kernel) rfl rfl (Nat.le_of_ble_eq_true rfl) dX10_faultOf_7 (fun H locs hP hD hS => ?_)
  have hP : va_P (dC, dI) vwCl [((b 0), .inr (10, [.ref (b 1), .int (nI (len)), .ref (b 2), .int (nI (0)), .ref (b 3), .int (nI (0)), .int (st), .int (nI (n)), .int (nI (w)), .int (wk), .int (tr), .ref (b 4), .ref (b 5), .int (nd), .ref (b 6), .ref (b 7), .int (hd), .ref (b 8), .int (sd), .ref (b 9), .int (kt), .int (kw), .int (kh), .ref (b 10), .ref (b 11), .long (hz)])), ((b 1), .inl (cI, 32, .inl (fun ii => nI (pg ii)))), ((b 2), .inl (cI, 20, .inl rd)), ((b 3), .inl (cI, 5, .inl rm))] H := hP
  have hD : va_D A [((b 0), .inr (10, [.ref (b 1), .int (nI (len)), .ref (b 2), .int (nI (0)), .ref (b 3), .int (nI (0)), .int (st), .int (nI (n)), .int (nI (w)), .int (wk), .int (tr), .ref (b 4), .ref (b 5), .int (nd), .ref (b 6), .ref (b 7), .int (hd), .ref (b 8), .int (sd), .ref (b 9), .int (kt), .int (kw), .int (kh), .ref (b 10), .ref (b 11), .long (hz)])), ((b 1), .inl (cI, 32, .inl (fun ii => nI (pg ii)))), ((b 2), .inl (cI, 20, .inl rd)), ((b 3), .inl (cI, 5, .inl rm))] := hD
  refine lv_aload_n hx hb dX10_faultOf_10 rfl (lv_at hl 0 rfl) ?_
  refine lv_iconst (v := nI (0)) hx hb dX10_faultOf_11 (by decide) ?_
  refine va_put (D := (dC, dI)) (ci := 10) (v := .int (nI (0))) (ty := .int) (C := RX10) (T := TX10) (N := 26) hx hb hts (fun _ h => List.mem_cons_of_mem _ (List.mem_append_right _ (h))) tyX10 tyX10_ok nmX10 hown hK.1 hP hD hS 0 rfl rfl 6 (by decide) (hts (Cond.fieldLink RX10 56 "WorstVoiceModel" "state" "I") (List.mem_of_getElem? (i := 3) rfl)) (fun _ h9 => h9) rfl (by decide +kernel) rfl rfl (Nat.le_of_ble_eq_true rfl) dX10_faultOf_12 (fun H locs hP hD hS => ?_)
  have hP : va_P (dC, dI) vwCl [((b 0), .inr (10, [.ref (b 1), .int (nI (len)), .ref (b 2), .int (nI (0)), .ref (b 3), .int (nI (0)), .int (nI (0)), .int (nI (n)), .int (nI (w)), .int (wk), .int (tr), .ref (b 4), .ref (b 5), .int (nd), .ref (b 6), .ref (b 7), .int (hd), .ref (b 8), .int (sd), .ref (b 9), .int (kt), .int (kw), .int (kh), .ref (b 10), .ref (b 11), .long (hz)])), ((b 1), .inl (cI, 32, .inl (fun ii => nI (pg ii)))), ((b 2), .inl (cI, 20, .inl rd)), ((b 3), .inl (cI, 5, .inl rm))] H := hP
  have hD : va_D A [((b 0), .inr (10, [.ref (b 1), .int (nI (len)), .ref (b 2), .int (nI (0)), .ref (b 3), .int (nI (0)), .int (nI (0)), .int (nI (n)), .int (nI (w)), .int (wk), .int (tr), .ref (b 4), .ref (b 5), .int (nd), .ref (b 6), .ref (b 7), .int (hd), .ref (b 8), .int (sd), .ref (b 9), .int (kt), .int (kw), .int (kh), .ref (b 10), .ref (b 11), .long (hz)])), ((b 1), .inl (cI, 32, .inl (fun ii => nI (pg ii)))), ((b 2), .inl (cI, 20, .inl rd)), ((b 3), .inl (cI, 5, .inl rm))] := hD
  refine lv_iconst (v := nI (0)) hx hb dX10_faultOf_15 (by decide) ?_
  refine lv_istore_n (lv' := [(1, .int (nI (0))), (0, .ref (b 0))]) hx hb dX10_faultOf_16 rfl hl (by decide) rfl (fun ls hl => ?_)
  have hP : va_P (dC, dI) vwCl [((b 0), .inr (10, [.ref (b 1), .int (nI (len)), .ref (b 2), .int (nI (sS pg 0)), .ref (b 3), .int (nI (sW pg 0)), .int (nI (sT pg 0)), .int (nI (n)), .int (nI (w)), .int (wk), .int (tr), .ref (b 4), .ref (b 5), .int (nd), .ref (b 6), .ref (b 7), .int (hd), .ref (b 8), .int (sd), .ref (b 9), .int (kt), .int (kw), .int (kh), .ref (b 10), .ref (b 11), .long (hz)])), ((b 1), .inl (cI, 32, .inl (fun ii => nI (pg ii)))), ((b 2), .inl (cI, 20, .inl rd)), ((b 3), .inl (cI, 5, .inl rm))] H := by rw [sS_0, sW_0, sT_0]; exact hP
  have hD : va_D A [((b 0), .inr (10, [.ref (b 1), .int (nI (len)), .ref (b 2), .int (nI (sS pg 0)), .ref (b 3), .int (nI (sW pg 0)), .int (nI (sT pg 0)), .int (nI (n)), .int (nI (w)), .int (wk), .int (tr), .ref (b 4), .ref (b 5), .int (nd), .ref (b 6), .ref (b 7), .int (hd), .ref (b 8), .int (sd), .ref (b 9), .int (kt), .int (kw), .int (kh), .ref (b 10), .ref (b 11), .long (hz)])), ((b 1), .inl (cI, 32, .inl (fun ii => nI (pg ii)))), ((b 2), .inl (cI, 20, .inl rd)), ((b 3), .inl (cI, 5, .inl rm))] := hD.as rfl
  exact (hG _ _ _).mp (L17 (len + 1) (0) (rd) (rm) rfl (Nat.zero_le _) rRD_0 rRM_0 (by omega) _ _ hP hD hS _ (lv_sub hl [1, 0] rfl))

set_option maxHeartbeats 4000000 in
set_option maxRecDepth 100000 in
theorem c_M_fault (l : Launch) (dC : Nat → ClassId) (dI : Nat → Nat → Nat) (cI : ClassId) (sz : Nat) (b : Nat → Nat) (len : Nat) (r_s : Int32) (r_w : Int32) (st : Int32) (n : Nat) (w : Nat) (wk : Int32) (tr : Int32) (nd : Int32) (hd : Int32) (sd : Int32) (kt : Int32) (kw : Int32) (kh : Int32) (hz : Int64) (pg : Nat → Nat) (rd rm : Nat → Int32) (hlen : len ≤ 32) (hpc : ∀ i, i < len → 1 ≤ pg i ∧ pg i < 127) : Met l yX10_fault wsX10_fault ({ frames := 3, cells := 0, slots := 0, locals := 68 } : Room) (muP dC dI cI ([moW b (nI len) r_s r_w st n w wk tr nd hd sd kt kw kh hz] ++ [(b 1, .inl (cI, 32, .inl (fun i => nI (pg i))))] ++ [(b 2, .inl (cI, 20, .inl rd)), (b 3, .inl (cI, 5, .inl rm))]) sz [.ref (b 0)]) (muI (S := (Nat → Int32) × (Nat → Int32) × Int32 × Int32 × Int32) dC dI ([moW b (nI len) r_s r_w st n w wk tr nd hd sd kt kw kh hz] ++ [(b 1, .inl (cI, 32, .inl (fun i => nI (pg i))))] ++ [(b 2, .inl (cI, 20, .inl rd)), (b 3, .inl (cI, 5, .inl rm))]) sz (fun u => [moW b (nI len) u.2.2.2.1 u.2.2.2.2 u.2.2.1 n w wk tr nd hd sd kt kw kh hz] ++ [(b 1, .inl (cI, 32, .inl (fun i => nI (pg i))))] ++ [(b 2, .inl (cI, 20, .inl u.1)), (b 3, .inl (cI, 5, .inl u.2.1))]) (fun r u => r = nI (fw pg len))) 0 0 (va_A ([moW b (nI len) r_s r_w st n w wk tr nd hd sd kt kw kh hz] ++ [(b 1, .inl (cI, 32, .inl (fun i => nI (pg i))))] ++ [(b 2, .inl (cI, 20, .inl rd)), (b 3, .inl (cI, 5, .inl rm))]) sz) := by
  refine Met.ofW (cc := cX10_fault) (maxL := 1) (ret := (some .int)) (by decide) rfl ?_
  intro p e s m args below meth c s₁ B hml hv
  obtain ⟨rfl, hsz, hP, hK, hD0⟩ := hv
  have hx := B.exec
  have hb := B.bytes
  have hr := B.returns
  have hts := atoms_spec (ws := wsX10_fault) B.pre
  have hown : s.vm.findClass RX10 = some m.cls := findClass_of_methodNamed B.named
  have hlocks := B.notSynchronized
  subst hsz
  unfold muI muB
  have hD := hD0.self (sz := s.heap.size)
  generalize hAe : va_A ([moW b (nI len) r_s r_w st n w wk tr nd hd sd kt kw kh hz] ++ [(b 1, .inl (cI, 32, .inl (fun i => nI (pg i))))] ++ [(b 2, .inl (cI, 20, .inl rd)), (b 3, .inl (cI, 5, .inl rm))]) s.heap.size = A at hD ⊢
  have hA : ∀ q : Nat, s.heap.size ≤ q → A q := fun q h => by rw [← hAe]; exact Or.inr h
  have hS : va_S A s.heap s.heap [] := va_S.rf
  have hl := lv_entry ([.ref (b 0)]) (n := 1) (Nat.le_of_ble_eq_true rfl)
  rw [lg_entry_eq]
  generalize (lg_sl ([.ref (b 0)]) ++ List.replicate (1 - (lg_sl ([.ref (b 0)])).length) Slot.unset).toArray = ls at hl ⊢
  have hl : lv_has ls 1 [(0, .ref (b 0))] := hl
  refine lv_aload_n hx hb dX10_fault_0 rfl (lv_at hl 0 rfl) ?_
  refine mu_calli (wr := []) (wn := (fun u1 => [((b 0), .inr (10, [.ref (b 1), .int (nI (len)), .ref (b 2), .int (u1.2.2.2.1), .ref (b 3), .int (u1.2.2.2.2), .int (u1.2.2.1), .int (nI (n)), .int (nI (w)), .int (wk), .int (tr), .ref (b 4), .ref (b 5), .int (nd), .ref (b 6), .ref (b 7), .int (hd), .ref (b 8), .int (sd), .ref (b 9), .int (kt), .int (kw), .int (kh), .ref (b 10), .ref (b 11), .long (hz)])), ((b 1), .inl (cI, 32, .inl (fun ii => nI (pg ii)))), ((b 2), .inl (cI, 20, .inl u1.1)), ((b 3), .inl (cI, 5, .inl u1.2.1))])) (va_runV (As := []) (rest := []) ⟨hx, hb, hml, hown, hts⟩ (c_M_faultOf l dC dI cI _ b len r_s r_w st n w wk tr nd hd sd kt kw kh hz pg rd rm hlen hpc) (cwV 0 hts gX10_fault_X10_faultOf rfl rfl rfl (by decide +kernel) ⟨Nat.le_of_ble_eq_true rfl, Nat.le_of_ble_eq_true rfl⟩) (mu_pv hK hP hD [0, 1, 2, 3] (by decide) rfl rfl (ci := 10) (q0 := 0) (C := RX10) (T := TX10) (N := 26) rfl rfl) rfl rfl hl.1 rfl (lv_room (Nat.le_of_ble_eq_true rfl)) dX10_fault_1 ⟨Nat.zero_le _, Nat.zero_le _⟩) hS hA hP hD [0, 1, 2, 3] [] [0, 1, 2, 3] rfl rfl (by decide) (by decide) (by decide) (fun _ => rfl) (fun _ => rfl) (fun r2 u1 H locs hr2 hP hD hS => ?_)
  obtain ⟨rfl, hfo⟩ := hr2
  have hfl := fw_le pg len
  have hP : va_P (dC, dI) vwCl [((b 0), .inr (10, [.ref (b 1), .int (nI (len)), .ref (b 2), .int (u1.2.2.2.1), .ref (b 3), .int (u1.2.2.2.2), .int (u1.2.2.1), .int (nI (n)), .int (nI (w)), .int (wk), .int (tr), .ref (b 4), .ref (b 5), .int (nd), .ref (b 6), .ref (b 7), .int (hd), .ref (b 8), .int (sd), .ref (b 9), .int (kt), .int (kw), .int (kh), .ref (b 10), .ref (b 11), .long (hz)])), ((b 1), .inl (cI, 32, .inl (fun ii => nI (pg ii)))), ((b 2), .inl (cI, 20, .inl u1.1)), ((b 3), .inl (cI, 5, .inl u1.2.1))] H := hP
  have hD : va_D A [((b 0), .inr (10, [.ref (b 1), .int (nI (len)), .ref (b 2), .int (u1.2.2.2.1), .ref (b 3), .int (u1.2.2.2.2), .int (u1.2.2.1), .int (nI (n)), .int (nI (w)), .int (wk), .int (tr), .ref (b 4), .ref (b 5), .int (nd), .ref (b 6), .ref (b 7), .int (hd), .ref (b 8), .int (sd), .ref (b 9), .int (kt), .int (kw), .int (kh), .ref (b 10), .ref (b 11), .long (hz)])), ((b 1), .inl (cI, 32, .inl (fun ii => nI (pg ii)))), ((b 2), .inl (cI, 20, .inl u1.1)), ((b 3), .inl (cI, 5, .inl u1.2.1))] := hD
  exact W.iret hx hb hr (fun t ht hW => ⟨⟨_, (u1.1, u1.2.1, u1.2.2.1, u1.2.2.2.1, u1.2.2.2.2), rfl, rfl, by rw [ht]; exact hP, hD.as rfl⟩, hS.F ht⟩) hS.2.2 dX10_fault_4

set_option maxHeartbeats 4000000 in
set_option maxRecDepth 100000 in
theorem c_M_townN (l : Launch) (dC : Nat → ClassId) (dI : Nat → Nat → Nat) (cI : ClassId) (sz : Nat) (b : Nat → Nat) (len : Nat) (r_s : Int32) (r_w : Int32) (st : Int32) (n : Nat) (w : Nat) (wk : Int32) (tr : Int32) (nd : Int32) (hd : Int32) (sd : Int32) (kt : Int32) (kw : Int32) (kh : Int32) (hz : Int64) (pg : Nat → Nat) (rd rm : Nat → Int32) (hlen : len ≤ 32) (hpc : ∀ i, i < len → 1 ≤ pg i ∧ pg i < 127) (hnw : ¬ whl pg len) : Met l yX10_town wsX10_town ({ frames := 3, cells := 0, slots := 0, locals := 68 } : Room) (muP dC dI cI ([moW b (nI len) r_s r_w st n w wk tr nd hd sd kt kw kh hz] ++ [(b 1, .inl (cI, 32, .inl (fun i => nI (pg i))))] ++ [(b 2, .inl (cI, 20, .inl rd)), (b 3, .inl (cI, 5, .inl rm))]) sz [.ref (b 0)]) (muI (S := (Nat → Int32) × (Nat → Int32) × Int32 × Int32 × Int32) dC dI ([moW b (nI len) r_s r_w st n w wk tr nd hd sd kt kw kh hz] ++ [(b 1, .inl (cI, 32, .inl (fun i => nI (pg i))))] ++ [(b 2, .inl (cI, 20, .inl rd)), (b 3, .inl (cI, 5, .inl rm))]) sz (fun u => [moW b (nI len) u.2.2.2.1 u.2.2.2.2 u.2.2.1 n w wk tr nd hd sd kt kw kh hz] ++ [(b 1, .inl (cI, 32, .inl (fun i => nI (pg i))))] ++ [(b 2, .inl (cI, 20, .inl u.1)), (b 3, .inl (cI, 5, .inl u.2.1))]) (fun r u => r = -103)) 0 0 (va_A ([moW b (nI len) r_s r_w st n w wk tr nd hd sd kt kw kh hz] ++ [(b 1, .inl (cI, 32, .inl (fun i => nI (pg i))))] ++ [(b 2, .inl (cI, 20, .inl rd)), (b 3, .inl (cI, 5, .inl rm))]) sz) := by
  refine Met.ofW (cc := cX10_town) (maxL := 3) (ret := (some .int)) (by decide) rfl ?_
  intro p e s m args below meth c s₁ B hml hv
  obtain ⟨rfl, hsz, hP, hK, hD0⟩ := hv
  have hx := B.exec
  have hb := B.bytes
  have hr := B.returns
  have hts := atoms_spec (ws := wsX10_town) B.pre
  have hown : s.vm.findClass RX10 = some m.cls := findClass_of_methodNamed B.named
  have hlocks := B.notSynchronized
  subst hsz
  unfold muI muB
  have hD := hD0.self (sz := s.heap.size)
  generalize hAe : va_A ([moW b (nI len) r_s r_w st n w wk tr nd hd sd kt kw kh hz] ++ [(b 1, .inl (cI, 32, .inl (fun i => nI (pg i))))] ++ [(b 2, .inl (cI, 20, .inl rd)), (b 3, .inl (cI, 5, .inl rm))]) s.heap.size = A at hD ⊢
  have hA : ∀ q : Nat, s.heap.size ≤ q → A q := fun q h => by rw [← hAe]; exact Or.inr h
  have hS : va_S A s.heap s.heap [] := va_S.rf
  have hl := lv_entry ([.ref (b 0)]) (n := 3) (Nat.le_of_ble_eq_true rfl)
  rw [lg_entry_eq]
  generalize (lg_sl ([.ref (b 0)]) ++ List.replicate (3 - (lg_sl ([.ref (b 0)])).length) Slot.unset).toArray = ls at hl ⊢
  have hl : lv_has ls 3 [(0, .ref (b 0))] := hl
  refine lv_aload_n hx hb dX10_town_0 rfl (lv_at hl 0 rfl) ?_
  refine mu_calli (wr := []) (wn := (fun u1 => [((b 0), .inr (10, [.ref (b 1), .int (nI (len)), .ref (b 2), .int (u1.2.2.2.1), .ref (b 3), .int (u1.2.2.2.2), .int (u1.2.2.1), .int (nI (n)), .int (nI (w)), .int (wk), .int (tr), .ref (b 4), .ref (b 5), .int (nd), .ref (b 6), .ref (b 7), .int (hd), .ref (b 8), .int (sd), .ref (b 9), .int (kt), .int (kw), .int (kh), .ref (b 10), .ref (b 11), .long (hz)])), ((b 1), .inl (cI, 32, .inl (fun ii => nI (pg ii)))), ((b 2), .inl (cI, 20, .inl u1.1)), ((b 3), .inl (cI, 5, .inl u1.2.1))])) (va_runV (As := []) (rest := []) ⟨hx, hb, hml, hown, hts⟩ (c_M_faultOf l dC dI cI _ b len r_s r_w st n w wk tr nd hd sd kt kw kh hz pg rd rm hlen hpc) (cwV 0 hts gX10_town_X10_faultOf rfl rfl rfl (by decide +kernel) ⟨Nat.le_of_ble_eq_true rfl, Nat.le_of_ble_eq_true rfl⟩) (mu_pv hK hP hD [0, 1, 2, 3] (by decide) rfl rfl (ci := 10) (q0 := 0) (C := RX10) (T := TX10) (N := 26) rfl rfl) rfl rfl hl.1 rfl (lv_room (Nat.le_of_ble_eq_true rfl)) dX10_town_1 ⟨Nat.zero_le _, Nat.zero_le _⟩) hS hA hP hD [0, 1, 2, 3] [] [0, 1, 2, 3] rfl rfl (by decide) (by decide) (by decide) (fun _ => rfl) (fun _ => rfl) (fun r2 u1 H locs hr2 hP hD hS => ?_)
  obtain ⟨rfl, hfo⟩ := hr2
  have hfl := fw_le pg len
  have hP : va_P (dC, dI) vwCl [((b 0), .inr (10, [.ref (b 1), .int (nI (len)), .ref (b 2), .int (u1.2.2.2.1), .ref (b 3), .int (u1.2.2.2.2), .int (u1.2.2.1), .int (nI (n)), .int (nI (w)), .int (wk), .int (tr), .ref (b 4), .ref (b 5), .int (nd), .ref (b 6), .ref (b 7), .int (hd), .ref (b 8), .int (sd), .ref (b 9), .int (kt), .int (kw), .int (kh), .ref (b 10), .ref (b 11), .long (hz)])), ((b 1), .inl (cI, 32, .inl (fun ii => nI (pg ii)))), ((b 2), .inl (cI, 20, .inl u1.1)), ((b 3), .inl (cI, 5, .inl u1.2.1))] H := hP
  have hD : va_D A [((b 0), .inr (10, [.ref (b 1), .int (nI (len)), .ref (b 2), .int (u1.2.2.2.1), .ref (b 3), .int (u1.2.2.2.2), .int (u1.2.2.1), .int (nI (n)), .int (nI (w)), .int (wk), .int (tr), .ref (b 4), .ref (b 5), .int (nd), .ref (b 6), .ref (b 7), .int (hd), .ref (b 8), .int (sd), .ref (b 9), .int (kt), .int (kw), .int (kh), .ref (b 10), .ref (b 11), .long (hz)])), ((b 1), .inl (cI, 32, .inl (fun ii => nI (pg ii)))), ((b 2), .inl (cI, 20, .inl u1.1)), ((b 3), .inl (cI, 5, .inl u1.2.1))] := hD
  refine lv_aload_n hx hb dX10_town_4 rfl (lv_at hl 0 rfl) ?_
  refine va_get (D := (dC, dI)) (ci := 10) (v := .int (nI (len))) (C := RX10) (T := TX10) (N := 26) hx hb hts (fun _ h => List.mem_cons_of_mem _ (List.mem_append_right _ (h))) hown hK.1 hP 0 rfl rfl 1 (by decide) (hts (Cond.fieldLink RX10 53 "WorstVoiceModel" "pageMany" "I") (List.mem_of_getElem? (i := 1) rfl)) (fun _ h9 => h9) rfl dX10_town_5 ?_
  refine lv_icmp_lt (tgt := 27) hx hb dX10_town_8 (by decide) (fun c3 => ?_) (fun c3 => ?_)
  · have c3 := (nI_ltI (by omega) (by omega)).mp c3
    refine lv_bipush (v := -103) hx hb dX10_town_27 (by decide) ?_
    exact W.iret hx hb hr (fun t ht hW => ⟨⟨_, (u1.1, u1.2.1, u1.2.2.1, u1.2.2.2.1, u1.2.2.2.2), rfl, rfl, by rw [ht]; exact hP, hD.as rfl⟩, hS.F ht⟩) hS.2.2 dX10_town_29
  · have c3 := mt (nI_ltI (by omega) (by omega)).mpr c3
    obtain ⟨e1, e2, e3, e4, e5⟩ := hfo (by omega)
    rw [e1, e2, e3] at hP hD
    have hT7 := sT_lt pg len
    have hSl2 : sS pg len ≤ 32 := by unfold sS; have := se_le pg len; split <;> omega
    have hWl2 : sW pg len ≤ 32 := by unfold sW; split <;> omega
    have hP : va_P (dC, dI) vwCl [((b 0), .inr (10, [.ref (b 1), .int (nI (len)), .ref (b 2), .int (nI (sS pg len)), .ref (b 3), .int (nI (sW pg len)), .int (nI (sT pg len)), .int (nI (n)), .int (nI (w)), .int (wk), .int (tr), .ref (b 4), .ref (b 5), .int (nd), .ref (b 6), .ref (b 7), .int (hd), .ref (b 8), .int (sd), .ref (b 9), .int (kt), .int (kw), .int (kh), .ref (b 10), .ref (b 11), .long (hz)])), ((b 1), .inl (cI, 32, .inl (fun ii => nI (pg ii)))), ((b 2), .inl (cI, 20, .inl u1.1)), ((b 3), .inl (cI, 5, .inl u1.2.1))] H := hP
    have hD : va_D A [((b 0), .inr (10, [.ref (b 1), .int (nI (len)), .ref (b 2), .int (nI (sS pg len)), .ref (b 3), .int (nI (sW pg len)), .int (nI (sT pg len)), .int (nI (n)), .int (nI (w)), .int (wk), .int (tr), .ref (b 4), .ref (b 5), .int (nd), .ref (b 6), .ref (b 7), .int (hd), .ref (b 8), .int (sd), .ref (b 9), .int (kt), .int (kw), .int (kh), .ref (b 10), .ref (b 11), .long (hz)])), ((b 1), .inl (cI, 32, .inl (fun ii => nI (pg ii)))), ((b 2), .inl (cI, 20, .inl u1.1)), ((b 3), .inl (cI, 5, .inl u1.2.1))] := hD
    refine lv_aload_n hx hb dX10_town_11 rfl (lv_at hl 0 rfl) ?_
    refine va_get (D := (dC, dI)) (ci := 10) (v := .int (nI (sT pg len))) (C := RX10) (T := TX10) (N := 26) hx hb hts (fun _ h => List.mem_cons_of_mem _ (List.mem_append_right _ (h))) hown hK.1 hP 0 rfl rfl 6 (by decide) (hts (Cond.fieldLink RX10 56 "WorstVoiceModel" "state" "I") (List.mem_of_getElem? (i := 2) rfl)) (fun _ h9 => h9) rfl dX10_town_12 ?_
    refine lv_bipush (v := nI (6)) hx hb dX10_town_15 (by decide) ?_
    refine lv_icmp_ne (tgt := 27) hx hb dX10_town_17 (by decide) (fun c4 => ?_) (fun c4 => ?_)
    · have c4 := mt (nI_eq (by omega) (by decide)).mpr c4
      refine lv_bipush (v := -103) hx hb dX10_town_27 (by decide) ?_
      exact W.iret hx hb hr (fun t ht hW => ⟨⟨_, (u1.1, u1.2.1, nI (sT pg len), nI (sS pg len), nI (sW pg len)), rfl, rfl, by rw [ht]; exact hP, hD.as rfl⟩, hS.F ht⟩) hS.2.2 dX10_town_29
    · have c4 := (nI_eq (by omega) (by decide)).mp c4
      refine lv_aload_n hx hb dX10_town_20 rfl (lv_at hl 0 rfl) ?_
      refine va_get (D := (dC, dI)) (ci := 10) (v := .int (nI (sW pg len))) (C := RX10) (T := TX10) (N := 26) hx hb hts (fun _ h => List.mem_cons_of_mem _ (List.mem_append_right _ (h))) hown hK.1 hP 0 rfl rfl 5 (by decide) (hts (Cond.fieldLink RX10 68 "WorstVoiceModel" "readWidows" "I") (List.mem_of_getElem? (i := 3) rfl)) (fun _ h9 => h9) rfl dX10_town_21 ?_
      refine lv_if_ne (tgt := 30) hx hb dX10_town_24 (by decide) (fun c5 => absurd (tw_w (by omega) (by assumption) (mt (z_eq (by omega)).mpr c5)) hnw) (fun c5 => ?_)
      refine lv_bipush (v := -103) hx hb dX10_town_27 (by decide) ?_
      exact W.iret hx hb hr (fun t ht hW => ⟨⟨_, (u1.1, u1.2.1, nI (sT pg len), nI (sS pg len), nI (sW pg len)), rfl, rfl, by rw [ht]; exact hP, hD.as rfl⟩, hS.F ht⟩) hS.2.2 dX10_town_29

set_option maxHeartbeats 4000000 in
set_option maxRecDepth 100000 in
theorem c_M_town (l : Launch) (dC : Nat → ClassId) (dI : Nat → Nat → Nat) (cI : ClassId) (sz : Nat) (b : Nat → Nat) (len : Nat) (r_s : Int32) (r_w : Int32) (st : Int32) (n : Nat) (w : Nat) (wk : Int32) (tr : Int32) (nd : Int32) (hd : Int32) (sd : Int32) (kt : Int32) (kw : Int32) (kh : Int32) (hz : Int64) (pg : Nat → Nat) (rd rm : Nat → Int32) (hlen : len ≤ 32) (hpc : ∀ i, i < len → 1 ≤ pg i ∧ pg i < 127) (R mi : Nat → Nat) (mm : Nat → Int32) (hwl : whl pg len) : Met l yX10_town wsX10_town ({ frames := 3, cells := 0, slots := 0, locals := 68 } : Room) (muP dC dI cI ([moW b (nI len) r_s r_w st n w wk tr nd hd sd kt kw kh hz] ++ [(b 1, .inl (cI, 32, .inl (fun i => nI (pg i))))] ++ [(b 2, .inl (cI, 20, .inl rd)), (b 3, .inl (cI, 5, .inl rm))] ++ [(b 4, .inl (cI, 32, .inl (fun i => nI (R i))))] ++ [(b 5, .inl (cI, 5, .inl mm))]) sz [.ref (b 0)]) (muI (S := (Nat → Int32) × (Nat → Int32)) dC dI ([moW b (nI len) r_s r_w st n w wk tr nd hd sd kt kw kh hz] ++ [(b 1, .inl (cI, 32, .inl (fun i => nI (pg i))))] ++ [(b 2, .inl (cI, 20, .inl rd)), (b 3, .inl (cI, 5, .inl rm))] ++ [(b 4, .inl (cI, 32, .inl (fun i => nI (R i))))] ++ [(b 5, .inl (cI, 5, .inl mm))]) sz (fun u => [moW b (nI 0) (nI ((se pg len + 1) / 6)) (nI (len - se pg len - 1)) (nI 6) ((se pg len + 1) / 6) (len - se pg len - 1) (nI 0) (tr + nI 1) nd (nI 0) sd kt kw kh hz] ++ [(b 1, .inl (cI, 32, .inl (fun i => nI (pg i))))] ++ [(b 2, .inl (cI, 20, .inl u.1)), (b 3, .inl (cI, 5, .inl u.2))] ++ [(b 4, .inl (cI, 32, .inl (fun i => nI ((rdR pg R ((se pg len + 1) / 6)) i))))] ++ [(b 5, .inl (cI, 5, .inl u.2))]) (fun r u => r = nI ((se pg len + 1) / 6) ∧ ∀ j, j < len - se pg len - 1 → u.2 j = nI (mdP pg (se pg len) mi (len - se pg len - 1) j))) 0 0 (va_A ([moW b (nI len) r_s r_w st n w wk tr nd hd sd kt kw kh hz] ++ [(b 1, .inl (cI, 32, .inl (fun i => nI (pg i))))] ++ [(b 2, .inl (cI, 20, .inl rd)), (b 3, .inl (cI, 5, .inl rm))] ++ [(b 4, .inl (cI, 32, .inl (fun i => nI (R i))))] ++ [(b 5, .inl (cI, 5, .inl mm))]) sz) := by
  refine Met.ofW (cc := cX10_town) (maxL := 3) (ret := (some .int)) (by decide) rfl ?_
  intro p e s m args below meth c s₁ B hml hv
  obtain ⟨rfl, hsz, hP, hK, hD0⟩ := hv
  have hx := B.exec
  have hb := B.bytes
  have hr := B.returns
  have hts := atoms_spec (ws := wsX10_town) B.pre
  have hown : s.vm.findClass RX10 = some m.cls := findClass_of_methodNamed B.named
  have hlocks := B.notSynchronized
  subst hsz
  unfold muI muB
  have hD := hD0.self (sz := s.heap.size)
  generalize hAe : va_A ([moW b (nI len) r_s r_w st n w wk tr nd hd sd kt kw kh hz] ++ [(b 1, .inl (cI, 32, .inl (fun i => nI (pg i))))] ++ [(b 2, .inl (cI, 20, .inl rd)), (b 3, .inl (cI, 5, .inl rm))] ++ [(b 4, .inl (cI, 32, .inl (fun i => nI (R i))))] ++ [(b 5, .inl (cI, 5, .inl mm))]) s.heap.size = A at hD ⊢
  have hA : ∀ q : Nat, s.heap.size ≤ q → A q := fun q h => by rw [← hAe]; exact Or.inr h
  have hS : va_S A s.heap s.heap [] := va_S.rf
  have hl := lv_entry ([.ref (b 0)]) (n := 3) (Nat.le_of_ble_eq_true rfl)
  rw [lg_entry_eq]
  generalize (lg_sl ([.ref (b 0)]) ++ List.replicate (3 - (lg_sl ([.ref (b 0)])).length) Slot.unset).toArray = ls at hl ⊢
  have hl : lv_has ls 3 [(0, .ref (b 0))] := hl
  refine W_abs (fun G hG => ?_)
  have hw1 : fw pg len = len := hwl.1
  have hwe := whl_e hwl
  have hT6 := tw_T hwl
  have hw2 : se pg len + 1 < len := hwl.2
  have L59 : ∀ (fu : Nat) (rdx : Nat → Int32) (rmx : Nat → Int32) (i : Nat), rRD pg len rdx → rRM pg len rmx → i ≤ (se pg len + 1) / 6 → (se pg len + 1) / 6 + 1 ≤ i + fu → ∀ (H : Heap) (locs : List Loc), va_P (dC, dI) vwCl [((b 0), .inr (10, [.ref (b 1), .int (nI (len)), .ref (b 2), .int (nI ((se pg len + 1) / 6)), .ref (b 3), .int (nI (len - se pg len - 1)), .int (nI (6)), .int (nI ((se pg len + 1) / 6)), .int (nI (len - se pg len - 1)), .int (wk), .int (tr), .ref (b 4), .ref (b 5), .int (nd), .ref (b 6), .ref (b 7), .int (hd), .ref (b 8), .int (sd), .ref (b 9), .int (kt), .int (kw), .int (kh), .ref (b 10), .ref (b 11), .long (hz)])), ((b 1), .inl (cI, 32, .inl (fun ii => nI (pg ii)))), ((b 2), .inl (cI, 20, .inl rdx)), ((b 3), .inl (cI, 5, .inl rmx)), ((b 4), .inl (cI, 32, .inl (fun ii => nI ((rdQ pg R (8 * i)) ii)))), ((b 5), .inl (cI, 5, .inl rmx))] H → va_D A [((b 0), .inr (10, [.ref (b 1), .int (nI (len)), .ref (b 2), .int (nI ((se pg len + 1) / 6)), .ref (b 3), .int (nI (len - se pg len - 1)), .int (nI (6)), .int (nI ((se pg len + 1) / 6)), .int (nI (len - se pg len - 1)), .int (wk), .int (tr), .ref (b 4), .ref (b 5), .int (nd), .ref (b 6), .ref (b 7), .int (hd), .ref (b 8), .int (sd), .ref (b 9), .int (kt), .int (kw), .int (kh), .ref (b 10), .ref (b 11), .long (hz)])), ((b 1), .inl (cI, 32, .inl (fun ii => nI (pg ii)))), ((b 2), .inl (cI, 20, .inl rdx)), ((b 3), .inl (cI, 5, .inl rmx)), ((b 4), .inl (cI, 32, .inl (fun ii => nI ((rdQ pg R (8 * i)) ii)))), ((b 5), .inl (cI, 5, .inl rmx))] → va_S A s.heap H locs → ∀ (ls : Array Slot), lv_has ls 3 [(0, .ref (b 0)), (1, .int (nI (i)))] → G H locs (F0 m 59 ls []) := by
    intro fu
    induction fu with
    | zero => intro rdx rmx i e4 e5 hi hfu H locs hP hD hS ls hl; omega
    | succ fu ih59 =>
      intro rdx rmx i e4 e5 hi hfu H locs hP hD hS ls hl
      have L69 : ∀ (fu : Nat) (f : Nat), f ≤ 8 → i < (se pg len + 1) / 6 → 8 + 1 ≤ f + fu → ∀ (H : Heap) (locs : List Loc), va_P (dC, dI) vwCl [((b 0), .inr (10, [.ref (b 1), .int (nI (len)), .ref (b 2), .int (nI ((se pg len + 1) / 6)), .ref (b 3), .int (nI (len - se pg len - 1)), .int (nI (6)), .int (nI ((se pg len + 1) / 6)), .int (nI (len - se pg len - 1)), .int (wk), .int (tr), .ref (b 4), .ref (b 5), .int (nd), .ref (b 6), .ref (b 7), .int (hd), .ref (b 8), .int (sd), .ref (b 9), .int (kt), .int (kw), .int (kh), .ref (b 10), .ref (b 11), .long (hz)])), ((b 1), .inl (cI, 32, .inl (fun ii => nI (pg ii)))), ((b 2), .inl (cI, 20, .inl rdx)), ((b 3), .inl (cI, 5, .inl rmx)), ((b 4), .inl (cI, 32, .inl (fun ii => nI ((rdQ pg R (8 * i + f)) ii)))), ((b 5), .inl (cI, 5, .inl rmx))] H → va_D A [((b 0), .inr (10, [.ref (b 1), .int (nI (len)), .ref (b 2), .int (nI ((se pg len + 1) / 6)), .ref (b 3), .int (nI (len - se pg len - 1)), .int (nI (6)), .int (nI ((se pg len + 1) / 6)), .int (nI (len - se pg len - 1)), .int (wk), .int (tr), .ref (b 4), .ref (b 5), .int (nd), .ref (b 6), .ref (b 7), .int (hd), .ref (b 8), .int (sd), .ref (b 9), .int (kt), .int (kw), .int (kh), .ref (b 10), .ref (b 11), .long (hz)])), ((b 1), .inl (cI, 32, .inl (fun ii => nI (pg ii)))), ((b 2), .inl (cI, 20, .inl rdx)), ((b 3), .inl (cI, 5, .inl rmx)), ((b 4), .inl (cI, 32, .inl (fun ii => nI ((rdQ pg R (8 * i + f)) ii)))), ((b 5), .inl (cI, 5, .inl rmx))] → va_S A s.heap H locs → ∀ (ls : Array Slot), lv_has ls 3 [(0, .ref (b 0)), (1, .int (nI (i))), (2, .int (nI (f)))] → G H locs (F0 m 69 ls []) := by
        intro fu
        induction fu with
        | zero => intro f h8 hi1 hfu H locs hP hD hS ls hl; omega
        | succ fu ih69 =>
          intro f h8 hi1 hfu H locs hP hD hS ls hl
          refine (hG _ _ _).mpr ?_
          refine lv_iload_n hx hb dX10_town_69 rfl (lv_at hl 2 rfl) ?_
          refine lv_bipush (v := nI (8)) hx hb dX10_town_70 (by decide) ?_
          refine lv_icmp_ge (tgt := 111) hx hb dX10_town_72 (by decide) (fun c1 => ?_) (fun c1 => ?_)
          · have c1 := (nI_leI (by decide) (by omega)).mp c1
            refine lv_iinc (v := nI (i + 1)) (lv' := [(1, .int (nI (i + 1))), (0, .ref (b 0)), (2, .int (nI (f)))]) hx hb dX10_town_111 hl (k := 1) rfl (nI_add (i) 1) (by decide) rfl (fun ls hl => ?_)
            refine lv_goto (tgt := 59) hx hb dX10_town_114 (by decide) ?_
            rw [show 8 * i + f = 8 * (i + 1) by omega] at hP hD
            have hP : va_P (dC, dI) vwCl [((b 0), .inr (10, [.ref (b 1), .int (nI (len)), .ref (b 2), .int (nI ((se pg len + 1) / 6)), .ref (b 3), .int (nI (len - se pg len - 1)), .int (nI (6)), .int (nI ((se pg len + 1) / 6)), .int (nI (len - se pg len - 1)), .int (wk), .int (tr), .ref (b 4), .ref (b 5), .int (nd), .ref (b 6), .ref (b 7), .int (hd), .ref (b 8), .int (sd), .ref (b 9), .int (kt), .int (kw), .int (kh), .ref (b 10), .ref (b 11), .long (hz)])), ((b 1), .inl (cI, 32, .inl (fun ii => nI (pg ii)))), ((b 2), .inl (cI, 20, .inl rdx)), ((b 3), .inl (cI, 5, .inl rmx)), ((b 4), .inl (cI, 32, .inl (fun ii => nI ((rdQ pg R (8 * (i + 1))) ii)))), ((b 5), .inl (cI, 5, .inl rmx))] H := hP
            have hD : va_D A [((b 0), .inr (10, [.ref (b 1), .int (nI (len)), .ref (b 2), .int (nI ((se pg len + 1) / 6)), .ref (b 3), .int (nI (len - se pg len - 1)), .int (nI (6)), .int (nI ((se pg len + 1) / 6)), .int (nI (len - se pg len - 1)), .int (wk), .int (tr), .ref (b 4), .ref (b 5), .int (nd), .ref (b 6), .ref (b 7), .int (hd), .ref (b 8), .int (sd), .ref (b 9), .int (kt), .int (kw), .int (kh), .ref (b 10), .ref (b 11), .long (hz)])), ((b 1), .inl (cI, 32, .inl (fun ii => nI (pg ii)))), ((b 2), .inl (cI, 20, .inl rdx)), ((b 3), .inl (cI, 5, .inl rmx)), ((b 4), .inl (cI, 32, .inl (fun ii => nI ((rdQ pg R (8 * (i + 1))) ii)))), ((b 5), .inl (cI, 5, .inl rmx))] := hD
            exact (hG _ _ _).mp (ih59 (rdx) (rmx) (i + 1) e4 e5 (by omega) (by omega) _ _ hP hD hS _ (lv_sub hl [1, 0] rfl))
          · have c1 := mt (nI_leI (by decide) (by omega)).mpr c1
            refine lv_aload_n hx hb dX10_town_75 rfl (lv_at hl 0 rfl) ?_
            refine va_get (D := (dC, dI)) (ci := 10) (v := .ref (b 4)) (C := RX10) (T := TX10) (N := 26) hx hb hts (fun _ h => List.mem_cons_of_mem _ (List.mem_append_right _ (h))) hown hK.1 hP 0 rfl rfl 11 (by decide) (hts (Cond.fieldLink RX10 19 "WorstVoiceModel" "rows" "[I") (List.mem_of_getElem? (i := 9) rfl)) (fun _ h9 => h9) rfl dX10_town_76 ?_
            refine lv_bipush (v := nI (8)) hx hb dX10_town_79 (by decide) ?_
            refine lv_iload_n hx hb dX10_town_81 rfl (lv_at hl 1 rfl) ?_
            refine lv_imul hx hb dX10_town_82 ?_
            refine tp_i (z := nI (8 * i)) (pk_mul (8) (i)) ?_
            refine lv_iload_n hx hb dX10_town_83 rfl (lv_at hl 2 rfl) ?_
            refine lv_iadd hx hb dX10_town_84 ?_
            refine tp_i (z := nI (8 * i + f)) (nI_add (8 * i) (f)) ?_
            refine lv_iload_n hx hb dX10_town_85 rfl (lv_at hl 2 rfl) ?_
            refine lv_iconst (v := nI (5)) hx hb dX10_town_86 (by decide) ?_
            refine lv_icmp_ge (tgt := 103) hx hb dX10_town_87 (by decide) (fun c2 => ?_) (fun c2 => ?_)
            · have c2 := (nI_leI (by decide) (by omega)).mp c2
              refine lv_iconst (v := nI (0)) hx hb dX10_town_103 (by decide) ?_
              refine va_iast hx hb hK.1 hP hD hS 4 0 rfl rfl (vp_in_nI (by omega) (by decide)) dX10_town_104 (fun H locs hP hD hS => ?_)
              rw [nI_clamp (by omega), upd_nI] at hP hD
              have hP : va_P (dC, dI) vwCl [((b 0), .inr (10, [.ref (b 1), .int (nI (len)), .ref (b 2), .int (nI ((se pg len + 1) / 6)), .ref (b 3), .int (nI (len - se pg len - 1)), .int (nI (6)), .int (nI ((se pg len + 1) / 6)), .int (nI (len - se pg len - 1)), .int (wk), .int (tr), .ref (b 4), .ref (b 5), .int (nd), .ref (b 6), .ref (b 7), .int (hd), .ref (b 8), .int (sd), .ref (b 9), .int (kt), .int (kw), .int (kh), .ref (b 10), .ref (b 11), .long (hz)])), ((b 1), .inl (cI, 32, .inl (fun ii => nI (pg ii)))), ((b 2), .inl (cI, 20, .inl rdx)), ((b 3), .inl (cI, 5, .inl rmx)), ((b 4), .inl (cI, 32, .inl (fun ii => nI ((upN (rdQ pg R (8 * i + f)) (8 * i + f) (0)) ii)))), ((b 5), .inl (cI, 5, .inl rmx))] H := hP
              have hD : va_D A [((b 0), .inr (10, [.ref (b 1), .int (nI (len)), .ref (b 2), .int (nI ((se pg len + 1) / 6)), .ref (b 3), .int (nI (len - se pg len - 1)), .int (nI (6)), .int (nI ((se pg len + 1) / 6)), .int (nI (len - se pg len - 1)), .int (wk), .int (tr), .ref (b 4), .ref (b 5), .int (nd), .ref (b 6), .ref (b 7), .int (hd), .ref (b 8), .int (sd), .ref (b 9), .int (kt), .int (kw), .int (kh), .ref (b 10), .ref (b 11), .long (hz)])), ((b 1), .inl (cI, 32, .inl (fun ii => nI (pg ii)))), ((b 2), .inl (cI, 20, .inl rdx)), ((b 3), .inl (cI, 5, .inl rmx)), ((b 4), .inl (cI, 32, .inl (fun ii => nI ((upN (rdQ pg R (8 * i + f)) (8 * i + f) (0)) ii)))), ((b 5), .inl (cI, 5, .inl rmx))] := hD
              refine lv_iinc (v := nI (f + 1)) (lv' := [(2, .int (nI (f + 1))), (0, .ref (b 0)), (1, .int (nI (i)))]) hx hb dX10_town_105 hl (k := 2) rfl (nI_add (f) 1) (by decide) rfl (fun ls hl => ?_)
              refine lv_goto (tgt := 69) hx hb dX10_town_108 (by decide) ?_
              rw [rdQ_b (by omega) (by omega)] at hP hD
              have hP : va_P (dC, dI) vwCl [((b 0), .inr (10, [.ref (b 1), .int (nI (len)), .ref (b 2), .int (nI ((se pg len + 1) / 6)), .ref (b 3), .int (nI (len - se pg len - 1)), .int (nI (6)), .int (nI ((se pg len + 1) / 6)), .int (nI (len - se pg len - 1)), .int (wk), .int (tr), .ref (b 4), .ref (b 5), .int (nd), .ref (b 6), .ref (b 7), .int (hd), .ref (b 8), .int (sd), .ref (b 9), .int (kt), .int (kw), .int (kh), .ref (b 10), .ref (b 11), .long (hz)])), ((b 1), .inl (cI, 32, .inl (fun ii => nI (pg ii)))), ((b 2), .inl (cI, 20, .inl rdx)), ((b 3), .inl (cI, 5, .inl rmx)), ((b 4), .inl (cI, 32, .inl (fun ii => nI ((rdQ pg R (8 * i + (f + 1))) ii)))), ((b 5), .inl (cI, 5, .inl rmx))] H := hP
              have hD : va_D A [((b 0), .inr (10, [.ref (b 1), .int (nI (len)), .ref (b 2), .int (nI ((se pg len + 1) / 6)), .ref (b 3), .int (nI (len - se pg len - 1)), .int (nI (6)), .int (nI ((se pg len + 1) / 6)), .int (nI (len - se pg len - 1)), .int (wk), .int (tr), .ref (b 4), .ref (b 5), .int (nd), .ref (b 6), .ref (b 7), .int (hd), .ref (b 8), .int (sd), .ref (b 9), .int (kt), .int (kw), .int (kh), .ref (b 10), .ref (b 11), .long (hz)])), ((b 1), .inl (cI, 32, .inl (fun ii => nI (pg ii)))), ((b 2), .inl (cI, 20, .inl rdx)), ((b 3), .inl (cI, 5, .inl rmx)), ((b 4), .inl (cI, 32, .inl (fun ii => nI ((rdQ pg R (8 * i + (f + 1))) ii)))), ((b 5), .inl (cI, 5, .inl rmx))] := hD
              exact (hG _ _ _).mp (ih69 (f + 1) (by omega) (by omega) (by omega) _ _ hP hD hS _ (lv_sub hl [1, 2, 0] rfl))
            · have c2 := mt (nI_leI (by decide) (by omega)).mpr c2
              refine lv_aload_n hx hb dX10_town_90 rfl (lv_at hl 0 rfl) ?_
              refine va_get (D := (dC, dI)) (ci := 10) (v := .ref (b 2)) (C := RX10) (T := TX10) (N := 26) hx hb hts (fun _ h => List.mem_cons_of_mem _ (List.mem_append_right _ (h))) hown hK.1 hP 0 rfl rfl 2 (by decide) (hts (Cond.fieldLink RX10 13 "WorstVoiceModel" "read" "[I") (List.mem_of_getElem? (i := 10) rfl)) (fun _ h9 => h9) rfl dX10_town_91 ?_
              refine lv_iconst (v := nI (5)) hx hb dX10_town_94 (by decide) ?_
              refine lv_iload_n hx hb dX10_town_95 rfl (lv_at hl 1 rfl) ?_
              refine lv_imul hx hb dX10_town_96 ?_
              refine tp_i (z := nI (5 * i)) (pk_mul (5) (i)) ?_
              refine lv_iload_n hx hb dX10_town_97 rfl (lv_at hl 2 rfl) ?_
              refine lv_iadd hx hb dX10_town_98 ?_
              refine tp_i (z := nI (5 * i + f)) (nI_add (5 * i) (f)) ?_
              refine va_iald hx hb hK.1 hP 2 0 rfl rfl (vp_in_nI (by omega) (by decide)) dX10_town_99 ?_
              refine tp_i (z := nI (rdv pg (6 * i + f))) ((ld_n rdx (by omega)).trans (rd_at hwl e4 (by omega) (by omega))) ?_
              refine lv_goto (tgt := 104) hx hb dX10_town_100 (by decide) ?_
              refine va_iast hx hb hK.1 hP hD hS 4 0 rfl rfl (vp_in_nI (by omega) (by decide)) dX10_town_104 (fun H locs hP hD hS => ?_)
              rw [nI_clamp (by omega), upd_nI] at hP hD
              have hP : va_P (dC, dI) vwCl [((b 0), .inr (10, [.ref (b 1), .int (nI (len)), .ref (b 2), .int (nI ((se pg len + 1) / 6)), .ref (b 3), .int (nI (len - se pg len - 1)), .int (nI (6)), .int (nI ((se pg len + 1) / 6)), .int (nI (len - se pg len - 1)), .int (wk), .int (tr), .ref (b 4), .ref (b 5), .int (nd), .ref (b 6), .ref (b 7), .int (hd), .ref (b 8), .int (sd), .ref (b 9), .int (kt), .int (kw), .int (kh), .ref (b 10), .ref (b 11), .long (hz)])), ((b 1), .inl (cI, 32, .inl (fun ii => nI (pg ii)))), ((b 2), .inl (cI, 20, .inl rdx)), ((b 3), .inl (cI, 5, .inl rmx)), ((b 4), .inl (cI, 32, .inl (fun ii => nI ((upN (rdQ pg R (8 * i + f)) (8 * i + f) (rdv pg (6 * i + f))) ii)))), ((b 5), .inl (cI, 5, .inl rmx))] H := hP
              have hD : va_D A [((b 0), .inr (10, [.ref (b 1), .int (nI (len)), .ref (b 2), .int (nI ((se pg len + 1) / 6)), .ref (b 3), .int (nI (len - se pg len - 1)), .int (nI (6)), .int (nI ((se pg len + 1) / 6)), .int (nI (len - se pg len - 1)), .int (wk), .int (tr), .ref (b 4), .ref (b 5), .int (nd), .ref (b 6), .ref (b 7), .int (hd), .ref (b 8), .int (sd), .ref (b 9), .int (kt), .int (kw), .int (kh), .ref (b 10), .ref (b 11), .long (hz)])), ((b 1), .inl (cI, 32, .inl (fun ii => nI (pg ii)))), ((b 2), .inl (cI, 20, .inl rdx)), ((b 3), .inl (cI, 5, .inl rmx)), ((b 4), .inl (cI, 32, .inl (fun ii => nI ((upN (rdQ pg R (8 * i + f)) (8 * i + f) (rdv pg (6 * i + f))) ii)))), ((b 5), .inl (cI, 5, .inl rmx))] := hD
              refine lv_iinc (v := nI (f + 1)) (lv' := [(2, .int (nI (f + 1))), (0, .ref (b 0)), (1, .int (nI (i)))]) hx hb dX10_town_105 hl (k := 2) rfl (nI_add (f) 1) (by decide) rfl (fun ls hl => ?_)
              refine lv_goto (tgt := 69) hx hb dX10_town_108 (by decide) ?_
              rw [rdQ_a (by omega)] at hP hD
              have hP : va_P (dC, dI) vwCl [((b 0), .inr (10, [.ref (b 1), .int (nI (len)), .ref (b 2), .int (nI ((se pg len + 1) / 6)), .ref (b 3), .int (nI (len - se pg len - 1)), .int (nI (6)), .int (nI ((se pg len + 1) / 6)), .int (nI (len - se pg len - 1)), .int (wk), .int (tr), .ref (b 4), .ref (b 5), .int (nd), .ref (b 6), .ref (b 7), .int (hd), .ref (b 8), .int (sd), .ref (b 9), .int (kt), .int (kw), .int (kh), .ref (b 10), .ref (b 11), .long (hz)])), ((b 1), .inl (cI, 32, .inl (fun ii => nI (pg ii)))), ((b 2), .inl (cI, 20, .inl rdx)), ((b 3), .inl (cI, 5, .inl rmx)), ((b 4), .inl (cI, 32, .inl (fun ii => nI ((rdQ pg R (8 * i + (f + 1))) ii)))), ((b 5), .inl (cI, 5, .inl rmx))] H := hP
              have hD : va_D A [((b 0), .inr (10, [.ref (b 1), .int (nI (len)), .ref (b 2), .int (nI ((se pg len + 1) / 6)), .ref (b 3), .int (nI (len - se pg len - 1)), .int (nI (6)), .int (nI ((se pg len + 1) / 6)), .int (nI (len - se pg len - 1)), .int (wk), .int (tr), .ref (b 4), .ref (b 5), .int (nd), .ref (b 6), .ref (b 7), .int (hd), .ref (b 8), .int (sd), .ref (b 9), .int (kt), .int (kw), .int (kh), .ref (b 10), .ref (b 11), .long (hz)])), ((b 1), .inl (cI, 32, .inl (fun ii => nI (pg ii)))), ((b 2), .inl (cI, 20, .inl rdx)), ((b 3), .inl (cI, 5, .inl rmx)), ((b 4), .inl (cI, 32, .inl (fun ii => nI ((rdQ pg R (8 * i + (f + 1))) ii)))), ((b 5), .inl (cI, 5, .inl rmx))] := hD
              exact (hG _ _ _).mp (ih69 (f + 1) (by omega) (by omega) (by omega) _ _ hP hD hS _ (lv_sub hl [1, 2, 0] rfl))
      refine (hG _ _ _).mpr ?_
      refine lv_iload_n hx hb dX10_town_59 rfl (lv_at hl 1 rfl) ?_
      refine lv_aload_n hx hb dX10_town_60 rfl (lv_at hl 0 rfl) ?_
      refine va_get (D := (dC, dI)) (ci := 10) (v := .int (nI ((se pg len + 1) / 6))) (C := RX10) (T := TX10) (N := 26) hx hb hts (fun _ h => List.mem_cons_of_mem _ (List.mem_append_right _ (h))) hown hK.1 hP 0 rfl rfl 7 (by decide) (hts (Cond.fieldLink RX10 81 "WorstVoiceModel" "singers" "I") (List.mem_of_getElem? (i := 5) rfl)) (fun _ h9 => h9) rfl dX10_town_61 ?_
      refine lv_icmp_ge (tgt := 117) hx hb dX10_town_64 (by decide) (fun c3 => ?_) (fun c3 => ?_)
      · have c3 := (nI_leI (by omega) (by omega)).mp c3
        rw [show i = (se pg len + 1) / 6 by omega, rdQ_R] at hP hD
        have hP : va_P (dC, dI) vwCl [((b 0), .inr (10, [.ref (b 1), .int (nI (len)), .ref (b 2), .int (nI ((se pg len + 1) / 6)), .ref (b 3), .int (nI (len - se pg len - 1)), .int (nI (6)), .int (nI ((se pg len + 1) / 6)), .int (nI (len - se pg len - 1)), .int (wk), .int (tr), .ref (b 4), .ref (b 5), .int (nd), .ref (b 6), .ref (b 7), .int (hd), .ref (b 8), .int (sd), .ref (b 9), .int (kt), .int (kw), .int (kh), .ref (b 10), .ref (b 11), .long (hz)])), ((b 1), .inl (cI, 32, .inl (fun ii => nI (pg ii)))), ((b 2), .inl (cI, 20, .inl rdx)), ((b 3), .inl (cI, 5, .inl rmx)), ((b 4), .inl (cI, 32, .inl (fun ii => nI ((rdR pg R ((se pg len + 1) / 6)) ii)))), ((b 5), .inl (cI, 5, .inl rmx))] H := hP
        have hD : va_D A [((b 0), .inr (10, [.ref (b 1), .int (nI (len)), .ref (b 2), .int (nI ((se pg len + 1) / 6)), .ref (b 3), .int (nI (len - se pg len - 1)), .int (nI (6)), .int (nI ((se pg len + 1) / 6)), .int (nI (len - se pg len - 1)), .int (wk), .int (tr), .ref (b 4), .ref (b 5), .int (nd), .ref (b 6), .ref (b 7), .int (hd), .ref (b 8), .int (sd), .ref (b 9), .int (kt), .int (kw), .int (kh), .ref (b 10), .ref (b 11), .long (hz)])), ((b 1), .inl (cI, 32, .inl (fun ii => nI (pg ii)))), ((b 2), .inl (cI, 20, .inl rdx)), ((b 3), .inl (cI, 5, .inl rmx)), ((b 4), .inl (cI, 32, .inl (fun ii => nI ((rdR pg R ((se pg len + 1) / 6)) ii)))), ((b 5), .inl (cI, 5, .inl rmx))] := hD
        refine lv_aload_n hx hb dX10_town_117 rfl (lv_at hl 0 rfl) ?_
        refine lv_iconst (v := nI (0)) hx hb dX10_town_118 (by decide) ?_
        refine va_put (D := (dC, dI)) (ci := 10) (v := .int (nI (0))) (ty := .int) (C := RX10) (T := TX10) (N := 26) hx hb hts (fun _ h => List.mem_cons_of_mem _ (List.mem_append_right _ (h))) tyX10 tyX10_ok nmX10 hown hK.1 hP hD hS 0 rfl rfl 9 (by decide) (hts (Cond.fieldLink RX10 91 "WorstVoiceModel" "weeks" "I") (List.mem_of_getElem? (i := 11) rfl)) (fun _ h9 => h9) rfl (by decide +kernel) rfl rfl (Nat.le_of_ble_eq_true rfl) dX10_town_119 (fun H locs hP hD hS => ?_)
        have hP : va_P (dC, dI) vwCl [((b 0), .inr (10, [.ref (b 1), .int (nI (len)), .ref (b 2), .int (nI ((se pg len + 1) / 6)), .ref (b 3), .int (nI (len - se pg len - 1)), .int (nI (6)), .int (nI ((se pg len + 1) / 6)), .int (nI (len - se pg len - 1)), .int (nI (0)), .int (tr), .ref (b 4), .ref (b 5), .int (nd), .ref (b 6), .ref (b 7), .int (hd), .ref (b 8), .int (sd), .ref (b 9), .int (kt), .int (kw), .int (kh), .ref (b 10), .ref (b 11), .long (hz)])), ((b 1), .inl (cI, 32, .inl (fun ii => nI (pg ii)))), ((b 2), .inl (cI, 20, .inl rdx)), ((b 3), .inl (cI, 5, .inl rmx)), ((b 4), .inl (cI, 32, .inl (fun ii => nI ((rdR pg R ((se pg len + 1) / 6)) ii)))), ((b 5), .inl (cI, 5, .inl rmx))] H := hP
        have hD : va_D A [((b 0), .inr (10, [.ref (b 1), .int (nI (len)), .ref (b 2), .int (nI ((se pg len + 1) / 6)), .ref (b 3), .int (nI (len - se pg len - 1)), .int (nI (6)), .int (nI ((se pg len + 1) / 6)), .int (nI (len - se pg len - 1)), .int (nI (0)), .int (tr), .ref (b 4), .ref (b 5), .int (nd), .ref (b 6), .ref (b 7), .int (hd), .ref (b 8), .int (sd), .ref (b 9), .int (kt), .int (kw), .int (kh), .ref (b 10), .ref (b 11), .long (hz)])), ((b 1), .inl (cI, 32, .inl (fun ii => nI (pg ii)))), ((b 2), .inl (cI, 20, .inl rdx)), ((b 3), .inl (cI, 5, .inl rmx)), ((b 4), .inl (cI, 32, .inl (fun ii => nI ((rdR pg R ((se pg len + 1) / 6)) ii)))), ((b 5), .inl (cI, 5, .inl rmx))] := hD
        refine lv_aload_n hx hb dX10_town_122 rfl (lv_at hl 0 rfl) ?_
        refine lv_iconst (v := nI (0)) hx hb dX10_town_123 (by decide) ?_
        refine va_put (D := (dC, dI)) (ci := 10) (v := .int (nI (0))) (ty := .int) (C := RX10) (T := TX10) (N := 26) hx hb hts (fun _ h => List.mem_cons_of_mem _ (List.mem_append_right _ (h))) tyX10 tyX10_ok nmX10 hown hK.1 hP hD hS 0 rfl rfl 16 (by decide) (hts (Cond.fieldLink RX10 94 "WorstVoiceModel" "heardMany" "I") (List.mem_of_getElem? (i := 12) rfl)) (fun _ h9 => h9) rfl (by decide +kernel) rfl rfl (Nat.le_of_ble_eq_true rfl) dX10_town_124 (fun H locs hP hD hS => ?_)
        have hP : va_P (dC, dI) vwCl [((b 0), .inr (10, [.ref (b 1), .int (nI (len)), .ref (b 2), .int (nI ((se pg len + 1) / 6)), .ref (b 3), .int (nI (len - se pg len - 1)), .int (nI (6)), .int (nI ((se pg len + 1) / 6)), .int (nI (len - se pg len - 1)), .int (nI (0)), .int (tr), .ref (b 4), .ref (b 5), .int (nd), .ref (b 6), .ref (b 7), .int (nI (0)), .ref (b 8), .int (sd), .ref (b 9), .int (kt), .int (kw), .int (kh), .ref (b 10), .ref (b 11), .long (hz)])), ((b 1), .inl (cI, 32, .inl (fun ii => nI (pg ii)))), ((b 2), .inl (cI, 20, .inl rdx)), ((b 3), .inl (cI, 5, .inl rmx)), ((b 4), .inl (cI, 32, .inl (fun ii => nI ((rdR pg R ((se pg len + 1) / 6)) ii)))), ((b 5), .inl (cI, 5, .inl rmx))] H := hP
        have hD : va_D A [((b 0), .inr (10, [.ref (b 1), .int (nI (len)), .ref (b 2), .int (nI ((se pg len + 1) / 6)), .ref (b 3), .int (nI (len - se pg len - 1)), .int (nI (6)), .int (nI ((se pg len + 1) / 6)), .int (nI (len - se pg len - 1)), .int (nI (0)), .int (tr), .ref (b 4), .ref (b 5), .int (nd), .ref (b 6), .ref (b 7), .int (nI (0)), .ref (b 8), .int (sd), .ref (b 9), .int (kt), .int (kw), .int (kh), .ref (b 10), .ref (b 11), .long (hz)])), ((b 1), .inl (cI, 32, .inl (fun ii => nI (pg ii)))), ((b 2), .inl (cI, 20, .inl rdx)), ((b 3), .inl (cI, 5, .inl rmx)), ((b 4), .inl (cI, 32, .inl (fun ii => nI ((rdR pg R ((se pg len + 1) / 6)) ii)))), ((b 5), .inl (cI, 5, .inl rmx))] := hD
        refine lv_aload_n hx hb dX10_town_127 rfl (lv_at hl 0 rfl) ?_
        refine lv_dup hx hb dX10_town_128 rfl ?_
        refine va_get (D := (dC, dI)) (ci := 10) (v := .int (tr)) (C := RX10) (T := TX10) (N := 26) hx hb hts (fun _ h => List.mem_cons_of_mem _ (List.mem_append_right _ (h))) hown hK.1 hP 0 rfl rfl 10 (by decide) (hts (Cond.fieldLink RX10 97 "WorstVoiceModel" "townsRead" "I") (List.mem_of_getElem? (i := 13) rfl)) (fun _ h9 => h9) rfl dX10_town_129 ?_
        refine lv_iconst (v := nI (1)) hx hb dX10_town_132 (by decide) ?_
        refine lv_iadd hx hb dX10_town_133 ?_
        refine va_put (D := (dC, dI)) (ci := 10) (v := .int (tr + (nI (1)))) (ty := .int) (C := RX10) (T := TX10) (N := 26) hx hb hts (fun _ h => List.mem_cons_of_mem _ (List.mem_append_right _ (h))) tyX10 tyX10_ok nmX10 hown hK.1 hP hD hS 0 rfl rfl 10 (by decide) (hts (Cond.fieldLink RX10 97 "WorstVoiceModel" "townsRead" "I") (List.mem_of_getElem? (i := 13) rfl)) (fun _ h9 => h9) rfl (by decide +kernel) rfl rfl (Nat.le_of_ble_eq_true rfl) dX10_town_134 (fun H locs hP hD hS => ?_)
        have hP : va_P (dC, dI) vwCl [((b 0), .inr (10, [.ref (b 1), .int (nI (len)), .ref (b 2), .int (nI ((se pg len + 1) / 6)), .ref (b 3), .int (nI (len - se pg len - 1)), .int (nI (6)), .int (nI ((se pg len + 1) / 6)), .int (nI (len - se pg len - 1)), .int (nI (0)), .int (tr + (nI (1))), .ref (b 4), .ref (b 5), .int (nd), .ref (b 6), .ref (b 7), .int (nI (0)), .ref (b 8), .int (sd), .ref (b 9), .int (kt), .int (kw), .int (kh), .ref (b 10), .ref (b 11), .long (hz)])), ((b 1), .inl (cI, 32, .inl (fun ii => nI (pg ii)))), ((b 2), .inl (cI, 20, .inl rdx)), ((b 3), .inl (cI, 5, .inl rmx)), ((b 4), .inl (cI, 32, .inl (fun ii => nI ((rdR pg R ((se pg len + 1) / 6)) ii)))), ((b 5), .inl (cI, 5, .inl rmx))] H := hP
        have hD : va_D A [((b 0), .inr (10, [.ref (b 1), .int (nI (len)), .ref (b 2), .int (nI ((se pg len + 1) / 6)), .ref (b 3), .int (nI (len - se pg len - 1)), .int (nI (6)), .int (nI ((se pg len + 1) / 6)), .int (nI (len - se pg len - 1)), .int (nI (0)), .int (tr + (nI (1))), .ref (b 4), .ref (b 5), .int (nd), .ref (b 6), .ref (b 7), .int (nI (0)), .ref (b 8), .int (sd), .ref (b 9), .int (kt), .int (kw), .int (kh), .ref (b 10), .ref (b 11), .long (hz)])), ((b 1), .inl (cI, 32, .inl (fun ii => nI (pg ii)))), ((b 2), .inl (cI, 20, .inl rdx)), ((b 3), .inl (cI, 5, .inl rmx)), ((b 4), .inl (cI, 32, .inl (fun ii => nI ((rdR pg R ((se pg len + 1) / 6)) ii)))), ((b 5), .inl (cI, 5, .inl rmx))] := hD
        refine lv_aload_n hx hb dX10_town_137 rfl (lv_at hl 0 rfl) ?_
        refine lv_iconst (v := nI (0)) hx hb dX10_town_138 (by decide) ?_
        refine va_put (D := (dC, dI)) (ci := 10) (v := .int (nI (0))) (ty := .int) (C := RX10) (T := TX10) (N := 26) hx hb hts (fun _ h => List.mem_cons_of_mem _ (List.mem_append_right _ (h))) tyX10 tyX10_ok nmX10 hown hK.1 hP hD hS 0 rfl rfl 1 (by decide) (hts (Cond.fieldLink RX10 53 "WorstVoiceModel" "pageMany" "I") (List.mem_of_getElem? (i := 1) rfl)) (fun _ h9 => h9) rfl (by decide +kernel) rfl rfl (Nat.le_of_ble_eq_true rfl) dX10_town_139 (fun H locs hP hD hS => ?_)
        have hP : va_P (dC, dI) vwCl [((b 0), .inr (10, [.ref (b 1), .int (nI (0)), .ref (b 2), .int (nI ((se pg len + 1) / 6)), .ref (b 3), .int (nI (len - se pg len - 1)), .int (nI (6)), .int (nI ((se pg len + 1) / 6)), .int (nI (len - se pg len - 1)), .int (nI (0)), .int (tr + (nI (1))), .ref (b 4), .ref (b 5), .int (nd), .ref (b 6), .ref (b 7), .int (nI (0)), .ref (b 8), .int (sd), .ref (b 9), .int (kt), .int (kw), .int (kh), .ref (b 10), .ref (b 11), .long (hz)])), ((b 1), .inl (cI, 32, .inl (fun ii => nI (pg ii)))), ((b 2), .inl (cI, 20, .inl rdx)), ((b 3), .inl (cI, 5, .inl rmx)), ((b 4), .inl (cI, 32, .inl (fun ii => nI ((rdR pg R ((se pg len + 1) / 6)) ii)))), ((b 5), .inl (cI, 5, .inl rmx))] H := hP
        have hD : va_D A [((b 0), .inr (10, [.ref (b 1), .int (nI (0)), .ref (b 2), .int (nI ((se pg len + 1) / 6)), .ref (b 3), .int (nI (len - se pg len - 1)), .int (nI (6)), .int (nI ((se pg len + 1) / 6)), .int (nI (len - se pg len - 1)), .int (nI (0)), .int (tr + (nI (1))), .ref (b 4), .ref (b 5), .int (nd), .ref (b 6), .ref (b 7), .int (nI (0)), .ref (b 8), .int (sd), .ref (b 9), .int (kt), .int (kw), .int (kh), .ref (b 10), .ref (b 11), .long (hz)])), ((b 1), .inl (cI, 32, .inl (fun ii => nI (pg ii)))), ((b 2), .inl (cI, 20, .inl rdx)), ((b 3), .inl (cI, 5, .inl rmx)), ((b 4), .inl (cI, 32, .inl (fun ii => nI ((rdR pg R ((se pg len + 1) / 6)) ii)))), ((b 5), .inl (cI, 5, .inl rmx))] := hD
        refine lv_aload_n hx hb dX10_town_142 rfl (lv_at hl 0 rfl) ?_
        refine va_get (D := (dC, dI)) (ci := 10) (v := .int (nI ((se pg len + 1) / 6))) (C := RX10) (T := TX10) (N := 26) hx hb hts (fun _ h => List.mem_cons_of_mem _ (List.mem_append_right _ (h))) hown hK.1 hP 0 rfl rfl 7 (by decide) (hts (Cond.fieldLink RX10 81 "WorstVoiceModel" "singers" "I") (List.mem_of_getElem? (i := 5) rfl)) (fun _ h9 => h9) rfl dX10_town_143 ?_
        exact W.iret hx hb hr (fun t ht hW => ⟨⟨_, (rdx, rmx), rfl, ⟨rfl, rm_at hwl e5⟩, by rw [ht]; exact hP, hD.as rfl⟩, hS.F ht⟩) hS.2.2 dX10_town_146
      · have c3 := mt (nI_leI (by omega) (by omega)).mpr c3
        refine lv_iconst (v := nI (0)) hx hb dX10_town_67 (by decide) ?_
        refine lv_istore_n (lv' := [(2, .int (nI (0))), (0, .ref (b 0)), (1, .int (nI (i)))]) hx hb dX10_town_68 rfl hl (by decide) rfl (fun ls hl => ?_)
        have hP : va_P (dC, dI) vwCl [((b 0), .inr (10, [.ref (b 1), .int (nI (len)), .ref (b 2), .int (nI ((se pg len + 1) / 6)), .ref (b 3), .int (nI (len - se pg len - 1)), .int (nI (6)), .int (nI ((se pg len + 1) / 6)), .int (nI (len - se pg len - 1)), .int (wk), .int (tr), .ref (b 4), .ref (b 5), .int (nd), .ref (b 6), .ref (b 7), .int (hd), .ref (b 8), .int (sd), .ref (b 9), .int (kt), .int (kw), .int (kh), .ref (b 10), .ref (b 11), .long (hz)])), ((b 1), .inl (cI, 32, .inl (fun ii => nI (pg ii)))), ((b 2), .inl (cI, 20, .inl rdx)), ((b 3), .inl (cI, 5, .inl rmx)), ((b 4), .inl (cI, 32, .inl (fun ii => nI ((rdQ pg R (8 * i + 0)) ii)))), ((b 5), .inl (cI, 5, .inl rmx))] H := hP
        have hD : va_D A [((b 0), .inr (10, [.ref (b 1), .int (nI (len)), .ref (b 2), .int (nI ((se pg len + 1) / 6)), .ref (b 3), .int (nI (len - se pg len - 1)), .int (nI (6)), .int (nI ((se pg len + 1) / 6)), .int (nI (len - se pg len - 1)), .int (wk), .int (tr), .ref (b 4), .ref (b 5), .int (nd), .ref (b 6), .ref (b 7), .int (hd), .ref (b 8), .int (sd), .ref (b 9), .int (kt), .int (kw), .int (kh), .ref (b 10), .ref (b 11), .long (hz)])), ((b 1), .inl (cI, 32, .inl (fun ii => nI (pg ii)))), ((b 2), .inl (cI, 20, .inl rdx)), ((b 3), .inl (cI, 5, .inl rmx)), ((b 4), .inl (cI, 32, .inl (fun ii => nI ((rdQ pg R (8 * i + 0)) ii)))), ((b 5), .inl (cI, 5, .inl rmx))] := hD
        exact (hG _ _ _).mp (L69 (8 + 1) (0) (by omega) (by omega) (by omega) _ _ hP hD hS _ (lv_sub hl [1, 2, 0] rfl))
  refine (hG _ _ _).mpr ?_
  refine lv_aload_n hx hb dX10_town_0 rfl (lv_at hl 0 rfl) ?_
  refine mu_calli (wr := [((b 4), .inl (cI, 32, .inl (fun ii => nI (R ii)))), ((b 5), .inl (cI, 5, .inl mm))]) (wn := (fun u4 => [((b 0), .inr (10, [.ref (b 1), .int (nI (len)), .ref (b 2), .int (u4.2.2.2.1), .ref (b 3), .int (u4.2.2.2.2), .int (u4.2.2.1), .int (nI (n)), .int (nI (w)), .int (wk), .int (tr), .ref (b 4), .ref (b 5), .int (nd), .ref (b 6), .ref (b 7), .int (hd), .ref (b 8), .int (sd), .ref (b 9), .int (kt), .int (kw), .int (kh), .ref (b 10), .ref (b 11), .long (hz)])), ((b 1), .inl (cI, 32, .inl (fun ii => nI (pg ii)))), ((b 2), .inl (cI, 20, .inl u4.1)), ((b 3), .inl (cI, 5, .inl u4.2.1)), ((b 4), .inl (cI, 32, .inl (fun ii => nI (R ii)))), ((b 5), .inl (cI, 5, .inl mm))])) (va_runV (As := []) (rest := []) ⟨hx, hb, hml, hown, hts⟩ (c_M_faultOf l dC dI cI _ b len r_s r_w st n w wk tr nd hd sd kt kw kh hz pg rd rm hlen hpc) (cwV 0 hts gX10_town_X10_faultOf rfl rfl rfl (by decide +kernel) ⟨Nat.le_of_ble_eq_true rfl, Nat.le_of_ble_eq_true rfl⟩) (mu_pv hK hP hD [0, 1, 2, 3] (by decide) rfl rfl (ci := 10) (q0 := 0) (C := RX10) (T := TX10) (N := 26) rfl rfl) rfl rfl hl.1 rfl (lv_room (Nat.le_of_ble_eq_true rfl)) dX10_town_1 ⟨Nat.zero_le _, Nat.zero_le _⟩) hS hA hP hD [0, 1, 2, 3] [4, 5] [2, 3, 4, 5, 0, 1] rfl rfl (by decide) (by decide) (by decide) (fun _ => rfl) (fun _ => rfl) (fun r5 u4 H locs hr5 hP hD hS => ?_)
  obtain ⟨rfl, hfo⟩ := hr5
  have hfl := fw_le pg len
  have hP : va_P (dC, dI) vwCl [((b 0), .inr (10, [.ref (b 1), .int (nI (len)), .ref (b 2), .int (u4.2.2.2.1), .ref (b 3), .int (u4.2.2.2.2), .int (u4.2.2.1), .int (nI (n)), .int (nI (w)), .int (wk), .int (tr), .ref (b 4), .ref (b 5), .int (nd), .ref (b 6), .ref (b 7), .int (hd), .ref (b 8), .int (sd), .ref (b 9), .int (kt), .int (kw), .int (kh), .ref (b 10), .ref (b 11), .long (hz)])), ((b 1), .inl (cI, 32, .inl (fun ii => nI (pg ii)))), ((b 2), .inl (cI, 20, .inl u4.1)), ((b 3), .inl (cI, 5, .inl u4.2.1)), ((b 4), .inl (cI, 32, .inl (fun ii => nI (R ii)))), ((b 5), .inl (cI, 5, .inl mm))] H := hP
  have hD : va_D A [((b 0), .inr (10, [.ref (b 1), .int (nI (len)), .ref (b 2), .int (u4.2.2.2.1), .ref (b 3), .int (u4.2.2.2.2), .int (u4.2.2.1), .int (nI (n)), .int (nI (w)), .int (wk), .int (tr), .ref (b 4), .ref (b 5), .int (nd), .ref (b 6), .ref (b 7), .int (hd), .ref (b 8), .int (sd), .ref (b 9), .int (kt), .int (kw), .int (kh), .ref (b 10), .ref (b 11), .long (hz)])), ((b 1), .inl (cI, 32, .inl (fun ii => nI (pg ii)))), ((b 2), .inl (cI, 20, .inl u4.1)), ((b 3), .inl (cI, 5, .inl u4.2.1)), ((b 4), .inl (cI, 32, .inl (fun ii => nI (R ii)))), ((b 5), .inl (cI, 5, .inl mm))] := hD
  refine lv_aload_n hx hb dX10_town_4 rfl (lv_at hl 0 rfl) ?_
  refine va_get (D := (dC, dI)) (ci := 10) (v := .int (nI (len))) (C := RX10) (T := TX10) (N := 26) hx hb hts (fun _ h => List.mem_cons_of_mem _ (List.mem_append_right _ (h))) hown hK.1 hP 0 rfl rfl 1 (by decide) (hts (Cond.fieldLink RX10 53 "WorstVoiceModel" "pageMany" "I") (List.mem_of_getElem? (i := 1) rfl)) (fun _ h9 => h9) rfl dX10_town_5 ?_
  refine lv_icmp_lt (tgt := 27) hx hb dX10_town_8 (by decide) (fun c6 => ?_) (fun c6 => ?_)
  · have c6 := (nI_ltI (by omega) (by omega)).mp c6
    exfalso; omega
  have c6 := mt (nI_ltI (by omega) (by omega)).mpr c6
  obtain ⟨e1, e2, e3, e4, e5⟩ := hfo (by omega)
  rw [e1, e2, e3] at hP hD
  have hT7 := sT_lt pg len
  have hSl2 : sS pg len ≤ 32 := by unfold sS; have := se_le pg len; split <;> omega
  have hWl2 : sW pg len ≤ 32 := by unfold sW; split <;> omega
  have hP : va_P (dC, dI) vwCl [((b 0), .inr (10, [.ref (b 1), .int (nI (len)), .ref (b 2), .int (nI (sS pg len)), .ref (b 3), .int (nI (sW pg len)), .int (nI (sT pg len)), .int (nI (n)), .int (nI (w)), .int (wk), .int (tr), .ref (b 4), .ref (b 5), .int (nd), .ref (b 6), .ref (b 7), .int (hd), .ref (b 8), .int (sd), .ref (b 9), .int (kt), .int (kw), .int (kh), .ref (b 10), .ref (b 11), .long (hz)])), ((b 1), .inl (cI, 32, .inl (fun ii => nI (pg ii)))), ((b 2), .inl (cI, 20, .inl u4.1)), ((b 3), .inl (cI, 5, .inl u4.2.1)), ((b 4), .inl (cI, 32, .inl (fun ii => nI (R ii)))), ((b 5), .inl (cI, 5, .inl mm))] H := hP
  have hD : va_D A [((b 0), .inr (10, [.ref (b 1), .int (nI (len)), .ref (b 2), .int (nI (sS pg len)), .ref (b 3), .int (nI (sW pg len)), .int (nI (sT pg len)), .int (nI (n)), .int (nI (w)), .int (wk), .int (tr), .ref (b 4), .ref (b 5), .int (nd), .ref (b 6), .ref (b 7), .int (hd), .ref (b 8), .int (sd), .ref (b 9), .int (kt), .int (kw), .int (kh), .ref (b 10), .ref (b 11), .long (hz)])), ((b 1), .inl (cI, 32, .inl (fun ii => nI (pg ii)))), ((b 2), .inl (cI, 20, .inl u4.1)), ((b 3), .inl (cI, 5, .inl u4.2.1)), ((b 4), .inl (cI, 32, .inl (fun ii => nI (R ii)))), ((b 5), .inl (cI, 5, .inl mm))] := hD
  rw [hT6.1, hT6.2.1, hT6.2.2] at hP hD
  have hP : va_P (dC, dI) vwCl [((b 0), .inr (10, [.ref (b 1), .int (nI (len)), .ref (b 2), .int (nI ((se pg len + 1) / 6)), .ref (b 3), .int (nI (len - se pg len - 1)), .int (nI (6)), .int (nI (n)), .int (nI (w)), .int (wk), .int (tr), .ref (b 4), .ref (b 5), .int (nd), .ref (b 6), .ref (b 7), .int (hd), .ref (b 8), .int (sd), .ref (b 9), .int (kt), .int (kw), .int (kh), .ref (b 10), .ref (b 11), .long (hz)])), ((b 1), .inl (cI, 32, .inl (fun ii => nI (pg ii)))), ((b 2), .inl (cI, 20, .inl u4.1)), ((b 3), .inl (cI, 5, .inl u4.2.1)), ((b 4), .inl (cI, 32, .inl (fun ii => nI (R ii)))), ((b 5), .inl (cI, 5, .inl mm))] H := hP
  have hD : va_D A [((b 0), .inr (10, [.ref (b 1), .int (nI (len)), .ref (b 2), .int (nI ((se pg len + 1) / 6)), .ref (b 3), .int (nI (len - se pg len - 1)), .int (nI (6)), .int (nI (n)), .int (nI (w)), .int (wk), .int (tr), .ref (b 4), .ref (b 5), .int (nd), .ref (b 6), .ref (b 7), .int (hd), .ref (b 8), .int (sd), .ref (b 9), .int (kt), .int (kw), .int (kh), .ref (b 10), .ref (b 11), .long (hz)])), ((b 1), .inl (cI, 32, .inl (fun ii => nI (pg ii)))), ((b 2), .inl (cI, 20, .inl u4.1)), ((b 3), .inl (cI, 5, .inl u4.2.1)), ((b 4), .inl (cI, 32, .inl (fun ii => nI (R ii)))), ((b 5), .inl (cI, 5, .inl mm))] := hD
  refine lv_aload_n hx hb dX10_town_11 rfl (lv_at hl 0 rfl) ?_
  refine va_get (D := (dC, dI)) (ci := 10) (v := .int (nI (6))) (C := RX10) (T := TX10) (N := 26) hx hb hts (fun _ h => List.mem_cons_of_mem _ (List.mem_append_right _ (h))) hown hK.1 hP 0 rfl rfl 6 (by decide) (hts (Cond.fieldLink RX10 56 "WorstVoiceModel" "state" "I") (List.mem_of_getElem? (i := 2) rfl)) (fun _ h9 => h9) rfl dX10_town_12 ?_
  refine lv_bipush (v := nI (6)) hx hb dX10_town_15 (by decide) ?_
  refine lv_icmp_ne (tgt := 27) hx hb dX10_town_17 (by decide) (fun c => absurd (by decide) c) (fun _ => ?_)
  refine lv_aload_n hx hb dX10_town_20 rfl (lv_at hl 0 rfl) ?_
  refine va_get (D := (dC, dI)) (ci := 10) (v := .int (nI (len - se pg len - 1))) (C := RX10) (T := TX10) (N := 26) hx hb hts (fun _ h => List.mem_cons_of_mem _ (List.mem_append_right _ (h))) hown hK.1 hP 0 rfl rfl 5 (by decide) (hts (Cond.fieldLink RX10 68 "WorstVoiceModel" "readWidows" "I") (List.mem_of_getElem? (i := 3) rfl)) (fun _ h9 => h9) rfl dX10_town_21 ?_
  refine lv_if_ne (tgt := 30) hx hb dX10_town_24 (by decide) (fun c7 => ?_) (fun c7 => ?_)
  · have c7 := mt (z_eq (by omega)).mpr c7
    refine lv_aload_n hx hb dX10_town_30 rfl (lv_at hl 0 rfl) ?_
    refine lv_aload_n hx hb dX10_town_31 rfl (lv_at hl 0 rfl) ?_
    refine va_get (D := (dC, dI)) (ci := 10) (v := .int (nI ((se pg len + 1) / 6))) (C := RX10) (T := TX10) (N := 26) hx hb hts (fun _ h => List.mem_cons_of_mem _ (List.mem_append_right _ (h))) hown hK.1 hP 0 rfl rfl 3 (by decide) (hts (Cond.fieldLink RX10 59 "WorstVoiceModel" "readSingers" "I") (List.mem_of_getElem? (i := 4) rfl)) (fun _ h9 => h9) rfl dX10_town_32 ?_
    refine va_put (D := (dC, dI)) (ci := 10) (v := .int (nI ((se pg len + 1) / 6))) (ty := .int) (C := RX10) (T := TX10) (N := 26) hx hb hts (fun _ h => List.mem_cons_of_mem _ (List.mem_append_right _ (h))) tyX10 tyX10_ok nmX10 hown hK.1 hP hD hS 0 rfl rfl 7 (by decide) (hts (Cond.fieldLink RX10 81 "WorstVoiceModel" "singers" "I") (List.mem_of_getElem? (i := 5) rfl)) (fun _ h9 => h9) rfl (by decide +kernel) rfl rfl (Nat.le_of_ble_eq_true rfl) dX10_town_35 (fun H locs hP hD hS => ?_)
    have hP : va_P (dC, dI) vwCl [((b 0), .inr (10, [.ref (b 1), .int (nI (len)), .ref (b 2), .int (nI ((se pg len + 1) / 6)), .ref (b 3), .int (nI (len - se pg len - 1)), .int (nI (6)), .int (nI ((se pg len + 1) / 6)), .int (nI (w)), .int (wk), .int (tr), .ref (b 4), .ref (b 5), .int (nd), .ref (b 6), .ref (b 7), .int (hd), .ref (b 8), .int (sd), .ref (b 9), .int (kt), .int (kw), .int (kh), .ref (b 10), .ref (b 11), .long (hz)])), ((b 1), .inl (cI, 32, .inl (fun ii => nI (pg ii)))), ((b 2), .inl (cI, 20, .inl u4.1)), ((b 3), .inl (cI, 5, .inl u4.2.1)), ((b 4), .inl (cI, 32, .inl (fun ii => nI (R ii)))), ((b 5), .inl (cI, 5, .inl mm))] H := hP
    have hD : va_D A [((b 0), .inr (10, [.ref (b 1), .int (nI (len)), .ref (b 2), .int (nI ((se pg len + 1) / 6)), .ref (b 3), .int (nI (len - se pg len - 1)), .int (nI (6)), .int (nI ((se pg len + 1) / 6)), .int (nI (w)), .int (wk), .int (tr), .ref (b 4), .ref (b 5), .int (nd), .ref (b 6), .ref (b 7), .int (hd), .ref (b 8), .int (sd), .ref (b 9), .int (kt), .int (kw), .int (kh), .ref (b 10), .ref (b 11), .long (hz)])), ((b 1), .inl (cI, 32, .inl (fun ii => nI (pg ii)))), ((b 2), .inl (cI, 20, .inl u4.1)), ((b 3), .inl (cI, 5, .inl u4.2.1)), ((b 4), .inl (cI, 32, .inl (fun ii => nI (R ii)))), ((b 5), .inl (cI, 5, .inl mm))] := hD
    refine lv_aload_n hx hb dX10_town_38 rfl (lv_at hl 0 rfl) ?_
    refine lv_aload_n hx hb dX10_town_39 rfl (lv_at hl 0 rfl) ?_
    refine va_get (D := (dC, dI)) (ci := 10) (v := .int (nI (len - se pg len - 1))) (C := RX10) (T := TX10) (N := 26) hx hb hts (fun _ h => List.mem_cons_of_mem _ (List.mem_append_right _ (h))) hown hK.1 hP 0 rfl rfl 5 (by decide) (hts (Cond.fieldLink RX10 68 "WorstVoiceModel" "readWidows" "I") (List.mem_of_getElem? (i := 3) rfl)) (fun _ h9 => h9) rfl dX10_town_40 ?_
    refine va_put (D := (dC, dI)) (ci := 10) (v := .int (nI (len - se pg len - 1))) (ty := .int) (C := RX10) (T := TX10) (N := 26) hx hb hts (fun _ h => List.mem_cons_of_mem _ (List.mem_append_right _ (h))) tyX10 tyX10_ok nmX10 hown hK.1 hP hD hS 0 rfl rfl 8 (by decide) (hts (Cond.fieldLink RX10 84 "WorstVoiceModel" "widows" "I") (List.mem_of_getElem? (i := 6) rfl)) (fun _ h9 => h9) rfl (by decide +kernel) rfl rfl (Nat.le_of_ble_eq_true rfl) dX10_town_43 (fun H locs hP hD hS => ?_)
    have hP : va_P (dC, dI) vwCl [((b 0), .inr (10, [.ref (b 1), .int (nI (len)), .ref (b 2), .int (nI ((se pg len + 1) / 6)), .ref (b 3), .int (nI (len - se pg len - 1)), .int (nI (6)), .int (nI ((se pg len + 1) / 6)), .int (nI (len - se pg len - 1)), .int (wk), .int (tr), .ref (b 4), .ref (b 5), .int (nd), .ref (b 6), .ref (b 7), .int (hd), .ref (b 8), .int (sd), .ref (b 9), .int (kt), .int (kw), .int (kh), .ref (b 10), .ref (b 11), .long (hz)])), ((b 1), .inl (cI, 32, .inl (fun ii => nI (pg ii)))), ((b 2), .inl (cI, 20, .inl u4.1)), ((b 3), .inl (cI, 5, .inl u4.2.1)), ((b 4), .inl (cI, 32, .inl (fun ii => nI (R ii)))), ((b 5), .inl (cI, 5, .inl mm))] H := hP
    have hD : va_D A [((b 0), .inr (10, [.ref (b 1), .int (nI (len)), .ref (b 2), .int (nI ((se pg len + 1) / 6)), .ref (b 3), .int (nI (len - se pg len - 1)), .int (nI (6)), .int (nI ((se pg len + 1) / 6)), .int (nI (len - se pg len - 1)), .int (wk), .int (tr), .ref (b 4), .ref (b 5), .int (nd), .ref (b 6), .ref (b 7), .int (hd), .ref (b 8), .int (sd), .ref (b 9), .int (kt), .int (kw), .int (kh), .ref (b 10), .ref (b 11), .long (hz)])), ((b 1), .inl (cI, 32, .inl (fun ii => nI (pg ii)))), ((b 2), .inl (cI, 20, .inl u4.1)), ((b 3), .inl (cI, 5, .inl u4.2.1)), ((b 4), .inl (cI, 32, .inl (fun ii => nI (R ii)))), ((b 5), .inl (cI, 5, .inl mm))] := hD
    refine lv_aload_n hx hb dX10_town_46 rfl (lv_at hl 0 rfl) ?_
    refine va_get (D := (dC, dI)) (ci := 10) (v := .ref (b 3)) (C := RX10) (T := TX10) (N := 26) hx hb hts (fun _ h => List.mem_cons_of_mem _ (List.mem_append_right _ (h))) hown hK.1 hP 0 rfl rfl 4 (by decide) (hts (Cond.fieldLink RX10 16 "WorstVoiceModel" "readMinds" "[I") (List.mem_of_getElem? (i := 7) rfl)) (fun _ h9 => h9) rfl dX10_town_47 ?_
    refine lv_aload_n hx hb dX10_town_50 rfl (lv_at hl 0 rfl) ?_
    refine va_get (D := (dC, dI)) (ci := 10) (v := .ref (b 5)) (C := RX10) (T := TX10) (N := 26) hx hb hts (fun _ h => List.mem_cons_of_mem _ (List.mem_append_right _ (h))) hown hK.1 hP 0 rfl rfl 12 (by decide) (hts (Cond.fieldLink RX10 22 "WorstVoiceModel" "minds" "[I") (List.mem_of_getElem? (i := 8) rfl)) (fun _ h9 => h9) rfl dX10_town_51 ?_
    refine mu_callv (wr := [((b 0), .inr (10, [.ref (b 1), .int (nI (len)), .ref (b 2), .int (nI ((se pg len + 1) / 6)), .ref (b 3), .int (nI (len - se pg len - 1)), .int (nI (6)), .int (nI ((se pg len + 1) / 6)), .int (nI (len - se pg len - 1)), .int (wk), .int (tr), .ref (b 4), .ref (b 5), .int (nd), .ref (b 6), .ref (b 7), .int (hd), .ref (b 8), .int (sd), .ref (b 9), .int (kt), .int (kw), .int (kh), .ref (b 10), .ref (b 11), .long (hz)])), ((b 1), .inl (cI, 32, .inl (fun ii => nI (pg ii)))), ((b 2), .inl (cI, 20, .inl u4.1)), ((b 4), .inl (cI, 32, .inl (fun ii => nI (R ii))))]) (wn := (fun _ => [((b 0), .inr (10, [.ref (b 1), .int (nI (len)), .ref (b 2), .int (nI ((se pg len + 1) / 6)), .ref (b 3), .int (nI (len - se pg len - 1)), .int (nI (6)), .int (nI ((se pg len + 1) / 6)), .int (nI (len - se pg len - 1)), .int (wk), .int (tr), .ref (b 4), .ref (b 5), .int (nd), .ref (b 6), .ref (b 7), .int (hd), .ref (b 8), .int (sd), .ref (b 9), .int (kt), .int (kw), .int (kh), .ref (b 10), .ref (b 11), .long (hz)])), ((b 1), .inl (cI, 32, .inl (fun ii => nI (pg ii)))), ((b 2), .inl (cI, 20, .inl u4.1)), ((b 3), .inl (cI, 5, .inl u4.2.1)), ((b 4), .inl (cI, 32, .inl (fun ii => nI (R ii)))), ((b 5), .inl (cI, 5, .inl u4.2.1))])) (va_runS (As := [.ref (b 3), .ref (b 5)]) (rest := []) ⟨hx, hb, hml, hown, hts⟩ (c_M_copy l dC dI cI _ (b 3) (b 5) 5 u4.2.1 mm (by decide)) (va_cwS 2 hts gX10_town_X10_copy rfl rfl rfl (by decide +kernel) ⟨Nat.le_of_ble_eq_true rfl, Nat.le_of_ble_eq_true rfl⟩) (mu_ps hK hP hD [3, 5] (by decide) rfl rfl) rfl rfl hl.1 rfl (lv_room (Nat.le_of_ble_eq_true rfl)) dX10_town_54 ⟨Nat.zero_le _, Nat.zero_le _⟩) hS hA hP hD [3, 5] [0, 1, 2, 4] [0, 1, 2, 4, 3, 5] rfl rfl (by decide) (by decide) (by decide) (fun _ => rfl) (fun _ => rfl) (fun u8 H locs hr9 hP hD hS => ?_)
    have hP : va_P (dC, dI) vwCl [((b 0), .inr (10, [.ref (b 1), .int (nI (len)), .ref (b 2), .int (nI ((se pg len + 1) / 6)), .ref (b 3), .int (nI (len - se pg len - 1)), .int (nI (6)), .int (nI ((se pg len + 1) / 6)), .int (nI (len - se pg len - 1)), .int (wk), .int (tr), .ref (b 4), .ref (b 5), .int (nd), .ref (b 6), .ref (b 7), .int (hd), .ref (b 8), .int (sd), .ref (b 9), .int (kt), .int (kw), .int (kh), .ref (b 10), .ref (b 11), .long (hz)])), ((b 1), .inl (cI, 32, .inl (fun ii => nI (pg ii)))), ((b 2), .inl (cI, 20, .inl u4.1)), ((b 3), .inl (cI, 5, .inl u4.2.1)), ((b 4), .inl (cI, 32, .inl (fun ii => nI (R ii)))), ((b 5), .inl (cI, 5, .inl u4.2.1))] H := hP
    have hD : va_D A [((b 0), .inr (10, [.ref (b 1), .int (nI (len)), .ref (b 2), .int (nI ((se pg len + 1) / 6)), .ref (b 3), .int (nI (len - se pg len - 1)), .int (nI (6)), .int (nI ((se pg len + 1) / 6)), .int (nI (len - se pg len - 1)), .int (wk), .int (tr), .ref (b 4), .ref (b 5), .int (nd), .ref (b 6), .ref (b 7), .int (hd), .ref (b 8), .int (sd), .ref (b 9), .int (kt), .int (kw), .int (kh), .ref (b 10), .ref (b 11), .long (hz)])), ((b 1), .inl (cI, 32, .inl (fun ii => nI (pg ii)))), ((b 2), .inl (cI, 20, .inl u4.1)), ((b 3), .inl (cI, 5, .inl u4.2.1)), ((b 4), .inl (cI, 32, .inl (fun ii => nI (R ii)))), ((b 5), .inl (cI, 5, .inl u4.2.1))] := hD
    refine lv_iconst (v := nI (0)) hx hb dX10_town_57 (by decide) ?_
    refine lv_istore_n (lv' := [(1, .int (nI (0))), (0, .ref (b 0))]) hx hb dX10_town_58 rfl hl (by decide) rfl (fun ls hl => ?_)
    have hP : va_P (dC, dI) vwCl [((b 0), .inr (10, [.ref (b 1), .int (nI (len)), .ref (b 2), .int (nI ((se pg len + 1) / 6)), .ref (b 3), .int (nI (len - se pg len - 1)), .int (nI (6)), .int (nI ((se pg len + 1) / 6)), .int (nI (len - se pg len - 1)), .int (wk), .int (tr), .ref (b 4), .ref (b 5), .int (nd), .ref (b 6), .ref (b 7), .int (hd), .ref (b 8), .int (sd), .ref (b 9), .int (kt), .int (kw), .int (kh), .ref (b 10), .ref (b 11), .long (hz)])), ((b 1), .inl (cI, 32, .inl (fun ii => nI (pg ii)))), ((b 2), .inl (cI, 20, .inl u4.1)), ((b 3), .inl (cI, 5, .inl u4.2.1)), ((b 4), .inl (cI, 32, .inl (fun ii => nI ((rdQ pg R (8 * 0)) ii)))), ((b 5), .inl (cI, 5, .inl u4.2.1))] H := by rw [rdQ_0]; exact hP
    have hD : va_D A [((b 0), .inr (10, [.ref (b 1), .int (nI (len)), .ref (b 2), .int (nI ((se pg len + 1) / 6)), .ref (b 3), .int (nI (len - se pg len - 1)), .int (nI (6)), .int (nI ((se pg len + 1) / 6)), .int (nI (len - se pg len - 1)), .int (wk), .int (tr), .ref (b 4), .ref (b 5), .int (nd), .ref (b 6), .ref (b 7), .int (hd), .ref (b 8), .int (sd), .ref (b 9), .int (kt), .int (kw), .int (kh), .ref (b 10), .ref (b 11), .long (hz)])), ((b 1), .inl (cI, 32, .inl (fun ii => nI (pg ii)))), ((b 2), .inl (cI, 20, .inl u4.1)), ((b 3), .inl (cI, 5, .inl u4.2.1)), ((b 4), .inl (cI, 32, .inl (fun ii => nI ((rdQ pg R (8 * 0)) ii)))), ((b 5), .inl (cI, 5, .inl u4.2.1))] := hD.as rfl
    exact (hG _ _ _).mp (L59 ((se pg len + 1) / 6 + 1) (u4.1) (u4.2.1) (0) e4 e5 (by omega) (by omega) _ _ hP hD hS _ (lv_sub hl [1, 0] rfl))
  · have c7 := (z_eq (by omega)).mp c7
    exfalso; omega
