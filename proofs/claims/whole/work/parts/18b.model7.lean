/-! the model: mixtures -/
set_option maxHeartbeats 4000000 in
set_option maxRecDepth 100000 in
theorem c_M_layMore (l : Launch) (dC : Nat → ClassId) (dI : Nat → Nat → Nat) (cI : ClassId) (sz : Nat) (b : Nat → Nat) (len : Nat) (r_s : Int32) (r_w : Int32) (st : Int32) (n : Nat) (w : Nat) (wk : Int32) (tr : Int32) (nd : Int32) (hd : Int32) (sd : Int32) (kt : Int32) (kw : Int32) (kh : Int32) (hz : Int64) (R : Nat → Nat) (hR : WR R) (hn : n ≤ 4) (hw : w ≤ 5) (P2 : Nat → Nat) (s_ m_ : Nat) (hs : s_ < n) (hm_ : m_ < 1000) (h9 : R (8 * s_ + 7) ≤ 9) : Met l yX10_layMore wsX10_layMore ({ frames := 0, cells := 0, slots := 0, locals := 0 } : Room) (muP dC dI cI ([moW b (nI len) r_s r_w st n w wk tr nd hd sd kt kw kh hz] ++ [(b 4, .inl (cI, 32, .inl (fun i => nI (R i))))] ++ [(b 6, .inl (cI, 4, .inl (fun i => nI (P2 i))))]) sz [.ref (b 0), .int (nI (s_)), .int (nI (m_))]) (muI dC dI ([moW b (nI len) r_s r_w st n w wk tr nd hd sd kt kw kh hz] ++ [(b 4, .inl (cI, 32, .inl (fun i => nI (R i))))] ++ [(b 6, .inl (cI, 4, .inl (fun i => nI (P2 i))))]) sz (fun (_ : Unit) => [moW b (nI len) r_s r_w st n w wk tr nd hd sd kt kw kh hz] ++ [(b 4, .inl (cI, 32, .inl (fun i => nI (R i))))] ++ [(b 6, .inl (cI, 4, .inl (fun i => nI ((pQ P2 n s_ m_ 0) i))))]) (fun r _ => r = bI (mayF R n s_ m_ 0))) 0 0 (va_A ([moW b (nI len) r_s r_w st n w wk tr nd hd sd kt kw kh hz] ++ [(b 4, .inl (cI, 32, .inl (fun i => nI (R i))))] ++ [(b 6, .inl (cI, 4, .inl (fun i => nI (P2 i))))]) sz) := by
  refine Met.ofW (cc := cX10_layMore) (maxL := 6) (ret := (some .boolean)) (by decide) rfl ?_
  intro p e s m args below meth c s₁ B hml hv
  obtain ⟨rfl, hsz, hP, hK, hD0⟩ := hv
  have hx := B.exec
  have hb := B.bytes
  have hr := B.returns
  have hts := atoms_spec (ws := wsX10_layMore) B.pre
  have hown : s.vm.findClass RX10 = some m.cls := findClass_of_methodNamed B.named
  have hlocks := B.notSynchronized
  subst hsz
  unfold muI muB
  have hD := hD0.self (sz := s.heap.size)
  generalize hAe : va_A ([moW b (nI len) r_s r_w st n w wk tr nd hd sd kt kw kh hz] ++ [(b 4, .inl (cI, 32, .inl (fun i => nI (R i))))] ++ [(b 6, .inl (cI, 4, .inl (fun i => nI (P2 i))))]) s.heap.size = A at hD ⊢
  have hA : ∀ q : Nat, s.heap.size ≤ q → A q := fun q h => by rw [← hAe]; exact Or.inr h
  have hS : va_S A s.heap s.heap [] := va_S.rf
  have hl := lv_entry ([.ref (b 0), .int (nI (s_)), .int (nI (m_))]) (n := 6) (Nat.le_of_ble_eq_true rfl)
  rw [lg_entry_eq]
  generalize (lg_sl ([.ref (b 0), .int (nI (s_)), .int (nI (m_))]) ++ List.replicate (6 - (lg_sl ([.ref (b 0), .int (nI (s_)), .int (nI (m_))])).length) Slot.unset).toArray = ls at hl ⊢
  have hl : lv_has ls 6 [(0, .ref (b 0)), (1, .int (nI (s_))), (2, .int (nI (m_)))] := hl
  refine W_abs (fun G hG => ?_)
  have L13 : ∀ (fu : Nat) (k : Nat), k ≤ n → k + 1 ≤ fu → ∀ (H : Heap) (locs : List Loc), va_P (dC, dI) vwCl [((b 0), .inr (10, [.ref (b 1), .int (nI (len)), .ref (b 2), .int (r_s), .ref (b 3), .int (r_w), .int (st), .int (nI (n)), .int (nI (w)), .int (wk), .int (tr), .ref (b 4), .ref (b 5), .int (nd), .ref (b 6), .ref (b 7), .int (hd), .ref (b 8), .int (sd), .ref (b 9), .int (kt), .int (kw), .int (kh), .ref (b 10), .ref (b 11), .long (hz)])), ((b 4), .inl (cI, 32, .inl (fun ii => nI (R ii)))), ((b 6), .inl (cI, 4, .inl (fun ii => nI ((pQ P2 n s_ m_ k) ii))))] H → va_D A [((b 0), .inr (10, [.ref (b 1), .int (nI (len)), .ref (b 2), .int (r_s), .ref (b 3), .int (r_w), .int (st), .int (nI (n)), .int (nI (w)), .int (wk), .int (tr), .ref (b 4), .ref (b 5), .int (nd), .ref (b 6), .ref (b 7), .int (hd), .ref (b 8), .int (sd), .ref (b 9), .int (kt), .int (kw), .int (kh), .ref (b 10), .ref (b 11), .long (hz)])), ((b 4), .inl (cI, 32, .inl (fun ii => nI (R ii)))), ((b 6), .inl (cI, 4, .inl (fun ii => nI ((pQ P2 n s_ m_ k) ii))))] → va_S A s.heap H locs → ∀ (ls : Array Slot), lv_has ls 6 [(0, .ref (b 0)), (1, .int (nI (s_))), (2, .int (nI (m_))), (3, .int (nI (rst n s_ m_ k))), (4, .int (bI (mayF R n s_ m_ k))), (5, .int (oI k))] → G H locs (F0 m 13 ls []) := by
    intro fu
    induction fu with
    | zero => intro k h2 hfu H locs hP hD hS ls hl; omega
    | succ fu ih13 =>
      intro k h2 hfu H locs hP hD hS ls hl
      have hok := oI_toInt (k := k) (by omega)
      have hrs := rst_lt (n := n) (o := s_) (k := k) hm_
      refine (hG _ _ _).mpr ?_
      refine lv_iload hx hb dX10_layMore_13 (lv_at hl 5 rfl) ?_
      refine lv_if_lt (tgt := 98) hx hb dX10_layMore_15 (by decide) (fun c1 => ?_) (fun c1 => ?_)
      · have c1 := r0_lt.mp c1
        obtain rfl : k = 0 := by omega
        have hl : lv_has ls 6 [(0, .ref (b 0)), (1, .int (nI (s_))), (2, .int (nI (m_))), (3, .int (nI (rst n s_ m_ 0))), (4, .int (bI (mayF R n s_ m_ 0))), (5, .int (oI 0))] := hl
        have hP : va_P (dC, dI) vwCl [((b 0), .inr (10, [.ref (b 1), .int (nI (len)), .ref (b 2), .int (r_s), .ref (b 3), .int (r_w), .int (st), .int (nI (n)), .int (nI (w)), .int (wk), .int (tr), .ref (b 4), .ref (b 5), .int (nd), .ref (b 6), .ref (b 7), .int (hd), .ref (b 8), .int (sd), .ref (b 9), .int (kt), .int (kw), .int (kh), .ref (b 10), .ref (b 11), .long (hz)])), ((b 4), .inl (cI, 32, .inl (fun ii => nI (R ii)))), ((b 6), .inl (cI, 4, .inl (fun ii => nI ((pQ P2 n s_ m_ 0) ii))))] H := hP
        have hD : va_D A [((b 0), .inr (10, [.ref (b 1), .int (nI (len)), .ref (b 2), .int (r_s), .ref (b 3), .int (r_w), .int (st), .int (nI (n)), .int (nI (w)), .int (wk), .int (tr), .ref (b 4), .ref (b 5), .int (nd), .ref (b 6), .ref (b 7), .int (hd), .ref (b 8), .int (sd), .ref (b 9), .int (kt), .int (kw), .int (kh), .ref (b 10), .ref (b 11), .long (hz)])), ((b 4), .inl (cI, 32, .inl (fun ii => nI (R ii)))), ((b 6), .inl (cI, 4, .inl (fun ii => nI ((pQ P2 n s_ m_ 0) ii))))] := hD
        refine lv_iload hx hb dX10_layMore_98 (lv_at hl 4 rfl) ?_
        exact W.zret hx hb hr (by first | rfl | exact bI_nz) (fun t ht hW => ⟨⟨_, (), rfl, rfl, by rw [ht]; exact hP, hD.as rfl⟩, hS.F ht⟩) hS.2.2 dX10_layMore_100
      · have c1 := mt r0_lt.mpr c1
        obtain ⟨j, rfl⟩ : ∃ j, k = j + 1 := ⟨k - 1, by omega⟩
        have hl : lv_has ls 6 [(0, .ref (b 0)), (1, .int (nI (s_))), (2, .int (nI (m_))), (3, .int (nI (rst n s_ m_ (j + 1)))), (4, .int (bI (mayF R n s_ m_ (j + 1)))), (5, .int (nI (j)))] := hl
        have hP : va_P (dC, dI) vwCl [((b 0), .inr (10, [.ref (b 1), .int (nI (len)), .ref (b 2), .int (r_s), .ref (b 3), .int (r_w), .int (st), .int (nI (n)), .int (nI (w)), .int (wk), .int (tr), .ref (b 4), .ref (b 5), .int (nd), .ref (b 6), .ref (b 7), .int (hd), .ref (b 8), .int (sd), .ref (b 9), .int (kt), .int (kw), .int (kh), .ref (b 10), .ref (b 11), .long (hz)])), ((b 4), .inl (cI, 32, .inl (fun ii => nI (R ii)))), ((b 6), .inl (cI, 4, .inl (fun ii => nI ((pQ P2 n s_ m_ (j + 1)) ii))))] H := hP
        have hD : va_D A [((b 0), .inr (10, [.ref (b 1), .int (nI (len)), .ref (b 2), .int (r_s), .ref (b 3), .int (r_w), .int (st), .int (nI (n)), .int (nI (w)), .int (wk), .int (tr), .ref (b 4), .ref (b 5), .int (nd), .ref (b 6), .ref (b 7), .int (hd), .ref (b 8), .int (sd), .ref (b 9), .int (kt), .int (kw), .int (kh), .ref (b 10), .ref (b 11), .long (hz)])), ((b 4), .inl (cI, 32, .inl (fun ii => nI (R ii)))), ((b 6), .inl (cI, 4, .inl (fun ii => nI ((pQ P2 n s_ m_ (j + 1)) ii))))] := hD
        have hpm := pm_le n s_ m_ j
        have hR7 := hR.h (s := j) (by omega)
        refine lv_aload_n hx hb dX10_layMore_18 rfl (lv_at hl 0 rfl) ?_
        refine va_get (D := (dC, dI)) (ci := 10) (v := .ref (b 6)) (C := RX10) (T := TX10) (N := 26) hx hb hts (fun _ h => List.mem_cons_of_mem _ (List.mem_append_right _ (h))) hown hK.1 hP 0 rfl rfl 14 (by decide) (hts (Cond.fieldLink RX10 25 "WorstVoiceModel" "more" "[I") (List.mem_of_getElem? (i := 2) rfl)) (fun _ h9 => h9) rfl dX10_layMore_19 ?_
        refine lv_iload hx hb dX10_layMore_22 (lv_at hl 5 rfl) ?_
        refine lv_iload hx hb dX10_layMore_24 (lv_at hl 5 rfl) ?_
        refine lv_iload_n hx hb dX10_layMore_26 rfl (lv_at hl 1 rfl) ?_
        refine lv_icmp_ne (tgt := 34) hx hb dX10_layMore_27 (by decide) (fun c2 => ?_) (fun c2 => ?_)
        · have c2 := mt (nI_eq (by omega) (by omega)).mpr c2
          refine lv_iload_n hx hb dX10_layMore_34 rfl (lv_at hl 3 rfl) ?_
          refine lv_bipush (v := nI (10)) hx hb dX10_layMore_35 (by decide) ?_
          refine lv_irem hx hb dX10_layMore_37 (by decide) ?_
          refine tp_i (z := nI ((rst n s_ m_ (j + 1)) % 10)) (pk_rem (by omega) (by decide) (by decide)) ?_
          refine tp_i (z := nI (pm n s_ m_ j)) (congrArg nI (pm_at (by omega) (by assumption)).symm) ?_
          refine va_iast hx hb hK.1 hP hD hS 2 0 rfl rfl (vp_in_nI (by omega) (by decide)) dX10_layMore_38 (fun H locs hP hD hS => ?_)
          rw [nI_clamp (by omega), upd_nI] at hP hD
          have hP : va_P (dC, dI) vwCl [((b 0), .inr (10, [.ref (b 1), .int (nI (len)), .ref (b 2), .int (r_s), .ref (b 3), .int (r_w), .int (st), .int (nI (n)), .int (nI (w)), .int (wk), .int (tr), .ref (b 4), .ref (b 5), .int (nd), .ref (b 6), .ref (b 7), .int (hd), .ref (b 8), .int (sd), .ref (b 9), .int (kt), .int (kw), .int (kh), .ref (b 10), .ref (b 11), .long (hz)])), ((b 4), .inl (cI, 32, .inl (fun ii => nI (R ii)))), ((b 6), .inl (cI, 4, .inl (fun ii => nI ((upN (pQ P2 n s_ m_ (j + 1)) (j) (pm n s_ m_ j)) ii))))] H := hP
          have hD : va_D A [((b 0), .inr (10, [.ref (b 1), .int (nI (len)), .ref (b 2), .int (r_s), .ref (b 3), .int (r_w), .int (st), .int (nI (n)), .int (nI (w)), .int (wk), .int (tr), .ref (b 4), .ref (b 5), .int (nd), .ref (b 6), .ref (b 7), .int (hd), .ref (b 8), .int (sd), .ref (b 9), .int (kt), .int (kw), .int (kh), .ref (b 10), .ref (b 11), .long (hz)])), ((b 4), .inl (cI, 32, .inl (fun ii => nI (R ii)))), ((b 6), .inl (cI, 4, .inl (fun ii => nI ((upN (pQ P2 n s_ m_ (j + 1)) (j) (pm n s_ m_ j)) ii))))] := hD
          refine lv_iload hx hb dX10_layMore_39 (lv_at hl 5 rfl) ?_
          refine lv_iload_n hx hb dX10_layMore_41 rfl (lv_at hl 1 rfl) ?_
          refine lv_icmp_ne (tgt := 49) hx hb dX10_layMore_42 (by decide) (fun c3 => ?_) (fun c3 => ?_)
          · have c3 := mt (nI_eq (by omega) (by omega)).mpr c3
            refine lv_iload_n hx hb dX10_layMore_49 rfl (lv_at hl 3 rfl) ?_
            refine lv_bipush (v := nI (10)) hx hb dX10_layMore_50 (by decide) ?_
            refine lv_idiv hx hb dX10_layMore_52 (by decide) ?_
            refine tp_i (z := nI ((rst n s_ m_ (j + 1)) / 10)) (pk_div (by omega) (by decide) (by decide)) ?_
            refine tp_i (z := nI (rst n s_ m_ j)) (congrArg nI (rst_d hs (by omega) (by assumption)).symm) ?_
            refine lv_istore_n (lv' := [(3, .int (nI (rst n s_ m_ j))), (0, .ref (b 0)), (1, .int (nI (s_))), (2, .int (nI (m_))), (4, .int (bI (mayF R n s_ m_ (j + 1)))), (5, .int (nI (j)))]) hx hb dX10_layMore_53 rfl hl (by decide) rfl (fun ls hl => ?_)
            refine lv_iload hx hb dX10_layMore_54 (lv_at hl 4 rfl) ?_
            refine lv_if_eq (tgt := 89) hx hb dX10_layMore_56 (by decide) (fun c4 => ?_) (fun c4 => ?_)
            · have c4 := bI_0.mp c4
              refine lv_iconst (v := nI (0)) hx hb dX10_layMore_89 (by decide) ?_
              refine lv_istore (lv' := [(4, .int (nI (0))), (3, .int (nI (rst n s_ m_ j))), (0, .ref (b 0)), (1, .int (nI (s_))), (2, .int (nI (m_))), (5, .int (nI (j)))]) hx hb dX10_layMore_90 hl (by decide) rfl (fun ls hl => ?_)
              refine lv_iinc (v := oI j) (lv' := [(5, .int (oI j)), (4, .int (nI (0))), (3, .int (nI (rst n s_ m_ j))), (0, .ref (b 0)), (1, .int (nI (s_))), (2, .int (nI (m_)))]) hx hb dX10_layMore_92 hl (k := 5) rfl (oI_dec j) (by decide) rfl (fun ls hl => ?_)
              refine lv_goto (tgt := 13) hx hb dX10_layMore_95 (by decide) ?_
              rw [pQ_s (by omega)] at hP hD
              exact (hG _ _ _).mp (ih13 (j) (by omega) (by omega) _ _ hP hD hS _ (by rw [bI_f (c := mayF R n s_ m_ j) (fun q => by have q1 := (may_m (by omega) (by omega) h9).mp q; first | exact absurd q1.1 (by assumption) | (have q2 := q1.2; omega))]; exact lv_sub hl [3, 4, 5, 2, 1, 0] rfl))
            · have c4 := Decidable.not_not.mp (mt bI_0.mpr c4)
              refine lv_aload_n hx hb dX10_layMore_59 rfl (lv_at hl 1 rfl) ?_
              refine va_get (D := (dC, dI)) (ci := 10) (v := .ref (b 4)) (C := RX10) (T := TX10) (N := 26) hx hb hts (fun _ h => List.mem_cons_of_mem _ (List.mem_append_right _ (h))) hown hK.1 hP 0 rfl rfl 11 (by decide) (hts (Cond.fieldLink RX10 19 "WorstVoiceModel" "rows" "[I") (List.mem_of_getElem? (i := 3) rfl)) (fun _ h9 => h9) rfl dX10_layMore_60 ?_
              refine lv_bipush (v := nI (8)) hx hb dX10_layMore_63 (by decide) ?_
              refine lv_iload hx hb dX10_layMore_65 (lv_at hl 5 rfl) ?_
              refine lv_imul hx hb dX10_layMore_67 ?_
              refine tp_i (z := nI (8 * j)) (pk_mul (8) (j)) ?_
              refine lv_bipush (v := nI (7)) hx hb dX10_layMore_68 (by decide) ?_
              refine lv_iadd hx hb dX10_layMore_70 ?_
              refine tp_i (z := nI (8 * j + 7)) (nI_add (8 * j) (7)) ?_
              refine va_iald hx hb hK.1 hP 1 0 rfl rfl (vp_in_nI (by omega) (by decide)) dX10_layMore_71 ?_
              refine tp_i (z := nI (R (8 * j + 7))) (ld_n (fun ii => nI (R ii)) (by omega)) ?_
              refine lv_aload_n hx hb dX10_layMore_72 rfl (lv_at hl 1 rfl) ?_
              refine va_get (D := (dC, dI)) (ci := 10) (v := .ref (b 6)) (C := RX10) (T := TX10) (N := 26) hx hb hts (fun _ h => List.mem_cons_of_mem _ (List.mem_append_right _ (h))) hown hK.1 hP 0 rfl rfl 14 (by decide) (hts (Cond.fieldLink RX10 25 "WorstVoiceModel" "more" "[I") (List.mem_of_getElem? (i := 2) rfl)) (fun _ h9 => h9) rfl dX10_layMore_73 ?_
              refine lv_iload hx hb dX10_layMore_76 (lv_at hl 5 rfl) ?_
              refine va_iald hx hb hK.1 hP 2 0 rfl rfl (vp_in_nI (by omega) (by decide)) dX10_layMore_78 ?_
              refine tp_i (z := nI (pm n s_ m_ j)) ((ld_n (fun ii => nI ((upN (pQ P2 n s_ m_ (j + 1)) (j) (pm n s_ m_ j)) ii)) (by omega)).trans (congrArg nI upN_s)) ?_
              refine lv_iadd hx hb dX10_layMore_79 ?_
              refine tp_i (z := nI (R (8 * j + 7) + pm n s_ m_ j)) (nI_add (R (8 * j + 7)) (pm n s_ m_ j)) ?_
              refine lv_bipush (v := nI (10)) hx hb dX10_layMore_80 (by decide) ?_
              refine lv_icmp_ge (tgt := 89) hx hb dX10_layMore_82 (by decide) (fun c5 => ?_) (fun c5 => ?_)
              · have c5 := (nI_leI (by decide) (by omega)).mp c5
                refine lv_iconst (v := nI (0)) hx hb dX10_layMore_89 (by decide) ?_
                refine lv_istore (lv' := [(4, .int (nI (0))), (3, .int (nI (rst n s_ m_ j))), (0, .ref (b 0)), (1, .int (nI (s_))), (2, .int (nI (m_))), (5, .int (nI (j)))]) hx hb dX10_layMore_90 hl (by decide) rfl (fun ls hl => ?_)
                refine lv_iinc (v := oI j) (lv' := [(5, .int (oI j)), (4, .int (nI (0))), (3, .int (nI (rst n s_ m_ j))), (0, .ref (b 0)), (1, .int (nI (s_))), (2, .int (nI (m_)))]) hx hb dX10_layMore_92 hl (k := 5) rfl (oI_dec j) (by decide) rfl (fun ls hl => ?_)
                refine lv_goto (tgt := 13) hx hb dX10_layMore_95 (by decide) ?_
                rw [pQ_s (by omega)] at hP hD
                exact (hG _ _ _).mp (ih13 (j) (by omega) (by omega) _ _ hP hD hS _ (by rw [bI_f (c := mayF R n s_ m_ j) (fun q => by have q1 := (may_m (by omega) (by omega) h9).mp q; first | exact absurd q1.1 (by assumption) | (have q2 := q1.2; omega))]; exact lv_sub hl [3, 4, 5, 2, 1, 0] rfl))
              · have c5 := mt (nI_leI (by decide) (by omega)).mpr c5
                refine lv_iconst (v := nI (1)) hx hb dX10_layMore_85 (by decide) ?_
                refine lv_goto (tgt := 90) hx hb dX10_layMore_86 (by decide) ?_
                refine lv_istore (lv' := [(4, .int (nI (1))), (3, .int (nI (rst n s_ m_ j))), (0, .ref (b 0)), (1, .int (nI (s_))), (2, .int (nI (m_))), (5, .int (nI (j)))]) hx hb dX10_layMore_90 hl (by decide) rfl (fun ls hl => ?_)
                refine lv_iinc (v := oI j) (lv' := [(5, .int (oI j)), (4, .int (nI (1))), (3, .int (nI (rst n s_ m_ j))), (0, .ref (b 0)), (1, .int (nI (s_))), (2, .int (nI (m_)))]) hx hb dX10_layMore_92 hl (k := 5) rfl (oI_dec j) (by decide) rfl (fun ls hl => ?_)
                refine lv_goto (tgt := 13) hx hb dX10_layMore_95 (by decide) ?_
                rw [pQ_s (by omega)] at hP hD
                exact (hG _ _ _).mp (ih13 (j) (by omega) (by omega) _ _ hP hD hS _ (by rw [bI_t (c := mayF R n s_ m_ j) ((may_m (by omega) (by omega) h9).mpr ⟨by assumption, by omega⟩)]; exact lv_sub hl [3, 4, 5, 2, 1, 0] rfl))
          · have c3 := (nI_eq (by omega) (by omega)).mp c3
            exfalso; omega
        · have c2 := (nI_eq (by omega) (by omega)).mp c2
          refine lv_iconst (v := nI (0)) hx hb dX10_layMore_30 (by decide) ?_
          refine lv_goto (tgt := 38) hx hb dX10_layMore_31 (by decide) ?_
          refine tp_i (z := nI (pm n s_ m_ j)) (congrArg nI (pm_0 (Or.inl (by assumption))).symm) ?_
          refine va_iast hx hb hK.1 hP hD hS 2 0 rfl rfl (vp_in_nI (by omega) (by decide)) dX10_layMore_38 (fun H locs hP hD hS => ?_)
          rw [nI_clamp (by omega), upd_nI] at hP hD
          have hP : va_P (dC, dI) vwCl [((b 0), .inr (10, [.ref (b 1), .int (nI (len)), .ref (b 2), .int (r_s), .ref (b 3), .int (r_w), .int (st), .int (nI (n)), .int (nI (w)), .int (wk), .int (tr), .ref (b 4), .ref (b 5), .int (nd), .ref (b 6), .ref (b 7), .int (hd), .ref (b 8), .int (sd), .ref (b 9), .int (kt), .int (kw), .int (kh), .ref (b 10), .ref (b 11), .long (hz)])), ((b 4), .inl (cI, 32, .inl (fun ii => nI (R ii)))), ((b 6), .inl (cI, 4, .inl (fun ii => nI ((upN (pQ P2 n s_ m_ (j + 1)) (j) (pm n s_ m_ j)) ii))))] H := hP
          have hD : va_D A [((b 0), .inr (10, [.ref (b 1), .int (nI (len)), .ref (b 2), .int (r_s), .ref (b 3), .int (r_w), .int (st), .int (nI (n)), .int (nI (w)), .int (wk), .int (tr), .ref (b 4), .ref (b 5), .int (nd), .ref (b 6), .ref (b 7), .int (hd), .ref (b 8), .int (sd), .ref (b 9), .int (kt), .int (kw), .int (kh), .ref (b 10), .ref (b 11), .long (hz)])), ((b 4), .inl (cI, 32, .inl (fun ii => nI (R ii)))), ((b 6), .inl (cI, 4, .inl (fun ii => nI ((upN (pQ P2 n s_ m_ (j + 1)) (j) (pm n s_ m_ j)) ii))))] := hD
          refine lv_iload hx hb dX10_layMore_39 (lv_at hl 5 rfl) ?_
          refine lv_iload_n hx hb dX10_layMore_41 rfl (lv_at hl 1 rfl) ?_
          refine lv_icmp_ne (tgt := 49) hx hb dX10_layMore_42 (by decide) (fun c6 => ?_) (fun c6 => ?_)
          · have c6 := mt (nI_eq (by omega) (by omega)).mpr c6
            exfalso; omega
          have c6 := (nI_eq (by omega) (by omega)).mp c6
          refine lv_iload_n hx hb dX10_layMore_45 rfl (lv_at hl 3 rfl) ?_
          refine lv_goto (tgt := 53) hx hb dX10_layMore_46 (by decide) ?_
          refine tp_i (z := nI (rst n s_ m_ j)) (congrArg nI (rst_o hs (Or.inl (by assumption))).symm) ?_
          refine lv_istore_n (lv' := [(3, .int (nI (rst n s_ m_ j))), (0, .ref (b 0)), (1, .int (nI (s_))), (2, .int (nI (m_))), (4, .int (bI (mayF R n s_ m_ (j + 1)))), (5, .int (nI (j)))]) hx hb dX10_layMore_53 rfl hl (by decide) rfl (fun ls hl => ?_)
          refine lv_iload hx hb dX10_layMore_54 (lv_at hl 4 rfl) ?_
          refine lv_if_eq (tgt := 89) hx hb dX10_layMore_56 (by decide) (fun c7 => ?_) (fun c7 => ?_)
          · have c7 := bI_0.mp c7
            refine lv_iconst (v := nI (0)) hx hb dX10_layMore_89 (by decide) ?_
            refine lv_istore (lv' := [(4, .int (nI (0))), (3, .int (nI (rst n s_ m_ j))), (0, .ref (b 0)), (1, .int (nI (s_))), (2, .int (nI (m_))), (5, .int (nI (j)))]) hx hb dX10_layMore_90 hl (by decide) rfl (fun ls hl => ?_)
            refine lv_iinc (v := oI j) (lv' := [(5, .int (oI j)), (4, .int (nI (0))), (3, .int (nI (rst n s_ m_ j))), (0, .ref (b 0)), (1, .int (nI (s_))), (2, .int (nI (m_)))]) hx hb dX10_layMore_92 hl (k := 5) rfl (oI_dec j) (by decide) rfl (fun ls hl => ?_)
            refine lv_goto (tgt := 13) hx hb dX10_layMore_95 (by decide) ?_
            rw [pQ_s (by omega)] at hP hD
            exact (hG _ _ _).mp (ih13 (j) (by omega) (by omega) _ _ hP hD hS _ (by rw [bI_f (c := mayF R n s_ m_ j) (fun q => by have q1 := (may_m (by omega) (by omega) h9).mp q; first | exact absurd q1.1 (by assumption) | (have q2 := q1.2; omega))]; exact lv_sub hl [3, 4, 5, 2, 1, 0] rfl))
          · have c7 := Decidable.not_not.mp (mt bI_0.mpr c7)
            refine lv_aload_n hx hb dX10_layMore_59 rfl (lv_at hl 1 rfl) ?_
            refine va_get (D := (dC, dI)) (ci := 10) (v := .ref (b 4)) (C := RX10) (T := TX10) (N := 26) hx hb hts (fun _ h => List.mem_cons_of_mem _ (List.mem_append_right _ (h))) hown hK.1 hP 0 rfl rfl 11 (by decide) (hts (Cond.fieldLink RX10 19 "WorstVoiceModel" "rows" "[I") (List.mem_of_getElem? (i := 3) rfl)) (fun _ h9 => h9) rfl dX10_layMore_60 ?_
            refine lv_bipush (v := nI (8)) hx hb dX10_layMore_63 (by decide) ?_
            refine lv_iload hx hb dX10_layMore_65 (lv_at hl 5 rfl) ?_
            refine lv_imul hx hb dX10_layMore_67 ?_
            refine tp_i (z := nI (8 * j)) (pk_mul (8) (j)) ?_
            refine lv_bipush (v := nI (7)) hx hb dX10_layMore_68 (by decide) ?_
            refine lv_iadd hx hb dX10_layMore_70 ?_
            refine tp_i (z := nI (8 * j + 7)) (nI_add (8 * j) (7)) ?_
            refine va_iald hx hb hK.1 hP 1 0 rfl rfl (vp_in_nI (by omega) (by decide)) dX10_layMore_71 ?_
            refine tp_i (z := nI (R (8 * j + 7))) (ld_n (fun ii => nI (R ii)) (by omega)) ?_
            refine lv_aload_n hx hb dX10_layMore_72 rfl (lv_at hl 1 rfl) ?_
            refine va_get (D := (dC, dI)) (ci := 10) (v := .ref (b 6)) (C := RX10) (T := TX10) (N := 26) hx hb hts (fun _ h => List.mem_cons_of_mem _ (List.mem_append_right _ (h))) hown hK.1 hP 0 rfl rfl 14 (by decide) (hts (Cond.fieldLink RX10 25 "WorstVoiceModel" "more" "[I") (List.mem_of_getElem? (i := 2) rfl)) (fun _ h9 => h9) rfl dX10_layMore_73 ?_
            refine lv_iload hx hb dX10_layMore_76 (lv_at hl 5 rfl) ?_
            refine va_iald hx hb hK.1 hP 2 0 rfl rfl (vp_in_nI (by omega) (by decide)) dX10_layMore_78 ?_
            refine tp_i (z := nI (pm n s_ m_ j)) ((ld_n (fun ii => nI ((upN (pQ P2 n s_ m_ (j + 1)) (j) (pm n s_ m_ j)) ii)) (by omega)).trans (congrArg nI upN_s)) ?_
            refine lv_iadd hx hb dX10_layMore_79 ?_
            refine tp_i (z := nI (R (8 * j + 7) + pm n s_ m_ j)) (nI_add (R (8 * j + 7)) (pm n s_ m_ j)) ?_
            refine lv_bipush (v := nI (10)) hx hb dX10_layMore_80 (by decide) ?_
            refine lv_icmp_ge (tgt := 89) hx hb dX10_layMore_82 (by decide) (fun c8 => ?_) (fun c8 => ?_)
            · have c8 := (nI_leI (by decide) (by omega)).mp c8
              refine lv_iconst (v := nI (0)) hx hb dX10_layMore_89 (by decide) ?_
              refine lv_istore (lv' := [(4, .int (nI (0))), (3, .int (nI (rst n s_ m_ j))), (0, .ref (b 0)), (1, .int (nI (s_))), (2, .int (nI (m_))), (5, .int (nI (j)))]) hx hb dX10_layMore_90 hl (by decide) rfl (fun ls hl => ?_)
              refine lv_iinc (v := oI j) (lv' := [(5, .int (oI j)), (4, .int (nI (0))), (3, .int (nI (rst n s_ m_ j))), (0, .ref (b 0)), (1, .int (nI (s_))), (2, .int (nI (m_)))]) hx hb dX10_layMore_92 hl (k := 5) rfl (oI_dec j) (by decide) rfl (fun ls hl => ?_)
              refine lv_goto (tgt := 13) hx hb dX10_layMore_95 (by decide) ?_
              rw [pQ_s (by omega)] at hP hD
              exact (hG _ _ _).mp (ih13 (j) (by omega) (by omega) _ _ hP hD hS _ (by rw [bI_f (c := mayF R n s_ m_ j) (fun q => by have q1 := (may_m (by omega) (by omega) h9).mp q; first | exact absurd q1.1 (by assumption) | (have q2 := q1.2; omega))]; exact lv_sub hl [3, 4, 5, 2, 1, 0] rfl))
            · have c8 := mt (nI_leI (by decide) (by omega)).mpr c8
              refine lv_iconst (v := nI (1)) hx hb dX10_layMore_85 (by decide) ?_
              refine lv_goto (tgt := 90) hx hb dX10_layMore_86 (by decide) ?_
              refine lv_istore (lv' := [(4, .int (nI (1))), (3, .int (nI (rst n s_ m_ j))), (0, .ref (b 0)), (1, .int (nI (s_))), (2, .int (nI (m_))), (5, .int (nI (j)))]) hx hb dX10_layMore_90 hl (by decide) rfl (fun ls hl => ?_)
              refine lv_iinc (v := oI j) (lv' := [(5, .int (oI j)), (4, .int (nI (1))), (3, .int (nI (rst n s_ m_ j))), (0, .ref (b 0)), (1, .int (nI (s_))), (2, .int (nI (m_)))]) hx hb dX10_layMore_92 hl (k := 5) rfl (oI_dec j) (by decide) rfl (fun ls hl => ?_)
              refine lv_goto (tgt := 13) hx hb dX10_layMore_95 (by decide) ?_
              rw [pQ_s (by omega)] at hP hD
              exact (hG _ _ _).mp (ih13 (j) (by omega) (by omega) _ _ hP hD hS _ (by rw [bI_t (c := mayF R n s_ m_ j) ((may_m (by omega) (by omega) h9).mpr ⟨by assumption, by omega⟩)]; exact lv_sub hl [3, 4, 5, 2, 1, 0] rfl))
  refine (hG _ _ _).mpr ?_
  refine lv_iload_n hx hb dX10_layMore_0 rfl (lv_at hl 2 rfl) ?_
  refine lv_istore_n (lv' := [(3, .int (nI (m_))), (0, .ref (b 0)), (1, .int (nI (s_))), (2, .int (nI (m_)))]) hx hb dX10_layMore_1 rfl hl (by decide) rfl (fun ls hl => ?_)
  refine lv_iconst (v := nI (1)) hx hb dX10_layMore_2 (by decide) ?_
  refine lv_istore (lv' := [(4, .int (nI (1))), (3, .int (nI (m_))), (0, .ref (b 0)), (1, .int (nI (s_))), (2, .int (nI (m_)))]) hx hb dX10_layMore_3 hl (by decide) rfl (fun ls hl => ?_)
  refine lv_aload_n hx hb dX10_layMore_5 rfl (lv_at hl 2 rfl) ?_
  refine va_get (D := (dC, dI)) (ci := 10) (v := .int (nI (n))) (C := RX10) (T := TX10) (N := 26) hx hb hts (fun _ h => List.mem_cons_of_mem _ (List.mem_append_right _ (h))) hown hK.1 hP 0 rfl rfl 7 (by decide) (hts (Cond.fieldLink RX10 81 "WorstVoiceModel" "singers" "I") (List.mem_of_getElem? (i := 1) rfl)) (fun _ h9 => h9) rfl dX10_layMore_6 ?_
  refine lv_iconst (v := nI (1)) hx hb dX10_layMore_9 (by decide) ?_
  refine lv_isub hx hb dX10_layMore_10 ?_
  refine tp_i (z := oI n) (oI_sub (by omega)) ?_
  refine lv_istore (lv' := [(5, .int (oI n)), (4, .int (nI (1))), (3, .int (nI (m_))), (0, .ref (b 0)), (1, .int (nI (s_))), (2, .int (nI (m_)))]) hx hb dX10_layMore_11 hl (by decide) rfl (fun ls hl => ?_)
  have hP : va_P (dC, dI) vwCl [((b 0), .inr (10, [.ref (b 1), .int (nI (len)), .ref (b 2), .int (r_s), .ref (b 3), .int (r_w), .int (st), .int (nI (n)), .int (nI (w)), .int (wk), .int (tr), .ref (b 4), .ref (b 5), .int (nd), .ref (b 6), .ref (b 7), .int (hd), .ref (b 8), .int (sd), .ref (b 9), .int (kt), .int (kw), .int (kh), .ref (b 10), .ref (b 11), .long (hz)])), ((b 4), .inl (cI, 32, .inl (fun ii => nI (R ii)))), ((b 6), .inl (cI, 4, .inl (fun ii => nI ((pQ P2 n s_ m_ n) ii))))] s.heap := by rw [pQ_n]; exact hP
  have hD : va_D A [((b 0), .inr (10, [.ref (b 1), .int (nI (len)), .ref (b 2), .int (r_s), .ref (b 3), .int (r_w), .int (st), .int (nI (n)), .int (nI (w)), .int (wk), .int (tr), .ref (b 4), .ref (b 5), .int (nd), .ref (b 6), .ref (b 7), .int (hd), .ref (b 8), .int (sd), .ref (b 9), .int (kt), .int (kw), .int (kh), .ref (b 10), .ref (b 11), .long (hz)])), ((b 4), .inl (cI, 32, .inl (fun ii => nI (R ii)))), ((b 6), .inl (cI, 4, .inl (fun ii => nI ((pQ P2 n s_ m_ n) ii))))] := hD.as rfl
  exact (hG _ _ _).mp (L13 (n + 1) (n) (by omega) (by omega) _ _ hP hD hS _ (by rw [rst_top (n := n) (o := s_) (m := m_) (k := n) (Nat.le_refl n), bI_t (c := mayF R n s_ m_ n) may_top]; exact lv_sub hl [3, 4, 5, 2, 1, 0] rfl))

set_option maxHeartbeats 4000000 in
set_option maxRecDepth 100000 in
theorem c_M_layNeed (l : Launch) (dC : Nat → ClassId) (dI : Nat → Nat → Nat) (cI : ClassId) (sz : Nat) (b : Nat → Nat) (len : Nat) (r_s : Int32) (r_w : Int32) (st : Int32) (n : Nat) (w : Nat) (wk : Int32) (tr : Int32) (nd : Int32) (hd : Int32) (sd : Int32) (kt : Int32) (kw : Int32) (kh : Int32) (hz : Int64) (R mi : Nat → Nat) (mm : Nat → Int32) (hm : ∀ k, k < w → mm k = nI (mi k)) (hm4 : ∀ k, k < w → mi k < 4) (hR : WR R) (hn : n ≤ 4) (hn1 : 1 ≤ n) (hw : w ≤ 5) (hn2 : 2 ≤ n) (P2 Q2 : Nat → Nat) (s_ : Nat) (hs : s_ < n) (h9 : ∀ q, q < 4 → R (8 * q + 7) ≤ 9) : Met l yX10_layNeed wsX10_layNeed ({ frames := 4, cells := 0, slots := 0, locals := 92 } : Room) (muP dC dI cI ([moW b (nI len) r_s r_w st n w wk tr nd hd sd kt kw kh hz] ++ [(b 4, .inl (cI, 32, .inl (fun i => nI (R i))))] ++ [(b 5, .inl (cI, 5, .inl mm))] ++ [(b 6, .inl (cI, 4, .inl (fun i => nI (P2 i))))] ++ [(b 7, .inl (cI, 4, .inl (fun i => nI (Q2 i))))]) sz [.ref (b 0), .int (nI (s_))]) (muI (S := (Nat → Nat) × (Nat → Nat)) dC dI ([moW b (nI len) r_s r_w st n w wk tr nd hd sd kt kw kh hz] ++ [(b 4, .inl (cI, 32, .inl (fun i => nI (R i))))] ++ [(b 5, .inl (cI, 5, .inl mm))] ++ [(b 6, .inl (cI, 4, .inl (fun i => nI (P2 i))))] ++ [(b 7, .inl (cI, 4, .inl (fun i => nI (Q2 i))))]) sz (fun u => [moW b (nI len) r_s r_w st n w wk tr nd hd sd kt kw kh hz] ++ [(b 4, .inl (cI, 32, .inl (fun i => nI (R i))))] ++ [(b 5, .inl (cI, 5, .inl mm))] ++ [(b 6, .inl (cI, 4, .inl (fun i => nI (u.1 i))))] ++ [(b 7, .inl (cI, 4, .inl (fun i => nI (u.2 i))))]) (fun r u => r = oI (ndL R mi n w s_) ∧ (0 < ndL R mi n w s_ → ∀ j, j < n → u.2 j = pm n s_ (ndM R mi n w s_) j))) 0 0 (va_A ([moW b (nI len) r_s r_w st n w wk tr nd hd sd kt kw kh hz] ++ [(b 4, .inl (cI, 32, .inl (fun i => nI (R i))))] ++ [(b 5, .inl (cI, 5, .inl mm))] ++ [(b 6, .inl (cI, 4, .inl (fun i => nI (P2 i))))] ++ [(b 7, .inl (cI, 4, .inl (fun i => nI (Q2 i))))]) sz) := by
  refine Met.ofW (cc := cX10_layNeed) (maxL := 8) (ret := (some .int)) (by decide) rfl ?_
  intro p e s m args below meth c s₁ B hml hv
  obtain ⟨rfl, hsz, hP, hK, hD0⟩ := hv
  have hx := B.exec
  have hb := B.bytes
  have hr := B.returns
  have hts := atoms_spec (ws := wsX10_layNeed) B.pre
  have hown : s.vm.findClass RX10 = some m.cls := findClass_of_methodNamed B.named
  have hlocks := B.notSynchronized
  subst hsz
  unfold muI muB
  have hD := hD0.self (sz := s.heap.size)
  generalize hAe : va_A ([moW b (nI len) r_s r_w st n w wk tr nd hd sd kt kw kh hz] ++ [(b 4, .inl (cI, 32, .inl (fun i => nI (R i))))] ++ [(b 5, .inl (cI, 5, .inl mm))] ++ [(b 6, .inl (cI, 4, .inl (fun i => nI (P2 i))))] ++ [(b 7, .inl (cI, 4, .inl (fun i => nI (Q2 i))))]) s.heap.size = A at hD ⊢
  have hA : ∀ q : Nat, s.heap.size ≤ q → A q := fun q h => by rw [← hAe]; exact Or.inr h
  have hS : va_S A s.heap s.heap [] := va_S.rf
  have hl := lv_entry ([.ref (b 0), .int (nI (s_))]) (n := 8) (Nat.le_of_ble_eq_true rfl)
  rw [lg_entry_eq]
  generalize (lg_sl ([.ref (b 0), .int (nI (s_))]) ++ List.replicate (8 - (lg_sl ([.ref (b 0), .int (nI (s_))])).length) Slot.unset).toArray = ls at hl ⊢
  have hl : lv_has ls 8 [(0, .ref (b 0)), (1, .int (nI (s_)))] := hl
  refine W_abs (fun G hG => ?_)
  have hp10 := p10_le hn
  have L28 : ∀ (fu : Nat) (m_ : Nat) (P3 : Nat → Nat) (Q3 : Nat → Nat), m_ ≤ 10 ^ (n - 1) → (0 < (nd_ R mi n w s_ m_).1 → ∀ j, j < n → Q3 j = pm n s_ (nd_ R mi n w s_ m_).2 j) → 10 ^ (n - 1) + 1 ≤ m_ + fu → ∀ (H : Heap) (locs : List Loc), va_P (dC, dI) vwCl [((b 0), .inr (10, [.ref (b 1), .int (nI (len)), .ref (b 2), .int (r_s), .ref (b 3), .int (r_w), .int (st), .int (nI (n)), .int (nI (w)), .int (wk), .int (tr), .ref (b 4), .ref (b 5), .int (nd), .ref (b 6), .ref (b 7), .int (hd), .ref (b 8), .int (sd), .ref (b 9), .int (kt), .int (kw), .int (kh), .ref (b 10), .ref (b 11), .long (hz)])), ((b 4), .inl (cI, 32, .inl (fun ii => nI (R ii)))), ((b 5), .inl (cI, 5, .inl mm)), ((b 6), .inl (cI, 4, .inl (fun ii => nI (P3 ii)))), ((b 7), .inl (cI, 4, .inl (fun ii => nI (Q3 ii))))] H → va_D A [((b 0), .inr (10, [.ref (b 1), .int (nI (len)), .ref (b 2), .int (r_s), .ref (b 3), .int (r_w), .int (st), .int (nI (n)), .int (nI (w)), .int (wk), .int (tr), .ref (b 4), .ref (b 5), .int (nd), .ref (b 6), .ref (b 7), .int (hd), .ref (b 8), .int (sd), .ref (b 9), .int (kt), .int (kw), .int (kh), .ref (b 10), .ref (b 11), .long (hz)])), ((b 4), .inl (cI, 32, .inl (fun ii => nI (R ii)))), ((b 5), .inl (cI, 5, .inl mm)), ((b 6), .inl (cI, 4, .inl (fun ii => nI (P3 ii)))), ((b 7), .inl (cI, 4, .inl (fun ii => nI (Q3 ii))))] → va_S A s.heap H locs → ∀ (ls : Array Slot), lv_has ls 8 [(0, .ref (b 0)), (1, .int (nI (s_))), (2, .int (nI (10 ^ (n - 1)))), (3, .int (oI (nd_ R mi n w s_ m_).1)), (4, .int (nI (m_)))] → G H locs (F0 m 28 ls []) := by
    intro fu
    induction fu with
    | zero => intro m_ P3 Q3 h4 hQ hfu H locs hP hD hS ls hl; omega
    | succ fu ih28 =>
      intro m_ P3 Q3 h4 hQ hfu H locs hP hD hS ls hl
      have hnl := nd_le R mi n w s_ m_
      have hot := oI_toInt (k := (nd_ R mi n w s_ m_).1) (by omega)
      have hpS := pS_le n s_ m_ 0
      have L178 : ∀ (fu : Nat) (k : Nat) (Q4 : Nat → Nat), k ≤ n → (0 < (nd_ R mi n w s_ (m_ + 1)).1 → ∀ j, j < n → Q4 j = pm n s_ (nd_ R mi n w s_ (m_ + 1)).2 j) → m_ < 10 ^ (n - 1) → n + 1 ≤ k + fu → ∀ (H : Heap) (locs : List Loc), va_P (dC, dI) vwCl [((b 0), .inr (10, [.ref (b 1), .int (nI (len)), .ref (b 2), .int (r_s), .ref (b 3), .int (r_w), .int (st), .int (nI (n)), .int (nI (w)), .int (wk), .int (tr), .ref (b 4), .ref (b 5), .int (nd), .ref (b 6), .ref (b 7), .int (hd), .ref (b 8), .int (sd), .ref (b 9), .int (kt), .int (kw), .int (kh), .ref (b 10), .ref (b 11), .long (hz)])), ((b 4), .inl (cI, 32, .inl (fun ii => nI ((bR R n s_ m_ k) ii)))), ((b 5), .inl (cI, 5, .inl mm)), ((b 6), .inl (cI, 4, .inl (fun ii => nI ((pQ P3 n s_ m_ 0) ii)))), ((b 7), .inl (cI, 4, .inl (fun ii => nI (Q4 ii))))] H → va_D A [((b 0), .inr (10, [.ref (b 1), .int (nI (len)), .ref (b 2), .int (r_s), .ref (b 3), .int (r_w), .int (st), .int (nI (n)), .int (nI (w)), .int (wk), .int (tr), .ref (b 4), .ref (b 5), .int (nd), .ref (b 6), .ref (b 7), .int (hd), .ref (b 8), .int (sd), .ref (b 9), .int (kt), .int (kw), .int (kh), .ref (b 10), .ref (b 11), .long (hz)])), ((b 4), .inl (cI, 32, .inl (fun ii => nI ((bR R n s_ m_ k) ii)))), ((b 5), .inl (cI, 5, .inl mm)), ((b 6), .inl (cI, 4, .inl (fun ii => nI ((pQ P3 n s_ m_ 0) ii)))), ((b 7), .inl (cI, 4, .inl (fun ii => nI (Q4 ii))))] → va_S A s.heap H locs → ∀ (ls : Array Slot), lv_has ls 8 [(0, .ref (b 0)), (1, .int (nI (s_))), (2, .int (nI (10 ^ (n - 1)))), (3, .int (oI (nd_ R mi n w s_ (m_ + 1)).1)), (4, .int (nI (m_))), (7, .int (nI (k)))] → G H locs (F0 m 178 ls []) := by
        intro fu
        induction fu with
        | zero => intro k Q4 h6 hQ4 hm1 hfu H locs hP hD hS ls hl; omega
        | succ fu ih178 =>
          intro k Q4 h6 hQ4 hm1 hfu H locs hP hD hS ls hl
          refine (hG _ _ _).mpr ?_
          refine lv_iload hx hb dX10_layNeed_178 (lv_at hl 5 rfl) ?_
          refine lv_aload_n hx hb dX10_layNeed_180 rfl (lv_at hl 0 rfl) ?_
          refine va_get (D := (dC, dI)) (ci := 10) (v := .int (nI (n))) (C := RX10) (T := TX10) (N := 26) hx hb hts (fun _ h => List.mem_cons_of_mem _ (List.mem_append_right _ (h))) hown hK.1 hP 0 rfl rfl 7 (by decide) (hts (Cond.fieldLink RX10 81 "WorstVoiceModel" "singers" "I") (List.mem_of_getElem? (i := 1) rfl)) (fun _ h9 => h9) rfl dX10_layNeed_181 ?_
          refine lv_icmp_ge (tgt := 216) hx hb dX10_layNeed_184 (by decide) (fun c1 => ?_) (fun c1 => ?_)
          · have c1 := (nI_leI (by omega) (by omega)).mp c1
            refine lv_iinc (v := nI (m_ + 1)) (lv' := [(4, .int (nI (m_ + 1))), (0, .ref (b 0)), (1, .int (nI (s_))), (2, .int (nI (10 ^ (n - 1)))), (3, .int (oI (nd_ R mi n w s_ (m_ + 1)).1)), (7, .int (nI (k)))]) hx hb dX10_layNeed_216 hl (k := 4) rfl (nI_add (m_) 1) (by decide) rfl (fun ls hl => ?_)
            refine lv_goto (tgt := 28) hx hb dX10_layNeed_219 (by decide) ?_
            rw [show k = n by omega, bR_n] at hP hD
            exact (hG _ _ _).mp (ih28 (m_ + 1) (pQ P3 n s_ m_ 0) (Q4) (by omega) hQ4 (by omega) _ _ hP hD hS _ (lv_sub hl [1, 2, 3, 4, 0] rfl))
          · have c1 := mt (nI_leI (by omega) (by omega)).mpr c1
            refine lv_aload_n hx hb dX10_layNeed_187 rfl (lv_at hl 0 rfl) ?_
            refine va_get (D := (dC, dI)) (ci := 10) (v := .ref (b 4)) (C := RX10) (T := TX10) (N := 26) hx hb hts (fun _ h => List.mem_cons_of_mem _ (List.mem_append_right _ (h))) hown hK.1 hP 0 rfl rfl 11 (by decide) (hts (Cond.fieldLink RX10 19 "WorstVoiceModel" "rows" "[I") (List.mem_of_getElem? (i := 3) rfl)) (fun _ h9 => h9) rfl dX10_layNeed_188 ?_
            refine lv_bipush (v := nI (8)) hx hb dX10_layNeed_191 (by decide) ?_
            refine lv_iload hx hb dX10_layNeed_193 (lv_at hl 5 rfl) ?_
            refine lv_imul hx hb dX10_layNeed_195 ?_
            refine tp_i (z := nI (8 * k)) (pk_mul (8) (k)) ?_
            refine lv_bipush (v := nI (7)) hx hb dX10_layNeed_196 (by decide) ?_
            refine lv_iadd hx hb dX10_layNeed_198 ?_
            refine tp_i (z := nI (8 * k + 7)) (nI_add (8 * k) (7)) ?_
            refine lv_dup2_11 hx hb dX10_layNeed_199 rfl rfl ?_
            refine va_iald hx hb hK.1 hP 1 0 rfl rfl (vp_in_nI (by omega) (by decide)) dX10_layNeed_200 ?_
            refine tp_i (z := nI (R (8 * k + 7) + pm n s_ m_ k)) ((ld_n (fun ii => nI ((bR R n s_ m_ k) ii)) (by omega)).trans (congrArg nI (bR_at (by omega)))) ?_
            refine lv_aload_n hx hb dX10_layNeed_201 rfl (lv_at hl 0 rfl) ?_
            refine va_get (D := (dC, dI)) (ci := 10) (v := .ref (b 6)) (C := RX10) (T := TX10) (N := 26) hx hb hts (fun _ h => List.mem_cons_of_mem _ (List.mem_append_right _ (h))) hown hK.1 hP 0 rfl rfl 14 (by decide) (hts (Cond.fieldLink RX10 25 "WorstVoiceModel" "more" "[I") (List.mem_of_getElem? (i := 2) rfl)) (fun _ h9 => h9) rfl dX10_layNeed_202 ?_
            refine lv_iload hx hb dX10_layNeed_205 (lv_at hl 5 rfl) ?_
            refine va_iald hx hb hK.1 hP 3 0 rfl rfl (vp_in_nI (by omega) (by decide)) dX10_layNeed_207 ?_
            refine tp_i (z := nI (pm n s_ m_ k)) ((ld_n (fun ii => nI ((pQ P3 n s_ m_ 0) ii)) (by omega)).trans (congrArg nI (pQ_at (by omega)))) ?_
            have hpmk := pm_le n s_ m_ k
            refine lv_isub hx hb dX10_layNeed_208 ?_
            refine tp_i (z := nI (R (8 * k + 7))) ((pk_sub (by omega)).trans (congrArg nI (by omega))) ?_
            refine va_iast hx hb hK.1 hP hD hS 1 0 rfl rfl (vp_in_nI (by omega) (by decide)) dX10_layNeed_209 (fun H locs hP hD hS => ?_)
            rw [nI_clamp (by omega), upd_nI] at hP hD
            have hP : va_P (dC, dI) vwCl [((b 0), .inr (10, [.ref (b 1), .int (nI (len)), .ref (b 2), .int (r_s), .ref (b 3), .int (r_w), .int (st), .int (nI (n)), .int (nI (w)), .int (wk), .int (tr), .ref (b 4), .ref (b 5), .int (nd), .ref (b 6), .ref (b 7), .int (hd), .ref (b 8), .int (sd), .ref (b 9), .int (kt), .int (kw), .int (kh), .ref (b 10), .ref (b 11), .long (hz)])), ((b 4), .inl (cI, 32, .inl (fun ii => nI ((upN (bR R n s_ m_ k) (8 * k + 7) (R (8 * k + 7))) ii)))), ((b 5), .inl (cI, 5, .inl mm)), ((b 6), .inl (cI, 4, .inl (fun ii => nI ((pQ P3 n s_ m_ 0) ii)))), ((b 7), .inl (cI, 4, .inl (fun ii => nI (Q4 ii))))] H := hP
            have hD : va_D A [((b 0), .inr (10, [.ref (b 1), .int (nI (len)), .ref (b 2), .int (r_s), .ref (b 3), .int (r_w), .int (st), .int (nI (n)), .int (nI (w)), .int (wk), .int (tr), .ref (b 4), .ref (b 5), .int (nd), .ref (b 6), .ref (b 7), .int (hd), .ref (b 8), .int (sd), .ref (b 9), .int (kt), .int (kw), .int (kh), .ref (b 10), .ref (b 11), .long (hz)])), ((b 4), .inl (cI, 32, .inl (fun ii => nI ((upN (bR R n s_ m_ k) (8 * k + 7) (R (8 * k + 7))) ii)))), ((b 5), .inl (cI, 5, .inl mm)), ((b 6), .inl (cI, 4, .inl (fun ii => nI ((pQ P3 n s_ m_ 0) ii)))), ((b 7), .inl (cI, 4, .inl (fun ii => nI (Q4 ii))))] := hD
            refine lv_iinc (v := nI (k + 1)) (lv' := [(7, .int (nI (k + 1))), (0, .ref (b 0)), (1, .int (nI (s_))), (2, .int (nI (10 ^ (n - 1)))), (3, .int (oI (nd_ R mi n w s_ (m_ + 1)).1)), (4, .int (nI (m_)))]) hx hb dX10_layNeed_210 hl (k := 5) rfl (nI_add (k) 1) (by decide) rfl (fun ls hl => ?_)
            refine lv_goto (tgt := 178) hx hb dX10_layNeed_213 (by decide) ?_
            rw [bR_s (by omega)] at hP hD
            exact (hG _ _ _).mp (ih178 (k + 1) (Q4) (by omega) hQ4 hm1 (by omega) _ _ hP hD hS _ (lv_sub hl [1, 2, 3, 4, 5, 0] rfl))
      have L115 : ∀ (fu : Nat) (k : Nat), k ≤ n → mayF R n s_ m_ 0 → (nd_ R mi n w s_ m_).1 = 0 ∨ pS n s_ m_ 0 + 1 < (nd_ R mi n w s_ m_).1 → m_ < 10 ^ (n - 1) → n + 1 ≤ k + fu → ∀ (H : Heap) (locs : List Loc), va_P (dC, dI) vwCl [((b 0), .inr (10, [.ref (b 1), .int (nI (len)), .ref (b 2), .int (r_s), .ref (b 3), .int (r_w), .int (st), .int (nI (n)), .int (nI (w)), .int (wk), .int (tr), .ref (b 4), .ref (b 5), .int (nd), .ref (b 6), .ref (b 7), .int (hd), .ref (b 8), .int (sd), .ref (b 9), .int (kt), .int (kw), .int (kh), .ref (b 10), .ref (b 11), .long (hz)])), ((b 4), .inl (cI, 32, .inl (fun ii => nI ((aR R n s_ m_ k) ii)))), ((b 5), .inl (cI, 5, .inl mm)), ((b 6), .inl (cI, 4, .inl (fun ii => nI ((pQ P3 n s_ m_ 0) ii)))), ((b 7), .inl (cI, 4, .inl (fun ii => nI (Q3 ii))))] H → va_D A [((b 0), .inr (10, [.ref (b 1), .int (nI (len)), .ref (b 2), .int (r_s), .ref (b 3), .int (r_w), .int (st), .int (nI (n)), .int (nI (w)), .int (wk), .int (tr), .ref (b 4), .ref (b 5), .int (nd), .ref (b 6), .ref (b 7), .int (hd), .ref (b 8), .int (sd), .ref (b 9), .int (kt), .int (kw), .int (kh), .ref (b 10), .ref (b 11), .long (hz)])), ((b 4), .inl (cI, 32, .inl (fun ii => nI ((aR R n s_ m_ k) ii)))), ((b 5), .inl (cI, 5, .inl mm)), ((b 6), .inl (cI, 4, .inl (fun ii => nI ((pQ P3 n s_ m_ 0) ii)))), ((b 7), .inl (cI, 4, .inl (fun ii => nI (Q3 ii))))] → va_S A s.heap H locs → ∀ (ls : Array Slot), lv_has ls 8 [(0, .ref (b 0)), (1, .int (nI (s_))), (2, .int (nI (10 ^ (n - 1)))), (3, .int (oI (nd_ R mi n w s_ m_).1)), (4, .int (nI (m_))), (6, .int (nI (pS n s_ m_ 0))), (7, .int (nI (k)))] → G H locs (F0 m 115 ls []) := by
        intro fu
        induction fu with
        | zero => intro k h6 hmf hle hm1 hfu H locs hP hD hS ls hl; omega
        | succ fu ih115 =>
          intro k h6 hmf hle hm1 hfu H locs hP hD hS ls hl
          refine (hG _ _ _).mpr ?_
          refine lv_iload hx hb dX10_layNeed_115 (lv_at hl 6 rfl) ?_
          refine lv_aload_n hx hb dX10_layNeed_117 rfl (lv_at hl 0 rfl) ?_
          refine va_get (D := (dC, dI)) (ci := 10) (v := .int (nI (n))) (C := RX10) (T := TX10) (N := 26) hx hb hts (fun _ h => List.mem_cons_of_mem _ (List.mem_append_right _ (h))) hown hK.1 hP 0 rfl rfl 7 (by decide) (hts (Cond.fieldLink RX10 81 "WorstVoiceModel" "singers" "I") (List.mem_of_getElem? (i := 1) rfl)) (fun _ h9 => h9) rfl dX10_layNeed_118 ?_
          refine lv_icmp_ge (tgt := 153) hx hb dX10_layNeed_121 (by decide) (fun c2 => ?_) (fun c2 => ?_)
          · have c2 := (nI_leI (by omega) (by omega)).mp c2
            rw [show k = n by omega, aR_n] at hP hD
            have hP : va_P (dC, dI) vwCl [((b 0), .inr (10, [.ref (b 1), .int (nI (len)), .ref (b 2), .int (r_s), .ref (b 3), .int (r_w), .int (st), .int (nI (n)), .int (nI (w)), .int (wk), .int (tr), .ref (b 4), .ref (b 5), .int (nd), .ref (b 6), .ref (b 7), .int (hd), .ref (b 8), .int (sd), .ref (b 9), .int (kt), .int (kw), .int (kh), .ref (b 10), .ref (b 11), .long (hz)])), ((b 4), .inl (cI, 32, .inl (fun ii => nI ((Rp R n s_ m_) ii)))), ((b 5), .inl (cI, 5, .inl mm)), ((b 6), .inl (cI, 4, .inl (fun ii => nI ((pQ P3 n s_ m_ 0) ii)))), ((b 7), .inl (cI, 4, .inl (fun ii => nI (Q3 ii))))] H := hP
            have hD : va_D A [((b 0), .inr (10, [.ref (b 1), .int (nI (len)), .ref (b 2), .int (r_s), .ref (b 3), .int (r_w), .int (st), .int (nI (n)), .int (nI (w)), .int (wk), .int (tr), .ref (b 4), .ref (b 5), .int (nd), .ref (b 6), .ref (b 7), .int (hd), .ref (b 8), .int (sd), .ref (b 9), .int (kt), .int (kw), .int (kh), .ref (b 10), .ref (b 11), .long (hz)])), ((b 4), .inl (cI, 32, .inl (fun ii => nI ((Rp R n s_ m_) ii)))), ((b 5), .inl (cI, 5, .inl mm)), ((b 6), .inl (cI, 4, .inl (fun ii => nI ((pQ P3 n s_ m_ 0) ii)))), ((b 7), .inl (cI, 4, .inl (fun ii => nI (Q3 ii))))] := hD
            refine lv_aload_n hx hb dX10_layNeed_153 rfl (lv_at hl 0 rfl) ?_
            refine ro_calli (va_runV (As := []) (rest := []) ⟨hx, hb, hml, hown, hts⟩ (c_X10_mayorOf l dC dI cI b (nI (len)) r_s r_w st n w wk tr nd hd sd kt kw kh hz (Rp R n s_ m_) mi mm hm hm4 (hR.rp h9) hn (by omega) hw) (cwV 0 hts gX10_layNeed_X10_mayorOf rfl rfl rfl (by decide +kernel) ⟨Nat.le_of_ble_eq_true rfl, Nat.le_of_ble_eq_true rfl⟩) (ro_pv hK hP [0, 1, 2] rfl (ci := 10) (q0 := 0) (C := RX10) (T := TX10) (N := 26) rfl rfl) rfl rfl hl.1 rfl (lv_room (Nat.le_of_ble_eq_true rfl)) dX10_layNeed_154 ⟨Nat.zero_le _, Nat.zero_le _⟩) hS hP (fun r3 H locs hr3 hP hS => ?_)
            subst hr3
            have hmyl : my (Rp R n s_ m_) mi n w < n := am_lt _ n (by omega)
            refine lv_iload_n hx hb dX10_layNeed_157 rfl (lv_at hl 1 rfl) ?_
            refine lv_icmp_ne (tgt := 175) hx hb dX10_layNeed_158 (by decide) (fun c4 => ?_) (fun c4 => ?_)
            · have c4 := mt (nI_eq (by omega) (by omega)).mpr c4
              refine lv_iconst (v := nI (0)) hx hb dX10_layNeed_175 (by decide) ?_
              refine lv_istore (lv' := [(7, .int (nI (0))), (0, .ref (b 0)), (1, .int (nI (s_))), (2, .int (nI (10 ^ (n - 1)))), (3, .int (oI (nd_ R mi n w s_ m_).1)), (4, .int (nI (m_))), (6, .int (nI (pS n s_ m_ 0)))]) hx hb dX10_layNeed_176 hl (by decide) rfl (fun ls hl => ?_)
              rw [← bR_0] at hP hD
              exact (hG _ _ _).mp (L178 (n + 1) (0) (Q3) (by omega) (by rw [(nd_n (R := R) (mi := mi) (n := n) (w := w) (o := s_) (m := m_) (fun q9 => by first | exact absurd q9.1.1 (by assumption) | (have q2 := q9.1.2; have q3 := q9.2; omega)))]; exact hQ) (by omega) (by omega) _ _ hP hD hS _ (by rw [(nd_n (R := R) (mi := mi) (n := n) (w := w) (o := s_) (m := m_) (fun q9 => by first | exact absurd q9.1.1 (by assumption) | (have q2 := q9.1.2; have q3 := q9.2; omega)))]; exact lv_sub hl [1, 2, 3, 4, 5, 0] rfl))
            · have c4 := (nI_eq (by omega) (by omega)).mp c4
              refine lv_iload hx hb dX10_layNeed_161 (lv_at hl 5 rfl) ?_
              refine lv_istore_n (lv' := [(3, .int (nI (pS n s_ m_ 0))), (0, .ref (b 0)), (1, .int (nI (s_))), (2, .int (nI (10 ^ (n - 1)))), (4, .int (nI (m_))), (6, .int (nI (pS n s_ m_ 0))), (7, .int (nI (k)))]) hx hb dX10_layNeed_163 rfl hl (by decide) rfl (fun ls hl => ?_)
              refine lv_aload_n hx hb dX10_layNeed_164 rfl (lv_at hl 1 rfl) ?_
              refine va_get (D := (dC, dI)) (ci := 10) (v := .ref (b 6)) (C := RX10) (T := TX10) (N := 26) hx hb hts (fun _ h => List.mem_cons_of_mem _ (List.mem_append_right _ (h))) hown hK.1 hP 0 rfl rfl 14 (by decide) (hts (Cond.fieldLink RX10 25 "WorstVoiceModel" "more" "[I") (List.mem_of_getElem? (i := 2) rfl)) (fun _ h9 => h9) rfl dX10_layNeed_165 ?_
              refine lv_aload_n hx hb dX10_layNeed_168 rfl (lv_at hl 1 rfl) ?_
              refine va_get (D := (dC, dI)) (ci := 10) (v := .ref (b 7)) (C := RX10) (T := TX10) (N := 26) hx hb hts (fun _ h => List.mem_cons_of_mem _ (List.mem_append_right _ (h))) hown hK.1 hP 0 rfl rfl 15 (by decide) (hts (Cond.fieldLink RX10 28 "WorstVoiceModel" "bestMore" "[I") (List.mem_of_getElem? (i := 4) rfl)) (fun _ h9 => h9) rfl dX10_layNeed_169 ?_
              refine mu_callv (wr := [((b 0), .inr (10, [.ref (b 1), .int (nI (len)), .ref (b 2), .int (r_s), .ref (b 3), .int (r_w), .int (st), .int (nI (n)), .int (nI (w)), .int (wk), .int (tr), .ref (b 4), .ref (b 5), .int (nd), .ref (b 6), .ref (b 7), .int (hd), .ref (b 8), .int (sd), .ref (b 9), .int (kt), .int (kw), .int (kh), .ref (b 10), .ref (b 11), .long (hz)])), ((b 4), .inl (cI, 32, .inl (fun ii => nI ((Rp R n s_ m_) ii)))), ((b 5), .inl (cI, 5, .inl mm))]) (wn := (fun _ => [((b 0), .inr (10, [.ref (b 1), .int (nI (len)), .ref (b 2), .int (r_s), .ref (b 3), .int (r_w), .int (st), .int (nI (n)), .int (nI (w)), .int (wk), .int (tr), .ref (b 4), .ref (b 5), .int (nd), .ref (b 6), .ref (b 7), .int (hd), .ref (b 8), .int (sd), .ref (b 9), .int (kt), .int (kw), .int (kh), .ref (b 10), .ref (b 11), .long (hz)])), ((b 4), .inl (cI, 32, .inl (fun ii => nI ((Rp R n s_ m_) ii)))), ((b 5), .inl (cI, 5, .inl mm)), ((b 6), .inl (cI, 4, .inl (fun ii => nI ((pQ P3 n s_ m_ 0) ii)))), ((b 7), .inl (cI, 4, .inl (fun ii => nI ((pQ P3 n s_ m_ 0) ii))))])) (va_runS (As := [.ref (b 6), .ref (b 7)]) (rest := []) ⟨hx, hb, hml, hown, hts⟩ (c_M_copy l dC dI cI _ (b 6) (b 7) 4 (fun ii => nI ((pQ P3 n s_ m_ 0) ii)) (fun ii => nI (Q3 ii)) (by decide)) (va_cwS 2 hts gX10_layNeed_X10_copy rfl rfl rfl (by decide +kernel) ⟨Nat.le_of_ble_eq_true rfl, Nat.le_of_ble_eq_true rfl⟩) (mu_ps hK hP hD [3, 4] (by decide) rfl rfl) rfl rfl hl.1 rfl (lv_room (Nat.le_of_ble_eq_true rfl)) dX10_layNeed_172 ⟨Nat.zero_le _, Nat.zero_le _⟩) hS hA hP hD [3, 4] [0, 1, 2] [0, 1, 2, 3, 4] rfl rfl (by decide) (by decide) (by decide) (fun _ => rfl) (fun _ => rfl) (fun u5 H locs hr6 hP hD hS => ?_)
              have hP : va_P (dC, dI) vwCl [((b 0), .inr (10, [.ref (b 1), .int (nI (len)), .ref (b 2), .int (r_s), .ref (b 3), .int (r_w), .int (st), .int (nI (n)), .int (nI (w)), .int (wk), .int (tr), .ref (b 4), .ref (b 5), .int (nd), .ref (b 6), .ref (b 7), .int (hd), .ref (b 8), .int (sd), .ref (b 9), .int (kt), .int (kw), .int (kh), .ref (b 10), .ref (b 11), .long (hz)])), ((b 4), .inl (cI, 32, .inl (fun ii => nI ((Rp R n s_ m_) ii)))), ((b 5), .inl (cI, 5, .inl mm)), ((b 6), .inl (cI, 4, .inl (fun ii => nI ((pQ P3 n s_ m_ 0) ii)))), ((b 7), .inl (cI, 4, .inl (fun ii => nI ((pQ P3 n s_ m_ 0) ii))))] H := hP
              have hD : va_D A [((b 0), .inr (10, [.ref (b 1), .int (nI (len)), .ref (b 2), .int (r_s), .ref (b 3), .int (r_w), .int (st), .int (nI (n)), .int (nI (w)), .int (wk), .int (tr), .ref (b 4), .ref (b 5), .int (nd), .ref (b 6), .ref (b 7), .int (hd), .ref (b 8), .int (sd), .ref (b 9), .int (kt), .int (kw), .int (kh), .ref (b 10), .ref (b 11), .long (hz)])), ((b 4), .inl (cI, 32, .inl (fun ii => nI ((Rp R n s_ m_) ii)))), ((b 5), .inl (cI, 5, .inl mm)), ((b 6), .inl (cI, 4, .inl (fun ii => nI ((pQ P3 n s_ m_ 0) ii)))), ((b 7), .inl (cI, 4, .inl (fun ii => nI ((pQ P3 n s_ m_ 0) ii))))] := hD
              refine lv_iconst (v := nI (0)) hx hb dX10_layNeed_175 (by decide) ?_
              refine lv_istore (lv' := [(7, .int (nI (0))), (3, .int (nI (pS n s_ m_ 0))), (0, .ref (b 0)), (1, .int (nI (s_))), (2, .int (nI (10 ^ (n - 1)))), (4, .int (nI (m_))), (6, .int (nI (pS n s_ m_ 0)))]) hx hb dX10_layNeed_176 hl (by decide) rfl (fun ls hl => ?_)
              rw [← bR_0] at hP hD
              exact (hG _ _ _).mp (L178 (n + 1) (0) (pQ P3 n s_ m_ 0) (by omega) (fun _ j hj => by rw [nd_y2 (show gd R mi n w s_ m_ (nd_ R mi n w s_ m_).1 from ⟨⟨hmf, by omega⟩, by omega⟩)]; exact pQ_at hj) (by omega) (by omega) _ _ hP hD hS _ (by rw [nd_y1 (show gd R mi n w s_ m_ (nd_ R mi n w s_ m_).1 from ⟨⟨hmf, by omega⟩, by omega⟩)]; exact lv_sub hl [2, 3, 4, 1, 5, 0] rfl))
          · have c2 := mt (nI_leI (by omega) (by omega)).mpr c2
            refine lv_aload_n hx hb dX10_layNeed_124 rfl (lv_at hl 0 rfl) ?_
            refine va_get (D := (dC, dI)) (ci := 10) (v := .ref (b 4)) (C := RX10) (T := TX10) (N := 26) hx hb hts (fun _ h => List.mem_cons_of_mem _ (List.mem_append_right _ (h))) hown hK.1 hP 0 rfl rfl 11 (by decide) (hts (Cond.fieldLink RX10 19 "WorstVoiceModel" "rows" "[I") (List.mem_of_getElem? (i := 3) rfl)) (fun _ h9 => h9) rfl dX10_layNeed_125 ?_
            refine lv_bipush (v := nI (8)) hx hb dX10_layNeed_128 (by decide) ?_
            refine lv_iload hx hb dX10_layNeed_130 (lv_at hl 6 rfl) ?_
            refine lv_imul hx hb dX10_layNeed_132 ?_
            refine tp_i (z := nI (8 * k)) (pk_mul (8) (k)) ?_
            refine lv_bipush (v := nI (7)) hx hb dX10_layNeed_133 (by decide) ?_
            refine lv_iadd hx hb dX10_layNeed_135 ?_
            refine tp_i (z := nI (8 * k + 7)) (nI_add (8 * k) (7)) ?_
            refine lv_dup2_11 hx hb dX10_layNeed_136 rfl rfl ?_
            refine va_iald hx hb hK.1 hP 1 0 rfl rfl (vp_in_nI (by omega) (by decide)) dX10_layNeed_137 ?_
            refine tp_i (z := nI (R (8 * k + 7))) ((ld_n (fun ii => nI ((aR R n s_ m_ k) ii)) (by omega)).trans (congrArg nI aR_at)) ?_
            refine lv_aload_n hx hb dX10_layNeed_138 rfl (lv_at hl 0 rfl) ?_
            refine va_get (D := (dC, dI)) (ci := 10) (v := .ref (b 6)) (C := RX10) (T := TX10) (N := 26) hx hb hts (fun _ h => List.mem_cons_of_mem _ (List.mem_append_right _ (h))) hown hK.1 hP 0 rfl rfl 14 (by decide) (hts (Cond.fieldLink RX10 25 "WorstVoiceModel" "more" "[I") (List.mem_of_getElem? (i := 2) rfl)) (fun _ h9 => h9) rfl dX10_layNeed_139 ?_
            refine lv_iload hx hb dX10_layNeed_142 (lv_at hl 6 rfl) ?_
            refine va_iald hx hb hK.1 hP 3 0 rfl rfl (vp_in_nI (by omega) (by decide)) dX10_layNeed_144 ?_
            refine tp_i (z := nI (pm n s_ m_ k)) ((ld_n (fun ii => nI ((pQ P3 n s_ m_ 0) ii)) (by omega)).trans (congrArg nI (pQ_at (by omega)))) ?_
            have hpmk := pm_le n s_ m_ k
            refine lv_iadd hx hb dX10_layNeed_145 ?_
            refine tp_i (z := nI (R (8 * k + 7) + pm n s_ m_ k)) (nI_add (R (8 * k + 7)) (pm n s_ m_ k)) ?_
            refine va_iast hx hb hK.1 hP hD hS 1 0 rfl rfl (vp_in_nI (by omega) (by decide)) dX10_layNeed_146 (fun H locs hP hD hS => ?_)
            rw [nI_clamp (by omega), upd_nI] at hP hD
            have hP : va_P (dC, dI) vwCl [((b 0), .inr (10, [.ref (b 1), .int (nI (len)), .ref (b 2), .int (r_s), .ref (b 3), .int (r_w), .int (st), .int (nI (n)), .int (nI (w)), .int (wk), .int (tr), .ref (b 4), .ref (b 5), .int (nd), .ref (b 6), .ref (b 7), .int (hd), .ref (b 8), .int (sd), .ref (b 9), .int (kt), .int (kw), .int (kh), .ref (b 10), .ref (b 11), .long (hz)])), ((b 4), .inl (cI, 32, .inl (fun ii => nI ((upN (aR R n s_ m_ k) (8 * k + 7) (R (8 * k + 7) + pm n s_ m_ k)) ii)))), ((b 5), .inl (cI, 5, .inl mm)), ((b 6), .inl (cI, 4, .inl (fun ii => nI ((pQ P3 n s_ m_ 0) ii)))), ((b 7), .inl (cI, 4, .inl (fun ii => nI (Q3 ii))))] H := hP
            have hD : va_D A [((b 0), .inr (10, [.ref (b 1), .int (nI (len)), .ref (b 2), .int (r_s), .ref (b 3), .int (r_w), .int (st), .int (nI (n)), .int (nI (w)), .int (wk), .int (tr), .ref (b 4), .ref (b 5), .int (nd), .ref (b 6), .ref (b 7), .int (hd), .ref (b 8), .int (sd), .ref (b 9), .int (kt), .int (kw), .int (kh), .ref (b 10), .ref (b 11), .long (hz)])), ((b 4), .inl (cI, 32, .inl (fun ii => nI ((upN (aR R n s_ m_ k) (8 * k + 7) (R (8 * k + 7) + pm n s_ m_ k)) ii)))), ((b 5), .inl (cI, 5, .inl mm)), ((b 6), .inl (cI, 4, .inl (fun ii => nI ((pQ P3 n s_ m_ 0) ii)))), ((b 7), .inl (cI, 4, .inl (fun ii => nI (Q3 ii))))] := hD
            refine lv_iinc (v := nI (k + 1)) (lv' := [(7, .int (nI (k + 1))), (0, .ref (b 0)), (1, .int (nI (s_))), (2, .int (nI (10 ^ (n - 1)))), (3, .int (oI (nd_ R mi n w s_ m_).1)), (4, .int (nI (m_))), (6, .int (nI (pS n s_ m_ 0)))]) hx hb dX10_layNeed_147 hl (k := 6) rfl (nI_add (k) 1) (by decide) rfl (fun ls hl => ?_)
            refine lv_goto (tgt := 115) hx hb dX10_layNeed_150 (by decide) ?_
            rw [aR_s] at hP hD
            exact (hG _ _ _).mp (ih115 (k + 1) (by omega) (by assumption) (by omega) (by omega) (by omega) _ _ hP hD hS _ (lv_sub hl [1, 2, 3, 4, 5, 6, 0] rfl))
      have L96 : ∀ (_ : Unit), m_ < 10 ^ (n - 1) → ∀ (H : Heap) (locs : List Loc), va_P (dC, dI) vwCl [((b 0), .inr (10, [.ref (b 1), .int (nI (len)), .ref (b 2), .int (r_s), .ref (b 3), .int (r_w), .int (st), .int (nI (n)), .int (nI (w)), .int (wk), .int (tr), .ref (b 4), .ref (b 5), .int (nd), .ref (b 6), .ref (b 7), .int (hd), .ref (b 8), .int (sd), .ref (b 9), .int (kt), .int (kw), .int (kh), .ref (b 10), .ref (b 11), .long (hz)])), ((b 4), .inl (cI, 32, .inl (fun ii => nI (R ii)))), ((b 5), .inl (cI, 5, .inl mm)), ((b 6), .inl (cI, 4, .inl (fun ii => nI ((pQ P3 n s_ m_ 0) ii)))), ((b 7), .inl (cI, 4, .inl (fun ii => nI (Q3 ii))))] H → va_D A [((b 0), .inr (10, [.ref (b 1), .int (nI (len)), .ref (b 2), .int (r_s), .ref (b 3), .int (r_w), .int (st), .int (nI (n)), .int (nI (w)), .int (wk), .int (tr), .ref (b 4), .ref (b 5), .int (nd), .ref (b 6), .ref (b 7), .int (hd), .ref (b 8), .int (sd), .ref (b 9), .int (kt), .int (kw), .int (kh), .ref (b 10), .ref (b 11), .long (hz)])), ((b 4), .inl (cI, 32, .inl (fun ii => nI (R ii)))), ((b 5), .inl (cI, 5, .inl mm)), ((b 6), .inl (cI, 4, .inl (fun ii => nI ((pQ P3 n s_ m_ 0) ii)))), ((b 7), .inl (cI, 4, .inl (fun ii => nI (Q3 ii))))] → va_S A s.heap H locs → ∀ (ls : Array Slot), lv_has ls 8 [(0, .ref (b 0)), (1, .int (nI (s_))), (2, .int (nI (10 ^ (n - 1)))), (3, .int (oI (nd_ R mi n w s_ m_).1)), (4, .int (nI (m_))), (5, .int (bI (mayF R n s_ m_ 0))), (6, .int (nI (pS n s_ m_ 0)))] → G H locs (F0 m 96 ls []) := by
        intro _ hm1 H locs hP hD hS ls hl
        refine (hG _ _ _).mpr ?_
        refine lv_iload hx hb dX10_layNeed_96 (lv_at hl 5 rfl) ?_
        refine lv_if_eq (tgt := 216) hx hb dX10_layNeed_98 (by decide) (fun c7 => ?_) (fun c7 => ?_)
        · have c7 := bI_0.mp c7
          refine lv_iinc (v := nI (m_ + 1)) (lv' := [(4, .int (nI (m_ + 1))), (0, .ref (b 0)), (1, .int (nI (s_))), (2, .int (nI (10 ^ (n - 1)))), (3, .int (oI (nd_ R mi n w s_ m_).1)), (5, .int (bI (mayF R n s_ m_ 0))), (6, .int (nI (pS n s_ m_ 0)))]) hx hb dX10_layNeed_216 hl (k := 4) rfl (nI_add (m_) 1) (by decide) rfl (fun ls hl => ?_)
          refine lv_goto (tgt := 28) hx hb dX10_layNeed_219 (by decide) ?_
          exact (hG _ _ _).mp (ih28 (m_ + 1) (pQ P3 n s_ m_ 0) (Q3) (by omega) (by rw [(nd_n (R := R) (mi := mi) (n := n) (w := w) (o := s_) (m := m_) (fun q9 => by first | exact absurd q9.1.1 (by assumption) | (have q2 := q9.1.2; have q3 := q9.2; omega)))]; exact hQ) (by omega) _ _ hP hD hS _ (by rw [(nd_n (R := R) (mi := mi) (n := n) (w := w) (o := s_) (m := m_) (fun q9 => by first | exact absurd q9.1.1 (by assumption) | (have q2 := q9.1.2; have q3 := q9.2; omega)))]; exact lv_sub hl [1, 2, 3, 4, 0] rfl))
        · have c7 := Decidable.not_not.mp (mt bI_0.mpr c7)
          refine lv_iload_n hx hb dX10_layNeed_101 rfl (lv_at hl 3 rfl) ?_
          refine lv_iconst (v := -1) hx hb dX10_layNeed_102 (by decide) ?_
          refine lv_icmp_eq (tgt := 112) hx hb dX10_layNeed_103 (by decide) (fun c8 => ?_) (fun c8 => ?_)
          · have c8 := (oI_m1 (by omega)).mp c8
            refine lv_iconst (v := nI (0)) hx hb dX10_layNeed_112 (by decide) ?_
            refine lv_istore (lv' := [(7, .int (nI (0))), (0, .ref (b 0)), (1, .int (nI (s_))), (2, .int (nI (10 ^ (n - 1)))), (3, .int (oI (nd_ R mi n w s_ m_).1)), (4, .int (nI (m_))), (5, .int (bI (mayF R n s_ m_ 0))), (6, .int (nI (pS n s_ m_ 0)))]) hx hb dX10_layNeed_113 hl (by decide) rfl (fun ls hl => ?_)
            have hP : va_P (dC, dI) vwCl [((b 0), .inr (10, [.ref (b 1), .int (nI (len)), .ref (b 2), .int (r_s), .ref (b 3), .int (r_w), .int (st), .int (nI (n)), .int (nI (w)), .int (wk), .int (tr), .ref (b 4), .ref (b 5), .int (nd), .ref (b 6), .ref (b 7), .int (hd), .ref (b 8), .int (sd), .ref (b 9), .int (kt), .int (kw), .int (kh), .ref (b 10), .ref (b 11), .long (hz)])), ((b 4), .inl (cI, 32, .inl (fun ii => nI ((aR R n s_ m_ 0) ii)))), ((b 5), .inl (cI, 5, .inl mm)), ((b 6), .inl (cI, 4, .inl (fun ii => nI ((pQ P3 n s_ m_ 0) ii)))), ((b 7), .inl (cI, 4, .inl (fun ii => nI (Q3 ii))))] H := by rw [aR_0]; exact hP
            have hD : va_D A [((b 0), .inr (10, [.ref (b 1), .int (nI (len)), .ref (b 2), .int (r_s), .ref (b 3), .int (r_w), .int (st), .int (nI (n)), .int (nI (w)), .int (wk), .int (tr), .ref (b 4), .ref (b 5), .int (nd), .ref (b 6), .ref (b 7), .int (hd), .ref (b 8), .int (sd), .ref (b 9), .int (kt), .int (kw), .int (kh), .ref (b 10), .ref (b 11), .long (hz)])), ((b 4), .inl (cI, 32, .inl (fun ii => nI ((aR R n s_ m_ 0) ii)))), ((b 5), .inl (cI, 5, .inl mm)), ((b 6), .inl (cI, 4, .inl (fun ii => nI ((pQ P3 n s_ m_ 0) ii)))), ((b 7), .inl (cI, 4, .inl (fun ii => nI (Q3 ii))))] := hD.as rfl
            exact (hG _ _ _).mp (L115 (n + 1) (0) (by omega) (by assumption) (by omega) (by omega) (by omega) _ _ hP hD hS _ (lv_sub hl [1, 2, 3, 4, 5, 7, 0] rfl))
          · have c8 := mt (oI_m1 (by omega)).mpr c8
            refine lv_iload hx hb dX10_layNeed_106 (lv_at hl 6 rfl) ?_
            refine lv_iload_n hx hb dX10_layNeed_108 rfl (lv_at hl 3 rfl) ?_
            refine lv_icmp_ge (tgt := 216) hx hb dX10_layNeed_109 (by decide) (fun c9 => ?_) (fun c9 => ?_)
            · have c9 := (rI_le (by omega)).mp c9
              refine lv_iinc (v := nI (m_ + 1)) (lv' := [(4, .int (nI (m_ + 1))), (0, .ref (b 0)), (1, .int (nI (s_))), (2, .int (nI (10 ^ (n - 1)))), (3, .int (oI (nd_ R mi n w s_ m_).1)), (5, .int (bI (mayF R n s_ m_ 0))), (6, .int (nI (pS n s_ m_ 0)))]) hx hb dX10_layNeed_216 hl (k := 4) rfl (nI_add (m_) 1) (by decide) rfl (fun ls hl => ?_)
              refine lv_goto (tgt := 28) hx hb dX10_layNeed_219 (by decide) ?_
              exact (hG _ _ _).mp (ih28 (m_ + 1) (pQ P3 n s_ m_ 0) (Q3) (by omega) (by rw [(nd_n (R := R) (mi := mi) (n := n) (w := w) (o := s_) (m := m_) (fun q9 => by first | exact absurd q9.1.1 (by assumption) | (have q2 := q9.1.2; have q3 := q9.2; omega)))]; exact hQ) (by omega) _ _ hP hD hS _ (by rw [(nd_n (R := R) (mi := mi) (n := n) (w := w) (o := s_) (m := m_) (fun q9 => by first | exact absurd q9.1.1 (by assumption) | (have q2 := q9.1.2; have q3 := q9.2; omega)))]; exact lv_sub hl [1, 2, 3, 4, 0] rfl))
            · have c9 := mt (rI_le (by omega)).mpr c9
              refine lv_iconst (v := nI (0)) hx hb dX10_layNeed_112 (by decide) ?_
              refine lv_istore (lv' := [(7, .int (nI (0))), (0, .ref (b 0)), (1, .int (nI (s_))), (2, .int (nI (10 ^ (n - 1)))), (3, .int (oI (nd_ R mi n w s_ m_).1)), (4, .int (nI (m_))), (5, .int (bI (mayF R n s_ m_ 0))), (6, .int (nI (pS n s_ m_ 0)))]) hx hb dX10_layNeed_113 hl (by decide) rfl (fun ls hl => ?_)
              have hP : va_P (dC, dI) vwCl [((b 0), .inr (10, [.ref (b 1), .int (nI (len)), .ref (b 2), .int (r_s), .ref (b 3), .int (r_w), .int (st), .int (nI (n)), .int (nI (w)), .int (wk), .int (tr), .ref (b 4), .ref (b 5), .int (nd), .ref (b 6), .ref (b 7), .int (hd), .ref (b 8), .int (sd), .ref (b 9), .int (kt), .int (kw), .int (kh), .ref (b 10), .ref (b 11), .long (hz)])), ((b 4), .inl (cI, 32, .inl (fun ii => nI ((aR R n s_ m_ 0) ii)))), ((b 5), .inl (cI, 5, .inl mm)), ((b 6), .inl (cI, 4, .inl (fun ii => nI ((pQ P3 n s_ m_ 0) ii)))), ((b 7), .inl (cI, 4, .inl (fun ii => nI (Q3 ii))))] H := by rw [aR_0]; exact hP
              have hD : va_D A [((b 0), .inr (10, [.ref (b 1), .int (nI (len)), .ref (b 2), .int (r_s), .ref (b 3), .int (r_w), .int (st), .int (nI (n)), .int (nI (w)), .int (wk), .int (tr), .ref (b 4), .ref (b 5), .int (nd), .ref (b 6), .ref (b 7), .int (hd), .ref (b 8), .int (sd), .ref (b 9), .int (kt), .int (kw), .int (kh), .ref (b 10), .ref (b 11), .long (hz)])), ((b 4), .inl (cI, 32, .inl (fun ii => nI ((aR R n s_ m_ 0) ii)))), ((b 5), .inl (cI, 5, .inl mm)), ((b 6), .inl (cI, 4, .inl (fun ii => nI ((pQ P3 n s_ m_ 0) ii)))), ((b 7), .inl (cI, 4, .inl (fun ii => nI (Q3 ii))))] := hD.as rfl
              exact (hG _ _ _).mp (L115 (n + 1) (0) (by omega) (by assumption) (by omega) (by omega) (by omega) _ _ hP hD hS _ (lv_sub hl [1, 2, 3, 4, 5, 7, 0] rfl))
      refine (hG _ _ _).mpr ?_
      refine lv_iload hx hb dX10_layNeed_28 (lv_at hl 4 rfl) ?_
      refine lv_iload_n hx hb dX10_layNeed_30 rfl (lv_at hl 2 rfl) ?_
      refine lv_icmp_ge (tgt := 222) hx hb dX10_layNeed_31 (by decide) (fun c10 => ?_) (fun c10 => ?_)
      · have c10 := (nI_leI (by omega) (by omega)).mp c10
        refine lv_iload_n hx hb dX10_layNeed_222 rfl (lv_at hl 3 rfl) ?_
        have hme : m_ = 10 ^ (n - 1) := by omega
        subst hme
        have hP9 := hP
        exact W.iret hx hb hr (fun t ht hW => ⟨⟨_, (P3, Q3), rfl, ⟨rfl, hQ⟩, by rw [ht]; exact hP9, hD.as rfl⟩, hS.F ht⟩) hS.2.2 dX10_layNeed_223
      · have c10 := mt (nI_leI (by omega) (by omega)).mpr c10
        refine lv_aload_n hx hb dX10_layNeed_34 rfl (lv_at hl 0 rfl) ?_
        refine lv_iload_n hx hb dX10_layNeed_35 rfl (lv_at hl 1 rfl) ?_
        refine lv_iload hx hb dX10_layNeed_36 (lv_at hl 4 rfl) ?_
        refine mu_calli (wr := [((b 5), .inl (cI, 5, .inl mm)), ((b 7), .inl (cI, 4, .inl (fun ii => nI (Q3 ii))))]) (wn := (fun _ => [((b 0), .inr (10, [.ref (b 1), .int (nI (len)), .ref (b 2), .int (r_s), .ref (b 3), .int (r_w), .int (st), .int (nI (n)), .int (nI (w)), .int (wk), .int (tr), .ref (b 4), .ref (b 5), .int (nd), .ref (b 6), .ref (b 7), .int (hd), .ref (b 8), .int (sd), .ref (b 9), .int (kt), .int (kw), .int (kh), .ref (b 10), .ref (b 11), .long (hz)])), ((b 4), .inl (cI, 32, .inl (fun ii => nI (R ii)))), ((b 5), .inl (cI, 5, .inl mm)), ((b 6), .inl (cI, 4, .inl (fun ii => nI ((pQ P3 n s_ m_ 0) ii)))), ((b 7), .inl (cI, 4, .inl (fun ii => nI (Q3 ii))))])) (va_runV (As := [.int (nI (s_)), .int (nI (m_))]) (rest := []) ⟨hx, hb, hml, hown, hts⟩ (c_M_layMore l dC dI cI _ b len r_s r_w st n w wk tr nd hd sd kt kw kh hz R hR hn hw P3 s_ m_ hs (by omega) (h9 s_ (by omega))) (cwV 2 hts gX10_layNeed_X10_layMore rfl rfl rfl (by decide +kernel) ⟨Nat.le_of_ble_eq_true rfl, Nat.le_of_ble_eq_true rfl⟩) (mu_pv hK hP hD [0, 1, 3] (by decide) rfl rfl (ci := 10) (q0 := 0) (C := RX10) (T := TX10) (N := 26) rfl rfl) rfl rfl hl.1 rfl (lv_room (Nat.le_of_ble_eq_true rfl)) dX10_layNeed_38 ⟨Nat.zero_le _, Nat.zero_le _⟩) hS hA hP hD [0, 1, 3] [2, 4] [2, 3, 0, 4, 1] rfl rfl (by decide) (by decide) (by decide) (fun _ => rfl) (fun _ => rfl) (fun r12 u11 H locs hr12 hP hD hS => ?_)
        subst hr12
        have hP : va_P (dC, dI) vwCl [((b 0), .inr (10, [.ref (b 1), .int (nI (len)), .ref (b 2), .int (r_s), .ref (b 3), .int (r_w), .int (st), .int (nI (n)), .int (nI (w)), .int (wk), .int (tr), .ref (b 4), .ref (b 5), .int (nd), .ref (b 6), .ref (b 7), .int (hd), .ref (b 8), .int (sd), .ref (b 9), .int (kt), .int (kw), .int (kh), .ref (b 10), .ref (b 11), .long (hz)])), ((b 4), .inl (cI, 32, .inl (fun ii => nI (R ii)))), ((b 5), .inl (cI, 5, .inl mm)), ((b 6), .inl (cI, 4, .inl (fun ii => nI ((pQ P3 n s_ m_ 0) ii)))), ((b 7), .inl (cI, 4, .inl (fun ii => nI (Q3 ii))))] H := hP
        have hD : va_D A [((b 0), .inr (10, [.ref (b 1), .int (nI (len)), .ref (b 2), .int (r_s), .ref (b 3), .int (r_w), .int (st), .int (nI (n)), .int (nI (w)), .int (wk), .int (tr), .ref (b 4), .ref (b 5), .int (nd), .ref (b 6), .ref (b 7), .int (hd), .ref (b 8), .int (sd), .ref (b 9), .int (kt), .int (kw), .int (kh), .ref (b 10), .ref (b 11), .long (hz)])), ((b 4), .inl (cI, 32, .inl (fun ii => nI (R ii)))), ((b 5), .inl (cI, 5, .inl mm)), ((b 6), .inl (cI, 4, .inl (fun ii => nI ((pQ P3 n s_ m_ 0) ii)))), ((b 7), .inl (cI, 4, .inl (fun ii => nI (Q3 ii))))] := hD
        refine lv_istore (lv' := [(5, .int (bI (mayF R n s_ m_ 0))), (0, .ref (b 0)), (1, .int (nI (s_))), (2, .int (nI (10 ^ (n - 1)))), (3, .int (oI (nd_ R mi n w s_ m_).1)), (4, .int (nI (m_)))]) hx hb dX10_layNeed_41 hl (by decide) rfl (fun ls hl => ?_)
        refine lv_aload_n hx hb dX10_layNeed_43 rfl (lv_at hl 1 rfl) ?_
        refine va_get (D := (dC, dI)) (ci := 10) (v := .ref (b 6)) (C := RX10) (T := TX10) (N := 26) hx hb hts (fun _ h => List.mem_cons_of_mem _ (List.mem_append_right _ (h))) hown hK.1 hP 0 rfl rfl 14 (by decide) (hts (Cond.fieldLink RX10 25 "WorstVoiceModel" "more" "[I") (List.mem_of_getElem? (i := 2) rfl)) (fun _ h9 => h9) rfl dX10_layNeed_44 ?_
        refine lv_iconst (v := nI (0)) hx hb dX10_layNeed_47 (by decide) ?_
        refine va_iald hx hb hK.1 hP 3 0 rfl rfl (vp_in_nI (by omega) (by decide)) dX10_layNeed_48 ?_
        refine tp_i (z := nI (pm n s_ m_ 0)) ((ld_n (fun ii => nI ((pQ P3 n s_ m_ 0) ii)) (by omega)).trans (congrArg nI (pQ_at (by omega)))) ?_
        have hpm0 := pm_le n s_ m_ 0
        refine lv_aload_n hx hb dX10_layNeed_49 rfl (lv_at hl 1 rfl) ?_
        refine va_get (D := (dC, dI)) (ci := 10) (v := .ref (b 6)) (C := RX10) (T := TX10) (N := 26) hx hb hts (fun _ h => List.mem_cons_of_mem _ (List.mem_append_right _ (h))) hown hK.1 hP 0 rfl rfl 14 (by decide) (hts (Cond.fieldLink RX10 25 "WorstVoiceModel" "more" "[I") (List.mem_of_getElem? (i := 2) rfl)) (fun _ h9 => h9) rfl dX10_layNeed_50 ?_
        refine lv_iconst (v := nI (1)) hx hb dX10_layNeed_53 (by decide) ?_
        refine va_iald hx hb hK.1 hP 3 0 rfl rfl (vp_in_nI (by omega) (by decide)) dX10_layNeed_54 ?_
        refine tp_i (z := nI (pm n s_ m_ 1)) ((ld_n (fun ii => nI ((pQ P3 n s_ m_ 0) ii)) (by omega)).trans (congrArg nI (pQ_at (by omega)))) ?_
        have hpm1 := pm_le n s_ m_ 1
        refine lv_iadd hx hb dX10_layNeed_55 ?_
        refine tp_i (z := nI (pm n s_ m_ 0 + pm n s_ m_ 1)) (nI_add (pm n s_ m_ 0) (pm n s_ m_ 1)) ?_
        refine lv_aload_n hx hb dX10_layNeed_56 rfl (lv_at hl 1 rfl) ?_
        refine va_get (D := (dC, dI)) (ci := 10) (v := .int (nI (n))) (C := RX10) (T := TX10) (N := 26) hx hb hts (fun _ h => List.mem_cons_of_mem _ (List.mem_append_right _ (h))) hown hK.1 hP 0 rfl rfl 7 (by decide) (hts (Cond.fieldLink RX10 81 "WorstVoiceModel" "singers" "I") (List.mem_of_getElem? (i := 1) rfl)) (fun _ h9 => h9) rfl dX10_layNeed_57 ?_
        refine lv_iconst (v := nI (2)) hx hb dX10_layNeed_60 (by decide) ?_
        refine lv_icmp_le (tgt := 73) hx hb dX10_layNeed_61 (by decide) (fun c13 => ?_) (fun c13 => ?_)
        · have c13 := (nI_leI (by omega) (by decide)).mp c13
          refine lv_iconst (v := nI (0)) hx hb dX10_layNeed_73 (by decide) ?_
          refine lv_iadd hx hb dX10_layNeed_74 ?_
          refine tp_i (z := nI (pm n s_ m_ 0 + pm n s_ m_ 1 + 0)) (nI_add (pm n s_ m_ 0 + pm n s_ m_ 1) (0)) ?_
          refine lv_aload_n hx hb dX10_layNeed_75 rfl (lv_at hl 1 rfl) ?_
          refine va_get (D := (dC, dI)) (ci := 10) (v := .int (nI (n))) (C := RX10) (T := TX10) (N := 26) hx hb hts (fun _ h => List.mem_cons_of_mem _ (List.mem_append_right _ (h))) hown hK.1 hP 0 rfl rfl 7 (by decide) (hts (Cond.fieldLink RX10 81 "WorstVoiceModel" "singers" "I") (List.mem_of_getElem? (i := 1) rfl)) (fun _ h9 => h9) rfl dX10_layNeed_76 ?_
          refine lv_iconst (v := nI (3)) hx hb dX10_layNeed_79 (by decide) ?_
          refine lv_icmp_le (tgt := 92) hx hb dX10_layNeed_80 (by decide) (fun c14 => ?_) (fun c14 => ?_)
          · have c14 := (nI_leI (by omega) (by decide)).mp c14
            refine lv_iconst (v := nI (0)) hx hb dX10_layNeed_92 (by decide) ?_
            refine lv_iadd hx hb dX10_layNeed_93 ?_
            refine tp_i (z := nI (pS n s_ m_ 0)) ((nI_add _ _).trans (congrArg nI (by rw [pS_2 hn hn2]; (repeat' split) <;> omega))) ?_
            refine lv_istore (lv' := [(6, .int (nI (pS n s_ m_ 0))), (5, .int (bI (mayF R n s_ m_ 0))), (0, .ref (b 0)), (1, .int (nI (s_))), (2, .int (nI (10 ^ (n - 1)))), (3, .int (oI (nd_ R mi n w s_ m_).1)), (4, .int (nI (m_)))]) hx hb dX10_layNeed_94 hl (by decide) rfl (fun ls hl => ?_)
            exact (hG _ _ _).mp (L96 () (by omega) _ _ hP hD hS _ (lv_sub hl [2, 3, 4, 5, 6, 1, 0] rfl))
          · have c14 := mt (nI_leI (by omega) (by decide)).mpr c14
            exfalso; omega
        · have c13 := mt (nI_leI (by omega) (by decide)).mpr c13
          refine lv_aload_n hx hb dX10_layNeed_64 rfl (lv_at hl 1 rfl) ?_
          refine va_get (D := (dC, dI)) (ci := 10) (v := .ref (b 6)) (C := RX10) (T := TX10) (N := 26) hx hb hts (fun _ h => List.mem_cons_of_mem _ (List.mem_append_right _ (h))) hown hK.1 hP 0 rfl rfl 14 (by decide) (hts (Cond.fieldLink RX10 25 "WorstVoiceModel" "more" "[I") (List.mem_of_getElem? (i := 2) rfl)) (fun _ h9 => h9) rfl dX10_layNeed_65 ?_
          refine lv_iconst (v := nI (2)) hx hb dX10_layNeed_68 (by decide) ?_
          refine va_iald hx hb hK.1 hP 3 0 rfl rfl (vp_in_nI (by omega) (by decide)) dX10_layNeed_69 ?_
          refine tp_i (z := nI (pm n s_ m_ 2)) ((ld_n (fun ii => nI ((pQ P3 n s_ m_ 0) ii)) (by omega)).trans (congrArg nI (pQ_at (by omega)))) ?_
          have hpm2 := pm_le n s_ m_ 2
          refine lv_goto (tgt := 74) hx hb dX10_layNeed_70 (by decide) ?_
          refine lv_iadd hx hb dX10_layNeed_74 ?_
          refine tp_i (z := nI (pm n s_ m_ 0 + pm n s_ m_ 1 + pm n s_ m_ 2)) (nI_add (pm n s_ m_ 0 + pm n s_ m_ 1) (pm n s_ m_ 2)) ?_
          refine lv_aload_n hx hb dX10_layNeed_75 rfl (lv_at hl 1 rfl) ?_
          refine va_get (D := (dC, dI)) (ci := 10) (v := .int (nI (n))) (C := RX10) (T := TX10) (N := 26) hx hb hts (fun _ h => List.mem_cons_of_mem _ (List.mem_append_right _ (h))) hown hK.1 hP 0 rfl rfl 7 (by decide) (hts (Cond.fieldLink RX10 81 "WorstVoiceModel" "singers" "I") (List.mem_of_getElem? (i := 1) rfl)) (fun _ h9 => h9) rfl dX10_layNeed_76 ?_
          refine lv_iconst (v := nI (3)) hx hb dX10_layNeed_79 (by decide) ?_
          refine lv_icmp_le (tgt := 92) hx hb dX10_layNeed_80 (by decide) (fun c15 => ?_) (fun c15 => ?_)
          · have c15 := (nI_leI (by omega) (by decide)).mp c15
            refine lv_iconst (v := nI (0)) hx hb dX10_layNeed_92 (by decide) ?_
            refine lv_iadd hx hb dX10_layNeed_93 ?_
            refine tp_i (z := nI (pS n s_ m_ 0)) ((nI_add _ _).trans (congrArg nI (by rw [pS_2 hn hn2]; (repeat' split) <;> omega))) ?_
            refine lv_istore (lv' := [(6, .int (nI (pS n s_ m_ 0))), (5, .int (bI (mayF R n s_ m_ 0))), (0, .ref (b 0)), (1, .int (nI (s_))), (2, .int (nI (10 ^ (n - 1)))), (3, .int (oI (nd_ R mi n w s_ m_).1)), (4, .int (nI (m_)))]) hx hb dX10_layNeed_94 hl (by decide) rfl (fun ls hl => ?_)
            exact (hG _ _ _).mp (L96 () (by omega) _ _ hP hD hS _ (lv_sub hl [2, 3, 4, 5, 6, 1, 0] rfl))
          · have c15 := mt (nI_leI (by omega) (by decide)).mpr c15
            refine lv_aload_n hx hb dX10_layNeed_83 rfl (lv_at hl 1 rfl) ?_
            refine va_get (D := (dC, dI)) (ci := 10) (v := .ref (b 6)) (C := RX10) (T := TX10) (N := 26) hx hb hts (fun _ h => List.mem_cons_of_mem _ (List.mem_append_right _ (h))) hown hK.1 hP 0 rfl rfl 14 (by decide) (hts (Cond.fieldLink RX10 25 "WorstVoiceModel" "more" "[I") (List.mem_of_getElem? (i := 2) rfl)) (fun _ h9 => h9) rfl dX10_layNeed_84 ?_
            refine lv_iconst (v := nI (3)) hx hb dX10_layNeed_87 (by decide) ?_
            refine va_iald hx hb hK.1 hP 3 0 rfl rfl (vp_in_nI (by omega) (by decide)) dX10_layNeed_88 ?_
            refine tp_i (z := nI (pm n s_ m_ 3)) ((ld_n (fun ii => nI ((pQ P3 n s_ m_ 0) ii)) (by omega)).trans (congrArg nI (pQ_at (by omega)))) ?_
            have hpm3 := pm_le n s_ m_ 3
            refine lv_goto (tgt := 93) hx hb dX10_layNeed_89 (by decide) ?_
            refine lv_iadd hx hb dX10_layNeed_93 ?_
            refine tp_i (z := nI (pS n s_ m_ 0)) ((nI_add _ _).trans (congrArg nI (by rw [pS_2 hn hn2]; (repeat' split) <;> omega))) ?_
            refine lv_istore (lv' := [(6, .int (nI (pS n s_ m_ 0))), (5, .int (bI (mayF R n s_ m_ 0))), (0, .ref (b 0)), (1, .int (nI (s_))), (2, .int (nI (10 ^ (n - 1)))), (3, .int (oI (nd_ R mi n w s_ m_).1)), (4, .int (nI (m_)))]) hx hb dX10_layNeed_94 hl (by decide) rfl (fun ls hl => ?_)
            exact (hG _ _ _).mp (L96 () (by omega) _ _ hP hD hS _ (lv_sub hl [2, 3, 4, 5, 6, 1, 0] rfl))
  have L4 : ∀ (fu : Nat) (k : Nat), 1 ≤ k → k ≤ n → n + 1 ≤ k + fu → ∀ (H : Heap) (locs : List Loc), va_P (dC, dI) vwCl [((b 0), .inr (10, [.ref (b 1), .int (nI (len)), .ref (b 2), .int (r_s), .ref (b 3), .int (r_w), .int (st), .int (nI (n)), .int (nI (w)), .int (wk), .int (tr), .ref (b 4), .ref (b 5), .int (nd), .ref (b 6), .ref (b 7), .int (hd), .ref (b 8), .int (sd), .ref (b 9), .int (kt), .int (kw), .int (kh), .ref (b 10), .ref (b 11), .long (hz)])), ((b 4), .inl (cI, 32, .inl (fun ii => nI (R ii)))), ((b 5), .inl (cI, 5, .inl mm)), ((b 6), .inl (cI, 4, .inl (fun ii => nI (P2 ii)))), ((b 7), .inl (cI, 4, .inl (fun ii => nI (Q2 ii))))] H → va_D A [((b 0), .inr (10, [.ref (b 1), .int (nI (len)), .ref (b 2), .int (r_s), .ref (b 3), .int (r_w), .int (st), .int (nI (n)), .int (nI (w)), .int (wk), .int (tr), .ref (b 4), .ref (b 5), .int (nd), .ref (b 6), .ref (b 7), .int (hd), .ref (b 8), .int (sd), .ref (b 9), .int (kt), .int (kw), .int (kh), .ref (b 10), .ref (b 11), .long (hz)])), ((b 4), .inl (cI, 32, .inl (fun ii => nI (R ii)))), ((b 5), .inl (cI, 5, .inl mm)), ((b 6), .inl (cI, 4, .inl (fun ii => nI (P2 ii)))), ((b 7), .inl (cI, 4, .inl (fun ii => nI (Q2 ii))))] → va_S A s.heap H locs → ∀ (ls : Array Slot), lv_has ls 8 [(0, .ref (b 0)), (1, .int (nI (s_))), (2, .int (nI (10 ^ (k - 1)))), (3, .int (nI (k)))] → G H locs (F0 m 4 ls []) := by
    intro fu
    induction fu with
    | zero => intro k h1 h2 hfu H locs hP hD hS ls hl; omega
    | succ fu ih4 =>
      intro k h1 h2 hfu H locs hP hD hS ls hl
      refine (hG _ _ _).mpr ?_
      refine lv_iload_n hx hb dX10_layNeed_4 rfl (lv_at hl 3 rfl) ?_
      refine lv_aload_n hx hb dX10_layNeed_5 rfl (lv_at hl 0 rfl) ?_
      refine va_get (D := (dC, dI)) (ci := 10) (v := .int (nI (n))) (C := RX10) (T := TX10) (N := 26) hx hb hts (fun _ h => List.mem_cons_of_mem _ (List.mem_append_right _ (h))) hown hK.1 hP 0 rfl rfl 7 (by decide) (hts (Cond.fieldLink RX10 81 "WorstVoiceModel" "singers" "I") (List.mem_of_getElem? (i := 1) rfl)) (fun _ h9 => h9) rfl dX10_layNeed_6 ?_
      refine lv_icmp_ge (tgt := 23) hx hb dX10_layNeed_9 (by decide) (fun c16 => ?_) (fun c16 => ?_)
      · have c16 := (nI_leI (by omega) (by omega)).mp c16
        rw [show k = n by omega] at hl
        have hl : lv_has ls 8 [(0, .ref (b 0)), (1, .int (nI (s_))), (2, .int (nI (10 ^ (n - 1)))), (3, .int (nI (n)))] := hl
        refine lv_iconst (v := -1) hx hb dX10_layNeed_23 (by decide) ?_
        refine lv_istore_n (lv' := [(3, .int (-1)), (0, .ref (b 0)), (1, .int (nI (s_))), (2, .int (nI (10 ^ (n - 1))))]) hx hb dX10_layNeed_24 rfl hl (by decide) rfl (fun ls hl => ?_)
        refine lv_iconst (v := nI (0)) hx hb dX10_layNeed_25 (by decide) ?_
        refine lv_istore (lv' := [(4, .int (nI (0))), (3, .int (-1)), (0, .ref (b 0)), (1, .int (nI (s_))), (2, .int (nI (10 ^ (n - 1))))]) hx hb dX10_layNeed_26 hl (by decide) rfl (fun ls hl => ?_)
        exact (hG _ _ _).mp (L28 (10 ^ (n - 1) + 1) (0) (P2) (Q2) (Nat.zero_le _) (fun q _ _ => absurd q (Nat.lt_irrefl 0)) (by omega) _ _ hP hD hS _ (lv_sub hl [2, 3, 4, 1, 0] rfl))
      · have c16 := mt (nI_leI (by omega) (by omega)).mpr c16
        refine lv_iload_n hx hb dX10_layNeed_12 rfl (lv_at hl 2 rfl) ?_
        refine lv_bipush (v := nI (10)) hx hb dX10_layNeed_13 (by decide) ?_
        refine lv_imul hx hb dX10_layNeed_15 ?_
        refine tp_i (z := nI (10 ^ (k + 1 - 1))) ((pk_mul _ _).trans (congrArg nI (p10 h1))) ?_
        refine lv_istore_n (lv' := [(2, .int (nI (10 ^ (k + 1 - 1)))), (0, .ref (b 0)), (1, .int (nI (s_))), (3, .int (nI (k)))]) hx hb dX10_layNeed_16 rfl hl (by decide) rfl (fun ls hl => ?_)
        refine lv_iinc (v := nI (k + 1)) (lv' := [(3, .int (nI (k + 1))), (2, .int (nI (10 ^ (k + 1 - 1)))), (0, .ref (b 0)), (1, .int (nI (s_)))]) hx hb dX10_layNeed_17 hl (k := 3) rfl (nI_add (k) 1) (by decide) rfl (fun ls hl => ?_)
        refine lv_goto (tgt := 4) hx hb dX10_layNeed_20 (by decide) ?_
        exact (hG _ _ _).mp (ih4 (k + 1) (by omega) (by omega) (by omega) _ _ hP hD hS _ (lv_sub hl [2, 3, 1, 0] rfl))
  refine (hG _ _ _).mpr ?_
  refine lv_iconst (v := nI (1)) hx hb dX10_layNeed_0 (by decide) ?_
  refine lv_istore_n (lv' := [(2, .int (nI (1))), (0, .ref (b 0)), (1, .int (nI (s_)))]) hx hb dX10_layNeed_1 rfl hl (by decide) rfl (fun ls hl => ?_)
  refine lv_iconst (v := nI (1)) hx hb dX10_layNeed_2 (by decide) ?_
  refine lv_istore_n (lv' := [(3, .int (nI (1))), (2, .int (nI (1))), (0, .ref (b 0)), (1, .int (nI (s_)))]) hx hb dX10_layNeed_3 rfl hl (by decide) rfl (fun ls hl => ?_)
  exact (hG _ _ _).mp (L4 (n + 1) (1) (by omega) (by omega) (by omega) _ _ hP hD hS _ (lv_sub hl [2, 3, 1, 0] rfl))

set_option maxHeartbeats 4000000 in
set_option maxRecDepth 100000 in
theorem c_M_needN (l : Launch) (dC : Nat → ClassId) (dI : Nat → Nat → Nat) (cI : ClassId) (b : Nat → Nat) (pm r_s r_w st : Int32) (n w : Nat) (wk tr nd hd sd kt kw kh : Int32) (hz : Int64) (R : Nat → Nat) (hR : WR R) (hn : n ≤ 4) (hw : w ≤ 5) (x : Int32) (y : Int32) (hxn : ¬ inR x n) : Met l yX10_need wsX10_need ({ frames := 2, cells := 0, slots := 0, locals := 46 } : Room) (roP dC dI cI ([moW b pm r_s r_w st n w wk tr nd hd sd kt kw kh hz] ++ [(b 4, .inl (cI, 32, .inl (fun i => nI (R i))))]) [.ref (b 0), .int (x), .int (y)]) (roI (fun r => r = -101)) 0 0 (fun _ => False) := by
  refine Met.ofW (cc := cX10_need) (maxL := 4) (ret := (some .int)) (by decide) rfl ?_
  intro p e s m args below meth c s₁ B hml hv
  obtain ⟨rfl, hP, hK⟩ := hv
  have hx := B.exec
  have hb := B.bytes
  have hr := B.returns
  have hts := atoms_spec (ws := wsX10_need) B.pre
  have hown : s.vm.findClass RX10 = some m.cls := findClass_of_methodNamed B.named
  have hlocks := B.notSynchronized
  have hS : va_S (fun _ => False) s.heap s.heap [] := va_S.rf
  have hl := lv_entry ([.ref (b 0), .int (x), .int (y)]) (n := 4) (Nat.le_of_ble_eq_true rfl)
  rw [lg_entry_eq]
  generalize (lg_sl ([.ref (b 0), .int (x), .int (y)]) ++ List.replicate (4 - (lg_sl ([.ref (b 0), .int (x), .int (y)])).length) Slot.unset).toArray = ls at hl ⊢
  have hl : lv_has ls 4 [(0, .ref (b 0)), (1, .int (x)), (2, .int (y))] := hl
  refine lv_aload_n hx hb dX10_need_0 rfl (lv_at hl 0 rfl) ?_
  refine lv_iload_n hx hb dX10_need_1 rfl (lv_at hl 1 rfl) ?_
  refine ro_calli (va_runV (As := [.int (x)]) (rest := []) ⟨hx, hb, hml, hown, hts⟩ (c_X10_isSinger l dC dI cI b pm r_s r_w st n w wk tr nd hd sd kt kw kh hz (by omega) (by omega) (x)) (cwV 1 hts gX10_need_X10_isSinger rfl rfl rfl (by decide +kernel) ⟨Nat.le_of_ble_eq_true rfl, Nat.le_of_ble_eq_true rfl⟩) (ro_pv hK hP [0] rfl (ci := 10) (q0 := 0) (C := RX10) (T := TX10) (N := 26) rfl rfl) rfl rfl hl.1 rfl (lv_room (Nat.le_of_ble_eq_true rfl)) dX10_need_2 ⟨Nat.zero_le _, Nat.zero_le _⟩) hS hP (fun r1 H locs hr1 hP hS => ?_)
  subst hr1
  refine lv_if_ne (tgt := 11) hx hb dX10_need_5 (by decide) (fun c2 => absurd (Decidable.not_not.mp (mt bI_0.mpr c2)) hxn) (fun c2 => ?_)
  refine lv_bipush (v := -101) hx hb dX10_need_8 (by decide) ?_
  exact W.iret hx hb hr (fun t ht hW => ⟨⟨_, (), rfl, rfl, trivial⟩, hS.F ht⟩) hS.2.2 dX10_need_10

set_option maxHeartbeats 4000000 in
set_option maxRecDepth 100000 in
theorem c_M_needO (l : Launch) (dC : Nat → ClassId) (dI : Nat → Nat → Nat) (cI : ClassId) (b : Nat → Nat) (pm r_s r_w st : Int32) (n w : Nat) (wk tr nd hd sd kt kw kh : Int32) (hz : Int64) (R : Nat → Nat) (hR : WR R) (hn : n ≤ 4) (hw : w ≤ 5) (s_ : Nat) (hs : s_ < n) (y : Int32) (hy0 : ¬ y.toInt = 0) (hy1 : ¬ (10 ≤ y.toInt ∧ y.toInt < 14)) : Met l yX10_need wsX10_need ({ frames := 2, cells := 0, slots := 0, locals := 46 } : Room) (roP dC dI cI ([moW b pm r_s r_w st n w wk tr nd hd sd kt kw kh hz] ++ [(b 4, .inl (cI, 32, .inl (fun i => nI (R i))))]) [.ref (b 0), .int (nI (s_)), .int (y)]) (roI (fun r => r = -102)) 0 0 (fun _ => False) := by
  refine Met.ofW (cc := cX10_need) (maxL := 4) (ret := (some .int)) (by decide) rfl ?_
  intro p e s m args below meth c s₁ B hml hv
  obtain ⟨rfl, hP, hK⟩ := hv
  have hx := B.exec
  have hb := B.bytes
  have hr := B.returns
  have hts := atoms_spec (ws := wsX10_need) B.pre
  have hown : s.vm.findClass RX10 = some m.cls := findClass_of_methodNamed B.named
  have hlocks := B.notSynchronized
  have hS : va_S (fun _ => False) s.heap s.heap [] := va_S.rf
  have hl := lv_entry ([.ref (b 0), .int (nI (s_)), .int (y)]) (n := 4) (Nat.le_of_ble_eq_true rfl)
  rw [lg_entry_eq]
  generalize (lg_sl ([.ref (b 0), .int (nI (s_)), .int (y)]) ++ List.replicate (4 - (lg_sl ([.ref (b 0), .int (nI (s_)), .int (y)])).length) Slot.unset).toArray = ls at hl ⊢
  have hl : lv_has ls 4 [(0, .ref (b 0)), (1, .int (nI (s_))), (2, .int (y))] := hl
  refine lv_aload_n hx hb dX10_need_0 rfl (lv_at hl 0 rfl) ?_
  refine lv_iload_n hx hb dX10_need_1 rfl (lv_at hl 1 rfl) ?_
  refine ro_calli (va_runV (As := [.int (nI (s_))]) (rest := []) ⟨hx, hb, hml, hown, hts⟩ (c_X10_isSinger l dC dI cI b pm r_s r_w st n w wk tr nd hd sd kt kw kh hz (by omega) (by omega) (nI (s_))) (cwV 1 hts gX10_need_X10_isSinger rfl rfl rfl (by decide +kernel) ⟨Nat.le_of_ble_eq_true rfl, Nat.le_of_ble_eq_true rfl⟩) (ro_pv hK hP [0] rfl (ci := 10) (q0 := 0) (C := RX10) (T := TX10) (N := 26) rfl rfl) rfl rfl hl.1 rfl (lv_room (Nat.le_of_ble_eq_true rfl)) dX10_need_2 ⟨Nat.zero_le _, Nat.zero_le _⟩) hS hP (fun r1 H locs hr1 hP hS => ?_)
  subst hr1
  refine tp_i (z := nI 1) (bI_t (inR_n (by omega) (by omega))) ?_
  refine lv_if_ne (tgt := 11) hx hb dX10_need_5 (by decide) (fun _ => ?_) (fun c => absurd c (by decide))
  refine lv_iload_n hx hb dX10_need_11 rfl (lv_at hl 2 rfl) ?_
  refine lv_if_eq (tgt := 32) hx hb dX10_need_12 (by decide) (fun c2 => ?_) (fun c2 => ?_)
  · have c2 := r0_eq.mp c2
    exfalso; omega
  have c2 := mt r0_eq.mpr c2
  refine lv_iload_n hx hb dX10_need_15 rfl (lv_at hl 2 rfl) ?_
  refine lv_i2l (v := (y).toInt64) hx hb dX10_need_16 rfl ?_
  refine lv_ldc2 (v := 10) hx hb hown (hts (Cond.constantLong RX10 110 (10)) (List.mem_of_getElem? (i := 1) rfl)) dX10_need_17 ?_
  refine tp_l (z := (nI 10).toInt64) (by decide) ?_
  refine lv_ldc2 (v := 13) hx hb hown (hts (Cond.constantLong RX10 112 (13)) (List.mem_of_getElem? (i := 2) rfl)) dX10_need_20 ?_
  refine tp_l (z := (nI 13).toInt64) (by decide) ?_
  refine ro_calli (va_runS (As := [.long ((y).toInt64), .long ((nI 10).toInt64), .long ((nI 13).toInt64)]) (rest := []) ⟨hx, hb, hml, hown, hts⟩ (c_X10_in l dC dI cI (y) (nI 10) (nI 13)) (va_cwS 3 hts gX10_need_X10_in rfl rfl rfl (by decide +kernel) ⟨Nat.le_of_ble_eq_true rfl, Nat.le_of_ble_eq_true rfl⟩) (ro_ps hK hP [] rfl) rfl rfl hl.1 rfl (lv_room (Nat.le_of_ble_eq_true rfl)) dX10_need_23 ⟨Nat.zero_le _, Nat.zero_le _⟩) hS hP (fun r3 H locs hr3 hP hS => ?_)
  subst hr3
  have e4 : bI ((nI 10).toInt ≤ (y).toInt ∧ (y).toInt ≤ (nI 13).toInt) = bI ((10 : Int) ≤ (y).toInt ∧ (y).toInt ≤ (13 : Int)) := bI_i (by rw [nI_toInt (n := 10) (by decide), nI_toInt (n := 13) (by decide)] <;> omega)
  refine tp_i (z := bI ((10 : Int) ≤ (y).toInt ∧ (y).toInt ≤ (13 : Int))) e4 ?_
  refine lv_if_ne (tgt := 32) hx hb dX10_need_26 (by decide) (fun c5 => ?_) (fun c5 => ?_)
  · have c5 := Decidable.not_not.mp (mt bI_0.mpr c5)
    exfalso; omega
  have c5 := bI_0.mp c5
  refine lv_bipush (v := -102) hx hb dX10_need_29 (by decide) ?_
  exact W.iret hx hb hr (fun t ht hW => ⟨⟨_, (), rfl, rfl, trivial⟩, hS.F ht⟩) hS.2.2 dX10_need_31

set_option maxHeartbeats 4000000 in
set_option maxRecDepth 100000 in
theorem c_M_needT0 (l : Launch) (dC : Nat → ClassId) (dI : Nat → Nat → Nat) (cI : ClassId) (b : Nat → Nat) (pm : Int32) (r_s : Int32) (r_w : Int32) (st : Int32) (n : Nat) (w : Nat) (wk : Int32) (tr : Int32) (nd_ : Nat) (hd : Int32) (sd : Int32) (kt : Int32) (kw : Int32) (kh : Int32) (hz : Int64) (R : Nat → Nat) (hR : WR R) (hn : n ≤ 4) (hw : w ≤ 5) (s_ : Nat) (hs : s_ < n) (hnd : nd_ = 20) : Met l yX10_need wsX10_need ({ frames := 2, cells := 0, slots := 0, locals := 46 } : Room) (roP dC dI cI ([moW b pm r_s r_w st n w wk tr (nI nd_) hd sd kt kw kh hz] ++ [(b 4, .inl (cI, 32, .inl (fun i => nI (R i))))]) [.ref (b 0), .int (nI (s_)), .int (nI (0))]) (roI (fun r => r = -103)) 0 0 (fun _ => False) := by
  refine Met.ofW (cc := cX10_need) (maxL := 4) (ret := (some .int)) (by decide) rfl ?_
  intro p e s m args below meth c s₁ B hml hv
  obtain ⟨rfl, hP, hK⟩ := hv
  have hx := B.exec
  have hb := B.bytes
  have hr := B.returns
  have hts := atoms_spec (ws := wsX10_need) B.pre
  have hown : s.vm.findClass RX10 = some m.cls := findClass_of_methodNamed B.named
  have hlocks := B.notSynchronized
  have hS : va_S (fun _ => False) s.heap s.heap [] := va_S.rf
  have hl := lv_entry ([.ref (b 0), .int (nI (s_)), .int (nI (0))]) (n := 4) (Nat.le_of_ble_eq_true rfl)
  rw [lg_entry_eq]
  generalize (lg_sl ([.ref (b 0), .int (nI (s_)), .int (nI (0))]) ++ List.replicate (4 - (lg_sl ([.ref (b 0), .int (nI (s_)), .int (nI (0))])).length) Slot.unset).toArray = ls at hl ⊢
  have hl : lv_has ls 4 [(0, .ref (b 0)), (1, .int (nI (s_))), (2, .int (nI (0)))] := hl
  refine lv_aload_n hx hb dX10_need_0 rfl (lv_at hl 0 rfl) ?_
  refine lv_iload_n hx hb dX10_need_1 rfl (lv_at hl 1 rfl) ?_
  refine ro_calli (va_runV (As := [.int (nI (s_))]) (rest := []) ⟨hx, hb, hml, hown, hts⟩ (c_X10_isSinger l dC dI cI b pm r_s r_w st n w wk tr (nI (nd_)) hd sd kt kw kh hz (by omega) (by omega) (nI (s_))) (cwV 1 hts gX10_need_X10_isSinger rfl rfl rfl (by decide +kernel) ⟨Nat.le_of_ble_eq_true rfl, Nat.le_of_ble_eq_true rfl⟩) (ro_pv hK hP [0] rfl (ci := 10) (q0 := 0) (C := RX10) (T := TX10) (N := 26) rfl rfl) rfl rfl hl.1 rfl (lv_room (Nat.le_of_ble_eq_true rfl)) dX10_need_2 ⟨Nat.zero_le _, Nat.zero_le _⟩) hS hP (fun r1 H locs hr1 hP hS => ?_)
  subst hr1
  refine tp_i (z := nI 1) (bI_t (inR_n (by omega) (by omega))) ?_
  refine lv_if_ne (tgt := 11) hx hb dX10_need_5 (by decide) (fun _ => ?_) (fun c => absurd c (by decide))
  refine lv_iload_n hx hb dX10_need_11 rfl (lv_at hl 2 rfl) ?_
  refine lv_if_eq (tgt := 32) hx hb dX10_need_12 (by decide) (fun _ => ?_) (fun c => absurd (by decide) c)
  refine lv_aload_n hx hb dX10_need_32 rfl (lv_at hl 0 rfl) ?_
  refine va_get (D := (dC, dI)) (ci := 10) (v := .int (nI (nd_))) (C := RX10) (T := TX10) (N := 26) hx hb hts (fun _ h => List.mem_cons_of_mem _ (List.mem_append_right _ (h))) hown hK.1 hP 0 rfl rfl 13 (by decide) (hts (Cond.fieldLink RX10 151 "WorstVoiceModel" "needMany" "I") (List.mem_of_getElem? (i := 3) rfl)) (fun _ h9 => h9) rfl dX10_need_33 ?_
  refine lv_bipush (v := nI (20)) hx hb dX10_need_36 (by decide) ?_
  refine lv_icmp_ne (tgt := 44) hx hb dX10_need_38 (by decide) (fun c2 => ?_) (fun c2 => ?_)
  · have c2 := mt (nI_eq (by omega) (by decide)).mpr c2
    exfalso; omega
  have c2 := (nI_eq (by omega) (by decide)).mp c2
  refine lv_bipush (v := -103) hx hb dX10_need_41 (by decide) ?_
  exact W.iret hx hb hr (fun t ht hW => ⟨⟨_, (), rfl, rfl, trivial⟩, hS.F ht⟩) hS.2.2 dX10_need_43

set_option maxHeartbeats 4000000 in
set_option maxRecDepth 100000 in
theorem c_M_needTE (l : Launch) (dC : Nat → ClassId) (dI : Nat → Nat → Nat) (cI : ClassId) (b : Nat → Nat) (pm : Int32) (r_s : Int32) (r_w : Int32) (st : Int32) (n : Nat) (w : Nat) (wk : Int32) (tr : Int32) (nd_ : Nat) (hd : Int32) (sd : Int32) (kt : Int32) (kw : Int32) (kh : Int32) (hz : Int64) (R : Nat → Nat) (hR : WR R) (hn : n ≤ 4) (hw : w ≤ 5) (s_ : Nat) (hs : s_ < n) (e_ : Nat) (he : e_ < 4) (hnd : nd_ = 20) : Met l yX10_need wsX10_need ({ frames := 2, cells := 0, slots := 0, locals := 46 } : Room) (roP dC dI cI ([moW b pm r_s r_w st n w wk tr (nI nd_) hd sd kt kw kh hz] ++ [(b 4, .inl (cI, 32, .inl (fun i => nI (R i))))]) [.ref (b 0), .int (nI (s_)), .int (nI (10 + e_))]) (roI (fun r => r = -103)) 0 0 (fun _ => False) := by
  refine Met.ofW (cc := cX10_need) (maxL := 4) (ret := (some .int)) (by decide) rfl ?_
  intro p e s m args below meth c s₁ B hml hv
  obtain ⟨rfl, hP, hK⟩ := hv
  have hx := B.exec
  have hb := B.bytes
  have hr := B.returns
  have hts := atoms_spec (ws := wsX10_need) B.pre
  have hown : s.vm.findClass RX10 = some m.cls := findClass_of_methodNamed B.named
  have hlocks := B.notSynchronized
  have hS : va_S (fun _ => False) s.heap s.heap [] := va_S.rf
  have hl := lv_entry ([.ref (b 0), .int (nI (s_)), .int (nI (10 + e_))]) (n := 4) (Nat.le_of_ble_eq_true rfl)
  rw [lg_entry_eq]
  generalize (lg_sl ([.ref (b 0), .int (nI (s_)), .int (nI (10 + e_))]) ++ List.replicate (4 - (lg_sl ([.ref (b 0), .int (nI (s_)), .int (nI (10 + e_))])).length) Slot.unset).toArray = ls at hl ⊢
  have hl : lv_has ls 4 [(0, .ref (b 0)), (1, .int (nI (s_))), (2, .int (nI (10 + e_)))] := hl
  refine lv_aload_n hx hb dX10_need_0 rfl (lv_at hl 0 rfl) ?_
  refine lv_iload_n hx hb dX10_need_1 rfl (lv_at hl 1 rfl) ?_
  refine ro_calli (va_runV (As := [.int (nI (s_))]) (rest := []) ⟨hx, hb, hml, hown, hts⟩ (c_X10_isSinger l dC dI cI b pm r_s r_w st n w wk tr (nI (nd_)) hd sd kt kw kh hz (by omega) (by omega) (nI (s_))) (cwV 1 hts gX10_need_X10_isSinger rfl rfl rfl (by decide +kernel) ⟨Nat.le_of_ble_eq_true rfl, Nat.le_of_ble_eq_true rfl⟩) (ro_pv hK hP [0] rfl (ci := 10) (q0 := 0) (C := RX10) (T := TX10) (N := 26) rfl rfl) rfl rfl hl.1 rfl (lv_room (Nat.le_of_ble_eq_true rfl)) dX10_need_2 ⟨Nat.zero_le _, Nat.zero_le _⟩) hS hP (fun r1 H locs hr1 hP hS => ?_)
  subst hr1
  refine tp_i (z := nI 1) (bI_t (inR_n (by omega) (by omega))) ?_
  refine lv_if_ne (tgt := 11) hx hb dX10_need_5 (by decide) (fun _ => ?_) (fun c => absurd c (by decide))
  refine lv_iload_n hx hb dX10_need_11 rfl (lv_at hl 2 rfl) ?_
  refine lv_if_eq (tgt := 32) hx hb dX10_need_12 (by decide) (fun c2 => ?_) (fun c2 => ?_)
  · have c2 := (z_eq (by omega)).mp c2
    exfalso; omega
  have c2 := mt (z_eq (by omega)).mpr c2
  refine lv_iload_n hx hb dX10_need_15 rfl (lv_at hl 2 rfl) ?_
  refine lv_i2l (v := (nI (10 + e_)).toInt64) hx hb dX10_need_16 rfl ?_
  refine lv_ldc2 (v := 10) hx hb hown (hts (Cond.constantLong RX10 110 (10)) (List.mem_of_getElem? (i := 1) rfl)) dX10_need_17 ?_
  refine tp_l (z := (nI 10).toInt64) (by decide) ?_
  refine lv_ldc2 (v := 13) hx hb hown (hts (Cond.constantLong RX10 112 (13)) (List.mem_of_getElem? (i := 2) rfl)) dX10_need_20 ?_
  refine tp_l (z := (nI 13).toInt64) (by decide) ?_
  refine ro_calli (va_runS (As := [.long ((nI (10 + e_)).toInt64), .long ((nI 10).toInt64), .long ((nI 13).toInt64)]) (rest := []) ⟨hx, hb, hml, hown, hts⟩ (c_X10_in l dC dI cI (nI (10 + e_)) (nI 10) (nI 13)) (va_cwS 3 hts gX10_need_X10_in rfl rfl rfl (by decide +kernel) ⟨Nat.le_of_ble_eq_true rfl, Nat.le_of_ble_eq_true rfl⟩) (ro_ps hK hP [] rfl) rfl rfl hl.1 rfl (lv_room (Nat.le_of_ble_eq_true rfl)) dX10_need_23 ⟨Nat.zero_le _, Nat.zero_le _⟩) hS hP (fun r3 H locs hr3 hP hS => ?_)
  subst hr3
  have e4 : bI ((nI 10).toInt ≤ (nI (10 + e_)).toInt ∧ (nI (10 + e_)).toInt ≤ (nI 13).toInt) = bI ((10 : Int) ≤ (10 + e_ : Int) ∧ (10 + e_ : Int) ≤ (13 : Int)) := bI_i (by rw [nI_toInt (n := 10 + e_) (by omega), nI_toInt (n := 10) (by decide), nI_toInt (n := 13) (by decide)] <;> omega)
  refine tp_i (z := bI ((10 : Int) ≤ (10 + e_ : Int) ∧ (10 + e_ : Int) ≤ (13 : Int))) e4 ?_
  refine lv_if_ne (tgt := 32) hx hb dX10_need_26 (by decide) (fun c5 => ?_) (fun c5 => ?_)
  · have c5 := Decidable.not_not.mp (mt bI_0.mpr c5)
    refine lv_aload_n hx hb dX10_need_32 rfl (lv_at hl 0 rfl) ?_
    refine va_get (D := (dC, dI)) (ci := 10) (v := .int (nI (nd_))) (C := RX10) (T := TX10) (N := 26) hx hb hts (fun _ h => List.mem_cons_of_mem _ (List.mem_append_right _ (h))) hown hK.1 hP 0 rfl rfl 13 (by decide) (hts (Cond.fieldLink RX10 151 "WorstVoiceModel" "needMany" "I") (List.mem_of_getElem? (i := 3) rfl)) (fun _ h9 => h9) rfl dX10_need_33 ?_
    refine lv_bipush (v := nI (20)) hx hb dX10_need_36 (by decide) ?_
    refine lv_icmp_ne (tgt := 44) hx hb dX10_need_38 (by decide) (fun c6 => ?_) (fun c6 => ?_)
    · have c6 := mt (nI_eq (by omega) (by decide)).mpr c6
      exfalso; omega
    have c6 := (nI_eq (by omega) (by decide)).mp c6
    refine lv_bipush (v := -103) hx hb dX10_need_41 (by decide) ?_
    exact W.iret hx hb hr (fun t ht hW => ⟨⟨_, (), rfl, rfl, trivial⟩, hS.F ht⟩) hS.2.2 dX10_need_43
  · have c5 := bI_0.mp c5
    exfalso; omega

set_option maxHeartbeats 4000000 in
set_option maxRecDepth 100000 in
theorem c_M_need0 (l : Launch) (dC : Nat → ClassId) (dI : Nat → Nat → Nat) (cI : ClassId) (sz : Nat) (b : Nat → Nat) (len : Nat) (r_s : Int32) (r_w : Int32) (st : Int32) (n : Nat) (w : Nat) (wk : Int32) (tr : Int32) (nd_ : Nat) (hd : Int32) (sd : Int32) (kt : Int32) (kw : Int32) (kh : Int32) (hz : Int64) (R mi : Nat → Nat) (mm : Nat → Int32) (hm : ∀ k, k < w → mm k = nI (mi k)) (hm4 : ∀ k, k < w → mi k < 4) (hR : WR R) (hn : n ≤ 4) (hn1 : 1 ≤ n) (hw : w ≤ 5) (hn2 : 2 ≤ n) (P2 Q2 : Nat → Nat) (s_ : Nat) (hs : s_ < n) (h9 : ∀ q, q < 4 → R (8 * q + 7) ≤ 9) (hnd : nd_ < 20) : Met l yX10_need wsX10_need ({ frames := 5, cells := 0, slots := 0, locals := 119 } : Room) (muP dC dI cI ([moW b (nI len) r_s r_w st n w wk tr (nI nd_) hd sd kt kw kh hz] ++ [(b 4, .inl (cI, 32, .inl (fun i => nI (R i))))] ++ [(b 5, .inl (cI, 5, .inl mm))] ++ [(b 6, .inl (cI, 4, .inl (fun i => nI (P2 i))))] ++ [(b 7, .inl (cI, 4, .inl (fun i => nI (Q2 i))))]) sz [.ref (b 0), .int (nI (s_)), .int (nI (0))]) (muI (S := (Nat → Nat) × (Nat → Nat)) dC dI ([moW b (nI len) r_s r_w st n w wk tr (nI nd_) hd sd kt kw kh hz] ++ [(b 4, .inl (cI, 32, .inl (fun i => nI (R i))))] ++ [(b 5, .inl (cI, 5, .inl mm))] ++ [(b 6, .inl (cI, 4, .inl (fun i => nI (P2 i))))] ++ [(b 7, .inl (cI, 4, .inl (fun i => nI (Q2 i))))]) sz (fun u => [moW b (nI len) r_s r_w st n w wk tr (nI (nd_ + 1)) hd sd kt kw kh hz] ++ [(b 4, .inl (cI, 32, .inl (fun i => nI (R i))))] ++ [(b 5, .inl (cI, 5, .inl mm))] ++ [(b 6, .inl (cI, 4, .inl (fun i => nI (u.1 i))))] ++ [(b 7, .inl (cI, 4, .inl (fun i => nI (u.2 i))))]) (fun r _ => r = oI (ndL R mi n w s_))) 0 0 (va_A ([moW b (nI len) r_s r_w st n w wk tr (nI nd_) hd sd kt kw kh hz] ++ [(b 4, .inl (cI, 32, .inl (fun i => nI (R i))))] ++ [(b 5, .inl (cI, 5, .inl mm))] ++ [(b 6, .inl (cI, 4, .inl (fun i => nI (P2 i))))] ++ [(b 7, .inl (cI, 4, .inl (fun i => nI (Q2 i))))]) sz) := by
  refine Met.ofW (cc := cX10_need) (maxL := 4) (ret := (some .int)) (by decide) rfl ?_
  intro p e s m args below meth c s₁ B hml hv
  obtain ⟨rfl, hsz, hP, hK, hD0⟩ := hv
  have hx := B.exec
  have hb := B.bytes
  have hr := B.returns
  have hts := atoms_spec (ws := wsX10_need) B.pre
  have hown : s.vm.findClass RX10 = some m.cls := findClass_of_methodNamed B.named
  have hlocks := B.notSynchronized
  subst hsz
  unfold muI muB
  have hD := hD0.self (sz := s.heap.size)
  generalize hAe : va_A ([moW b (nI len) r_s r_w st n w wk tr (nI nd_) hd sd kt kw kh hz] ++ [(b 4, .inl (cI, 32, .inl (fun i => nI (R i))))] ++ [(b 5, .inl (cI, 5, .inl mm))] ++ [(b 6, .inl (cI, 4, .inl (fun i => nI (P2 i))))] ++ [(b 7, .inl (cI, 4, .inl (fun i => nI (Q2 i))))]) s.heap.size = A at hD ⊢
  have hA : ∀ q : Nat, s.heap.size ≤ q → A q := fun q h => by rw [← hAe]; exact Or.inr h
  have hS : va_S A s.heap s.heap [] := va_S.rf
  have hl := lv_entry ([.ref (b 0), .int (nI (s_)), .int (nI (0))]) (n := 4) (Nat.le_of_ble_eq_true rfl)
  rw [lg_entry_eq]
  generalize (lg_sl ([.ref (b 0), .int (nI (s_)), .int (nI (0))]) ++ List.replicate (4 - (lg_sl ([.ref (b 0), .int (nI (s_)), .int (nI (0))])).length) Slot.unset).toArray = ls at hl ⊢
  have hl : lv_has ls 4 [(0, .ref (b 0)), (1, .int (nI (s_))), (2, .int (nI (0)))] := hl
  refine lv_aload_n hx hb dX10_need_0 rfl (lv_at hl 0 rfl) ?_
  refine lv_iload_n hx hb dX10_need_1 rfl (lv_at hl 1 rfl) ?_
  refine ro_calli (va_runV (As := [.int (nI (s_))]) (rest := []) ⟨hx, hb, hml, hown, hts⟩ (c_X10_isSinger l dC dI cI b (nI (len)) r_s r_w st n w wk tr (nI (nd_)) hd sd kt kw kh hz (by omega) (by omega) (nI (s_))) (cwV 1 hts gX10_need_X10_isSinger rfl rfl rfl (by decide +kernel) ⟨Nat.le_of_ble_eq_true rfl, Nat.le_of_ble_eq_true rfl⟩) (ro_pv hK hP [0] rfl (ci := 10) (q0 := 0) (C := RX10) (T := TX10) (N := 26) rfl rfl) rfl rfl hl.1 rfl (lv_room (Nat.le_of_ble_eq_true rfl)) dX10_need_2 ⟨Nat.zero_le _, Nat.zero_le _⟩) hS hP (fun r1 H locs hr1 hP hS => ?_)
  subst hr1
  refine tp_i (z := nI 1) (bI_t (inR_n (by omega) (by omega))) ?_
  refine lv_if_ne (tgt := 11) hx hb dX10_need_5 (by decide) (fun _ => ?_) (fun c => absurd c (by decide))
  refine lv_iload_n hx hb dX10_need_11 rfl (lv_at hl 2 rfl) ?_
  refine lv_if_eq (tgt := 32) hx hb dX10_need_12 (by decide) (fun _ => ?_) (fun c => absurd (by decide) c)
  refine lv_aload_n hx hb dX10_need_32 rfl (lv_at hl 0 rfl) ?_
  refine va_get (D := (dC, dI)) (ci := 10) (v := .int (nI (nd_))) (C := RX10) (T := TX10) (N := 26) hx hb hts (fun _ h => List.mem_cons_of_mem _ (List.mem_append_right _ (h))) hown hK.1 hP 0 rfl rfl 13 (by decide) (hts (Cond.fieldLink RX10 151 "WorstVoiceModel" "needMany" "I") (List.mem_of_getElem? (i := 3) rfl)) (fun _ h9 => h9) rfl dX10_need_33 ?_
  refine lv_bipush (v := nI (20)) hx hb dX10_need_36 (by decide) ?_
  refine lv_icmp_ne (tgt := 44) hx hb dX10_need_38 (by decide) (fun c2 => ?_) (fun c2 => ?_)
  · have c2 := mt (nI_eq (by omega) (by decide)).mpr c2
    refine lv_aload_n hx hb dX10_need_44 rfl (lv_at hl 0 rfl) ?_
    refine lv_dup hx hb dX10_need_45 rfl ?_
    refine va_get (D := (dC, dI)) (ci := 10) (v := .int (nI (nd_))) (C := RX10) (T := TX10) (N := 26) hx hb hts (fun _ h => List.mem_cons_of_mem _ (List.mem_append_right _ (h))) hown hK.1 hP 0 rfl rfl 13 (by decide) (hts (Cond.fieldLink RX10 151 "WorstVoiceModel" "needMany" "I") (List.mem_of_getElem? (i := 3) rfl)) (fun _ h9 => h9) rfl dX10_need_46 ?_
    refine lv_iconst (v := nI (1)) hx hb dX10_need_49 (by decide) ?_
    refine lv_iadd hx hb dX10_need_50 ?_
    refine tp_i (z := nI (nd_ + 1)) (nI_add (nd_) (1)) ?_
    refine va_put (D := (dC, dI)) (ci := 10) (v := .int (nI (nd_ + 1))) (ty := .int) (C := RX10) (T := TX10) (N := 26) hx hb hts (fun _ h => List.mem_cons_of_mem _ (List.mem_append_right _ (h))) tyX10 tyX10_ok nmX10 hown hK.1 hP hD hS 0 rfl rfl 13 (by decide) (hts (Cond.fieldLink RX10 151 "WorstVoiceModel" "needMany" "I") (List.mem_of_getElem? (i := 3) rfl)) (fun _ h9 => h9) rfl (by decide +kernel) rfl rfl (Nat.le_of_ble_eq_true rfl) dX10_need_51 (fun H locs hP hD hS => ?_)
    have hP : va_P (dC, dI) vwCl [((b 0), .inr (10, [.ref (b 1), .int (nI (len)), .ref (b 2), .int (r_s), .ref (b 3), .int (r_w), .int (st), .int (nI (n)), .int (nI (w)), .int (wk), .int (tr), .ref (b 4), .ref (b 5), .int (nI (nd_ + 1)), .ref (b 6), .ref (b 7), .int (hd), .ref (b 8), .int (sd), .ref (b 9), .int (kt), .int (kw), .int (kh), .ref (b 10), .ref (b 11), .long (hz)])), ((b 4), .inl (cI, 32, .inl (fun ii => nI (R ii)))), ((b 5), .inl (cI, 5, .inl mm)), ((b 6), .inl (cI, 4, .inl (fun ii => nI (P2 ii)))), ((b 7), .inl (cI, 4, .inl (fun ii => nI (Q2 ii))))] H := hP
    have hD : va_D A [((b 0), .inr (10, [.ref (b 1), .int (nI (len)), .ref (b 2), .int (r_s), .ref (b 3), .int (r_w), .int (st), .int (nI (n)), .int (nI (w)), .int (wk), .int (tr), .ref (b 4), .ref (b 5), .int (nI (nd_ + 1)), .ref (b 6), .ref (b 7), .int (hd), .ref (b 8), .int (sd), .ref (b 9), .int (kt), .int (kw), .int (kh), .ref (b 10), .ref (b 11), .long (hz)])), ((b 4), .inl (cI, 32, .inl (fun ii => nI (R ii)))), ((b 5), .inl (cI, 5, .inl mm)), ((b 6), .inl (cI, 4, .inl (fun ii => nI (P2 ii)))), ((b 7), .inl (cI, 4, .inl (fun ii => nI (Q2 ii))))] := hD
    refine lv_aload_n hx hb dX10_need_54 rfl (lv_at hl 0 rfl) ?_
    refine lv_iload_n hx hb dX10_need_55 rfl (lv_at hl 1 rfl) ?_
    refine mu_calli (wr := []) (wn := (fun u3 => [((b 0), .inr (10, [.ref (b 1), .int (nI (len)), .ref (b 2), .int (r_s), .ref (b 3), .int (r_w), .int (st), .int (nI (n)), .int (nI (w)), .int (wk), .int (tr), .ref (b 4), .ref (b 5), .int (nI (nd_ + 1)), .ref (b 6), .ref (b 7), .int (hd), .ref (b 8), .int (sd), .ref (b 9), .int (kt), .int (kw), .int (kh), .ref (b 10), .ref (b 11), .long (hz)])), ((b 4), .inl (cI, 32, .inl (fun ii => nI (R ii)))), ((b 5), .inl (cI, 5, .inl mm)), ((b 6), .inl (cI, 4, .inl (fun ii => nI ((u3.1) ii)))), ((b 7), .inl (cI, 4, .inl (fun ii => nI ((u3.2) ii))))])) (va_runV (As := [.int (nI (s_))]) (rest := []) ⟨hx, hb, hml, hown, hts⟩ (c_M_layNeed l dC dI cI _ b len r_s r_w st n w wk tr (nI (nd_ + 1)) hd sd kt kw kh hz R mi mm hm hm4 hR hn hn1 hw hn2 P2 Q2 s_ hs h9) (cwV 1 hts gX10_need_X10_layNeed rfl rfl rfl (by decide +kernel) ⟨Nat.le_of_ble_eq_true rfl, Nat.le_of_ble_eq_true rfl⟩) (mu_pv hK hP hD [0, 1, 2, 3, 4] (by decide) rfl rfl (ci := 10) (q0 := 0) (C := RX10) (T := TX10) (N := 26) rfl rfl) rfl rfl hl.1 rfl (lv_room (Nat.le_of_ble_eq_true rfl)) dX10_need_56 ⟨Nat.zero_le _, Nat.zero_le _⟩) hS hA hP hD [0, 1, 2, 3, 4] [] [0, 1, 2, 3, 4] rfl rfl (by decide) (by decide) (by decide) (fun _ => rfl) (fun _ => rfl) (fun r4 u3 H locs hr4 hP hD hS => ?_)
    obtain ⟨rfl, hQ⟩ := hr4
    have hnl : ndL R mi n w s_ ≤ 37 := nd_le R mi n w s_ _
    have hP : va_P (dC, dI) vwCl [((b 0), .inr (10, [.ref (b 1), .int (nI (len)), .ref (b 2), .int (r_s), .ref (b 3), .int (r_w), .int (st), .int (nI (n)), .int (nI (w)), .int (wk), .int (tr), .ref (b 4), .ref (b 5), .int (nI (nd_ + 1)), .ref (b 6), .ref (b 7), .int (hd), .ref (b 8), .int (sd), .ref (b 9), .int (kt), .int (kw), .int (kh), .ref (b 10), .ref (b 11), .long (hz)])), ((b 4), .inl (cI, 32, .inl (fun ii => nI (R ii)))), ((b 5), .inl (cI, 5, .inl mm)), ((b 6), .inl (cI, 4, .inl (fun ii => nI ((u3.1) ii)))), ((b 7), .inl (cI, 4, .inl (fun ii => nI ((u3.2) ii))))] H := hP
    have hD : va_D A [((b 0), .inr (10, [.ref (b 1), .int (nI (len)), .ref (b 2), .int (r_s), .ref (b 3), .int (r_w), .int (st), .int (nI (n)), .int (nI (w)), .int (wk), .int (tr), .ref (b 4), .ref (b 5), .int (nI (nd_ + 1)), .ref (b 6), .ref (b 7), .int (hd), .ref (b 8), .int (sd), .ref (b 9), .int (kt), .int (kw), .int (kh), .ref (b 10), .ref (b 11), .long (hz)])), ((b 4), .inl (cI, 32, .inl (fun ii => nI (R ii)))), ((b 5), .inl (cI, 5, .inl mm)), ((b 6), .inl (cI, 4, .inl (fun ii => nI ((u3.1) ii)))), ((b 7), .inl (cI, 4, .inl (fun ii => nI ((u3.2) ii))))] := hD
    refine lv_istore_n (lv' := [(3, .int (oI (ndL R mi n w s_))), (0, .ref (b 0)), (1, .int (nI (s_))), (2, .int (nI (0)))]) hx hb dX10_need_59 rfl hl (by decide) rfl (fun ls hl => ?_)
    refine lv_iload_n hx hb dX10_need_60 rfl (lv_at hl 3 rfl) ?_
    refine lv_if_eq (tgt := 69) hx hb dX10_need_61 (by decide) (fun _ => ?_) (fun c => absurd (by decide) c)
    refine lv_iload_n hx hb dX10_need_69 rfl (lv_at hl 0 rfl) ?_
    refine lv_goto (tgt := 97) hx hb dX10_need_70 (by decide) ?_
    exact W.iret hx hb hr (fun t ht hW => ⟨⟨_, u3, rfl, rfl, by rw [ht]; exact hP, hD.as rfl⟩, hS.F ht⟩) hS.2.2 dX10_need_97
  · have c2 := (nI_eq (by omega) (by decide)).mp c2
    exfalso; omega

set_option maxHeartbeats 4000000 in
set_option maxRecDepth 100000 in
theorem c_M_needE (l : Launch) (dC : Nat → ClassId) (dI : Nat → Nat → Nat) (cI : ClassId) (sz : Nat) (b : Nat → Nat) (len : Nat) (r_s : Int32) (r_w : Int32) (st : Int32) (n : Nat) (w : Nat) (wk : Int32) (tr : Int32) (nd_ : Nat) (hd : Int32) (sd : Int32) (kt : Int32) (kw : Int32) (kh : Int32) (hz : Int64) (R mi : Nat → Nat) (mm : Nat → Int32) (hm : ∀ k, k < w → mm k = nI (mi k)) (hm4 : ∀ k, k < w → mi k < 4) (hR : WR R) (hn : n ≤ 4) (hn1 : 1 ≤ n) (hw : w ≤ 5) (hn2 : 2 ≤ n) (P2 Q2 : Nat → Nat) (s_ : Nat) (hs : s_ < n) (h9 : ∀ q, q < 4 → R (8 * q + 7) ≤ 9) (e_ : Nat) (he : e_ < 4) (hnd : nd_ < 20) : Met l yX10_need wsX10_need ({ frames := 5, cells := 0, slots := 0, locals := 119 } : Room) (muP dC dI cI ([moW b (nI len) r_s r_w st n w wk tr (nI nd_) hd sd kt kw kh hz] ++ [(b 4, .inl (cI, 32, .inl (fun i => nI (R i))))] ++ [(b 5, .inl (cI, 5, .inl mm))] ++ [(b 6, .inl (cI, 4, .inl (fun i => nI (P2 i))))] ++ [(b 7, .inl (cI, 4, .inl (fun i => nI (Q2 i))))]) sz [.ref (b 0), .int (nI (s_)), .int (nI (10 + e_))]) (muI (S := (Nat → Nat) × (Nat → Nat)) dC dI ([moW b (nI len) r_s r_w st n w wk tr (nI nd_) hd sd kt kw kh hz] ++ [(b 4, .inl (cI, 32, .inl (fun i => nI (R i))))] ++ [(b 5, .inl (cI, 5, .inl mm))] ++ [(b 6, .inl (cI, 4, .inl (fun i => nI (P2 i))))] ++ [(b 7, .inl (cI, 4, .inl (fun i => nI (Q2 i))))]) sz (fun u => [moW b (nI len) r_s r_w st n w wk tr (nI (nd_ + 1)) hd sd kt kw kh hz] ++ [(b 4, .inl (cI, 32, .inl (fun i => nI (R i))))] ++ [(b 5, .inl (cI, 5, .inl mm))] ++ [(b 6, .inl (cI, 4, .inl (fun i => nI (u.1 i))))] ++ [(b 7, .inl (cI, 4, .inl (fun i => nI (u.2 i))))]) (fun r _ => r = (if ndL R mi n w s_ = 0 then -1 else if e_ < n then nI (pm n s_ (ndM R mi n w s_) e_) else -1))) 0 0 (va_A ([moW b (nI len) r_s r_w st n w wk tr (nI nd_) hd sd kt kw kh hz] ++ [(b 4, .inl (cI, 32, .inl (fun i => nI (R i))))] ++ [(b 5, .inl (cI, 5, .inl mm))] ++ [(b 6, .inl (cI, 4, .inl (fun i => nI (P2 i))))] ++ [(b 7, .inl (cI, 4, .inl (fun i => nI (Q2 i))))]) sz) := by
  refine Met.ofW (cc := cX10_need) (maxL := 4) (ret := (some .int)) (by decide) rfl ?_
  intro p e s m args below meth c s₁ B hml hv
  obtain ⟨rfl, hsz, hP, hK, hD0⟩ := hv
  have hx := B.exec
  have hb := B.bytes
  have hr := B.returns
  have hts := atoms_spec (ws := wsX10_need) B.pre
  have hown : s.vm.findClass RX10 = some m.cls := findClass_of_methodNamed B.named
  have hlocks := B.notSynchronized
  subst hsz
  unfold muI muB
  have hD := hD0.self (sz := s.heap.size)
  generalize hAe : va_A ([moW b (nI len) r_s r_w st n w wk tr (nI nd_) hd sd kt kw kh hz] ++ [(b 4, .inl (cI, 32, .inl (fun i => nI (R i))))] ++ [(b 5, .inl (cI, 5, .inl mm))] ++ [(b 6, .inl (cI, 4, .inl (fun i => nI (P2 i))))] ++ [(b 7, .inl (cI, 4, .inl (fun i => nI (Q2 i))))]) s.heap.size = A at hD ⊢
  have hA : ∀ q : Nat, s.heap.size ≤ q → A q := fun q h => by rw [← hAe]; exact Or.inr h
  have hS : va_S A s.heap s.heap [] := va_S.rf
  have hl := lv_entry ([.ref (b 0), .int (nI (s_)), .int (nI (10 + e_))]) (n := 4) (Nat.le_of_ble_eq_true rfl)
  rw [lg_entry_eq]
  generalize (lg_sl ([.ref (b 0), .int (nI (s_)), .int (nI (10 + e_))]) ++ List.replicate (4 - (lg_sl ([.ref (b 0), .int (nI (s_)), .int (nI (10 + e_))])).length) Slot.unset).toArray = ls at hl ⊢
  have hl : lv_has ls 4 [(0, .ref (b 0)), (1, .int (nI (s_))), (2, .int (nI (10 + e_)))] := hl
  refine lv_aload_n hx hb dX10_need_0 rfl (lv_at hl 0 rfl) ?_
  refine lv_iload_n hx hb dX10_need_1 rfl (lv_at hl 1 rfl) ?_
  refine ro_calli (va_runV (As := [.int (nI (s_))]) (rest := []) ⟨hx, hb, hml, hown, hts⟩ (c_X10_isSinger l dC dI cI b (nI (len)) r_s r_w st n w wk tr (nI (nd_)) hd sd kt kw kh hz (by omega) (by omega) (nI (s_))) (cwV 1 hts gX10_need_X10_isSinger rfl rfl rfl (by decide +kernel) ⟨Nat.le_of_ble_eq_true rfl, Nat.le_of_ble_eq_true rfl⟩) (ro_pv hK hP [0] rfl (ci := 10) (q0 := 0) (C := RX10) (T := TX10) (N := 26) rfl rfl) rfl rfl hl.1 rfl (lv_room (Nat.le_of_ble_eq_true rfl)) dX10_need_2 ⟨Nat.zero_le _, Nat.zero_le _⟩) hS hP (fun r1 H locs hr1 hP hS => ?_)
  subst hr1
  refine tp_i (z := nI 1) (bI_t (inR_n (by omega) (by omega))) ?_
  refine lv_if_ne (tgt := 11) hx hb dX10_need_5 (by decide) (fun _ => ?_) (fun c => absurd c (by decide))
  refine lv_iload_n hx hb dX10_need_11 rfl (lv_at hl 2 rfl) ?_
  refine lv_if_eq (tgt := 32) hx hb dX10_need_12 (by decide) (fun c2 => ?_) (fun c2 => ?_)
  · have c2 := (z_eq (by omega)).mp c2
    exfalso; omega
  have c2 := mt (z_eq (by omega)).mpr c2
  refine lv_iload_n hx hb dX10_need_15 rfl (lv_at hl 2 rfl) ?_
  refine lv_i2l (v := (nI (10 + e_)).toInt64) hx hb dX10_need_16 rfl ?_
  refine lv_ldc2 (v := 10) hx hb hown (hts (Cond.constantLong RX10 110 (10)) (List.mem_of_getElem? (i := 1) rfl)) dX10_need_17 ?_
  refine tp_l (z := (nI 10).toInt64) (by decide) ?_
  refine lv_ldc2 (v := 13) hx hb hown (hts (Cond.constantLong RX10 112 (13)) (List.mem_of_getElem? (i := 2) rfl)) dX10_need_20 ?_
  refine tp_l (z := (nI 13).toInt64) (by decide) ?_
  refine ro_calli (va_runS (As := [.long ((nI (10 + e_)).toInt64), .long ((nI 10).toInt64), .long ((nI 13).toInt64)]) (rest := []) ⟨hx, hb, hml, hown, hts⟩ (c_X10_in l dC dI cI (nI (10 + e_)) (nI 10) (nI 13)) (va_cwS 3 hts gX10_need_X10_in rfl rfl rfl (by decide +kernel) ⟨Nat.le_of_ble_eq_true rfl, Nat.le_of_ble_eq_true rfl⟩) (ro_ps hK hP [] rfl) rfl rfl hl.1 rfl (lv_room (Nat.le_of_ble_eq_true rfl)) dX10_need_23 ⟨Nat.zero_le _, Nat.zero_le _⟩) hS hP (fun r3 H locs hr3 hP hS => ?_)
  subst hr3
  have e4 : bI ((nI 10).toInt ≤ (nI (10 + e_)).toInt ∧ (nI (10 + e_)).toInt ≤ (nI 13).toInt) = bI ((10 : Int) ≤ (10 + e_ : Int) ∧ (10 + e_ : Int) ≤ (13 : Int)) := bI_i (by rw [nI_toInt (n := 10 + e_) (by omega), nI_toInt (n := 10) (by decide), nI_toInt (n := 13) (by decide)] <;> omega)
  refine tp_i (z := bI ((10 : Int) ≤ (10 + e_ : Int) ∧ (10 + e_ : Int) ≤ (13 : Int))) e4 ?_
  refine lv_if_ne (tgt := 32) hx hb dX10_need_26 (by decide) (fun c5 => ?_) (fun c5 => ?_)
  · have c5 := Decidable.not_not.mp (mt bI_0.mpr c5)
    refine lv_aload_n hx hb dX10_need_32 rfl (lv_at hl 0 rfl) ?_
    refine va_get (D := (dC, dI)) (ci := 10) (v := .int (nI (nd_))) (C := RX10) (T := TX10) (N := 26) hx hb hts (fun _ h => List.mem_cons_of_mem _ (List.mem_append_right _ (h))) hown hK.1 hP 0 rfl rfl 13 (by decide) (hts (Cond.fieldLink RX10 151 "WorstVoiceModel" "needMany" "I") (List.mem_of_getElem? (i := 3) rfl)) (fun _ h9 => h9) rfl dX10_need_33 ?_
    refine lv_bipush (v := nI (20)) hx hb dX10_need_36 (by decide) ?_
    refine lv_icmp_ne (tgt := 44) hx hb dX10_need_38 (by decide) (fun c6 => ?_) (fun c6 => ?_)
    · have c6 := mt (nI_eq (by omega) (by decide)).mpr c6
      refine lv_aload_n hx hb dX10_need_44 rfl (lv_at hl 0 rfl) ?_
      refine lv_dup hx hb dX10_need_45 rfl ?_
      refine va_get (D := (dC, dI)) (ci := 10) (v := .int (nI (nd_))) (C := RX10) (T := TX10) (N := 26) hx hb hts (fun _ h => List.mem_cons_of_mem _ (List.mem_append_right _ (h))) hown hK.1 hP 0 rfl rfl 13 (by decide) (hts (Cond.fieldLink RX10 151 "WorstVoiceModel" "needMany" "I") (List.mem_of_getElem? (i := 3) rfl)) (fun _ h9 => h9) rfl dX10_need_46 ?_
      refine lv_iconst (v := nI (1)) hx hb dX10_need_49 (by decide) ?_
      refine lv_iadd hx hb dX10_need_50 ?_
      refine tp_i (z := nI (nd_ + 1)) (nI_add (nd_) (1)) ?_
      refine va_put (D := (dC, dI)) (ci := 10) (v := .int (nI (nd_ + 1))) (ty := .int) (C := RX10) (T := TX10) (N := 26) hx hb hts (fun _ h => List.mem_cons_of_mem _ (List.mem_append_right _ (h))) tyX10 tyX10_ok nmX10 hown hK.1 hP hD hS 0 rfl rfl 13 (by decide) (hts (Cond.fieldLink RX10 151 "WorstVoiceModel" "needMany" "I") (List.mem_of_getElem? (i := 3) rfl)) (fun _ h9 => h9) rfl (by decide +kernel) rfl rfl (Nat.le_of_ble_eq_true rfl) dX10_need_51 (fun H locs hP hD hS => ?_)
      have hP : va_P (dC, dI) vwCl [((b 0), .inr (10, [.ref (b 1), .int (nI (len)), .ref (b 2), .int (r_s), .ref (b 3), .int (r_w), .int (st), .int (nI (n)), .int (nI (w)), .int (wk), .int (tr), .ref (b 4), .ref (b 5), .int (nI (nd_ + 1)), .ref (b 6), .ref (b 7), .int (hd), .ref (b 8), .int (sd), .ref (b 9), .int (kt), .int (kw), .int (kh), .ref (b 10), .ref (b 11), .long (hz)])), ((b 4), .inl (cI, 32, .inl (fun ii => nI (R ii)))), ((b 5), .inl (cI, 5, .inl mm)), ((b 6), .inl (cI, 4, .inl (fun ii => nI (P2 ii)))), ((b 7), .inl (cI, 4, .inl (fun ii => nI (Q2 ii))))] H := hP
      have hD : va_D A [((b 0), .inr (10, [.ref (b 1), .int (nI (len)), .ref (b 2), .int (r_s), .ref (b 3), .int (r_w), .int (st), .int (nI (n)), .int (nI (w)), .int (wk), .int (tr), .ref (b 4), .ref (b 5), .int (nI (nd_ + 1)), .ref (b 6), .ref (b 7), .int (hd), .ref (b 8), .int (sd), .ref (b 9), .int (kt), .int (kw), .int (kh), .ref (b 10), .ref (b 11), .long (hz)])), ((b 4), .inl (cI, 32, .inl (fun ii => nI (R ii)))), ((b 5), .inl (cI, 5, .inl mm)), ((b 6), .inl (cI, 4, .inl (fun ii => nI (P2 ii)))), ((b 7), .inl (cI, 4, .inl (fun ii => nI (Q2 ii))))] := hD
      refine lv_aload_n hx hb dX10_need_54 rfl (lv_at hl 0 rfl) ?_
      refine lv_iload_n hx hb dX10_need_55 rfl (lv_at hl 1 rfl) ?_
      refine mu_calli (wr := []) (wn := (fun u7 => [((b 0), .inr (10, [.ref (b 1), .int (nI (len)), .ref (b 2), .int (r_s), .ref (b 3), .int (r_w), .int (st), .int (nI (n)), .int (nI (w)), .int (wk), .int (tr), .ref (b 4), .ref (b 5), .int (nI (nd_ + 1)), .ref (b 6), .ref (b 7), .int (hd), .ref (b 8), .int (sd), .ref (b 9), .int (kt), .int (kw), .int (kh), .ref (b 10), .ref (b 11), .long (hz)])), ((b 4), .inl (cI, 32, .inl (fun ii => nI (R ii)))), ((b 5), .inl (cI, 5, .inl mm)), ((b 6), .inl (cI, 4, .inl (fun ii => nI ((u7.1) ii)))), ((b 7), .inl (cI, 4, .inl (fun ii => nI ((u7.2) ii))))])) (va_runV (As := [.int (nI (s_))]) (rest := []) ⟨hx, hb, hml, hown, hts⟩ (c_M_layNeed l dC dI cI _ b len r_s r_w st n w wk tr (nI (nd_ + 1)) hd sd kt kw kh hz R mi mm hm hm4 hR hn hn1 hw hn2 P2 Q2 s_ hs h9) (cwV 1 hts gX10_need_X10_layNeed rfl rfl rfl (by decide +kernel) ⟨Nat.le_of_ble_eq_true rfl, Nat.le_of_ble_eq_true rfl⟩) (mu_pv hK hP hD [0, 1, 2, 3, 4] (by decide) rfl rfl (ci := 10) (q0 := 0) (C := RX10) (T := TX10) (N := 26) rfl rfl) rfl rfl hl.1 rfl (lv_room (Nat.le_of_ble_eq_true rfl)) dX10_need_56 ⟨Nat.zero_le _, Nat.zero_le _⟩) hS hA hP hD [0, 1, 2, 3, 4] [] [0, 1, 2, 3, 4] rfl rfl (by decide) (by decide) (by decide) (fun _ => rfl) (fun _ => rfl) (fun r8 u7 H locs hr8 hP hD hS => ?_)
      obtain ⟨rfl, hQ⟩ := hr8
      have hnl : ndL R mi n w s_ ≤ 37 := nd_le R mi n w s_ _
      have hP : va_P (dC, dI) vwCl [((b 0), .inr (10, [.ref (b 1), .int (nI (len)), .ref (b 2), .int (r_s), .ref (b 3), .int (r_w), .int (st), .int (nI (n)), .int (nI (w)), .int (wk), .int (tr), .ref (b 4), .ref (b 5), .int (nI (nd_ + 1)), .ref (b 6), .ref (b 7), .int (hd), .ref (b 8), .int (sd), .ref (b 9), .int (kt), .int (kw), .int (kh), .ref (b 10), .ref (b 11), .long (hz)])), ((b 4), .inl (cI, 32, .inl (fun ii => nI (R ii)))), ((b 5), .inl (cI, 5, .inl mm)), ((b 6), .inl (cI, 4, .inl (fun ii => nI ((u7.1) ii)))), ((b 7), .inl (cI, 4, .inl (fun ii => nI ((u7.2) ii))))] H := hP
      have hD : va_D A [((b 0), .inr (10, [.ref (b 1), .int (nI (len)), .ref (b 2), .int (r_s), .ref (b 3), .int (r_w), .int (st), .int (nI (n)), .int (nI (w)), .int (wk), .int (tr), .ref (b 4), .ref (b 5), .int (nI (nd_ + 1)), .ref (b 6), .ref (b 7), .int (hd), .ref (b 8), .int (sd), .ref (b 9), .int (kt), .int (kw), .int (kh), .ref (b 10), .ref (b 11), .long (hz)])), ((b 4), .inl (cI, 32, .inl (fun ii => nI (R ii)))), ((b 5), .inl (cI, 5, .inl mm)), ((b 6), .inl (cI, 4, .inl (fun ii => nI ((u7.1) ii)))), ((b 7), .inl (cI, 4, .inl (fun ii => nI ((u7.2) ii))))] := hD
      refine lv_istore_n (lv' := [(3, .int (oI (ndL R mi n w s_))), (0, .ref (b 0)), (1, .int (nI (s_))), (2, .int (nI (10 + e_)))]) hx hb dX10_need_59 rfl hl (by decide) rfl (fun ls hl => ?_)
      refine lv_iload_n hx hb dX10_need_60 rfl (lv_at hl 3 rfl) ?_
      refine lv_if_eq (tgt := 69) hx hb dX10_need_61 (by decide) (fun c9 => ?_) (fun c9 => ?_)
      · have c9 := (z_eq (by omega)).mp c9
        exfalso; omega
      have c9 := mt (z_eq (by omega)).mpr c9
      refine lv_iload_n hx hb dX10_need_64 rfl (lv_at hl 0 rfl) ?_
      refine lv_iconst (v := -1) hx hb dX10_need_65 (by decide) ?_
      refine lv_icmp_ne (tgt := 73) hx hb dX10_need_66 (by decide) (fun c10 => ?_) (fun c10 => ?_)
      · have c10 := mt (oI_m1 (by omega)).mpr c10
        refine lv_iload_n hx hb dX10_need_73 rfl (lv_at hl 3 rfl) ?_
        refine lv_bipush (v := nI (10)) hx hb dX10_need_74 (by decide) ?_
        refine lv_isub hx hb dX10_need_76 ?_
        refine tp_i (z := nI (e_)) ((pk_sub (by omega)).trans (congrArg nI (by omega))) ?_
        refine lv_aload_n hx hb dX10_need_77 rfl (lv_at hl 1 rfl) ?_
        refine va_get (D := (dC, dI)) (ci := 10) (v := .int (nI (n))) (C := RX10) (T := TX10) (N := 26) hx hb hts (fun _ h => List.mem_cons_of_mem _ (List.mem_append_right _ (h))) hown hK.1 hP 0 rfl rfl 7 (by decide) (hts (Cond.fieldLink RX10 81 "WorstVoiceModel" "singers" "I") (List.mem_of_getElem? (i := 4) rfl)) (fun _ h9 => h9) rfl dX10_need_78 ?_
        refine lv_icmp_ge (tgt := 96) hx hb dX10_need_81 (by decide) (fun c11 => ?_) (fun c11 => ?_)
        · have c11 := (nI_leI (by omega) (by omega)).mp c11
          refine lv_iconst (v := -1) hx hb dX10_need_96 (by decide) ?_
          exact W.iret hx hb hr (fun t ht hW => ⟨⟨_, u7, rfl, (by rw [if_neg (by assumption), if_neg (by omega)]), by rw [ht]; exact hP, hD.as rfl⟩, hS.F ht⟩) hS.2.2 dX10_need_97
        · have c11 := mt (nI_leI (by omega) (by omega)).mpr c11
          refine lv_aload_n hx hb dX10_need_84 rfl (lv_at hl 1 rfl) ?_
          refine va_get (D := (dC, dI)) (ci := 10) (v := .ref (b 7)) (C := RX10) (T := TX10) (N := 26) hx hb hts (fun _ h => List.mem_cons_of_mem _ (List.mem_append_right _ (h))) hown hK.1 hP 0 rfl rfl 15 (by decide) (hts (Cond.fieldLink RX10 28 "WorstVoiceModel" "bestMore" "[I") (List.mem_of_getElem? (i := 5) rfl)) (fun _ h9 => h9) rfl dX10_need_85 ?_
          refine lv_iload_n hx hb dX10_need_88 rfl (lv_at hl 3 rfl) ?_
          refine lv_bipush (v := nI (10)) hx hb dX10_need_89 (by decide) ?_
          refine lv_isub hx hb dX10_need_91 ?_
          refine tp_i (z := nI (e_)) ((pk_sub (by omega)).trans (congrArg nI (by omega))) ?_
          refine va_iald hx hb hK.1 hP 4 0 rfl rfl (vp_in_nI (by omega) (by decide)) dX10_need_92 ?_
          refine tp_i (z := nI ((u7.2) (e_))) (ld_n (fun ii => nI ((u7.2) ii)) (by omega)) ?_
          refine lv_goto (tgt := 97) hx hb dX10_need_93 (by decide) ?_
          exact W.iret hx hb hr (fun t ht hW => ⟨⟨_, u7, rfl, (by rw [if_neg (by assumption), if_pos (by omega), hQ (by omega) e_ (by omega)]), by rw [ht]; exact hP, hD.as rfl⟩, hS.F ht⟩) hS.2.2 dX10_need_97
      · have c10 := (oI_m1 (by omega)).mp c10
        refine lv_iload_n hx hb dX10_need_69 rfl (lv_at hl 0 rfl) ?_
        refine lv_goto (tgt := 97) hx hb dX10_need_70 (by decide) ?_
        exact W.iret hx hb hr (fun t ht hW => ⟨⟨_, u7, rfl, (by rw [if_pos (by assumption), show ndL R mi n w s_ = 0 by assumption]; rfl), by rw [ht]; exact hP, hD.as rfl⟩, hS.F ht⟩) hS.2.2 dX10_need_97
    · have c6 := (nI_eq (by omega) (by decide)).mp c6
      exfalso; omega
  · have c5 := bI_0.mp c5
    exfalso; omega
