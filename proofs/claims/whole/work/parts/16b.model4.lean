/-! the model: asks, widows, weeks -/
theorem ask_end {R : Nat → Nat} {bits n q_ : Nat} (h0 : bits = 0 → q_ = 0) (h : bits = 0 ∨ q_ = 16) : oI (as_ R bits n q_).1 = askI R bits n := by
  unfold askI
  by_cases q : bits = 0
  · rw [if_pos q, h0 q]; rfl
  · rw [if_neg q, show q_ = 16 by omega]
set_option maxHeartbeats 4000000 in
set_option maxRecDepth 100000 in
theorem c_M_askOf (l : Launch) (dC : Nat → ClassId) (dI : Nat → Nat → Nat) (cI : ClassId) (b : Nat → Nat) (pm : Int32) (r_s : Int32) (r_w : Int32) (st : Int32) (n : Nat) (w : Nat) (wk : Int32) (tr : Int32) (nd : Int32) (h : Nat) (sd : Int32) (kt : Int32) (kw : Int32) (kh : Int32) (hz : Int64) (R : Nat → Nat) (hR : WR R) (hn : n ≤ 4) (hw : w ≤ 5) (E : Nat → Nat) (h : Nat) (hh : h ≤ 8) (hE : ∀ i, i < h → E (4 * i) < 5 ∧ E (4 * i + 1) < n ∧ E (4 * i + 2) < n ∧ E (4 * i + 3) ≤ 1) (w_ : Nat) (hw_ : w_ < w) : Met l yX10_askOf wsX10_askOf ({ frames := 3, cells := 0, slots := 0, locals := 72 } : Room) (roP dC dI cI ([moW b pm r_s r_w st n w wk tr nd (nI h) sd kt kw kh hz] ++ [(b 4, .inl (cI, 32, .inl (fun i => nI (R i))))] ++ [(b 8, .inl (cI, 32, .inl (fun i => nI (E i))))]) [.ref (b 0), .int (nI (w_))]) (roI (fun r => r = askI R (bs_ R E w_ h 4) n)) 0 0 (fun _ => False) := by
  refine Met.ofW (cc := cX10_askOf) (maxL := 12) (ret := (some .int)) (by decide) rfl ?_
  intro p e s m args below meth c s₁ B hml hv
  obtain ⟨rfl, hP, hK⟩ := hv
  have hx := B.exec
  have hb := B.bytes
  have hr := B.returns
  have hts := atoms_spec (ws := wsX10_askOf) B.pre
  have hown : s.vm.findClass RX10 = some m.cls := findClass_of_methodNamed B.named
  have hlocks := B.notSynchronized
  have hS : va_S (fun _ => False) s.heap s.heap [] := va_S.rf
  have hl := lv_entry ([.ref (b 0), .int (nI (w_))]) (n := 12) (Nat.le_of_ble_eq_true rfl)
  rw [lg_entry_eq]
  generalize (lg_sl ([.ref (b 0), .int (nI (w_))]) ++ List.replicate (12 - (lg_sl ([.ref (b 0), .int (nI (w_))])).length) Slot.unset).toArray = ls at hl ⊢
  have hl : lv_has ls 12 [(0, .ref (b 0)), (1, .int (nI (w_)))] := hl
  refine W_abs (fun G hG => ?_)
  have hbl_ : bs_ R E w_ h 4 < 16 := bs_lt R E w_ h 4
  have L14 : ∀ (fu : Nat) (q_ : Nat), q_ ≤ 16 → (bs_ R E w_ h 4 = 0 → q_ = 0) → 16 + 1 ≤ q_ + fu → ∀ (H : Heap) (locs : List Loc), va_P (dC, dI) vwCl [((b 0), .inr (10, [.ref (b 1), .int (pm), .ref (b 2), .int (r_s), .ref (b 3), .int (r_w), .int (st), .int (nI (n)), .int (nI (w)), .int (wk), .int (tr), .ref (b 4), .ref (b 5), .int (nd), .ref (b 6), .ref (b 7), .int (nI (h)), .ref (b 8), .int (sd), .ref (b 9), .int (kt), .int (kw), .int (kh), .ref (b 10), .ref (b 11), .long (hz)])), ((b 4), .inl (cI, 32, .inl (fun ii => nI (R ii)))), ((b 8), .inl (cI, 32, .inl (fun ii => nI (E ii))))] H → va_S (fun _ => False) s.heap H locs → ∀ (ls : Array Slot), lv_has ls 12 [(0, .ref (b 0)), (1, .int (nI (w_))), (2, .int (nI (bs_ R E w_ h 4))), (3, .int (oI (as_ R (bs_ R E w_ h 4) n q_).1)), (4, .int (nI ((as_ R (bs_ R E w_ h 4) n q_).2))), (5, .int (nI (q_)))] → G H locs (F0 m 14 ls []) := by
    intro fu
    induction fu with
    | zero => intro q_ h2 h0 hfu H locs hP hS ls hl; omega
    | succ fu ih14 =>
      intro q_ h2 h0 hfu H locs hP hS ls hl
      have hab := as_le R (bs_ R E w_ h 4) n q_
      have L71 : ∀ (fu : Nat) (f : Nat), f ≤ 4 → q_ < 16 → q_ / 4 < n → q_ % 4 < n → q_ / 4 ≠ q_ % 4 → ¬ bs_ R E w_ h 4 = 0 → 4 + 1 ≤ f + fu → ∀ (H : Heap) (locs : List Loc), va_P (dC, dI) vwCl [((b 0), .inr (10, [.ref (b 1), .int (pm), .ref (b 2), .int (r_s), .ref (b 3), .int (r_w), .int (st), .int (nI (n)), .int (nI (w)), .int (wk), .int (tr), .ref (b 4), .ref (b 5), .int (nd), .ref (b 6), .ref (b 7), .int (nI (h)), .ref (b 8), .int (sd), .ref (b 9), .int (kt), .int (kw), .int (kh), .ref (b 10), .ref (b 11), .long (hz)])), ((b 4), .inl (cI, 32, .inl (fun ii => nI (R ii)))), ((b 8), .inl (cI, 32, .inl (fun ii => nI (E ii))))] H → va_S (fun _ => False) s.heap H locs → ∀ (ls : Array Slot), lv_has ls 12 [(0, .ref (b 0)), (1, .int (nI (w_))), (2, .int (nI (bs_ R E w_ h 4))), (3, .int (oI (as_ R (bs_ R E w_ h 4) n q_).1)), (4, .int (nI ((as_ R (bs_ R E w_ h 4) n q_).2))), (5, .int (nI (q_))), (6, .int (nI (q_ / 4))), (7, .int (nI (q_ % 4))), (8, .int (nI (ys R (bs_ R E w_ h 4) (q_ / 4) (q_ % 4) f))), (9, .int (nI (al (bs_ R E w_ h 4) f))), (10, .int (nI (f)))] → G H locs (F0 m 71 ls []) := by
        intro fu
        induction fu with
        | zero => intro f h3 h4 h5 h6 h7 h8 hfu H locs hP hS ls hl; omega
        | succ fu ih71 =>
          intro f h3 h4 h5 h6 h7 h8 hfu H locs hP hS ls hl
          have hyl := ys_le R (bs_ R E w_ h 4) (q_ / 4) (q_ % 4) f
          have hal := al_le (bs_ R E w_ h 4) f
          have hlw := lw_le R (bs_ R E w_ h 4) (q_ / 4) (q_ % 4)
          refine (hG _ _ _).mpr ?_
          refine lv_iload hx hb dX10_askOf_71 (lv_at hl 10 rfl) ?_
          refine lv_iconst (v := nI (4)) hx hb dX10_askOf_73 (by decide) ?_
          refine lv_icmp_ge (tgt := 116) hx hb dX10_askOf_74 (by decide) (fun c1 => ?_) (fun c1 => ?_)
          · have c1 := (nI_leI (by decide) (by omega)).mp c1
            obtain rfl : f = 4 := by omega
            have hl : lv_has ls 12 [(0, .ref (b 0)), (1, .int (nI (w_))), (2, .int (nI (bs_ R E w_ h 4))), (3, .int (oI (as_ R (bs_ R E w_ h 4) n q_).1)), (4, .int (nI ((as_ R (bs_ R E w_ h 4) n q_).2))), (5, .int (nI (q_))), (6, .int (nI (q_ / 4))), (7, .int (nI (q_ % 4))), (8, .int (nI (ys R (bs_ R E w_ h 4) (q_ / 4) (q_ % 4) 4))), (9, .int (nI (al (bs_ R E w_ h 4) 4))), (10, .int (nI (4)))] := hl
            refine lv_iload hx hb dX10_askOf_116 (lv_at hl 8 rfl) ?_
            refine lv_iload hx hb dX10_askOf_118 (lv_at hl 9 rfl) ?_
            refine lv_iload hx hb dX10_askOf_120 (lv_at hl 8 rfl) ?_
            refine lv_isub hx hb dX10_askOf_122 ?_
            refine tp_i (z := nI ((al (bs_ R E w_ h 4) 4) - (ys R (bs_ R E w_ h 4) (q_ / 4) (q_ % 4) 4))) (pk_sub (by omega)) ?_
            refine lv_icmp_le (tgt := 131) hx hb dX10_askOf_123 (by decide) (fun c2 => ?_) (fun c2 => ?_)
            · have c2 := (nI_leI (by omega) (by omega)).mp c2
              refine lv_iload hx hb dX10_askOf_131 (lv_at hl 9 rfl) ?_
              refine lv_iload hx hb dX10_askOf_133 (lv_at hl 8 rfl) ?_
              refine lv_isub hx hb dX10_askOf_135 ?_
              refine tp_i (z := nI ((al (bs_ R E w_ h 4) 4) - (ys R (bs_ R E w_ h 4) (q_ / 4) (q_ % 4) 4))) (pk_sub (by omega)) ?_
              refine tp_i (z := nI (lw_ R (bs_ R E w_ h 4) (q_ / 4) (q_ % 4))) (by congr 1; unfold lw_; split <;> omega) ?_
              refine lv_istore (lv' := [(10, .int (nI (lw_ R (bs_ R E w_ h 4) (q_ / 4) (q_ % 4)))), (0, .ref (b 0)), (1, .int (nI (w_))), (2, .int (nI (bs_ R E w_ h 4))), (3, .int (oI (as_ R (bs_ R E w_ h 4) n q_).1)), (4, .int (nI ((as_ R (bs_ R E w_ h 4) n q_).2))), (5, .int (nI (q_))), (6, .int (nI (q_ / 4))), (7, .int (nI (q_ % 4))), (8, .int (nI (ys R (bs_ R E w_ h 4) (q_ / 4) (q_ % 4) 4))), (9, .int (nI (al (bs_ R E w_ h 4) 4)))]) hx hb dX10_askOf_136 hl (by decide) rfl (fun ls hl => ?_)
              refine lv_iload hx hb dX10_askOf_138 (lv_at hl 0 rfl) ?_
              refine lv_iload hx hb dX10_askOf_140 (lv_at hl 5 rfl) ?_
              refine lv_icmp_ge (tgt := 150) hx hb dX10_askOf_142 (by decide) (fun c3 => ?_) (fun c3 => ?_)
              · have c3 := (nI_leI (by omega) (by omega)).mp c3
                refine lv_iload_n hx hb dX10_askOf_150 rfl (lv_at hl 4 rfl) ?_
                refine lv_istore_n (lv' := [(3, .int (oI (as_ R (bs_ R E w_ h 4) n q_).1)), (10, .int (nI (lw_ R (bs_ R E w_ h 4) (q_ / 4) (q_ % 4)))), (0, .ref (b 0)), (1, .int (nI (w_))), (2, .int (nI (bs_ R E w_ h 4))), (4, .int (nI ((as_ R (bs_ R E w_ h 4) n q_).2))), (5, .int (nI (q_))), (6, .int (nI (q_ / 4))), (7, .int (nI (q_ % 4))), (8, .int (nI (ys R (bs_ R E w_ h 4) (q_ / 4) (q_ % 4) 4))), (9, .int (nI (al (bs_ R E w_ h 4) 4)))]) hx hb dX10_askOf_151 rfl hl (by decide) rfl (fun ls hl => ?_)
                refine lv_iload hx hb dX10_askOf_152 (lv_at hl 1 rfl) ?_
                refine lv_iload hx hb dX10_askOf_154 (lv_at hl 5 rfl) ?_
                refine lv_icmp_ge (tgt := 164) hx hb dX10_askOf_156 (by decide) (fun c4 => ?_) (fun c4 => ?_)
                · have c4 := (nI_leI (by omega) (by omega)).mp c4
                  refine lv_iload hx hb dX10_askOf_164 (lv_at hl 5 rfl) ?_
                  refine lv_istore (lv' := [(4, .int (nI ((as_ R (bs_ R E w_ h 4) n q_).2))), (3, .int (oI (as_ R (bs_ R E w_ h 4) n q_).1)), (10, .int (nI (lw_ R (bs_ R E w_ h 4) (q_ / 4) (q_ % 4)))), (0, .ref (b 0)), (1, .int (nI (w_))), (2, .int (nI (bs_ R E w_ h 4))), (5, .int (nI (q_))), (6, .int (nI (q_ / 4))), (7, .int (nI (q_ % 4))), (8, .int (nI (ys R (bs_ R E w_ h 4) (q_ / 4) (q_ % 4) 4))), (9, .int (nI (al (bs_ R E w_ h 4) 4)))]) hx hb dX10_askOf_166 hl (by decide) rfl (fun ls hl => ?_)
                  refine lv_iinc (v := nI (q_ + 1)) (lv' := [(5, .int (nI (q_ + 1))), (4, .int (nI ((as_ R (bs_ R E w_ h 4) n q_).2))), (3, .int (oI (as_ R (bs_ R E w_ h 4) n q_).1)), (10, .int (nI (lw_ R (bs_ R E w_ h 4) (q_ / 4) (q_ % 4)))), (0, .ref (b 0)), (1, .int (nI (w_))), (2, .int (nI (bs_ R E w_ h 4))), (6, .int (nI (q_ / 4))), (7, .int (nI (q_ % 4))), (8, .int (nI (ys R (bs_ R E w_ h 4) (q_ / 4) (q_ % 4) 4))), (9, .int (nI (al (bs_ R E w_ h 4) 4)))]) hx hb dX10_askOf_168 hl (k := 6) rfl (nI_add (q_) 1) (by decide) rfl (fun ls hl => ?_)
                  refine lv_goto (tgt := 14) hx hb dX10_askOf_171 (by decide) ?_
                  exact (hG _ _ _).mp (ih14 (q_ + 1) (by omega) (fun q => absurd q (by assumption)) (by omega) _ _ hP hS _ (by rw [as_n (R := R) (bits := (bs_ R E w_ h 4)) (n := n) (c := q_) (fun q => by have q1 := q.1.1; have q2 := q.1.2.1; have q3 := q.1.2.2; have q4 := q.2; first | omega | exact absurd (inR_n q2 (by omega)) (by assumption) | exact absurd (inR_n q3 (by omega)) (by assumption))]; exact lv_sub hl [4, 5, 6, 2, 1, 0] rfl))
                · have c4 := mt (nI_leI (by omega) (by omega)).mpr c4
                  exfalso; omega
              · have c3 := mt (nI_leI (by omega) (by omega)).mpr c3
                refine lv_iload hx hb dX10_askOf_145 (lv_at hl 6 rfl) ?_
                refine lv_goto (tgt := 151) hx hb dX10_askOf_147 (by decide) ?_
                refine lv_istore_n (lv' := [(3, .int (nI (q_))), (10, .int (nI (lw_ R (bs_ R E w_ h 4) (q_ / 4) (q_ % 4)))), (0, .ref (b 0)), (1, .int (nI (w_))), (2, .int (nI (bs_ R E w_ h 4))), (4, .int (nI ((as_ R (bs_ R E w_ h 4) n q_).2))), (5, .int (nI (q_))), (6, .int (nI (q_ / 4))), (7, .int (nI (q_ % 4))), (8, .int (nI (ys R (bs_ R E w_ h 4) (q_ / 4) (q_ % 4) 4))), (9, .int (nI (al (bs_ R E w_ h 4) 4)))]) hx hb dX10_askOf_151 rfl hl (by decide) rfl (fun ls hl => ?_)
                refine lv_iload hx hb dX10_askOf_152 (lv_at hl 1 rfl) ?_
                refine lv_iload hx hb dX10_askOf_154 (lv_at hl 5 rfl) ?_
                refine lv_icmp_ge (tgt := 164) hx hb dX10_askOf_156 (by decide) (fun c5 => ?_) (fun c5 => ?_)
                · have c5 := (nI_leI (by omega) (by omega)).mp c5
                  exfalso; omega
                have c5 := mt (nI_leI (by omega) (by omega)).mpr c5
                refine lv_iload hx hb dX10_askOf_159 (lv_at hl 1 rfl) ?_
                refine lv_goto (tgt := 166) hx hb dX10_askOf_161 (by decide) ?_
                refine lv_istore (lv' := [(4, .int (nI (lw_ R (bs_ R E w_ h 4) (q_ / 4) (q_ % 4)))), (3, .int (nI (q_))), (10, .int (nI (lw_ R (bs_ R E w_ h 4) (q_ / 4) (q_ % 4)))), (0, .ref (b 0)), (1, .int (nI (w_))), (2, .int (nI (bs_ R E w_ h 4))), (5, .int (nI (q_))), (6, .int (nI (q_ / 4))), (7, .int (nI (q_ % 4))), (8, .int (nI (ys R (bs_ R E w_ h 4) (q_ / 4) (q_ % 4) 4))), (9, .int (nI (al (bs_ R E w_ h 4) 4)))]) hx hb dX10_askOf_166 hl (by decide) rfl (fun ls hl => ?_)
                refine lv_iinc (v := nI (q_ + 1)) (lv' := [(5, .int (nI (q_ + 1))), (4, .int (nI (lw_ R (bs_ R E w_ h 4) (q_ / 4) (q_ % 4)))), (3, .int (nI (q_))), (10, .int (nI (lw_ R (bs_ R E w_ h 4) (q_ / 4) (q_ % 4)))), (0, .ref (b 0)), (1, .int (nI (w_))), (2, .int (nI (bs_ R E w_ h 4))), (6, .int (nI (q_ / 4))), (7, .int (nI (q_ % 4))), (8, .int (nI (ys R (bs_ R E w_ h 4) (q_ / 4) (q_ % 4) 4))), (9, .int (nI (al (bs_ R E w_ h 4) 4)))]) hx hb dX10_askOf_168 hl (k := 6) rfl (nI_add (q_) 1) (by decide) rfl (fun ls hl => ?_)
                refine lv_goto (tgt := 14) hx hb dX10_askOf_171 (by decide) ?_
                exact (hG _ _ _).mp (ih14 (q_ + 1) (by omega) (fun q => absurd q (by assumption)) (by omega) _ _ hP hS _ (by rw [(as_y1 (R := R) (bits := (bs_ R E w_ h 4)) (n := n) (c := q_) ⟨⟨by assumption, by omega, by omega⟩, by omega⟩).1, (as_y1 (R := R) (bits := (bs_ R E w_ h 4)) (n := n) (c := q_) ⟨⟨by assumption, by omega, by omega⟩, by omega⟩).2]; exact lv_sub hl [4, 5, 6, 2, 1, 0] rfl))
            · have c2 := mt (nI_leI (by omega) (by omega)).mpr c2
              refine lv_iload hx hb dX10_askOf_126 (lv_at hl 8 rfl) ?_
              refine lv_goto (tgt := 136) hx hb dX10_askOf_128 (by decide) ?_
              refine tp_i (z := nI (lw_ R (bs_ R E w_ h 4) (q_ / 4) (q_ % 4))) (by congr 1; unfold lw_; split <;> omega) ?_
              refine lv_istore (lv' := [(10, .int (nI (lw_ R (bs_ R E w_ h 4) (q_ / 4) (q_ % 4)))), (0, .ref (b 0)), (1, .int (nI (w_))), (2, .int (nI (bs_ R E w_ h 4))), (3, .int (oI (as_ R (bs_ R E w_ h 4) n q_).1)), (4, .int (nI ((as_ R (bs_ R E w_ h 4) n q_).2))), (5, .int (nI (q_))), (6, .int (nI (q_ / 4))), (7, .int (nI (q_ % 4))), (8, .int (nI (ys R (bs_ R E w_ h 4) (q_ / 4) (q_ % 4) 4))), (9, .int (nI (al (bs_ R E w_ h 4) 4)))]) hx hb dX10_askOf_136 hl (by decide) rfl (fun ls hl => ?_)
              refine lv_iload hx hb dX10_askOf_138 (lv_at hl 0 rfl) ?_
              refine lv_iload hx hb dX10_askOf_140 (lv_at hl 5 rfl) ?_
              refine lv_icmp_ge (tgt := 150) hx hb dX10_askOf_142 (by decide) (fun c6 => ?_) (fun c6 => ?_)
              · have c6 := (nI_leI (by omega) (by omega)).mp c6
                refine lv_iload_n hx hb dX10_askOf_150 rfl (lv_at hl 4 rfl) ?_
                refine lv_istore_n (lv' := [(3, .int (oI (as_ R (bs_ R E w_ h 4) n q_).1)), (10, .int (nI (lw_ R (bs_ R E w_ h 4) (q_ / 4) (q_ % 4)))), (0, .ref (b 0)), (1, .int (nI (w_))), (2, .int (nI (bs_ R E w_ h 4))), (4, .int (nI ((as_ R (bs_ R E w_ h 4) n q_).2))), (5, .int (nI (q_))), (6, .int (nI (q_ / 4))), (7, .int (nI (q_ % 4))), (8, .int (nI (ys R (bs_ R E w_ h 4) (q_ / 4) (q_ % 4) 4))), (9, .int (nI (al (bs_ R E w_ h 4) 4)))]) hx hb dX10_askOf_151 rfl hl (by decide) rfl (fun ls hl => ?_)
                refine lv_iload hx hb dX10_askOf_152 (lv_at hl 1 rfl) ?_
                refine lv_iload hx hb dX10_askOf_154 (lv_at hl 5 rfl) ?_
                refine lv_icmp_ge (tgt := 164) hx hb dX10_askOf_156 (by decide) (fun c7 => ?_) (fun c7 => ?_)
                · have c7 := (nI_leI (by omega) (by omega)).mp c7
                  refine lv_iload hx hb dX10_askOf_164 (lv_at hl 5 rfl) ?_
                  refine lv_istore (lv' := [(4, .int (nI ((as_ R (bs_ R E w_ h 4) n q_).2))), (3, .int (oI (as_ R (bs_ R E w_ h 4) n q_).1)), (10, .int (nI (lw_ R (bs_ R E w_ h 4) (q_ / 4) (q_ % 4)))), (0, .ref (b 0)), (1, .int (nI (w_))), (2, .int (nI (bs_ R E w_ h 4))), (5, .int (nI (q_))), (6, .int (nI (q_ / 4))), (7, .int (nI (q_ % 4))), (8, .int (nI (ys R (bs_ R E w_ h 4) (q_ / 4) (q_ % 4) 4))), (9, .int (nI (al (bs_ R E w_ h 4) 4)))]) hx hb dX10_askOf_166 hl (by decide) rfl (fun ls hl => ?_)
                  refine lv_iinc (v := nI (q_ + 1)) (lv' := [(5, .int (nI (q_ + 1))), (4, .int (nI ((as_ R (bs_ R E w_ h 4) n q_).2))), (3, .int (oI (as_ R (bs_ R E w_ h 4) n q_).1)), (10, .int (nI (lw_ R (bs_ R E w_ h 4) (q_ / 4) (q_ % 4)))), (0, .ref (b 0)), (1, .int (nI (w_))), (2, .int (nI (bs_ R E w_ h 4))), (6, .int (nI (q_ / 4))), (7, .int (nI (q_ % 4))), (8, .int (nI (ys R (bs_ R E w_ h 4) (q_ / 4) (q_ % 4) 4))), (9, .int (nI (al (bs_ R E w_ h 4) 4)))]) hx hb dX10_askOf_168 hl (k := 6) rfl (nI_add (q_) 1) (by decide) rfl (fun ls hl => ?_)
                  refine lv_goto (tgt := 14) hx hb dX10_askOf_171 (by decide) ?_
                  exact (hG _ _ _).mp (ih14 (q_ + 1) (by omega) (fun q => absurd q (by assumption)) (by omega) _ _ hP hS _ (by rw [as_n (R := R) (bits := (bs_ R E w_ h 4)) (n := n) (c := q_) (fun q => by have q1 := q.1.1; have q2 := q.1.2.1; have q3 := q.1.2.2; have q4 := q.2; first | omega | exact absurd (inR_n q2 (by omega)) (by assumption) | exact absurd (inR_n q3 (by omega)) (by assumption))]; exact lv_sub hl [4, 5, 6, 2, 1, 0] rfl))
                · have c7 := mt (nI_leI (by omega) (by omega)).mpr c7
                  exfalso; omega
              · have c6 := mt (nI_leI (by omega) (by omega)).mpr c6
                refine lv_iload hx hb dX10_askOf_145 (lv_at hl 6 rfl) ?_
                refine lv_goto (tgt := 151) hx hb dX10_askOf_147 (by decide) ?_
                refine lv_istore_n (lv' := [(3, .int (nI (q_))), (10, .int (nI (lw_ R (bs_ R E w_ h 4) (q_ / 4) (q_ % 4)))), (0, .ref (b 0)), (1, .int (nI (w_))), (2, .int (nI (bs_ R E w_ h 4))), (4, .int (nI ((as_ R (bs_ R E w_ h 4) n q_).2))), (5, .int (nI (q_))), (6, .int (nI (q_ / 4))), (7, .int (nI (q_ % 4))), (8, .int (nI (ys R (bs_ R E w_ h 4) (q_ / 4) (q_ % 4) 4))), (9, .int (nI (al (bs_ R E w_ h 4) 4)))]) hx hb dX10_askOf_151 rfl hl (by decide) rfl (fun ls hl => ?_)
                refine lv_iload hx hb dX10_askOf_152 (lv_at hl 1 rfl) ?_
                refine lv_iload hx hb dX10_askOf_154 (lv_at hl 5 rfl) ?_
                refine lv_icmp_ge (tgt := 164) hx hb dX10_askOf_156 (by decide) (fun c8 => ?_) (fun c8 => ?_)
                · have c8 := (nI_leI (by omega) (by omega)).mp c8
                  exfalso; omega
                have c8 := mt (nI_leI (by omega) (by omega)).mpr c8
                refine lv_iload hx hb dX10_askOf_159 (lv_at hl 1 rfl) ?_
                refine lv_goto (tgt := 166) hx hb dX10_askOf_161 (by decide) ?_
                refine lv_istore (lv' := [(4, .int (nI (lw_ R (bs_ R E w_ h 4) (q_ / 4) (q_ % 4)))), (3, .int (nI (q_))), (10, .int (nI (lw_ R (bs_ R E w_ h 4) (q_ / 4) (q_ % 4)))), (0, .ref (b 0)), (1, .int (nI (w_))), (2, .int (nI (bs_ R E w_ h 4))), (5, .int (nI (q_))), (6, .int (nI (q_ / 4))), (7, .int (nI (q_ % 4))), (8, .int (nI (ys R (bs_ R E w_ h 4) (q_ / 4) (q_ % 4) 4))), (9, .int (nI (al (bs_ R E w_ h 4) 4)))]) hx hb dX10_askOf_166 hl (by decide) rfl (fun ls hl => ?_)
                refine lv_iinc (v := nI (q_ + 1)) (lv' := [(5, .int (nI (q_ + 1))), (4, .int (nI (lw_ R (bs_ R E w_ h 4) (q_ / 4) (q_ % 4)))), (3, .int (nI (q_))), (10, .int (nI (lw_ R (bs_ R E w_ h 4) (q_ / 4) (q_ % 4)))), (0, .ref (b 0)), (1, .int (nI (w_))), (2, .int (nI (bs_ R E w_ h 4))), (6, .int (nI (q_ / 4))), (7, .int (nI (q_ % 4))), (8, .int (nI (ys R (bs_ R E w_ h 4) (q_ / 4) (q_ % 4) 4))), (9, .int (nI (al (bs_ R E w_ h 4) 4)))]) hx hb dX10_askOf_168 hl (k := 6) rfl (nI_add (q_) 1) (by decide) rfl (fun ls hl => ?_)
                refine lv_goto (tgt := 14) hx hb dX10_askOf_171 (by decide) ?_
                exact (hG _ _ _).mp (ih14 (q_ + 1) (by omega) (fun q => absurd q (by assumption)) (by omega) _ _ hP hS _ (by rw [(as_y1 (R := R) (bits := (bs_ R E w_ h 4)) (n := n) (c := q_) ⟨⟨by assumption, by omega, by omega⟩, by omega⟩).1, (as_y1 (R := R) (bits := (bs_ R E w_ h 4)) (n := n) (c := q_) ⟨⟨by assumption, by omega, by omega⟩, by omega⟩).2]; exact lv_sub hl [4, 5, 6, 2, 1, 0] rfl))
          · have c1 := mt (nI_leI (by decide) (by omega)).mpr c1
            refine lv_iload_n hx hb dX10_askOf_77 rfl (lv_at hl 2 rfl) ?_
            refine lv_iload hx hb dX10_askOf_78 (lv_at hl 10 rfl) ?_
            refine lv_ishr hx hb dX10_askOf_80 ?_
            refine lv_iconst (v := nI (1)) hx hb dX10_askOf_81 (by decide) ?_
            refine lv_iand hx hb dX10_askOf_82 ?_
            refine tp_i (z := nI ((bs_ R E w_ h 4) / 2 ^ f % 2)) (sr_bit _ hbl_ f (by omega)) ?_
            refine lv_istore (lv' := [(11, .int (nI ((bs_ R E w_ h 4) / 2 ^ f % 2))), (0, .ref (b 0)), (1, .int (nI (w_))), (2, .int (nI (bs_ R E w_ h 4))), (3, .int (oI (as_ R (bs_ R E w_ h 4) n q_).1)), (4, .int (nI ((as_ R (bs_ R E w_ h 4) n q_).2))), (5, .int (nI (q_))), (6, .int (nI (q_ / 4))), (7, .int (nI (q_ % 4))), (8, .int (nI (ys R (bs_ R E w_ h 4) (q_ / 4) (q_ % 4) f))), (9, .int (nI (al (bs_ R E w_ h 4) f))), (10, .int (nI (f)))]) hx hb dX10_askOf_83 hl (by decide) rfl (fun ls hl => ?_)
            refine lv_iload hx hb dX10_askOf_85 (lv_at hl 10 rfl) ?_
            refine lv_iload hx hb dX10_askOf_87 (lv_at hl 0 rfl) ?_
            refine lv_iadd hx hb dX10_askOf_89 ?_
            refine tp_i (z := nI (al (bs_ R E w_ h 4) f + (bs_ R E w_ h 4) / 2 ^ f % 2)) (nI_add (al (bs_ R E w_ h 4) f) ((bs_ R E w_ h 4) / 2 ^ f % 2)) ?_
            refine lv_istore (lv' := [(9, .int (nI (al (bs_ R E w_ h 4) f + (bs_ R E w_ h 4) / 2 ^ f % 2))), (11, .int (nI ((bs_ R E w_ h 4) / 2 ^ f % 2))), (0, .ref (b 0)), (1, .int (nI (w_))), (2, .int (nI (bs_ R E w_ h 4))), (3, .int (oI (as_ R (bs_ R E w_ h 4) n q_).1)), (4, .int (nI ((as_ R (bs_ R E w_ h 4) n q_).2))), (5, .int (nI (q_))), (6, .int (nI (q_ / 4))), (7, .int (nI (q_ % 4))), (8, .int (nI (ys R (bs_ R E w_ h 4) (q_ / 4) (q_ % 4) f))), (10, .int (nI (f)))]) hx hb dX10_askOf_90 hl (by decide) rfl (fun ls hl => ?_)
            refine lv_iload hx hb dX10_askOf_92 (lv_at hl 10 rfl) ?_
            refine lv_iload hx hb dX10_askOf_94 (lv_at hl 1 rfl) ?_
            refine lv_aload_n hx hb dX10_askOf_96 rfl (lv_at hl 2 rfl) ?_
            refine lv_iload hx hb dX10_askOf_97 (lv_at hl 8 rfl) ?_
            refine lv_iload hx hb dX10_askOf_99 (lv_at hl 9 rfl) ?_
            refine lv_iload hx hb dX10_askOf_101 (lv_at hl 11 rfl) ?_
            refine ro_calli (va_runV (As := [.int (nI (q_ / 4)), .int (nI (q_ % 4)), .int (nI (f))]) (rest := [.int (nI ((bs_ R E w_ h 4) / 2 ^ f % 2)), .int (nI (ys R (bs_ R E w_ h 4) (q_ / 4) (q_ % 4) f))]) ⟨hx, hb, hml, hown, hts⟩ (c_X10_isMore l dC dI cI b pm r_s r_w st n w wk tr nd (nI (h)) sd kt kw kh hz R hR hn (q_ / 4) (q_ % 4) (f) (by omega) (by omega) (by omega)) (cwV 3 hts gX10_askOf_X10_isMore rfl rfl rfl (by decide +kernel) ⟨Nat.le_of_ble_eq_true rfl, Nat.le_of_ble_eq_true rfl⟩) (ro_pv hK hP [0, 1] rfl (ci := 10) (q0 := 0) (C := RX10) (T := TX10) (N := 26) rfl rfl) rfl rfl hl.1 rfl (lv_room (Nat.le_of_ble_eq_true rfl)) dX10_askOf_103 ⟨Nat.zero_le _, Nat.zero_le _⟩) hS hP (fun r9 H locs hr9 hP hS => ?_)
            subst hr9
            refine tp_i (z := nI (if hb_ R (q_ % 4) f < hb_ R (q_ / 4) f then 1 else 0)) bI_01 ?_
            refine lv_imul hx hb dX10_askOf_106 ?_
            refine tp_i (z := nI (((bs_ R E w_ h 4) / 2 ^ f % 2) * (if hb_ R (q_ % 4) f < hb_ R (q_ / 4) f then 1 else 0))) (pk_mul ((bs_ R E w_ h 4) / 2 ^ f % 2) (if hb_ R (q_ % 4) f < hb_ R (q_ / 4) f then 1 else 0)) ?_
            refine lv_iadd hx hb dX10_askOf_107 ?_
            refine tp_i (z := nI (ys R (bs_ R E w_ h 4) (q_ / 4) (q_ % 4) f + ((bs_ R E w_ h 4) / 2 ^ f % 2) * (if hb_ R (q_ % 4) f < hb_ R (q_ / 4) f then 1 else 0))) (nI_add (ys R (bs_ R E w_ h 4) (q_ / 4) (q_ % 4) f) (((bs_ R E w_ h 4) / 2 ^ f % 2) * (if hb_ R (q_ % 4) f < hb_ R (q_ / 4) f then 1 else 0))) ?_
            refine lv_istore (lv' := [(8, .int (nI (ys R (bs_ R E w_ h 4) (q_ / 4) (q_ % 4) f + ((bs_ R E w_ h 4) / 2 ^ f % 2) * (if hb_ R (q_ % 4) f < hb_ R (q_ / 4) f then 1 else 0)))), (9, .int (nI (al (bs_ R E w_ h 4) f + (bs_ R E w_ h 4) / 2 ^ f % 2))), (11, .int (nI ((bs_ R E w_ h 4) / 2 ^ f % 2))), (0, .ref (b 0)), (1, .int (nI (w_))), (2, .int (nI (bs_ R E w_ h 4))), (3, .int (oI (as_ R (bs_ R E w_ h 4) n q_).1)), (4, .int (nI ((as_ R (bs_ R E w_ h 4) n q_).2))), (5, .int (nI (q_))), (6, .int (nI (q_ / 4))), (7, .int (nI (q_ % 4))), (10, .int (nI (f)))]) hx hb dX10_askOf_108 hl (by decide) rfl (fun ls hl => ?_)
            refine lv_iinc (v := nI (f + 1)) (lv' := [(10, .int (nI (f + 1))), (8, .int (nI (ys R (bs_ R E w_ h 4) (q_ / 4) (q_ % 4) f + ((bs_ R E w_ h 4) / 2 ^ f % 2) * (if hb_ R (q_ % 4) f < hb_ R (q_ / 4) f then 1 else 0)))), (9, .int (nI (al (bs_ R E w_ h 4) f + (bs_ R E w_ h 4) / 2 ^ f % 2))), (11, .int (nI ((bs_ R E w_ h 4) / 2 ^ f % 2))), (0, .ref (b 0)), (1, .int (nI (w_))), (2, .int (nI (bs_ R E w_ h 4))), (3, .int (oI (as_ R (bs_ R E w_ h 4) n q_).1)), (4, .int (nI ((as_ R (bs_ R E w_ h 4) n q_).2))), (5, .int (nI (q_))), (6, .int (nI (q_ / 4))), (7, .int (nI (q_ % 4)))]) hx hb dX10_askOf_110 hl (k := 11) rfl (nI_add (f) 1) (by decide) rfl (fun ls hl => ?_)
            refine lv_goto (tgt := 71) hx hb dX10_askOf_113 (by decide) ?_
            exact (hG _ _ _).mp (ih71 (f + 1) (by omega) (by omega) (by omega) (by omega) (by omega) (by assumption) (by omega) _ _ hP hS _ (lv_sub hl [4, 5, 6, 7, 8, 9, 10, 11, 1, 2, 0] rfl))
      refine (hG _ _ _).mpr ?_
      refine lv_iload hx hb dX10_askOf_14 (lv_at hl 5 rfl) ?_
      refine lv_bipush (v := nI (16)) hx hb dX10_askOf_16 (by decide) ?_
      refine lv_icmp_ge (tgt := 174) hx hb dX10_askOf_18 (by decide) (fun c10 => ?_) (fun c10 => ?_)
      · have c10 := (nI_leI (by decide) (by omega)).mp c10
        refine lv_iload_n hx hb dX10_askOf_174 rfl (lv_at hl 3 rfl) ?_
        exact W.iret hx hb hr (fun t ht hW => ⟨⟨_, (), rfl, (ask_end h0 (by omega)), trivial⟩, hS.F ht⟩) hS.2.2 dX10_askOf_175
      · have c10 := mt (nI_leI (by decide) (by omega)).mpr c10
        refine lv_iload_n hx hb dX10_askOf_21 rfl (lv_at hl 2 rfl) ?_
        refine lv_if_eq (tgt := 174) hx hb dX10_askOf_22 (by decide) (fun c11 => ?_) (fun c11 => ?_)
        · have c11 := (z_eq (by omega)).mp c11
          refine lv_iload_n hx hb dX10_askOf_174 rfl (lv_at hl 3 rfl) ?_
          exact W.iret hx hb hr (fun t ht hW => ⟨⟨_, (), rfl, (ask_end h0 (by omega)), trivial⟩, hS.F ht⟩) hS.2.2 dX10_askOf_175
        · have c11 := mt (z_eq (by omega)).mpr c11
          refine lv_iload hx hb dX10_askOf_25 (lv_at hl 5 rfl) ?_
          refine lv_iconst (v := nI (4)) hx hb dX10_askOf_27 (by decide) ?_
          refine lv_idiv hx hb dX10_askOf_28 (by decide) ?_
          refine tp_i (z := nI (q_ / 4)) (pk_div (by omega) (by decide) (by decide)) ?_
          refine lv_istore (lv' := [(6, .int (nI (q_ / 4))), (0, .ref (b 0)), (1, .int (nI (w_))), (2, .int (nI (bs_ R E w_ h 4))), (3, .int (oI (as_ R (bs_ R E w_ h 4) n q_).1)), (4, .int (nI ((as_ R (bs_ R E w_ h 4) n q_).2))), (5, .int (nI (q_)))]) hx hb dX10_askOf_29 hl (by decide) rfl (fun ls hl => ?_)
          refine lv_iload hx hb dX10_askOf_31 (lv_at hl 6 rfl) ?_
          refine lv_iconst (v := nI (4)) hx hb dX10_askOf_33 (by decide) ?_
          refine lv_irem hx hb dX10_askOf_34 (by decide) ?_
          refine tp_i (z := nI (q_ % 4)) (pk_rem (by omega) (by decide) (by decide)) ?_
          refine lv_istore (lv' := [(7, .int (nI (q_ % 4))), (6, .int (nI (q_ / 4))), (0, .ref (b 0)), (1, .int (nI (w_))), (2, .int (nI (bs_ R E w_ h 4))), (3, .int (oI (as_ R (bs_ R E w_ h 4) n q_).1)), (4, .int (nI ((as_ R (bs_ R E w_ h 4) n q_).2))), (5, .int (nI (q_)))]) hx hb dX10_askOf_35 hl (by decide) rfl (fun ls hl => ?_)
          refine lv_iload hx hb dX10_askOf_37 (lv_at hl 1 rfl) ?_
          refine lv_iload hx hb dX10_askOf_39 (lv_at hl 0 rfl) ?_
          refine lv_icmp_eq (tgt := 168) hx hb dX10_askOf_41 (by decide) (fun c12 => ?_) (fun c12 => ?_)
          · have c12 := (nI_eq (by omega) (by omega)).mp c12
            refine lv_iinc (v := nI (q_ + 1)) (lv' := [(5, .int (nI (q_ + 1))), (7, .int (nI (q_ % 4))), (6, .int (nI (q_ / 4))), (0, .ref (b 0)), (1, .int (nI (w_))), (2, .int (nI (bs_ R E w_ h 4))), (3, .int (oI (as_ R (bs_ R E w_ h 4) n q_).1)), (4, .int (nI ((as_ R (bs_ R E w_ h 4) n q_).2)))]) hx hb dX10_askOf_168 hl (k := 7) rfl (nI_add (q_) 1) (by decide) rfl (fun ls hl => ?_)
            refine lv_goto (tgt := 14) hx hb dX10_askOf_171 (by decide) ?_
            exact (hG _ _ _).mp (ih14 (q_ + 1) (by omega) (fun q => absurd q (by assumption)) (by omega) _ _ hP hS _ (by rw [as_n (R := R) (bits := (bs_ R E w_ h 4)) (n := n) (c := q_) (fun q => by have q1 := q.1.1; have q2 := q.1.2.1; have q3 := q.1.2.2; have q4 := q.2; first | omega | exact absurd (inR_n q2 (by omega)) (by assumption) | exact absurd (inR_n q3 (by omega)) (by assumption))]; exact lv_sub hl [3, 4, 5, 6, 7, 0] rfl))
          · have c12 := mt (nI_eq (by omega) (by omega)).mpr c12
            refine lv_aload_n hx hb dX10_askOf_44 rfl (lv_at hl 2 rfl) ?_
            refine lv_iload hx hb dX10_askOf_45 (lv_at hl 1 rfl) ?_
            refine ro_calli (va_runV (As := [.int (nI (q_ / 4))]) (rest := []) ⟨hx, hb, hml, hown, hts⟩ (c_X10_isSinger l dC dI cI b pm r_s r_w st n w wk tr nd (nI (h)) sd kt kw kh hz (by omega) (by omega) (nI (q_ / 4))) (cwV 1 hts gX10_askOf_X10_isSinger rfl rfl rfl (by decide +kernel) ⟨Nat.le_of_ble_eq_true rfl, Nat.le_of_ble_eq_true rfl⟩) (ro_pv hK hP [0] rfl (ci := 10) (q0 := 0) (C := RX10) (T := TX10) (N := 26) rfl rfl) rfl rfl hl.1 rfl (lv_room (Nat.le_of_ble_eq_true rfl)) dX10_askOf_47 ⟨Nat.zero_le _, Nat.zero_le _⟩) hS hP (fun r13 H locs hr13 hP hS => ?_)
            subst hr13
            refine lv_if_eq (tgt := 168) hx hb dX10_askOf_50 (by decide) (fun c14 => ?_) (fun c14 => ?_)
            · have c14 := bI_0.mp c14
              refine lv_iinc (v := nI (q_ + 1)) (lv' := [(5, .int (nI (q_ + 1))), (7, .int (nI (q_ % 4))), (6, .int (nI (q_ / 4))), (0, .ref (b 0)), (1, .int (nI (w_))), (2, .int (nI (bs_ R E w_ h 4))), (3, .int (oI (as_ R (bs_ R E w_ h 4) n q_).1)), (4, .int (nI ((as_ R (bs_ R E w_ h 4) n q_).2)))]) hx hb dX10_askOf_168 hl (k := 7) rfl (nI_add (q_) 1) (by decide) rfl (fun ls hl => ?_)
              refine lv_goto (tgt := 14) hx hb dX10_askOf_171 (by decide) ?_
              exact (hG _ _ _).mp (ih14 (q_ + 1) (by omega) (fun q => absurd q (by assumption)) (by omega) _ _ hP hS _ (by rw [as_n (R := R) (bits := (bs_ R E w_ h 4)) (n := n) (c := q_) (fun q => by have q1 := q.1.1; have q2 := q.1.2.1; have q3 := q.1.2.2; have q4 := q.2; first | omega | exact absurd (inR_n q2 (by omega)) (by assumption) | exact absurd (inR_n q3 (by omega)) (by assumption))]; exact lv_sub hl [3, 4, 5, 6, 7, 0] rfl))
            · have c14 := Decidable.not_not.mp (mt bI_0.mpr c14)
              refine lv_aload_n hx hb dX10_askOf_53 rfl (lv_at hl 2 rfl) ?_
              refine lv_iload hx hb dX10_askOf_54 (lv_at hl 0 rfl) ?_
              refine ro_calli (va_runV (As := [.int (nI (q_ % 4))]) (rest := []) ⟨hx, hb, hml, hown, hts⟩ (c_X10_isSinger l dC dI cI b pm r_s r_w st n w wk tr nd (nI (h)) sd kt kw kh hz (by omega) (by omega) (nI (q_ % 4))) (cwV 1 hts gX10_askOf_X10_isSinger rfl rfl rfl (by decide +kernel) ⟨Nat.le_of_ble_eq_true rfl, Nat.le_of_ble_eq_true rfl⟩) (ro_pv hK hP [0] rfl (ci := 10) (q0 := 0) (C := RX10) (T := TX10) (N := 26) rfl rfl) rfl rfl hl.1 rfl (lv_room (Nat.le_of_ble_eq_true rfl)) dX10_askOf_56 ⟨Nat.zero_le _, Nat.zero_le _⟩) hS hP (fun r15 H locs hr15 hP hS => ?_)
              subst hr15
              refine lv_if_eq (tgt := 168) hx hb dX10_askOf_59 (by decide) (fun c16 => ?_) (fun c16 => ?_)
              · have c16 := bI_0.mp c16
                refine lv_iinc (v := nI (q_ + 1)) (lv' := [(5, .int (nI (q_ + 1))), (7, .int (nI (q_ % 4))), (6, .int (nI (q_ / 4))), (0, .ref (b 0)), (1, .int (nI (w_))), (2, .int (nI (bs_ R E w_ h 4))), (3, .int (oI (as_ R (bs_ R E w_ h 4) n q_).1)), (4, .int (nI ((as_ R (bs_ R E w_ h 4) n q_).2)))]) hx hb dX10_askOf_168 hl (k := 7) rfl (nI_add (q_) 1) (by decide) rfl (fun ls hl => ?_)
                refine lv_goto (tgt := 14) hx hb dX10_askOf_171 (by decide) ?_
                exact (hG _ _ _).mp (ih14 (q_ + 1) (by omega) (fun q => absurd q (by assumption)) (by omega) _ _ hP hS _ (by rw [as_n (R := R) (bits := (bs_ R E w_ h 4)) (n := n) (c := q_) (fun q => by have q1 := q.1.1; have q2 := q.1.2.1; have q3 := q.1.2.2; have q4 := q.2; first | omega | exact absurd (inR_n q2 (by omega)) (by assumption) | exact absurd (inR_n q3 (by omega)) (by assumption))]; exact lv_sub hl [3, 4, 5, 6, 7, 0] rfl))
              · have c16 := Decidable.not_not.mp (mt bI_0.mpr c16)
                refine lv_iconst (v := nI (0)) hx hb dX10_askOf_62 (by decide) ?_
                refine lv_istore (lv' := [(8, .int (nI (0))), (7, .int (nI (q_ % 4))), (6, .int (nI (q_ / 4))), (0, .ref (b 0)), (1, .int (nI (w_))), (2, .int (nI (bs_ R E w_ h 4))), (3, .int (oI (as_ R (bs_ R E w_ h 4) n q_).1)), (4, .int (nI ((as_ R (bs_ R E w_ h 4) n q_).2))), (5, .int (nI (q_)))]) hx hb dX10_askOf_63 hl (by decide) rfl (fun ls hl => ?_)
                refine lv_iconst (v := nI (0)) hx hb dX10_askOf_65 (by decide) ?_
                refine lv_istore (lv' := [(9, .int (nI (0))), (8, .int (nI (0))), (7, .int (nI (q_ % 4))), (6, .int (nI (q_ / 4))), (0, .ref (b 0)), (1, .int (nI (w_))), (2, .int (nI (bs_ R E w_ h 4))), (3, .int (oI (as_ R (bs_ R E w_ h 4) n q_).1)), (4, .int (nI ((as_ R (bs_ R E w_ h 4) n q_).2))), (5, .int (nI (q_)))]) hx hb dX10_askOf_66 hl (by decide) rfl (fun ls hl => ?_)
                refine lv_iconst (v := nI (0)) hx hb dX10_askOf_68 (by decide) ?_
                refine lv_istore (lv' := [(10, .int (nI (0))), (9, .int (nI (0))), (8, .int (nI (0))), (7, .int (nI (q_ % 4))), (6, .int (nI (q_ / 4))), (0, .ref (b 0)), (1, .int (nI (w_))), (2, .int (nI (bs_ R E w_ h 4))), (3, .int (oI (as_ R (bs_ R E w_ h 4) n q_).1)), (4, .int (nI ((as_ R (bs_ R E w_ h 4) n q_).2))), (5, .int (nI (q_)))]) hx hb dX10_askOf_69 hl (by decide) rfl (fun ls hl => ?_)
                exact (hG _ _ _).mp (L71 (4 + 1) (0) (by omega) (by omega) ((inR_lt (by omega)).mp (by assumption)) ((inR_lt (by omega)).mp (by assumption)) (by omega) (by assumption) (by omega) _ _ hP hS _ (lv_sub hl [5, 6, 7, 8, 9, 10, 4, 3, 2, 1, 0] rfl))
  refine (hG _ _ _).mpr ?_
  refine lv_aload_n hx hb dX10_askOf_0 rfl (lv_at hl 0 rfl) ?_
  refine lv_iload_n hx hb dX10_askOf_1 rfl (lv_at hl 1 rfl) ?_
  refine ro_calli (va_runV (As := [.int (nI (w_))]) (rest := []) ⟨hx, hb, hml, hown, hts⟩ (c_M_mindsOf l dC dI cI b pm r_s r_w st n w wk tr nd h sd kt kw kh hz R hR hn hw E h hh hE (w_) (by omega)) (cwV 1 hts gX10_askOf_X10_mindsOf rfl rfl rfl (by decide +kernel) ⟨Nat.le_of_ble_eq_true rfl, Nat.le_of_ble_eq_true rfl⟩) (ro_pv hK hP [0, 1, 2] rfl (ci := 10) (q0 := 0) (C := RX10) (T := TX10) (N := 26) rfl rfl) rfl rfl hl.1 rfl (lv_room (Nat.le_of_ble_eq_true rfl)) dX10_askOf_2 ⟨Nat.zero_le _, Nat.zero_le _⟩) hS hP (fun r17 H locs hr17 hP hS => ?_)
  subst hr17
  refine lv_istore_n (lv' := [(2, .int (nI (bs_ R E w_ h 4))), (0, .ref (b 0)), (1, .int (nI (w_)))]) hx hb dX10_askOf_5 rfl hl (by decide) rfl (fun ls hl => ?_)
  refine lv_iconst (v := -1) hx hb dX10_askOf_6 (by decide) ?_
  refine lv_istore_n (lv' := [(3, .int (-1)), (2, .int (nI (bs_ R E w_ h 4))), (0, .ref (b 0)), (1, .int (nI (w_)))]) hx hb dX10_askOf_7 rfl hl (by decide) rfl (fun ls hl => ?_)
  refine lv_iconst (v := nI (5)) hx hb dX10_askOf_8 (by decide) ?_
  refine lv_istore (lv' := [(4, .int (nI (5))), (3, .int (-1)), (2, .int (nI (bs_ R E w_ h 4))), (0, .ref (b 0)), (1, .int (nI (w_)))]) hx hb dX10_askOf_9 hl (by decide) rfl (fun ls hl => ?_)
  refine lv_iconst (v := nI (0)) hx hb dX10_askOf_11 (by decide) ?_
  refine lv_istore (lv' := [(5, .int (nI (0))), (4, .int (nI (5))), (3, .int (-1)), (2, .int (nI (bs_ R E w_ h 4))), (0, .ref (b 0)), (1, .int (nI (w_)))]) hx hb dX10_askOf_12 hl (by decide) rfl (fun ls hl => ?_)
  exact (hG _ _ _).mp (L14 (16 + 1) (0) (by omega) (fun _ => rfl) (by omega) _ _ hP hS _ (lv_sub hl [4, 5, 3, 2, 1, 0] rfl))

set_option maxHeartbeats 4000000 in
set_option maxRecDepth 100000 in
theorem c_M_tellWidow (l : Launch) (dC : Nat → ClassId) (dI : Nat → Nat → Nat) (cI : ClassId) (b : Nat → Nat) (pm : Int32) (r_s : Int32) (r_w : Int32) (st : Int32) (n : Nat) (w : Nat) (wk : Int32) (tr : Int32) (nd : Int32) (h : Nat) (sd : Int32) (kt : Int32) (kw : Int32) (kh : Int32) (hz : Int64) (R mi : Nat → Nat) (mm : Nat → Int32) (hm : ∀ k, k < w → mm k = nI (mi k)) (hm4 : ∀ k, k < w → mi k < 4) (hR : WR R) (hn : n ≤ 4) (hw : w ≤ 5) (E : Nat → Nat) (h : Nat) (hh : h ≤ 8) (hE : ∀ i, i < h → E (4 * i) < 5 ∧ E (4 * i + 1) < n ∧ E (4 * i + 2) < n ∧ E (4 * i + 3) ≤ 1) (hn1 : 1 ≤ n) (w_ : Nat) (hw_ : w_ < w) (y : Int32) : Met l yX10_tellWidow wsX10_tellWidow ({ frames := 4, cells := 0, slots := 0, locals := 103 } : Room) (roP dC dI cI ([moW b pm r_s r_w st n w wk tr nd (nI h) sd kt kw kh hz] ++ [(b 4, .inl (cI, 32, .inl (fun i => nI (R i))))] ++ [(b 5, .inl (cI, 5, .inl mm))] ++ [(b 8, .inl (cI, 32, .inl (fun i => nI (E i))))]) [.ref (b 0), .int (nI (w_)), .int (y)]) (roI (fun r => r = aW R mi E n h w_ y)) 0 0 (fun _ => False) := by
  refine Met.ofW (cc := cX10_tellWidow) (maxL := 3) (ret := (some .int)) (by decide) rfl ?_
  intro p e s m args below meth c s₁ B hml hv
  obtain ⟨rfl, hP, hK⟩ := hv
  have hx := B.exec
  have hb := B.bytes
  have hr := B.returns
  have hts := atoms_spec (ws := wsX10_tellWidow) B.pre
  have hown : s.vm.findClass RX10 = some m.cls := findClass_of_methodNamed B.named
  have hlocks := B.notSynchronized
  have hS : va_S (fun _ => False) s.heap s.heap [] := va_S.rf
  have hl := lv_entry ([.ref (b 0), .int (nI (w_)), .int (y)]) (n := 3) (Nat.le_of_ble_eq_true rfl)
  rw [lg_entry_eq]
  generalize (lg_sl ([.ref (b 0), .int (nI (w_)), .int (y)]) ++ List.replicate (3 - (lg_sl ([.ref (b 0), .int (nI (w_)), .int (y)])).length) Slot.unset).toArray = ls at hl ⊢
  have hl : lv_has ls 3 [(0, .ref (b 0)), (1, .int (nI (w_))), (2, .int (y))] := hl
  refine lv_iload_n hx hb dX10_tellWidow_0 rfl (lv_at hl 2 rfl) ?_
  by_cases hx7 : inR y 5
  · obtain ⟨k_, hk_, hk_j, rfl⟩ := inR_of hx7
    rcases (show k_ = 0 ∨ k_ = 1 ∨ k_ = 2 ∨ k_ = 3 ∨ k_ = 4 by omega) with rfl | rfl | rfl | rfl | rfl
    · have hl : lv_has ls 3 [(0, .ref (b 0)), (1, .int (nI (w_))), (2, .int (nI (0)))] := hl
      refine lv_tableIn (tgt := 36) hx hb dX10_tellWidow_1 (by decide) (by decide) (off := 35) (by decide) (by decide) ?_
      refine lv_aload_n hx hb dX10_tellWidow_36 rfl (lv_at hl 0 rfl) ?_
      refine va_get (D := (dC, dI)) (ci := 10) (v := .ref (b 5)) (C := RX10) (T := TX10) (N := 26) hx hb hts (fun _ h => List.mem_cons_of_mem _ (List.mem_append_right _ (h))) hown hK.1 hP 0 rfl rfl 12 (by decide) (hts (Cond.fieldLink RX10 22 "WorstVoiceModel" "minds" "[I") (List.mem_of_getElem? (i := 1) rfl)) (fun _ h9 => h9) rfl dX10_tellWidow_37 ?_
      refine lv_iload_n hx hb dX10_tellWidow_40 rfl (lv_at hl 1 rfl) ?_
      refine va_iald hx hb hK.1 hP 2 0 rfl rfl (vp_in_nI (by omega) (by decide)) dX10_tellWidow_41 ?_
      refine tp_i (z := nI (mi w_)) ((ld_n mm (by omega)).trans (hm _ (by omega))) ?_
      exact W.iret hx hb hr (fun t ht hW => ⟨⟨_, (), rfl, (aW_e (by decide) rfl), trivial⟩, hS.F ht⟩) hS.2.2 dX10_tellWidow_42
    · have hl : lv_has ls 3 [(0, .ref (b 0)), (1, .int (nI (w_))), (2, .int (nI (1)))] := hl
      refine lv_tableIn (tgt := 43) hx hb dX10_tellWidow_1 (by decide) (by decide) (off := 42) (by decide) (by decide) ?_
      refine lv_aload_n hx hb dX10_tellWidow_43 rfl (lv_at hl 0 rfl) ?_
      refine lv_iload_n hx hb dX10_tellWidow_44 rfl (lv_at hl 1 rfl) ?_
      refine ro_calli (va_runV (As := [.int (nI (w_))]) (rest := []) ⟨hx, hb, hml, hown, hts⟩ (c_X10_forWhom l dC dI cI b pm r_s r_w st n w wk tr nd (nI (h)) sd kt kw kh hz R mi mm hm hm4 hR hn hn1 hw (w_) (by omega)) (cwV 1 hts gX10_tellWidow_X10_forWhom rfl rfl rfl (by decide +kernel) ⟨Nat.le_of_ble_eq_true rfl, Nat.le_of_ble_eq_true rfl⟩) (ro_pv hK hP [0, 1, 2] rfl (ci := 10) (q0 := 0) (C := RX10) (T := TX10) (N := 26) rfl rfl) rfl rfl hl.1 rfl (lv_room (Nat.le_of_ble_eq_true rfl)) dX10_tellWidow_45 ⟨Nat.zero_le _, Nat.zero_le _⟩) hS hP (fun r1 H locs hr1 hP hS => ?_)
      subst hr1
      have hb0 : fv R (mi (w_)) n < n := am_lt _ n (by omega)
      exact W.iret hx hb hr (fun t ht hW => ⟨⟨_, (), rfl, (aW_e (by decide) rfl), trivial⟩, hS.F ht⟩) hS.2.2 dX10_tellWidow_48
    · have hl : lv_has ls 3 [(0, .ref (b 0)), (1, .int (nI (w_))), (2, .int (nI (2)))] := hl
      refine lv_tableIn (tgt := 49) hx hb dX10_tellWidow_1 (by decide) (by decide) (off := 48) (by decide) (by decide) ?_
      refine lv_aload_n hx hb dX10_tellWidow_49 rfl (lv_at hl 0 rfl) ?_
      refine lv_aload_n hx hb dX10_tellWidow_50 rfl (lv_at hl 0 rfl) ?_
      refine lv_iload_n hx hb dX10_tellWidow_51 rfl (lv_at hl 1 rfl) ?_
      refine ro_calli (va_runV (As := [.int (nI (w_))]) (rest := [.ref (b 0)]) ⟨hx, hb, hml, hown, hts⟩ (c_X10_forWhom l dC dI cI b pm r_s r_w st n w wk tr nd (nI (h)) sd kt kw kh hz R mi mm hm hm4 hR hn hn1 hw (w_) (by omega)) (cwV 1 hts gX10_tellWidow_X10_forWhom rfl rfl rfl (by decide +kernel) ⟨Nat.le_of_ble_eq_true rfl, Nat.le_of_ble_eq_true rfl⟩) (ro_pv hK hP [0, 1, 2] rfl (ci := 10) (q0 := 0) (C := RX10) (T := TX10) (N := 26) rfl rfl) rfl rfl hl.1 rfl (lv_room (Nat.le_of_ble_eq_true rfl)) dX10_tellWidow_52 ⟨Nat.zero_le _, Nat.zero_le _⟩) hS hP (fun r2 H locs hr2 hP hS => ?_)
      subst hr2
      have hb1 : fv R (mi (w_)) n < n := am_lt _ n (by omega)
      refine lv_aload_n hx hb dX10_tellWidow_55 rfl (lv_at hl 0 rfl) ?_
      refine va_get (D := (dC, dI)) (ci := 10) (v := .ref (b 5)) (C := RX10) (T := TX10) (N := 26) hx hb hts (fun _ h => List.mem_cons_of_mem _ (List.mem_append_right _ (h))) hown hK.1 hP 0 rfl rfl 12 (by decide) (hts (Cond.fieldLink RX10 22 "WorstVoiceModel" "minds" "[I") (List.mem_of_getElem? (i := 1) rfl)) (fun _ h9 => h9) rfl dX10_tellWidow_56 ?_
      refine lv_iload_n hx hb dX10_tellWidow_59 rfl (lv_at hl 1 rfl) ?_
      refine va_iald hx hb hK.1 hP 2 0 rfl rfl (vp_in_nI (by omega) (by decide)) dX10_tellWidow_60 ?_
      refine tp_i (z := nI (mi w_)) ((ld_n mm (by omega)).trans (hm _ (by omega))) ?_
      refine ro_calli (va_runV (As := [.int (nI (fv R (mi (w_)) n)), .int (nI (mi w_))]) (rest := []) ⟨hx, hb, hml, hown, hts⟩ (c_X10_badOf l dC dI cI b pm r_s r_w st n w wk tr nd (nI (h)) sd kt kw kh hz R hR hn (fv R (mi (w_)) n) (mi w_) (by omega) (hm4 _ (by omega))) (cwV 2 hts gX10_tellWidow_X10_badOf rfl rfl rfl (by decide +kernel) ⟨Nat.le_of_ble_eq_true rfl, Nat.le_of_ble_eq_true rfl⟩) (ro_pv hK hP [0, 1] rfl (ci := 10) (q0 := 0) (C := RX10) (T := TX10) (N := 26) rfl rfl) rfl rfl hl.1 rfl (lv_room (Nat.le_of_ble_eq_true rfl)) dX10_tellWidow_61 ⟨Nat.zero_le _, Nat.zero_le _⟩) hS hP (fun r3 H locs hr3 hP hS => ?_)
      subst hr3
      have hb2 := hb_le hR (s := fv R (mi (w_)) n) (f := mi w_) (by omega) (hm4 _ (by omega))
      exact W.iret hx hb hr (fun t ht hW => ⟨⟨_, (), rfl, (aW_e (by decide) rfl), trivial⟩, hS.F ht⟩) hS.2.2 dX10_tellWidow_64
    · have hl : lv_has ls 3 [(0, .ref (b 0)), (1, .int (nI (w_))), (2, .int (nI (3)))] := hl
      refine lv_tableIn (tgt := 65) hx hb dX10_tellWidow_1 (by decide) (by decide) (off := 64) (by decide) (by decide) ?_
      refine lv_aload_n hx hb dX10_tellWidow_65 rfl (lv_at hl 0 rfl) ?_
      refine lv_iload_n hx hb dX10_tellWidow_66 rfl (lv_at hl 1 rfl) ?_
      refine ro_calli (va_runV (As := [.int (nI (w_))]) (rest := []) ⟨hx, hb, hml, hown, hts⟩ (c_M_mindsOf l dC dI cI b pm r_s r_w st n w wk tr nd h sd kt kw kh hz R hR hn hw E h hh hE (w_) (by omega)) (cwV 1 hts gX10_tellWidow_X10_mindsOf rfl rfl rfl (by decide +kernel) ⟨Nat.le_of_ble_eq_true rfl, Nat.le_of_ble_eq_true rfl⟩) (ro_pv hK hP [0, 1, 3] rfl (ci := 10) (q0 := 0) (C := RX10) (T := TX10) (N := 26) rfl rfl) rfl rfl hl.1 rfl (lv_room (Nat.le_of_ble_eq_true rfl)) dX10_tellWidow_67 ⟨Nat.zero_le _, Nat.zero_le _⟩) hS hP (fun r4 H locs hr4 hP hS => ?_)
      subst hr4
      exact W.iret hx hb hr (fun t ht hW => ⟨⟨_, (), rfl, (aW_e (by decide) rfl), trivial⟩, hS.F ht⟩) hS.2.2 dX10_tellWidow_70
    · have hl : lv_has ls 3 [(0, .ref (b 0)), (1, .int (nI (w_))), (2, .int (nI (4)))] := hl
      refine lv_tableIn (tgt := 71) hx hb dX10_tellWidow_1 (by decide) (by decide) (off := 70) (by decide) (by decide) ?_
      refine lv_aload_n hx hb dX10_tellWidow_71 rfl (lv_at hl 0 rfl) ?_
      refine lv_iload_n hx hb dX10_tellWidow_72 rfl (lv_at hl 1 rfl) ?_
      refine ro_calli (va_runV (As := [.int (nI (w_))]) (rest := []) ⟨hx, hb, hml, hown, hts⟩ (c_M_askOf l dC dI cI b pm r_s r_w st n w wk tr nd h sd kt kw kh hz R hR hn hw E h hh hE (w_) (by omega)) (cwV 1 hts gX10_tellWidow_X10_askOf rfl rfl rfl (by decide +kernel) ⟨Nat.le_of_ble_eq_true rfl, Nat.le_of_ble_eq_true rfl⟩) (ro_pv hK hP [0, 1, 3] rfl (ci := 10) (q0 := 0) (C := RX10) (T := TX10) (N := 26) rfl rfl) rfl rfl hl.1 rfl (lv_room (Nat.le_of_ble_eq_true rfl)) dX10_tellWidow_73 ⟨Nat.zero_le _, Nat.zero_le _⟩) hS hP (fun r5 H locs hr5 hP hS => ?_)
      subst hr5
      exact W.iret hx hb hr (fun t ht hW => ⟨⟨_, (), rfl, (aW_e (by decide) rfl), trivial⟩, hS.F ht⟩) hS.2.2 dX10_tellWidow_76
  · refine lv_tableOut (tgt := 77) hx hb dX10_tellWidow_1 (by omega) (by decide) ?_
    refine lv_bipush (v := -102) hx hb dX10_tellWidow_77 (by decide) ?_
    exact W.iret hx hb hr (fun t ht hW => ⟨⟨_, (), rfl, (aW_o hx7).symm, trivial⟩, hS.F ht⟩) hS.2.2 dX10_tellWidow_79

set_option maxHeartbeats 4000000 in
set_option maxRecDepth 100000 in
theorem c_M_widow (l : Launch) (dC : Nat → ClassId) (dI : Nat → Nat → Nat) (cI : ClassId) (b : Nat → Nat) (pm : Int32) (r_s : Int32) (r_w : Int32) (st : Int32) (n : Nat) (w : Nat) (wk : Int32) (tr : Int32) (nd : Int32) (h : Nat) (sd : Int32) (kt : Int32) (kw : Int32) (kh : Int32) (hz : Int64) (R mi : Nat → Nat) (mm : Nat → Int32) (hm : ∀ k, k < w → mm k = nI (mi k)) (hm4 : ∀ k, k < w → mi k < 4) (hR : WR R) (hn : n ≤ 4) (hw : w ≤ 5) (E : Nat → Nat) (h : Nat) (hh : h ≤ 8) (hE : ∀ i, i < h → E (4 * i) < 5 ∧ E (4 * i + 1) < n ∧ E (4 * i + 2) < n ∧ E (4 * i + 3) ≤ 1) (hnw : 0 < w → 2 ≤ n) (x y : Int32) : Met l yX10_widow wsX10_widow ({ frames := 5, cells := 0, slots := 0, locals := 125 } : Room) (roP dC dI cI ([moW b pm r_s r_w st n w wk tr nd (nI h) sd kt kw kh hz] ++ [(b 4, .inl (cI, 32, .inl (fun i => nI (R i))))] ++ [(b 5, .inl (cI, 5, .inl mm))] ++ [(b 8, .inl (cI, 32, .inl (fun i => nI (E i))))]) [.ref (b 0), .int (x), .int (y)]) (roI (fun r => r = vW R mi E n w h x y)) 0 0 (fun _ => False) := by
  refine Met.ofW (cc := cX10_widow) (maxL := 3) (ret := (some .int)) (by decide) rfl ?_
  intro p e s m args below meth c s₁ B hml hv
  obtain ⟨rfl, hP, hK⟩ := hv
  have hx := B.exec
  have hb := B.bytes
  have hr := B.returns
  have hts := atoms_spec (ws := wsX10_widow) B.pre
  have hown : s.vm.findClass RX10 = some m.cls := findClass_of_methodNamed B.named
  have hlocks := B.notSynchronized
  have hS : va_S (fun _ => False) s.heap s.heap [] := va_S.rf
  have hl := lv_entry ([.ref (b 0), .int (x), .int (y)]) (n := 3) (Nat.le_of_ble_eq_true rfl)
  rw [lg_entry_eq]
  generalize (lg_sl ([.ref (b 0), .int (x), .int (y)]) ++ List.replicate (3 - (lg_sl ([.ref (b 0), .int (x), .int (y)])).length) Slot.unset).toArray = ls at hl ⊢
  have hl : lv_has ls 3 [(0, .ref (b 0)), (1, .int (x)), (2, .int (y))] := hl
  refine lv_aload_n hx hb dX10_widow_0 rfl (lv_at hl 0 rfl) ?_
  refine lv_iload_n hx hb dX10_widow_1 rfl (lv_at hl 1 rfl) ?_
  refine ro_calli (va_runV (As := [.int (x)]) (rest := []) ⟨hx, hb, hml, hown, hts⟩ (c_X10_isWidow l dC dI cI b pm r_s r_w st n w wk tr nd (nI (h)) sd kt kw kh hz (by omega) (by omega) (x)) (cwV 1 hts gX10_widow_X10_isWidow rfl rfl rfl (by decide +kernel) ⟨Nat.le_of_ble_eq_true rfl, Nat.le_of_ble_eq_true rfl⟩) (ro_pv hK hP [0] rfl (ci := 10) (q0 := 0) (C := RX10) (T := TX10) (N := 26) rfl rfl) rfl rfl hl.1 rfl (lv_room (Nat.le_of_ble_eq_true rfl)) dX10_widow_2 ⟨Nat.zero_le _, Nat.zero_le _⟩) hS hP (fun r1 H locs hr1 hP hS => ?_)
  subst hr1
  refine lv_if_eq (tgt := 17) hx hb dX10_widow_5 (by decide) (fun c2 => ?_) (fun c2 => ?_)
  · have c2 := bI_0.mp c2
    refine lv_bipush (v := -101) hx hb dX10_widow_17 (by decide) ?_
    exact W.iret hx hb hr (fun t ht hW => ⟨⟨_, (), rfl, (vW_f (by assumption)).symm, trivial⟩, hS.F ht⟩) hS.2.2 dX10_widow_19
  · have c2 := Decidable.not_not.mp (mt bI_0.mpr c2)
    obtain ⟨w_, hw_, hw_j, rfl⟩ := inR_of (show inR x w by first | assumption | (constructor <;> omega))
    have hl : lv_has ls 3 [(0, .ref (b 0)), (1, .int (nI (w_))), (2, .int (y))] := hl
    refine lv_aload_n hx hb dX10_widow_8 rfl (lv_at hl 0 rfl) ?_
    refine lv_iload_n hx hb dX10_widow_9 rfl (lv_at hl 1 rfl) ?_
    refine lv_iload_n hx hb dX10_widow_10 rfl (lv_at hl 2 rfl) ?_
    refine ro_calli (va_runV (As := [.int (nI (w_)), .int (y)]) (rest := []) ⟨hx, hb, hml, hown, hts⟩ (c_M_tellWidow l dC dI cI b pm r_s r_w st n w wk tr nd h sd kt kw kh hz R mi mm hm hm4 hR hn hw E h hh hE (by omega) (w_) (by omega) (y)) (cwV 2 hts gX10_widow_X10_tellWidow rfl rfl rfl (by decide +kernel) ⟨Nat.le_of_ble_eq_true rfl, Nat.le_of_ble_eq_true rfl⟩) (ro_pv hK hP [0, 1, 2, 3] rfl (ci := 10) (q0 := 0) (C := RX10) (T := TX10) (N := 26) rfl rfl) rfl rfl hl.1 rfl (lv_room (Nat.le_of_ble_eq_true rfl)) dX10_widow_11 ⟨Nat.zero_le _, Nat.zero_le _⟩) hS hP (fun r3 H locs hr3 hP hS => ?_)
    subst hr3
    refine lv_goto (tgt := 19) hx hb dX10_widow_14 (by decide) ?_
    exact W.iret hx hb hr (fun t ht hW => ⟨⟨_, (), rfl, (vW_t hw_ hw).symm, trivial⟩, hS.F ht⟩) hS.2.2 dX10_widow_19

set_option maxHeartbeats 4000000 in
set_option maxRecDepth 100000 in
theorem c_M_wince (l : Launch) (dC : Nat → ClassId) (dI : Nat → Nat → Nat) (cI : ClassId) (b : Nat → Nat) (pm r_s r_w st : Int32) (n w : Nat) (wk tr nd hd sd kt kw kh : Int32) (hz : Int64) (R mi : Nat → Nat) (mm : Nat → Int32) (hm : ∀ k, k < w → mm k = nI (mi k)) (hm4 : ∀ k, k < w → mi k < 4) (hR : WR R) (hn : n ≤ 4) (hw : w ≤ 5) (x y : Int32) : Met l yX10_wince wsX10_wince ({ frames := 2, cells := 0, slots := 0, locals := 46 } : Room) (roP dC dI cI ([moW b pm r_s r_w st n w wk tr nd hd sd kt kw kh hz] ++ [(b 4, .inl (cI, 32, .inl (fun i => nI (R i))))] ++ [(b 5, .inl (cI, 5, .inl mm))]) [.ref (b 0), .int (x), .int (y)]) (roI (fun r => r = vI R mi n w x y)) 0 0 (fun _ => False) := by
  refine Met.ofW (cc := cX10_wince) (maxL := 3) (ret := (some .int)) (by decide) rfl ?_
  intro p e s m args below meth c s₁ B hml hv
  obtain ⟨rfl, hP, hK⟩ := hv
  have hx := B.exec
  have hb := B.bytes
  have hr := B.returns
  have hts := atoms_spec (ws := wsX10_wince) B.pre
  have hown : s.vm.findClass RX10 = some m.cls := findClass_of_methodNamed B.named
  have hlocks := B.notSynchronized
  have hS : va_S (fun _ => False) s.heap s.heap [] := va_S.rf
  have hl := lv_entry ([.ref (b 0), .int (x), .int (y)]) (n := 3) (Nat.le_of_ble_eq_true rfl)
  rw [lg_entry_eq]
  generalize (lg_sl ([.ref (b 0), .int (x), .int (y)]) ++ List.replicate (3 - (lg_sl ([.ref (b 0), .int (x), .int (y)])).length) Slot.unset).toArray = ls at hl ⊢
  have hl : lv_has ls 3 [(0, .ref (b 0)), (1, .int (x)), (2, .int (y))] := hl
  refine lv_aload_n hx hb dX10_wince_0 rfl (lv_at hl 0 rfl) ?_
  refine lv_iload_n hx hb dX10_wince_1 rfl (lv_at hl 1 rfl) ?_
  refine ro_calli (va_runV (As := [.int (x)]) (rest := []) ⟨hx, hb, hml, hown, hts⟩ (c_X10_isWidow l dC dI cI b pm r_s r_w st n w wk tr nd hd sd kt kw kh hz (by omega) (by omega) (x)) (cwV 1 hts gX10_wince_X10_isWidow rfl rfl rfl (by decide +kernel) ⟨Nat.le_of_ble_eq_true rfl, Nat.le_of_ble_eq_true rfl⟩) (ro_pv hK hP [0] rfl (ci := 10) (q0 := 0) (C := RX10) (T := TX10) (N := 26) rfl rfl) rfl rfl hl.1 rfl (lv_room (Nat.le_of_ble_eq_true rfl)) dX10_wince_2 ⟨Nat.zero_le _, Nat.zero_le _⟩) hS hP (fun r1 H locs hr1 hP hS => ?_)
  subst hr1
  refine lv_if_eq (tgt := 30) hx hb dX10_wince_5 (by decide) (fun c2 => ?_) (fun c2 => ?_)
  · have c2 := bI_0.mp c2
    refine lv_bipush (v := -101) hx hb dX10_wince_30 (by decide) ?_
    exact W.iret hx hb hr (fun t ht hW => ⟨⟨_, (), rfl, (vI_f (fun q => by first | exact absurd q.1 (by assumption) | exact absurd q.2 (by assumption))).symm, trivial⟩, hS.F ht⟩) hS.2.2 dX10_wince_32
  · have c2 := Decidable.not_not.mp (mt bI_0.mpr c2)
    refine lv_aload_n hx hb dX10_wince_8 rfl (lv_at hl 0 rfl) ?_
    refine lv_iload_n hx hb dX10_wince_9 rfl (lv_at hl 2 rfl) ?_
    refine ro_calli (va_runV (As := [.int (y)]) (rest := []) ⟨hx, hb, hml, hown, hts⟩ (c_X10_isSinger l dC dI cI b pm r_s r_w st n w wk tr nd hd sd kt kw kh hz (by omega) (by omega) (y)) (cwV 1 hts gX10_wince_X10_isSinger rfl rfl rfl (by decide +kernel) ⟨Nat.le_of_ble_eq_true rfl, Nat.le_of_ble_eq_true rfl⟩) (ro_pv hK hP [0] rfl (ci := 10) (q0 := 0) (C := RX10) (T := TX10) (N := 26) rfl rfl) rfl rfl hl.1 rfl (lv_room (Nat.le_of_ble_eq_true rfl)) dX10_wince_10 ⟨Nat.zero_le _, Nat.zero_le _⟩) hS hP (fun r3 H locs hr3 hP hS => ?_)
    subst hr3
    refine lv_if_eq (tgt := 30) hx hb dX10_wince_13 (by decide) (fun c4 => ?_) (fun c4 => ?_)
    · have c4 := bI_0.mp c4
      refine lv_bipush (v := -101) hx hb dX10_wince_30 (by decide) ?_
      exact W.iret hx hb hr (fun t ht hW => ⟨⟨_, (), rfl, (vI_f (fun q => by first | exact absurd q.1 (by assumption) | exact absurd q.2 (by assumption))).symm, trivial⟩, hS.F ht⟩) hS.2.2 dX10_wince_32
    · have c4 := Decidable.not_not.mp (mt bI_0.mpr c4)
      obtain ⟨w_, hw_, hw_j, rfl⟩ := inR_of (show inR x w by first | assumption | (constructor <;> omega))
      have hl : lv_has ls 3 [(0, .ref (b 0)), (1, .int (nI (w_))), (2, .int (y))] := hl
      obtain ⟨s_, hs, hsj, rfl⟩ := inR_of (show inR y n by first | assumption | (constructor <;> omega))
      have hl : lv_has ls 3 [(0, .ref (b 0)), (1, .int (nI (w_))), (2, .int (nI (s_)))] := hl
      refine lv_aload_n hx hb dX10_wince_16 rfl (lv_at hl 0 rfl) ?_
      refine lv_iload_n hx hb dX10_wince_17 rfl (lv_at hl 2 rfl) ?_
      refine lv_aload_n hx hb dX10_wince_18 rfl (lv_at hl 0 rfl) ?_
      refine va_get (D := (dC, dI)) (ci := 10) (v := .ref (b 5)) (C := RX10) (T := TX10) (N := 26) hx hb hts (fun _ h => List.mem_cons_of_mem _ (List.mem_append_right _ (h))) hown hK.1 hP 0 rfl rfl 12 (by decide) (hts (Cond.fieldLink RX10 22 "WorstVoiceModel" "minds" "[I") (List.mem_of_getElem? (i := 1) rfl)) (fun _ h9 => h9) rfl dX10_wince_19 ?_
      refine lv_iload_n hx hb dX10_wince_22 rfl (lv_at hl 1 rfl) ?_
      refine va_iald hx hb hK.1 hP 2 0 rfl rfl (vp_in_nI (by omega) (by decide)) dX10_wince_23 ?_
      refine tp_i (z := nI (mi w_)) ((ld_n mm (by omega)).trans (hm _ (by omega))) ?_
      refine ro_calli (va_runV (As := [.int (nI (s_)), .int (nI (mi w_))]) (rest := []) ⟨hx, hb, hml, hown, hts⟩ (c_X10_badOf l dC dI cI b pm r_s r_w st n w wk tr nd hd sd kt kw kh hz R hR hn (s_) (mi w_) (by omega) (hm4 _ (by omega))) (cwV 2 hts gX10_wince_X10_badOf rfl rfl rfl (by decide +kernel) ⟨Nat.le_of_ble_eq_true rfl, Nat.le_of_ble_eq_true rfl⟩) (ro_pv hK hP [0, 1] rfl (ci := 10) (q0 := 0) (C := RX10) (T := TX10) (N := 26) rfl rfl) rfl rfl hl.1 rfl (lv_room (Nat.le_of_ble_eq_true rfl)) dX10_wince_24 ⟨Nat.zero_le _, Nat.zero_le _⟩) hS hP (fun r5 H locs hr5 hP hS => ?_)
      subst hr5
      have hb4 := hb_le hR (s := s_) (f := mi w_) (by omega) (hm4 _ (by omega))
      refine lv_goto (tgt := 32) hx hb dX10_wince_27 (by decide) ?_
      exact W.iret hx hb hr (fun t ht hW => ⟨⟨_, (), rfl, (vI_e hw_ hw hs hn rfl), trivial⟩, hS.F ht⟩) hS.2.2 dX10_wince_32

set_option maxHeartbeats 4000000 in
set_option maxRecDepth 100000 in
theorem c_M_coldN (l : Launch) (dC : Nat → ClassId) (dI : Nat → Nat → Nat) (cI : ClassId) (b : Nat → Nat) (pm r_s r_w st : Int32) (n w : Nat) (wk tr nd hd sd kt kw kh : Int32) (hz : Int64) (R : Nat → Nat) (hR : WR R) (hn : n ≤ 4) (hw : w ≤ 5) (x : Int32) (v_ : Nat) (hxn : ¬ inR x n) : Met l yX10_cold wsX10_cold ({ frames := 2, cells := 0, slots := 0, locals := 46 } : Room) (roP dC dI cI ([moW b pm r_s r_w st n w wk tr nd hd sd kt kw kh hz] ++ [(b 4, .inl (cI, 32, .inl (fun i => nI (R i))))]) [.ref (b 0), .int (x), .int (nI (v_))]) (roI (fun r => r = -101)) 0 0 (fun _ => False) := by
  refine Met.ofW (cc := cX10_cold) (maxL := 4) (ret := (some .int)) (by decide) rfl ?_
  intro p e s m args below meth c s₁ B hml hv
  obtain ⟨rfl, hP, hK⟩ := hv
  have hx := B.exec
  have hb := B.bytes
  have hr := B.returns
  have hts := atoms_spec (ws := wsX10_cold) B.pre
  have hown : s.vm.findClass RX10 = some m.cls := findClass_of_methodNamed B.named
  have hlocks := B.notSynchronized
  have hS : va_S (fun _ => False) s.heap s.heap [] := va_S.rf
  have hl := lv_entry ([.ref (b 0), .int (x), .int (nI (v_))]) (n := 4) (Nat.le_of_ble_eq_true rfl)
  rw [lg_entry_eq]
  generalize (lg_sl ([.ref (b 0), .int (x), .int (nI (v_))]) ++ List.replicate (4 - (lg_sl ([.ref (b 0), .int (x), .int (nI (v_))])).length) Slot.unset).toArray = ls at hl ⊢
  have hl : lv_has ls 4 [(0, .ref (b 0)), (1, .int (x)), (2, .int (nI (v_)))] := hl
  refine lv_aload_n hx hb dX10_cold_0 rfl (lv_at hl 0 rfl) ?_
  refine lv_iload_n hx hb dX10_cold_1 rfl (lv_at hl 1 rfl) ?_
  refine ro_calli (va_runV (As := [.int (x)]) (rest := []) ⟨hx, hb, hml, hown, hts⟩ (c_X10_isSinger l dC dI cI b pm r_s r_w st n w wk tr nd hd sd kt kw kh hz (by omega) (by omega) (x)) (cwV 1 hts gX10_cold_X10_isSinger rfl rfl rfl (by decide +kernel) ⟨Nat.le_of_ble_eq_true rfl, Nat.le_of_ble_eq_true rfl⟩) (ro_pv hK hP [0] rfl (ci := 10) (q0 := 0) (C := RX10) (T := TX10) (N := 26) rfl rfl) rfl rfl hl.1 rfl (lv_room (Nat.le_of_ble_eq_true rfl)) dX10_cold_2 ⟨Nat.zero_le _, Nat.zero_le _⟩) hS hP (fun r1 H locs hr1 hP hS => ?_)
  subst hr1
  refine lv_if_ne (tgt := 11) hx hb dX10_cold_5 (by decide) (fun c2 => absurd (Decidable.not_not.mp (mt bI_0.mpr c2)) hxn) (fun c2 => ?_)
  refine lv_bipush (v := -101) hx hb dX10_cold_8 (by decide) ?_
  exact W.iret hx hb hr (fun t ht hW => ⟨⟨_, (), rfl, rfl, trivial⟩, hS.F ht⟩) hS.2.2 dX10_cold_10

set_option maxHeartbeats 4000000 in
set_option maxRecDepth 100000 in
theorem c_M_cold (l : Launch) (dC : Nat → ClassId) (dI : Nat → Nat → Nat) (cI : ClassId) (sz : Nat) (b : Nat → Nat) (pm r_s r_w st : Int32) (n w : Nat) (wk tr nd hd sd kt kw kh : Int32) (hz : Int64) (R : Nat → Nat) (hR : WR R) (hn : n ≤ 4) (hw : w ≤ 5) (s_ v_ : Nat) (hs : s_ < n) (hv : v_ ≤ 1) : Met l yX10_cold wsX10_cold ({ frames := 2, cells := 0, slots := 0, locals := 46 } : Room) (muP dC dI cI ([moW b pm r_s r_w st n w wk tr nd hd sd kt kw kh hz] ++ [(b 4, .inl (cI, 32, .inl (fun i => nI (R i))))]) sz [.ref (b 0), .int (nI (s_)), .int (nI (v_))]) (muI dC dI ([moW b pm r_s r_w st n w wk tr nd hd sd kt kw kh hz] ++ [(b 4, .inl (cI, 32, .inl (fun i => nI (R i))))]) sz (fun (_ : Unit) => [moW b pm r_s r_w st n w wk tr nd hd sd kt kw kh hz] ++ [(b 4, .inl (cI, 32, .inl (fun i => nI ((upN R (8 * s_ + 5) v_) i))))]) (fun r _ => r = nI (R (8 * s_ + 5)))) 0 0 (va_A ([moW b pm r_s r_w st n w wk tr nd hd sd kt kw kh hz] ++ [(b 4, .inl (cI, 32, .inl (fun i => nI (R i))))]) sz) := by
  refine Met.ofW (cc := cX10_cold) (maxL := 4) (ret := (some .int)) (by decide) rfl ?_
  intro p e s m args below meth c s₁ B hml hv
  obtain ⟨rfl, hsz, hP, hK, hD0⟩ := hv
  have hx := B.exec
  have hb := B.bytes
  have hr := B.returns
  have hts := atoms_spec (ws := wsX10_cold) B.pre
  have hown : s.vm.findClass RX10 = some m.cls := findClass_of_methodNamed B.named
  have hlocks := B.notSynchronized
  subst hsz
  unfold muI muB
  have hD := hD0.self (sz := s.heap.size)
  generalize hAe : va_A ([moW b pm r_s r_w st n w wk tr nd hd sd kt kw kh hz] ++ [(b 4, .inl (cI, 32, .inl (fun i => nI (R i))))]) s.heap.size = A at hD ⊢
  have hA : ∀ q : Nat, s.heap.size ≤ q → A q := fun q h => by rw [← hAe]; exact Or.inr h
  have hS : va_S A s.heap s.heap [] := va_S.rf
  have hl := lv_entry ([.ref (b 0), .int (nI (s_)), .int (nI (v_))]) (n := 4) (Nat.le_of_ble_eq_true rfl)
  rw [lg_entry_eq]
  generalize (lg_sl ([.ref (b 0), .int (nI (s_)), .int (nI (v_))]) ++ List.replicate (4 - (lg_sl ([.ref (b 0), .int (nI (s_)), .int (nI (v_))])).length) Slot.unset).toArray = ls at hl ⊢
  have hl : lv_has ls 4 [(0, .ref (b 0)), (1, .int (nI (s_))), (2, .int (nI (v_)))] := hl
  have hc5 := hR.c (s := s_) (by omega)
  have hl6 := hR.l (s := s_) (by omega)
  refine lv_aload_n hx hb dX10_cold_0 rfl (lv_at hl 0 rfl) ?_
  refine lv_iload_n hx hb dX10_cold_1 rfl (lv_at hl 1 rfl) ?_
  refine ro_calli (va_runV (As := [.int (nI (s_))]) (rest := []) ⟨hx, hb, hml, hown, hts⟩ (c_X10_isSinger l dC dI cI b pm r_s r_w st n w wk tr nd hd sd kt kw kh hz (by omega) (by omega) (nI (s_))) (cwV 1 hts gX10_cold_X10_isSinger rfl rfl rfl (by decide +kernel) ⟨Nat.le_of_ble_eq_true rfl, Nat.le_of_ble_eq_true rfl⟩) (ro_pv hK hP [0] rfl (ci := 10) (q0 := 0) (C := RX10) (T := TX10) (N := 26) rfl rfl) rfl rfl hl.1 rfl (lv_room (Nat.le_of_ble_eq_true rfl)) dX10_cold_2 ⟨Nat.zero_le _, Nat.zero_le _⟩) hS hP (fun r1 H locs hr1 hP hS => ?_)
  subst hr1
  refine tp_i (z := nI 1) (bI_t (inR_n (by omega) (by omega))) ?_
  refine lv_if_ne (tgt := 11) hx hb dX10_cold_5 (by decide) (fun _ => ?_) (fun c => absurd c (by decide))
  refine lv_aload_n hx hb dX10_cold_11 rfl (lv_at hl 0 rfl) ?_
  refine va_get (D := (dC, dI)) (ci := 10) (v := .ref (b 4)) (C := RX10) (T := TX10) (N := 26) hx hb hts (fun _ h => List.mem_cons_of_mem _ (List.mem_append_right _ (h))) hown hK.1 hP 0 rfl rfl 11 (by decide) (hts (Cond.fieldLink RX10 19 "WorstVoiceModel" "rows" "[I") (List.mem_of_getElem? (i := 1) rfl)) (fun _ h9 => h9) rfl dX10_cold_12 ?_
  refine lv_bipush (v := nI (8)) hx hb dX10_cold_15 (by decide) ?_
  refine lv_iload_n hx hb dX10_cold_17 rfl (lv_at hl 1 rfl) ?_
  refine lv_imul hx hb dX10_cold_18 ?_
  refine tp_i (z := nI (8 * s_)) (pk_mul (8) (s_)) ?_
  refine lv_iconst (v := nI (5)) hx hb dX10_cold_19 (by decide) ?_
  refine lv_iadd hx hb dX10_cold_20 ?_
  refine tp_i (z := nI (8 * s_ + 5)) (nI_add (8 * s_) (5)) ?_
  refine va_iald hx hb hK.1 hP 1 0 rfl rfl (vp_in_nI (by omega) (by decide)) dX10_cold_21 ?_
  refine tp_i (z := nI (R (8 * s_ + 5))) (ld_n (fun ii => nI (R ii)) (by omega)) ?_
  refine lv_istore_n (lv' := [(3, .int (nI (R (8 * s_ + 5)))), (0, .ref (b 0)), (1, .int (nI (s_))), (2, .int (nI (v_)))]) hx hb dX10_cold_22 rfl hl (by decide) rfl (fun ls hl => ?_)
  refine lv_aload_n hx hb dX10_cold_23 rfl (lv_at hl 1 rfl) ?_
  refine va_get (D := (dC, dI)) (ci := 10) (v := .ref (b 4)) (C := RX10) (T := TX10) (N := 26) hx hb hts (fun _ h => List.mem_cons_of_mem _ (List.mem_append_right _ (h))) hown hK.1 hP 0 rfl rfl 11 (by decide) (hts (Cond.fieldLink RX10 19 "WorstVoiceModel" "rows" "[I") (List.mem_of_getElem? (i := 1) rfl)) (fun _ h9 => h9) rfl dX10_cold_24 ?_
  refine lv_bipush (v := nI (8)) hx hb dX10_cold_27 (by decide) ?_
  refine lv_iload_n hx hb dX10_cold_29 rfl (lv_at hl 2 rfl) ?_
  refine lv_imul hx hb dX10_cold_30 ?_
  refine tp_i (z := nI (8 * s_)) (pk_mul (8) (s_)) ?_
  refine lv_iconst (v := nI (5)) hx hb dX10_cold_31 (by decide) ?_
  refine lv_iadd hx hb dX10_cold_32 ?_
  refine tp_i (z := nI (8 * s_ + 5)) (nI_add (8 * s_) (5)) ?_
  refine lv_iload_n hx hb dX10_cold_33 rfl (lv_at hl 3 rfl) ?_
  refine lv_if_eq (tgt := 41) hx hb dX10_cold_34 (by decide) (fun c2 => ?_) (fun c2 => ?_)
  · have c2 := (z_eq (by omega)).mp c2
    refine lv_iconst (v := nI (0)) hx hb dX10_cold_41 (by decide) ?_
    refine tp_i (z := nI v_) (by congr 1; omega) ?_
    refine va_iast hx hb hK.1 hP hD hS 1 0 rfl rfl (vp_in_nI (by omega) (by decide)) dX10_cold_42 (fun H locs hP hD hS => ?_)
    rw [nI_clamp (by omega), upd_nI] at hP hD
    have hP : va_P (dC, dI) vwCl [((b 0), .inr (10, [.ref (b 1), .int (pm), .ref (b 2), .int (r_s), .ref (b 3), .int (r_w), .int (st), .int (nI (n)), .int (nI (w)), .int (wk), .int (tr), .ref (b 4), .ref (b 5), .int (nd), .ref (b 6), .ref (b 7), .int (hd), .ref (b 8), .int (sd), .ref (b 9), .int (kt), .int (kw), .int (kh), .ref (b 10), .ref (b 11), .long (hz)])), ((b 4), .inl (cI, 32, .inl (fun ii => nI ((upN R (8 * s_ + 5) (v_)) ii))))] H := hP
    have hD : va_D A [((b 0), .inr (10, [.ref (b 1), .int (pm), .ref (b 2), .int (r_s), .ref (b 3), .int (r_w), .int (st), .int (nI (n)), .int (nI (w)), .int (wk), .int (tr), .ref (b 4), .ref (b 5), .int (nd), .ref (b 6), .ref (b 7), .int (hd), .ref (b 8), .int (sd), .ref (b 9), .int (kt), .int (kw), .int (kh), .ref (b 10), .ref (b 11), .long (hz)])), ((b 4), .inl (cI, 32, .inl (fun ii => nI ((upN R (8 * s_ + 5) (v_)) ii))))] := hD
    refine lv_iload_n hx hb dX10_cold_43 rfl (lv_at hl 0 rfl) ?_
    exact W.iret hx hb hr (fun t ht hW => ⟨⟨_, (), rfl, rfl, by rw [ht]; exact hP, hD.as rfl⟩, hS.F ht⟩) hS.2.2 dX10_cold_44
  · have c2 := mt (z_eq (by omega)).mpr c2
    refine lv_iconst (v := nI (1)) hx hb dX10_cold_37 (by decide) ?_
    refine lv_goto (tgt := 42) hx hb dX10_cold_38 (by decide) ?_
    refine tp_i (z := nI v_) (by congr 1; omega) ?_
    refine va_iast hx hb hK.1 hP hD hS 1 0 rfl rfl (vp_in_nI (by omega) (by decide)) dX10_cold_42 (fun H locs hP hD hS => ?_)
    rw [nI_clamp (by omega), upd_nI] at hP hD
    have hP : va_P (dC, dI) vwCl [((b 0), .inr (10, [.ref (b 1), .int (pm), .ref (b 2), .int (r_s), .ref (b 3), .int (r_w), .int (st), .int (nI (n)), .int (nI (w)), .int (wk), .int (tr), .ref (b 4), .ref (b 5), .int (nd), .ref (b 6), .ref (b 7), .int (hd), .ref (b 8), .int (sd), .ref (b 9), .int (kt), .int (kw), .int (kh), .ref (b 10), .ref (b 11), .long (hz)])), ((b 4), .inl (cI, 32, .inl (fun ii => nI ((upN R (8 * s_ + 5) (v_)) ii))))] H := hP
    have hD : va_D A [((b 0), .inr (10, [.ref (b 1), .int (pm), .ref (b 2), .int (r_s), .ref (b 3), .int (r_w), .int (st), .int (nI (n)), .int (nI (w)), .int (wk), .int (tr), .ref (b 4), .ref (b 5), .int (nd), .ref (b 6), .ref (b 7), .int (hd), .ref (b 8), .int (sd), .ref (b 9), .int (kt), .int (kw), .int (kh), .ref (b 10), .ref (b 11), .long (hz)])), ((b 4), .inl (cI, 32, .inl (fun ii => nI ((upN R (8 * s_ + 5) (v_)) ii))))] := hD
    refine lv_iload_n hx hb dX10_cold_43 rfl (lv_at hl 0 rfl) ?_
    exact W.iret hx hb hr (fun t ht hW => ⟨⟨_, (), rfl, rfl, by rw [ht]; exact hP, hD.as rfl⟩, hS.F ht⟩) hS.2.2 dX10_cold_44

set_option maxHeartbeats 4000000 in
set_option maxRecDepth 100000 in
theorem c_M_aisleN (l : Launch) (dC : Nat → ClassId) (dI : Nat → Nat → Nat) (cI : ClassId) (b : Nat → Nat) (pm r_s r_w st : Int32) (n w : Nat) (wk tr nd hd sd kt kw kh : Int32) (hz : Int64) (R : Nat → Nat) (hR : WR R) (hn : n ≤ 4) (hw : w ≤ 5) (x : Int32) (v_ : Nat) (hxn : ¬ inR x n) : Met l yX10_aisle wsX10_aisle ({ frames := 2, cells := 0, slots := 0, locals := 46 } : Room) (roP dC dI cI ([moW b pm r_s r_w st n w wk tr nd hd sd kt kw kh hz] ++ [(b 4, .inl (cI, 32, .inl (fun i => nI (R i))))]) [.ref (b 0), .int (x), .int (nI (v_))]) (roI (fun r => r = -101)) 0 0 (fun _ => False) := by
  refine Met.ofW (cc := cX10_aisle) (maxL := 4) (ret := (some .int)) (by decide) rfl ?_
  intro p e s m args below meth c s₁ B hml hv
  obtain ⟨rfl, hP, hK⟩ := hv
  have hx := B.exec
  have hb := B.bytes
  have hr := B.returns
  have hts := atoms_spec (ws := wsX10_aisle) B.pre
  have hown : s.vm.findClass RX10 = some m.cls := findClass_of_methodNamed B.named
  have hlocks := B.notSynchronized
  have hS : va_S (fun _ => False) s.heap s.heap [] := va_S.rf
  have hl := lv_entry ([.ref (b 0), .int (x), .int (nI (v_))]) (n := 4) (Nat.le_of_ble_eq_true rfl)
  rw [lg_entry_eq]
  generalize (lg_sl ([.ref (b 0), .int (x), .int (nI (v_))]) ++ List.replicate (4 - (lg_sl ([.ref (b 0), .int (x), .int (nI (v_))])).length) Slot.unset).toArray = ls at hl ⊢
  have hl : lv_has ls 4 [(0, .ref (b 0)), (1, .int (x)), (2, .int (nI (v_)))] := hl
  refine lv_aload_n hx hb dX10_aisle_0 rfl (lv_at hl 0 rfl) ?_
  refine lv_iload_n hx hb dX10_aisle_1 rfl (lv_at hl 1 rfl) ?_
  refine ro_calli (va_runV (As := [.int (x)]) (rest := []) ⟨hx, hb, hml, hown, hts⟩ (c_X10_isSinger l dC dI cI b pm r_s r_w st n w wk tr nd hd sd kt kw kh hz (by omega) (by omega) (x)) (cwV 1 hts gX10_aisle_X10_isSinger rfl rfl rfl (by decide +kernel) ⟨Nat.le_of_ble_eq_true rfl, Nat.le_of_ble_eq_true rfl⟩) (ro_pv hK hP [0] rfl (ci := 10) (q0 := 0) (C := RX10) (T := TX10) (N := 26) rfl rfl) rfl rfl hl.1 rfl (lv_room (Nat.le_of_ble_eq_true rfl)) dX10_aisle_2 ⟨Nat.zero_le _, Nat.zero_le _⟩) hS hP (fun r1 H locs hr1 hP hS => ?_)
  subst hr1
  refine lv_if_ne (tgt := 11) hx hb dX10_aisle_5 (by decide) (fun c2 => absurd (Decidable.not_not.mp (mt bI_0.mpr c2)) hxn) (fun c2 => ?_)
  refine lv_bipush (v := -101) hx hb dX10_aisle_8 (by decide) ?_
  exact W.iret hx hb hr (fun t ht hW => ⟨⟨_, (), rfl, rfl, trivial⟩, hS.F ht⟩) hS.2.2 dX10_aisle_10

set_option maxHeartbeats 4000000 in
set_option maxRecDepth 100000 in
theorem c_M_aisle (l : Launch) (dC : Nat → ClassId) (dI : Nat → Nat → Nat) (cI : ClassId) (sz : Nat) (b : Nat → Nat) (pm r_s r_w st : Int32) (n w : Nat) (wk tr nd hd sd kt kw kh : Int32) (hz : Int64) (R : Nat → Nat) (hR : WR R) (hn : n ≤ 4) (hw : w ≤ 5) (s_ v_ : Nat) (hs : s_ < n) (hv : v_ ≤ 1) : Met l yX10_aisle wsX10_aisle ({ frames := 2, cells := 0, slots := 0, locals := 46 } : Room) (muP dC dI cI ([moW b pm r_s r_w st n w wk tr nd hd sd kt kw kh hz] ++ [(b 4, .inl (cI, 32, .inl (fun i => nI (R i))))]) sz [.ref (b 0), .int (nI (s_)), .int (nI (v_))]) (muI dC dI ([moW b pm r_s r_w st n w wk tr nd hd sd kt kw kh hz] ++ [(b 4, .inl (cI, 32, .inl (fun i => nI (R i))))]) sz (fun (_ : Unit) => [moW b pm r_s r_w st n w wk tr nd hd sd kt kw kh hz] ++ [(b 4, .inl (cI, 32, .inl (fun i => nI ((upN R (8 * s_ + 6) v_) i))))]) (fun r _ => r = nI (R (8 * s_ + 6)))) 0 0 (va_A ([moW b pm r_s r_w st n w wk tr nd hd sd kt kw kh hz] ++ [(b 4, .inl (cI, 32, .inl (fun i => nI (R i))))]) sz) := by
  refine Met.ofW (cc := cX10_aisle) (maxL := 4) (ret := (some .int)) (by decide) rfl ?_
  intro p e s m args below meth c s₁ B hml hv
  obtain ⟨rfl, hsz, hP, hK, hD0⟩ := hv
  have hx := B.exec
  have hb := B.bytes
  have hr := B.returns
  have hts := atoms_spec (ws := wsX10_aisle) B.pre
  have hown : s.vm.findClass RX10 = some m.cls := findClass_of_methodNamed B.named
  have hlocks := B.notSynchronized
  subst hsz
  unfold muI muB
  have hD := hD0.self (sz := s.heap.size)
  generalize hAe : va_A ([moW b pm r_s r_w st n w wk tr nd hd sd kt kw kh hz] ++ [(b 4, .inl (cI, 32, .inl (fun i => nI (R i))))]) s.heap.size = A at hD ⊢
  have hA : ∀ q : Nat, s.heap.size ≤ q → A q := fun q h => by rw [← hAe]; exact Or.inr h
  have hS : va_S A s.heap s.heap [] := va_S.rf
  have hl := lv_entry ([.ref (b 0), .int (nI (s_)), .int (nI (v_))]) (n := 4) (Nat.le_of_ble_eq_true rfl)
  rw [lg_entry_eq]
  generalize (lg_sl ([.ref (b 0), .int (nI (s_)), .int (nI (v_))]) ++ List.replicate (4 - (lg_sl ([.ref (b 0), .int (nI (s_)), .int (nI (v_))])).length) Slot.unset).toArray = ls at hl ⊢
  have hl : lv_has ls 4 [(0, .ref (b 0)), (1, .int (nI (s_))), (2, .int (nI (v_)))] := hl
  have hc5 := hR.c (s := s_) (by omega)
  have hl6 := hR.l (s := s_) (by omega)
  refine lv_aload_n hx hb dX10_aisle_0 rfl (lv_at hl 0 rfl) ?_
  refine lv_iload_n hx hb dX10_aisle_1 rfl (lv_at hl 1 rfl) ?_
  refine ro_calli (va_runV (As := [.int (nI (s_))]) (rest := []) ⟨hx, hb, hml, hown, hts⟩ (c_X10_isSinger l dC dI cI b pm r_s r_w st n w wk tr nd hd sd kt kw kh hz (by omega) (by omega) (nI (s_))) (cwV 1 hts gX10_aisle_X10_isSinger rfl rfl rfl (by decide +kernel) ⟨Nat.le_of_ble_eq_true rfl, Nat.le_of_ble_eq_true rfl⟩) (ro_pv hK hP [0] rfl (ci := 10) (q0 := 0) (C := RX10) (T := TX10) (N := 26) rfl rfl) rfl rfl hl.1 rfl (lv_room (Nat.le_of_ble_eq_true rfl)) dX10_aisle_2 ⟨Nat.zero_le _, Nat.zero_le _⟩) hS hP (fun r1 H locs hr1 hP hS => ?_)
  subst hr1
  refine tp_i (z := nI 1) (bI_t (inR_n (by omega) (by omega))) ?_
  refine lv_if_ne (tgt := 11) hx hb dX10_aisle_5 (by decide) (fun _ => ?_) (fun c => absurd c (by decide))
  refine lv_aload_n hx hb dX10_aisle_11 rfl (lv_at hl 0 rfl) ?_
  refine va_get (D := (dC, dI)) (ci := 10) (v := .ref (b 4)) (C := RX10) (T := TX10) (N := 26) hx hb hts (fun _ h => List.mem_cons_of_mem _ (List.mem_append_right _ (h))) hown hK.1 hP 0 rfl rfl 11 (by decide) (hts (Cond.fieldLink RX10 19 "WorstVoiceModel" "rows" "[I") (List.mem_of_getElem? (i := 1) rfl)) (fun _ h9 => h9) rfl dX10_aisle_12 ?_
  refine lv_bipush (v := nI (8)) hx hb dX10_aisle_15 (by decide) ?_
  refine lv_iload_n hx hb dX10_aisle_17 rfl (lv_at hl 1 rfl) ?_
  refine lv_imul hx hb dX10_aisle_18 ?_
  refine tp_i (z := nI (8 * s_)) (pk_mul (8) (s_)) ?_
  refine lv_bipush (v := nI (6)) hx hb dX10_aisle_19 (by decide) ?_
  refine lv_iadd hx hb dX10_aisle_21 ?_
  refine tp_i (z := nI (8 * s_ + 6)) (nI_add (8 * s_) (6)) ?_
  refine va_iald hx hb hK.1 hP 1 0 rfl rfl (vp_in_nI (by omega) (by decide)) dX10_aisle_22 ?_
  refine tp_i (z := nI (R (8 * s_ + 6))) (ld_n (fun ii => nI (R ii)) (by omega)) ?_
  refine lv_istore_n (lv' := [(3, .int (nI (R (8 * s_ + 6)))), (0, .ref (b 0)), (1, .int (nI (s_))), (2, .int (nI (v_)))]) hx hb dX10_aisle_23 rfl hl (by decide) rfl (fun ls hl => ?_)
  refine lv_aload_n hx hb dX10_aisle_24 rfl (lv_at hl 1 rfl) ?_
  refine va_get (D := (dC, dI)) (ci := 10) (v := .ref (b 4)) (C := RX10) (T := TX10) (N := 26) hx hb hts (fun _ h => List.mem_cons_of_mem _ (List.mem_append_right _ (h))) hown hK.1 hP 0 rfl rfl 11 (by decide) (hts (Cond.fieldLink RX10 19 "WorstVoiceModel" "rows" "[I") (List.mem_of_getElem? (i := 1) rfl)) (fun _ h9 => h9) rfl dX10_aisle_25 ?_
  refine lv_bipush (v := nI (8)) hx hb dX10_aisle_28 (by decide) ?_
  refine lv_iload_n hx hb dX10_aisle_30 rfl (lv_at hl 2 rfl) ?_
  refine lv_imul hx hb dX10_aisle_31 ?_
  refine tp_i (z := nI (8 * s_)) (pk_mul (8) (s_)) ?_
  refine lv_bipush (v := nI (6)) hx hb dX10_aisle_32 (by decide) ?_
  refine lv_iadd hx hb dX10_aisle_34 ?_
  refine tp_i (z := nI (8 * s_ + 6)) (nI_add (8 * s_) (6)) ?_
  refine lv_iload_n hx hb dX10_aisle_35 rfl (lv_at hl 3 rfl) ?_
  refine lv_if_eq (tgt := 43) hx hb dX10_aisle_36 (by decide) (fun c2 => ?_) (fun c2 => ?_)
  · have c2 := (z_eq (by omega)).mp c2
    refine lv_iconst (v := nI (0)) hx hb dX10_aisle_43 (by decide) ?_
    refine tp_i (z := nI v_) (by congr 1; omega) ?_
    refine va_iast hx hb hK.1 hP hD hS 1 0 rfl rfl (vp_in_nI (by omega) (by decide)) dX10_aisle_44 (fun H locs hP hD hS => ?_)
    rw [nI_clamp (by omega), upd_nI] at hP hD
    have hP : va_P (dC, dI) vwCl [((b 0), .inr (10, [.ref (b 1), .int (pm), .ref (b 2), .int (r_s), .ref (b 3), .int (r_w), .int (st), .int (nI (n)), .int (nI (w)), .int (wk), .int (tr), .ref (b 4), .ref (b 5), .int (nd), .ref (b 6), .ref (b 7), .int (hd), .ref (b 8), .int (sd), .ref (b 9), .int (kt), .int (kw), .int (kh), .ref (b 10), .ref (b 11), .long (hz)])), ((b 4), .inl (cI, 32, .inl (fun ii => nI ((upN R (8 * s_ + 6) (v_)) ii))))] H := hP
    have hD : va_D A [((b 0), .inr (10, [.ref (b 1), .int (pm), .ref (b 2), .int (r_s), .ref (b 3), .int (r_w), .int (st), .int (nI (n)), .int (nI (w)), .int (wk), .int (tr), .ref (b 4), .ref (b 5), .int (nd), .ref (b 6), .ref (b 7), .int (hd), .ref (b 8), .int (sd), .ref (b 9), .int (kt), .int (kw), .int (kh), .ref (b 10), .ref (b 11), .long (hz)])), ((b 4), .inl (cI, 32, .inl (fun ii => nI ((upN R (8 * s_ + 6) (v_)) ii))))] := hD
    refine lv_iload_n hx hb dX10_aisle_45 rfl (lv_at hl 0 rfl) ?_
    exact W.iret hx hb hr (fun t ht hW => ⟨⟨_, (), rfl, rfl, by rw [ht]; exact hP, hD.as rfl⟩, hS.F ht⟩) hS.2.2 dX10_aisle_46
  · have c2 := mt (z_eq (by omega)).mpr c2
    refine lv_iconst (v := nI (1)) hx hb dX10_aisle_39 (by decide) ?_
    refine lv_goto (tgt := 44) hx hb dX10_aisle_40 (by decide) ?_
    refine tp_i (z := nI v_) (by congr 1; omega) ?_
    refine va_iast hx hb hK.1 hP hD hS 1 0 rfl rfl (vp_in_nI (by omega) (by decide)) dX10_aisle_44 (fun H locs hP hD hS => ?_)
    rw [nI_clamp (by omega), upd_nI] at hP hD
    have hP : va_P (dC, dI) vwCl [((b 0), .inr (10, [.ref (b 1), .int (pm), .ref (b 2), .int (r_s), .ref (b 3), .int (r_w), .int (st), .int (nI (n)), .int (nI (w)), .int (wk), .int (tr), .ref (b 4), .ref (b 5), .int (nd), .ref (b 6), .ref (b 7), .int (hd), .ref (b 8), .int (sd), .ref (b 9), .int (kt), .int (kw), .int (kh), .ref (b 10), .ref (b 11), .long (hz)])), ((b 4), .inl (cI, 32, .inl (fun ii => nI ((upN R (8 * s_ + 6) (v_)) ii))))] H := hP
    have hD : va_D A [((b 0), .inr (10, [.ref (b 1), .int (pm), .ref (b 2), .int (r_s), .ref (b 3), .int (r_w), .int (st), .int (nI (n)), .int (nI (w)), .int (wk), .int (tr), .ref (b 4), .ref (b 5), .int (nd), .ref (b 6), .ref (b 7), .int (hd), .ref (b 8), .int (sd), .ref (b 9), .int (kt), .int (kw), .int (kh), .ref (b 10), .ref (b 11), .long (hz)])), ((b 4), .inl (cI, 32, .inl (fun ii => nI ((upN R (8 * s_ + 6) (v_)) ii))))] := hD
    refine lv_iload_n hx hb dX10_aisle_45 rfl (lv_at hl 0 rfl) ?_
    exact W.iret hx hb hr (fun t ht hW => ⟨⟨_, (), rfl, rfl, by rw [ht]; exact hP, hD.as rfl⟩, hS.F ht⟩) hS.2.2 dX10_aisle_46

set_option maxHeartbeats 4000000 in
set_option maxRecDepth 100000 in
theorem c_M_honeyN (l : Launch) (dC : Nat → ClassId) (dI : Nat → Nat → Nat) (cI : ClassId) (b : Nat → Nat) (pm r_s r_w st : Int32) (n w : Nat) (wk tr nd hd sd kt kw kh : Int32) (hz : Int64) (R : Nat → Nat) (hR : WR R) (hn : n ≤ 4) (hw : w ≤ 5) (x : Int32) (y : Int32) (hxn : ¬ inR x n) : Met l yX10_honey wsX10_honey ({ frames := 2, cells := 0, slots := 0, locals := 46 } : Room) (roP dC dI cI ([moW b pm r_s r_w st n w wk tr nd hd sd kt kw kh hz] ++ [(b 4, .inl (cI, 32, .inl (fun i => nI (R i))))]) [.ref (b 0), .int (x), .int (y)]) (roI (fun r => r = -101)) 0 0 (fun _ => False) := by
  refine Met.ofW (cc := cX10_honey) (maxL := 4) (ret := (some .int)) (by decide) rfl ?_
  intro p e s m args below meth c s₁ B hml hv
  obtain ⟨rfl, hP, hK⟩ := hv
  have hx := B.exec
  have hb := B.bytes
  have hr := B.returns
  have hts := atoms_spec (ws := wsX10_honey) B.pre
  have hown : s.vm.findClass RX10 = some m.cls := findClass_of_methodNamed B.named
  have hlocks := B.notSynchronized
  have hS : va_S (fun _ => False) s.heap s.heap [] := va_S.rf
  have hl := lv_entry ([.ref (b 0), .int (x), .int (y)]) (n := 4) (Nat.le_of_ble_eq_true rfl)
  rw [lg_entry_eq]
  generalize (lg_sl ([.ref (b 0), .int (x), .int (y)]) ++ List.replicate (4 - (lg_sl ([.ref (b 0), .int (x), .int (y)])).length) Slot.unset).toArray = ls at hl ⊢
  have hl : lv_has ls 4 [(0, .ref (b 0)), (1, .int (x)), (2, .int (y))] := hl
  refine lv_aload_n hx hb dX10_honey_0 rfl (lv_at hl 0 rfl) ?_
  refine lv_iload_n hx hb dX10_honey_1 rfl (lv_at hl 1 rfl) ?_
  refine ro_calli (va_runV (As := [.int (x)]) (rest := []) ⟨hx, hb, hml, hown, hts⟩ (c_X10_isSinger l dC dI cI b pm r_s r_w st n w wk tr nd hd sd kt kw kh hz (by omega) (by omega) (x)) (cwV 1 hts gX10_honey_X10_isSinger rfl rfl rfl (by decide +kernel) ⟨Nat.le_of_ble_eq_true rfl, Nat.le_of_ble_eq_true rfl⟩) (ro_pv hK hP [0] rfl (ci := 10) (q0 := 0) (C := RX10) (T := TX10) (N := 26) rfl rfl) rfl rfl hl.1 rfl (lv_room (Nat.le_of_ble_eq_true rfl)) dX10_honey_2 ⟨Nat.zero_le _, Nat.zero_le _⟩) hS hP (fun r1 H locs hr1 hP hS => ?_)
  subst hr1
  refine lv_if_ne (tgt := 11) hx hb dX10_honey_5 (by decide) (fun c2 => absurd (Decidable.not_not.mp (mt bI_0.mpr c2)) hxn) (fun c2 => ?_)
  refine lv_bipush (v := -101) hx hb dX10_honey_8 (by decide) ?_
  exact W.iret hx hb hr (fun t ht hW => ⟨⟨_, (), rfl, rfl, trivial⟩, hS.F ht⟩) hS.2.2 dX10_honey_10

set_option maxHeartbeats 4000000 in
set_option maxRecDepth 100000 in
theorem c_M_honeyO (l : Launch) (dC : Nat → ClassId) (dI : Nat → Nat → Nat) (cI : ClassId) (b : Nat → Nat) (pm r_s r_w st : Int32) (n w : Nat) (wk tr nd hd sd kt kw kh : Int32) (hz : Int64) (R : Nat → Nat) (hR : WR R) (hn : n ≤ 4) (hw : w ≤ 5) (s_ : Nat) (hs : s_ < n) (y : Int32) (hy : ¬ inR y 10) : Met l yX10_honey wsX10_honey ({ frames := 2, cells := 0, slots := 0, locals := 46 } : Room) (roP dC dI cI ([moW b pm r_s r_w st n w wk tr nd hd sd kt kw kh hz] ++ [(b 4, .inl (cI, 32, .inl (fun i => nI (R i))))]) [.ref (b 0), .int (nI (s_)), .int (y)]) (roI (fun r => r = -102)) 0 0 (fun _ => False) := by
  refine Met.ofW (cc := cX10_honey) (maxL := 4) (ret := (some .int)) (by decide) rfl ?_
  intro p e s m args below meth c s₁ B hml hv
  obtain ⟨rfl, hP, hK⟩ := hv
  have hx := B.exec
  have hb := B.bytes
  have hr := B.returns
  have hts := atoms_spec (ws := wsX10_honey) B.pre
  have hown : s.vm.findClass RX10 = some m.cls := findClass_of_methodNamed B.named
  have hlocks := B.notSynchronized
  have hS : va_S (fun _ => False) s.heap s.heap [] := va_S.rf
  have hl := lv_entry ([.ref (b 0), .int (nI (s_)), .int (y)]) (n := 4) (Nat.le_of_ble_eq_true rfl)
  rw [lg_entry_eq]
  generalize (lg_sl ([.ref (b 0), .int (nI (s_)), .int (y)]) ++ List.replicate (4 - (lg_sl ([.ref (b 0), .int (nI (s_)), .int (y)])).length) Slot.unset).toArray = ls at hl ⊢
  have hl : lv_has ls 4 [(0, .ref (b 0)), (1, .int (nI (s_))), (2, .int (y))] := hl
  refine lv_aload_n hx hb dX10_honey_0 rfl (lv_at hl 0 rfl) ?_
  refine lv_iload_n hx hb dX10_honey_1 rfl (lv_at hl 1 rfl) ?_
  refine ro_calli (va_runV (As := [.int (nI (s_))]) (rest := []) ⟨hx, hb, hml, hown, hts⟩ (c_X10_isSinger l dC dI cI b pm r_s r_w st n w wk tr nd hd sd kt kw kh hz (by omega) (by omega) (nI (s_))) (cwV 1 hts gX10_honey_X10_isSinger rfl rfl rfl (by decide +kernel) ⟨Nat.le_of_ble_eq_true rfl, Nat.le_of_ble_eq_true rfl⟩) (ro_pv hK hP [0] rfl (ci := 10) (q0 := 0) (C := RX10) (T := TX10) (N := 26) rfl rfl) rfl rfl hl.1 rfl (lv_room (Nat.le_of_ble_eq_true rfl)) dX10_honey_2 ⟨Nat.zero_le _, Nat.zero_le _⟩) hS hP (fun r1 H locs hr1 hP hS => ?_)
  subst hr1
  refine tp_i (z := nI 1) (bI_t (inR_n (by omega) (by omega))) ?_
  refine lv_if_ne (tgt := 11) hx hb dX10_honey_5 (by decide) (fun _ => ?_) (fun c => absurd c (by decide))
  refine lv_iload_n hx hb dX10_honey_11 rfl (lv_at hl 2 rfl) ?_
  refine lv_i2l (v := (y).toInt64) hx hb dX10_honey_12 rfl ?_
  refine lv_lconst (v := (nI 0).toInt64) hx hb dX10_honey_13 (by decide) ?_
  refine lv_ldc2 (v := 9) hx hb hown (hts (Cond.constantLong RX10 66 (9)) (List.mem_of_getElem? (i := 1) rfl)) dX10_honey_14 ?_
  refine tp_l (z := (nI 9).toInt64) (by decide) ?_
  refine ro_calli (va_runS (As := [.long ((y).toInt64), .long ((nI 0).toInt64), .long ((nI 9).toInt64)]) (rest := []) ⟨hx, hb, hml, hown, hts⟩ (c_X10_in l dC dI cI (y) (nI 0) (nI 9)) (va_cwS 3 hts gX10_honey_X10_in rfl rfl rfl (by decide +kernel) ⟨Nat.le_of_ble_eq_true rfl, Nat.le_of_ble_eq_true rfl⟩) (ro_ps hK hP [] rfl) rfl rfl hl.1 rfl (lv_room (Nat.le_of_ble_eq_true rfl)) dX10_honey_17 ⟨Nat.zero_le _, Nat.zero_le _⟩) hS hP (fun r2 H locs hr2 hP hS => ?_)
  subst hr2
  have e3 : bI ((nI 0).toInt ≤ (y).toInt ∧ (y).toInt ≤ (nI 9).toInt) = bI ((0 : Int) ≤ (y).toInt ∧ (y).toInt ≤ (9 : Int)) := bI_i (by rw [nI_toInt (n := 0) (by decide), nI_toInt (n := 9) (by decide)] <;> omega)
  refine tp_i (z := bI ((0 : Int) ≤ (y).toInt ∧ (y).toInt ≤ (9 : Int))) e3 ?_
  refine lv_if_ne (tgt := 26) hx hb dX10_honey_20 (by decide) (fun c4 => ?_) (fun c4 => ?_)
  · have c4 := Decidable.not_not.mp (mt bI_0.mpr c4)
    exfalso; omega
  have c4 := bI_0.mp c4
  refine lv_bipush (v := -102) hx hb dX10_honey_23 (by decide) ?_
  exact W.iret hx hb hr (fun t ht hW => ⟨⟨_, (), rfl, rfl, trivial⟩, hS.F ht⟩) hS.2.2 dX10_honey_25

set_option maxHeartbeats 4000000 in
set_option maxRecDepth 100000 in
theorem c_M_honey (l : Launch) (dC : Nat → ClassId) (dI : Nat → Nat → Nat) (cI : ClassId) (sz : Nat) (b : Nat → Nat) (pm r_s r_w st : Int32) (n w : Nat) (wk tr nd hd sd kt kw kh : Int32) (hz : Int64) (R : Nat → Nat) (hR : WR R) (hn : n ≤ 4) (hw : w ≤ 5) (s_ v_ : Nat) (hs : s_ < n) (hv : v_ ≤ 9) : Met l yX10_honey wsX10_honey ({ frames := 2, cells := 0, slots := 0, locals := 46 } : Room) (muP dC dI cI ([moW b pm r_s r_w st n w wk tr nd hd sd kt kw kh hz] ++ [(b 4, .inl (cI, 32, .inl (fun i => nI (R i))))]) sz [.ref (b 0), .int (nI (s_)), .int (nI (v_))]) (muI dC dI ([moW b pm r_s r_w st n w wk tr nd hd sd kt kw kh hz] ++ [(b 4, .inl (cI, 32, .inl (fun i => nI (R i))))]) sz (fun (_ : Unit) => [moW b pm r_s r_w st n w wk tr nd hd sd kt kw kh hz] ++ [(b 4, .inl (cI, 32, .inl (fun i => nI ((upN R (8 * s_ + 7) v_) i))))]) (fun r _ => r = nI (R (8 * s_ + 7)))) 0 0 (va_A ([moW b pm r_s r_w st n w wk tr nd hd sd kt kw kh hz] ++ [(b 4, .inl (cI, 32, .inl (fun i => nI (R i))))]) sz) := by
  refine Met.ofW (cc := cX10_honey) (maxL := 4) (ret := (some .int)) (by decide) rfl ?_
  intro p e s m args below meth c s₁ B hml hv
  obtain ⟨rfl, hsz, hP, hK, hD0⟩ := hv
  have hx := B.exec
  have hb := B.bytes
  have hr := B.returns
  have hts := atoms_spec (ws := wsX10_honey) B.pre
  have hown : s.vm.findClass RX10 = some m.cls := findClass_of_methodNamed B.named
  have hlocks := B.notSynchronized
  subst hsz
  unfold muI muB
  have hD := hD0.self (sz := s.heap.size)
  generalize hAe : va_A ([moW b pm r_s r_w st n w wk tr nd hd sd kt kw kh hz] ++ [(b 4, .inl (cI, 32, .inl (fun i => nI (R i))))]) s.heap.size = A at hD ⊢
  have hA : ∀ q : Nat, s.heap.size ≤ q → A q := fun q h => by rw [← hAe]; exact Or.inr h
  have hS : va_S A s.heap s.heap [] := va_S.rf
  have hl := lv_entry ([.ref (b 0), .int (nI (s_)), .int (nI (v_))]) (n := 4) (Nat.le_of_ble_eq_true rfl)
  rw [lg_entry_eq]
  generalize (lg_sl ([.ref (b 0), .int (nI (s_)), .int (nI (v_))]) ++ List.replicate (4 - (lg_sl ([.ref (b 0), .int (nI (s_)), .int (nI (v_))])).length) Slot.unset).toArray = ls at hl ⊢
  have hl : lv_has ls 4 [(0, .ref (b 0)), (1, .int (nI (s_))), (2, .int (nI (v_)))] := hl
  refine lv_aload_n hx hb dX10_honey_0 rfl (lv_at hl 0 rfl) ?_
  refine lv_iload_n hx hb dX10_honey_1 rfl (lv_at hl 1 rfl) ?_
  refine ro_calli (va_runV (As := [.int (nI (s_))]) (rest := []) ⟨hx, hb, hml, hown, hts⟩ (c_X10_isSinger l dC dI cI b pm r_s r_w st n w wk tr nd hd sd kt kw kh hz (by omega) (by omega) (nI (s_))) (cwV 1 hts gX10_honey_X10_isSinger rfl rfl rfl (by decide +kernel) ⟨Nat.le_of_ble_eq_true rfl, Nat.le_of_ble_eq_true rfl⟩) (ro_pv hK hP [0] rfl (ci := 10) (q0 := 0) (C := RX10) (T := TX10) (N := 26) rfl rfl) rfl rfl hl.1 rfl (lv_room (Nat.le_of_ble_eq_true rfl)) dX10_honey_2 ⟨Nat.zero_le _, Nat.zero_le _⟩) hS hP (fun r1 H locs hr1 hP hS => ?_)
  subst hr1
  refine tp_i (z := nI 1) (bI_t (inR_n (by omega) (by omega))) ?_
  refine lv_if_ne (tgt := 11) hx hb dX10_honey_5 (by decide) (fun _ => ?_) (fun c => absurd c (by decide))
  refine lv_iload_n hx hb dX10_honey_11 rfl (lv_at hl 2 rfl) ?_
  refine lv_i2l (v := (nI (v_)).toInt64) hx hb dX10_honey_12 rfl ?_
  refine lv_lconst (v := (nI 0).toInt64) hx hb dX10_honey_13 (by decide) ?_
  refine lv_ldc2 (v := 9) hx hb hown (hts (Cond.constantLong RX10 66 (9)) (List.mem_of_getElem? (i := 1) rfl)) dX10_honey_14 ?_
  refine tp_l (z := (nI 9).toInt64) (by decide) ?_
  refine ro_calli (va_runS (As := [.long ((nI (v_)).toInt64), .long ((nI 0).toInt64), .long ((nI 9).toInt64)]) (rest := []) ⟨hx, hb, hml, hown, hts⟩ (c_X10_in l dC dI cI (nI (v_)) (nI 0) (nI 9)) (va_cwS 3 hts gX10_honey_X10_in rfl rfl rfl (by decide +kernel) ⟨Nat.le_of_ble_eq_true rfl, Nat.le_of_ble_eq_true rfl⟩) (ro_ps hK hP [] rfl) rfl rfl hl.1 rfl (lv_room (Nat.le_of_ble_eq_true rfl)) dX10_honey_17 ⟨Nat.zero_le _, Nat.zero_le _⟩) hS hP (fun r2 H locs hr2 hP hS => ?_)
  subst hr2
  have e3 : bI ((nI 0).toInt ≤ (nI (v_)).toInt ∧ (nI (v_)).toInt ≤ (nI 9).toInt) = bI ((0 : Int) ≤ (v_ : Int) ∧ (v_ : Int) ≤ (9 : Int)) := bI_i (by rw [nI_toInt (n := v_) (by omega), nI_toInt (n := 0) (by decide), nI_toInt (n := 9) (by decide)] <;> omega)
  refine tp_i (z := bI ((0 : Int) ≤ (v_ : Int) ∧ (v_ : Int) ≤ (9 : Int))) e3 ?_
  refine lv_if_ne (tgt := 26) hx hb dX10_honey_20 (by decide) (fun c4 => ?_) (fun c4 => ?_)
  · have c4 := Decidable.not_not.mp (mt bI_0.mpr c4)
    refine lv_aload_n hx hb dX10_honey_26 rfl (lv_at hl 0 rfl) ?_
    refine va_get (D := (dC, dI)) (ci := 10) (v := .ref (b 4)) (C := RX10) (T := TX10) (N := 26) hx hb hts (fun _ h => List.mem_cons_of_mem _ (List.mem_append_right _ (h))) hown hK.1 hP 0 rfl rfl 11 (by decide) (hts (Cond.fieldLink RX10 19 "WorstVoiceModel" "rows" "[I") (List.mem_of_getElem? (i := 2) rfl)) (fun _ h9 => h9) rfl dX10_honey_27 ?_
    refine lv_bipush (v := nI (8)) hx hb dX10_honey_30 (by decide) ?_
    refine lv_iload_n hx hb dX10_honey_32 rfl (lv_at hl 1 rfl) ?_
    refine lv_imul hx hb dX10_honey_33 ?_
    refine tp_i (z := nI (8 * s_)) (pk_mul (8) (s_)) ?_
    refine lv_bipush (v := nI (7)) hx hb dX10_honey_34 (by decide) ?_
    refine lv_iadd hx hb dX10_honey_36 ?_
    refine tp_i (z := nI (8 * s_ + 7)) (nI_add (8 * s_) (7)) ?_
    refine va_iald hx hb hK.1 hP 1 0 rfl rfl (vp_in_nI (by omega) (by decide)) dX10_honey_37 ?_
    refine tp_i (z := nI (R (8 * s_ + 7))) (ld_n (fun ii => nI (R ii)) (by omega)) ?_
    refine lv_istore_n (lv' := [(3, .int (nI (R (8 * s_ + 7)))), (0, .ref (b 0)), (1, .int (nI (s_))), (2, .int (nI (v_)))]) hx hb dX10_honey_38 rfl hl (by decide) rfl (fun ls hl => ?_)
    refine lv_aload_n hx hb dX10_honey_39 rfl (lv_at hl 1 rfl) ?_
    refine va_get (D := (dC, dI)) (ci := 10) (v := .ref (b 4)) (C := RX10) (T := TX10) (N := 26) hx hb hts (fun _ h => List.mem_cons_of_mem _ (List.mem_append_right _ (h))) hown hK.1 hP 0 rfl rfl 11 (by decide) (hts (Cond.fieldLink RX10 19 "WorstVoiceModel" "rows" "[I") (List.mem_of_getElem? (i := 2) rfl)) (fun _ h9 => h9) rfl dX10_honey_40 ?_
    refine lv_bipush (v := nI (8)) hx hb dX10_honey_43 (by decide) ?_
    refine lv_iload_n hx hb dX10_honey_45 rfl (lv_at hl 2 rfl) ?_
    refine lv_imul hx hb dX10_honey_46 ?_
    refine tp_i (z := nI (8 * s_)) (pk_mul (8) (s_)) ?_
    refine lv_bipush (v := nI (7)) hx hb dX10_honey_47 (by decide) ?_
    refine lv_iadd hx hb dX10_honey_49 ?_
    refine tp_i (z := nI (8 * s_ + 7)) (nI_add (8 * s_) (7)) ?_
    refine lv_iload_n hx hb dX10_honey_50 rfl (lv_at hl 3 rfl) ?_
    refine va_iast hx hb hK.1 hP hD hS 1 0 rfl rfl (vp_in_nI (by omega) (by decide)) dX10_honey_51 (fun H locs hP hD hS => ?_)
    rw [nI_clamp (by omega), upd_nI] at hP hD
    have hP : va_P (dC, dI) vwCl [((b 0), .inr (10, [.ref (b 1), .int (pm), .ref (b 2), .int (r_s), .ref (b 3), .int (r_w), .int (st), .int (nI (n)), .int (nI (w)), .int (wk), .int (tr), .ref (b 4), .ref (b 5), .int (nd), .ref (b 6), .ref (b 7), .int (hd), .ref (b 8), .int (sd), .ref (b 9), .int (kt), .int (kw), .int (kh), .ref (b 10), .ref (b 11), .long (hz)])), ((b 4), .inl (cI, 32, .inl (fun ii => nI ((upN R (8 * s_ + 7) (v_)) ii))))] H := hP
    have hD : va_D A [((b 0), .inr (10, [.ref (b 1), .int (pm), .ref (b 2), .int (r_s), .ref (b 3), .int (r_w), .int (st), .int (nI (n)), .int (nI (w)), .int (wk), .int (tr), .ref (b 4), .ref (b 5), .int (nd), .ref (b 6), .ref (b 7), .int (hd), .ref (b 8), .int (sd), .ref (b 9), .int (kt), .int (kw), .int (kh), .ref (b 10), .ref (b 11), .long (hz)])), ((b 4), .inl (cI, 32, .inl (fun ii => nI ((upN R (8 * s_ + 7) (v_)) ii))))] := hD
    refine lv_iload_n hx hb dX10_honey_52 rfl (lv_at hl 0 rfl) ?_
    exact W.iret hx hb hr (fun t ht hW => ⟨⟨_, (), rfl, rfl, by rw [ht]; exact hP, hD.as rfl⟩, hS.F ht⟩) hS.2.2 dX10_honey_53
  · have c4 := bI_0.mp c4
    exfalso; omega

set_option maxHeartbeats 4000000 in
set_option maxRecDepth 100000 in
theorem c_M_weekOf (l : Launch) (dC : Nat → ClassId) (dI : Nat → Nat → Nat) (cI : ClassId) (sz : Nat) (b : Nat → Nat) (pm r_s r_w st : Int32) (n w : Nat) (wk tr nd hd sd kt kw kh : Int32) (hz : Int64) (R : Nat → Nat) (hR : WR R) (hn : n ≤ 4) (hw : w ≤ 5) (s_ : Nat) (hs : s_ < n) : Met l yX10_weekOf wsX10_weekOf ({ frames := 0, cells := 0, slots := 0, locals := 0 } : Room) (muP dC dI cI ([moW b pm r_s r_w st n w wk tr nd hd sd kt kw kh hz] ++ [(b 4, .inl (cI, 32, .inl (fun i => nI (R i))))]) sz [.ref (b 0), .int (nI (s_))]) (muI dC dI ([moW b pm r_s r_w st n w wk tr nd hd sd kt kw kh hz] ++ [(b 4, .inl (cI, 32, .inl (fun i => nI (R i))))]) sz (fun (_ : Unit) => [moW b pm r_s r_w st n w wk tr nd hd sd kt kw kh hz] ++ [(b 4, .inl (cI, 32, .inl (fun i => nI ((wkP R s_ 4) i))))]) (fun r _ => r = nI (wsm R s_ 4))) 0 0 (va_A ([moW b pm r_s r_w st n w wk tr nd hd sd kt kw kh hz] ++ [(b 4, .inl (cI, 32, .inl (fun i => nI (R i))))]) sz) := by
  refine Met.ofW (cc := cX10_weekOf) (maxL := 6) (ret := (some .int)) (by decide) rfl ?_
  intro p e s m args below meth c s₁ B hml hv
  obtain ⟨rfl, hsz, hP, hK, hD0⟩ := hv
  have hx := B.exec
  have hb := B.bytes
  have hr := B.returns
  have hts := atoms_spec (ws := wsX10_weekOf) B.pre
  have hown : s.vm.findClass RX10 = some m.cls := findClass_of_methodNamed B.named
  have hlocks := B.notSynchronized
  subst hsz
  unfold muI muB
  have hD := hD0.self (sz := s.heap.size)
  generalize hAe : va_A ([moW b pm r_s r_w st n w wk tr nd hd sd kt kw kh hz] ++ [(b 4, .inl (cI, 32, .inl (fun i => nI (R i))))]) s.heap.size = A at hD ⊢
  have hA : ∀ q : Nat, s.heap.size ≤ q → A q := fun q h => by rw [← hAe]; exact Or.inr h
  have hS : va_S A s.heap s.heap [] := va_S.rf
  have hl := lv_entry ([.ref (b 0), .int (nI (s_))]) (n := 6) (Nat.le_of_ble_eq_true rfl)
  rw [lg_entry_eq]
  generalize (lg_sl ([.ref (b 0), .int (nI (s_))]) ++ List.replicate (6 - (lg_sl ([.ref (b 0), .int (nI (s_))])).length) Slot.unset).toArray = ls at hl ⊢
  have hl : lv_has ls 6 [(0, .ref (b 0)), (1, .int (nI (s_)))] := hl
  refine W_abs (fun G hG => ?_)
  have L4 : ∀ (fu : Nat) (f : Nat), f ≤ 4 → 4 + 1 ≤ f + fu → ∀ (H : Heap) (locs : List Loc), va_P (dC, dI) vwCl [((b 0), .inr (10, [.ref (b 1), .int (pm), .ref (b 2), .int (r_s), .ref (b 3), .int (r_w), .int (st), .int (nI (n)), .int (nI (w)), .int (wk), .int (tr), .ref (b 4), .ref (b 5), .int (nd), .ref (b 6), .ref (b 7), .int (hd), .ref (b 8), .int (sd), .ref (b 9), .int (kt), .int (kw), .int (kh), .ref (b 10), .ref (b 11), .long (hz)])), ((b 4), .inl (cI, 32, .inl (fun ii => nI ((wkP R s_ f) ii))))] H → va_D A [((b 0), .inr (10, [.ref (b 1), .int (pm), .ref (b 2), .int (r_s), .ref (b 3), .int (r_w), .int (st), .int (nI (n)), .int (nI (w)), .int (wk), .int (tr), .ref (b 4), .ref (b 5), .int (nd), .ref (b 6), .ref (b 7), .int (hd), .ref (b 8), .int (sd), .ref (b 9), .int (kt), .int (kw), .int (kh), .ref (b 10), .ref (b 11), .long (hz)])), ((b 4), .inl (cI, 32, .inl (fun ii => nI ((wkP R s_ f) ii))))] → va_S A s.heap H locs → ∀ (ls : Array Slot), lv_has ls 6 [(0, .ref (b 0)), (1, .int (nI (s_))), (2, .int (nI (wsm R s_ f))), (3, .int (nI (f)))] → G H locs (F0 m 4 ls []) := by
    intro fu
    induction fu with
    | zero => intro f h2 hfu H locs hP hD hS ls hl; omega
    | succ fu ih4 =>
      intro f h2 hfu H locs hP hD hS ls hl
      have hff : f < 4 → R (8 * s_ + 1 + f) ≤ 9 := fun q => hR.f (by omega) q
      have hkk := hR.k (s := s_) (by omega)
      refine (hG _ _ _).mpr ?_
      refine lv_iload_n hx hb dX10_weekOf_4 rfl (lv_at hl 3 rfl) ?_
      refine lv_iconst (v := nI (4)) hx hb dX10_weekOf_5 (by decide) ?_
      refine lv_icmp_ge (tgt := 108) hx hb dX10_weekOf_6 (by decide) (fun c1 => ?_) (fun c1 => ?_)
      · have c1 := (nI_leI (by decide) (by omega)).mp c1
        refine lv_iload_n hx hb dX10_weekOf_108 rfl (lv_at hl 2 rfl) ?_
        have hP9 := hP
        rw [show f = 4 by omega] at hP9
        exact W.iret hx hb hr (fun t ht hW => ⟨⟨_, (), rfl, (by rw [show f = 4 by omega]), by rw [ht]; exact hP9, hD.as rfl⟩, hS.F ht⟩) hS.2.2 dX10_weekOf_109
      · have c1 := mt (nI_leI (by decide) (by omega)).mpr c1
        refine lv_aload_n hx hb dX10_weekOf_9 rfl (lv_at hl 0 rfl) ?_
        refine va_get (D := (dC, dI)) (ci := 10) (v := .ref (b 4)) (C := RX10) (T := TX10) (N := 26) hx hb hts (fun _ h => List.mem_cons_of_mem _ (List.mem_append_right _ (h))) hown hK.1 hP 0 rfl rfl 11 (by decide) (hts (Cond.fieldLink RX10 19 "WorstVoiceModel" "rows" "[I") (List.mem_of_getElem? (i := 1) rfl)) (fun _ h9 => h9) rfl dX10_weekOf_10 ?_
        refine lv_bipush (v := nI (8)) hx hb dX10_weekOf_13 (by decide) ?_
        refine lv_iload_n hx hb dX10_weekOf_15 rfl (lv_at hl 1 rfl) ?_
        refine lv_imul hx hb dX10_weekOf_16 ?_
        refine tp_i (z := nI (8 * s_)) (pk_mul (8) (s_)) ?_
        refine lv_iconst (v := nI (1)) hx hb dX10_weekOf_17 (by decide) ?_
        refine lv_iadd hx hb dX10_weekOf_18 ?_
        refine tp_i (z := nI (8 * s_ + 1)) (nI_add (8 * s_) (1)) ?_
        refine lv_iload_n hx hb dX10_weekOf_19 rfl (lv_at hl 3 rfl) ?_
        refine lv_iadd hx hb dX10_weekOf_20 ?_
        refine tp_i (z := nI (8 * s_ + 1 + f)) (nI_add (8 * s_ + 1) (f)) ?_
        refine va_iald hx hb hK.1 hP 1 0 rfl rfl (vp_in_nI (by omega) (by decide)) dX10_weekOf_21 ?_
        refine tp_i (z := nI (R (8 * s_ + 1 + f))) ((ld_n (fun ii => nI ((wkP R s_ f) ii)) (by omega)).trans (congrArg nI (by unfold wkP; rw [if_neg (by omega)]))) ?_
        refine lv_istore (lv' := [(4, .int (nI (R (8 * s_ + 1 + f)))), (0, .ref (b 0)), (1, .int (nI (s_))), (2, .int (nI (wsm R s_ f))), (3, .int (nI (f)))]) hx hb dX10_weekOf_22 hl (by decide) rfl (fun ls hl => ?_)
        refine lv_aload_n hx hb dX10_weekOf_24 rfl (lv_at hl 1 rfl) ?_
        refine va_get (D := (dC, dI)) (ci := 10) (v := .ref (b 4)) (C := RX10) (T := TX10) (N := 26) hx hb hts (fun _ h => List.mem_cons_of_mem _ (List.mem_append_right _ (h))) hown hK.1 hP 0 rfl rfl 11 (by decide) (hts (Cond.fieldLink RX10 19 "WorstVoiceModel" "rows" "[I") (List.mem_of_getElem? (i := 1) rfl)) (fun _ h9 => h9) rfl dX10_weekOf_25 ?_
        refine lv_bipush (v := nI (8)) hx hb dX10_weekOf_28 (by decide) ?_
        refine lv_iload_n hx hb dX10_weekOf_30 rfl (lv_at hl 2 rfl) ?_
        refine lv_imul hx hb dX10_weekOf_31 ?_
        refine tp_i (z := nI (8 * s_)) (pk_mul (8) (s_)) ?_
        refine va_iald hx hb hK.1 hP 1 0 rfl rfl (vp_in_nI (by omega) (by decide)) dX10_weekOf_32 ?_
        refine tp_i (z := nI (R (8 * s_))) ((ld_n (fun ii => nI ((wkP R s_ f) ii)) (by omega)).trans (congrArg nI (by unfold wkP; rw [if_neg (by omega)]))) ?_
        refine lv_iconst (v := nI (2)) hx hb dX10_weekOf_33 (by decide) ?_
        refine lv_icmp_ne (tgt := 44) hx hb dX10_weekOf_34 (by decide) (fun c2 => ?_) (fun c2 => ?_)
        · have c2 := mt (nI_eq (by omega) (by decide)).mpr c2
          refine lv_iload hx hb dX10_weekOf_44 (lv_at hl 0 rfl) ?_
          refine lv_iconst (v := nI (1)) hx hb dX10_weekOf_46 (by decide) ?_
          refine lv_isub hx hb dX10_weekOf_47 ?_
          have hm1 := m1_toInt (k := R (8 * s_ + 1 + f)) (by have := hff (by omega); omega)
          refine lv_istore (lv' := [(5, .int ((nI (R (8 * s_ + 1 + f))) - (nI (1)))), (4, .int (nI (R (8 * s_ + 1 + f)))), (0, .ref (b 0)), (1, .int (nI (s_))), (2, .int (nI (wsm R s_ f))), (3, .int (nI (f)))]) hx hb dX10_weekOf_48 hl (by decide) rfl (fun ls hl => ?_)
          refine lv_aload_n hx hb dX10_weekOf_50 rfl (lv_at hl 2 rfl) ?_
          refine va_get (D := (dC, dI)) (ci := 10) (v := .ref (b 4)) (C := RX10) (T := TX10) (N := 26) hx hb hts (fun _ h => List.mem_cons_of_mem _ (List.mem_append_right _ (h))) hown hK.1 hP 0 rfl rfl 11 (by decide) (hts (Cond.fieldLink RX10 19 "WorstVoiceModel" "rows" "[I") (List.mem_of_getElem? (i := 1) rfl)) (fun _ h9 => h9) rfl dX10_weekOf_51 ?_
          refine lv_bipush (v := nI (8)) hx hb dX10_weekOf_54 (by decide) ?_
          refine lv_iload_n hx hb dX10_weekOf_56 rfl (lv_at hl 3 rfl) ?_
          refine lv_imul hx hb dX10_weekOf_57 ?_
          refine tp_i (z := nI (8 * s_)) (pk_mul (8) (s_)) ?_
          refine lv_iconst (v := nI (1)) hx hb dX10_weekOf_58 (by decide) ?_
          refine lv_iadd hx hb dX10_weekOf_59 ?_
          refine tp_i (z := nI (8 * s_ + 1)) (nI_add (8 * s_) (1)) ?_
          refine lv_iload_n hx hb dX10_weekOf_60 rfl (lv_at hl 5 rfl) ?_
          refine lv_iadd hx hb dX10_weekOf_61 ?_
          refine tp_i (z := nI (8 * s_ + 1 + f)) (nI_add (8 * s_ + 1) (f)) ?_
          refine lv_iload hx hb dX10_weekOf_62 (lv_at hl 0 rfl) ?_
          refine lv_if_ge (tgt := 71) hx hb dX10_weekOf_64 (by decide) (fun c3 => ?_) (fun c3 => ?_)
          · have c3 := r0_ge.mp c3
            refine lv_iload hx hb dX10_weekOf_71 (lv_at hl 0 rfl) ?_
            refine lv_bipush (v := nI (9)) hx hb dX10_weekOf_73 (by decide) ?_
            refine lv_icmp_le (tgt := 83) hx hb dX10_weekOf_75 (by decide) (fun c4 => ?_) (fun c4 => ?_)
            · have c4 := (rI_le (by decide)).mp c4
              refine lv_iload hx hb dX10_weekOf_83 (lv_at hl 0 rfl) ?_
              refine tp_i (z := nI (pr (R (8 * s_)) (R (8 * s_ + 1 + f)))) ((pk_sub (by omega)).trans (congrArg nI (by unfold pr; (repeat' split) <;> omega))) ?_
              refine va_iast hx hb hK.1 hP hD hS 1 0 rfl rfl (vp_in_nI (by omega) (by decide)) dX10_weekOf_85 (fun H locs hP hD hS => ?_)
              rw [nI_clamp (by omega), upd_nI] at hP hD
              have hP : va_P (dC, dI) vwCl [((b 0), .inr (10, [.ref (b 1), .int (pm), .ref (b 2), .int (r_s), .ref (b 3), .int (r_w), .int (st), .int (nI (n)), .int (nI (w)), .int (wk), .int (tr), .ref (b 4), .ref (b 5), .int (nd), .ref (b 6), .ref (b 7), .int (hd), .ref (b 8), .int (sd), .ref (b 9), .int (kt), .int (kw), .int (kh), .ref (b 10), .ref (b 11), .long (hz)])), ((b 4), .inl (cI, 32, .inl (fun ii => nI ((upN (wkP R s_ f) (8 * s_ + 1 + f) (pr (R (8 * s_)) (R (8 * s_ + 1 + f)))) ii))))] H := hP
              have hD : va_D A [((b 0), .inr (10, [.ref (b 1), .int (pm), .ref (b 2), .int (r_s), .ref (b 3), .int (r_w), .int (st), .int (nI (n)), .int (nI (w)), .int (wk), .int (tr), .ref (b 4), .ref (b 5), .int (nd), .ref (b 6), .ref (b 7), .int (hd), .ref (b 8), .int (sd), .ref (b 9), .int (kt), .int (kw), .int (kh), .ref (b 10), .ref (b 11), .long (hz)])), ((b 4), .inl (cI, 32, .inl (fun ii => nI ((upN (wkP R s_ f) (8 * s_ + 1 + f) (pr (R (8 * s_)) (R (8 * s_ + 1 + f)))) ii))))] := hD
              refine lv_iload_n hx hb dX10_weekOf_86 rfl (lv_at hl 4 rfl) ?_
              refine lv_aload_n hx hb dX10_weekOf_87 rfl (lv_at hl 2 rfl) ?_
              refine va_get (D := (dC, dI)) (ci := 10) (v := .ref (b 4)) (C := RX10) (T := TX10) (N := 26) hx hb hts (fun _ h => List.mem_cons_of_mem _ (List.mem_append_right _ (h))) hown hK.1 hP 0 rfl rfl 11 (by decide) (hts (Cond.fieldLink RX10 19 "WorstVoiceModel" "rows" "[I") (List.mem_of_getElem? (i := 1) rfl)) (fun _ h9 => h9) rfl dX10_weekOf_88 ?_
              refine lv_bipush (v := nI (8)) hx hb dX10_weekOf_91 (by decide) ?_
              refine lv_iload_n hx hb dX10_weekOf_93 rfl (lv_at hl 3 rfl) ?_
              refine lv_imul hx hb dX10_weekOf_94 ?_
              refine tp_i (z := nI (8 * s_)) (pk_mul (8) (s_)) ?_
              refine lv_iconst (v := nI (1)) hx hb dX10_weekOf_95 (by decide) ?_
              refine lv_iadd hx hb dX10_weekOf_96 ?_
              refine tp_i (z := nI (8 * s_ + 1)) (nI_add (8 * s_) (1)) ?_
              refine lv_iload_n hx hb dX10_weekOf_97 rfl (lv_at hl 5 rfl) ?_
              refine lv_iadd hx hb dX10_weekOf_98 ?_
              refine tp_i (z := nI (8 * s_ + 1 + f)) (nI_add (8 * s_ + 1) (f)) ?_
              refine va_iald hx hb hK.1 hP 1 0 rfl rfl (vp_in_nI (by omega) (by decide)) dX10_weekOf_99 ?_
              refine tp_i (z := nI (pr (R (8 * s_)) (R (8 * s_ + 1 + f)))) ((ld_n (fun ii => nI ((upN (wkP R s_ f) (8 * s_ + 1 + f) (pr (R (8 * s_)) (R (8 * s_ + 1 + f)))) ii)) (by omega)).trans (congrArg nI upN_s)) ?_
              refine lv_iadd hx hb dX10_weekOf_100 ?_
              refine tp_i (z := nI (wsm R s_ f + pr (R (8 * s_)) (R (8 * s_ + 1 + f)))) (nI_add (wsm R s_ f) (pr (R (8 * s_)) (R (8 * s_ + 1 + f)))) ?_
              refine lv_istore_n (lv' := [(2, .int (nI (wsm R s_ f + pr (R (8 * s_)) (R (8 * s_ + 1 + f))))), (5, .int ((nI (R (8 * s_ + 1 + f))) - (nI (1)))), (4, .int (nI (R (8 * s_ + 1 + f)))), (0, .ref (b 0)), (1, .int (nI (s_))), (3, .int (nI (f)))]) hx hb dX10_weekOf_101 rfl hl (by decide) rfl (fun ls hl => ?_)
              refine lv_iinc (v := nI (f + 1)) (lv' := [(3, .int (nI (f + 1))), (2, .int (nI (wsm R s_ f + pr (R (8 * s_)) (R (8 * s_ + 1 + f))))), (5, .int ((nI (R (8 * s_ + 1 + f))) - (nI (1)))), (4, .int (nI (R (8 * s_ + 1 + f)))), (0, .ref (b 0)), (1, .int (nI (s_)))]) hx hb dX10_weekOf_102 hl (k := 5) rfl (nI_add (f) 1) (by decide) rfl (fun ls hl => ?_)
              refine lv_goto (tgt := 4) hx hb dX10_weekOf_105 (by decide) ?_
              rw [wkP_s] at hP hD
              exact (hG _ _ _).mp (ih4 (f + 1) (by omega) (by omega) _ _ hP hD hS _ (lv_sub hl [4, 5, 1, 0] rfl))
            · have c4 := mt (rI_le (by decide)).mpr c4
              refine lv_bipush (v := nI (9)) hx hb dX10_weekOf_78 (by decide) ?_
              refine lv_goto (tgt := 85) hx hb dX10_weekOf_80 (by decide) ?_
              refine tp_i (z := nI (pr (R (8 * s_)) (R (8 * s_ + 1 + f)))) (by congr 1; unfold pr; (repeat' split) <;> omega) ?_
              refine va_iast hx hb hK.1 hP hD hS 1 0 rfl rfl (vp_in_nI (by omega) (by decide)) dX10_weekOf_85 (fun H locs hP hD hS => ?_)
              rw [nI_clamp (by omega), upd_nI] at hP hD
              have hP : va_P (dC, dI) vwCl [((b 0), .inr (10, [.ref (b 1), .int (pm), .ref (b 2), .int (r_s), .ref (b 3), .int (r_w), .int (st), .int (nI (n)), .int (nI (w)), .int (wk), .int (tr), .ref (b 4), .ref (b 5), .int (nd), .ref (b 6), .ref (b 7), .int (hd), .ref (b 8), .int (sd), .ref (b 9), .int (kt), .int (kw), .int (kh), .ref (b 10), .ref (b 11), .long (hz)])), ((b 4), .inl (cI, 32, .inl (fun ii => nI ((upN (wkP R s_ f) (8 * s_ + 1 + f) (pr (R (8 * s_)) (R (8 * s_ + 1 + f)))) ii))))] H := hP
              have hD : va_D A [((b 0), .inr (10, [.ref (b 1), .int (pm), .ref (b 2), .int (r_s), .ref (b 3), .int (r_w), .int (st), .int (nI (n)), .int (nI (w)), .int (wk), .int (tr), .ref (b 4), .ref (b 5), .int (nd), .ref (b 6), .ref (b 7), .int (hd), .ref (b 8), .int (sd), .ref (b 9), .int (kt), .int (kw), .int (kh), .ref (b 10), .ref (b 11), .long (hz)])), ((b 4), .inl (cI, 32, .inl (fun ii => nI ((upN (wkP R s_ f) (8 * s_ + 1 + f) (pr (R (8 * s_)) (R (8 * s_ + 1 + f)))) ii))))] := hD
              refine lv_iload_n hx hb dX10_weekOf_86 rfl (lv_at hl 4 rfl) ?_
              refine lv_aload_n hx hb dX10_weekOf_87 rfl (lv_at hl 2 rfl) ?_
              refine va_get (D := (dC, dI)) (ci := 10) (v := .ref (b 4)) (C := RX10) (T := TX10) (N := 26) hx hb hts (fun _ h => List.mem_cons_of_mem _ (List.mem_append_right _ (h))) hown hK.1 hP 0 rfl rfl 11 (by decide) (hts (Cond.fieldLink RX10 19 "WorstVoiceModel" "rows" "[I") (List.mem_of_getElem? (i := 1) rfl)) (fun _ h9 => h9) rfl dX10_weekOf_88 ?_
              refine lv_bipush (v := nI (8)) hx hb dX10_weekOf_91 (by decide) ?_
              refine lv_iload_n hx hb dX10_weekOf_93 rfl (lv_at hl 3 rfl) ?_
              refine lv_imul hx hb dX10_weekOf_94 ?_
              refine tp_i (z := nI (8 * s_)) (pk_mul (8) (s_)) ?_
              refine lv_iconst (v := nI (1)) hx hb dX10_weekOf_95 (by decide) ?_
              refine lv_iadd hx hb dX10_weekOf_96 ?_
              refine tp_i (z := nI (8 * s_ + 1)) (nI_add (8 * s_) (1)) ?_
              refine lv_iload_n hx hb dX10_weekOf_97 rfl (lv_at hl 5 rfl) ?_
              refine lv_iadd hx hb dX10_weekOf_98 ?_
              refine tp_i (z := nI (8 * s_ + 1 + f)) (nI_add (8 * s_ + 1) (f)) ?_
              refine va_iald hx hb hK.1 hP 1 0 rfl rfl (vp_in_nI (by omega) (by decide)) dX10_weekOf_99 ?_
              refine tp_i (z := nI (pr (R (8 * s_)) (R (8 * s_ + 1 + f)))) ((ld_n (fun ii => nI ((upN (wkP R s_ f) (8 * s_ + 1 + f) (pr (R (8 * s_)) (R (8 * s_ + 1 + f)))) ii)) (by omega)).trans (congrArg nI upN_s)) ?_
              refine lv_iadd hx hb dX10_weekOf_100 ?_
              refine tp_i (z := nI (wsm R s_ f + pr (R (8 * s_)) (R (8 * s_ + 1 + f)))) (nI_add (wsm R s_ f) (pr (R (8 * s_)) (R (8 * s_ + 1 + f)))) ?_
              refine lv_istore_n (lv' := [(2, .int (nI (wsm R s_ f + pr (R (8 * s_)) (R (8 * s_ + 1 + f))))), (5, .int ((nI (R (8 * s_ + 1 + f))) - (nI (1)))), (4, .int (nI (R (8 * s_ + 1 + f)))), (0, .ref (b 0)), (1, .int (nI (s_))), (3, .int (nI (f)))]) hx hb dX10_weekOf_101 rfl hl (by decide) rfl (fun ls hl => ?_)
              refine lv_iinc (v := nI (f + 1)) (lv' := [(3, .int (nI (f + 1))), (2, .int (nI (wsm R s_ f + pr (R (8 * s_)) (R (8 * s_ + 1 + f))))), (5, .int ((nI (R (8 * s_ + 1 + f))) - (nI (1)))), (4, .int (nI (R (8 * s_ + 1 + f)))), (0, .ref (b 0)), (1, .int (nI (s_)))]) hx hb dX10_weekOf_102 hl (k := 5) rfl (nI_add (f) 1) (by decide) rfl (fun ls hl => ?_)
              refine lv_goto (tgt := 4) hx hb dX10_weekOf_105 (by decide) ?_
              rw [wkP_s] at hP hD
              exact (hG _ _ _).mp (ih4 (f + 1) (by omega) (by omega) _ _ hP hD hS _ (lv_sub hl [4, 5, 1, 0] rfl))
          · have c3 := mt r0_ge.mpr c3
            refine lv_iconst (v := nI (0)) hx hb dX10_weekOf_67 (by decide) ?_
            refine lv_goto (tgt := 85) hx hb dX10_weekOf_68 (by decide) ?_
            refine tp_i (z := nI (pr (R (8 * s_)) (R (8 * s_ + 1 + f)))) (by congr 1; unfold pr; (repeat' split) <;> omega) ?_
            refine va_iast hx hb hK.1 hP hD hS 1 0 rfl rfl (vp_in_nI (by omega) (by decide)) dX10_weekOf_85 (fun H locs hP hD hS => ?_)
            rw [nI_clamp (by omega), upd_nI] at hP hD
            have hP : va_P (dC, dI) vwCl [((b 0), .inr (10, [.ref (b 1), .int (pm), .ref (b 2), .int (r_s), .ref (b 3), .int (r_w), .int (st), .int (nI (n)), .int (nI (w)), .int (wk), .int (tr), .ref (b 4), .ref (b 5), .int (nd), .ref (b 6), .ref (b 7), .int (hd), .ref (b 8), .int (sd), .ref (b 9), .int (kt), .int (kw), .int (kh), .ref (b 10), .ref (b 11), .long (hz)])), ((b 4), .inl (cI, 32, .inl (fun ii => nI ((upN (wkP R s_ f) (8 * s_ + 1 + f) (pr (R (8 * s_)) (R (8 * s_ + 1 + f)))) ii))))] H := hP
            have hD : va_D A [((b 0), .inr (10, [.ref (b 1), .int (pm), .ref (b 2), .int (r_s), .ref (b 3), .int (r_w), .int (st), .int (nI (n)), .int (nI (w)), .int (wk), .int (tr), .ref (b 4), .ref (b 5), .int (nd), .ref (b 6), .ref (b 7), .int (hd), .ref (b 8), .int (sd), .ref (b 9), .int (kt), .int (kw), .int (kh), .ref (b 10), .ref (b 11), .long (hz)])), ((b 4), .inl (cI, 32, .inl (fun ii => nI ((upN (wkP R s_ f) (8 * s_ + 1 + f) (pr (R (8 * s_)) (R (8 * s_ + 1 + f)))) ii))))] := hD
            refine lv_iload_n hx hb dX10_weekOf_86 rfl (lv_at hl 4 rfl) ?_
            refine lv_aload_n hx hb dX10_weekOf_87 rfl (lv_at hl 2 rfl) ?_
            refine va_get (D := (dC, dI)) (ci := 10) (v := .ref (b 4)) (C := RX10) (T := TX10) (N := 26) hx hb hts (fun _ h => List.mem_cons_of_mem _ (List.mem_append_right _ (h))) hown hK.1 hP 0 rfl rfl 11 (by decide) (hts (Cond.fieldLink RX10 19 "WorstVoiceModel" "rows" "[I") (List.mem_of_getElem? (i := 1) rfl)) (fun _ h9 => h9) rfl dX10_weekOf_88 ?_
            refine lv_bipush (v := nI (8)) hx hb dX10_weekOf_91 (by decide) ?_
            refine lv_iload_n hx hb dX10_weekOf_93 rfl (lv_at hl 3 rfl) ?_
            refine lv_imul hx hb dX10_weekOf_94 ?_
            refine tp_i (z := nI (8 * s_)) (pk_mul (8) (s_)) ?_
            refine lv_iconst (v := nI (1)) hx hb dX10_weekOf_95 (by decide) ?_
            refine lv_iadd hx hb dX10_weekOf_96 ?_
            refine tp_i (z := nI (8 * s_ + 1)) (nI_add (8 * s_) (1)) ?_
            refine lv_iload_n hx hb dX10_weekOf_97 rfl (lv_at hl 5 rfl) ?_
            refine lv_iadd hx hb dX10_weekOf_98 ?_
            refine tp_i (z := nI (8 * s_ + 1 + f)) (nI_add (8 * s_ + 1) (f)) ?_
            refine va_iald hx hb hK.1 hP 1 0 rfl rfl (vp_in_nI (by omega) (by decide)) dX10_weekOf_99 ?_
            refine tp_i (z := nI (pr (R (8 * s_)) (R (8 * s_ + 1 + f)))) ((ld_n (fun ii => nI ((upN (wkP R s_ f) (8 * s_ + 1 + f) (pr (R (8 * s_)) (R (8 * s_ + 1 + f)))) ii)) (by omega)).trans (congrArg nI upN_s)) ?_
            refine lv_iadd hx hb dX10_weekOf_100 ?_
            refine tp_i (z := nI (wsm R s_ f + pr (R (8 * s_)) (R (8 * s_ + 1 + f)))) (nI_add (wsm R s_ f) (pr (R (8 * s_)) (R (8 * s_ + 1 + f)))) ?_
            refine lv_istore_n (lv' := [(2, .int (nI (wsm R s_ f + pr (R (8 * s_)) (R (8 * s_ + 1 + f))))), (5, .int ((nI (R (8 * s_ + 1 + f))) - (nI (1)))), (4, .int (nI (R (8 * s_ + 1 + f)))), (0, .ref (b 0)), (1, .int (nI (s_))), (3, .int (nI (f)))]) hx hb dX10_weekOf_101 rfl hl (by decide) rfl (fun ls hl => ?_)
            refine lv_iinc (v := nI (f + 1)) (lv' := [(3, .int (nI (f + 1))), (2, .int (nI (wsm R s_ f + pr (R (8 * s_)) (R (8 * s_ + 1 + f))))), (5, .int ((nI (R (8 * s_ + 1 + f))) - (nI (1)))), (4, .int (nI (R (8 * s_ + 1 + f)))), (0, .ref (b 0)), (1, .int (nI (s_)))]) hx hb dX10_weekOf_102 hl (k := 5) rfl (nI_add (f) 1) (by decide) rfl (fun ls hl => ?_)
            refine lv_goto (tgt := 4) hx hb dX10_weekOf_105 (by decide) ?_
            rw [wkP_s] at hP hD
            exact (hG _ _ _).mp (ih4 (f + 1) (by omega) (by omega) _ _ hP hD hS _ (lv_sub hl [4, 5, 1, 0] rfl))
        · have c2 := (nI_eq (by omega) (by decide)).mp c2
          refine lv_iload hx hb dX10_weekOf_37 (lv_at hl 0 rfl) ?_
          refine lv_iconst (v := nI (1)) hx hb dX10_weekOf_39 (by decide) ?_
          refine lv_iadd hx hb dX10_weekOf_40 ?_
          refine tp_i (z := nI (R (8 * s_ + 1 + f) + 1)) (nI_add (R (8 * s_ + 1 + f)) (1)) ?_
          refine lv_goto (tgt := 48) hx hb dX10_weekOf_41 (by decide) ?_
          refine lv_istore (lv' := [(5, .int (nI (R (8 * s_ + 1 + f) + 1))), (4, .int (nI (R (8 * s_ + 1 + f)))), (0, .ref (b 0)), (1, .int (nI (s_))), (2, .int (nI (wsm R s_ f))), (3, .int (nI (f)))]) hx hb dX10_weekOf_48 hl (by decide) rfl (fun ls hl => ?_)
          refine lv_aload_n hx hb dX10_weekOf_50 rfl (lv_at hl 2 rfl) ?_
          refine va_get (D := (dC, dI)) (ci := 10) (v := .ref (b 4)) (C := RX10) (T := TX10) (N := 26) hx hb hts (fun _ h => List.mem_cons_of_mem _ (List.mem_append_right _ (h))) hown hK.1 hP 0 rfl rfl 11 (by decide) (hts (Cond.fieldLink RX10 19 "WorstVoiceModel" "rows" "[I") (List.mem_of_getElem? (i := 1) rfl)) (fun _ h9 => h9) rfl dX10_weekOf_51 ?_
          refine lv_bipush (v := nI (8)) hx hb dX10_weekOf_54 (by decide) ?_
          refine lv_iload_n hx hb dX10_weekOf_56 rfl (lv_at hl 3 rfl) ?_
          refine lv_imul hx hb dX10_weekOf_57 ?_
          refine tp_i (z := nI (8 * s_)) (pk_mul (8) (s_)) ?_
          refine lv_iconst (v := nI (1)) hx hb dX10_weekOf_58 (by decide) ?_
          refine lv_iadd hx hb dX10_weekOf_59 ?_
          refine tp_i (z := nI (8 * s_ + 1)) (nI_add (8 * s_) (1)) ?_
          refine lv_iload_n hx hb dX10_weekOf_60 rfl (lv_at hl 5 rfl) ?_
          refine lv_iadd hx hb dX10_weekOf_61 ?_
          refine tp_i (z := nI (8 * s_ + 1 + f)) (nI_add (8 * s_ + 1) (f)) ?_
          refine lv_iload hx hb dX10_weekOf_62 (lv_at hl 0 rfl) ?_
          refine lv_if_ge (tgt := 71) hx hb dX10_weekOf_64 (by decide) (fun c5 => ?_) (fun c5 => absurd (z_ge (by omega)) c5)
          refine lv_iload hx hb dX10_weekOf_71 (lv_at hl 0 rfl) ?_
          refine lv_bipush (v := nI (9)) hx hb dX10_weekOf_73 (by decide) ?_
          refine lv_icmp_le (tgt := 83) hx hb dX10_weekOf_75 (by decide) (fun c6 => ?_) (fun c6 => ?_)
          · have c6 := (nI_leI (by omega) (by decide)).mp c6
            refine lv_iload hx hb dX10_weekOf_83 (lv_at hl 0 rfl) ?_
            refine tp_i (z := nI (pr (R (8 * s_)) (R (8 * s_ + 1 + f)))) (by congr 1; unfold pr; (repeat' split) <;> omega) ?_
            refine va_iast hx hb hK.1 hP hD hS 1 0 rfl rfl (vp_in_nI (by omega) (by decide)) dX10_weekOf_85 (fun H locs hP hD hS => ?_)
            rw [nI_clamp (by omega), upd_nI] at hP hD
            have hP : va_P (dC, dI) vwCl [((b 0), .inr (10, [.ref (b 1), .int (pm), .ref (b 2), .int (r_s), .ref (b 3), .int (r_w), .int (st), .int (nI (n)), .int (nI (w)), .int (wk), .int (tr), .ref (b 4), .ref (b 5), .int (nd), .ref (b 6), .ref (b 7), .int (hd), .ref (b 8), .int (sd), .ref (b 9), .int (kt), .int (kw), .int (kh), .ref (b 10), .ref (b 11), .long (hz)])), ((b 4), .inl (cI, 32, .inl (fun ii => nI ((upN (wkP R s_ f) (8 * s_ + 1 + f) (pr (R (8 * s_)) (R (8 * s_ + 1 + f)))) ii))))] H := hP
            have hD : va_D A [((b 0), .inr (10, [.ref (b 1), .int (pm), .ref (b 2), .int (r_s), .ref (b 3), .int (r_w), .int (st), .int (nI (n)), .int (nI (w)), .int (wk), .int (tr), .ref (b 4), .ref (b 5), .int (nd), .ref (b 6), .ref (b 7), .int (hd), .ref (b 8), .int (sd), .ref (b 9), .int (kt), .int (kw), .int (kh), .ref (b 10), .ref (b 11), .long (hz)])), ((b 4), .inl (cI, 32, .inl (fun ii => nI ((upN (wkP R s_ f) (8 * s_ + 1 + f) (pr (R (8 * s_)) (R (8 * s_ + 1 + f)))) ii))))] := hD
            refine lv_iload_n hx hb dX10_weekOf_86 rfl (lv_at hl 4 rfl) ?_
            refine lv_aload_n hx hb dX10_weekOf_87 rfl (lv_at hl 2 rfl) ?_
            refine va_get (D := (dC, dI)) (ci := 10) (v := .ref (b 4)) (C := RX10) (T := TX10) (N := 26) hx hb hts (fun _ h => List.mem_cons_of_mem _ (List.mem_append_right _ (h))) hown hK.1 hP 0 rfl rfl 11 (by decide) (hts (Cond.fieldLink RX10 19 "WorstVoiceModel" "rows" "[I") (List.mem_of_getElem? (i := 1) rfl)) (fun _ h9 => h9) rfl dX10_weekOf_88 ?_
            refine lv_bipush (v := nI (8)) hx hb dX10_weekOf_91 (by decide) ?_
            refine lv_iload_n hx hb dX10_weekOf_93 rfl (lv_at hl 3 rfl) ?_
            refine lv_imul hx hb dX10_weekOf_94 ?_
            refine tp_i (z := nI (8 * s_)) (pk_mul (8) (s_)) ?_
            refine lv_iconst (v := nI (1)) hx hb dX10_weekOf_95 (by decide) ?_
            refine lv_iadd hx hb dX10_weekOf_96 ?_
            refine tp_i (z := nI (8 * s_ + 1)) (nI_add (8 * s_) (1)) ?_
            refine lv_iload_n hx hb dX10_weekOf_97 rfl (lv_at hl 5 rfl) ?_
            refine lv_iadd hx hb dX10_weekOf_98 ?_
            refine tp_i (z := nI (8 * s_ + 1 + f)) (nI_add (8 * s_ + 1) (f)) ?_
            refine va_iald hx hb hK.1 hP 1 0 rfl rfl (vp_in_nI (by omega) (by decide)) dX10_weekOf_99 ?_
            refine tp_i (z := nI (pr (R (8 * s_)) (R (8 * s_ + 1 + f)))) ((ld_n (fun ii => nI ((upN (wkP R s_ f) (8 * s_ + 1 + f) (pr (R (8 * s_)) (R (8 * s_ + 1 + f)))) ii)) (by omega)).trans (congrArg nI upN_s)) ?_
            refine lv_iadd hx hb dX10_weekOf_100 ?_
            refine tp_i (z := nI (wsm R s_ f + pr (R (8 * s_)) (R (8 * s_ + 1 + f)))) (nI_add (wsm R s_ f) (pr (R (8 * s_)) (R (8 * s_ + 1 + f)))) ?_
            refine lv_istore_n (lv' := [(2, .int (nI (wsm R s_ f + pr (R (8 * s_)) (R (8 * s_ + 1 + f))))), (5, .int (nI (R (8 * s_ + 1 + f) + 1))), (4, .int (nI (R (8 * s_ + 1 + f)))), (0, .ref (b 0)), (1, .int (nI (s_))), (3, .int (nI (f)))]) hx hb dX10_weekOf_101 rfl hl (by decide) rfl (fun ls hl => ?_)
            refine lv_iinc (v := nI (f + 1)) (lv' := [(3, .int (nI (f + 1))), (2, .int (nI (wsm R s_ f + pr (R (8 * s_)) (R (8 * s_ + 1 + f))))), (5, .int (nI (R (8 * s_ + 1 + f) + 1))), (4, .int (nI (R (8 * s_ + 1 + f)))), (0, .ref (b 0)), (1, .int (nI (s_)))]) hx hb dX10_weekOf_102 hl (k := 5) rfl (nI_add (f) 1) (by decide) rfl (fun ls hl => ?_)
            refine lv_goto (tgt := 4) hx hb dX10_weekOf_105 (by decide) ?_
            rw [wkP_s] at hP hD
            exact (hG _ _ _).mp (ih4 (f + 1) (by omega) (by omega) _ _ hP hD hS _ (lv_sub hl [4, 5, 1, 0] rfl))
          · have c6 := mt (nI_leI (by omega) (by decide)).mpr c6
            refine lv_bipush (v := nI (9)) hx hb dX10_weekOf_78 (by decide) ?_
            refine lv_goto (tgt := 85) hx hb dX10_weekOf_80 (by decide) ?_
            refine tp_i (z := nI (pr (R (8 * s_)) (R (8 * s_ + 1 + f)))) (by congr 1; unfold pr; (repeat' split) <;> omega) ?_
            refine va_iast hx hb hK.1 hP hD hS 1 0 rfl rfl (vp_in_nI (by omega) (by decide)) dX10_weekOf_85 (fun H locs hP hD hS => ?_)
            rw [nI_clamp (by omega), upd_nI] at hP hD
            have hP : va_P (dC, dI) vwCl [((b 0), .inr (10, [.ref (b 1), .int (pm), .ref (b 2), .int (r_s), .ref (b 3), .int (r_w), .int (st), .int (nI (n)), .int (nI (w)), .int (wk), .int (tr), .ref (b 4), .ref (b 5), .int (nd), .ref (b 6), .ref (b 7), .int (hd), .ref (b 8), .int (sd), .ref (b 9), .int (kt), .int (kw), .int (kh), .ref (b 10), .ref (b 11), .long (hz)])), ((b 4), .inl (cI, 32, .inl (fun ii => nI ((upN (wkP R s_ f) (8 * s_ + 1 + f) (pr (R (8 * s_)) (R (8 * s_ + 1 + f)))) ii))))] H := hP
            have hD : va_D A [((b 0), .inr (10, [.ref (b 1), .int (pm), .ref (b 2), .int (r_s), .ref (b 3), .int (r_w), .int (st), .int (nI (n)), .int (nI (w)), .int (wk), .int (tr), .ref (b 4), .ref (b 5), .int (nd), .ref (b 6), .ref (b 7), .int (hd), .ref (b 8), .int (sd), .ref (b 9), .int (kt), .int (kw), .int (kh), .ref (b 10), .ref (b 11), .long (hz)])), ((b 4), .inl (cI, 32, .inl (fun ii => nI ((upN (wkP R s_ f) (8 * s_ + 1 + f) (pr (R (8 * s_)) (R (8 * s_ + 1 + f)))) ii))))] := hD
            refine lv_iload_n hx hb dX10_weekOf_86 rfl (lv_at hl 4 rfl) ?_
            refine lv_aload_n hx hb dX10_weekOf_87 rfl (lv_at hl 2 rfl) ?_
            refine va_get (D := (dC, dI)) (ci := 10) (v := .ref (b 4)) (C := RX10) (T := TX10) (N := 26) hx hb hts (fun _ h => List.mem_cons_of_mem _ (List.mem_append_right _ (h))) hown hK.1 hP 0 rfl rfl 11 (by decide) (hts (Cond.fieldLink RX10 19 "WorstVoiceModel" "rows" "[I") (List.mem_of_getElem? (i := 1) rfl)) (fun _ h9 => h9) rfl dX10_weekOf_88 ?_
            refine lv_bipush (v := nI (8)) hx hb dX10_weekOf_91 (by decide) ?_
            refine lv_iload_n hx hb dX10_weekOf_93 rfl (lv_at hl 3 rfl) ?_
            refine lv_imul hx hb dX10_weekOf_94 ?_
            refine tp_i (z := nI (8 * s_)) (pk_mul (8) (s_)) ?_
            refine lv_iconst (v := nI (1)) hx hb dX10_weekOf_95 (by decide) ?_
            refine lv_iadd hx hb dX10_weekOf_96 ?_
            refine tp_i (z := nI (8 * s_ + 1)) (nI_add (8 * s_) (1)) ?_
            refine lv_iload_n hx hb dX10_weekOf_97 rfl (lv_at hl 5 rfl) ?_
            refine lv_iadd hx hb dX10_weekOf_98 ?_
            refine tp_i (z := nI (8 * s_ + 1 + f)) (nI_add (8 * s_ + 1) (f)) ?_
            refine va_iald hx hb hK.1 hP 1 0 rfl rfl (vp_in_nI (by omega) (by decide)) dX10_weekOf_99 ?_
            refine tp_i (z := nI (pr (R (8 * s_)) (R (8 * s_ + 1 + f)))) ((ld_n (fun ii => nI ((upN (wkP R s_ f) (8 * s_ + 1 + f) (pr (R (8 * s_)) (R (8 * s_ + 1 + f)))) ii)) (by omega)).trans (congrArg nI upN_s)) ?_
            refine lv_iadd hx hb dX10_weekOf_100 ?_
            refine tp_i (z := nI (wsm R s_ f + pr (R (8 * s_)) (R (8 * s_ + 1 + f)))) (nI_add (wsm R s_ f) (pr (R (8 * s_)) (R (8 * s_ + 1 + f)))) ?_
            refine lv_istore_n (lv' := [(2, .int (nI (wsm R s_ f + pr (R (8 * s_)) (R (8 * s_ + 1 + f))))), (5, .int (nI (R (8 * s_ + 1 + f) + 1))), (4, .int (nI (R (8 * s_ + 1 + f)))), (0, .ref (b 0)), (1, .int (nI (s_))), (3, .int (nI (f)))]) hx hb dX10_weekOf_101 rfl hl (by decide) rfl (fun ls hl => ?_)
            refine lv_iinc (v := nI (f + 1)) (lv' := [(3, .int (nI (f + 1))), (2, .int (nI (wsm R s_ f + pr (R (8 * s_)) (R (8 * s_ + 1 + f))))), (5, .int (nI (R (8 * s_ + 1 + f) + 1))), (4, .int (nI (R (8 * s_ + 1 + f)))), (0, .ref (b 0)), (1, .int (nI (s_)))]) hx hb dX10_weekOf_102 hl (k := 5) rfl (nI_add (f) 1) (by decide) rfl (fun ls hl => ?_)
            refine lv_goto (tgt := 4) hx hb dX10_weekOf_105 (by decide) ?_
            rw [wkP_s] at hP hD
            exact (hG _ _ _).mp (ih4 (f + 1) (by omega) (by omega) _ _ hP hD hS _ (lv_sub hl [4, 5, 1, 0] rfl))
  refine (hG _ _ _).mpr ?_
  refine lv_iconst (v := nI (0)) hx hb dX10_weekOf_0 (by decide) ?_
  refine lv_istore_n (lv' := [(2, .int (nI (0))), (0, .ref (b 0)), (1, .int (nI (s_)))]) hx hb dX10_weekOf_1 rfl hl (by decide) rfl (fun ls hl => ?_)
  refine lv_iconst (v := nI (0)) hx hb dX10_weekOf_2 (by decide) ?_
  refine lv_istore_n (lv' := [(3, .int (nI (0))), (2, .int (nI (0))), (0, .ref (b 0)), (1, .int (nI (s_)))]) hx hb dX10_weekOf_3 rfl hl (by decide) rfl (fun ls hl => ?_)
  have e0 := (wkP_0 R s_).symm
  have hP : va_P (dC, dI) vwCl [((b 0), .inr (10, [.ref (b 1), .int (pm), .ref (b 2), .int (r_s), .ref (b 3), .int (r_w), .int (st), .int (nI (n)), .int (nI (w)), .int (wk), .int (tr), .ref (b 4), .ref (b 5), .int (nd), .ref (b 6), .ref (b 7), .int (hd), .ref (b 8), .int (sd), .ref (b 9), .int (kt), .int (kw), .int (kh), .ref (b 10), .ref (b 11), .long (hz)])), ((b 4), .inl (cI, 32, .inl (fun ii => nI ((wkP R s_ 0) ii))))] s.heap := by rw [wkP_0]; exact hP
  have hD : va_D A [((b 0), .inr (10, [.ref (b 1), .int (pm), .ref (b 2), .int (r_s), .ref (b 3), .int (r_w), .int (st), .int (nI (n)), .int (nI (w)), .int (wk), .int (tr), .ref (b 4), .ref (b 5), .int (nd), .ref (b 6), .ref (b 7), .int (hd), .ref (b 8), .int (sd), .ref (b 9), .int (kt), .int (kw), .int (kh), .ref (b 10), .ref (b 11), .long (hz)])), ((b 4), .inl (cI, 32, .inl (fun ii => nI ((wkP R s_ 0) ii))))] := by rw [wkP_0]; exact hD
  exact (hG _ _ _).mp (L4 (4 + 1) (0) (by omega) (by omega) _ _ hP hD hS _ (lv_sub hl [2, 3, 1, 0] rfl))

set_option maxHeartbeats 4000000 in
set_option maxRecDepth 100000 in
theorem c_M_practiseN (l : Launch) (dC : Nat → ClassId) (dI : Nat → Nat → Nat) (cI : ClassId) (b : Nat → Nat) (pm r_s r_w st : Int32) (n w : Nat) (wk tr nd hd sd kt kw kh : Int32) (hz : Int64) (R : Nat → Nat) (hR : WR R) (hn : n ≤ 4) (hw : w ≤ 5) (x : Int32) (hxn : ¬ inR x n) : Met l yX10_practise wsX10_practise ({ frames := 2, cells := 0, slots := 0, locals := 46 } : Room) (roP dC dI cI ([moW b pm r_s r_w st n w wk tr nd hd sd kt kw kh hz] ++ [(b 4, .inl (cI, 32, .inl (fun i => nI (R i))))]) [.ref (b 0), .int (x)]) (roI (fun r => r = -101)) 0 0 (fun _ => False) := by
  refine Met.ofW (cc := cX10_practise) (maxL := 2) (ret := (some .int)) (by decide) rfl ?_
  intro p e s m args below meth c s₁ B hml hv
  obtain ⟨rfl, hP, hK⟩ := hv
  have hx := B.exec
  have hb := B.bytes
  have hr := B.returns
  have hts := atoms_spec (ws := wsX10_practise) B.pre
  have hown : s.vm.findClass RX10 = some m.cls := findClass_of_methodNamed B.named
  have hlocks := B.notSynchronized
  have hS : va_S (fun _ => False) s.heap s.heap [] := va_S.rf
  have hl := lv_entry ([.ref (b 0), .int (x)]) (n := 2) (Nat.le_of_ble_eq_true rfl)
  rw [lg_entry_eq]
  generalize (lg_sl ([.ref (b 0), .int (x)]) ++ List.replicate (2 - (lg_sl ([.ref (b 0), .int (x)])).length) Slot.unset).toArray = ls at hl ⊢
  have hl : lv_has ls 2 [(0, .ref (b 0)), (1, .int (x))] := hl
  refine lv_aload_n hx hb dX10_practise_0 rfl (lv_at hl 0 rfl) ?_
  refine lv_iload_n hx hb dX10_practise_1 rfl (lv_at hl 1 rfl) ?_
  refine ro_calli (va_runV (As := [.int (x)]) (rest := []) ⟨hx, hb, hml, hown, hts⟩ (c_X10_isSinger l dC dI cI b pm r_s r_w st n w wk tr nd hd sd kt kw kh hz (by omega) (by omega) (x)) (cwV 1 hts gX10_practise_X10_isSinger rfl rfl rfl (by decide +kernel) ⟨Nat.le_of_ble_eq_true rfl, Nat.le_of_ble_eq_true rfl⟩) (ro_pv hK hP [0] rfl (ci := 10) (q0 := 0) (C := RX10) (T := TX10) (N := 26) rfl rfl) rfl rfl hl.1 rfl (lv_room (Nat.le_of_ble_eq_true rfl)) dX10_practise_2 ⟨Nat.zero_le _, Nat.zero_le _⟩) hS hP (fun r1 H locs hr1 hP hS => ?_)
  subst hr1
  refine lv_if_ne (tgt := 11) hx hb dX10_practise_5 (by decide) (fun c2 => absurd (Decidable.not_not.mp (mt bI_0.mpr c2)) hxn) (fun c2 => ?_)
  refine lv_bipush (v := -101) hx hb dX10_practise_8 (by decide) ?_
  exact W.iret hx hb hr (fun t ht hW => ⟨⟨_, (), rfl, rfl, trivial⟩, hS.F ht⟩) hS.2.2 dX10_practise_10

set_option maxHeartbeats 4000000 in
set_option maxRecDepth 100000 in
theorem c_M_practise (l : Launch) (dC : Nat → ClassId) (dI : Nat → Nat → Nat) (cI : ClassId) (sz : Nat) (b : Nat → Nat) (pm r_s r_w st : Int32) (n w : Nat) (wk tr nd hd sd kt kw kh : Int32) (hz : Int64) (R : Nat → Nat) (hR : WR R) (hn : n ≤ 4) (hw : w ≤ 5) (s_ : Nat) (hs : s_ < n) : Met l yX10_practise wsX10_practise ({ frames := 2, cells := 0, slots := 0, locals := 46 } : Room) (muP dC dI cI ([moW b pm r_s r_w st n w wk tr nd hd sd kt kw kh hz] ++ [(b 4, .inl (cI, 32, .inl (fun i => nI (R i))))]) sz [.ref (b 0), .int (nI (s_))]) (muI dC dI ([moW b pm r_s r_w st n w wk tr nd hd sd kt kw kh hz] ++ [(b 4, .inl (cI, 32, .inl (fun i => nI (R i))))]) sz (fun (_ : Unit) => [moW b pm r_s r_w st n w (wk + nI 1) tr nd hd sd kt kw kh hz] ++ [(b 4, .inl (cI, 32, .inl (fun i => nI ((wkP R s_ 4) i))))]) (fun r _ => r = nI (wsm R s_ 4))) 0 0 (va_A ([moW b pm r_s r_w st n w wk tr nd hd sd kt kw kh hz] ++ [(b 4, .inl (cI, 32, .inl (fun i => nI (R i))))]) sz) := by
  refine Met.ofW (cc := cX10_practise) (maxL := 2) (ret := (some .int)) (by decide) rfl ?_
  intro p e s m args below meth c s₁ B hml hv
  obtain ⟨rfl, hsz, hP, hK, hD0⟩ := hv
  have hx := B.exec
  have hb := B.bytes
  have hr := B.returns
  have hts := atoms_spec (ws := wsX10_practise) B.pre
  have hown : s.vm.findClass RX10 = some m.cls := findClass_of_methodNamed B.named
  have hlocks := B.notSynchronized
  subst hsz
  unfold muI muB
  have hD := hD0.self (sz := s.heap.size)
  generalize hAe : va_A ([moW b pm r_s r_w st n w wk tr nd hd sd kt kw kh hz] ++ [(b 4, .inl (cI, 32, .inl (fun i => nI (R i))))]) s.heap.size = A at hD ⊢
  have hA : ∀ q : Nat, s.heap.size ≤ q → A q := fun q h => by rw [← hAe]; exact Or.inr h
  have hS : va_S A s.heap s.heap [] := va_S.rf
  have hl := lv_entry ([.ref (b 0), .int (nI (s_))]) (n := 2) (Nat.le_of_ble_eq_true rfl)
  rw [lg_entry_eq]
  generalize (lg_sl ([.ref (b 0), .int (nI (s_))]) ++ List.replicate (2 - (lg_sl ([.ref (b 0), .int (nI (s_))])).length) Slot.unset).toArray = ls at hl ⊢
  have hl : lv_has ls 2 [(0, .ref (b 0)), (1, .int (nI (s_)))] := hl
  refine lv_aload_n hx hb dX10_practise_0 rfl (lv_at hl 0 rfl) ?_
  refine lv_iload_n hx hb dX10_practise_1 rfl (lv_at hl 1 rfl) ?_
  refine ro_calli (va_runV (As := [.int (nI (s_))]) (rest := []) ⟨hx, hb, hml, hown, hts⟩ (c_X10_isSinger l dC dI cI b pm r_s r_w st n w wk tr nd hd sd kt kw kh hz (by omega) (by omega) (nI (s_))) (cwV 1 hts gX10_practise_X10_isSinger rfl rfl rfl (by decide +kernel) ⟨Nat.le_of_ble_eq_true rfl, Nat.le_of_ble_eq_true rfl⟩) (ro_pv hK hP [0] rfl (ci := 10) (q0 := 0) (C := RX10) (T := TX10) (N := 26) rfl rfl) rfl rfl hl.1 rfl (lv_room (Nat.le_of_ble_eq_true rfl)) dX10_practise_2 ⟨Nat.zero_le _, Nat.zero_le _⟩) hS hP (fun r1 H locs hr1 hP hS => ?_)
  subst hr1
  refine tp_i (z := nI 1) (bI_t (inR_n (by omega) (by omega))) ?_
  refine lv_if_ne (tgt := 11) hx hb dX10_practise_5 (by decide) (fun _ => ?_) (fun c => absurd c (by decide))
  refine lv_aload_n hx hb dX10_practise_11 rfl (lv_at hl 0 rfl) ?_
  refine lv_dup hx hb dX10_practise_12 rfl ?_
  refine va_get (D := (dC, dI)) (ci := 10) (v := .int (wk)) (C := RX10) (T := TX10) (N := 26) hx hb hts (fun _ h => List.mem_cons_of_mem _ (List.mem_append_right _ (h))) hown hK.1 hP 0 rfl rfl 9 (by decide) (hts (Cond.fieldLink RX10 91 "WorstVoiceModel" "weeks" "I") (List.mem_of_getElem? (i := 1) rfl)) (fun _ h9 => h9) rfl dX10_practise_13 ?_
  refine lv_iconst (v := nI (1)) hx hb dX10_practise_16 (by decide) ?_
  refine lv_iadd hx hb dX10_practise_17 ?_
  refine va_put (D := (dC, dI)) (ci := 10) (v := .int (wk + (nI (1)))) (ty := .int) (C := RX10) (T := TX10) (N := 26) hx hb hts (fun _ h => List.mem_cons_of_mem _ (List.mem_append_right _ (h))) tyX10 tyX10_ok nmX10 hown hK.1 hP hD hS 0 rfl rfl 9 (by decide) (hts (Cond.fieldLink RX10 91 "WorstVoiceModel" "weeks" "I") (List.mem_of_getElem? (i := 1) rfl)) (fun _ h9 => h9) rfl (by decide +kernel) rfl rfl (Nat.le_of_ble_eq_true rfl) dX10_practise_18 (fun H locs hP hD hS => ?_)
  have hP : va_P (dC, dI) vwCl [((b 0), .inr (10, [.ref (b 1), .int (pm), .ref (b 2), .int (r_s), .ref (b 3), .int (r_w), .int (st), .int (nI (n)), .int (nI (w)), .int (wk + (nI (1))), .int (tr), .ref (b 4), .ref (b 5), .int (nd), .ref (b 6), .ref (b 7), .int (hd), .ref (b 8), .int (sd), .ref (b 9), .int (kt), .int (kw), .int (kh), .ref (b 10), .ref (b 11), .long (hz)])), ((b 4), .inl (cI, 32, .inl (fun ii => nI (R ii))))] H := hP
  have hD : va_D A [((b 0), .inr (10, [.ref (b 1), .int (pm), .ref (b 2), .int (r_s), .ref (b 3), .int (r_w), .int (st), .int (nI (n)), .int (nI (w)), .int (wk + (nI (1))), .int (tr), .ref (b 4), .ref (b 5), .int (nd), .ref (b 6), .ref (b 7), .int (hd), .ref (b 8), .int (sd), .ref (b 9), .int (kt), .int (kw), .int (kh), .ref (b 10), .ref (b 11), .long (hz)])), ((b 4), .inl (cI, 32, .inl (fun ii => nI (R ii))))] := hD
  refine lv_aload_n hx hb dX10_practise_21 rfl (lv_at hl 0 rfl) ?_
  refine lv_iload_n hx hb dX10_practise_22 rfl (lv_at hl 1 rfl) ?_
  refine mu_calli (wr := []) (wn := (fun _ => [((b 0), .inr (10, [.ref (b 1), .int (pm), .ref (b 2), .int (r_s), .ref (b 3), .int (r_w), .int (st), .int (nI (n)), .int (nI (w)), .int (wk + (nI (1))), .int (tr), .ref (b 4), .ref (b 5), .int (nd), .ref (b 6), .ref (b 7), .int (hd), .ref (b 8), .int (sd), .ref (b 9), .int (kt), .int (kw), .int (kh), .ref (b 10), .ref (b 11), .long (hz)])), ((b 4), .inl (cI, 32, .inl (fun ii => nI ((wkP R s_ 4) ii))))])) (va_runV (As := [.int (nI (s_))]) (rest := []) ⟨hx, hb, hml, hown, hts⟩ (c_M_weekOf l dC dI cI _ b pm r_s r_w st n w (wk + (nI (1))) tr nd hd sd kt kw kh hz R hR hn hw (s_) (by omega)) (cwV 1 hts gX10_practise_X10_weekOf rfl rfl rfl (by decide +kernel) ⟨Nat.le_of_ble_eq_true rfl, Nat.le_of_ble_eq_true rfl⟩) (mu_pv hK hP hD [0, 1] (by decide) rfl rfl (ci := 10) (q0 := 0) (C := RX10) (T := TX10) (N := 26) rfl rfl) rfl rfl hl.1 rfl (lv_room (Nat.le_of_ble_eq_true rfl)) dX10_practise_23 ⟨Nat.zero_le _, Nat.zero_le _⟩) hS hA hP hD [0, 1] [] [0, 1] rfl rfl (by decide) (by decide) (by decide) (fun _ => rfl) (fun _ => rfl) (fun r3 u2 H locs hr3 hP hD hS => ?_)
  subst hr3
  have hP : va_P (dC, dI) vwCl [((b 0), .inr (10, [.ref (b 1), .int (pm), .ref (b 2), .int (r_s), .ref (b 3), .int (r_w), .int (st), .int (nI (n)), .int (nI (w)), .int (wk + (nI (1))), .int (tr), .ref (b 4), .ref (b 5), .int (nd), .ref (b 6), .ref (b 7), .int (hd), .ref (b 8), .int (sd), .ref (b 9), .int (kt), .int (kw), .int (kh), .ref (b 10), .ref (b 11), .long (hz)])), ((b 4), .inl (cI, 32, .inl (fun ii => nI ((wkP R s_ 4) ii))))] H := hP
  have hD : va_D A [((b 0), .inr (10, [.ref (b 1), .int (pm), .ref (b 2), .int (r_s), .ref (b 3), .int (r_w), .int (st), .int (nI (n)), .int (nI (w)), .int (wk + (nI (1))), .int (tr), .ref (b 4), .ref (b 5), .int (nd), .ref (b 6), .ref (b 7), .int (hd), .ref (b 8), .int (sd), .ref (b 9), .int (kt), .int (kw), .int (kh), .ref (b 10), .ref (b 11), .long (hz)])), ((b 4), .inl (cI, 32, .inl (fun ii => nI ((wkP R s_ 4) ii))))] := hD
  exact W.iret hx hb hr (fun t ht hW => ⟨⟨_, (), rfl, rfl, by rw [ht]; exact hP, hD.as rfl⟩, hS.F ht⟩) hS.2.2 dX10_practise_26

set_option maxHeartbeats 4000000 in
set_option maxRecDepth 100000 in
theorem c_M_mayor (l : Launch) (dC : Nat → ClassId) (dI : Nat → Nat → Nat) (cI : ClassId) (b : Nat → Nat) (pm r_s r_w st : Int32) (n w : Nat) (wk tr nd hd sd kt kw kh : Int32) (hz : Int64) (R mi : Nat → Nat) (mm : Nat → Int32) (hm : ∀ k, k < w → mm k = nI (mi k)) (hm4 : ∀ k, k < w → mi k < 4) (hR : WR R) (hn : n ≤ 4) (hw : w ≤ 5) : Met l yX10_mayor wsX10_mayor ({ frames := 4, cells := 0, slots := 0, locals := 92 } : Room) (roP dC dI cI ([moW b pm r_s r_w st n w wk tr nd hd sd kt kw kh hz] ++ [(b 4, .inl (cI, 32, .inl (fun i => nI (R i))))] ++ [(b 5, .inl (cI, 5, .inl mm))]) [.ref (b 0)]) (roI (fun r => r = vM R mi n w)) 0 0 (fun _ => False) := by
  refine Met.ofW (cc := cX10_mayor) (maxL := 1) (ret := (some .int)) (by decide) rfl ?_
  intro p e s m args below meth c s₁ B hml hv
  obtain ⟨rfl, hP, hK⟩ := hv
  have hx := B.exec
  have hb := B.bytes
  have hr := B.returns
  have hts := atoms_spec (ws := wsX10_mayor) B.pre
  have hown : s.vm.findClass RX10 = some m.cls := findClass_of_methodNamed B.named
  have hlocks := B.notSynchronized
  have hS : va_S (fun _ => False) s.heap s.heap [] := va_S.rf
  have hl := lv_entry ([.ref (b 0)]) (n := 1) (Nat.le_of_ble_eq_true rfl)
  rw [lg_entry_eq]
  generalize (lg_sl ([.ref (b 0)]) ++ List.replicate (1 - (lg_sl ([.ref (b 0)])).length) Slot.unset).toArray = ls at hl ⊢
  have hl : lv_has ls 1 [(0, .ref (b 0))] := hl
  refine lv_aload_n hx hb dX10_mayor_0 rfl (lv_at hl 0 rfl) ?_
  refine va_get (D := (dC, dI)) (ci := 10) (v := .int (nI (n))) (C := RX10) (T := TX10) (N := 26) hx hb hts (fun _ h => List.mem_cons_of_mem _ (List.mem_append_right _ (h))) hown hK.1 hP 0 rfl rfl 7 (by decide) (hts (Cond.fieldLink RX10 81 "WorstVoiceModel" "singers" "I") (List.mem_of_getElem? (i := 1) rfl)) (fun _ h9 => h9) rfl dX10_mayor_1 ?_
  refine lv_if_ne (tgt := 12) hx hb dX10_mayor_4 (by decide) (fun c1 => ?_) (fun c1 => ?_)
  · have c1 := mt (z_eq (by omega)).mpr c1
    refine lv_aload_n hx hb dX10_mayor_12 rfl (lv_at hl 0 rfl) ?_
    refine ro_calli (va_runV (As := []) (rest := []) ⟨hx, hb, hml, hown, hts⟩ (c_X10_mayorOf l dC dI cI b pm r_s r_w st n w wk tr nd hd sd kt kw kh hz R mi mm hm hm4 hR hn (by omega) hw) (cwV 0 hts gX10_mayor_X10_mayorOf rfl rfl rfl (by decide +kernel) ⟨Nat.le_of_ble_eq_true rfl, Nat.le_of_ble_eq_true rfl⟩) (ro_pv hK hP [0, 1, 2] rfl (ci := 10) (q0 := 0) (C := RX10) (T := TX10) (N := 26) rfl rfl) rfl rfl hl.1 rfl (lv_room (Nat.le_of_ble_eq_true rfl)) dX10_mayor_13 ⟨Nat.zero_le _, Nat.zero_le _⟩) hS hP (fun r2 H locs hr2 hP hS => ?_)
    subst hr2
    exact W.iret hx hb hr (fun t ht hW => ⟨⟨_, (), rfl, (if_neg (by assumption)).symm, trivial⟩, hS.F ht⟩) hS.2.2 dX10_mayor_16
  · have c1 := (z_eq (by omega)).mp c1
    refine lv_bipush (v := -103) hx hb dX10_mayor_7 (by decide) ?_
    refine lv_goto (tgt := 16) hx hb dX10_mayor_9 (by decide) ?_
    exact W.iret hx hb hr (fun t ht hW => ⟨⟨_, (), rfl, (if_pos (by assumption)).symm, trivial⟩, hS.F ht⟩) hS.2.2 dX10_mayor_16
