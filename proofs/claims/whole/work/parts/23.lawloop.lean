/-! the law's loop -/
set_option maxHeartbeats 4000000 in
set_option maxRecDepth 100000 in
theorem law_loop {p : Program} {l : Launch} {e : Env} {s : State} {m : MethodId} {below : List Frame} {meth : Method} {c : Code} {dC : Nat → ClassId} {dI : Nat → Nat → Nat} {cI : ClassId} {ks vs : Nat → Nat} {A : Nat → Prop} {b0 L : Nat} {xs : Nat → Int32} {a b : Nat → Nat} (C0 : lw_At p s m meth c b0 L xs) (hK : GK dC dI cI s) (hZ : ZE ks vs A s) (hA : ∀ q, s.heap.size ≤ q → A q) (hbA : ¬ A b0) (hA2 : ∀ q, A q → s.heap.size ≤ q) (hL : L ≤ 320) : ∀ (f i : Nat), i ≤ L → L + 1 ≤ i + f → LGo p l e s m below meth c dC dI cI A b0 a b i i 18 := by
  intro f
  induction f with
  | zero => intro i h1 h2; exact absurd h2 (by omega)
  | succ f ih =>
    intro i h1 h2
    obtain ⟨hx, hb, hr, hml, hown, hts0, hX, hbl, hlocks, hgv⟩ := id C0
    have KK : i + 5 ≤ L → LGo p l e s m below meth c dC dI cI A b0 a b i (i + 5) 714 := fun hi => by
      intro pg len R mi n w wk E h R1 mi1 n1 w1 wk1 E1 h1 R2 mi2 n2 w2 wk2 P2 Q2 ik tn nd rd rm r_s r_w st mm P3 Q3 SV KR KE sd kt kw kh hz hI H locs hP hD hS ls hl
      refine lv_iinc (v := nI (i + 5)) (lv' := [(3, .int (nI (i + 5))), (0, .ref b0), (1, .ref (a 0)), (2, .ref (b 0))]) hx hb dL_law_714 hl (k := 3) rfl (nI_add i 5) (by decide) rfl (fun ls hl => ?_)
      refine lv_goto (tgt := 18) hx hb dL_law_717 (by decide) ?_
      exact ih (i + 5) (by omega) (by omega) pg len R mi n w wk E h R1 mi1 n1 w1 wk1 E1 h1 R2 mi2 n2 w2 wk2 P2 Q2 ik tn nd rd rm r_s r_w st mm P3 Q3 SV KR KE sd kt kw kh hz hI H locs hP hD hS ls (lv_sub hl [1, 2, 3, 0] rfl)
    intro pg len R mi n w wk E h R1 mi1 n1 w1 wk1 E1 h1 R2 mi2 n2 w2 wk2 P2 Q2 ik tn nd rd rm r_s r_w st mm P3 Q3 SV KR KE sd kt kw kh hz hI H locs hP hD hS ls hl
    refine lv_iload_n hx hb dL_law_18 rfl (lv_at hl 3 rfl) ?_
    refine lv_aload_n hx hb dL_law_19 rfl (lv_at hl 0 rfl) ?_
    refine va_slen hx hb hX hbl hbA hS dL_law_20 ?_
    refine tp_i (z := nI L) rfl ?_
    refine lv_iconst (v := nI 5) hx hb dL_law_21 (by decide) ?_
    refine lv_isub hx hb dL_law_22 ?_
    refine lv_icmp_gt (tgt := 720) hx hb dL_law_23 (by decide) (fun z9 => ?_) (fun z9 => ?_)
    · refine lv_iconst (v := 1) hx hb dL_law_720 (by decide) ?_
      refine va_forget (fun q hq => hA2 _ (hS.2.2 q hq)) ?_
      exact lw_ret hx hb hr hlocks dL_law_721
    · have hi : i + 5 ≤ L := by
        have q := pk_sub_toInt (a := L) (b := 5) (by omega) (by decide)
        have z8 : ¬ (nI L - nI 5).toInt < (nI i).toInt := fun z7 => z9 (Int32.lt_iff_toInt_lt.mpr z7)
        rw [q, nI_toInt (by omega)] at z8
        omega
      have KI := KK hi
      refine lv_aload_n hx hb dL_law_26 rfl (lv_at hl 0 rfl) ?_
      refine lv_iload_n hx hb dL_law_27 rfl (lv_at hl 3 rfl) ?_
      refine va_sld hx hb hX hbl hbA hS (vp_in_nI (by omega) (by omega)) dL_law_28 ?_
      refine tp_i (z := xs i) (congrArg xs (nI_clamp (by omega))) ?_
      refine lv_bipush (v := nI 31) hx hb dL_law_29 (by decide) ?_
      refine lv_iand hx hb dL_law_31 ?_
      obtain ⟨k, hk, ek⟩ := pk_andE (xs i) (m := nI 31) 5 (by decide)
      refine tp_i (z := nI k) ek ?_
      have hkI : (nI k).toInt = (k : Int) := nI_toInt (by omega)
      rcases (show k = 0 ∨ k = 1 ∨ k = 2 ∨ k = 3 ∨ k = 4 ∨ k = 5 ∨ k = 6 ∨ k = 7 ∨ k = 8 ∨ k = 9 ∨ k = 10 ∨ k = 11 ∨ k = 12 ∨ k = 13 ∨ k = 14 ∨ k = 15 ∨ k = 16 ∨ k = 17 ∨ k = 18 ∨ k = 19 ∨ k = 20 ∨ 20 < k by omega) with rfl | rfl | rfl | rfl | rfl | rfl | rfl | rfl | rfl | rfl | rfl | rfl | rfl | rfl | rfl | rfl | rfl | rfl | rfl | rfl | rfl | h20
      · refine lv_tableIn (tgt := 132) hx hb dL_law_32 (by decide) (by decide) (off := 100) (by decide) (by decide) ?_
        exact law_op0 C0 hK hZ hA hbA hL hi KI pg len R mi n w wk E h R1 mi1 n1 w1 wk1 E1 h1 R2 mi2 n2 w2 wk2 P2 Q2 ik tn nd rd rm r_s r_w st mm P3 Q3 SV KR KE sd kt kw kh hz hI H locs hP hD hS ls hl
      · refine lv_tableIn (tgt := 155) hx hb dL_law_32 (by decide) (by decide) (off := 123) (by decide) (by decide) ?_
        exact law_op1 C0 hK hZ hA hbA hL hi KI pg len R mi n w wk E h R1 mi1 n1 w1 wk1 E1 h1 R2 mi2 n2 w2 wk2 P2 Q2 ik tn nd rd rm r_s r_w st mm P3 Q3 SV KR KE sd kt kw kh hz hI H locs hP hD hS ls hl
      · refine lv_tableIn (tgt := 168) hx hb dL_law_32 (by decide) (by decide) (off := 136) (by decide) (by decide) ?_
        exact law_op2 C0 hK hZ hA hbA hL hi KI pg len R mi n w wk E h R1 mi1 n1 w1 wk1 E1 h1 R2 mi2 n2 w2 wk2 P2 Q2 ik tn nd rd rm r_s r_w st mm P3 Q3 SV KR KE sd kt kw kh hz hI H locs hP hD hS ls hl
      · refine lv_tableIn (tgt := 181) hx hb dL_law_32 (by decide) (by decide) (off := 149) (by decide) (by decide) ?_
        exact law_op3 C0 hK hZ hA hbA hL hi KI pg len R mi n w wk E h R1 mi1 n1 w1 wk1 E1 h1 R2 mi2 n2 w2 wk2 P2 Q2 ik tn nd rd rm r_s r_w st mm P3 Q3 SV KR KE sd kt kw kh hz hI H locs hP hD hS ls hl
      · refine lv_tableIn (tgt := 194) hx hb dL_law_32 (by decide) (by decide) (off := 162) (by decide) (by decide) ?_
        exact law_op4 C0 hK hZ hA hbA hL hi KI pg len R mi n w wk E h R1 mi1 n1 w1 wk1 E1 h1 R2 mi2 n2 w2 wk2 P2 Q2 ik tn nd rd rm r_s r_w st mm P3 Q3 SV KR KE sd kt kw kh hz hI H locs hP hD hS ls hl
      · refine lv_tableIn (tgt := 227) hx hb dL_law_32 (by decide) (by decide) (off := 195) (by decide) (by decide) ?_
        exact law_op5 C0 hK hZ hA hbA hL hi KI pg len R mi n w wk E h R1 mi1 n1 w1 wk1 E1 h1 R2 mi2 n2 w2 wk2 P2 Q2 ik tn nd rd rm r_s r_w st mm P3 Q3 SV KR KE sd kt kw kh hz hI H locs hP hD hS ls hl
      · refine lv_tableIn (tgt := 260) hx hb dL_law_32 (by decide) (by decide) (off := 228) (by decide) (by decide) ?_
        exact law_op6 C0 hK hZ hA hbA hL hi KI pg len R mi n w wk E h R1 mi1 n1 w1 wk1 E1 h1 R2 mi2 n2 w2 wk2 P2 Q2 ik tn nd rd rm r_s r_w st mm P3 Q3 SV KR KE sd kt kw kh hz hI H locs hP hD hS ls hl
      · refine lv_tableIn (tgt := 293) hx hb dL_law_32 (by decide) (by decide) (off := 261) (by decide) (by decide) ?_
        exact law_op7 C0 hK hZ hA hbA hL hi KI pg len R mi n w wk E h R1 mi1 n1 w1 wk1 E1 h1 R2 mi2 n2 w2 wk2 P2 Q2 ik tn nd rd rm r_s r_w st mm P3 Q3 SV KR KE sd kt kw kh hz hI H locs hP hD hS ls hl
      · refine lv_tableIn (tgt := 326) hx hb dL_law_32 (by decide) (by decide) (off := 294) (by decide) (by decide) ?_
        exact law_op8 C0 hK hZ hA hbA hL hi KI pg len R mi n w wk E h R1 mi1 n1 w1 wk1 E1 h1 R2 mi2 n2 w2 wk2 P2 Q2 ik tn nd rd rm r_s r_w st mm P3 Q3 SV KR KE sd kt kw kh hz hI H locs hP hD hS ls hl
      · refine lv_tableIn (tgt := 375) hx hb dL_law_32 (by decide) (by decide) (off := 343) (by decide) (by decide) ?_
        exact law_op9 C0 hK hZ hA hbA hL hi KI pg len R mi n w wk E h R1 mi1 n1 w1 wk1 E1 h1 R2 mi2 n2 w2 wk2 P2 Q2 ik tn nd rd rm r_s r_w st mm P3 Q3 SV KR KE sd kt kw kh hz hI H locs hP hD hS ls hl
      · refine lv_tableIn (tgt := 424) hx hb dL_law_32 (by decide) (by decide) (off := 392) (by decide) (by decide) ?_
        exact law_op10 C0 hK hZ hA hbA hL hi KI pg len R mi n w wk E h R1 mi1 n1 w1 wk1 E1 h1 R2 mi2 n2 w2 wk2 P2 Q2 ik tn nd rd rm r_s r_w st mm P3 Q3 SV KR KE sd kt kw kh hz hI H locs hP hD hS ls hl
      · refine lv_tableIn (tgt := 457) hx hb dL_law_32 (by decide) (by decide) (off := 425) (by decide) (by decide) ?_
        exact law_op11 C0 hK hZ hA hbA hL hi KI pg len R mi n w wk E h R1 mi1 n1 w1 wk1 E1 h1 R2 mi2 n2 w2 wk2 P2 Q2 ik tn nd rd rm r_s r_w st mm P3 Q3 SV KR KE sd kt kw kh hz hI H locs hP hD hS ls hl
      · refine lv_tableIn (tgt := 480) hx hb dL_law_32 (by decide) (by decide) (off := 448) (by decide) (by decide) ?_
        exact law_op12 C0 hK hZ hA hbA hL hi KI pg len R mi n w wk E h R1 mi1 n1 w1 wk1 E1 h1 R2 mi2 n2 w2 wk2 P2 Q2 ik tn nd rd rm r_s r_w st mm P3 Q3 SV KR KE sd kt kw kh hz hI H locs hP hD hS ls hl
      · refine lv_tableIn (tgt := 493) hx hb dL_law_32 (by decide) (by decide) (off := 461) (by decide) (by decide) ?_
        exact law_op13 C0 hK hZ hA hbA hL hi KI pg len R mi n w wk E h R1 mi1 n1 w1 wk1 E1 h1 R2 mi2 n2 w2 wk2 P2 Q2 ik tn nd rd rm r_s r_w st mm P3 Q3 SV KR KE sd kt kw kh hz hI H locs hP hD hS ls hl
      · refine lv_tableIn (tgt := 526) hx hb dL_law_32 (by decide) (by decide) (off := 494) (by decide) (by decide) ?_
        exact law_op14 C0 hK hZ hA hbA hL hi KI pg len R mi n w wk E h R1 mi1 n1 w1 wk1 E1 h1 R2 mi2 n2 w2 wk2 P2 Q2 ik tn nd rd rm r_s r_w st mm P3 Q3 SV KR KE sd kt kw kh hz hI H locs hP hD hS ls hl
      · refine lv_tableIn (tgt := 595) hx hb dL_law_32 (by decide) (by decide) (off := 563) (by decide) (by decide) ?_
        exact law_op15 C0 hK hZ hA hbA hL hi KI pg len R mi n w wk E h R1 mi1 n1 w1 wk1 E1 h1 R2 mi2 n2 w2 wk2 P2 Q2 ik tn nd rd rm r_s r_w st mm P3 Q3 SV KR KE sd kt kw kh hz hI H locs hP hD hS ls hl
      · refine lv_tableIn (tgt := 608) hx hb dL_law_32 (by decide) (by decide) (off := 576) (by decide) (by decide) ?_
        exact law_op16 C0 hK hZ hA hbA hL hi KI pg len R mi n w wk E h R1 mi1 n1 w1 wk1 E1 h1 R2 mi2 n2 w2 wk2 P2 Q2 ik tn nd rd rm r_s r_w st mm P3 Q3 SV KR KE sd kt kw kh hz hI H locs hP hD hS ls hl
      · refine lv_tableIn (tgt := 651) hx hb dL_law_32 (by decide) (by decide) (off := 619) (by decide) (by decide) ?_
        exact law_op17 C0 hK hZ hA hbA hL hi KI pg len R mi n w wk E h R1 mi1 n1 w1 wk1 E1 h1 R2 mi2 n2 w2 wk2 P2 Q2 ik tn nd rd rm r_s r_w st mm P3 Q3 SV KR KE sd kt kw kh hz hI H locs hP hD hS ls hl
      · refine lv_tableIn (tgt := 664) hx hb dL_law_32 (by decide) (by decide) (off := 632) (by decide) (by decide) ?_
        exact law_op18 C0 hK hZ hA hbA hL hi KI pg len R mi n w wk E h R1 mi1 n1 w1 wk1 E1 h1 R2 mi2 n2 w2 wk2 P2 Q2 ik tn nd rd rm r_s r_w st mm P3 Q3 SV KR KE sd kt kw kh hz hI H locs hP hD hS ls hl
      · refine lv_tableIn (tgt := 677) hx hb dL_law_32 (by decide) (by decide) (off := 645) (by decide) (by decide) ?_
        exact law_op19 C0 hK hZ hA hbA hL hi KI pg len R mi n w wk E h R1 mi1 n1 w1 wk1 E1 h1 R2 mi2 n2 w2 wk2 P2 Q2 ik tn nd rd rm r_s r_w st mm P3 Q3 SV KR KE sd kt kw kh hz hI H locs hP hD hS ls hl
      · refine lv_tableIn (tgt := 700) hx hb dL_law_32 (by decide) (by decide) (off := 668) (by decide) (by decide) ?_
        exact law_op20 C0 hK hZ hA hbA hL hi KI pg len R mi n w wk E h R1 mi1 n1 w1 wk1 E1 h1 R2 mi2 n2 w2 wk2 P2 Q2 ik tn nd rd rm r_s r_w st mm P3 Q3 SV KR KE sd kt kw kh hz hI H locs hP hD hS ls hl
      · refine lv_tableOut (tgt := 714) hx hb dL_law_32 (by omega) (by decide) ?_
        refine KI pg len R mi n w wk E h R1 mi1 n1 w1 wk1 E1 h1 R2 mi2 n2 w2 wk2 P2 Q2 ik tn nd rd rm r_s r_w st mm P3 Q3 SV KR KE sd kt kw kh hz ?_ H locs hP hD hS ls hl
        obtain ⟨hlen, hpc, hR, h9, hn, hw, hm4, hnw, hn12, hh, hE, hmm, hnd, htn, hik⟩ := hI
        exact ⟨hlen, hpc, hR, h9, hn, hw, hm4, hnw, hn12, hh, hE, hmm, hnd, by omega, hik⟩
