/-! what the law's start gives: the classes, the nest, the constants -/
theorem law_GK {s : State} {b : Nat} (hts : ∀ w ∈ lw_tbl, w.before #[Value.ref b] s = true) (hgv : (Jvm.Cond.and given_1 narrow_1).before #[Value.ref b] s = true) : ∃ (dC : Nat → ClassId) (dI : Nat → Nat → Nat) (cI : ClassId), GK dC dI cI s := by
  have hs := flat_of_before _ hgv
  obtain ⟨c0, i0, k0⟩ := u_known (C := RX0) (T := TX0) (N := 0) (n := 0) hts inX0 (hts (.instantiable RX0 0) (by decide +kernel))
  obtain ⟨c1, i1, k1⟩ := u_known (C := RX1) (T := TX1) (N := 10) (n := 10) hts inX1 (hts (.instantiable RX1 10) (by decide +kernel))
  obtain ⟨c2, i2, k2⟩ := u_known (C := RX2) (T := TX2) (N := 0) (n := 0) hts inX2 (hts (.instantiable RX2 0) (by decide +kernel))
  obtain ⟨c3, i3, k3⟩ := u_known (C := RX3) (T := TX3) (N := 0) (n := 0) hts inX3 (hts (.instantiable RX3 0) (by decide +kernel))
  obtain ⟨c4, i4, k4⟩ := u_known (C := RX4) (T := TX4) (N := 5) (n := 5) hts inX4 (hts (.instantiable RX4 5) (by decide +kernel))
  obtain ⟨c5, i5, k5⟩ := u_known (C := RX5) (T := TX5) (N := 2) (n := 2) hts inX5 (hts (.instantiable RX5 2) (by decide +kernel))
  obtain ⟨c6, i6, k6⟩ := u_known (C := RX6) (T := TX6) (N := 0) (n := 0) hts inX6 (hts (.instantiable RX6 0) (by decide +kernel))
  obtain ⟨c7, i7, k7⟩ := u_known (C := RX7) (T := TX7) (N := 0) (n := 0) hts inX7 (hts (.instantiable RX7 0) (by decide +kernel))
  obtain ⟨c8, i8, k8⟩ := u_known (C := RX8) (T := TX8) (N := 5) (n := 5) hts inX8 (hts (.instantiable RX8 5) (by decide +kernel))
  obtain ⟨c9, i9, k9⟩ := u_known (C := RX9) (T := TX9) (N := 11) (n := 11) hts inX9 (hts (.instantiable RX9 11) (by decide +kernel))
  obtain ⟨c10, i10, k10⟩ := u_known (C := RX10) (T := TX10) (N := 26) (n := 26) hts inX10 (hts (.instantiable RX10 26) (by decide +kernel))
  obtain ⟨cI, kA, comp, hf, hk, hkd⟩ := Cond.arrayClass_spec (hts (.arrayClass .int) (by decide +kernel))
  refine ⟨fun k => match k with | 0 => c0 | 1 => c1 | 2 => c2 | 3 => c3 | 4 => c4 | 5 => c5 | 6 => c6 | 7 => c7 | 8 => c8 | 9 => c9 | _ => c10, fun k => match k with | 0 => i0 | 1 => i1 | 2 => i2 | 3 => i3 | 4 => i4 | 5 => i5 | 6 => i6 | 7 => i7 | 8 => i8 | 9 => i9 | _ => i10, cI, ⟨?_, ?_⟩, ?_, ?_, ?_, ?_⟩
  · intro k q hq
    match k, hq with
    | 0, hq => cases hq; exact k0
    | 1, hq => cases hq; exact k1
    | 2, hq => cases hq; exact k2
    | 3, hq => cases hq; exact k3
    | 4, hq => cases hq; exact k4
    | 5, hq => cases hq; exact k5
    | 6, hq => cases hq; exact k6
    | 7, hq => cases hq; exact k7
    | 8, hq => cases hq; exact k8
    | 9, hq => cases hq; exact k9
    | 10, hq => cases hq; exact k10
    | k + 11, hq => simp [vwCl] at hq
  · intro k q hq
    match k, hq with
    | 0, hq => cases hq; exact ⟨fun n z => ⟨fun k h => (by cases h), kA, hk, comp, hkd⟩, hf⟩
    | k + 1, hq => simp at hq
  · have h0 : ∀ q ∈ nwF, Cond.fieldLinkNest q.1 q.2.1 q.2.2.1 q.2.2.2.1 q.2.2.2.2.1 q.2.2.2.2.2 ∈ lw_tbl := by decide +kernel
    exact fun q hq => va_Nw.of rfl (hts _ (h0 q hq))
  · have h0 : ∀ q ∈ nwM, Cond.methodLinkNest q.1 q.2.1 q.2.2.1 q.2.2.2 ∈ lw_tbl := by decide +kernel
    exact fun q hq => va_Nw.of rfl (hts _ (h0 q hq))
  · have h0 : ∀ q ∈ nwC, Cond.castable q.1 q.2 ∈ lw_tbl := by decide +kernel
    exact fun q hq => va_Nw.of rfl (hts _ (h0 q hq))
  · have h0 : ∀ q ∈ nwN, Cond.not (.castable q.1 q.2) ∈ flatC (Jvm.Cond.and given_1 narrow_1) := by decide +kernel
    exact fun q hq => va_Nc.of (hs _ (h0 q hq))
theorem law_ZE {s : State} {b : Nat} {A : Nat → Prop} (hts : ∀ w ∈ lw_tbl, w.before #[Value.ref b] s = true) (hgv : (Jvm.Cond.and given_1 narrow_1).before #[Value.ref b] s = true) (hA : ∀ a : Nat, a < s.heap.size → ¬ A a) : ∃ ks vs : Nat → Nat, ZE ks vs A s := by
  have hs := flat_of_before _ hgv
  have z1 := va_Zof (C := "java/lang/String") (n := "COMPACT_STRINGS") (d := "Z") (v := .int 1) (hts _ (by decide +kernel)) (hts _ (by decide +kernel)) (va_eqi (hs _ (by decide +kernel))) hA
  obtain ⟨ks, av, z2, z3⟩ := vk_Sof (N := 1) (tm := fun _ => Term.string "WorstVoice$Page" 40) (len := [5]) (byt := [[115, 116, 98, 100, 99]]) (args := #[Value.ref b]) (s := s) (A := A)
    (fun i hi => by obtain rfl : i = 0 := (by omega); exact (by decide))
    (fun i hi => by obtain rfl : i = 0 := (by omega); exact hs _ (by decide +kernel))
    (fun i hi => by obtain rfl : i = 0 := (by omega); exact hs _ (by decide +kernel))
    (fun i hi => by obtain rfl : i = 0 := (by omega); exact hs _ (by decide +kernel))
    (fun i hi => by obtain rfl : i = 0 := (by omega); exact hs _ (by decide +kernel))
    (fun i hi j hj => by
      obtain rfl : i = 0 := by omega
      have hj5 : j < 5 := hj
      rcases (show j = 0 ∨ j = 1 ∨ j = 2 ∨ j = 3 ∨ j = 4 by omega) with rfl | rfl | rfl | rfl | rfl <;> exact hs _ (by decide +kernel))
    (fun i j hi hj hij => absurd (by omega : i = j) hij) hA
  have z4 : vk_R RX5 40 "stbdc" (ks 0) s := vk_R.of (hts _ (by decide +kernel)) (z3 0 (by decide))
  obtain ⟨t, z5, z6⟩ := va_Tof (tm := (Term.static "WorstVoice" "SINGER_WHATS" "[I")) (ty := .int) (N := 15) (f := fun j => .int (nI (w15 j))) (args := #[Value.ref b]) (s := s) (A := A) (by decide) (hs _ (by decide +kernel)) (va_eqt (hs _ (by decide +kernel)))
    (fun j hj => by
      rcases (show j = 0 ∨ j = 1 ∨ j = 2 ∨ j = 3 ∨ j = 4 ∨ j = 5 ∨ j = 6 ∨ j = 7 ∨ j = 8 ∨ j = 9 ∨ j = 10 ∨ j = 11 ∨ j = 12 ∨ j = 13 ∨ j = 14 by omega) with rfl | rfl | rfl | rfl | rfl | rfl | rfl | rfl | rfl | rfl | rfl | rfl | rfl | rfl | rfl
      · exact va_eqt (z := nI (w15 0)) (hs _ (by decide +kernel))
      · exact va_eqt (z := nI (w15 1)) (hs _ (by decide +kernel))
      · exact va_eqt (z := nI (w15 2)) (hs _ (by decide +kernel))
      · exact va_eqt (z := nI (w15 3)) (hs _ (by decide +kernel))
      · exact va_eqt (z := nI (w15 4)) (hs _ (by decide +kernel))
      · exact va_eqt (z := nI (w15 5)) (hs _ (by decide +kernel))
      · exact va_eqt (z := nI (w15 6)) (hs _ (by decide +kernel))
      · exact va_eqt (z := nI (w15 7)) (hs _ (by decide +kernel))
      · exact va_eqt (z := nI (w15 8)) (hs _ (by decide +kernel))
      · exact va_eqt (z := nI (w15 9)) (hs _ (by decide +kernel))
      · exact va_eqt (z := nI (w15 10)) (hs _ (by decide +kernel))
      · exact va_eqt (z := nI (w15 11)) (hs _ (by decide +kernel))
      · exact va_eqt (z := nI (w15 12)) (hs _ (by decide +kernel))
      · exact va_eqt (z := nI (w15 13)) (hs _ (by decide +kernel))
      · exact va_eqt (z := nI (w15 14)) (hs _ (by decide +kernel))) hA
  have z7 := va_Zof (C := "WorstVoice") (n := "SINGER_WHATS") (d := "[I") (v := .ref t) (hts _ (by decide +kernel)) (hts _ (by decide +kernel)) z5 hA
  exact ⟨ks, fun k => if k = 0 then av 0 else t, z1, ⟨fun i hi => by obtain rfl : i = 0 := (by omega); exact z2.1 0 (by decide), z2.2⟩, z4, z7, z6⟩
