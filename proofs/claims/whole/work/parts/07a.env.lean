/-! the text constant "stbdc" and the static that its reading asks for -/
/-- the numbers that a singer is told by -/
def w15 (i : Nat) : Nat := if i < 7 then i else if i < 11 then i + 3 else i + 9
def ZE (ks vs : Nat → Nat) (A : Nat → Prop) (U : State) : Prop := va_Z "java/lang/String" "COMPACT_STRINGS" "Z" (.int 1) A U U.heap ∧ vk_S 1 [5] [[115, 116, 98, 100, 99]] ks vs A U U.heap ∧ vk_R RX5 40 "stbdc" (ks 0) U ∧ va_Z "WorstVoice" "SINGER_WHATS" "[I" (.ref (vs 1)) A U U.heap ∧ va_T .int (vs 1) 15 (fun j => .int (nI (w15 j))) A U U.heap
theorem ZE.at {ks vs : Nat → Nat} {A B : Nat → Prop} {s U : State} {H : Heap} {locs : List Loc} (h : ZE ks vs A s) (hS : va_S A s.heap H locs) (hB : ∀ q, B q → A q) (hU : U.heap = H) (hW : s.WarmedH U.vm) : ZE ks vs B U := by
  refine ⟨?_, ?_, vk_R.warm hW h.2.2.1, ?_, ?_⟩
  · rw [hU]; exact ((h.1.kept hS.2.1).moved hW.alike).narrow hB
  · rw [hU]; exact ((h.2.1.kept hS.2.1).moved hW.alike).narrow hB
  · rw [hU]; exact ((h.2.2.2.1.kept hS.2.1).moved hW.alike).narrow hB
  · rw [hU]; exact ((h.2.2.2.2.kept hS.2.1).moved hW.alike).narrow hB
theorem ZE.same {ks vs : Nat → Nat} {A : Nat → Prop} {u U : State} (e : U.vm = u.vm) (e2 : U.heap = u.heap) (h : ZE ks vs A u) : ZE ks vs A U := by
  have ha : u.vm.Alike U.vm := by rw [e]; exact Vm.Alike.refl _
  refine ⟨?_, ?_, vk_R.same e h.2.2.1, ?_, ?_⟩
  · rw [e2]; exact h.1.moved ha
  · rw [e2]; exact h.2.1.moved ha
  · rw [e2]; exact h.2.2.2.1.moved ha
  · rw [e2]; exact h.2.2.2.2.moved ha
abbrev roPz (dC : Nat → ClassId) (dI : Nat → Nat → Nat) (cI : ClassId) (ks vs : Nat → Nat) (ws : va_W) (av : List Value) : Array Value → State → Prop := va_Pc av (fun U => va_P (dC, dI) vwCl ws U.heap ∧ GK dC dI cI U ∧ ZE ks vs (fun _ => False) U)
abbrev muPz (dC : Nat → ClassId) (dI : Nat → Nat → Nat) (cI : ClassId) (ks vs : Nat → Nat) (ws : va_W) (sz : Nat) (av : List Value) : Array Value → State → Prop := va_Pc av (fun U => U.heap.size = sz ∧ va_P (dC, dI) vwCl ws U.heap ∧ GK dC dI cI U ∧ va_D (fun _ => True) ws ∧ ZE ks vs (va_A ws sz) U)
theorem roz_blind {dC : Nat → ClassId} {dI : Nat → Nat → Nat} {cI : ClassId} {ks vs : Nat → Nat} {ws : va_W} {av : List Value} : FrameBlind (roPz dC dI cI ks vs ws av) := fun _ _ _ _ q => ⟨q.1, q.2.1, q.2.2.1.same rfl, q.2.2.2.same rfl rfl⟩
theorem muz_blind {dC : Nat → ClassId} {dI : Nat → Nat → Nat} {cI : ClassId} {ks vs : Nat → Nat} {ws : va_W} {sz : Nat} {av : List Value} : FrameBlind (muPz dC dI cI ks vs ws sz av) := fun _ _ _ _ q => ⟨q.1, q.2.1, q.2.2.1, q.2.2.2.1.same rfl, q.2.2.2.2.1, q.2.2.2.2.2.same rfl rfl⟩
theorem roz_pv {dC : Nat → ClassId} {dI : Nat → Nat → Nat} {cI : ClassId} {ks vs : Nat → Nat} {A : Nat → Prop} {locs : List Loc} {s : State} {H : Heap} {ws wc : va_W} {C : String} {T : u_T} {N ci q0 b : Nat} {fs As : List Value} (hK : GK dC dI cI s) (hZ : ZE ks vs A s) (hS : va_S A s.heap H locs) (hP : va_P (dC, dI) vwCl ws H) (is : List Nat) (hs : is.filterMap (fun i => ws[i]?) = wc) (hc : vwCl[ci]? = some (C, T, N)) (he : ws[q0]? = some (b, .inr (ci, fs))) : PreV s H C b (roPz dC dI cI ks vs wc (.ref b :: As)) As :=
  ⟨roz_blind, va_recv hK.1 hP hc he, fun U hU hW => ⟨rfl, by rw [hU]; exact hP.sub is hs, hK.warm hW, hZ.at hS (fun _ h => h.elim) hU hW⟩⟩
/-- on the text itself -/
theorem roz_pk {dC : Nat → ClassId} {dI : Nat → Nat → Nat} {cI : ClassId} {ks vs : Nat → Nat} {A : Nat → Prop} {locs : List Loc} {s : State} {H : Heap} {ws wc : va_W} {As : List Value} (hK : GK dC dI cI s) (hZ : ZE ks vs A s) (hS : va_S A s.heap H locs) (hP : va_P (dC, dI) vwCl ws H) (is : List Nat) (hs : is.filterMap (fun i => ws[i]?) = wc) : PreV s H RJ0 (ks 0) (roPz dC dI cI ks vs wc (.ref (ks 0) :: As)) As :=
  ⟨roz_blind, vk_recv hZ.2.1 (by decide) hS, fun U hU hW => ⟨rfl, by rw [hU]; exact hP.sub is hs, hK.warm hW, hZ.at hS (fun _ h => h.elim) hU hW⟩⟩
theorem roz_ps {dC : Nat → ClassId} {dI : Nat → Nat → Nat} {cI : ClassId} {ks vs : Nat → Nat} {A : Nat → Prop} {locs : List Loc} {s : State} {H : Heap} {ws wc : va_W} {As : List Value} (hK : GK dC dI cI s) (hZ : ZE ks vs A s) (hS : va_S A s.heap H locs) (hP : va_P (dC, dI) vwCl ws H) (is : List Nat) (hs : is.filterMap (fun i => ws[i]?) = wc) : PreS s H (roPz dC dI cI ks vs wc As) As :=
  ⟨roz_blind, fun U hU hW => ⟨rfl, by rw [hU]; exact hP.sub is hs, hK.warm hW, hZ.at hS (fun _ h => h.elim) hU hW⟩⟩
theorem muz_pv {dC : Nat → ClassId} {dI : Nat → Nat → Nat} {cI : ClassId} {ks vs : Nat → Nat} {s : State} {H : Heap} {A : Nat → Prop} {locs : List Loc} {ws wc : va_W} {C : String} {T : u_T} {N ci q0 b : Nat} {fs As : List Value} (hK : GK dC dI cI s) (hZ : ZE ks vs A s) (hS : va_S A s.heap H locs) (hA : ∀ q, s.heap.size ≤ q → A q) (hP : va_P (dC, dI) vwCl ws H) (hD : va_D A ws) (is : List Nat) (hn : va_nd is = true) (hs : is.filterMap (fun i => ws[i]?) = wc) (hm : is.map (fun i => ws[i]?) = wc.map some) (hc : vwCl[ci]? = some (C, T, N)) (he : ws[q0]? = some (b, .inr (ci, fs))) : PreV s H C b (muPz dC dI cI ks vs wc H.size (.ref b :: As)) As :=
  ⟨muz_blind, va_recv hK.1 hP hc he, fun U hU hW => ⟨rfl, by rw [hU], by rw [hU]; exact hP.sub is hs, hK.warm hW, (hD.sub is hn hm).weaken (fun _ _ _ _ => trivial), hZ.at hS (va_free hD hS hA is hm) hU hW⟩⟩
theorem i2c_n {k : Nat} (h : k < 65536) : ((nI k).toUInt32 % 65536).toInt32 = nI k := by
  rw [pk_char, pk_tn (by omega), Nat.mod_eq_of_lt h]
theorem i2b_n {n : Nat} (h : n < 128) : (nI n).toInt8.toInt32 = nI n := by
  have : ∀ j : Fin 128, (nI j.val).toInt8.toInt32 = nI j.val := by decide +kernel
  exact this ⟨n, h⟩
