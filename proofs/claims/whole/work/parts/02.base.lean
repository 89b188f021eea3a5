/-! my own words over the kit: the nest's and the casts' words, calls that only read, calls that write, arrays alike on their places -/
def nwF : List (String × Nat × String × String × String × String) := [("WorstVoice$Choir", 50, "WorstVoice$Page", "length", "I", "WorstVoice"), ("WorstVoice", 55, "WorstVoice$Page", "length", "I", "WorstVoice"), ("WorstVoice", 171, "WorstVoice$Hearsay", "size", "I", "WorstVoice"), ("WorstVoice", 84, "WorstVoice$Choir", "singers", "I", "WorstVoice"), ("WorstVoice", 190, "WorstVoice$Choir", "widows", "I", "WorstVoice"), ("WorstVoice", 187, "WorstVoice$Choir", "weeks", "I", "WorstVoice")]
def nwM : List (String × Nat × MethodName × String) := [("WorstVoice", 11, yX5_init, "WorstVoice"), ("WorstVoice", 18, yX4_init, "WorstVoice"), ("WorstVoice", 35, yX8_init, "WorstVoice"), ("WorstVoice$Boy", 3, yX6_init, "WorstVoice"), ("WorstVoice$Choir", 77, yX9_copyRow, "WorstVoice"), ("WorstVoice$Chorister", 3, yX7_init, "WorstVoice"), ("WorstVoice$Deaf", 3, yX6_init, "WorstVoice"), ("WorstVoice$Hearsay", 28, yX9_copyRow, "WorstVoice"), ("WorstVoice$Tenor", 3, yX6_init, "WorstVoice"), ("WorstVoice$Voices", 11, yX6_init, "WorstVoice"), ("WorstVoice$Voices", 20, yX7_init, "WorstVoice"), ("WorstVoice$Voices", 27, yX0_init, "WorstVoice"), ("WorstVoice$Voices", 34, yX3_init, "WorstVoice"), ("WorstVoice$Voices", 41, yX2_init, "WorstVoice")]
def nwC : List (String × String) := [("WorstVoice$Chorister", "WorstVoice$Tenor")]
def nwN : List (String × String) := [("WorstVoice$Singer", "WorstVoice$Tenor"), ("WorstVoice$Boy", "WorstVoice$Tenor"), ("WorstVoice$Deaf", "WorstVoice$Tenor"), ("WorstVoice$Singer", "WorstVoice$Boy"), ("WorstVoice$Tenor", "WorstVoice$Boy"), ("WorstVoice$Deaf", "WorstVoice$Boy"), ("WorstVoice$Chorister", "WorstVoice$Boy"), ("WorstVoice$Singer", "WorstVoice$Deaf"), ("WorstVoice$Tenor", "WorstVoice$Deaf"), ("WorstVoice$Boy", "WorstVoice$Deaf"), ("WorstVoice$Chorister", "WorstVoice$Deaf"), ("WorstVoice$Singer", "WorstVoice$Chorister"), ("WorstVoice$Tenor", "WorstVoice$Chorister"), ("WorstVoice$Boy", "WorstVoice$Chorister"), ("WorstVoice$Deaf", "WorstVoice$Chorister")]
def NW (U : State) : Prop := (∀ q ∈ nwF, va_Nw (.fieldLinkNest q.1 q.2.1 q.2.2.1 q.2.2.2.1 q.2.2.2.2.1 q.2.2.2.2.2) U) ∧ (∀ q ∈ nwM, va_Nw (.methodLinkNest q.1 q.2.1 q.2.2.1 q.2.2.2) U) ∧ (∀ q ∈ nwC, va_Nw (.castable q.1 q.2) U) ∧ ∀ q ∈ nwN, va_Nc q.1 q.2 U
theorem NW.same {u U : State} (h : u.vm = U.vm) (n : NW u) : NW U := ⟨fun q hq => va_Nw.same rfl h (n.1 q hq), fun q hq => va_Nw.same rfl h (n.2.1 q hq), fun q hq => va_Nw.same rfl h (n.2.2.1 q hq), fun q hq => va_Nc.moved (by rw [h]; exact Vm.Alike.refl _) (n.2.2.2 q hq)⟩
theorem NW.warm {s U : State} (hW : s.WarmedH U.vm) (n : NW s) : NW U := ⟨fun q hq => va_Nw.warmF hW (n.1 q hq), fun q hq => va_Nw.warmM hW (n.2.1 q hq), fun q hq => va_Nw.warmC hW (n.2.2.1 q hq), fun q hq => va_Nc.moved hW.alike (n.2.2.2 q hq)⟩
/-- what holds of the tables at every method's start: the classes, the int arrays' class, the nest -/
def GK (dC : Nat → ClassId) (dI : Nat → Nat → Nat) (cI : ClassId) (U : State) : Prop := va_K (dC, dI) vwCl [(cI, .int)] U ∧ NW U
theorem GK.warm {dC : Nat → ClassId} {dI : Nat → Nat → Nat} {cI : ClassId} {s U : State} (hW : s.WarmedH U.vm) (h : GK dC dI cI s) : GK dC dI cI U := ⟨va_K.moved hW.alike h.1, h.2.warm hW⟩
theorem GK.same {dC : Nat → ClassId} {dI : Nat → Nat → Nat} {cI : ClassId} {u U : State} (e : u.vm = U.vm) (h : GK dC dI cI u) : GK dC dI cI U := ⟨va_K.moved (by rw [e]; exact Vm.Alike.refl _) h.1, h.2.same e⟩
/-- a start that only reads -/
abbrev roP (dC : Nat → ClassId) (dI : Nat → Nat → Nat) (cI : ClassId) (ws : va_W) (av : List Value) : Array Value → State → Prop := va_Pc av (fun U => va_P (dC, dI) vwCl ws U.heap ∧ GK dC dI cI U)
abbrev roI (post : Int32 → Prop) : Array Value → State → Outcome → State → Prop := va_Qi (fun (r : Int32) (_ : Unit) => post r) (fun _ _ => True) (fun _ => False)
abbrev roL (post : Int64 → Prop) : Array Value → State → Outcome → State → Prop := va_Ql (fun (r : Int64) (_ : Unit) => post r) (fun _ _ => True) (fun _ => False)
abbrev roR (post : Nat → Prop) : Array Value → State → Outcome → State → Prop := va_Qr (fun (_ : Unit) => True) (fun _ a _ => post a) (fun _ => False)
/-- a start that writes into the world ws alone -/
abbrev muP (dC : Nat → ClassId) (dI : Nat → Nat → Nat) (cI : ClassId) (ws : va_W) (sz : Nat) (av : List Value) : Array Value → State → Prop := va_Pc av (fun U => U.heap.size = sz ∧ va_P (dC, dI) vwCl ws U.heap ∧ GK dC dI cI U ∧ va_D (fun _ => True) ws)
abbrev muB {S : Type} (dC : Nat → ClassId) (dI : Nat → Nat → Nat) (ws : va_W) (sz : Nat) (w1 : S → va_W) : S → State → Prop := fun u t => va_P (dC, dI) vwCl (w1 u) t.heap ∧ va_D (va_A ws sz) (w1 u)
abbrev muI {S : Type} (dC : Nat → ClassId) (dI : Nat → Nat → Nat) (ws : va_W) (sz : Nat) (w1 : S → va_W) (post : Int32 → S → Prop) : Array Value → State → Outcome → State → Prop := va_Qi post (muB dC dI ws sz w1) (va_A ws sz)
abbrev muL {S : Type} (dC : Nat → ClassId) (dI : Nat → Nat → Nat) (ws : va_W) (sz : Nat) (w1 : S → va_W) (post : Int64 → S → Prop) : Array Value → State → Outcome → State → Prop := va_Ql post (muB dC dI ws sz w1) (va_A ws sz)
abbrev muV {S : Type} (dC : Nat → ClassId) (dI : Nat → Nat → Nat) (ws : va_W) (sz : Nat) (w1 : S → va_W) (post : S → Prop) : Array Value → State → Outcome → State → Prop := va_Qv post (muB dC dI ws sz w1) (va_A ws sz)
theorem ro_blind {dC : Nat → ClassId} {dI : Nat → Nat → Nat} {cI : ClassId} {ws : va_W} {av : List Value} : FrameBlind (roP dC dI cI ws av) := fun _ _ _ _ q => ⟨q.1, q.2.1, q.2.2.same rfl⟩
theorem mu_blind {dC : Nat → ClassId} {dI : Nat → Nat → Nat} {cI : ClassId} {ws : va_W} {sz : Nat} {av : List Value} : FrameBlind (muP dC dI cI ws sz av) := fun _ _ _ _ q => ⟨q.1, q.2.1, q.2.2.1, q.2.2.2.1.same rfl, q.2.2.2.2⟩
theorem ro_pv {dC : Nat → ClassId} {dI : Nat → Nat → Nat} {cI : ClassId} {s : State} {H : Heap} {ws wc : va_W} {C : String} {T : u_T} {N ci q0 b : Nat} {fs As : List Value} (hK : GK dC dI cI s) (hP : va_P (dC, dI) vwCl ws H) (is : List Nat) (hs : is.filterMap (fun i => ws[i]?) = wc) (hc : vwCl[ci]? = some (C, T, N)) (he : ws[q0]? = some (b, .inr (ci, fs))) : PreV s H C b (roP dC dI cI wc (.ref b :: As)) As :=
  ⟨ro_blind, va_recv hK.1 hP hc he, fun U hU hW => ⟨rfl, by rw [hU]; exact hP.sub is hs, hK.warm hW⟩⟩
theorem ro_ps {dC : Nat → ClassId} {dI : Nat → Nat → Nat} {cI : ClassId} {s : State} {H : Heap} {ws wc : va_W} {As : List Value} (hK : GK dC dI cI s) (hP : va_P (dC, dI) vwCl ws H) (is : List Nat) (hs : is.filterMap (fun i => ws[i]?) = wc) : PreS s H (roP dC dI cI wc As) As :=
  ⟨ro_blind, fun U hU hW => ⟨rfl, by rw [hU]; exact hP.sub is hs, hK.warm hW⟩⟩
theorem mu_pv {dC : Nat → ClassId} {dI : Nat → Nat → Nat} {cI : ClassId} {s : State} {H : Heap} {A : Nat → Prop} {ws wc : va_W} {C : String} {T : u_T} {N ci q0 b : Nat} {fs As : List Value} (hK : GK dC dI cI s) (hP : va_P (dC, dI) vwCl ws H) (hD : va_D A ws) (is : List Nat) (hn : va_nd is = true) (hs : is.filterMap (fun i => ws[i]?) = wc) (hm : is.map (fun i => ws[i]?) = wc.map some) (hc : vwCl[ci]? = some (C, T, N)) (he : ws[q0]? = some (b, .inr (ci, fs))) : PreV s H C b (muP dC dI cI wc H.size (.ref b :: As)) As :=
  ⟨mu_blind, va_recv hK.1 hP hc he, fun U hU hW => ⟨rfl, by rw [hU], by rw [hU]; exact hP.sub is hs, hK.warm hW, (hD.sub is hn hm).weaken (fun _ _ _ _ => trivial)⟩⟩
theorem mu_ps {dC : Nat → ClassId} {dI : Nat → Nat → Nat} {cI : ClassId} {s : State} {H : Heap} {A : Nat → Prop} {ws wc : va_W} {As : List Value} (hK : GK dC dI cI s) (hP : va_P (dC, dI) vwCl ws H) (hD : va_D A ws) (is : List Nat) (hn : va_nd is = true) (hs : is.filterMap (fun i => ws[i]?) = wc) (hm : is.map (fun i => ws[i]?) = wc.map some) : PreS s H (muP dC dI cI wc H.size As) As :=
  ⟨mu_blind, fun U hU hW => ⟨rfl, by rw [hU], by rw [hU]; exact hP.sub is hs, hK.warm hW, (hD.sub is hn hm).weaken (fun _ _ _ _ => trivial)⟩⟩
section MYC
variable {p : Program} {l : Launch} {e : Env} {R : Room} {s : State} {m : MethodId} {args : Array Value} {below : List Frame} {meth : Method} {c : Code} {H : Heap} {locs : List Loc} {cells slots : Nat} {Q : State → Prop}
variable {pc : Nat} {ls : Array Slot} {rest st0 : List Value} {a : Array Value} {A0 : Nat → Prop} {H0 : Heap} {D : va_G} {cl : List vw_C} {ws wc wr : va_W} {free : Addr → Prop}
theorem tp_i {x z : Int32} (h : x = z) (k : W p l e R s m args below meth c H locs cells slots Q (F0 m pc ls (.int z :: rest))) : W p l e R s m args below meth c H locs cells slots Q (F0 m pc ls (.int x :: rest)) := by
  subst h; exact k
theorem tp_l {x z : Int64} (h : x = z) (k : W p l e R s m args below meth c H locs cells slots Q (F0 m pc ls (.long z :: rest))) : W p l e R s m args below meth c H locs cells slots Q (F0 m pc ls (.long x :: rest)) := by
  subst h; exact k
theorem ro_calli {post : Int32 → Prop} (hr : va_Run p l e R s m args below meth c H locs cells slots 0 0 (F0 m pc ls st0) rest (roI post a) (fun _ => False)) (hS : va_S A0 H0 H locs) (hP : va_P D cl ws H)
    (kk : ∀ (r : Int32) (H1 : Heap) (locs1 : List Loc), post r → va_P D cl ws H1 → va_S A0 H0 H1 locs1 → W p l e R s m args below meth c H1 locs1 cells slots Q (F0 m (pc + 3) ls (.int r :: rest))) : W p l e R s m args below meth c H locs cells slots Q (F0 m pc ls st0) :=
  va_calli hr hS (fun _ _ h => h.elim) (fun _ h => h.elim) (fun r _ _ H1 locs1 _ _ hp _ _ hk hS1 => kk r H1 locs1 hp (hP.kept (fun k q hq => hk q.1 (hP k q hq).lt id)) hS1)
theorem ro_calll {post : Int64 → Prop} (hr : va_Run p l e R s m args below meth c H locs cells slots 0 0 (F0 m pc ls st0) rest (roL post a) (fun _ => False)) (hS : va_S A0 H0 H locs) (hP : va_P D cl ws H)
    (kk : ∀ (r : Int64) (H1 : Heap) (locs1 : List Loc), post r → va_P D cl ws H1 → va_S A0 H0 H1 locs1 → W p l e R s m args below meth c H1 locs1 cells slots Q (F0 m (pc + 3) ls (.long r :: rest))) : W p l e R s m args below meth c H locs cells slots Q (F0 m pc ls st0) :=
  va_calll hr hS (fun _ _ h => h.elim) (fun _ h => h.elim) (fun r _ _ H1 locs1 _ _ hp _ _ hk hS1 => kk r H1 locs1 hp (hP.kept (fun k q hq => hk q.1 (hP k q hq).lt id)) hS1)
theorem ro_callr {post : Nat → Prop} (hr : va_Run p l e R s m args below meth c H locs cells slots 0 0 (F0 m pc ls st0) rest (roR post a) (fun _ => False)) (hS : va_S A0 H0 H locs) (hP : va_P D cl ws H)
    (kk : ∀ (r : Nat) (H1 : Heap) (locs1 : List Loc), post r → va_P D cl ws H1 → va_S A0 H0 H1 locs1 → W p l e R s m args below meth c H1 locs1 cells slots Q (F0 m (pc + 3) ls (.ref r :: rest))) : W p l e R s m args below meth c H locs cells slots Q (F0 m pc ls st0) :=
  va_callr hr hS (fun _ _ h => h.elim) (fun _ h => h.elim) (fun _ r _ H1 locs1 _ _ _ hp _ hk hS1 => kk r H1 locs1 hp (hP.kept (fun k q hq => hk q.1 (hP k q hq).lt id)) hS1)
theorem mu_calli {S : Type} {post : Int32 → S → Prop} {w1 wn : S → va_W} (hr : va_Run p l e R s m args below meth c H locs cells slots 0 0 (F0 m pc ls st0) rest (va_Qi post (fun u t => va_P D cl (w1 u) t.heap ∧ va_D (va_A wc H.size) (w1 u)) (va_A wc H.size) a) (va_A wc H.size)) (hS : va_S A0 H0 H locs) (hA : ∀ q, H0.size ≤ q → A0 q) (hP : va_P D cl ws H) (hD : va_D A0 ws)
    (isC isR pm : List Nat) (hC : isC.map (fun i => ws[i]?) = wc.map some) (hR : isR.map (fun i => ws[i]?) = wr.map some) (hn : va_nd isR = true) (hdis : ∀ i ∈ isR, i ∉ isC) (hpn : va_nd pm = true) (hp1 : ∀ u, pm.filterMap (fun i => (wr ++ w1 u)[i]?) = wn u) (hp2 : ∀ u, pm.map (fun i => (wr ++ w1 u)[i]?) = (wn u).map some)
    (kk : ∀ (r : Int32) (u : S) (H1 : Heap) (locs1 : List Loc), post r u → va_P D cl (wn u) H1 → va_D A0 (wn u) → va_S A0 H0 H1 locs1 → W p l e R s m args below meth c H1 locs1 cells slots Q (F0 m (pc + 3) ls (.int r :: rest))) : W p l e R s m args below meth c H locs cells slots Q (F0 m pc ls st0) := by
  have hF := va_free hD hS hA isC hC
  refine va_calli hr hS (fun q _ h => hF q h) hF (fun r u t H1 locs1 ht _ hp hB _ hk hS1 => ?_)
  obtain ⟨hP1, hD1⟩ := hB
  rw [ht] at hP1
  obtain ⟨hP2, hD2⟩ := va_join hP hD isC isR hC hR hn hdis hk hF hP1 hD1
  exact kk r u H1 locs1 hp (hP2.sub pm (hp1 u)) (hD2.sub pm hpn (hp2 u)) hS1
theorem mu_calll {S : Type} {post : Int64 → S → Prop} {w1 wn : S → va_W} (hr : va_Run p l e R s m args below meth c H locs cells slots 0 0 (F0 m pc ls st0) rest (va_Ql post (fun u t => va_P D cl (w1 u) t.heap ∧ va_D (va_A wc H.size) (w1 u)) (va_A wc H.size) a) (va_A wc H.size)) (hS : va_S A0 H0 H locs) (hA : ∀ q, H0.size ≤ q → A0 q) (hP : va_P D cl ws H) (hD : va_D A0 ws)
    (isC isR pm : List Nat) (hC : isC.map (fun i => ws[i]?) = wc.map some) (hR : isR.map (fun i => ws[i]?) = wr.map some) (hn : va_nd isR = true) (hdis : ∀ i ∈ isR, i ∉ isC) (hpn : va_nd pm = true) (hp1 : ∀ u, pm.filterMap (fun i => (wr ++ w1 u)[i]?) = wn u) (hp2 : ∀ u, pm.map (fun i => (wr ++ w1 u)[i]?) = (wn u).map some)
    (kk : ∀ (r : Int64) (u : S) (H1 : Heap) (locs1 : List Loc), post r u → va_P D cl (wn u) H1 → va_D A0 (wn u) → va_S A0 H0 H1 locs1 → W p l e R s m args below meth c H1 locs1 cells slots Q (F0 m (pc + 3) ls (.long r :: rest))) : W p l e R s m args below meth c H locs cells slots Q (F0 m pc ls st0) := by
  have hF := va_free hD hS hA isC hC
  refine va_calll hr hS (fun q _ h => hF q h) hF (fun r u t H1 locs1 ht _ hp hB _ hk hS1 => ?_)
  obtain ⟨hP1, hD1⟩ := hB
  rw [ht] at hP1
  obtain ⟨hP2, hD2⟩ := va_join hP hD isC isR hC hR hn hdis hk hF hP1 hD1
  exact kk r u H1 locs1 hp (hP2.sub pm (hp1 u)) (hD2.sub pm hpn (hp2 u)) hS1
theorem mu_callv {S : Type} {post : S → Prop} {w1 wn : S → va_W} (hr : va_Run p l e R s m args below meth c H locs cells slots 0 0 (F0 m pc ls st0) rest (va_Qv post (fun u t => va_P D cl (w1 u) t.heap ∧ va_D (va_A wc H.size) (w1 u)) (va_A wc H.size) a) (va_A wc H.size)) (hS : va_S A0 H0 H locs) (hA : ∀ q, H0.size ≤ q → A0 q) (hP : va_P D cl ws H) (hD : va_D A0 ws)
    (isC isR pm : List Nat) (hC : isC.map (fun i => ws[i]?) = wc.map some) (hR : isR.map (fun i => ws[i]?) = wr.map some) (hn : va_nd isR = true) (hdis : ∀ i ∈ isR, i ∉ isC) (hpn : va_nd pm = true) (hp1 : ∀ u, pm.filterMap (fun i => (wr ++ w1 u)[i]?) = wn u) (hp2 : ∀ u, pm.map (fun i => (wr ++ w1 u)[i]?) = (wn u).map some)
    (kk : ∀ (u : S) (H1 : Heap) (locs1 : List Loc), post u → va_P D cl (wn u) H1 → va_D A0 (wn u) → va_S A0 H0 H1 locs1 → W p l e R s m args below meth c H1 locs1 cells slots Q (F0 m (pc + 3) ls rest)) : W p l e R s m args below meth c H locs cells slots Q (F0 m pc ls st0) := by
  have hF := va_free hD hS hA isC hC
  refine va_callv hr hS (fun q _ h => hF q h) hF (fun u t H1 locs1 ht _ hp hB _ hk hS1 => ?_)
  obtain ⟨hP1, hD1⟩ := hB
  rw [ht] at hP1
  obtain ⟨hP2, hD2⟩ := va_join hP hD isC isR hC hR hn hdis hk hF hP1 hD1
  exact kk u H1 locs1 hp (hP2.sub pm (hp1 u)) (hD2.sub pm hpn (hp2 u)) hS1
end MYC
theorem arr_alike {cA : ClassId} {n : Nat} {f g : Nat → Int32} (h : ∀ j, j < n → f j = g j) : vp_cell cA (n, .inl f) = vp_cell cA (n, .inl g) := by
  rw [vp_cell_i, vp_cell_i]
  unfold arrV
  have e : (Array.ofFn (n := n) fun j => Value.int (f j.val)) = Array.ofFn (n := n) fun j => Value.int (g j.val) := by
    congr 1
    funext j
    rw [h j.val j.isLt]
  rw [e]
/-- an array's content under another name that agrees on its places -/
theorem va_P.re {D : va_G} {cl : List vw_C} {ws : va_W} {H : Heap} (h : va_P D cl ws H) (p : Nat) {a : Nat} {cA : ClassId} {n : Nat} {f : Nat → Int32} (ha : ws[p]? = some (a, .inl (cA, n, .inl f))) (g : Nat → Int32) (hg : ∀ j, j < n → f j = g j) : va_P D cl (ws.set p (a, .inl (cA, n, .inl g))) H := by
  have hl := (List.getElem?_eq_some_iff.mp ha).1
  intro k q hk
  by_cases hkp : k = p
  · subst hkp
    rw [List.getElem?_set_self hl] at hk
    cases hk
    have h1 : H[a]? = some (vp_cell cA (n, .inl f)) := h k _ ha
    show H[a]? = some (vp_cell cA (n, .inl g))
    rw [h1, arr_alike hg]
  · rw [List.getElem?_set_ne (Ne.symm hkp)] at hk
    exact h k q hk
/-- a Bool as the machine holds it -/
def bI (c : Prop) [Decidable c] : Int32 := if c then 1 else 0
theorem bI_t {c : Prop} [Decidable c] (h : c) : bI c = nI 1 := by unfold bI; rw [if_pos h]; rfl
theorem bI_f {c : Prop} [Decidable c] (h : ¬ c) : bI c = nI 0 := by unfold bI; rw [if_neg h]; rfl
theorem bI_0 {c : Prop} [Decidable c] : bI c = 0 ↔ ¬ c := by
  unfold bI
  by_cases h : c
  · rw [if_pos h]; exact ⟨fun q => absurd q (by decide), fun q => absurd h q⟩
  · rw [if_neg h]; exact ⟨fun _ => h, fun _ => rfl⟩
theorem bI_01 {c : Prop} [Decidable c] : bI c = nI (if c then 1 else 0) := by
  unfold bI
  by_cases h : c
  · rw [if_pos h, if_pos h]; rfl
  · rw [if_neg h, if_neg h]; rfl
theorem bI_nz {c : Prop} [Decidable c] : narrow .boolean (.int (bI c)) = .int (bI c) := by
  by_cases h : c
  · rw [bI_t h]; rfl
  · rw [bI_f h]; rfl
theorem bI_i {c d : Prop} [Decidable c] [Decidable d] (h : c ↔ d) : bI c = bI d := by
  by_cases q : c
  · rw [bI_t q, bI_t (h.mp q)]
  · rw [bI_f q, bI_f (fun z => q (h.mpr z))]
theorem z_eq {a : Nat} (h : a < 2 ^ 31) : nI a = 0 ↔ a = 0 := by rw [← nI_0]; exact nI_eq h (by decide)
theorem z_gt {a : Nat} (h : a < 2 ^ 31) : 0 < nI a ↔ 0 < a := by rw [← nI_0]; exact nI_ltI (by decide) h
theorem z_le {a : Nat} (h : a < 2 ^ 31) : nI a ≤ 0 ↔ a = 0 := by rw [← nI_0]; exact (nI_leI h (by decide)).trans Nat.le_zero
theorem z_lt {a : Nat} (h : a < 2 ^ 31) : ¬ nI a < 0 := nI_pos h
theorem z_ge {a : Nat} (h : a < 2 ^ 31) : 0 ≤ nI a := nI_pos' h
theorem ii_p (a k : Nat) : nI a + nI k = nI (a + k) := nI_add a k
theorem ii_d (a : Nat) (h : 0 < a) : nI a + Int32.ofInt (-1) = nI (a - 1) := sb_m1 h
theorem ld_n (f : Nat → Int32) {k : Nat} (h : k < 2 ^ 31) : f (nI k).toNatClampNeg = f k := congrArg f (nI_clamp h)
def upN (R : Nat → Nat) (k v : Nat) : Nat → Nat := fun j => if j = k then v else R j
theorem upN_s {R : Nat → Nat} {k v : Nat} : upN R k v k = v := if_pos rfl
theorem upN_n {R : Nat → Nat} {k v j : Nat} (h : j ≠ k) : upN R k v j = R j := if_neg h
