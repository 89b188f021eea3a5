/-! numbers of the machine beside whole numbers (the first six rows began as kit/laws/COUNTS.to-paste) -/
theorem fb_rng (x : Int32) : -2147483648 ≤ x.toInt ∧ x.toInt < 2147483648 := by
  have h1 := Int32.le_toInt x
  have h2 := Int32.toInt_lt x
  omega
theorem fb_bmod {z : Int} (h1 : -2147483648 ≤ z) (h2 : z < 2147483648) : z.bmod (2 ^ 32) = z := by
  rw [Int.bmod_eq_of_le (by omega) (by omega)]
theorem fb_addI {x y : Int32} (h1 : -2147483648 ≤ x.toInt + y.toInt) (h2 : x.toInt + y.toInt < 2147483648) : (x + y).toInt = x.toInt + y.toInt := by
  rw [Int32.toInt_add, fb_bmod h1 h2]
theorem fb_subI {x y : Int32} (h1 : -2147483648 ≤ x.toInt - y.toInt) (h2 : x.toInt - y.toInt < 2147483648) : (x - y).toInt = x.toInt - y.toInt := by
  rw [Int32.toInt_sub, fb_bmod h1 h2]
theorem fb_asI (x : Int32) : Int32.ofInt x.toInt = x := Int32.ofInt_toInt x
theorem rI_eqi (x y : Int32) : x = y ↔ x.toInt = y.toInt := Int32.toInt_inj.symm
theorem rI_lt {x : Int32} {k : Nat} (h : k < 2 ^ 31) : x < nI k ↔ x.toInt < (k : Int) := by rw [Int32.lt_iff_toInt_lt, nI_toInt h]
theorem rI_gt {x : Int32} {k : Nat} (h : k < 2 ^ 31) : nI k < x ↔ (k : Int) < x.toInt := by rw [Int32.lt_iff_toInt_lt, nI_toInt h]
theorem rI_le {x : Int32} {k : Nat} (h : k < 2 ^ 31) : x ≤ nI k ↔ x.toInt ≤ (k : Int) := by rw [Int32.le_iff_toInt_le, nI_toInt h]
theorem rI_ge {x : Int32} {k : Nat} (h : k < 2 ^ 31) : nI k ≤ x ↔ (k : Int) ≤ x.toInt := by rw [Int32.le_iff_toInt_le, nI_toInt h]
theorem rI_eq {x : Int32} {k : Nat} (h : k < 2 ^ 31) : x = nI k ↔ x.toInt = (k : Int) := by rw [rI_eqi, nI_toInt h]
theorem r0_lt {x : Int32} : x < 0 ↔ x.toInt < 0 := by rw [Int32.lt_iff_toInt_lt, Int32.toInt_zero]
theorem r0_gt {x : Int32} : 0 < x ↔ 0 < x.toInt := by rw [Int32.lt_iff_toInt_lt, Int32.toInt_zero]
theorem r0_le {x : Int32} : x ≤ 0 ↔ x.toInt ≤ 0 := by rw [Int32.le_iff_toInt_le, Int32.toInt_zero]
theorem r0_ge {x : Int32} : 0 ≤ x ↔ 0 ≤ x.toInt := by rw [Int32.le_iff_toInt_le, Int32.toInt_zero]
theorem r0_eq {x : Int32} : x = 0 ↔ x.toInt = 0 := by rw [rI_eqi, Int32.toInt_zero]
/-- a number that names one of the first n -/
abbrev inR (x : Int32) (n : Nat) : Prop := 0 ≤ x.toInt ∧ x.toInt < (n : Int)
theorem inR_n {j n : Nat} (h : j < n) (hj : j < 2 ^ 31) : inR (nI j) n := by
  rw [inR, nI_toInt hj]; omega
theorem inR_of {x : Int32} {n : Nat} (h : inR x n) : ∃ j : Nat, j < n ∧ j < 2 ^ 31 ∧ x = nI j := by
  obtain ⟨h1, h2⟩ := h
  have h3 := fb_rng x
  refine ⟨x.toInt.toNat, by omega, by omega, ?_⟩
  rw [rI_eqi, nI_toInt (by omega)]
  omega
theorem mx_sub {P l h : Nat} (hP : P < 1000) (hl : l < 1000) (hh : h < 1000) : (if nI 0 < nI P - nI (1 * l) - nI h then nI P - nI (1 * l) - nI h else nI 0) = nI (P - (l + h)) := by
  have e1 : (nI P - nI (1 * l)).toInt = (P : Int) - l := by
    rw [fb_subI (by rw [nI_toInt (by omega), nI_toInt (by omega)]; omega) (by rw [nI_toInt (by omega), nI_toInt (by omega)]; omega), nI_toInt (by omega), nI_toInt (by omega)]; omega
  have e2 : (nI P - nI (1 * l) - nI h).toInt = (P : Int) - l - h := by
    rw [fb_subI (by rw [e1, nI_toInt (by omega)]; omega) (by rw [e1, nI_toInt (by omega)]; omega), e1, nI_toInt (by omega)]
  by_cases q : nI 0 < nI P - nI (1 * l) - nI h
  · rw [if_pos q]
    have q1 := (rI_gt (by decide)).mp q
    rw [rI_eqi, e2, nI_toInt (by omega)]
    omega
  · rw [if_neg q]
    have q1 := mt (rI_gt (by decide)).mpr q
    rw [rI_eqi, nI_toInt (by decide), nI_toInt (by omega)]
    omega
/-! what the town is, as numbers: R: eight numbers a singer (kind, four faults, cold, left, honey); both sides are held against these words -/
/-- how bad by the voice alone -/
def pb (k f x : Nat) : Nat := if f = 0 then (if k = 1 ∨ k = 4 then x / 2 else if k = 3 then 9 else x) else if f = 1 then (if k = 4 then x / 2 else x) else if f = 3 then (if k = 2 then 2 * x else x) else x
/-- how bad one is -/
def hb_ (R : Nat → Nat) (s f : Nat) : Nat := (pb (R (8 * s)) f (R (8 * s + 1 + f)) + (if f = 0 ∨ f = 1 then 3 * R (8 * s + 5) else 0)) - (R (8 * s + 6) + R (8 * s + 7))
/-- the first of the greatest among the first n (from 1) -/
def am (g : Nat → Nat) : Nat → Nat
  | 0 => 0
  | k + 1 => if g (am g k) < g k then k else am g k
theorem am_1 (g : Nat → Nat) : am g 1 = 0 := by
  show (if g 0 < g 0 then 0 else 0) = 0
  simp
theorem am_y {g : Nat → Nat} {k : Nat} (h : g (am g k) < g k) : am g (k + 1) = k := by
  show (if g (am g k) < g k then k else am g k) = k
  rw [if_pos h]
theorem am_n {g : Nat → Nat} {k : Nat} (h : ¬ g (am g k) < g k) : am g (k + 1) = am g k := by
  show (if g (am g k) < g k then k else am g k) = am g k
  rw [if_neg h]
theorem am_lt (g : Nat → Nat) : ∀ n, 0 < n → am g n < n := by
  intro n
  induction n with
  | zero => intro h; omega
  | succ k ih =>
    intro _
    by_cases h : g (am g k) < g k
    · rw [am_y h]; omega
    · rw [am_n h]
      rcases Nat.eq_zero_or_pos k with q | q
      · subst q; show 0 < 0 + 1; omega
      · have := ih q; omega
theorem am_cg {g g' : Nat → Nat} : ∀ n, (∀ k, k < n → g k = g' k) → am g n = am g' n := by
  intro n
  induction n with
  | zero => intro _; rfl
  | succ k ih =>
    intro h
    have e := ih (fun j hj => h j (by omega))
    show (if g (am g k) < g k then k else am g k) = (if g' (am g' k) < g' k then k else am g' k)
    rw [← e, h k (by omega)]
    rcases Nat.eq_zero_or_pos k with q | q
    · subst q; show (if g 0 < g' 0 then 0 else 0) = (if g' 0 < g' 0 then 0 else 0); simp
    · rw [h (am g k) (by have := am_lt g k q; omega)]
/-- whom one who minds f is for -/
def fv (R : Nat → Nat) (f n : Nat) : Nat := am (fun s => hb_ R s f) n
/-- how many of the first w widows are for s -/
def vt (R mi : Nat → Nat) (n s : Nat) : Nat → Nat
  | 0 => 0
  | k + 1 => vt R mi n s k + (if fv R (mi k) n = s then 1 else 0)
theorem vt_y {R mi : Nat → Nat} {n s k : Nat} (h : fv R (mi k) n = s) : vt R mi n s (k + 1) = vt R mi n s k + 1 := by
  show vt R mi n s k + (if fv R (mi k) n = s then 1 else 0) = _
  rw [if_pos h]
theorem vt_n {R mi : Nat → Nat} {n s k : Nat} (h : ¬ fv R (mi k) n = s) : vt R mi n s (k + 1) = vt R mi n s k + 0 := by
  show vt R mi n s k + (if fv R (mi k) n = s then 1 else 0) = _
  rw [if_neg h]
theorem vt_le (R mi : Nat → Nat) (n s : Nat) : ∀ k, vt R mi n s k ≤ k := by
  intro k
  induction k with
  | zero => exact Nat.le_refl _
  | succ k ih =>
    show vt R mi n s k + (if fv R (mi k) n = s then 1 else 0) ≤ k + 1
    split <;> omega
theorem vt_cg {R mi mj : Nat → Nat} {n s : Nat} : ∀ w, (∀ k, k < w → mi k = mj k) → vt R mi n s w = vt R mj n s w := by
  intro w
  induction w with
  | zero => intro _; rfl
  | succ k ih =>
    intro h
    show vt R mi n s k + _ = vt R mj n s k + _
    rw [ih (fun j hj => h j (by omega)), h k (by omega)]
/-- the mayor -/
def my (R mi : Nat → Nat) (n w : Nat) : Nat := am (fun s => vt R mi n s w) n
theorem my_cg {R mi mj : Nat → Nat} {n w : Nat} (h : ∀ k, k < w → mi k = mj k) : my R mi n w = my R mj n w := am_cg n (fun s _ => vt_cg w h)
/-- what of a town's numbers is known -/
def WR (R : Nat → Nat) : Prop := (∀ s, s < 4 → R (8 * s) < 5 ∧ R (8 * s + 5) ≤ 1 ∧ R (8 * s + 6) ≤ 1 ∧ R (8 * s + 7) ≤ 18) ∧ ∀ s f, s < 4 → f < 4 → R (8 * s + 1 + f) ≤ 9
theorem WR.k {R : Nat → Nat} (h : WR R) {s : Nat} (hs : s < 4) : R (8 * s) < 5 := (h.1 s hs).1
theorem WR.c {R : Nat → Nat} (h : WR R) {s : Nat} (hs : s < 4) : R (8 * s + 5) ≤ 1 := (h.1 s hs).2.1
theorem WR.l {R : Nat → Nat} (h : WR R) {s : Nat} (hs : s < 4) : R (8 * s + 6) ≤ 1 := (h.1 s hs).2.2.1
theorem WR.h {R : Nat → Nat} (h : WR R) {s : Nat} (hs : s < 4) : R (8 * s + 7) ≤ 18 := (h.1 s hs).2.2.2
theorem WR.f {R : Nat → Nat} (h : WR R) {s f : Nat} (hs : s < 4) (hf : f < 4) : R (8 * s + 1 + f) ≤ 9 := h.2 s f hs hf
theorem pb_le {k f x : Nat} (h : x ≤ 9) : pb k f x ≤ 18 := by
  unfold pb
  repeat' split
  all_goals omega
theorem hb_le {R : Nat → Nat} (h : WR R) {s f : Nat} (hs : s < 4) (hf : f < 4) : hb_ R s f ≤ 21 := by
  unfold hb_
  have h1 := pb_le (k := R (8 * s)) (f := f) (h.f hs hf)
  have h2 := h.c hs
  split <;> omega
/-- the cells of a choir: its object, six rows -/
abbrev chW (cI : ClassId) (a : Nat → Nat) (v0 : Nat) (R mi : Nat → Nat) (n w : Nat) (wk : Int32) : va_W := [(a 0, .inr (1, [.ref v0, .ref (a 1), .ref (a 2), .ref (a 3), .ref (a 4), .ref (a 5), .ref (a 6), .int (nI n), .int (nI w), .int wk])), (a 1, .inl (cI, 4, .inl (fun i => nI (R (8 * i))))), (a 2, .inl (cI, 16, .inl (fun i => nI (R (8 * (i / 4) + 1 + i % 4))))), (a 3, .inl (cI, 4, .inl (fun i => nI (R (8 * i + 5))))), (a 4, .inl (cI, 4, .inl (fun i => nI (R (8 * i + 6))))), (a 5, .inl (cI, 4, .inl (fun i => nI (R (8 * i + 7))))), (a 6, .inl (cI, 5, .inl (fun i => nI (mi i))))]
/-- the cells of the voices: the object, five voices: plain, tenor, boy, deaf, chorister -/
abbrev voW (v : Nat → Nat) : va_W := [(v 0, .inr (8, [.ref (v 1), .ref (v 2), .ref (v 3), .ref (v 4), .ref (v 5)])), (v 1, .inr (6, [])), (v 2, .inr (7, [])), (v 3, .inr (0, [])), (v 4, .inr (3, [])), (v 5, .inr (2, []))]
/-- the cells of the page -/
abbrev pgW (cI : ClassId) (a : Nat → Nat) (pg : Nat → Nat) (len : Nat) : va_W := [(a 0, .inr (5, [.ref (a 1), .int (nI len)])), (a 1, .inl (cI, 32, .inl (fun i => nI (pg i))))]
/-- the cells of what is heard -/
abbrev hsW (cI : ClassId) (a : Nat → Nat) (E : Nat → Nat) (h : Nat) : va_W := [(a 0, .inr (4, [.ref (a 1), .ref (a 2), .ref (a 3), .ref (a 4), .int (nI h)])), (a 1, .inl (cI, 8, .inl (fun i => nI (E (4 * i))))), (a 2, .inl (cI, 8, .inl (fun i => nI (E (4 * i + 1))))), (a 3, .inl (cI, 8, .inl (fun i => nI (E (4 * i + 2))))), (a 4, .inl (cI, 8, .inl (fun i => nI (E (4 * i + 3)))))]
theorem W_abs {p : Program} {l : Launch} {e : Env} {R : Room} {s : State} {m : MethodId} {args : Array Value} {below : List Frame} {meth : Method} {c : Code} {H : Heap} {locs : List Loc} {cells slots : Nat} {Q : State → Prop} {g : JFrame} (h : ∀ G : Heap → List Loc → JFrame → Prop, (∀ (H : Heap) (locs : List Loc) (g : JFrame), G H locs g ↔ W p l e R s m args below meth c H locs cells slots Q g) → G H locs g) : W p l e R s m args below meth c H locs cells slots Q g := h (fun H locs g => W p l e R s m args below meth c H locs cells slots Q g) (fun _ _ _ => Iff.rfl)
/-- a fault behind a week, by the kind -/
def pr (k x : Nat) : Nat := if k = 2 then (if x < 9 then x + 1 else 9) else x - 1
theorem pr_le {k x : Nat} (h : x ≤ 9) : pr k x ≤ 9 := by
  unfold pr
  repeat' split
  all_goals omega
/-- a column's sum -/
def sm (R : Nat → Nat) (c : Nat) : Nat → Nat
  | 0 => 0
  | k + 1 => sm R c k + R (8 * k + c)
theorem upd_nI {R : Nat → Nat} {k v : Nat} : upd (fun i => nI (R i)) k (nI v) = fun i => nI (upN R k v i) := by
  funext i
  by_cases h : i = k
  · simp [upd, upN, h]
  · simp [upd, upN, h]
theorem fa_lt (a b : Int32) : a < b ↔ a.toInt < b.toInt := Int32.lt_iff_toInt_lt
theorem fa_le (a b : Int32) : a ≤ b ↔ a.toInt ≤ b.toInt := Int32.le_iff_toInt_le
theorem fa_wide_lt (a b : Int32) : a.toInt64 < b.toInt64 ↔ a < b := by rw [Int64.lt_iff_toInt_lt, fa_lt, Int32.toInt_toInt64, Int32.toInt_toInt64]
theorem fa_wide_le (a b : Int32) : a.toInt64 ≤ b.toInt64 ↔ a ≤ b := by rw [Int64.le_iff_toInt_le, fa_le, Int32.toInt_toInt64, Int32.toInt_toInt64]
theorem m1_toInt {k : Nat} (h : k < 2 ^ 30) : (nI k - nI 1).toInt = (k : Int) - 1 := pk_sub_toInt h (by decide)
/-- a kind by its letter -/
def kc (c : Nat) : Int32 := if c = 115 then nI 0 else if c = 116 then nI 1 else if c = 98 then nI 2 else if c = 100 then nI 3 else if c = 99 then nI 4 else -1
/-- the model's object -/
abbrev moW (b : Nat → Nat) (pm r_s r_w st : Int32) (n w : Nat) (wk tr nd hd sd kt kw kh : Int32) (hz : Int64) : Nat × va_E := (b 0, .inr (10, [.ref (b 1), .int pm, .ref (b 2), .int r_s, .ref (b 3), .int r_w, .int st, .int (nI n), .int (nI w), .int wk, .int tr, .ref (b 4), .ref (b 5), .int nd, .ref (b 6), .ref (b 7), .int hd, .ref (b 8), .int sd, .ref (b 9), .int kt, .int kw, .int kh, .ref (b 10), .ref (b 11), .long hz]))
/-- the model's three steps of how bad by the voice -/
def q1 (k f x : Nat) : Nat := if f = 0 then (if k = 1 ∨ k = 4 then x / 2 else if k = 3 then 9 else x) else x
def q2 (k f x : Nat) : Nat := if f = 1 ∧ k = 4 then x / 2 else x
def q3 (k f x : Nat) : Nat := if f = 3 ∧ k = 2 then 2 * x else x
theorem q1_le {k f x : Nat} (h : x ≤ 9) : q1 k f x ≤ 9 := by
  unfold q1
  repeat' split
  all_goals omega
theorem q2_le {k f x : Nat} (h : x ≤ 9) : q2 k f x ≤ 9 := by
  unfold q2
  split <;> omega
theorem q3_le {k f x : Nat} (h : x ≤ 9) : q3 k f x ≤ 18 := by
  unfold q3
  split <;> omega
theorem q_pb {k f x : Nat} (hf : f < 4) : q3 k f (q2 k f (q1 k f x)) = pb k f x := by
  rcases (show f = 0 ∨ f = 1 ∨ f = 2 ∨ f = 3 by omega) with rfl | rfl | rfl | rfl <;> simp [q1, q2, q3, pb]
/-- the model's end of how bad one is -/
theorem bad_end {R : Nat → Nat} {s f p q : Nat} {r : Int32} (hp : p = q3 (R (8 * s)) f (q2 (R (8 * s)) f (q1 (R (8 * s)) f (R (8 * s + 1 + f)))))
    (hq : q = (if R (8 * s + 5) = 1 ∧ (f = 0 ∨ f = 1) then 3 else 0)) (hf : f < 4) (hx : R (8 * s + 1 + f) ≤ 9) (hc : R (8 * s + 5) ≤ 1) (hl : R (8 * s + 6) ≤ 1) (hh : R (8 * s + 7) ≤ 18)
    (hr : (¬ 0 ≤ (nI (p + q) - nI (R (8 * s + 6) + R (8 * s + 7))).toInt ∧ r = nI 0) ∨ (0 ≤ (nI (p + q) - nI (R (8 * s + 6) + R (8 * s + 7))).toInt ∧ r = nI (p + q) - nI (R (8 * s + 6) + R (8 * s + 7)))) : r = nI (hb_ R s f) := by
  rw [q_pb hf] at hp
  have hp3 := pb_le (k := R (8 * s)) (f := f) hx
  have hq2 : q = (if f = 0 ∨ f = 1 then 3 * R (8 * s + 5) else 0) := by
    rw [hq]
    (repeat' split) <;> omega
  have hq3 : q ≤ 3 := by rw [hq]; split <;> omega
  have e : hb_ R s f = (p + q) - (R (8 * s + 6) + R (8 * s + 7)) := by
    unfold hb_
    rw [← hp, ← hq2]
  rw [e]
  rw [pk_sub_toInt (by omega) (by omega)] at hr
  rcases hr with ⟨h1, h2⟩ | ⟨h1, h2⟩
  · rw [h2]
    congr 1
    omega
  · rw [h2, pk_sub (by omega)]
