/-! pure words: what the calls tell -/
theorem mn_r {a b : Nat} (h : b ≤ a) (ha : a < 2 ^ 31) : (if nI b < nI a then nI b else nI a) = nI b := by
  by_cases q : nI b < nI a
  · rw [if_pos q]
  · rw [if_neg q]
    have := mt (nI_ltI (by omega) ha).mpr q
    congr 1; omega
theorem mx_r {a : Nat} (ha : a < 2 ^ 31) : (if nI 0 < nI a then nI a else nI 0) = nI a := by
  by_cases q : nI 0 < nI a
  · rw [if_pos q]
  · rw [if_neg q]
    have := mt (nI_ltI (by decide) ha).mpr q
    congr 1; omega
theorem mx_n {a b : Nat} (ha : a < 2 ^ 31) (hb : b < 2 ^ 31) : (if nI a < nI b then nI b else nI a) = nI (if a < b then b else a) := by
  by_cases q : a < b
  · rw [if_pos (nI_lt q hb), if_pos q]
  · rw [if_neg (fun z => q ((nI_ltI ha hb).mp z)), if_neg q]
/-- widows read, the first k -/
def mdP (pg : Nat → Nat) (e : Nat) (mi : Nat → Nat) (k : Nat) : Nat → Nat := fun j => if j < k then pg (e + 1 + j) - 48 else mi j
theorem mdP_0 (pg : Nat → Nat) (e : Nat) (mi : Nat → Nat) : mdP pg e mi 0 = mi := by
  funext j
  exact if_neg (by omega)
theorem md_up {pg : Nat → Nat} {e : Nat} {mi : Nat → Nat} {k j : Nat} : upd (fun i => nI (mdP pg e mi k i)) k (nI (pg (e + 1 + k) - 48)) j = nI (mdP pg e mi (k + 1) j) := by
  unfold upd mdP
  by_cases h : j = k
  · rw [if_pos h, if_pos (by omega), h]
  · rw [if_neg h]
    dsimp only
    by_cases h2 : j < k
    · rw [if_pos h2, if_pos (by omega)]
    · rw [if_neg h2, if_neg (by omega)]
/-- of a singer -/
def tS (R mi : Nat → Nat) (n w s k : Nat) : Int32 :=
  if k = 0 then nI (R (8 * s)) else if k = 1 then nI (vt R mi n s w) else if k = 2 then nI (R (8 * s + 5)) else if k = 3 then nI (R (8 * s + 6)) else if k = 4 then nI (R (8 * s + 7))
  else if k = 5 then nI (am (wv R mi n w s) 4) else if k = 6 then nI (wv R mi n w s (am (wv R mi n w s) 4))
  else if 10 ≤ k ∧ k < 14 then nI (R (8 * s + 1 + (k - 10))) else if 20 ≤ k ∧ k < 24 then nI (hb_ R s (k - 20)) else -102
def aS (R mi : Nat → Nat) (n w s : Nat) (x : Int32) : Int32 := if x.toInt < 0 then -102 else tS R mi n w s x.toInt.toNat
theorem aS_n {R mi : Nat → Nat} {n w s k : Nat} (h : k < 2 ^ 31) : aS R mi n w s (nI k) = tS R mi n w s k := by
  unfold aS
  rw [nI_toInt h, if_neg (by omega)]
  rfl
theorem aS_o {R mi : Nat → Nat} {n w s : Nat} {x : Int32} (h : ¬ inR x 24) : aS R mi n w s x = -102 := by
  unfold aS
  by_cases q : x.toInt < 0
  · rw [if_pos q]
  · rw [if_neg q]
    unfold tS
    have h3 : 24 ≤ x.toInt.toNat := by omega
    rw [if_neg (by omega), if_neg (by omega), if_neg (by omega), if_neg (by omega), if_neg (by omega), if_neg (by omega), if_neg (by omega), if_neg (by omega), if_neg (by omega)]
/-- of a widow -/
def tW (R mi E : Nat → Nat) (n h d k : Nat) : Int32 :=
  if k = 0 then nI (mi d) else if k = 1 then nI (fv R (mi d) n) else if k = 2 then nI (hb_ R (fv R (mi d) n) (mi d)) else if k = 3 then nI (bs_ R E d h 4) else if k = 4 then askI R (bs_ R E d h 4) n else -102
def aW (R mi E : Nat → Nat) (n h d : Nat) (x : Int32) : Int32 := if x.toInt < 0 then -102 else tW R mi E n h d x.toInt.toNat
theorem aW_n {R mi E : Nat → Nat} {n h d k : Nat} (hk : k < 2 ^ 31) : aW R mi E n h d (nI k) = tW R mi E n h d k := by
  unfold aW
  rw [nI_toInt hk, if_neg (by omega)]
  rfl
theorem aW_o {R mi E : Nat → Nat} {n h d : Nat} {x : Int32} (q : ¬ inR x 5) : aW R mi E n h d x = -102 := by
  unfold aW
  by_cases q1 : x.toInt < 0
  · rw [if_pos q1]
  · rw [if_neg q1]
    unfold tW
    have h3 : 5 ≤ x.toInt.toNat := by omega
    rw [if_neg (by omega), if_neg (by omega), if_neg (by omega), if_neg (by omega), if_neg (by omega)]
/-- how many -/
def tC (R : Nat → Nat) (n w : Nat) (wk : Int32) (h len : Nat) (tr : Int32) (nd k : Nat) : Int32 :=
  if k = 0 then nI n else if k = 1 then nI w else if k = 2 then nI (sm R 5 n) else if k = 3 then nI (sm R 7 n) else if k = 4 then wk else if k = 5 then nI h else if k = 6 then nI len else if k = 7 then tr else if k = 8 then nI nd else -102
def aC (R : Nat → Nat) (n w : Nat) (wk : Int32) (h len : Nat) (tr : Int32) (nd : Nat) (x : Int32) : Int32 := if x.toInt < 0 then -102 else tC R n w wk h len tr nd x.toInt.toNat
theorem aC_n {R : Nat → Nat} {n w : Nat} {wk : Int32} {h len : Nat} {tr : Int32} {nd k : Nat} (hk : k < 2 ^ 31) : aC R n w wk h len tr nd (nI k) = tC R n w wk h len tr nd k := by
  unfold aC
  rw [nI_toInt hk, if_neg (by omega)]
  rfl
theorem aC_o {R : Nat → Nat} {n w : Nat} {wk : Int32} {h len : Nat} {tr : Int32} {nd : Nat} {x : Int32} (q : ¬ inR x 9) : aC R n w wk h len tr nd x = -102 := by
  unfold aC
  by_cases q1 : x.toInt < 0
  · rw [if_pos q1]
  · rw [if_neg q1]
    unfold tC
    have h3 : 9 ≤ x.toInt.toNat := by omega
    rw [if_neg (by omega), if_neg (by omega), if_neg (by omega), if_neg (by omega), if_neg (by omega), if_neg (by omega), if_neg (by omega), if_neg (by omega), if_neg (by omega)]
/-- is one of a kind -/
abbrev isK (k x : Nat) : Prop := x = 0 ∨ k = x ∨ (x = 1 ∧ k = 4)
/-- honey poured by a mixture -/
def cnt (n o k : Nat) : Nat := (n - k) - (if k ≤ o then 1 else 0)
def rst (n o m k : Nat) : Nat := m / 10 ^ cnt n o k
def pm (n o m j : Nat) : Nat := if j < n ∧ j ≠ o then rst n o m (j + 1) % 10 else 0
theorem pm_le (n o m j : Nat) : pm n o m j ≤ 9 := by
  unfold pm
  split <;> omega
theorem rst_top {n o m k : Nat} (h : n ≤ k) : rst n o m k = m := by
  unfold rst cnt
  rw [show n - k = 0 by omega, Nat.zero_sub]
  exact Nat.div_one m
theorem rst_o {n o m j : Nat} (ho : o < n) (h : j = o ∨ n ≤ j) : rst n o m j = rst n o m (j + 1) := by
  unfold rst
  have e : cnt n o j = cnt n o (j + 1) := by
    unfold cnt
    rcases h with h | h
    · rw [if_pos (by omega), if_neg (by omega)]; omega
    · rw [if_neg (by omega), if_neg (by omega)]; omega
  rw [e]
theorem rst_d {n o m j : Nat} (ho : o < n) (h : j < n) (h2 : j ≠ o) : rst n o m j = rst n o m (j + 1) / 10 := by
  unfold rst
  have e : cnt n o j = cnt n o (j + 1) + 1 := by
    unfold cnt
    by_cases q : j + 1 ≤ o
    · rw [if_pos (by omega), if_pos q]; omega
    · rw [if_neg (by omega), if_neg q]; omega
  rw [e, Nat.pow_succ, Nat.div_div_eq_div_mul]
theorem rst_lt {n o m k : Nat} (h : m < 1000) : rst n o m k < 1000 := Nat.lt_of_le_of_lt (Nat.div_le_self _ _) h
/-- the sum of what is poured from k on -/
def pS (n o m k : Nat) : Nat := (if k ≤ 0 then pm n o m 0 else 0) + (if k ≤ 1 then pm n o m 1 else 0) + (if k ≤ 2 then pm n o m 2 else 0) + (if k ≤ 3 then pm n o m 3 else 0)
theorem pS_le (n o m k : Nat) : pS n o m k ≤ 36 := by
  have h0 := pm_le n o m 0
  have h1 := pm_le n o m 1
  have h2 := pm_le n o m 2
  have h3 := pm_le n o m 3
  unfold pS
  (repeat' split) <;> omega
theorem pS_4 (n o m : Nat) : pS n o m 4 = 0 := by
  unfold pS
  rfl
theorem pS_s {n o m j : Nat} (h : j < 4) : pS n o m j = pS n o m (j + 1) + pm n o m j := by
  rcases (show j = 0 ∨ j = 1 ∨ j = 2 ∨ j = 3 by omega) with rfl | rfl | rfl | rfl <;> simp [pS] <;> omega
/-- nobody gets too much, from k on -/
abbrev mayF (R : Nat → Nat) (n o m k : Nat) : Prop := ∀ j, j < 4 → (k ≤ j ∧ j < n ∧ j ≠ o → R (8 * j + 7) + pm n o m j ≤ 9)
theorem may_4 (R : Nat → Nat) (n o m : Nat) : mayF R n o m 4 := fun j hj h => absurd h.1 (by omega)
theorem may_s {R : Nat → Nat} {n o m j : Nat} (hj : j < 4) : mayF R n o m j ↔ mayF R n o m (j + 1) ∧ (j < n ∧ j ≠ o → R (8 * j + 7) + pm n o m j ≤ 9) := by
  constructor
  · intro h
    exact ⟨fun i hi q => h i hi ⟨by omega, q.2⟩, fun q => h j hj ⟨Nat.le_refl _, q⟩⟩
  · intro h i hi q
    rcases Nat.lt_or_ge j i with z | z
    · exact h.1 i hi ⟨by omega, q.2⟩
    · have e : i = j := by omega
      subst e
      exact h.2 q.2
/-- the rows with what is poured, from k on, over R2 -/
def tp_ (R R2 : Nat → Nat) (n o m k : Nat) : Nat → Nat := fun i => if i % 8 = 7 ∧ 8 * k ≤ i ∧ i < 8 * n ∧ i ≠ 8 * o + 7 then R i + pm n o m (i / 8) else R2 i
theorem tp_4 {R R2 : Nat → Nat} {n o m : Nat} (hn : n ≤ 4) : tp_ R R2 n o m 4 = R2 := by
  funext i
  exact if_neg (by omega)
theorem tp_s {R R2 : Nat → Nat} {n o m j : Nat} (h : j < n) (h2 : j ≠ o) : upN (tp_ R R2 n o m (j + 1)) (8 * j + 7) (R (8 * j + 7) + pm n o m j) = tp_ R R2 n o m j := by
  funext i
  unfold upN tp_
  by_cases q : i = 8 * j + 7
  · rw [if_pos q, if_pos (by omega), q, show (8 * j + 7) / 8 = j by omega]
  · rw [if_neg q]
    by_cases q2 : i % 8 = 7 ∧ 8 * (j + 1) ≤ i ∧ i < 8 * n ∧ i ≠ 8 * o + 7
    · rw [if_pos q2, if_pos (by omega)]
    · rw [if_neg q2, if_neg (by omega)]
theorem tp_o {R R2 : Nat → Nat} {n o m j : Nat} (h : j = o ∨ n ≤ j) : tp_ R R2 n o m (j + 1) = tp_ R R2 n o m j := by
  funext i
  unfold tp_
  by_cases q2 : i % 8 = 7 ∧ 8 * (j + 1) ≤ i ∧ i < 8 * n ∧ i ≠ 8 * o + 7
  · rw [if_pos q2, if_pos (by omega)]
  · rw [if_neg q2, if_neg (by omega)]
/-- all but the others' honey as it was -/
abbrev AG (R R2 : Nat → Nat) (n o : Nat) : Prop := ∀ i, ¬ (i % 8 = 7 ∧ i < 8 * n ∧ i ≠ 8 * o + 7) → R2 i = R i
/-- the rows with all that is poured -/
def Rp (R : Nat → Nat) (n o m : Nat) : Nat → Nat := fun i => if i % 8 = 7 ∧ i < 8 * n then R i + pm n o m (i / 8) else R i
theorem tp_Rp {R R2 : Nat → Nat} {n o m : Nat} (h : AG R R2 n o) : tp_ R R2 n o m 0 = Rp R n o m := by
  funext i
  unfold tp_ Rp
  by_cases q : i % 8 = 7 ∧ 8 * 0 ≤ i ∧ i < 8 * n ∧ i ≠ 8 * o + 7
  · rw [if_pos q, if_pos (by omega)]
  · rw [if_neg q, h i (by omega)]
    by_cases q2 : i % 8 = 7 ∧ i < 8 * n
    · rw [if_pos q2]
      have e : i = 8 * o + 7 := by omega
      unfold pm
      rw [if_neg (by omega)]; rfl
    · rw [if_neg q2]
theorem AG.rp {R : Nat → Nat} {n o m : Nat} : AG R (Rp R n o m) n o := by
  intro i h
  unfold Rp
  by_cases q2 : i % 8 = 7 ∧ i < 8 * n
  · rw [if_pos q2]
    unfold pm
    rw [if_neg (by omega)]; rfl
  · rw [if_neg q2]
theorem WR.rp {R : Nat → Nat} (h : WR R) (hh : ∀ s, s < 4 → R (8 * s + 7) ≤ 9) {n o m : Nat} : WR (Rp R n o m) := by
  refine ⟨fun s hs => ?_, fun s f hs hf => ?_⟩
  · have h1 := h.1 s hs
    have h2 := hh s hs
    have h3 := pm_le n o m ((8 * s + 7) / 8)
    unfold Rp
    rw [if_neg (by omega), if_neg (by omega), if_neg (by omega)]
    refine ⟨h1.1, h1.2.1, h1.2.2.1, ?_⟩
    split <;> omega
  · have h1 := h.2 s f hs hf
    unfold Rp
    rw [if_neg (by omega)]
    exact h1
/-- a mixture is better than what there was (q: one more, or 0) -/
abbrev gd (R mi : Nat → Nat) (n w o m q : Nat) : Prop := (mayF R n o m 0 ∧ (q = 0 ∨ pS n o m 0 + 1 < q)) ∧ my (Rp R n o m) mi n w = o
/-- (one more than how little, or 0; the mixture), of the first m mixtures -/
def nd_ (R mi : Nat → Nat) (n w o : Nat) : Nat → Nat × Nat
  | 0 => (0, 0)
  | m + 1 => if gd R mi n w o m (nd_ R mi n w o m).1 then (pS n o m 0 + 1, m) else nd_ R mi n w o m
theorem nd_y {R mi : Nat → Nat} {n w o m : Nat} (h : gd R mi n w o m (nd_ R mi n w o m).1) : nd_ R mi n w o (m + 1) = (pS n o m 0 + 1, m) := if_pos h
theorem nd_n {R mi : Nat → Nat} {n w o m : Nat} (h : ¬ gd R mi n w o m (nd_ R mi n w o m).1) : nd_ R mi n w o (m + 1) = nd_ R mi n w o m := if_neg h
theorem nd_le (R mi : Nat → Nat) (n w o : Nat) : ∀ m, (nd_ R mi n w o m).1 ≤ 37 := by
  intro m
  induction m with
  | zero => exact Nat.zero_le _
  | succ m ih =>
    by_cases q : gd R mi n w o m (nd_ R mi n w o m).1
    · rw [nd_y q]
      have := pS_le n o m 0
      show pS n o m 0 + 1 ≤ 37
      omega
    · rw [nd_n q]; exact ih
/-- how little, for one -/
def ndL (R mi : Nat → Nat) (n w o : Nat) : Nat := (nd_ R mi n w o (10 ^ (n - 1))).1
def ndM (R mi : Nat → Nat) (n w o : Nat) : Nat := (nd_ R mi n w o (10 ^ (n - 1))).2
/-- what need tells -/
def aN (R mi : Nat → Nat) (n w o : Nat) (x : Int32) : Int32 := if ndL R mi n w o = 0 ∨ x.toInt = 0 then oI (ndL R mi n w o) else if x.toInt - 10 < (n : Int) then nI (pm n o (ndM R mi n w o) (x.toInt - 10).toNat) else -1
theorem oI_dec (j : Nat) : nI j + Int32.ofInt (-1) = oI j := by
  rcases Nat.eq_zero_or_pos j with q | q
  · subst q; decide
  · rw [ii_d j q]
    obtain ⟨i, rfl⟩ : ∃ i, j = i + 1 := ⟨j - 1, by omega⟩
    rw [oI_s]; rfl
/-- the digest's step, its tables -/
def dg (h : Int64) (v : Int32) : Int64 := 31 * h + v.toInt64
def dS (R mi : Nat → Nat) (n w s : Nat) (h : Int64) : Nat → Int64
  | 0 => h
  | i + 1 => dg (dS R mi n w s h i) (tS R mi n w s (w15 i))
def dSS (R mi : Nat → Nat) (n w : Nat) (h : Int64) : Nat → Int64
  | 0 => h
  | s + 1 => dS R mi n w s (dSS R mi n w h s) 15
def dW (R mi E : Nat → Nat) (n h d : Nat) (q : Int64) : Nat → Int64
  | 0 => q
  | i + 1 => dg (dW R mi E n h d q i) (tW R mi E n h d i)
def dV (R mi : Nat → Nat) (d : Nat) (q : Int64) : Nat → Int64
  | 0 => q
  | i + 1 => dg (dV R mi d q i) (nI (hb_ R i (mi d)))
def dWW (R mi E : Nat → Nat) (n h : Nat) (q : Int64) : Nat → Int64
  | 0 => q
  | d + 1 => dV R mi d (dW R mi E n h d (dWW R mi E n h q d) 5) n
def dM (R mi : Nat → Nat) (n w : Nat) (q : Int64) : Int64 := if n = 0 then q else dg q (nI (my R mi n w))
def dP (pg : Nat → Nat) (q : Int64) : Nat → Int64
  | 0 => q
  | i + 1 => dg (dP pg q i) (nI (pg i))
def dC_ (R : Nat → Nat) (n w : Nat) (wk : Int32) (h len : Nat) (tr : Int32) (nd : Nat) (q : Int64) : Nat → Int64
  | 0 => q
  | i + 1 => dg (dC_ R n w wk h len tr nd q i) (tC R n w wk h len tr nd i)
def dAll (pg : Nat → Nat) (len : Nat) (R mi : Nat → Nat) (n w : Nat) (wk : Int32) (E : Nat → Nat) (h : Nat) (tr : Int32) (nd : Nat) : Int64 :=
  dC_ R n w wk h len tr nd (dP pg (dM R mi n w (dWW R mi E n h (dSS R mi n w 947 n) w)) len) 9
/-- the class's own object -/
abbrev xoW (a : Nat → Nat) (ik tr nd : Int32) : Nat × va_E := (a 0, .inr (9, [.ref (a 1), .ref (a 3), .ref (a 10), .ref (a 17), .ref (a 24), .ref (a 29), .ref (a 34), .ref (a 35), .int ik, .int tr, .int nd]))
theorem WR.wv {R : Nat → Nat} (h : WR R) {s x y : Nat} (hx : x ≤ 1) (hy : y ≤ 1) : WR (upN (upN R (8 * s + 5) x) (8 * s + 6) y) := (h.up (Or.inl ⟨by omega, hx⟩)).up (Or.inr (Or.inl ⟨by omega, hy⟩))
/-- the two numbers of a place of one, over another's -/
theorem wv_u {R R2 : Nat → Nat} {s : Nat} (h : ∀ x y, upN (upN R2 (8 * s + 5) x) (8 * s + 6) y = upN (upN R (8 * s + 5) x) (8 * s + 6) y) (x y : Nat) : ∀ x' y', upN (upN (upN (upN R2 (8 * s + 5) x) (8 * s + 6) y) (8 * s + 5) x') (8 * s + 6) y' = upN (upN R (8 * s + 5) x') (8 * s + 6) y' := by
  intro x' y'
  rw [upN_tw (by omega)]
  exact h x' y'
theorem mc_4 (g : Nat → Nat) : oI (mc g 4) = nI (g (am g 4)) := rfl
theorem wv_le (R mi : Nat → Nat) (n w s p : Nat) : wv R mi n w s p ≤ w := vt_le _ _ _ _ _
theorem fS_1 {R mi : Nat → Nat} {n w s : Nat} {x : Int32} (h1 : 10 ≤ x.toInt) (h2 : x.toInt < 14) : aS R mi n w s x = nI (R (8 * s + 1 + (x.toInt.toNat - 10))) := by
  unfold aS tS
  rw [if_neg (by omega), if_neg (by omega), if_neg (by omega), if_neg (by omega), if_neg (by omega), if_neg (by omega), if_neg (by omega), if_neg (by omega), if_pos (by omega)]
theorem fS_2 {R mi : Nat → Nat} {n w s : Nat} {x : Int32} (h1 : 20 ≤ x.toInt) (h2 : x.toInt < 24) : aS R mi n w s x = nI (hb_ R s (x.toInt.toNat - 20)) := by
  unfold aS tS
  rw [if_neg (by omega), if_neg (by omega), if_neg (by omega), if_neg (by omega), if_neg (by omega), if_neg (by omega), if_neg (by omega), if_neg (by omega), if_neg (by omega), if_pos (by omega)]
theorem fS_3 {R mi : Nat → Nat} {n w s : Nat} {x : Int32} (h0 : ¬ inR x 7) (h1 : ¬ (10 ≤ x.toInt ∧ x.toInt < 14)) (h2 : ¬ (20 ≤ x.toInt ∧ x.toInt < 24)) : aS R mi n w s x = -102 := by
  unfold aS
  by_cases q : x.toInt < 0
  · rw [if_pos q]
  · rw [if_neg q]
    unfold tS
    rw [if_neg (by omega), if_neg (by omega), if_neg (by omega), if_neg (by omega), if_neg (by omega), if_neg (by omega), if_neg (by omega), if_neg (by omega), if_neg (by omega)]
theorem raw_sub {x : Int32} {k : Nat} (hk : k < 100) (h1 : (k : Int) ≤ x.toInt) (h2 : x.toInt < 100) : x - nI k = nI (x.toInt.toNat - k) := by
  rw [rI_eqi, fb_subI (by rw [nI_toInt (by omega)]; omega) (by rw [nI_toInt (by omega)]; omega), nI_toInt (by omega), nI_toInt (by omega)]
  omega
