/-! pure words: the page, what is heard, what would be -/
theorem va_D.as {A : Nat → Prop} {ws w1 : va_W} (h : va_D A ws) (e : ws.map (fun q => q.1) = w1.map (fun q => q.1)) : va_D A w1 := by
  have key : ∀ (i : Nat) (q : Nat × va_E), w1[i]? = some q → ∃ q0, ws[i]? = some q0 ∧ q0.1 = q.1 := by
    intro i q hq
    have h1 : (w1.map (fun q => q.1))[i]? = some q.1 := by rw [List.getElem?_map, hq]; rfl
    rw [← e, List.getElem?_map] at h1
    cases hx : ws[i]? with
    | none => rw [hx] at h1; cases h1
    | some q0 => rw [hx] at h1; exact ⟨q0, rfl, Option.some.inj h1⟩
  refine ⟨fun i j p q hi hj hpq => ?_, fun k q hk => ?_⟩
  · obtain ⟨p0, a1, a2⟩ := key i p hi
    obtain ⟨q0, b1, b2⟩ := key j q hj
    exact h.1 i j p0 q0 a1 b1 (a2.trans (hpq.trans b2.symm))
  · obtain ⟨q0, a1, a2⟩ := key k q hk
    rw [← a2]
    exact h.2 k q0 a1
/-- none, or a number -/
def oI (k : Nat) : Int32 := if k = 0 then -1 else nI (k - 1)
theorem oI_0 : oI 0 = -1 := rfl
theorem oI_s (k : Nat) : oI (k + 1) = nI k := rfl
/-- a letter at a place of the singers is right -/
abbrev rS (c p : Nat) : Prop := (p % 6 = 0 ∧ ¬ kc c = -1) ∨ (0 < p % 6 ∧ p % 6 < 5 ∧ 48 ≤ c ∧ c ≤ 57) ∨ (p % 6 = 5 ∧ ((c = 44 ∧ p / 6 + 1 < 4) ∨ (c = 59 ∧ 2 ≤ p / 6 + 1)))
abbrev rW (c q : Nat) : Prop := q ≤ 5 ∧ 48 ≤ c ∧ c < 52
/-- the place of the first ';' of the first k letters, or k -/
def se (pg : Nat → Nat) : Nat → Nat
  | 0 => 0
  | k + 1 => if se pg k < k then se pg k else if pg k = 59 then k else k + 1
theorem se_le (pg : Nat → Nat) : ∀ k, se pg k ≤ k := by
  intro k
  induction k with
  | zero => exact Nat.le_refl _
  | succ k ih =>
    show (if se pg k < k then se pg k else if pg k = 59 then k else k + 1) ≤ k + 1
    (repeat' split) <;> omega
theorem se_a {pg : Nat → Nat} {k : Nat} (h : se pg k < k) : se pg (k + 1) = se pg k := if_pos h
theorem se_y {pg : Nat → Nat} {k : Nat} (h : se pg k = k) (h2 : pg k = 59) : se pg (k + 1) = k := by
  show (if se pg k < k then se pg k else if pg k = 59 then k else k + 1) = k
  rw [if_neg (by omega), if_pos h2]
theorem se_n {pg : Nat → Nat} {k : Nat} (h : se pg k = k) (h2 : ¬ pg k = 59) : se pg (k + 1) = k + 1 := by
  show (if se pg k < k then se pg k else if pg k = 59 then k else k + 1) = k + 1
  rw [if_neg (by omega), if_neg h2]
theorem se_stop {pg : Nat → Nat} {i : Nat} (h : se pg i = i) (h2 : pg i = 59) : ∀ k, i < k → se pg k = i := by
  intro k
  induction k with
  | zero => intro h; omega
  | succ k ih =>
    intro hk
    rcases Nat.lt_or_ge i k with q | q
    · have := ih q
      rw [se_a (by omega)]; exact this
    · have e : i = k := by omega
      subst e
      exact se_y h h2
abbrev rt (pg : Nat → Nat) (k : Nat) : Prop := (se pg k = k ∧ rS (pg k) k) ∨ (se pg k < k ∧ rW (pg k) (k - se pg k))
/-- the first wrong letter among the first k, or k -/
def fw (pg : Nat → Nat) : Nat → Nat
  | 0 => 0
  | k + 1 => if fw pg k = k ∧ rt pg k then k + 1 else fw pg k
theorem fw_le (pg : Nat → Nat) : ∀ k, fw pg k ≤ k := by
  intro k
  induction k with
  | zero => exact Nat.le_refl _
  | succ k ih =>
    show (if fw pg k = k ∧ rt pg k then k + 1 else fw pg k) ≤ k + 1
    split <;> omega
theorem fw_y {pg : Nat → Nat} {k : Nat} (h : fw pg k = k) (h2 : rt pg k) : fw pg (k + 1) = k + 1 := if_pos ⟨h, h2⟩
theorem fw_stop {pg : Nat → Nat} {i : Nat} (h : fw pg i = i) (h2 : ¬ rt pg i) : ∀ k, i < k → fw pg k = i := by
  intro k
  induction k with
  | zero => intro h; omega
  | succ k ih =>
    intro hk
    show (if fw pg k = k ∧ rt pg k then k + 1 else fw pg k) = i
    rcases Nat.lt_or_ge i k with q | q
    · have := ih q
      rw [if_neg (by omega)]; exact this
    · have e : i = k := by omega
      subst e
      rw [if_neg (fun q => h2 q.2)]; exact h
/-- the letters of a page that has got so far are right, one by one -/
theorem fw_rt {pg : Nat → Nat} : ∀ {k : Nat}, fw pg k = k → ∀ i, i < k → rt pg i := by
  intro k
  induction k with
  | zero => intro _ i hi; omega
  | succ k ih =>
    intro h i hi
    have h1 : fw pg k = k ∧ rt pg k := by
      by_cases q : fw pg k = k ∧ rt pg k
      · exact q
      · have e : fw pg (k + 1) = fw pg k := if_neg q
        have := fw_le pg k
        omega
    rcases Nat.lt_or_ge i k with q | q
    · exact ih h1.1 i q
    · have e : i = k := by omega
      subst e; exact h1.2
theorem se_all {pg : Nat → Nat} {k : Nat} (h : se pg k = k) : ∀ i, i < k → se pg i = i ∧ ¬ pg i = 59 := by
  intro i hi
  have h1 := se_le pg i
  rcases Nat.lt_or_ge (se pg i) i with q | q
  · exfalso
    have : ∀ j, se pg (i + j) = se pg i := by
      intro j
      induction j with
      | zero => rfl
      | succ j ih => rw [show i + (j + 1) = (i + j) + 1 from rfl, se_a (by omega)]; exact ih
    have e := this (k - i)
    rw [show i + (k - i) = k by omega] at e
    omega
  · refine ⟨by omega, fun hp => ?_⟩
    have := se_stop (pg := pg) (i := i) (by omega) hp k hi
    omega
/-- the end as the class holds it -/
def eN (pg : Nat → Nat) (k : Nat) : Int32 := if se pg k = k then -1 else nI (se pg k)
/-- a kind's number by its letter -/
def kn (c : Nat) : Nat := if c = 115 then 0 else if c = 116 then 1 else if c = 98 then 2 else if c = 100 then 3 else 4
theorem kn_lt (c : Nat) : kn c < 5 := by
  unfold kn
  (repeat' split) <;> omega
theorem kc_kn {c : Nat} (h : ¬ kc c = -1) : kc c = nI (kn c) := by
  unfold kc kn at *
  (repeat' split) <;> first | rfl | (exfalso; simp_all)
theorem kc_n1 {k : Nat} (h : k < 5) : ¬ nI k = -1 := by
  rcases (show k = 0 ∨ k = 1 ∨ k = 2 ∨ k = 3 ∨ k = 4 by omega) with rfl | rfl | rfl | rfl | rfl <;> decide
/-- the town's rows behind s singers read -/
def rdR (pg R : Nat → Nat) (s : Nat) : Nat → Nat := fun j => if j < 8 * s then (if j % 8 = 0 then kn (pg (6 * (j / 8))) else if j % 8 < 5 then pg (6 * (j / 8) + j % 8) - 48 else 0) else R j
/-- what is heard of a widow would be so -/
abbrev so (R E : Nat → Nat) (w f h : Nat) : Prop := ∀ i, i < h → (E (4 * i) = w → E (4 * i + 3) = (if hb_ R (E (4 * i + 2)) f < hb_ R (E (4 * i + 1)) f then 1 else 0))
def bs_ (R E : Nat → Nat) (w h : Nat) : Nat → Nat
  | 0 => 0
  | f + 1 => bs_ R E w h f + (if so R E w f h then 2 ^ f else 0)
theorem bs_lt (R E : Nat → Nat) (w h : Nat) : ∀ f, bs_ R E w h f < 2 ^ f := by
  intro f
  induction f with
  | zero => exact Nat.lt_succ_self _
  | succ f ih =>
    show bs_ R E w h f + (if so R E w f h then 2 ^ f else 0) < 2 ^ (f + 1)
    rw [Nat.pow_succ]
    split <;> omega
theorem or_bit : ∀ f, f < 4 → ∀ x, x < 2 ^ f → nI x ||| nI (2 ^ f) = nI (x + 2 ^ f) := by decide +kernel
theorem or_0 : ∀ x, x < 16 → nI x ||| nI 0 = nI x := by decide +kernel
theorem sh_bit : ∀ f, f < 4 → nI 1 <<< (nI f &&& 31) = nI (2 ^ f) := by decide +kernel
theorem sr_bit : ∀ x, x < 16 → ∀ f, f < 4 → (nI x >>> (nI f &&& 31)) &&& nI 1 = nI (x / 2 ^ f % 2) := by decide +kernel
/-- of the bits: those at which a is worse than b; all -/
def ys (R : Nat → Nat) (bits a b : Nat) : Nat → Nat
  | 0 => 0
  | f + 1 => ys R bits a b f + bits / 2 ^ f % 2 * (if hb_ R b f < hb_ R a f then 1 else 0)
def al (bits : Nat) : Nat → Nat
  | 0 => 0
  | f + 1 => al bits f + bits / 2 ^ f % 2
theorem ys_le (R : Nat → Nat) (bits a b : Nat) : ∀ f, ys R bits a b f ≤ al bits f := by
  intro f
  induction f with
  | zero => exact Nat.le_refl _
  | succ f ih =>
    show ys R bits a b f + bits / 2 ^ f % 2 * (if hb_ R b f < hb_ R a f then 1 else 0) ≤ al bits f + bits / 2 ^ f % 2
    split <;> omega
theorem al_le (bits : Nat) : ∀ f, al bits f ≤ f := by
  intro f
  induction f with
  | zero => exact Nat.le_refl _
  | succ f ih =>
    show al bits f + bits / 2 ^ f % 2 ≤ f + 1
    omega
def lw_ (R : Nat → Nat) (bits a b : Nat) : Nat := if al bits 4 - ys R bits a b 4 < ys R bits a b 4 then ys R bits a b 4 else al bits 4 - ys R bits a b 4
theorem lw_le (R : Nat → Nat) (bits a b : Nat) : lw_ R bits a b ≤ 4 := by
  have h1 := ys_le R bits a b 4
  have h2 := al_le bits 4
  unfold lw_
  split <;> omega
/-- what to ask: (one more than the pair, or 0; how few are left), of the first c pairs -/
def as_ (R : Nat → Nat) (bits n : Nat) : Nat → Nat × Nat
  | 0 => (0, 5)
  | c + 1 => if (c / 4 ≠ c % 4 ∧ c / 4 < n ∧ c % 4 < n) ∧ lw_ R bits (c / 4) (c % 4) < (as_ R bits n c).2 then (c + 1, lw_ R bits (c / 4) (c % 4)) else as_ R bits n c
theorem as_y {R : Nat → Nat} {bits n c : Nat} (h : (c / 4 ≠ c % 4 ∧ c / 4 < n ∧ c % 4 < n) ∧ lw_ R bits (c / 4) (c % 4) < (as_ R bits n c).2) : as_ R bits n (c + 1) = (c + 1, lw_ R bits (c / 4) (c % 4)) := if_pos h
theorem as_n {R : Nat → Nat} {bits n c : Nat} (h : ¬ ((c / 4 ≠ c % 4 ∧ c / 4 < n ∧ c % 4 < n) ∧ lw_ R bits (c / 4) (c % 4) < (as_ R bits n c).2)) : as_ R bits n (c + 1) = as_ R bits n c := if_neg h
theorem as_le (R : Nat → Nat) (bits n : Nat) : ∀ c, (as_ R bits n c).1 ≤ c ∧ (as_ R bits n c).2 ≤ 5 := by
  intro c
  induction c with
  | zero => exact ⟨Nat.le_refl _, Nat.le_refl _⟩
  | succ c ih =>
    by_cases q : (c / 4 ≠ c % 4 ∧ c / 4 < n ∧ c % 4 < n) ∧ lw_ R bits (c / 4) (c % 4) < (as_ R bits n c).2
    · rw [as_y q]; exact ⟨Nat.le_refl _, by have := lw_le R bits (c / 4) (c % 4); show lw_ _ _ _ _ ≤ 5; omega⟩
    · rw [as_n q]; exact ⟨by omega, ih.2⟩
def askI (R : Nat → Nat) (bits n : Nat) : Int32 := if bits = 0 then -1 else oI (as_ R bits n 16).1
/-- a week of one, behind f faults -/
def wkP (R : Nat → Nat) (s f : Nat) : Nat → Nat := fun j => if 8 * s + 1 ≤ j ∧ j < 8 * s + 1 + f then pr (R (8 * s)) (R j) else R j
def wsm (R : Nat → Nat) (s : Nat) : Nat → Nat
  | 0 => 0
  | f + 1 => wsm R s f + pr (R (8 * s)) (R (8 * s + 1 + f))
theorem wkP_0 (R : Nat → Nat) (s : Nat) : wkP R s 0 = R := by
  funext j
  exact if_neg (by omega)
theorem wkP_s (R : Nat → Nat) (s f : Nat) : upN (wkP R s f) (8 * s + 1 + f) (pr (R (8 * s)) (R (8 * s + 1 + f))) = wkP R s (f + 1) := by
  funext j
  unfold upN wkP
  by_cases h : j = 8 * s + 1 + f
  · subst h
    rw [if_pos rfl, if_pos (by omega)]
  · rw [if_neg h]
    by_cases h2 : 8 * s + 1 ≤ j ∧ j < 8 * s + 1 + f
    · rw [if_pos h2, if_pos (by omega)]
    · rw [if_neg h2, if_neg (by omega)]
theorem WR.wk {R : Nat → Nat} (h : WR R) {s f : Nat} (hf : f ≤ 4) (hs : s < 4) : WR (wkP R s f) := by
  refine ⟨fun q hq => ?_, fun q g hq hg => ?_⟩
  · have h1 := h.1 q hq
    unfold wkP
    rw [if_neg (by omega), if_neg (by omega), if_neg (by omega), if_neg (by omega)]
    exact h1
  · have h1 := h.2 q g hq hg
    unfold wkP
    split
    · exact pr_le h1
    · exact h1
theorem WR.up {R : Nat → Nat} (h : WR R) {k v : Nat} (hc : (k % 8 = 5 ∧ v ≤ 1) ∨ (k % 8 = 6 ∧ v ≤ 1) ∨ (k % 8 = 7 ∧ v ≤ 18)) : WR (upN R k v) := by
  refine ⟨fun q hq => ?_, fun q g hq hg => ?_⟩
  · have h1 := h.1 q hq
    unfold upN
    refine ⟨?_, ?_, ?_, ?_⟩ <;> (split <;> omega)
  · have h1 := h.2 q g hq hg
    unfold upN
    split <;> omega
theorem upN_tw {R : Nat → Nat} {i j a b a' b' : Nat} (h : i ≠ j) : upN (upN (upN (upN R i a) j b) i a') j b' = upN (upN R i a') j b' := by
  funext k
  unfold upN
  by_cases h1 : k = j
  · rw [if_pos h1, if_pos h1]
  · rw [if_neg h1, if_neg h1]
    by_cases h2 : k = i
    · rw [if_pos h2, if_neg h1, if_pos h2]
    · rw [if_neg h2, if_neg h1, if_neg h2, if_neg h2]
theorem upN_bk {R : Nat → Nat} {i j a b : Nat} (h : i ≠ j) : upN (upN (upN (upN R i a) j b) i (R i)) j (R j) = R := by
  rw [upN_tw h]
  funext k
  unfold upN
  by_cases h1 : k = j
  · rw [if_pos h1, h1]
  · rw [if_neg h1]
    by_cases h2 : k = i
    · rw [if_pos h2, h2]
    · rw [if_neg h2]
/-- how many would be for s at a place (2 cold, 1 left) -/
def wv (R mi : Nat → Nat) (n w s p : Nat) : Nat := vt (upN (upN R (8 * s + 5) (p / 2)) (8 * s + 6) (p % 2)) mi n s w
/-- the next seed; a draw -/
def nS (x : Nat) : Nat := (1103515245 * x + 12345) % 2147483648
def yR (R mi : Nat → Nat) (n w x : Nat) : Nat → (Nat → Nat) × Nat × Nat × Nat
  | 0 => (R, x, 0, 0)
  | k + 1 =>
    (upN (wkP (yR R mi n w x k).1 (nS (yR R mi n w x k).2.1 / 65536 % n) 4) (8 * (nS (nS (yR R mi n w x k).2.1) / 65536 % n) + 5) (1 - wkP (yR R mi n w x k).1 (nS (yR R mi n w x k).2.1 / 65536 % n) 4 (8 * (nS (nS (yR R mi n w x k).2.1) / 65536 % n) + 5)),
      nS (nS (yR R mi n w x k).2.1),
      (yR R mi n w x k).2.2.1 + (if my (upN (wkP (yR R mi n w x k).1 (nS (yR R mi n w x k).2.1 / 65536 % n) 4) (8 * (nS (nS (yR R mi n w x k).2.1) / 65536 % n) + 5) (1 - wkP (yR R mi n w x k).1 (nS (yR R mi n w x k).2.1 / 65536 % n) 4 (8 * (nS (nS (yR R mi n w x k).2.1) / 65536 % n) + 5))) mi n w = 0 then 1 else 0),
      my (upN (wkP (yR R mi n w x k).1 (nS (yR R mi n w x k).2.1 / 65536 % n) 4) (8 * (nS (nS (yR R mi n w x k).2.1) / 65536 % n) + 5) (1 - wkP (yR R mi n w x k).1 (nS (yR R mi n w x k).2.1 / 65536 % n) 4 (8 * (nS (nS (yR R mi n w x k).2.1) / 65536 % n) + 5))) mi n w + 1)
theorem nS_lt (x : Nat) : nS x < 2147483648 := Nat.mod_lt _ (by decide)
/-- the seed as the machine counts it -/
theorem seed_I {x : Nat} (h : x < 2147483648) : ((1103515245 * (nI x).toInt64 + 12345) &&& 2147483647 : Int64).toInt32 = nI (nS x) := by
  rw [nI_l (by omega)]
  have e1 : (1103515245 : Int64) = lN 1103515245 := rfl
  have e2 : (12345 : Int64) = lN 12345 := rfl
  rw [e1, e2, lN_mul, lN_add]
  have e3 : lN (1103515245 * x + 12345) &&& (2147483647 : Int64) = lN ((1103515245 * x + 12345) % 2 ^ 31) := by
    rw [← Int64.toBitVec_inj]
    show (BitVec.ofNat 64 _) &&& (BitVec.ofNat 64 _) = BitVec.ofNat 64 _
    apply BitVec.eq_of_toNat_eq
    rw [BitVec.toNat_and, BitVec.toNat_ofNat, BitVec.toNat_ofNat, BitVec.toNat_ofNat]
    rw [Nat.mod_eq_of_lt (a := 1103515245 * x + 12345) (by omega), Nat.mod_eq_of_lt (a := 2147483647) (by decide)]
    rw [show (2147483647 : Nat) = 2 ^ 31 - 1 from rfl, Nat.and_two_pow_sub_one_eq_mod]
    rw [Nat.mod_eq_of_lt (a := (1103515245 * x + 12345) % 2 ^ 31) (by omega)]
  rw [e3, lN_i]
  rfl
