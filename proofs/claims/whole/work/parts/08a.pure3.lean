/-! pure words: rows on the way -/
theorem so_s {R E : Nat → Nat} {w f i : Nat} (h : so R E w f i) (h2 : E (4 * i) = w → E (4 * i + 3) = (if hb_ R (E (4 * i + 2)) f < hb_ R (E (4 * i + 1)) f then 1 else 0)) : so R E w f (i + 1) := by
  intro j hj
  rcases Nat.lt_or_ge j i with q | q
  · exact h j q
  · have e : j = i := by omega
    subst e; exact h2
theorem bs_y {R E : Nat → Nat} {w h f : Nat} (q : so R E w f h) : bs_ R E w h (f + 1) = bs_ R E w h f + 2 ^ f := by
  show bs_ R E w h f + (if so R E w f h then 2 ^ f else 0) = _
  rw [if_pos q]
theorem bs_n {R E : Nat → Nat} {w h f : Nat} (q : ¬ so R E w f h) : bs_ R E w h (f + 1) = bs_ R E w h f := by
  show bs_ R E w h f + (if so R E w f h then 2 ^ f else 0) = _
  rw [if_neg q]; rfl
theorem wk_at {R : Nat → Nat} {s f : Nat} (hf : f < 4) : wkP R s f (8 * ((4 * s + f) / 4) + 1 + (4 * s + f) % 4) = R (8 * s + 1 + f) := by
  rw [show 8 * ((4 * s + f) / 4) + 1 + (4 * s + f) % 4 = 8 * s + 1 + f by omega]
  unfold wkP
  rw [if_neg (by omega)]
theorem wk_at2 {R : Nat → Nat} {s f : Nat} (hf : f < 4) : wkP R s (f + 1) (8 * ((4 * s + f) / 4) + 1 + (4 * s + f) % 4) = pr (R (8 * s)) (R (8 * s + 1 + f)) := by
  rw [show 8 * ((4 * s + f) / 4) + 1 + (4 * s + f) % 4 = 8 * s + 1 + f by omega]
  unfold wkP
  rw [if_pos (by omega)]
theorem wk_up {R : Nat → Nat} {s f j : Nat} (hf : f < 4) : upd (fun i => nI (wkP R s f (8 * (i / 4) + 1 + i % 4))) (4 * s + f) (nI (pr (R (8 * s)) (R (8 * s + 1 + f)))) j = nI (wkP R s (f + 1) (8 * (j / 4) + 1 + j % 4)) := by
  by_cases h : j = 4 * s + f
  · rw [h]
    unfold upd
    rw [if_pos rfl, wk_at2 hf]
  · unfold upd
    rw [if_neg h]
    unfold wkP
    dsimp only
    by_cases h2 : 8 * s + 1 ≤ 8 * (j / 4) + 1 + j % 4 ∧ 8 * (j / 4) + 1 + j % 4 < 8 * s + 1 + f
    · rw [if_pos h2, if_pos (by omega)]
    · rw [if_neg h2, if_neg (by omega)]
/-- faults read, the first f -/
def rfP (pg R : Nat → Nat) (s f : Nat) : Nat → Nat := fun j => if 8 * s + 1 ≤ j ∧ j < 8 * s + 1 + f then pg (6 * s + (j - 8 * s)) - 48 else R j
theorem rfP_0 (pg R : Nat → Nat) (s : Nat) : rfP pg R s 0 = R := by
  funext j
  exact if_neg (by omega)
theorem rf_up {pg R : Nat → Nat} {s f j : Nat} (hf : f < 4) : upd (fun i => nI (rfP pg R s f (8 * (i / 4) + 1 + i % 4))) (4 * s + f) (nI (pg (6 * s + 1 + f) - 48)) j = nI (rfP pg R s (f + 1) (8 * (j / 4) + 1 + j % 4)) := by
  by_cases h : j = 4 * s + f
  · rw [h]
    unfold upd rfP
    rw [if_pos rfl, if_pos (by omega), show 6 * s + (8 * ((4 * s + f) / 4) + 1 + (4 * s + f) % 4 - 8 * s) = 6 * s + 1 + f by omega]
  · unfold upd rfP
    rw [if_neg h]
    dsimp only
    by_cases h2 : 8 * s + 1 ≤ 8 * (j / 4) + 1 + j % 4 ∧ 8 * (j / 4) + 1 + j % 4 < 8 * s + 1 + f
    · rw [if_pos h2, if_pos (by omega)]
    · rw [if_neg h2, if_neg (by omega)]
/-- bits at which a is worse than b -/
def mr (R : Nat → Nat) (a b : Nat) : Nat → Nat
  | 0 => 0
  | f + 1 => mr R a b f + (if hb_ R b f < hb_ R a f then 2 ^ f else 0)
theorem mr_lt (R : Nat → Nat) (a b : Nat) : ∀ f, mr R a b f < 2 ^ f := by
  intro f
  induction f with
  | zero => exact Nat.lt_succ_self _
  | succ f ih =>
    show mr R a b f + (if hb_ R b f < hb_ R a f then 2 ^ f else 0) < 2 ^ (f + 1)
    rw [Nat.pow_succ]
    split <;> omega
theorem mr_y {R : Nat → Nat} {a b f : Nat} (q : hb_ R b f < hb_ R a f) : mr R a b (f + 1) = mr R a b f + 2 ^ f := by
  show mr R a b f + (if hb_ R b f < hb_ R a f then 2 ^ f else 0) = _
  rw [if_pos q]
theorem mr_n {R : Nat → Nat} {a b f : Nat} (q : ¬ hb_ R b f < hb_ R a f) : mr R a b (f + 1) = mr R a b f := by
  show mr R a b f + (if hb_ R b f < hb_ R a f then 2 ^ f else 0) = _
  rw [if_neg q]; rfl
/-- how many bits of four -/
def pc4 (x : Nat) : Nat := x % 2 + x / 2 % 2 + x / 4 % 2 + x / 8 % 2
theorem pc4_and : ∀ b, b < 16 → ∀ m, m < 16 → pc4 (b &&& m) = b % 2 * (m % 2) + b / 2 % 2 * (m / 2 % 2) + b / 4 % 2 * (m / 4 % 2) + b / 8 % 2 * (m / 8 % 2) := by decide +kernel
theorem pc4_not : ∀ b, b < 16 → ∀ m, m < 16 → pc4 (b &&& (15 - m)) = (b % 2 + b / 2 % 2 + b / 4 % 2 + b / 8 % 2) - (b % 2 * (m % 2) + b / 2 % 2 * (m / 2 % 2) + b / 4 % 2 * (m / 4 % 2) + b / 8 % 2 * (m / 8 % 2)) := by decide +kernel
theorem and_I : ∀ b, b < 16 → ∀ m, m < 16 → nI b &&& nI m = nI (b &&& m) := by decide +kernel
theorem not_I : ∀ b, b < 16 → ∀ m, m < 16 → nI b &&& (nI m ^^^ (-1)) = nI (b &&& (15 - m)) := by decide +kernel
theorem and_lt : ∀ b, b < 16 → ∀ m, m < 16 → b &&& m < 16 := by decide +kernel
theorem ys_4 {R : Nat → Nat} {bits a b : Nat} (hb : bits < 16) : pc4 (bits &&& mr R a b 4) = ys R bits a b 4 ∧ pc4 (bits &&& (15 - mr R a b 4)) = al bits 4 - ys R bits a b 4 := by
  have hm := mr_lt R a b 4
  rw [pc4_and bits hb _ hm, pc4_not bits hb _ hm]
  have e0 : mr R a b 4 = (if hb_ R b 0 < hb_ R a 0 then 1 else 0) + (if hb_ R b 1 < hb_ R a 1 then 2 else 0) + (if hb_ R b 2 < hb_ R a 2 then 4 else 0) + (if hb_ R b 3 < hb_ R a 3 then 8 else 0) := by
    show 0 + (if hb_ R b 0 < hb_ R a 0 then 2 ^ 0 else 0) + (if hb_ R b 1 < hb_ R a 1 then 2 ^ 1 else 0) + (if hb_ R b 2 < hb_ R a 2 then 2 ^ 2 else 0) + (if hb_ R b 3 < hb_ R a 3 then 2 ^ 3 else 0) = _
    rw [Nat.zero_add]
  have e1 : ys R bits a b 4 = bits % 2 * (if hb_ R b 0 < hb_ R a 0 then 1 else 0) + bits / 2 % 2 * (if hb_ R b 1 < hb_ R a 1 then 1 else 0) + bits / 4 % 2 * (if hb_ R b 2 < hb_ R a 2 then 1 else 0) + bits / 8 % 2 * (if hb_ R b 3 < hb_ R a 3 then 1 else 0) := by
    show 0 + bits / 2 ^ 0 % 2 * _ + bits / 2 ^ 1 % 2 * _ + bits / 2 ^ 2 % 2 * _ + bits / 2 ^ 3 % 2 * _ = _
    rw [Nat.zero_add, show bits / 2 ^ 0 = bits from Nat.div_one bits]
  have e2 : al bits 4 = bits % 2 + bits / 2 % 2 + bits / 4 % 2 + bits / 8 % 2 := by
    show 0 + bits / 2 ^ 0 % 2 + bits / 2 ^ 1 % 2 + bits / 2 ^ 2 % 2 + bits / 2 ^ 3 % 2 = _
    rw [Nat.zero_add, show bits / 2 ^ 0 = bits from Nat.div_one bits]
  rw [e0, e1, e2]
  by_cases c0 : hb_ R b 0 < hb_ R a 0 <;> by_cases c1 : hb_ R b 1 < hb_ R a 1 <;> by_cases c2 : hb_ R b 2 < hb_ R a 2 <;> by_cases c3 : hb_ R b 3 < hb_ R a 3 <;> simp [c0, c1, c2, c3]
/-- the bit count's steps, on small numbers -/
def t1 (x : Nat) : Nat := x - (x / 2 &&& 5)
theorem bc_1 : ∀ x, x < 16 → nI x - (((nI x).toUInt32 >>> ((nI 1).toUInt32 &&& Int32.toUInt32 31)).toInt32 &&& nI 1431655765) = nI (t1 x) := by decide +kernel
theorem bc_2 : ∀ x, x < 16 → (nI (t1 x) &&& nI 858993459) + (((nI (t1 x)).toUInt32 >>> ((nI 2).toUInt32 &&& Int32.toUInt32 31)).toInt32 &&& nI 858993459) = nI (pc4 x) := by decide +kernel
theorem bc_3 : ∀ x, x < 16 → (nI (pc4 x) + ((nI (pc4 x)).toUInt32 >>> ((nI 4).toUInt32 &&& Int32.toUInt32 31)).toInt32) &&& nI 252645135 = nI (pc4 x) := by decide +kernel
theorem bc_4 : ∀ x, x < 16 → nI (pc4 x) + ((nI (pc4 x)).toUInt32 >>> ((nI 8).toUInt32 &&& Int32.toUInt32 31)).toInt32 = nI (pc4 x) := by decide +kernel
theorem bc_5 : ∀ x, x < 16 → nI (pc4 x) + ((nI (pc4 x)).toUInt32 >>> ((nI 16).toUInt32 &&& Int32.toUInt32 31)).toInt32 = nI (pc4 x) := by decide +kernel
theorem bc_6 : ∀ x, x < 16 → nI (pc4 x) &&& nI 63 = nI (pc4 x) := by decide +kernel
/-- the greatest so far, one more, or 0 -/
def mc (g : Nat → Nat) (i : Nat) : Nat := if i = 0 then 0 else g (am g i) + 1
theorem mc_y {g : Nat → Nat} {i : Nat} (h : mc g i < g i + 1) : am g (i + 1) = i ∧ mc g (i + 1) = g i + 1 := by
  rcases Nat.eq_zero_or_pos i with q | q
  · subst q
    have e := am_1 g
    refine ⟨e, ?_⟩
    unfold mc
    rw [if_neg (by omega), e]
  · unfold mc at h
    rw [if_neg (by omega)] at h
    have e : am g (i + 1) = i := am_y (by omega)
    refine ⟨e, ?_⟩
    unfold mc
    rw [if_neg (by omega), e]
theorem mc_n {g : Nat → Nat} {i : Nat} (h : ¬ mc g i < g i + 1) : am g (i + 1) = am g i ∧ mc g (i + 1) = mc g i := by
  rcases Nat.eq_zero_or_pos i with q | q
  · subst q
    exfalso
    apply h
    show 0 < g 0 + 1
    omega
  · unfold mc at h
    rw [if_neg (by omega)] at h
    have e : am g (i + 1) = am g i := am_n (by omega)
    refine ⟨e, ?_⟩
    unfold mc
    rw [if_neg (by omega), if_neg (by omega), e]
theorem oI_toInt {k : Nat} (h : k < 2 ^ 31) : (oI k).toInt = (k : Int) - 1 := by
  unfold oI
  by_cases q : k = 0
  · rw [if_pos q, q]; decide
  · rw [if_neg q, nI_toInt (by omega)]; omega
theorem bit2 : ∀ i, i < 4 → nI i &&& nI 2 = nI (2 * (i / 2)) := by decide +kernel
theorem bit1 : ∀ i, i < 4 → nI i &&& nI 1 = nI (i % 2) := by decide +kernel
theorem rf_end {pg R : Nat → Nat} {s f j : Nat} (h : f = 4) : nI (rfP pg R s f (8 * (j / 4) + 1 + j % 4)) = nI (rd1 pg R s (8 * (j / 4) + 1 + j % 4)) := by
  subst h
  unfold rfP rd1
  by_cases q : 8 * s + 1 ≤ 8 * (j / 4) + 1 + j % 4 ∧ 8 * (j / 4) + 1 + j % 4 < 8 * s + 1 + 4
  · rw [if_pos q, if_pos (show 8 * s ≤ 8 * (j / 4) + 1 + j % 4 ∧ 8 * (j / 4) + 1 + j % 4 < 8 * s + 8 by omega), if_neg (by omega), if_pos (by omega), show 6 * s + (8 * (j / 4) + 1 + j % 4 - 8 * s) = 6 * ((8 * (j / 4) + 1 + j % 4) / 8) + (8 * (j / 4) + 1 + j % 4) % 8 by omega]
  · rw [if_neg q, if_neg (show ¬ (8 * s ≤ 8 * (j / 4) + 1 + j % 4 ∧ 8 * (j / 4) + 1 + j % 4 < 8 * s + 8) by omega)]
