/-! pure words: rows copied one by one, what the model says of a singer -/
def mix_ (f g : Nat → Int32) (i : Nat) : Nat → Int32 := fun j => if j < i then f j else g j
theorem mix_0 (f g : Nat → Int32) : mix_ f g 0 = g := by
  funext j
  exact if_neg (Nat.not_lt_zero j)
theorem mix_s {f g : Nat → Int32} {i : Nat} : upd (mix_ f g i) i (f i) = mix_ f g (i + 1) := by
  funext j
  unfold upd mix_
  by_cases h : j = i
  · rw [if_pos h, if_pos (by omega), h]
  · rw [if_neg h]
    by_cases h2 : j < i
    · rw [if_pos h2, if_pos (by omega)]
    · rw [if_neg h2, if_neg (by omega)]
/-- how many of a singer's numbers are said before k -/
def cw_ (k : Nat) : Nat := if k ≤ 7 then k else if k < 10 then 7 else if k ≤ 14 then k - 3 else if k < 20 then 11 else k - 9
theorem cw_y {k : Nat} (h : k < 24) (q : k < 7 ∨ (10 ≤ k ∧ k ≤ 13) ∨ 19 < k) : w15 (cw_ k) = k ∧ cw_ (k + 1) = cw_ k + 1 := by
  unfold w15 cw_
  (repeat' split) <;> omega
theorem cw_n {k : Nat} (h : k < 24) (q : ¬ (k < 7 ∨ (10 ≤ k ∧ k ≤ 13) ∨ 19 < k)) : cw_ (k + 1) = cw_ k := by
  unfold cw_
  (repeat' split) <;> omega
theorem dS_y {R mi : Nat → Nat} {n w s k : Nat} {h : Int64} (h1 : k < 24) (q : k < 7 ∨ (10 ≤ k ∧ k ≤ 13) ∨ 19 < k) : dS R mi n w s h (cw_ (k + 1)) = dg (dS R mi n w s h (cw_ k)) (tS R mi n w s k) := by
  rw [(cw_y h1 q).2]
  show dg (dS R mi n w s h (cw_ k)) (tS R mi n w s (w15 (cw_ k))) = _
  rw [(cw_y h1 q).1]
