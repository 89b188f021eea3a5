/-! pure words: the model's steps -/
theorem fb_in (x : Int32) (lo hi : Int) : (lo ≤ x.toInt ∧ x.toInt ≤ hi) = (lo ≤ x.toInt ∧ x.toInt ≤ hi) := rfl
theorem tS_10 {R mi : Nat → Nat} {n w s k : Nat} (h : 10 ≤ k ∧ k ≤ 13) : tS R mi n w s k = nI (R (8 * s + k - 9)) := by
  unfold tS
  rw [if_neg (by omega), if_neg (by omega), if_neg (by omega), if_neg (by omega), if_neg (by omega), if_neg (by omega), if_neg (by omega), if_pos (by omega), show 8 * s + 1 + (k - 10) = 8 * s + k - 9 by omega]
theorem tS_20 {R mi : Nat → Nat} {n w s k : Nat} (h : 20 ≤ k ∧ k ≤ 23) : tS R mi n w s k = nI (hb_ R s (k - 20)) := by
  unfold tS
  rw [if_neg (by omega), if_neg (by omega), if_neg (by omega), if_neg (by omega), if_neg (by omega), if_neg (by omega), if_neg (by omega), if_neg (by omega), if_pos (by omega)]
theorem aS_10 {R mi : Nat → Nat} {n w s : Nat} {x : Int32} (h : 10 ≤ x.toInt ∧ x.toInt ≤ 13) : ∃ k, 10 ≤ k ∧ k ≤ 13 ∧ x = nI k ∧ aS R mi n w s x = nI (R (8 * s + k - 9)) := by
  obtain ⟨k, hk, hk2, rfl⟩ := inR_of (show inR x 14 from ⟨by omega, by omega⟩)
  rw [nI_toInt hk2] at h
  exact ⟨k, by omega, by omega, rfl, (aS_n hk2).trans (tS_10 ⟨by omega, by omega⟩)⟩
theorem aS_20 {R mi : Nat → Nat} {n w s : Nat} {x : Int32} (h : 20 ≤ x.toInt ∧ x.toInt ≤ 23) : ∃ k, 20 ≤ k ∧ k ≤ 23 ∧ x = nI k ∧ aS R mi n w s x = nI (hb_ R s (k - 20)) := by
  obtain ⟨k, hk, hk2, rfl⟩ := inR_of (show inR x 24 from ⟨by omega, by omega⟩)
  rw [nI_toInt hk2] at h
  exact ⟨k, by omega, by omega, rfl, (aS_n hk2).trans (tS_20 ⟨by omega, by omega⟩)⟩
theorem mI_0 (g : Nat → Nat) : oI (mc g 0) = -1 := rfl
/-- the place of the worst, or none yet -/
def mI (g : Nat → Nat) (i : Nat) : Int32 := if i = 0 then -1 else nI (am g i)
theorem mI_y {g : Nat → Nat} {i : Nat} (h : mc g i < g i + 1) : mI g (i + 1) = nI i ∧ mc g (i + 1) = g i + 1 := by
  unfold mI
  rw [if_neg (by omega), (mc_y h).1]
  exact ⟨rfl, (mc_y h).2⟩
theorem mI_n {g : Nat → Nat} {i : Nat} (h : ¬ mc g i < g i + 1) : mI g (i + 1) = mI g i ∧ mc g (i + 1) = mc g i := by
  refine ⟨?_, (mc_n h).2⟩
  unfold mI
  rcases Nat.eq_zero_or_pos i with q | q
  · subst q
    exfalso
    apply h
    show 0 < g 0 + 1
    omega
  · rw [if_neg (by omega), if_neg (by omega), (mc_n h).1]
theorem mI_4 (g : Nat → Nat) : mI g 4 = nI (am g 4) := rfl
