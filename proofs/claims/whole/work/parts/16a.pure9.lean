/-! pure words: the model's asks, weeks -/
theorem as_y1 {R : Nat → Nat} {bits n c : Nat} (h : (c / 4 ≠ c % 4 ∧ c / 4 < n ∧ c % 4 < n) ∧ lw_ R bits (c / 4) (c % 4) < (as_ R bits n c).2) : oI (as_ R bits n (c + 1)).1 = nI c ∧ (as_ R bits n (c + 1)).2 = lw_ R bits (c / 4) (c % 4) := by
  rw [as_y h]; exact ⟨oI_s _, rfl⟩
theorem aW_e {R mi E : Nat → Nat} {n h d k : Nat} {v : Int32} (hk : k < 2 ^ 31) (e : tW R mi E n h d k = v) : v = aW R mi E n h d (nI k) := e.symm.trans (aW_n hk).symm
theorem vI_e {R mi : Nat → Nat} {n w d s : Nat} {v : Int32} (q : d < w) (hw : w ≤ 5) (h : s < n) (hn : n ≤ 4) (e : nI (hb_ R s (mi d)) = v) : v = vI R mi n w (nI d) (nI s) := e.symm.trans (vI_t q hw h hn).symm
