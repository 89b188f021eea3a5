/-! pure words: years, counts -/
theorem aC_e {R : Nat → Nat} {n w : Nat} {wk : Int32} {h len : Nat} {tr : Int32} {nd k : Nat} {v : Int32} (hk : k < 2 ^ 31) (e : tC R n w wk h len tr nd k = v) : v = aC R n w wk h len tr nd (nI k) := e.symm.trans (aC_n hk).symm
theorem WR_yR {R mi : Nat → Nat} (h : WR R) {n w x : Nat} (hn : n ≤ 4) (hn1 : 1 ≤ n) : ∀ k, WR (yR R mi n w x k).1 := by
  intro k
  induction k with
  | zero => exact h
  | succ k ih =>
    have h1 : nS (yR R mi n w x k).2.1 / 65536 % n < n := Nat.mod_lt _ (by omega)
    exact (ih.wk (by omega) (by omega)).up (Or.inl ⟨by omega, by omega⟩)
theorem yR_b {R mi : Nat → Nat} {n w x k : Nat} : (yR R mi n w x (k + 1)).2.1 = nS (nS (yR R mi n w x k).2.1) := rfl
theorem yR_lt {R mi : Nat → Nat} {n w x : Nat} (hx : x < 2147483648) : ∀ k, (yR R mi n w x k).2.1 < 2147483648 := by
  intro k
  induction k with
  | zero => exact hx
  | succ k ih => exact nS_lt _
theorem yR_c_le {R mi : Nat → Nat} {n w x : Nat} : ∀ k, (yR R mi n w x k).2.2.1 ≤ k := by
  intro k
  induction k with
  | zero => exact Nat.le_refl 0
  | succ k ih =>
    show (yR R mi n w x k).2.2.1 + (if _ then 1 else 0) ≤ k + 1
    split <;> omega
/-- what the years tell -/
def yA (R mi : Nat → Nat) (n w x t k : Nat) : Int32 := if k = 0 then nI (yR R mi n w x t).2.2.1 else if k = 1 then oI (yR R mi n w x t).2.2.2 else nI (yR R mi n w x t).2.1
theorem inR_lt {j n : Nat} (hj : j < 2 ^ 31) : inR (nI j) n ↔ j < n := by
  rw [inR, nI_toInt hj]; omega
