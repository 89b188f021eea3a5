/-! pure words: the model's mixtures -/
theorem oI_sub {k : Nat} (h : 1 ≤ k) : nI k - nI 1 = oI k := by
  obtain ⟨j, rfl⟩ : ∃ j, k = j + 1 := ⟨k - 1, by omega⟩
  rw [oI_s]
  exact pk_sub (by omega)
/-- the row poured, from k on, for those there are -/
def pQ (P : Nat → Nat) (n o m k : Nat) : Nat → Nat := fun j => if k ≤ j ∧ j < n then pm n o m j else P j
theorem pQ_n {P : Nat → Nat} {n o m : Nat} : pQ P n o m n = P := by
  funext j
  exact if_neg (by omega)
theorem pQ_s {P : Nat → Nat} {n o m k : Nat} (h : k < n) : upN (pQ P n o m (k + 1)) k (pm n o m k) = pQ P n o m k := by
  funext j
  unfold upN pQ
  by_cases q : j = k
  · rw [if_pos q, if_pos (by omega), q]
  · rw [if_neg q]
    by_cases q2 : k + 1 ≤ j ∧ j < n
    · rw [if_pos q2, if_pos (by omega)]
    · rw [if_neg q2, if_neg (by omega)]
theorem pQ_at {P : Nat → Nat} {n o m j : Nat} (h : j < n) : pQ P n o m 0 j = pm n o m j := if_pos ⟨Nat.zero_le _, h⟩
/-- more for the first k -/
def aR (R : Nat → Nat) (n o m k : Nat) : Nat → Nat := fun i => if i % 8 = 7 ∧ i < 8 * k then R i + pm n o m (i / 8) else R i
theorem aR_0 {R : Nat → Nat} {n o m : Nat} : aR R n o m 0 = R := by
  funext i
  exact if_neg (by omega)
theorem aR_n {R : Nat → Nat} {n o m : Nat} : aR R n o m n = Rp R n o m := rfl
theorem aR_at {R : Nat → Nat} {n o m k : Nat} : aR R n o m k (8 * k + 7) = R (8 * k + 7) := if_neg (by omega)
theorem aR_s {R : Nat → Nat} {n o m k : Nat} : upN (aR R n o m k) (8 * k + 7) (R (8 * k + 7) + pm n o m k) = aR R n o m (k + 1) := by
  funext i
  unfold upN aR
  by_cases q : i = 8 * k + 7
  · rw [if_pos q, if_pos (by omega), q, show (8 * k + 7) / 8 = k by omega]
  · rw [if_neg q]
    by_cases q2 : i % 8 = 7 ∧ i < 8 * k
    · rw [if_pos q2, if_pos (by omega)]
    · rw [if_neg q2, if_neg (by omega)]
/-- more for those from k on -/
def bR (R : Nat → Nat) (n o m k : Nat) : Nat → Nat := fun i => if i % 8 = 7 ∧ 8 * k ≤ i ∧ i < 8 * n then R i + pm n o m (i / 8) else R i
theorem bR_0 {R : Nat → Nat} {n o m : Nat} : bR R n o m 0 = Rp R n o m := by
  funext i
  unfold bR Rp
  by_cases q2 : i % 8 = 7 ∧ i < 8 * n
  · rw [if_pos q2, if_pos (by omega)]
  · rw [if_neg q2, if_neg (by omega)]
theorem bR_n {R : Nat → Nat} {n o m : Nat} : bR R n o m n = R := by
  funext i
  exact if_neg (by omega)
theorem bR_at {R : Nat → Nat} {n o m k : Nat} (h : k < n) : bR R n o m k (8 * k + 7) = R (8 * k + 7) + pm n o m k := by
  unfold bR
  rw [if_pos (by omega), show (8 * k + 7) / 8 = k by omega]
theorem bR_s {R : Nat → Nat} {n o m k : Nat} (h : k < n) : upN (bR R n o m k) (8 * k + 7) (R (8 * k + 7)) = bR R n o m (k + 1) := by
  funext i
  unfold upN bR
  by_cases q : i = 8 * k + 7
  · rw [if_pos q, if_neg (by omega), q]
  · rw [if_neg q]
    by_cases q2 : i % 8 = 7 ∧ 8 * (k + 1) ≤ i ∧ i < 8 * n
    · rw [if_pos q2, if_pos (by omega)]
    · rw [if_neg q2, if_neg (by omega)]
theorem pS_2 {n o m : Nat} (h : n ≤ 4) (h2 : 2 ≤ n) : pS n o m 0 = pm n o m 0 + pm n o m 1 + (if 2 < n then pm n o m 2 else 0) + (if 3 < n then pm n o m 3 else 0) := by
  show pm n o m 0 + pm n o m 1 + pm n o m 2 + pm n o m 3 = _
  rcases (show n = 2 ∨ n = 3 ∨ n = 4 by omega) with rfl | rfl | rfl
  · rw [pm_0 (j := 2) (Or.inr (Nat.le_refl _)), pm_0 (j := 3) (Or.inr (by decide))]; rfl
  · rw [pm_0 (j := 3) (Or.inr (by decide))]; rfl
  · rfl
/-- nobody gets too much: one more is asked, the asker himself too -/
theorem may_m {R : Nat → Nat} {n o m j : Nat} (hj : j < 4) (h1 : j < n) (h9 : R (8 * o + 7) ≤ 9) : mayF R n o m j ↔ mayF R n o m (j + 1) ∧ R (8 * j + 7) + pm n o m j ≤ 9 := by
  refine (may_s hj).trans ⟨fun q => ⟨q.1, ?_⟩, fun q => ⟨q.1, fun _ => q.2⟩⟩
  by_cases z : j = o
  · rw [pm_0 (Or.inl z), z]; exact h9
  · exact q.2 ⟨h1, z⟩
theorem may_top {R : Nat → Nat} {n o m : Nat} : mayF R n o m n := fun j _ h => absurd h.1 (by omega)
