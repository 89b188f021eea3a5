/-! pure words: what would be, asked and poured -/
theorem as_skip {R : Nat → Nat} {bits n c : Nat} (h : ¬ (c / 4 < n ∧ c % 4 < n)) : as_ R bits n (c + 1) = as_ R bits n c := as_n (fun q => h ⟨q.1.2.1, q.1.2.2⟩)
theorem as_row {R : Nat → Nat} {bits n i j : Nat} (hn : n ≤ 4) (hj : j = n) : as_ R bits n (4 * (i + 1)) = as_ R bits n (4 * i + j) := by
  subst hj
  have key : ∀ k, j + k ≤ 4 → as_ R bits j (4 * i + (j + k)) = as_ R bits j (4 * i + j) := by
    intro k
    induction k with
    | zero => intro _; rfl
    | succ k ih =>
      intro hk
      rw [show 4 * i + (j + (k + 1)) = (4 * i + (j + k)) + 1 by omega, as_skip (by omega)]
      exact ih (by omega)
  have := key (4 - j) (by omega)
  rw [show 4 * i + (j + (4 - j)) = 4 * (i + 1) by omega] at this
  exact this
theorem as_end {R : Nat → Nat} {bits n i : Nat} (hn : n ≤ 4) (hi : i = n) : as_ R bits n 16 = as_ R bits n (4 * i) := by
  subst hi
  have key : ∀ k, 4 * i + k ≤ 16 → as_ R bits i (4 * i + k) = as_ R bits i (4 * i) := by
    intro k
    induction k with
    | zero => intro _; rfl
    | succ k ih =>
      intro hk
      rw [show 4 * i + (k + 1) = (4 * i + k) + 1 by omega, as_skip (by omega)]
      exact ih (by omega)
  have := key (16 - 4 * i) (by omega)
  rw [show 4 * i + (16 - 4 * i) = 16 by omega] at this
  exact this
theorem as_yy {R : Nat → Nat} {bits n i j : Nat} (hn : n ≤ 4) (hi : i < n) (hj : j < n) (hij : i ≠ j) (h : lw_ R bits i j < (as_ R bits n (4 * i + j)).2) : (as_ R bits n (4 * i + (j + 1))).1 = 4 * i + j + 1 ∧ (as_ R bits n (4 * i + (j + 1))).2 = lw_ R bits i j := by
  have e1 : (4 * i + j) / 4 = i := by omega
  have e2 : (4 * i + j) % 4 = j := by omega
  have e := as_y (R := R) (bits := bits) (n := n) (c := 4 * i + j) (by rw [e1, e2]; exact ⟨⟨hij, hi, hj⟩, h⟩)
  rw [e1, e2] at e
  rw [show 4 * i + (j + 1) = 4 * i + j + 1 from rfl, e]
  exact ⟨rfl, rfl⟩
theorem as_nn {R : Nat → Nat} {bits n i j : Nat} (hn : n ≤ 4) (hj : j < n) (h : ¬ (i ≠ j ∧ lw_ R bits i j < (as_ R bits n (4 * i + j)).2)) : as_ R bits n (4 * i + (j + 1)) = as_ R bits n (4 * i + j) := by
  have e1 : (4 * i + j) / 4 = i := by omega
  have e2 : (4 * i + j) % 4 = j := by omega
  exact as_n (c := 4 * i + j) (by rw [e1, e2]; exact fun q => h ⟨q.1.1, q.2⟩)
theorem lw_max {R : Nat → Nat} {bits a b : Nat} (hb : bits < 16) : (if pc4 (bits &&& mr R a b 4) < pc4 (bits &&& (15 - mr R a b 4)) then pc4 (bits &&& (15 - mr R a b 4)) else pc4 (bits &&& mr R a b 4)) = lw_ R bits a b := by
  rw [(ys_4 hb).1, (ys_4 hb).2]
  unfold lw_
  split <;> split <;> omega
theorem pc4_le (x : Nat) : pc4 x ≤ 4 := by unfold pc4; omega
theorem nI_nm {k : Nat} (h : k < 2 ^ 31) : ¬ nI k = -1 := by
  intro q
  have := congrArg Int32.toInt q
  rw [nI_toInt h] at this
  have e : (-1 : Int32).toInt = -1 := rfl
  rw [e] at this
  omega
theorem oI_m1 {k : Nat} (h : k < 2 ^ 31) : oI k = -1 ↔ k = 0 := by
  unfold oI
  by_cases q : k = 0
  · rw [if_pos q]; exact ⟨fun _ => q, fun _ => rfl⟩
  · rw [if_neg q]; exact ⟨fun z => absurd z (nI_nm (by omega)), fun z => absurd z q⟩
theorem p10 {k : Nat} (h : 1 ≤ k) : 10 ^ (k - 1) * 10 = 10 ^ (k + 1 - 1) := by
  obtain ⟨j, rfl⟩ : ∃ j, k = j + 1 := ⟨k - 1, by omega⟩
  rfl
theorem p10_le {k : Nat} (h : k ≤ 4) : 10 ^ (k - 1) ≤ 1000 := by
  rcases (show k = 0 ∨ k = 1 ∨ k = 2 ∨ k = 3 ∨ k = 4 by omega) with rfl | rfl | rfl | rfl | rfl <;> decide
theorem pm_at {n o m j : Nat} (h : j < n) (h2 : j ≠ o) : pm n o m j = rst n o m (j + 1) % 10 := if_pos ⟨h, h2⟩
theorem pm_0 {n o m j : Nat} (h : j = o ∨ n ≤ j) : pm n o m j = 0 := if_neg (by omega)
theorem pS_o {n o m j : Nat} (hj : j < 4) (h : j = o ∨ n ≤ j) : pS n o m j = pS n o m (j + 1) := by rw [pS_s hj, pm_0 h]; rfl
/-- the row poured, from k on -/
def pP (P : Nat → Nat) (n o m k : Nat) : Nat → Nat := fun j => if k ≤ j then pm n o m j else P j
theorem pP_4 {P : Nat → Nat} {n o m j : Nat} (h : j < 4) : pP P n o m 4 j = P j := if_neg (by omega)
theorem pP_0 {P : Nat → Nat} {n o m : Nat} : pP P n o m 0 = pm n o m := by
  funext j
  exact if_pos (Nat.zero_le _)
theorem pP_s {P : Nat → Nat} {n o m k : Nat} : upN (pP P n o m (k + 1)) k (pm n o m k) = pP P n o m k := by
  funext j
  unfold upN pP
  by_cases h : j = k
  · rw [if_pos h, if_pos (by omega), h]
  · rw [if_neg h]
    by_cases h2 : k + 1 ≤ j
    · rw [if_pos h2, if_pos (by omega)]
    · rw [if_neg h2, if_neg (by omega)]
theorem upN_ov {P : Nat → Nat} {k x y : Nat} : upN (upN P k x) k y = upN P k y := by
  funext j
  unfold upN
  by_cases h : j = k
  · rw [if_pos h, if_pos h]
  · rw [if_neg h, if_neg h, if_neg h]
theorem pP_o {P : Nat → Nat} {n o m k : Nat} (h : k = o ∨ n ≤ k) : upN (pP P n o m (k + 1)) k 0 = pP P n o m k := by
  have := pP_s (P := P) (n := n) (o := o) (m := m) (k := k)
  rw [pm_0 h] at this
  exact this
theorem pP_y {P : Nat → Nat} {n o m k : Nat} : upN (upN (pP P n o m (k + 1)) k 0) k (pm n o m k) = pP P n o m k := by
  rw [upN_ov, pP_s]
theorem may_y {R : Nat → Nat} {n o m j : Nat} (hj : j < 4) (h : ¬ (j < n ∧ j ≠ o) ∨ R (8 * j + 7) + pm n o m j ≤ 9) : bI (¬ mayF R n o m j) = bI (¬ mayF R n o m (j + 1)) := by
  refine bI_i (not_congr ((may_s hj).trans ⟨fun q => q.1, fun q => ⟨q, fun z => ?_⟩⟩))
  rcases h with h | h
  · exact absurd z h
  · exact h
theorem may_n {R : Nat → Nat} {n o m j : Nat} (hj : j < 4) (h1 : j < n) (h2 : j ≠ o) (h : ¬ R (8 * j + 7) + pm n o m j ≤ 9) : bI (¬ mayF R n o m j) = nI 1 := bI_t (fun q => h (((may_s hj).mp q).2 ⟨h1, h2⟩))
theorem nd_y1 {R mi : Nat → Nat} {n w o m : Nat} (h : gd R mi n w o m (nd_ R mi n w o m).1) : oI (nd_ R mi n w o (m + 1)).1 = nI (pS n o m 0) := by
  rw [nd_y h]; rfl
theorem nd_y2 {R mi : Nat → Nat} {n w o m : Nat} (h : gd R mi n w o m (nd_ R mi n w o m).1) : (nd_ R mi n w o (m + 1)).2 = m := by
  rw [nd_y h]
