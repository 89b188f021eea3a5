/-! the page: what a whole one holds -/
theorem nI_m1 {k : Nat} (h : k < 2 ^ 31) : ¬ nI k = -1 := by
  intro q
  have h1 := nI_toInt h
  rw [q] at h1
  have : (-1 : Int32).toInt = -1 := by decide
  omega
theorem eN_y {pg : Nat → Nat} {i : Nat} (hi : i < 2 ^ 31) (h : eN pg i = -1) : se pg i = i := by
  unfold eN at h
  by_cases q : se pg i = i
  · exact q
  · rw [if_neg q] at h
    exact absurd h (nI_m1 (by have := se_le pg i; omega))
theorem eN_n {pg : Nat → Nat} {i : Nat} (h : ¬ eN pg i = -1) : ¬ se pg i = i := by
  intro q
  exact h (if_pos q)
theorem eN_v {pg : Nat → Nat} {i : Nat} (h : ¬ se pg i = i) : eN pg i = nI (se pg i) := if_neg h
theorem eN_s59 {pg : Nat → Nat} {i : Nat} (h : rt pg i) (h2 : pg i = 59) : eN pg (i + 1) = nI i := by
  have h3 : se pg i = i := by
    rcases h with q | q
    · exact q.1
    · have := q.2.2.2
      omega
  have h4 := se_y h3 h2
  rw [eN_v (by omega), h4]
theorem eN_sn {pg : Nat → Nat} {i : Nat} (h : ¬ pg i = 59) : eN pg (i + 1) = eN pg i := by
  have h1 := se_le pg i
  rcases Nat.lt_or_ge (se pg i) i with q | q
  · have h4 := se_a q
    rw [eN_v (by omega), h4, eN_v (by omega)]
  · have h3 : se pg i = i := by omega
    have h4 := se_n h3 h
    unfold eN
    rw [if_pos h4, if_pos h3]
/-- behind the end nothing moves it -/
theorem se_at {pg : Nat → Nat} : ∀ {k : Nat}, se pg k < k → se pg (se pg k) = se pg k ∧ pg (se pg k) = 59 := by
  intro k
  induction k with
  | zero => intro h; omega
  | succ k ih =>
    intro h
    have h1 := se_le pg k
    rcases Nat.lt_or_ge (se pg k) k with q | q
    · rw [se_a q]; exact ih q
    · have h3 : se pg k = k := by omega
      by_cases h2 : pg k = 59
      · rw [se_y h3 h2]; exact ⟨h3, h2⟩
      · have := se_n h3 h2
        omega
theorem se_mo {pg : Nat → Nat} {k i : Nat} (h : se pg k < k) (h1 : se pg k < i) : se pg i = se pg k := by
  obtain ⟨a, b⟩ := se_at h
  exact se_stop a b i h1
/-- a page that is a whole town -/
abbrev whl (pg : Nat → Nat) (len : Nat) : Prop := fw pg len = len ∧ se pg len + 1 < len
theorem whl_e {pg : Nat → Nat} {len : Nat} (h : whl pg len) : se pg len % 6 = 5 ∧ 11 ≤ se pg len ∧ se pg len ≤ 23 ∧ len ≤ se pg len + 6 := by
  have hl := h.2
  obtain ⟨a, b⟩ := se_at (pg := pg) (k := len) (by omega)
  have r1 := fw_rt h.1 (se pg len) (by omega)
  have r2 := fw_rt h.1 (len - 1) (by omega)
  have s2 := se_mo (pg := pg) (k := len) (i := len - 1) (by omega) (by omega)
  have e1 : se pg len % 6 = 5 ∧ 2 ≤ se pg len / 6 + 1 := by
    rcases r1 with q | q
    · rcases q.2 with q2 | q2 | q2
      · exfalso
        rw [b] at q2
        exact q2.2 (by decide)
      · omega
      · omega
    · omega
  refine ⟨e1.1, by omega, ?_, ?_⟩
  · rcases Nat.lt_or_ge 23 (se pg len) with q | q
    · exfalso
      have r3 := fw_rt h.1 23 (by omega)
      obtain ⟨c1, c2⟩ := se_all a 23 q
      rcases r3 with z | z
      · rcases z.2 with z2 | z2 | z2
        · have := z2.1; omega
        · omega
        · omega
      · omega
    · exact q
  · rcases r2 with q | q
    · omega
    · have := q.2.1
      omega
theorem whl_s {pg : Nat → Nat} {len s : Nat} (h : whl pg len) (hs : 6 * s + 5 ≤ se pg len) : ¬ kc (pg (6 * s)) = -1 ∧ ∀ f, f < 4 → 48 ≤ pg (6 * s + 1 + f) ∧ pg (6 * s + 1 + f) ≤ 57 := by
  have hl := h.2
  obtain ⟨a, b⟩ := se_at (pg := pg) (k := len) (by omega)
  refine ⟨?_, fun f hf => ?_⟩
  · have r := fw_rt h.1 (6 * s) (by omega)
    obtain ⟨c1, c2⟩ := se_all a (6 * s) (by omega)
    rcases r with z | z
    · rcases z.2 with z2 | z2 | z2
      · exact z2.2
      · omega
      · omega
    · omega
  · have r := fw_rt h.1 (6 * s + 1 + f) (by omega)
    obtain ⟨c1, c2⟩ := se_all a (6 * s + 1 + f) (by omega)
    rcases r with z | z
    · rcases z.2 with z2 | z2 | z2
      · have := z2.1; omega
      · omega
      · omega
    · omega
theorem whl_w {pg : Nat → Nat} {len i : Nat} (h : whl pg len) (hi : se pg len + 1 + i < len) : 48 ≤ pg (se pg len + 1 + i) ∧ pg (se pg len + 1 + i) < 52 := by
  have r := fw_rt h.1 (se pg len + 1 + i) (by omega)
  have s2 := se_mo (pg := pg) (k := len) (i := se pg len + 1 + i) (by omega) (by omega)
  rcases r with z | z
  · omega
  · exact ⟨z.2.2.1, z.2.2.2⟩
/-- one singer read -/
def rd1 (pg R : Nat → Nat) (s : Nat) : Nat → Nat := fun j => if 8 * s ≤ j ∧ j < 8 * s + 8 then (if j % 8 = 0 then kn (pg (6 * (j / 8))) else if j % 8 < 5 then pg (6 * (j / 8) + j % 8) - 48 else 0) else R j
theorem rdR_0 (pg R : Nat → Nat) : rdR pg R 0 = R := by
  funext j
  exact if_neg (by omega)
theorem rdR_s (pg R : Nat → Nat) (s : Nat) : rd1 pg (rdR pg R s) s = rdR pg R (s + 1) := by
  funext j
  unfold rd1 rdR
  by_cases h : 8 * s ≤ j ∧ j < 8 * s + 8
  · rw [if_pos h, if_pos (show j < 8 * (s + 1) by omega)]
  · rw [if_neg h]
    by_cases h2 : j < 8 * s
    · rw [if_pos h2, if_pos (show j < 8 * (s + 1) by omega)]
    · rw [if_neg h2, if_neg (by omega)]
theorem WR.rd {pg R : Nat → Nat} {n : Nat} (h : WR R) (hd : ∀ s f, s < n → f < 4 → pg (6 * s + 1 + f) ≤ 57) : WR (rdR pg R n) := by
  refine ⟨fun s hs => ?_, fun s f hs hf => ?_⟩
  · have h1 := h.1 s hs
    have hk := kn_lt (pg (6 * s))
    unfold rdR
    by_cases q : s < n
    · rw [if_pos (by omega), if_pos (by omega), if_pos (by omega), if_neg (by omega), if_neg (by omega), if_pos (by omega), if_neg (by omega), if_neg (by omega), if_pos (by omega), if_neg (by omega), if_neg (by omega)]
      rw [show 8 * s / 8 = s by omega]
      omega
    · rw [if_neg (by omega), if_neg (by omega), if_neg (by omega), if_neg (by omega)]
      exact h1
  · have h1 := h.2 s f hs hf
    unfold rdR
    by_cases q : s < n
    · rw [if_pos (by omega), if_neg (by omega), if_pos (by omega)]
      have := hd s f q hf
      rw [show (8 * s + 1 + f) / 8 = s by omega, show (8 * s + 1 + f) % 8 = 1 + f by omega, show 6 * s + (1 + f) = 6 * s + 1 + f by omega]
      omega
    · rw [if_neg (by omega)]
      exact h1
