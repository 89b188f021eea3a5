/-! pure words: the model's reading of a page -/
/-- what the model's reading stands at, k letters behind it -/
def sT (pg : Nat → Nat) (k : Nat) : Nat := if se pg k = k then k % 6 else 6
def sS (pg : Nat → Nat) (k : Nat) : Nat := if se pg k = k then (k + 1) / 6 else (se pg k + 1) / 6
def sW (pg : Nat → Nat) (k : Nat) : Nat := if se pg k = k then 0 else k - se pg k - 1
/-- what is read of the singers, of the widows -/
def rdv (pg : Nat → Nat) (p : Nat) : Nat := if p % 6 = 0 then kn (pg p) else pg p - 48
abbrev rRD (pg : Nat → Nat) (k : Nat) (rd : Nat → Int32) : Prop := ∀ p, p < k → (p < se pg k ∧ p % 6 < 5 → rd (5 * (p / 6) + p % 6) = nI (rdv pg p))
abbrev rRM (pg : Nat → Nat) (k : Nat) (rm : Nat → Int32) : Prop := ∀ j, j < sW pg k → rm j = nI (pg (se pg k + 1 + j) - 48)
theorem fw_1 {pg : Nat → Nat} {k : Nat} (h : fw pg (k + 1) = k + 1) : fw pg k = k ∧ rt pg k := by
  by_cases q : fw pg k = k ∧ rt pg k
  · exact q
  · have e : fw pg (k + 1) = fw pg k := if_neg q
    have := fw_le pg k
    omega
/-- before the ';' a page that is right so far has at most four singers, and one more after a ',' -/
theorem sc_le {pg : Nat → Nat} {k : Nat} (h : fw pg k = k) (hs : se pg k = k) : k ≤ 23 := by
  rcases Nat.lt_or_ge 23 k with q | q
  · exfalso
    have r := fw_rt h 23 q
    have a := se_all hs 23 q
    rcases r with z | z
    · have z2 := z.2
      unfold rS at z2
      rcases z2 with z2 | z2 | z2
      · omega
      · omega
      · rcases z2.2 with z3 | z3
        · omega
        · exact a.2 z3.1
    · omega
  · exact q
theorem sc_wi {pg : Nat → Nat} {k : Nat} (h : fw pg k = k) (hs : se pg k < k) : k ≤ se pg k + 6 := by
  rcases Nat.lt_or_ge (se pg k + 6) k with q | q
  · exfalso
    have r := fw_rt h (se pg k + 6) q
    have m := se_mo (pg := pg) (k := k) (i := se pg k + 6) (by omega) (by omega)
    rcases r with z | z
    · omega
    · have z2 := z.2
      unfold rW at z2
      omega
  · exact q
/-- a step before the ';' -/
theorem sc_s {pg : Nat → Nat} {k : Nat} (hs : se pg k = k) (h59 : ¬ pg k = 59) : se pg (k + 1) = k + 1 := se_n hs h59
theorem rRD_0 {pg : Nat → Nat} {rd : Nat → Int32} : rRD pg 0 rd := fun p hp => absurd hp (Nat.not_lt_zero p)
theorem rRM_0 {pg : Nat → Nat} {rm : Nat → Int32} : rRM pg 0 rm := fun j hj => absurd hj (Nat.not_lt_zero j)
/-- a letter or a digit of a singer read -/
theorem rRD_s {pg : Nat → Nat} {k : Nat} {rd : Nat → Int32} {v : Int32} (h : rRD pg k rd) (hs : se pg k = k) (h59 : ¬ pg k = 59) (hv : k % 6 < 5 → v = nI (rdv pg k)) (hk : k % 6 < 5) : rRD pg (k + 1) (upd rd (5 * (k / 6) + k % 6) v) := by
  intro p hp q
  unfold upd
  by_cases e : 5 * (p / 6) + p % 6 = 5 * (k / 6) + k % 6
  · have e2 : p = k := by omega
    rw [if_pos e, e2]
    exact hv hk
  · rw [if_neg e]
    exact h p (by rcases Nat.lt_or_ge p k with z | z; exact z; exfalso; apply e; rw [show p = k by omega]) ⟨by omega, q.2⟩
theorem rRD_c {pg : Nat → Nat} {k : Nat} {rd : Nat → Int32} (h : rRD pg k rd) (hs : se pg k = k) (hk : k % 6 = 5) : rRD pg (k + 1) rd := by
  intro p hp q
  have h1 := se_le pg (k + 1)
  exact h p (by omega) ⟨by omega, q.2⟩
theorem rRD_w {pg : Nat → Nat} {k : Nat} {rd : Nat → Int32} (h : rRD pg k rd) (hs : se pg k < k) : rRD pg (k + 1) rd := by
  intro p hp q
  rw [se_a hs] at q
  exact h p (by omega) q
theorem sT_lt (pg : Nat → Nat) (k : Nat) : sT pg k ≤ 6 := by
  unfold sT
  split <;> omega
theorem sT_y {pg : Nat → Nat} {k : Nat} (h : sT pg k < 6) : se pg k = k ∧ sT pg k = k % 6 := by
  unfold sT at *
  by_cases q : se pg k = k
  · rw [if_pos q]; exact ⟨q, rfl⟩
  · rw [if_neg q] at h; omega
theorem sT_n {pg : Nat → Nat} {k : Nat} (h : ¬ sT pg k < 6) : se pg k < k ∧ sT pg k = 6 := by
  have h1 := se_le pg k
  unfold sT at *
  by_cases q : se pg k = k
  · rw [if_pos q] at h; omega
  · rw [if_neg q]; omega
theorem sT_p {pg : Nat → Nat} {k : Nat} (h : se pg k = k) : sT pg k = k % 6 := if_pos h
theorem sT_q {pg : Nat → Nat} {k : Nat} (h : se pg k < k) : sT pg k = 6 := if_neg (by omega)
theorem sS_y {pg : Nat → Nat} {k : Nat} (h : se pg k = k) : sS pg k = (k + 1) / 6 := if_pos h
theorem sS_n {pg : Nat → Nat} {k : Nat} (h : se pg k < k) : sS pg k = (se pg k + 1) / 6 := if_neg (by omega)
theorem sW_y {pg : Nat → Nat} {k : Nat} (h : se pg k = k) : sW pg k = 0 := if_pos h
theorem sW_n {pg : Nat → Nat} {k : Nat} (h : se pg k < k) : sW pg k = k - se pg k - 1 := if_neg (by omega)
theorem sS_le {pg : Nat → Nat} {k : Nat} (hf : fw pg k = k) : sS pg k ≤ 4 ∧ (sT pg k < 5 → sS pg k ≤ 3) := by
  have h1 := se_le pg k
  rcases Nat.lt_or_ge (se pg k) k with q | q
  · rw [sS_n q]
    obtain ⟨a, b⟩ := se_at q
    have hf2 : fw pg (se pg k) = se pg k := by
      rcases Nat.lt_or_ge (fw pg (se pg k)) (se pg k) with z | z
      · exfalso
        have r := fw_rt hf
        have : ∀ j, j ≤ k → fw pg j = j := by
          intro j
          induction j with
          | zero => intro _; rfl
          | succ j ih => intro hj; exact fw_y (ih (by omega)) (r j (by omega))
        have := this (se pg k) h1
        omega
      · have := fw_le pg (se pg k); omega
    have h2 := sc_le hf2 a
    refine ⟨by omega, fun h => ?_⟩
    have := (sT_y (pg := pg) (k := k) (by omega)).1
    omega
  · have e : se pg k = k := by omega
    have h2 := sc_le hf e
    rw [sS_y e]
    refine ⟨by omega, fun h => ?_⟩
    have := (sT_y (pg := pg) (k := k) (by omega)).2
    omega
theorem sW_le {pg : Nat → Nat} {k : Nat} (hf : fw pg k = k) : sW pg k ≤ 5 := by
  have h1 := se_le pg k
  rcases Nat.lt_or_ge (se pg k) k with q | q
  · rw [sW_n q]
    have := sc_wi hf q
    omega
  · rw [sW_y (by omega)]; omega
/-- what one letter read gives -/
abbrev gQ (pg : Nat → Nat) (k : Nat) (r : Int32) (u : (Nat → Int32) × (Nat → Int32) × Int32 × Int32 × Int32) : Prop :=
  r = bI (rt pg k) ∧ (rt pg k → u.2.2.1 = nI (sT pg (k + 1)) ∧ u.2.2.2.1 = nI (sS pg (k + 1)) ∧ u.2.2.2.2 = nI (sW pg (k + 1)) ∧ rRD pg (k + 1) u.1 ∧ rRM pg (k + 1) u.2.1)
theorem gQ_f {pg : Nat → Nat} {k : Nat} {u : (Nat → Int32) × (Nat → Int32) × Int32 × Int32 × Int32} (h : ¬ rt pg k) : gQ pg k (nI 0) u := ⟨(bI_f h).symm, fun q => absurd q h⟩
theorem kc_59 : kc 59 = -1 := rfl
theorem rt_0 {pg : Nat → Nat} {k : Nat} (hT : sT pg k = 0) : rt pg k ↔ ¬ kc (pg k) = -1 := by
  obtain ⟨h1, h2⟩ := sT_y (pg := pg) (k := k) (by omega)
  refine ⟨fun q => ?_, fun q => Or.inl ⟨h1, Or.inl ⟨by omega, q⟩⟩⟩
  rcases q with z | z
  · rcases z.2 with z2 | z2 | z2
    · exact z2.2
    · omega
    · omega
  · omega
theorem gQ_0 {pg : Nat → Nat} {k : Nat} {rd rm : Nat → Int32} (hT : sT pg k = 0) (hRD : rRD pg k rd) (h : ¬ kc (pg k) = -1) : gQ pg k (nI 1) (upd rd (5 * sS pg k) (kc (pg k)), rm, nI 1, nI (sS pg k), nI (sW pg k)) := by
  have hr := (rt_0 hT).mpr h
  obtain ⟨h1, h2⟩ := sT_y (pg := pg) (k := k) (by omega)
  have h59 : ¬ pg k = 59 := fun e => h (by rw [e]; exact kc_59)
  have h3 := se_n h1 h59
  refine ⟨(bI_t hr).symm, fun _ => ⟨?_, ?_, ?_, ?_, ?_⟩⟩
  · show nI 1 = nI (sT pg (k + 1))
    congr 1
    rw [sT_p h3]; omega
  · show nI (sS pg k) = nI (sS pg (k + 1))
    congr 1
    rw [sS_y h1, sS_y h3]; omega
  · show nI (sW pg k) = nI (sW pg (k + 1))
    congr 1
    rw [sW_y h1, sW_y h3]
  · have e := rRD_s (v := kc (pg k)) hRD h1 h59 (fun _ => by unfold rdv; rw [if_pos (by omega)]; exact kc_kn h) (by omega)
    rw [show 5 * (k / 6) + k % 6 = 5 * sS pg k by rw [sS_y h1]; omega] at e
    exact e
  · intro j hj
    rw [sW_y h3] at hj
    exact absurd hj (Nat.not_lt_zero j)
theorem rt_1 {pg : Nat → Nat} {k : Nat} (hT : 1 ≤ sT pg k) (hT5 : sT pg k < 5) : rt pg k ↔ 48 ≤ pg k ∧ pg k ≤ 57 := by
  obtain ⟨h1, h2⟩ := sT_y (pg := pg) (k := k) (by omega)
  refine ⟨fun q => ?_, fun q => Or.inl ⟨h1, Or.inr (Or.inl ⟨by omega, by omega, q.1, q.2⟩)⟩⟩
  rcases q with z | z
  · rcases z.2 with z2 | z2 | z2
    · omega
    · omega
    · omega
  · omega
theorem dig_i {c : Nat} (hc : c < 127) : ((0 : Int) ≤ (nI c - nI 48).toInt ∧ (nI c - nI 48).toInt ≤ (9 : Int)) ↔ 48 ≤ c ∧ c ≤ 57 := by
  rw [pk_sub_toInt (by omega) (by omega)]
  omega
theorem gQ_1 {pg : Nat → Nat} {k t j : Nat} {rd rm : Nat → Int32} (hc : pg k < 127) (hT : 1 ≤ sT pg k) (hT5 : sT pg k < 5) (hRD : rRD pg k rd) (ht : t = sT pg k + 1) (hj : j = sS pg k + (if sT pg k = 4 then 1 else 0)) :
    gQ pg k (bI ((0 : Int) ≤ (nI (pg k) - nI 48).toInt ∧ (nI (pg k) - nI 48).toInt ≤ (9 : Int))) (upd rd (5 * sS pg k + sT pg k) (nI (pg k) - nI 48), rm, nI t, nI j, nI (sW pg k)) := by
  refine ⟨bI_i ((dig_i hc).trans (rt_1 hT hT5).symm), fun q => ?_⟩
  have hd := (rt_1 hT hT5).mp q
  obtain ⟨h1, h2⟩ := sT_y (pg := pg) (k := k) (by omega)
  have h59 : ¬ pg k = 59 := by omega
  have h3 := se_n h1 h59
  refine ⟨?_, ?_, ?_, ?_, ?_⟩
  · show nI t = nI (sT pg (k + 1))
    congr 1
    rw [ht, sT_p h3]; omega
  · show nI j = nI (sS pg (k + 1))
    congr 1
    rw [hj, sS_y h1, sS_y h3, h2]
    split <;> omega
  · show nI (sW pg k) = nI (sW pg (k + 1))
    congr 1
    rw [sW_y h1, sW_y h3]
  · have e := rRD_s (v := nI (pg k) - nI 48) hRD h1 h59 (fun _ => by unfold rdv; rw [if_neg (by omega)]; exact pk_sub (by omega)) (by omega)
    rw [show 5 * (k / 6) + k % 6 = 5 * sS pg k + sT pg k by rw [sS_y h1, h2]; omega] at e
    exact e
  · intro j hj
    rw [sW_y h3] at hj
    exact absurd hj (Nat.not_lt_zero j)
theorem rt_5 {pg : Nat → Nat} {k : Nat} (hT : sT pg k = 5) : rt pg k ↔ (pg k = 44 ∧ sS pg k < 4) ∨ (pg k = 59 ∧ 1 < sS pg k) := by
  obtain ⟨h1, h2⟩ := sT_y (pg := pg) (k := k) (by omega)
  rw [sS_y h1]
  refine ⟨fun q => ?_, fun q => Or.inl ⟨h1, Or.inr (Or.inr ⟨by omega, ?_⟩)⟩⟩
  · rcases q with z | z
    · rcases z.2 with z2 | z2 | z2
      · omega
      · omega
      · rcases z2.2 with z3 | z3
        · exact Or.inl ⟨z3.1, by omega⟩
        · exact Or.inr ⟨z3.1, by omega⟩
    · omega
  · rcases q with z | z
    · exact Or.inl ⟨z.1, by omega⟩
    · exact Or.inr ⟨z.1, by omega⟩
theorem gQ_5c {pg : Nat → Nat} {k : Nat} {rd rm : Nat → Int32} (hT : sT pg k = 5) (hRD : rRD pg k rd) (h44 : pg k = 44) (h : sS pg k < 4) : gQ pg k (nI 1) (rd, rm, nI 0, nI (sS pg k), nI (sW pg k)) := by
  have hr := (rt_5 hT).mpr (Or.inl ⟨h44, h⟩)
  obtain ⟨h1, h2⟩ := sT_y (pg := pg) (k := k) (by omega)
  have h59 : ¬ pg k = 59 := by omega
  have h3 := se_n h1 h59
  refine ⟨(bI_t hr).symm, fun _ => ⟨?_, ?_, ?_, rRD_c hRD h1 (by omega), ?_⟩⟩
  · show nI 0 = nI (sT pg (k + 1))
    congr 1
    rw [sT_p h3]; omega
  · show nI (sS pg k) = nI (sS pg (k + 1))
    congr 1
    rw [sS_y h1, sS_y h3]; omega
  · show nI (sW pg k) = nI (sW pg (k + 1))
    congr 1
    rw [sW_y h1, sW_y h3]
  · intro j hj
    rw [sW_y h3] at hj
    exact absurd hj (Nat.not_lt_zero j)
theorem gQ_5s {pg : Nat → Nat} {k : Nat} {rd rm : Nat → Int32} (hT : sT pg k = 5) (hRD : rRD pg k rd) (h59 : pg k = 59) (h : 1 < sS pg k) : gQ pg k (nI 1) (rd, rm, nI 6, nI (sS pg k), nI (sW pg k)) := by
  have hr := (rt_5 hT).mpr (Or.inr ⟨h59, h⟩)
  obtain ⟨h1, h2⟩ := sT_y (pg := pg) (k := k) (by omega)
  have h3 := se_y h1 h59
  refine ⟨(bI_t hr).symm, fun _ => ⟨?_, ?_, ?_, ?_, ?_⟩⟩
  · show nI 6 = nI (sT pg (k + 1))
    congr 1
    rw [sT_q (by omega)]
  · show nI (sS pg k) = nI (sS pg (k + 1))
    congr 1
    rw [sS_y h1, sS_n (by omega), h3]
  · show nI (sW pg k) = nI (sW pg (k + 1))
    congr 1
    rw [sW_y h1, sW_n (by omega), h3]; omega
  · exact rRD_c hRD h1 (by omega)
  · intro j hj
    rw [sW_n (by omega), h3] at hj
    omega
theorem rt_6 {pg : Nat → Nat} {k : Nat} (hT : sT pg k = 6) : rt pg k ↔ sW pg k < 5 ∧ 48 ≤ pg k ∧ pg k < 52 := by
  obtain ⟨h1, h2⟩ := sT_n (pg := pg) (k := k) (by omega)
  rw [sW_n h1]
  refine ⟨fun q => ?_, fun q => Or.inr ⟨h1, by omega, q.2.1, q.2.2⟩⟩
  rcases q with z | z
  · omega
  · have := z.2
    unfold rW at this
    omega
theorem dig_w {c : Nat} (hc : c < 127) : ((0 : Int) ≤ (nI c - nI 48).toInt ∧ (nI c - nI 48).toInt ≤ (3 : Int)) ↔ 48 ≤ c ∧ c < 52 := by
  rw [pk_sub_toInt (by omega) (by omega)]
  omega
theorem gQ_6 {pg : Nat → Nat} {k : Nat} {rd rm : Nat → Int32} (hT : sT pg k = 6) (hc : pg k < 127) (hRD : rRD pg k rd) (hRM : rRM pg k rm) (hw : sW pg k < 5) (h : (0 : Int) ≤ (nI (pg k) - nI 48).toInt ∧ (nI (pg k) - nI 48).toInt ≤ (3 : Int)) :
    gQ pg k (nI 1) (rd, upd rm (sW pg k) (nI (pg k) - nI 48), nI (sT pg k), nI (sS pg k), nI (sW pg k + 1)) := by
  have hr := (rt_6 hT).mpr ⟨hw, (dig_w hc).mp h⟩
  obtain ⟨h1, h2⟩ := sT_n (pg := pg) (k := k) (by omega)
  have h3 := se_a h1
  have h4 : se pg (k + 1) < k + 1 := by omega
  refine ⟨(bI_t hr).symm, fun _ => ⟨?_, ?_, ?_, rRD_w hRD h1, ?_⟩⟩
  · show nI (sT pg k) = nI (sT pg (k + 1))
    congr 1
    rw [hT]
    rw [sT_q (by omega)]
  · show nI (sS pg k) = nI (sS pg (k + 1))
    congr 1
    rw [sS_n h1, sS_n h4, h3]
  · show nI (sW pg k + 1) = nI (sW pg (k + 1))
    congr 1
    rw [sW_n h1, sW_n h4, h3]; omega
  · intro j hj
    rw [sW_n h4, h3] at hj
    show upd rm (sW pg k) (nI (pg k) - nI 48) j = nI (pg (se pg (k + 1) + 1 + j) - 48)
    rw [h3]
    unfold upd
    by_cases e : j = sW pg k
    · rw [if_pos e, show se pg k + 1 + j = k by rw [e, sW_n h1]; omega]
      exact pk_sub ((dig_w hc).mp h).1
    · rw [if_neg e]
      exact hRM j (by rw [sW_n h1] at *; omega)
/-- what a whole page read gives -/
abbrev fQ (pg : Nat → Nat) (len : Nat) (r : Int32) (u : (Nat → Int32) × (Nat → Int32) × Int32 × Int32 × Int32) : Prop :=
  r = nI (fw pg len) ∧ (fw pg len = len → u.2.2.1 = nI (sT pg len) ∧ u.2.2.2.1 = nI (sS pg len) ∧ u.2.2.2.2 = nI (sW pg len) ∧ rRD pg len u.1 ∧ rRM pg len u.2.1)
theorem fQ_end {pg : Nat → Nat} {k len : Nat} {rd rm : Nat → Int32} (hf : fw pg k = k) (e : k = len) (hRD : rRD pg k rd) (hRM : rRM pg k rm) : fQ pg len (nI k) (rd, rm, nI (sT pg k), nI (sS pg k), nI (sW pg k)) := by
  subst e
  exact ⟨congrArg nI hf.symm, fun _ => ⟨rfl, rfl, rfl, hRD, hRM⟩⟩
theorem fQ_not {pg : Nat → Nat} {k len : Nat} {u : (Nat → Int32) × (Nat → Int32) × Int32 × Int32 × Int32} (hf : fw pg k = k) (hk : k < len) (h : ¬ rt pg k) : fQ pg len (nI k) u := by
  have e := fw_stop hf h len hk
  exact ⟨congrArg nI e.symm, fun q => by omega⟩
theorem sS_0 (pg : Nat → Nat) : sS pg 0 = 0 := rfl
theorem sW_0 (pg : Nat → Nat) : sW pg 0 = 0 := rfl
theorem sT_0 (pg : Nat → Nat) : sT pg 0 = 0 := rfl
theorem tw_w {pg : Nat → Nat} {len : Nat} (h1 : fw pg len = len) (h2 : sT pg len = 6) (h3 : ¬ sW pg len = 0) : whl pg len := by
  have h4 := (sT_n (pg := pg) (k := len) (by omega)).1
  rw [sW_n h4] at h3
  exact ⟨h1, by omega⟩
theorem tw_T {pg : Nat → Nat} {len : Nat} (h : whl pg len) : sT pg len = 6 ∧ sS pg len = (se pg len + 1) / 6 ∧ sW pg len = len - se pg len - 1 := by
  have h2 := h.2
  exact ⟨sT_q (by omega), sS_n (by omega), sW_n (by omega)⟩
/-- the town's rows behind q numbers read -/
def rdQ (pg R : Nat → Nat) (q : Nat) : Nat → Nat := fun j => if j < q then (if j % 8 = 0 then kn (pg (6 * (j / 8))) else if j % 8 < 5 then pg (6 * (j / 8) + j % 8) - 48 else 0) else R j
theorem rdQ_0 (pg R : Nat → Nat) : rdQ pg R (8 * 0) = R := by
  funext j
  exact if_neg (by omega)
theorem rdQ_R (pg R : Nat → Nat) (s : Nat) : rdQ pg R (8 * s) = rdR pg R s := rfl
theorem rdQ_a {pg R : Nat → Nat} {i f : Nat} (h : f < 5) : upN (rdQ pg R (8 * i + f)) (8 * i + f) (rdv pg (6 * i + f)) = rdQ pg R (8 * i + (f + 1)) := by
  funext j
  unfold upN rdQ
  by_cases e : j = 8 * i + f
  · rw [if_pos e, if_pos (show j < 8 * i + (f + 1) by omega), show j / 8 = i by omega, show j % 8 = f by omega]
    unfold rdv
    by_cases z : f = 0
    · rw [if_pos (show (6 * i + f) % 6 = 0 by omega), if_pos z]
      subst z
      rfl
    · rw [if_neg (show ¬ (6 * i + f) % 6 = 0 by omega), if_neg z, if_pos h]
  · rw [if_neg e]
    by_cases q : j < 8 * i + f
    · rw [if_pos q, if_pos (show j < 8 * i + (f + 1) by omega)]
    · rw [if_neg q, if_neg (show ¬ j < 8 * i + (f + 1) by omega)]
theorem rdQ_b {pg R : Nat → Nat} {i f : Nat} (h : 5 ≤ f) (h8 : f < 8) : upN (rdQ pg R (8 * i + f)) (8 * i + f) 0 = rdQ pg R (8 * i + (f + 1)) := by
  funext j
  unfold upN rdQ
  by_cases e : j = 8 * i + f
  · rw [if_pos e, if_pos (show j < 8 * i + (f + 1) by omega), show j % 8 = f by omega, if_neg (by omega), if_neg (by omega)]
  · rw [if_neg e]
    by_cases q : j < 8 * i + f
    · rw [if_pos q, if_pos (show j < 8 * i + (f + 1) by omega)]
    · rw [if_neg q, if_neg (show ¬ j < 8 * i + (f + 1) by omega)]
theorem rd_at {pg : Nat → Nat} {len i f : Nat} {rd : Nat → Int32} (hw : whl pg len) (h : rRD pg len rd) (hi : i < (se pg len + 1) / 6) (hf : f < 5) : rd (5 * i + f) = nI (rdv pg (6 * i + f)) := by
  have e := whl_e hw
  have h2 := hw.2
  have := h (6 * i + f) (by omega) ⟨by omega, by omega⟩
  rw [show 5 * ((6 * i + f) / 6) + (6 * i + f) % 6 = 5 * i + f by omega] at this
  exact this
theorem rm_at {pg mi : Nat → Nat} {len : Nat} {rm : Nat → Int32} (hw : whl pg len) (h : rRM pg len rm) : ∀ j, j < len - se pg len - 1 → rm j = nI (mdP pg (se pg len) mi (len - se pg len - 1) j) := by
  intro j hj
  rw [h j (by rw [(tw_T hw).2.2]; exact hj)]
  congr 1
  exact (if_pos hj).symm
