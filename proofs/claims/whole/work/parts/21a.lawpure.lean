/-! pure words of the law: numbers of the script, what holds behind a call -/
theorem iv_nat {x : Int32} (h : 0 ≤ x.toInt) : ∃ k : Nat, (k : Int) = x.toInt ∧ k < 2 ^ 31 ∧ x = nI k := by
  have h3 := fb_rng x
  refine ⟨x.toInt.toNat, by omega, by omega, ?_⟩
  rw [rI_eqi, nI_toInt (by omega)]
  omega
theorem iv_e {x : Int32} (h : 10 ≤ x.toInt ∧ x.toInt < 14) : ∃ e_ : Nat, e_ < 4 ∧ x = nI (10 + e_) := by
  obtain ⟨k, k1, k2, k3⟩ := iv_nat (x := x) (by omega)
  refine ⟨k - 10, by omega, ?_⟩
  rw [k3]
  congr 1
  omega
theorem pg_up {pg : Nat → Nat} {len ch : Nat} (h : ∀ i, i < len → 1 ≤ pg i ∧ pg i < 127) (h1 : 1 ≤ ch) (h2 : ch < 127) : ∀ i, i < len + 1 → 1 ≤ upN pg len ch i ∧ upN pg len ch i < 127 := by
  intro i hi
  by_cases q : i = len
  · rw [q, upN_s]; exact ⟨h1, h2⟩
  · rw [upN_n q]; exact h i (by omega)
theorem rd_WR {pg R : Nat → Nat} {len : Nat} (hR : WR R) (hw : whl pg len) : WR (rdR pg R ((se pg len + 1) / 6)) :=
  hR.rd (fun s f hs hf => ((whl_s hw (by omega)).2 f hf).2)
theorem rd_h9 {pg R : Nat → Nat} {n : Nat} (h : ∀ q, q < 4 → R (8 * q + 7) ≤ 9) : ∀ q, q < 4 → rdR pg R n (8 * q + 7) ≤ 9 := by
  intro q hq
  unfold rdR
  by_cases z : 8 * q + 7 < 8 * n
  · rw [if_pos z, if_neg (by omega), if_neg (by omega)]; omega
  · rw [if_neg z]; exact h q hq
theorem rd_m4 {pg mi : Nat → Nat} {len : Nat} (hw : whl pg len) : ∀ k, k < len - se pg len - 1 → mdP pg (se pg len) mi (len - se pg len - 1) k < 4 := by
  intro k hk
  have h := whl_w (i := k) hw (by omega)
  unfold mdP
  rw [if_pos hk]
  omega
theorem ik_town {ik tn : Nat} {kt : Int32} {X : Prop} (h : (ik = 0 ∧ ∃ z, z ≤ tn ∧ kt = oI z) ∨ (ik = 1 ∧ nI tn = kt ∧ X)) : ∃ z, z ≤ tn + 1 ∧ kt = oI z := by
  rcases h with ⟨_, z, h1, h2⟩ | ⟨_, h1, _⟩
  · exact ⟨z, by omega, h2⟩
  · exact ⟨tn + 1, Nat.le_refl _, h1.symm⟩
theorem ik_ne {z tn : Nat} {kt : Int32} (h1 : z ≤ tn) (h2 : kt = oI z) (h3 : tn < 1000) : ¬ kt = nI tn := by
  intro q
  have e := oI_toInt (k := z) (by omega)
  rw [← h2, q, nI_toInt (by omega)] at e
  omega
theorem up_h9 {R : Nat → Nat} {k v : Nat} (h : ∀ q, q < 4 → R (8 * q + 7) ≤ 9) (hk : k % 8 < 7) : ∀ q, q < 4 → upN R k v (8 * q + 7) ≤ 9 := by
  intro q hq
  rw [upN_n (by omega)]
  exact h q hq
theorem up_h9v {R : Nat → Nat} {k v : Nat} (h : ∀ q, q < 4 → R (8 * q + 7) ≤ 9) (hv : v ≤ 9) : ∀ q, q < 4 → upN R k v (8 * q + 7) ≤ 9 := by
  intro q hq
  unfold upN
  split
  · exact hv
  · exact h q hq
theorem wk_h9 {R : Nat → Nat} {s : Nat} (h : ∀ q, q < 4 → R (8 * q + 7) ≤ 9) (hs : s < 4) : ∀ q, q < 4 → wkP R s 4 (8 * q + 7) ≤ 9 := by
  intro q hq
  unfold wkP
  rw [if_neg (by omega)]
  exact h q hq
theorem hE_up {E : Nat → Nat} {h n w_ p_ q_ v_ : Nat} (hE : ∀ i, i < h → E (4 * i) < 5 ∧ E (4 * i + 1) < n ∧ E (4 * i + 2) < n ∧ E (4 * i + 3) ≤ 1) (hw : w_ < 5) (hp : p_ < n) (hq : q_ < n) (hv : v_ ≤ 1) :
    ∀ i, i < h + 1 → upN (upN (upN (upN E (4 * h) w_) (4 * h + 1) p_) (4 * h + 2) q_) (4 * h + 3) v_ (4 * i) < 5 ∧ upN (upN (upN (upN E (4 * h) w_) (4 * h + 1) p_) (4 * h + 2) q_) (4 * h + 3) v_ (4 * i + 1) < n ∧ upN (upN (upN (upN E (4 * h) w_) (4 * h + 1) p_) (4 * h + 2) q_) (4 * h + 3) v_ (4 * i + 2) < n ∧ upN (upN (upN (upN E (4 * h) w_) (4 * h + 1) p_) (4 * h + 2) q_) (4 * h + 3) v_ (4 * i + 3) ≤ 1 := by
  intro i hi
  by_cases q : i = h
  · subst q
    refine ⟨?_, ?_, ?_, ?_⟩
    · rw [upN_n (by omega), upN_n (by omega), upN_n (by omega), upN_s]; exact hw
    · rw [upN_n (by omega), upN_n (by omega), upN_s]; exact hp
    · rw [upN_n (by omega), upN_s]; exact hq
    · rw [upN_s]; exact hv
  · obtain ⟨h1, h2, h3, h4⟩ := hE i (by omega)
    refine ⟨?_, ?_, ?_, ?_⟩
    · rw [upN_n (by omega), upN_n (by omega), upN_n (by omega), upN_n (by omega)]; exact h1
    · rw [upN_n (by omega), upN_n (by omega), upN_n (by omega), upN_n (by omega)]; exact h2
    · rw [upN_n (by omega), upN_n (by omega), upN_n (by omega), upN_n (by omega)]; exact h3
    · rw [upN_n (by omega), upN_n (by omega), upN_n (by omega), upN_n (by omega)]; exact h4
theorem WR_zf : WR zf := ⟨fun _ _ => ⟨Nat.succ_pos 4, Nat.zero_le _, Nat.zero_le _, Nat.zero_le _⟩, fun _ _ _ _ => Nat.zero_le _⟩
