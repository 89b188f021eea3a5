/-! pure words: what the calls tell, by any numbers -/
/-- a singer told -/
def vS (R mi : Nat → Nat) (n w : Nat) (x y : Int32) : Int32 := if inR x n then aS R mi n w x.toInt.toNat y else -101
theorem vS_t {R mi : Nat → Nat} {n w s : Nat} {y : Int32} (h : s < n) (hn : n ≤ 4) : vS R mi n w (nI s) y = aS R mi n w s y := by
  unfold vS
  rw [if_pos (inR_n h (by omega)), nI_toInt (by omega)]
  rfl
theorem vS_n {R mi : Nat → Nat} {n w s k : Nat} (h : s < n) (hn : n ≤ 4) (hk : k < 2 ^ 31) : vS R mi n w (nI s) (nI k) = tS R mi n w s k := (vS_t h hn).trans (aS_n hk)
theorem vS_f {R mi : Nat → Nat} {n w : Nat} {x y : Int32} (h : ¬ inR x n) : vS R mi n w x y = -101 := if_neg h
/-- a singer's kind asked -/
def vA (R : Nat → Nat) (n : Nat) (x y : Int32) : Int32 := if inR x n then (if inR y 5 then (if isK (R (8 * x.toInt.toNat)) y.toInt.toNat then x else -1) else -102) else -101
theorem vA_t {R : Nat → Nat} {n s k : Nat} (h : s < n) (hn : n ≤ 4) (hk : k < 5) : vA R n (nI s) (nI k) = if isK (R (8 * s)) k then nI s else -1 := by
  unfold vA
  rw [if_pos (inR_n h (by omega)), if_pos (inR_n hk (by omega)), nI_toInt (by omega), nI_toInt (by omega)]
  rfl
theorem vA_o {R : Nat → Nat} {n s : Nat} {y : Int32} (h : s < n) (hn : n ≤ 4) (hk : ¬ inR y 5) : vA R n (nI s) y = -102 := by
  unfold vA
  rw [if_pos (inR_n h (by omega)), if_neg hk]
theorem vA_f {R : Nat → Nat} {n : Nat} {x y : Int32} (h : ¬ inR x n) : vA R n x y = -101 := if_neg h
/-- a widow told -/
def vW (R mi E : Nat → Nat) (n w h : Nat) (x y : Int32) : Int32 := if inR x w then aW R mi E n h x.toInt.toNat y else -101
theorem vW_t {R mi E : Nat → Nat} {n w h d : Nat} {y : Int32} (q : d < w) (hw : w ≤ 5) : vW R mi E n w h (nI d) y = aW R mi E n h d y := by
  unfold vW
  rw [if_pos (inR_n q (by omega)), nI_toInt (by omega)]
  rfl
theorem vW_n {R mi E : Nat → Nat} {n w h d k : Nat} (q : d < w) (hw : w ≤ 5) (hk : k < 2 ^ 31) : vW R mi E n w h (nI d) (nI k) = tW R mi E n h d k := (vW_t q hw).trans (aW_n hk)
theorem vW_f {R mi E : Nat → Nat} {n w h : Nat} {x y : Int32} (q : ¬ inR x w) : vW R mi E n w h x y = -101 := if_neg q
/-- a wince -/
def vI (R mi : Nat → Nat) (n w : Nat) (x y : Int32) : Int32 := if inR x w ∧ inR y n then nI (hb_ R y.toInt.toNat (mi x.toInt.toNat)) else -101
theorem vI_t {R mi : Nat → Nat} {n w d s : Nat} (q : d < w) (hw : w ≤ 5) (h : s < n) (hn : n ≤ 4) : vI R mi n w (nI d) (nI s) = nI (hb_ R s (mi d)) := by
  unfold vI
  rw [if_pos ⟨inR_n q (by omega), inR_n h (by omega)⟩, nI_toInt (by omega), nI_toInt (by omega)]
  rfl
theorem vI_f {R mi : Nat → Nat} {n w : Nat} {x y : Int32} (q : ¬ (inR x w ∧ inR y n)) : vI R mi n w x y = -101 := if_neg q
/-- the mayor -/
def vM (R mi : Nat → Nat) (n w : Nat) : Int32 := if n = 0 then -103 else nI (my R mi n w)
theorem vS_e {R mi : Nat → Nat} {n w s k : Nat} {v : Int32} (h : s < n) (hn : n ≤ 4) (hk : k < 2 ^ 31) (e : tS R mi n w s k = v) : v = vS R mi n w (nI s) (nI k) := e.symm.trans (vS_n h hn hk).symm
theorem vW_e {R mi E : Nat → Nat} {n w h d k : Nat} {v : Int32} (q : d < w) (hw : w ≤ 5) (hk : k < 2 ^ 31) (e : tW R mi E n h d k = v) : v = vW R mi E n w h (nI d) (nI k) := e.symm.trans (vW_n q hw hk).symm
theorem vW_o {R mi E : Nat → Nat} {n w h d : Nat} {y : Int32} (q : d < w) (hw : w ≤ 5) (hk : ¬ inR y 5) : -102 = vW R mi E n w h (nI d) y := ((vW_t q hw).trans (aW_o hk)).symm
theorem vA_e {R : Nat → Nat} {n s k : Nat} {v : Int32} (h : s < n) (hn : n ≤ 4) (hk : k < 5) (e : (if isK (R (8 * s)) k then nI s else -1) = v) : v = vA R n (nI s) (nI k) := e.symm.trans (vA_t h hn hk).symm
