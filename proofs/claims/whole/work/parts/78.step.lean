/-! PURE: a step, as the class asks for it -/
def zst (x : Int32) : Bool := decide ((-7 : Int32) ≤ x) && decide (x ≤ 7)
theorem p_isStep (x : Int32) : fX2_isStep x = some (zb (zst x)) := by
  unfold fX2_isStep zst
  have e1 : (-8 : Int32).toInt = -8 := by decide
  have e2 : (8 : Int32).toInt = 8 := by decide
  have e3 : (-7 : Int32).toInt = -7 := by decide
  have e4 : (7 : Int32).toInt = 7 := by decide
  by_cases h1 : x ≤ (-8 : Int32)
  · rw [if_pos h1, decide_eq_false (fun h => by rw [Int32.le_iff_toInt_le] at h h1; omega)]; rfl
  · rw [if_neg h1, decide_eq_true (show (-7 : Int32) ≤ x by rw [Int32.le_iff_toInt_le] at h1 ⊢; omega)]
    by_cases h2 : (8 : Int32) ≤ x
    · rw [if_pos h2, decide_eq_false (fun h => by rw [Int32.le_iff_toInt_le] at h h2; omega)]; rfl
    · rw [if_neg h2, decide_eq_true (show x ≤ (7 : Int32) by rw [Int32.le_iff_toInt_le] at h2 ⊢; omega)]; rfl
theorem zst_of {x : Int32} (h : zst x = true) : ∃ k, k < 15 ∧ x = nI k - 7 := by
  unfold zst at h
  rw [Bool.and_eq_true, decide_eq_true_iff, decide_eq_true_iff] at h
  exact zstep_of h.1 h.2
