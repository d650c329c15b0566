/-! PURE: steps from -7 to 7 -/
theorem zstep_all : ∀ a, a < 8 → ∀ k, k < 15 → zin (nI a + (nI k - 7)) 8 = decide (7 ≤ a + k ∧ a + k < 15) ∧ (7 ≤ a + k ∧ a + k < 15 → nI a + (nI k - 7) = nI (a + k - 7)) := by decide +kernel
theorem zstep_of {x : Int32} (h1 : (-7 : Int32) ≤ x) (h2 : x ≤ 7) : ∃ k, k < 15 ∧ x = nI k - 7 := by
  rw [Int32.le_iff_toInt_le] at h1 h2
  have e1 : (-7 : Int32).toInt = -7 := by decide
  have e2 : (7 : Int32).toInt = 7 := by decide
  rw [e1] at h1
  rw [e2] at h2
  refine ⟨(x.toInt + 7).toNat, by omega, Int32.toInt_inj.mp ?_⟩
  have e3 : (nI (x.toInt + 7).toNat).toInt = x.toInt + 7 := by rw [nI_toInt (by omega)]; omega
  rw [Int32.toInt_sub, e3, e2, Int.bmod_eq_of_le (by omega) (by omega)]
  omega
