/-! PURE: where a cell goes, in numbers -/
theorem zmt_at {kx ky x y : Nat} (hx : x < 8) (hy : y < 8) : zmt ((kx : Int) - 7) ((ky : Int) - 7) (8 * y + x) = if (7 ≤ x + kx ∧ x + kx < 15) ∧ 7 ≤ y + ky ∧ y + ky < 15 then some (8 * (y + ky - 7) + (x + kx - 7)) else none := by
  unfold zmt
  rw [show (8 * y + x) % 8 = x by omega, show (8 * y + x) / 8 = y by omega]
  by_cases h : (7 ≤ x + kx ∧ x + kx < 15) ∧ 7 ≤ y + ky ∧ y + ky < 15
  · rw [if_pos h, if_pos (by omega)]
    congr 1
    omega
  · rw [if_neg h, if_neg (by omega)]
theorem p_cellBit {x y : Nat} (hx : x < 8) (hy : y < 8) : fX4_cellBit (nI x) (nI y) = some ((1 : Int64) <<< ((nI (8 * y + x)).toInt64 &&& 63)) := by
  unfold fX4_cellBit
  rw [show (8 : Int32) * nI y = nI (8 * y) from pk_mul 8 y, nI_add]
