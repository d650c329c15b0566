/-! PURE: the class's boxes of bits -/
theorem zrow_all : ∀ x, x < 8 → ∀ w, w < 9 → x + w ≤ 8 → ∀ i, i < 64 → zt ((((1 : Int64) <<< ((nI w).toInt64 &&& 63)) - (1 : Int64)) <<< ((nI x).toInt64 &&& 63)) i = decide (x ≤ i ∧ i < x + w) := by decide +kernel
def zbx (x y w h i : Nat) : Bool := decide ((x ≤ i % 8 ∧ i % 8 < x + w) ∧ y ≤ i / 8 ∧ i / 8 < y + h)
theorem p_boxBits {x y w h F : Nat} (hF : 1000 ≤ F) (hx : x + w ≤ 8) (hw : 1 ≤ w) (hy : y + h ≤ 8) (hh : 1 ≤ h) : ∃ m, fX2_boxBits F (nI x) (nI y) (nI w) (nI h) = some m ∧ ∀ i, i < 64 → zt m i = zbx x y w h i := by
  unfold fX2_boxBits
  rw [zlet_eq]
  have hrow := zrow_all x (by omega) w (by omega) hx
  generalize (((1 : Int64) <<< ((nI w).toInt64 &&& 63)) - (1 : Int64)) <<< ((nI x).toInt64 &&& 63) = row at *
  refine zit_wf (fun p => ∃ k, p.2 = nI (y + k) ∧ k ≤ h ∧ ∀ i, i < 64 → zt p.1 i = zbx x y w k i) (fun p => 9 - p.2.toNatClampNeg) (fun o => ∃ m, o = some m ∧ ∀ i, i < 64 → zt m i = zbx x y w h i) ?_ F (0, nI y) ⟨0, rfl, by omega, fun i hi => by
    show zt 0 i = _
    rw [zt_0]
    unfold zbx
    rw [decide_eq_false (by omega)]⟩ (by show 9 - _ < F; omega)
  rintro kc ⟨m, x8⟩ ⟨k, he, hk, hm⟩
  have he : x8 = nI (y + k) := he
  subst he
  have hm : ∀ i, i < 64 → zt m i = zbx x y w k i := hm
  show (∃ p', _ ∧ _ ∧ bX2_boxBits_15 F (nI y) (nI h) row kc m (nI (y + k)) = kc p') ∨ (∃ m', bX2_boxBits_15 F (nI y) (nI h) row kc m (nI (y + k)) = some m' ∧ _)
  unfold bX2_boxBits_15
  rw [nI_add]
  by_cases hkh : k = h
  · right
    subst hkh
    rw [if_pos (show nI (y + k) ≤ nI (y + k) by rw [zle_nI (by omega) (by omega)]; omega)]
    exact ⟨m, rfl, hm⟩
  · left
    rw [if_neg (show ¬ nI (y + h) ≤ nI (y + k) by rw [zle_nI (by omega) (by omega)]; omega), zlet_eq, show (8 : Int32) * nI (y + k) = nI (8 * (y + k)) from pk_mul 8 (y + k), nI_1]
    refine ⟨(_, nI (y + k + 1)), ⟨k + 1, rfl, by omega, fun i hi => ?_⟩, by show 9 - (nI (y + k + 1)).toNatClampNeg < 9 - (nI (y + k)).toNatClampNeg; rw [nI_clamp (by omega), nI_clamp (by omega)]; omega, rfl⟩
    show zt (m ||| (row <<< ((nI (8 * (y + k))).toInt64 &&& 63))) i = _
    rw [zt_or, hm i hi, zt_shl _ (by omega), decide_eq_true hi, Bool.true_and]
    unfold zbx
    by_cases h1 : i < 8 * (y + k)
    · rw [decide_eq_true h1]
      show (_ || (false && _)) = _
      rw [Bool.false_and, Bool.or_false]
      exact decide_eq_decide.mpr (by omega)
    · rw [decide_eq_false h1, hrow (i - 8 * (y + k)) (by omega)]
      show (_ || (true && _)) = _
      rw [Bool.true_and, ← Bool.decide_or]
      exact decide_eq_decide.mpr (by omega)
