/-! PURE: drawing and rubbing on both sides -/
theorem zpl_put {sP : zOS} {a a' : Nat → Int32} {l : Nat} {L : Int64} (h : zpl sP a) (hl : l < 4) (h1 : ∀ i, i < 64 → zt L i = zmb a' l i) (h2 : ∀ l', l' < 4 → l' ≠ l → ∀ i, i < 64 → zmb a' l' i = zmb a l' i) (h3 : ∀ k, 8 ≤ k → a' k = a k) : zpl (zsL sP 1 (vp_updL (zL sP 1) l L)) a' := by
  obtain ⟨g1, nd, np, g2, g3, g4, g5, g6, g7, g8, g9⟩ := h
  refine ⟨fun l' hl' i hi => ?_, nd, np, g2, g3, g4, by rw [h3 8 (by omega)]; exact g5, g6, by rw [h3 27 (by omega)]; exact g7, fun i hi => by rw [h3 (9 + i) (by omega)]; exact g8 i hi, fun i hi => by rw [h3 (28 + i) (by omega)]; exact g9 i hi⟩
  show zt (if l' = l then L else zL sP 1 l') i = _
  by_cases e : l' = l
  · rw [if_pos e, e]; exact h1 i hi
  · rw [if_neg e, h2 l' hl' e i hi]; exact g1 l' hl' i hi
def zisb (x y w h : Int32) : Bool := (zin x 8 && zin y 8) && ((decide (1 ≤ w) && decide (w ≤ 8 - x)) && (decide (1 ≤ h) && decide (h ≤ 8 - y)))
theorem p_isBox (x y w h : Int32) : fX2_isBox x y w h = some (zb (zisb x y w h)) := by
  unfold fX2_isBox zisb
  rw [p_isCell, Option.bind_some, zif_b]
  cases zin x 8 && zin y 8 with
  | false => rfl
  | true =>
    rw [if_pos rfl]
    by_cases h1 : w < 1
    · rw [if_pos h1, decide_eq_false (by rw [Int32.not_le]; exact h1)]; rfl
    · rw [if_neg h1, decide_eq_true (Int32.not_lt.mp h1)]
      by_cases h2 : 8 - x < w
      · rw [if_pos h2, decide_eq_false (by rw [Int32.not_le]; exact h2)]; rfl
      · rw [if_neg h2, decide_eq_true (Int32.not_lt.mp h2)]
        by_cases h3 : h < 1
        · rw [if_pos h3, decide_eq_false (by rw [Int32.not_le]; exact h3)]; rfl
        · rw [if_neg h3, decide_eq_true (Int32.not_lt.mp h3)]
          by_cases h4 : 8 - y < h
          · rw [if_pos h4, decide_eq_false (by rw [Int32.not_le]; exact h4)]; rfl
          · rw [if_neg h4, decide_eq_true (Int32.not_lt.mp h4)]; rfl
theorem znat1 {w : Int32} {n : Nat} (hn : n < 2 ^ 31) (h1 : (1 : Int32) ≤ w) (h2 : w ≤ nI n) : ∃ k, w = nI k ∧ 1 ≤ k ∧ k ≤ n := by
  obtain ⟨k, hk, rfl⟩ := nI_of (x := w) (by
    rw [Int32.lt_iff_toInt_lt]
    rw [Int32.le_iff_toInt_le] at h1
    have e1 : (1 : Int32).toInt = 1 := by decide
    have e0 : (0 : Int32).toInt = 0 := by decide
    omega)
  exact ⟨k, rfl, (nI_leI (a := 1) (by decide) hk).mp h1, (nI_leI hk hn).mp h2⟩
theorem zisb_nat {x y w h : Int32} (hb : zisb x y w h = true) : ∃ x' y' w' h', x = nI x' ∧ y = nI y' ∧ w = nI w' ∧ h = nI h' ∧ x' + w' ≤ 8 ∧ 1 ≤ w' ∧ y' + h' ≤ 8 ∧ 1 ≤ h' := by
  unfold zisb at hb
  simp only [Bool.and_eq_true, decide_eq_true_iff] at hb
  obtain ⟨⟨hx, hy⟩, ⟨w1, w2⟩, h1, h2⟩ := hb
  obtain ⟨x', hx', rfl⟩ := (zin_iff (n := 8) (by decide)).mp hx
  obtain ⟨y', hy', rfl⟩ := (zin_iff (n := 8) (by decide)).mp hy
  rw [show (8 : Int32) - nI x' = nI (8 - x') from pk_sub (a := 8) (by omega)] at w2
  rw [show (8 : Int32) - nI y' = nI (8 - y') from pk_sub (a := 8) (by omega)] at h2
  obtain ⟨w', rfl, w3, w4⟩ := znat1 (by omega) w1 w2
  obtain ⟨h', rfl, h3, h4⟩ := znat1 (by omega) h1 h2
  exact ⟨x', y', w', h', rfl, rfl, rfl, rfl, by omega, w3, by omega, h3⟩
