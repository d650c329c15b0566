/-! PURE: the reference paints a box -/
def zx2 (x y w i : Nat) : Nat := w * (i / 8 - y) + (i % 8 - x)
theorem zx2_lt {x y w h i : Nat} (hb : zbx x y w h i = true) : zx2 x y w i < w * h := by
  obtain ⟨⟨h1, h2⟩, h3, h4⟩ := of_decide_eq_true hb
  unfold zx2
  have h5 : w * (i / 8 - y) + w ≤ w * h := by
    have := Nat.mul_le_mul_left w (show i / 8 - y + 1 ≤ h by omega)
    rw [Nat.mul_add, Nat.mul_one] at this
    exact this
  omega
theorem zcell {x y w h k : Nat} (hx : x + w ≤ 8) (hw : 1 ≤ w) (hy : y + h ≤ 8) (hk : k < w * h) : 8 * (y + k / w) + x + k % w < 64 ∧ zbx x y w h (8 * (y + k / w) + x + k % w) = true ∧ zx2 x y w (8 * (y + k / w) + x + k % w) = k ∧ ∀ i, zbx x y w h i = true → zx2 x y w i = k → i = 8 * (y + k / w) + x + k % w := by
  have h1 : k / w < h := Nat.div_lt_of_lt_mul hk
  have h2 : k % w < w := Nat.mod_lt _ (by omega)
  have h3 := Nat.div_add_mod k w
  have h4 : ∀ i, zbx x y w h i = true → zx2 x y w i = k → i / 8 - y = k / w ∧ i % 8 - x = k % w := fun i hb e => by
    obtain ⟨⟨b1, b2⟩, b3, b4⟩ := of_decide_eq_true hb
    unfold zx2 at e
    constructor
    · rw [← e, Nat.mul_add_div (by omega), Nat.div_eq_of_lt (show i % 8 - x < w by omega), Nat.add_zero]
    · rw [← e, Nat.mul_add_mod, Nat.mod_eq_of_lt (show i % 8 - x < w by omega)]
  generalize k / w = q at *
  generalize k % w = r at *
  refine ⟨by omega, decide_eq_true (by omega), ?_, fun i hb e => ?_⟩
  · unfold zx2
    rw [show (8 * (y + q) + x + r) / 8 - y = q by omega, show (8 * (y + q) + x + r) % 8 - x = r by omega]
    exact h3
  · obtain ⟨e1, e2⟩ := h4 i hb e
    obtain ⟨⟨b1, b2⟩, b3, b4⟩ := of_decide_eq_true hb
    omega
def zfirst (x y w h k i : Nat) : Bool := zbx x y w h i && decide (zx2 x y w i < k)
