/-! PURE: loops by an invariant and a measure; indices, booleans -/
theorem zit_wf {P R : Type} {B : (P → Option R) → P → Option R} (Inv : P → Prop) (μ : P → Nat) (G : Option R → Prop)
    (h : ∀ (kc : P → Option R) (p : P), Inv p → (∃ p', Inv p' ∧ μ p' < μ p ∧ B kc p = kc p') ∨ G (B kc p)) :
    ∀ (F : Nat) (p : P), Inv p → μ p < F → G (zit B F p)
  | 0, p, _, hF => absurd hF (Nat.not_lt_zero _)
  | F + 1, p, hp, hF => by
    show G (B (zit B F) p)
    rcases h (zit B F) p hp with ⟨p', h1, h2, h3⟩ | h1
    · rw [h3]
      exact zit_wf Inv μ G h F p' h1 (by omega)
    · exact h1
theorem zlet_eq {α β : Type} (v : α) (f : α → Option β) : zlet v f = f v := rfl
theorem zchk_ok {β : Type} {j : Int32} {n : Nat} {e : Option β} (h : vp_in j n) : zchk j n e = e := if_neg h
theorem zchk_nI {β : Type} {i n : Nat} {e : Option β} (h : i < n) (hn : n < 2 ^ 31) : zchk (nI i) n e = e := if_neg (vp_in_nI h hn)
theorem zdvk_ok {β : Type} {y : Int32} {e : Option β} (h : ¬ y = 0) : zdvk y e = e := if_neg h
/-- a truth value as the machine has it -/
def zb (b : Bool) : Int32 := if b then 1 else 0
theorem zb_eq0 {b : Bool} : zb b = 0 ↔ b = false := by cases b <;> decide
theorem zb_ne0 {b : Bool} : ¬ zb b = 0 ↔ b = true := by cases b <;> decide
theorem zb_eq1 {b : Bool} : zb b = 1 ↔ b = true := by cases b <;> decide
theorem zb_t : zb true = 1 := rfl
theorem zb_f : zb false = 0 := rfl
theorem zbk_b {β : Type} {b : Bool} {e : Option β} : zbk (zb b) e = e := by cases b <;> rfl
theorem zbk_0 {β : Type} {e : Option β} : zbk 0 e = e := rfl
theorem zbk_1 {β : Type} {e : Option β} : zbk 1 e = e := rfl
theorem zif_b {α : Type} {b : Bool} {x y : α} : (if zb b = 0 then x else y) = if b then y else x := by cases b <;> rfl
/-- from 0 to below n -/
def zin (x n : Int32) : Bool := decide (0 ≤ x) && decide (x < n)
theorem zin_iff {x : Int32} {n : Nat} (hn : n < 2 ^ 31) : zin x (nI n) = true ↔ ∃ j, j < n ∧ x = nI j := by
  unfold zin
  rw [Bool.and_eq_true, decide_eq_true_iff, decide_eq_true_iff]
  constructor
  · intro h
    obtain ⟨j, hj, rfl⟩ := nI_of (x := x) (by rw [Int32.not_lt]; exact h.1)
    exact ⟨j, (nI_ltI hj hn).mp h.2, rfl⟩
  · rintro ⟨j, hj, rfl⟩
    exact ⟨nI_pos' (by omega), nI_lt hj hn⟩
theorem p_isWithin (x n : Int32) : fX4_isWithin x n = some (zb (zin x n)) := by
  unfold fX4_isWithin zin
  by_cases h1 : x < 0
  · rw [if_pos h1, zbk_0, decide_eq_false (by rw [Int32.not_le]; exact h1)]; rfl
  · rw [if_neg h1]
    have h2 : 0 ≤ x := Int32.not_lt.mp h1
    by_cases h3 : n ≤ x
    · rw [if_pos h3, zbk_0, decide_eq_true h2, decide_eq_false (by rw [Int32.not_lt]; exact h3)]; rfl
    · rw [if_neg h3, zbk_1, decide_eq_true h2, decide_eq_true (Int32.not_le.mp h3)]; rfl
theorem p_isCell (x y : Int32) : fX4_isCell x y = some (zb (zin x 8 && zin y 8)) := by
  unfold fX4_isCell
  rw [p_isWithin, Option.bind_some, zif_b, p_isWithin, Option.bind_some, zif_b, zbk_0, zbk_1]
  cases zin x 8 <;> cases zin y 8 <;> rfl
