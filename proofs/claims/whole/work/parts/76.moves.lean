/-! PURE: the reference moves a layer -/
def zlh (p q : Int32) (i : Nat) : Bool := if i < 32 then zu p i else zu q (i - 32)
theorem zlh_or {p q : Int32} {t i : Nat} (ht : t < 64) (hi : i < 64) : (if t < 32 then zlh (p ||| ((1 : Int32) <<< (nI t &&& 31))) (q ||| 0) i else zlh (p ||| 0) (q ||| ((1 : Int32) <<< (nI (t - 32) &&& 31))) i) = (zlh p q i || decide (i = t)) := by
  unfold zlh
  by_cases h1 : t < 32
  · rw [if_pos h1]
    by_cases h2 : i < 32
    · rw [if_pos h2, if_pos h2, zu_or, zu_bit h1]
    · rw [if_neg h2, if_neg h2, zu_or, zu_0, decide_eq_false (show ¬ i = t by omega)]
  · rw [if_neg h1]
    by_cases h2 : i < 32
    · rw [if_pos h2, if_pos h2, zu_or, zu_0, decide_eq_false (show ¬ i = t by omega)]
    · rw [if_neg h2, if_neg h2, zu_or, zu_bit (by omega)]
      congr 1
      exact decide_eq_decide.mpr (by omega)
