/-! PURE: a layer moved by a step -/
def zmt (dx dy : Int) (s : Nat) : Option Nat := if (0 ≤ ((s % 8 : Nat) : Int) + dx ∧ ((s % 8 : Nat) : Int) + dx < 8) ∧ 0 ≤ ((s / 8 : Nat) : Int) + dy ∧ ((s / 8 : Nat) : Int) + dy < 8 then some (8 * (((s / 8 : Nat) : Int) + dy) + (((s % 8 : Nat) : Int) + dx)).toNat else none
theorem zmt_lt {dx dy : Int} {s t : Nat} (h : zmt dx dy s = some t) : t < 64 := by
  unfold zmt at h
  split at h
  · have := Option.some.inj h; omega
  · cases h
theorem zmt_inj {dx dy : Int} {s s' t : Nat} (h : zmt dx dy s = some t) (h' : zmt dx dy s' = some t) : s = s' := by
  unfold zmt at h h'
  split at h
  · split at h'
    · have e1 := Option.some.inj h
      have e2 := Option.some.inj h'
      omega
    · cases h'
  · cases h
/-- the cells to which the first k cells go -/
def zmk (b : Nat → Bool) (dx dy : Int) (k t : Nat) : Bool := decide (∃ s, s < k ∧ (b s = true ∧ zmt dx dy s = some t))
theorem zmk_0 {b : Nat → Bool} {dx dy : Int} {t : Nat} : zmk b dx dy 0 t = false := decide_eq_false (fun ⟨s, h, _⟩ => absurd h (Nat.not_lt_zero s))
theorem zmk_skip {b : Nat → Bool} {dx dy : Int} {k : Nat} (h : b k = false ∨ zmt dx dy k = none) (t : Nat) : zmk b dx dy (k + 1) t = zmk b dx dy k t := by
  unfold zmk
  apply decide_eq_decide.mpr
  constructor
  · rintro ⟨s, h1, h2, h3⟩
    refine ⟨s, ?_, h2, h3⟩
    rcases Nat.lt_or_ge s k with q | q
    · exact q
    · have e : s = k := by omega
      subst e
      rcases h with h | h
      · rw [h] at h2; cases h2
      · rw [h] at h3; cases h3
  · rintro ⟨s, h1, h2⟩
    exact ⟨s, by omega, h2⟩
theorem zmk_next {b : Nat → Bool} {dx dy : Int} {k t0 : Nat} (hb : b k = true) (ht : zmt dx dy k = some t0) (t : Nat) : zmk b dx dy (k + 1) t = (zmk b dx dy k t || decide (t = t0)) := by
  unfold zmk
  rw [← Bool.decide_or]
  apply decide_eq_decide.mpr
  constructor
  · rintro ⟨s, h1, h2, h3⟩
    rcases Nat.lt_or_ge s k with q | q
    · exact Or.inl ⟨s, q, h2, h3⟩
    · have e : s = k := by omega
      subst e
      rw [ht] at h3
      exact Or.inr (Option.some.inj h3).symm
  · rintro (⟨s, h1, h2⟩ | rfl)
    · exact ⟨s, by omega, h2⟩
    · exact ⟨k, by omega, hb, ht⟩
theorem zmk_new {b : Nat → Bool} {dx dy : Int} {k t0 : Nat} (ht : zmt dx dy k = some t0) : zmk b dx dy k t0 = false := decide_eq_false (fun ⟨s, h1, _, h3⟩ => by have := zmt_inj h3 ht; omega)
theorem zmk_count {b : Nat → Bool} {dx dy : Int} {k t0 : Nat} (hb : b k = true) (ht : zmt dx dy k = some t0) : zcount (zmk b dx dy (k + 1)) 64 = zcount (zmk b dx dy k) 64 + 1 := by
  rw [zcount_set (p := zmk b dx dy k) (q := zmk b dx dy (k + 1)) (c := t0) (zmk_new ht) (by rw [zmk_next hb ht, decide_eq_true rfl, Bool.or_true]) (fun i hi => by rw [zmk_next hb ht, decide_eq_false hi, Bool.or_false]), if_pos (zmt_lt ht)]
