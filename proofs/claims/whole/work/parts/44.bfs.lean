/-! PURE: numbering pieces by a queue, without the code -/
/-- between two roots: all pieces that begin below k are numbered, 0 to below n -/
def zoi (N : Nat) (w : Nat → Bool) (adj : Nat → Nat → Prop) (lab : Nat → Option Nat) (n k : Nat) : Prop :=
  (∀ p, p < N → w p = false → lab p = none) ∧ (∀ p j, p < N → lab p = some j → j < n) ∧ (∀ p, p < N → p < k → w p = true → ¬ lab p = none) ∧
  (∀ p q, p < N → q < N → w p = true → w q = true → adj p q → ¬ lab p = none → lab q = lab p) ∧
  (∀ p q, p < N → q < N → w p = true → w q = true → lab p = lab q → ¬ lab p = none → zcn w adj p q) ∧
  (∀ j, j < n → ∃ p, p < k ∧ p < N ∧ w p = true ∧ lab p = some j) ∧
  (∀ p j, p < N → w p = true → lab p = some j → ∀ j', j' < j → ∃ p', p' < p ∧ w p' = true ∧ lab p' = some j')
theorem zoi_0 {N : Nat} {w : Nat → Bool} {adj : Nat → Nat → Prop} {lab : Nat → Option Nat} (h : ∀ p, p < N → lab p = none) : zoi N w adj lab 0 0 := by
  refine ⟨fun p hp _ => h p hp, fun p j hp e => ?_, fun p _ h0 => by omega, fun p q hp _ _ _ _ e => absurd (h p hp) e, fun p q hp _ _ _ _ e => absurd (h p hp) e, fun j hj => by omega, fun p j hp _ e => ?_⟩
  · rw [h p hp] at e; cases e
  · rw [h p hp] at e; cases e
theorem zoi_skip {N : Nat} {w : Nat → Bool} {adj : Nat → Nat → Prop} {lab : Nat → Option Nat} {n k : Nat} (h : zoi N w adj lab n k) (hk : w k = false ∨ ¬ lab k = none) : zoi N w adj lab n (k + 1) := by
  obtain ⟨a, b, c, d, e, f, g⟩ := h
  refine ⟨a, b, fun p hp hpk hw => ?_, d, e, fun j hj => ?_, g⟩
  · by_cases hpk' : p = k
    · subst hpk'
      rcases hk with hk | hk
      · rw [hk] at hw; cases hw
      · exact hk
    · exact c p hp (by omega) hw
  · obtain ⟨p, h1, h2⟩ := f j hj
    exact ⟨p, by omega, h2⟩
theorem zoi_end {N : Nat} {w : Nat → Bool} {adj : Nat → Nat → Prop} {lab : Nat → Option Nat} {n : Nat} (h : zoi N w adj lab n N) : zlab N w adj lab n := by
  obtain ⟨a, b, c, d, e, f, g⟩ := h
  have tot : ∀ p, p < N → w p = true → ∃ k, k < n ∧ lab p = some k := fun p hp hw => by
    cases el : lab p with
    | none => exact absurd el (c p hp hp hw)
    | some j => exact ⟨j, b p j hp el, rfl⟩
  refine ⟨a, tot, fun p q hp hq wp wq hpq => (d p q hp hq wp wq hpq (c p hp hp wp)).symm, fun p q hp hq wp wq hpq => e p q hp hq wp wq hpq (c p hp hp wp), fun k hk => ?_, g⟩
  obtain ⟨p, -, h2, h3, h4⟩ := f k hk
  exact ⟨p, h2, h3, h4⟩
/-- within a piece: root k, number n, the row ro of m places so far -/
def zbi (N : Nat) (w : Nat → Bool) (adj : Nat → Nat → Prop) (lab0 : Nat → Option Nat) (n k : Nat) (lab : Nat → Option Nat) (ro : Nat → Nat) (m : Nat) : Prop :=
  (∀ p, p < N → w p = false → lab p = none) ∧ (∀ p, p < N → lab p = lab0 p ∨ (lab0 p = none ∧ lab p = some n)) ∧
  (∀ p, p < N → lab p = some n → (w p = true ∧ zcn w adj k p) ∧ ∃ j, j < m ∧ ro j = p) ∧ (∀ j, j < m → ro j < N ∧ lab (ro j) = some n) ∧
  m + zcount (fun p => w p && (lab p).isNone) N ≤ N
def ztk (w : Nat → Bool) (n p : Nat) (lab : Nat → Option Nat) (ro : Nat → Nat) (m : Nat) (lab' : Nat → Option Nat) (ro' : Nat → Nat) (m' : Nat) : Prop :=
  (w p = true ∧ lab p = none ∧ lab' = va_up lab p (some n) ∧ ro' = va_up ro m p ∧ m' = m + 1) ∨ ((w p = false ∨ ¬ lab p = none) ∧ lab' = lab ∧ ro' = ro ∧ m' = m)
theorem zbi_room {N : Nat} {w : Nat → Bool} {adj : Nat → Nat → Prop} {lab0 lab : Nat → Option Nat} {n k m p : Nat} {ro : Nat → Nat} (h : zbi N w adj lab0 n k lab ro m) (hp : p < N) (hw : w p = true) (hl : lab p = none) : m < N := by
  have h1 := h.2.2.2.2
  have h2 : 0 < zcount (fun p => w p && (lab p).isNone) N := zcount_pos hp (by rw [hw, hl]; rfl)
  omega
theorem ztk_bi {N : Nat} {w : Nat → Bool} {adj : Nat → Nat → Prop} {lab0 lab lab' : Nat → Option Nat} {n k m m' p : Nat} {ro ro' : Nat → Nat} (h : zbi N w adj lab0 n k lab ro m) (hp : p < N) (hc : w p = true → zcn w adj k p) (t : ztk w n p lab ro m lab' ro' m') :
    zbi N w adj lab0 n k lab' ro' m' ∧ (∀ q, ¬ lab q = none → ¬ lab' q = none) ∧ (∀ j, j < m → ro' j = ro j) ∧ m ≤ m' ∧ (w p = true → ¬ lab' p = none) := by
  rcases t with ⟨hw, hl, rfl, rfl, rfl⟩ | ⟨ho, rfl, rfl, rfl⟩
  · obtain ⟨a, b, c, d, e⟩ := h
    have up : ∀ q, q ≠ p → va_up lab p (some n) q = lab q := fun q hq => if_neg hq
    have ups : va_up lab p (some n) p = some n := if_pos rfl
    have uq : ∀ j, j ≠ m → va_up ro m p j = ro j := fun j hj => if_neg hj
    have uqs : va_up ro m p m = p := if_pos rfl
    refine ⟨⟨fun q hq hwq => ?_, fun q hq => ?_, fun q hq hlq => ?_, fun j hj => ?_, ?_⟩, fun q hq => ?_, fun j hj => uq j (by omega), by omega, fun _ => by rw [ups]; simp⟩
    · by_cases hqp : q = p
      · subst hqp; rw [hw] at hwq; cases hwq
      · rw [up q hqp]; exact a q hq hwq
    · by_cases hqp : q = p
      · subst hqp
        rw [ups]
        rcases b q hq with h1 | h1
        · exact Or.inr ⟨by rw [← h1]; exact hl, rfl⟩
        · rw [hl] at h1; exact absurd h1.2 (by simp)
      · rw [up q hqp]; exact b q hq
    · by_cases hqp : q = p
      · subst hqp; exact ⟨⟨hw, hc hw⟩, m, by omega, uqs⟩
      · rw [up q hqp] at hlq
        obtain ⟨h1, j, h2, h3⟩ := c q hq hlq
        exact ⟨h1, j, by omega, by rw [uq j (by omega)]; exact h3⟩
    · by_cases hjm : j = m
      · subst hjm; rw [uqs, ups]; exact ⟨hp, rfl⟩
      · rw [uq j hjm]
        obtain ⟨h1, h2⟩ := d j (by omega)
        refine ⟨h1, ?_⟩
        by_cases hrp : ro j = p
        · rw [hrp, ups]
        · rw [up _ hrp]; exact h2
    · have hcount := zcount_set (p := fun q => w q && (va_up lab p (some n) q).isNone) (q := fun q => w q && (lab q).isNone) (c := p) (by show (w p && (va_up lab p (some n) p).isNone) = false; rw [ups]; simp) (by show (w p && (lab p).isNone) = true; rw [hw, hl]; rfl) (fun i hi => by show (w i && (lab i).isNone) = (w i && (va_up lab p (some n) i).isNone); rw [up i hi]) (n := N)
      rw [if_pos hp] at hcount
      omega
    · by_cases hqp : q = p
      · subst hqp; rw [ups]; simp
      · rw [up q hqp]; exact hq
  · refine ⟨h, fun q hq => hq, fun _ _ => rfl, Nat.le_refl _, fun hw => ?_⟩
    rcases ho with h1 | h1
    · rw [hw] at h1; cases h1
    · exact h1
/-- a piece is done: its root's number is kept, the next root's turn -/
theorem zoi_next {N : Nat} {w : Nat → Bool} {adj : Nat → Nat → Prop} {lab0 lab : Nat → Option Nat} {n k m : Nat} {ro : Nat → Nat} (hs : ∀ x y, adj x y → adj y x) (h0 : zoi N w adj lab0 n k) (hk : k < N) (hwk : w k = true) (h : zbi N w adj lab0 n k lab ro m) (hlk : ¬ lab k = none) (hl0 : lab0 k = none) (hall : ∀ j, j < m → ∀ q, q < N → w q = true → adj (ro j) q → ¬ lab q = none) : zoi N w adj lab (n + 1) (k + 1) := by
  obtain ⟨a, b, c, d, e, f, g⟩ := h0
  obtain ⟨A, B, C, D, E⟩ := h
  have old : ∀ p j, p < N → lab0 p = some j → lab p = some j := fun p j hp hj => by
    rcases B p hp with h1 | h1
    · rw [h1, hj]
    · rw [hj] at h1; exact absurd h1.1 (by simp)
  have new : ∀ p, p < N → lab p = some n → lab0 p = none := fun p hp hn => by
    cases el : lab0 p with
    | none => rfl
    | some j =>
      have h1 := old p j hp el
      rw [hn] at h1
      have := Option.some.inj h1
      have := b p j hp el
      omega
  have cas : ∀ p, p < N → ¬ lab p = none → (lab p = some n ∧ lab0 p = none) ∨ ∃ j, j < n ∧ lab p = some j ∧ lab0 p = some j := fun p hp hn => by
    rcases B p hp with h1 | h1
    · cases el : lab0 p with
      | none => rw [h1, el] at hn; exact absurd rfl hn
      | some j => exact Or.inr ⟨j, b p j hp el, by rw [h1, el], rfl⟩
    · exact Or.inl ⟨h1.2, h1.1⟩
  have hkn : lab k = some n := by
    rcases cas k hk hlk with h1 | ⟨j, -, -, h1⟩
    · exact h1.1
    · rw [hl0] at h1; cases h1
  refine ⟨A, fun p j hp hj => ?_, fun p hp hpk hw => ?_, fun p q hp hq wp wq hpq hn => ?_, fun p q hp hq wp wq hpq hn => ?_, fun j hj => ?_, fun p j hp hw hj j' hj' => ?_⟩
  · rcases cas p hp (by rw [hj]; simp) with h1 | ⟨i, h1, h2, -⟩
    · rw [h1.1] at hj; have := Option.some.inj hj; omega
    · rw [h2] at hj; have := Option.some.inj hj; omega
  · by_cases hpk' : p = k
    · subst hpk'; exact hlk
    · cases el : lab0 p with
      | none => exact absurd el (c p hp (by omega) hw)
      | some j => rw [old p j hp el]; simp
  · rcases cas p hp hn with ⟨h1, h2⟩ | ⟨j, h1, h2, h3⟩
    · obtain ⟨-, i, hi, hri⟩ := C p hp h1
      have hq1 : ¬ lab q = none := hall i hi q hq wq (by rw [hri]; exact hpq)
      rcases cas q hq hq1 with ⟨h4, -⟩ | ⟨j, h4, h5, h6⟩
      · rw [h1, h4]
      · have h7 := d q p hq hp wq wp (hs p q hpq) (by rw [h6]; simp)
        rw [h2, h6] at h7
        cases h7
    · have h7 := d p q hp hq wp wq hpq (by rw [h3]; simp)
      rw [h3] at h7
      rw [h2, old q j hq h7]
  · rcases cas p hp hn with ⟨h1, h2⟩ | ⟨j, h1, h2, h3⟩
    · have h4 : lab q = some n := by rw [← hpq, h1]
      exact zcn_trans (zcn_symm hs (C p hp h1).1.2) (C q hq h4).1.2
    · have h4 : lab q = some j := by rw [← hpq, h2]
      rcases cas q hq (by rw [h4]; simp) with ⟨h5, -⟩ | ⟨i, -, h5, h6⟩
      · rw [h5] at h4; have := Option.some.inj h4; omega
      · rw [h5] at h4
        have e1 := Option.some.inj h4
        subst e1
        exact e p q hp hq wp wq (by rw [h3, h6]) (by rw [h3]; simp)
  · by_cases hjn : j = n
    · subst hjn; exact ⟨k, by omega, hk, hwk, hkn⟩
    · obtain ⟨p, h1, h2, h3, h4⟩ := f j (by omega)
      exact ⟨p, by omega, h2, h3, old p j h2 h4⟩
  · rcases cas p hp (by rw [hj]; simp) with ⟨h1, h2⟩ | ⟨i, h1, h2, h3⟩
    · rw [h1] at hj
      have e1 := Option.some.inj hj
      subst e1
      have hkp : k ≤ p := by
        rcases Nat.lt_or_ge p k with q | q
        · exact absurd h2 (c p hp q hw)
        · exact q
      obtain ⟨p', g1, g2, g3, g4⟩ := f j' hj'
      exact ⟨p', by omega, g3, old p' j' g2 g4⟩
    · rw [h2] at hj
      have e1 := Option.some.inj hj
      subst e1
      obtain ⟨p', g1, g2, g3⟩ := g p i hp hw h3 j' hj'
      exact ⟨p', g1, g2, old p' j' (by omega) g3⟩
/-- the row before its root is put in -/
theorem zbi_start {N : Nat} {w : Nat → Bool} {adj : Nat → Nat → Prop} {lab : Nat → Option Nat} {n k : Nat} {ro : Nat → Nat} (h0 : zoi N w adj lab n k) : zbi N w adj lab n k lab ro 0 := by
  refine ⟨h0.1, fun p _ => Or.inl rfl, fun p hp hl => ?_, fun j hj => by omega, ?_⟩
  · have := h0.2.1 p n hp hl
    omega
  · have := zcount_le (p := fun p => w p && (lab p).isNone) (n := N)
    omega
