/-! PURE: the class's pieces: a numbering of the places by floods -/
theorem zph {N : Nat} : ∀ (n : Nat) (f : Nat → Nat), (∀ i, i < n → f i < N) → (∀ i j, i < n → j < n → f i = f j → i = j) → n ≤ N := by
  intro n f hf hi
  have key : ∀ k, k ≤ n → zcount (fun p => decide (∃ i, i < k ∧ f i = p)) N = k := by
    intro k
    induction k with
    | zero => intro _; exact zcount_0 (fun i _ => decide_eq_false (fun ⟨j, h, _⟩ => by omega))
    | succ k ih =>
      intro hk
      rw [zcount_set (p := fun p => decide (∃ i, i < k ∧ f i = p)) (c := f k) (decide_eq_false (fun ⟨j, h1, h2⟩ => by have := hi j k (by omega) (by omega) h2; omega)) (q := fun p => decide (∃ i, i < k + 1 ∧ f i = p)) (decide_eq_true ⟨k, by omega, rfl⟩) (fun i hne => ?_), ih (by omega), if_pos (hf k (by omega))]
      apply decide_eq_decide.mpr
      constructor
      · rintro ⟨j, h1, h2⟩
        refine ⟨j, ?_, h2⟩
        rcases Nat.lt_or_ge j k with h | h
        · exact h
        · exact absurd (by rw [← h2, show j = k by omega]) hne
      · rintro ⟨j, h1, h2⟩
        exact ⟨j, by omega, h2⟩
  have h1 := key n (Nat.le_refl n)
  have h2 := zcount_le (p := fun p => decide (∃ i, i < n ∧ f i = p)) (n := N)
  omega
theorem zoi_skips {N : Nat} {w : Nat → Bool} {adj : Nat → Nat → Prop} {lab : Nat → Option Nat} {n k : Nat} (h : zoi N w adj lab n k) : ∀ {k' : Nat}, k ≤ k' → (∀ p, k ≤ p → p < k' → w p = false ∨ ¬ lab p = none) → zoi N w adj lab n k' := by
  intro k' hk
  obtain ⟨d, rfl⟩ := Nat.exists_eq_add_of_le hk
  clear hk
  induction d with
  | zero => intro _; exact h
  | succ d ih => intro hp; exact zoi_skip (k := k + d) (ih (fun p h1 h2 => hp p h1 (by omega))) (hp (k + d) (by omega) (by omega))
/-- a whole piece at once -/
theorem zoi_new {N : Nat} {w : Nat → Bool} {adj : Nat → Nat → Prop} {lab0 lab : Nat → Option Nat} {n k : Nat} (hs : ∀ x y, adj x y → adj y x) (h0 : zoi N w adj lab0 n k) (hk : k < N) (hwk : w k = true) (hl0 : lab0 k = none) (hkn : lab k = some n) (B : ∀ p, p < N → lab p = lab0 p ∨ (lab0 p = none ∧ lab p = some n)) (C : ∀ p, p < N → lab0 p = none → lab p = some n → w p = true ∧ zcn w adj k p) (hall : ∀ p q, p < N → q < N → lab0 p = none → lab p = some n → w q = true → adj p q → ¬ lab q = none) : zoi N w adj lab (n + 1) (k + 1) := by
  obtain ⟨a, b, c, d, e, f, g⟩ := h0
  have old : ∀ p j, p < N → lab0 p = some j → lab p = some j := fun p j hp hj => by
    rcases B p hp with h1 | h1
    · rw [h1, hj]
    · rw [hj] at h1; exact absurd h1.1 (by simp)
  have cas : ∀ p, p < N → ¬ lab p = none → (lab p = some n ∧ lab0 p = none) ∨ ∃ j, j < n ∧ lab p = some j ∧ lab0 p = some j := fun p hp hn => by
    rcases B p hp with h1 | h1
    · cases el : lab0 p with
      | none => rw [h1, el] at hn; exact absurd rfl hn
      | some j => exact Or.inr ⟨j, b p j hp el, by rw [h1, el], rfl⟩
    · exact Or.inl ⟨h1.2, h1.1⟩
  refine ⟨fun p hp hw => ?_, fun p j hp hj => ?_, fun p hp hpk hw => ?_, fun p q hp hq wp wq hpq hn => ?_, fun p q hp hq wp wq hpq hn => ?_, fun j hj => ?_, fun p j hp hw hj j' hj' => ?_⟩
  · rcases B p hp with h1 | h1
    · rw [h1]; exact a p hp hw
    · have := (C p hp h1.1 h1.2).1
      rw [hw] at this; cases this
  · rcases cas p hp (by rw [hj]; simp) with h1 | ⟨i, h1, h2, -⟩
    · rw [h1.1] at hj; have := Option.some.inj hj; omega
    · rw [h2] at hj; have := Option.some.inj hj; omega
  · by_cases hpk' : p = k
    · subst hpk'; rw [hkn]; simp
    · cases el : lab0 p with
      | none => exact absurd el (c p hp (by omega) hw)
      | some j => rw [old p j hp el]; simp
  · rcases cas p hp hn with ⟨h1, h2⟩ | ⟨j, h1, h2, h3⟩
    · have hq1 : ¬ lab q = none := hall p q hp hq h2 h1 wq hpq
      rcases cas q hq hq1 with ⟨h4, -⟩ | ⟨j, h4, h5, h6⟩
      · rw [h1, h4]
      · have h7 := d q p hq hp wq wp (hs p q hpq) (by rw [h6]; simp)
        rw [h2, h6] at h7
        cases h7
    · have h7 := d p q hp hq wp wq hpq (by rw [h3]; simp)
      rw [h3] at h7
      rw [h2, old q j hq h7]
  · rcases cas p hp hn with ⟨h1, h2⟩ | ⟨j, h1, h2, h3⟩
    · have h4 : lab q = some n := by rw [← hpq, h1]
      rcases cas q hq (by rw [h4]; simp) with ⟨-, h5⟩ | ⟨i, h5, h6, -⟩
      · exact zcn_trans (zcn_symm hs (C p hp h2 h1).2) (C q hq h5 h4).2
      · rw [h6] at h4; have := Option.some.inj h4; omega
    · have h4 : lab q = some j := by rw [← hpq, h2]
      rcases cas q hq (by rw [h4]; simp) with ⟨h5, -⟩ | ⟨i, -, h5, h6⟩
      · rw [h5] at h4; have := Option.some.inj h4; omega
      · rw [h5] at h4
        have e1 := Option.some.inj h4
        subst e1
        exact e p q hp hq wp wq (by rw [h3, h6]) (by rw [h3]; simp)
  · by_cases hjn : j = n
    · subst hjn; exact ⟨k, by omega, hk, hwk, hkn⟩
    · obtain ⟨p, h1, h2, h3, h4⟩ := f j (by omega)
      exact ⟨p, by omega, h2, h3, old p j h2 h4⟩
  · rcases cas p hp (by rw [hj]; simp) with ⟨h1, h2⟩ | ⟨i, h1, h2, h3⟩
    · rw [h1] at hj
      have e1 := Option.some.inj hj
      subst e1
      have hkp : k ≤ p := by
        rcases Nat.lt_or_ge p k with q | q
        · exact absurd h2 (c p hp q hw)
        · exact q
      obtain ⟨p', g1, g2, g3, g4⟩ := f j' hj'
      exact ⟨p', by omega, g3, old p' j' g2 g4⟩
    · rw [h2] at hj
      have e1 := Option.some.inj hj
      subst e1
      obtain ⟨p', g1, g2, g3⟩ := g p i hp hw h3 j' hj'
      exact ⟨p', g1, g2, old p' j' (by omega) g3⟩
/-- places of one domino are of one piece: not more pieces than dominoes -/
theorem zoi_cap {M : Nat} {w : Nat → Bool} {adj : Nat → Nat → Prop} {lab : Nat → Option Nat} {n k : Nat} (hd : ∀ p q, p < 2 * M → q < 2 * M → p / 2 = q / 2 → ¬ p = q → adj p q) (h : zoi (2 * M) w adj lab n k) : n ≤ M ∧ ((∃ p, p < 2 * M ∧ w p = true ∧ lab p = none) → n < M) := by
  obtain ⟨a, b, c, d, e, f, g⟩ := h
  have hpl : ∃ pl : Nat → Nat, ∀ j, j < n → pl j < 2 * M ∧ w (pl j) = true ∧ lab (pl j) = some j := by
    refine ⟨fun j => @dite _ (j < n) (Nat.decLt _ _) (fun h => Classical.choose (f j h)) (fun _ => 0), fun j hj => ?_⟩
    have hc := Classical.choose_spec (f j hj)
    show (@dite _ (j < n) (Nat.decLt _ _) (fun h => Classical.choose (f j h)) (fun _ => 0)) < _ ∧ w (@dite _ (j < n) (Nat.decLt _ _) (fun h => Classical.choose (f j h)) (fun _ => 0)) = true ∧ lab (@dite _ (j < n) (Nat.decLt _ _) (fun h => Classical.choose (f j h)) (fun _ => 0)) = some j
    rw [dif_pos hj]
    exact hc.2
  obtain ⟨pl, hpl⟩ := hpl
  have same : ∀ i j, i < n → j < n → pl i / 2 = pl j / 2 → i = j := fun i j hi hj hij => by
    obtain ⟨i1, i2, i3⟩ := hpl i hi
    obtain ⟨j1, j2, j3⟩ := hpl j hj
    by_cases e : pl i = pl j
    · rw [e, j3] at i3; exact (Option.some.inj i3).symm
    · have h1 := d _ _ i1 j1 i2 j2 (hd _ _ i1 j1 hij e) (by rw [i3]; simp)
      rw [i3, j3] at h1; exact (Option.some.inj h1).symm
  constructor
  · exact zph n (fun j => pl j / 2) (fun i hi => by have := (hpl i hi).1; show pl i / 2 < M; omega) same
  · rintro ⟨p, hp, hw, hl⟩
    have no : ∀ i, i < n → ¬ pl i / 2 = p / 2 := fun i hi hip => by
      obtain ⟨i1, i2, i3⟩ := hpl i hi
      by_cases e : pl i = p
      · rw [e, hl] at i3; cases i3
      · have h1 := d _ _ i1 hp i2 hw (hd _ _ i1 hp hip e) (by rw [i3]; simp)
        rw [i3, hl] at h1; cases h1
    have := zph (N := M) (n + 1) (fun j => if j = n then p / 2 else pl j / 2) (fun i hi => by
      show (if i = n then p / 2 else pl i / 2) < M
      by_cases e : i = n
      · rw [if_pos e]; omega
      · rw [if_neg e]; have := (hpl i (by omega)).1; omega) (fun i j hi hj hij => by
      have hij : (if i = n then p / 2 else pl i / 2) = (if j = n then p / 2 else pl j / 2) := hij
      by_cases ei : i = n
      · by_cases ej : j = n
        · omega
        · rw [if_pos ei, if_neg ej] at hij; exact absurd hij.symm (no j (by omega))
      · by_cases ej : j = n
        · rw [if_neg ei, if_pos ej] at hij; exact absurd hij (no i (by omega))
        · rw [if_neg ei, if_neg ej] at hij; exact same i j (by omega) (by omega) hij)
    omega
theorem znb_dom : ∀ c, c < 64 → ∀ d, d < 64 → c / 2 = d / 2 → ¬ c = d → ∃ s, s < 4 ∧ zbd c s = some d := by decide +kernel
theorem zadj_dom {b : Nat → Nat → Bool} {jn : Bool} {p q : Nat} (h : p / 2 = q / 2) (hne : ¬ p = q) : zadj b jn p q :=
  Or.inl ⟨by omega, znb_dom (p % 64) (by omega) (q % 64) (by omega) (by omega) (by omega)⟩
/-- what findPieces writes -/
def zpst (s : zOS) (P : Nat → Int64) (Y : Nat → Int32) (n : Nat) : zOS := zsF (zsI (zsL s 2 P) 3 Y) 12 (nI n)
theorem zpst_step {s : zOS} {P P' : Nat → Int64} {Y Y' : Nat → Int32} {n n' : Nat} : zsF (zsI (zsL (zpst s P Y n) 2 P') 3 Y') 12 (nI n') = zpst s P' Y' n' := by
  show (va_up (va_up s.1 3 Y) 3 Y', va_up (va_up s.2.1 2 P) 2 P', va_up (va_up s.2.2.1 12 (nI n)) 12 (nI n'), s.2.2.2) = _
  rw [bx_uu, bx_uu, bx_uu]
  rfl
theorem zpst_0 {s : zOS} : zsF s 12 (nI 0) = zpst s (zL s 2) (zI s 3) 0 := by
  obtain ⟨a, b, c, d⟩ := s
  show (a, b, va_up c 12 (nI 0), d) = (va_up a 3 (a 3), va_up b 2 (b 2), va_up c 12 (nI 0), d)
  have h : ∀ {α : Type} (f : Nat → α) (k : Nat), va_up f k (f k) = f := fun f k => funext fun j => by
    show (if j = k then f k else f j) = f j
    by_cases e : j = k
    · rw [if_pos e, e]
    · rw [if_neg e]
  rw [h, h]
/-- the bits that the layout was read from -/
def zlb (s : zOS) (l i : Nat) : Bool := zt (zL s 1 l) i
def zpi (m : Nat) (P : Nat → Int64) (Y : Nat → Int32) (lab : Nat → Option Nat) : Prop :=
  ∀ j, j < m → ∃ l, l < 3 ∧ Y j = nI l ∧ (∀ p, p < 192 → lab p = some j → p / 64 = l ∧ zt (P j) (p % 64) = true) ∧ ∀ c, zt (P j) c = true → lab (64 * l + c) = some j
theorem p_cellsOf {s : zOS} {l : Nat} (hl : l < 3) : ∃ m, fX0_cellsOf (nI l) s = some m ∧ ∀ c, c < 64 → zt m c = zwr (zlb s) (64 * l + c) := by
  unfold fX0_cellsOf zwr zlb
  rcases (show l = 0 ∨ l = 1 ∨ l = 2 by omega) with rfl | rfl | rfl
  · refine ⟨_, rfl, fun c hc => ?_⟩
    rw [zt_andn, if_pos (by omega), show 64 * 0 + c = c by omega]
    rfl
  · refine ⟨_, rfl, fun c hc => ?_⟩
    rw [if_neg (by omega), if_pos (by omega), show 64 * 1 + c - 64 = c by omega]
    rfl
  · refine ⟨_, rfl, fun c hc => ?_⟩
    rw [if_neg (by omega), if_neg (by omega), if_pos (by omega), show 64 * 2 + c - 128 = c by omega]
    rfl
theorem zt_cnt0 {x : Int64} (h : zcount (zt x) 64 = 0) : x = 0 := zt_eq0.mpr fun i hi => by
  cases e : zt x i with
  | false => rfl
  | true => have := zcount_pos hi e; omega
theorem zt_least {x : Int64} (h : ¬ x = 0) : ∃ m, m < 64 ∧ zt x m = true ∧ ∀ j, j < m → zt x j = false := by
  obtain ⟨i, hi, hx⟩ := zt_ne0.mp h
  induction i using Nat.strongRecOn with
  | ind i ih =>
    rcases Classical.em (∃ j, j < i ∧ zt x j = true) with ⟨j, h1, h2⟩ | hno
    · exact ih j h1 (by omega) h2
    · refine ⟨i, hi, hx, fun j hj => ?_⟩
      cases e : zt x j with
      | false => rfl
      | true => exact absurd ⟨j, hj, e⟩ hno
