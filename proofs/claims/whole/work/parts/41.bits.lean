/-! PURE: the bits of longs and ints -/
def zt (x : Int64) (i : Nat) : Bool := x.toBitVec.getLsbD i
def zu (x : Int32) (i : Nat) : Bool := x.toBitVec.getLsbD i
theorem zt_ext {x y : Int64} (h : ∀ i, i < 64 → zt x i = zt y i) : x = y := by
  apply Int64.toBitVec_inj.mp
  apply BitVec.eq_of_getLsbD_eq
  exact h
theorem zu_ext {x y : Int32} (h : ∀ i, i < 32 → zu x i = zu y i) : x = y := by
  apply Int32.toBitVec_inj.mp
  apply BitVec.eq_of_getLsbD_eq
  exact h
theorem zt_ge {x : Int64} {i : Nat} (h : 64 ≤ i) : zt x i = false := BitVec.getLsbD_of_ge _ _ h
theorem zu_ge {x : Int32} {i : Nat} (h : 32 ≤ i) : zu x i = false := BitVec.getLsbD_of_ge _ _ h
theorem zt_lt {x : Int64} {i : Nat} (h : zt x i = true) : i < 64 := by
  rcases Nat.lt_or_ge i 64 with q | q
  · exact q
  · rw [zt_ge q] at h; cases h
theorem zt_and (x y : Int64) (i : Nat) : zt (x &&& y) i = (zt x i && zt y i) := by
  unfold zt; rw [Int64.toBitVec_and, BitVec.getLsbD_and]
theorem zt_or (x y : Int64) (i : Nat) : zt (x ||| y) i = (zt x i || zt y i) := by
  unfold zt; rw [Int64.toBitVec_or, BitVec.getLsbD_or]
theorem zt_xor (x y : Int64) (i : Nat) : zt (x ^^^ y) i = (zt x i ^^ zt y i) := by
  unfold zt; rw [Int64.toBitVec_xor, BitVec.getLsbD_xor]
theorem zt_m1 {i : Nat} (h : i < 64) : zt (-1) i = true := by
  have : ∀ i, i < 64 → zt (-1) i = true := by decide +kernel
  exact this i h
theorem zt_not (x : Int64) {i : Nat} (h : i < 64) : zt (x ^^^ (-1)) i = !zt x i := by
  rw [zt_xor, zt_m1 h]; cases zt x i <;> rfl
theorem zt_andn (x y : Int64) (i : Nat) : zt (x &&& (y ^^^ (-1))) i = (zt x i && !zt y i) := by
  rw [zt_and]
  by_cases h : i < 64
  · rw [zt_not y h]
  · rw [zt_ge (by omega)]; rfl
theorem zt_0 (i : Nat) : zt 0 i = false := by
  unfold zt
  show (0#64).getLsbD i = false
  exact BitVec.getLsbD_zero
theorem zu_0 (i : Nat) : zu 0 i = false := by
  unfold zu
  show (0#32).getLsbD i = false
  exact BitVec.getLsbD_zero
theorem zt_eq0 {x : Int64} : x = 0 ↔ ∀ i, i < 64 → zt x i = false := by
  constructor
  · rintro rfl i _
    exact zt_0 i
  · intro h
    exact zt_ext fun i hi => by rw [h i hi, zt_0]
theorem zt_ne0 {x : Int64} : ¬ x = 0 ↔ ∃ i, i < 64 ∧ zt x i = true := by
  constructor
  · intro h
    rcases Classical.em (∃ i, i < 64 ∧ zt x i = true) with q | q
    · exact q
    · exact absurd (zt_eq0.mpr fun i hi => by
        cases e : zt x i with
        | false => rfl
        | true => exact absurd ⟨i, hi, e⟩ q) h
  · rintro ⟨i, hi, h⟩ rfl
    rw [zt_0] at h
    cases h
theorem zc_eq0 (x y : Int64) : lg_cmp x y = 0 ↔ x = y := by
  unfold lg_cmp
  by_cases h1 : x > y
  · rw [if_pos h1]
    constructor
    · intro h; exact absurd h (by decide)
    · intro h; rw [h] at h1; exact absurd h1 (Int64.lt_irrefl)
  · rw [if_neg h1]
    by_cases h2 : x = y
    · rw [if_pos h2]; simp [h2]
    · rw [if_neg h2]
      constructor
      · intro h; exact absurd h (by decide)
      · intro h; exact absurd h h2
theorem zk_c : ∀ k, k < 64 → ((nI k).toInt64 &&& 63) = lN k := by decide +kernel
theorem zk_cu : ∀ k, k < 64 → ((nI k).toInt64.toUInt64 &&& Int64.toUInt64 63) = UInt64.ofNat k := by decide +kernel
theorem zk_sm : ∀ k, k < 64 → (BitVec.ofNat 64 k).smod 64 = BitVec.ofNat 64 k := by decide +kernel
theorem zt_shl (x : Int64) {k : Nat} (hk : k < 64) (i : Nat) : zt (x <<< ((nI k).toInt64 &&& 63)) i = (decide (i < 64) && (!decide (i < k) && zt x (i - k))) := by
  rw [zk_c k hk]
  unfold zt
  rw [Int64.toBitVec_shiftLeft, show (lN k).toBitVec = BitVec.ofNat 64 k from rfl, zk_sm k hk, BitVec.shiftLeft_eq', BitVec.toNat_ofNat, Nat.mod_eq_of_lt (by omega), BitVec.getLsbD_shiftLeft]
  cases decide (i < 64) <;> rfl
theorem zt_shr (x : Int64) {k : Nat} (hk : k < 64) (i : Nat) : zt ((x.toUInt64 >>> ((nI k).toInt64.toUInt64 &&& Int64.toUInt64 63)).toInt64) i = zt x (k + i) := by
  rw [zk_cu k hk]
  unfold zt
  show ((x.toUInt64 >>> UInt64.ofNat k).toBitVec).getLsbD i = x.toBitVec.getLsbD (k + i)
  rw [UInt64.toBitVec_shiftRight]
  show (x.toBitVec >>> ((BitVec.ofNat 64 k) % 64)).getLsbD i = _
  rw [BitVec.ushiftRight_eq', show ((BitVec.ofNat 64 k) % 64).toNat = k by
    rw [BitVec.toNat_umod, BitVec.toNat_ofNat, Nat.mod_eq_of_lt (show k < 2 ^ 64 by omega)]
    exact Nat.mod_eq_of_lt hk, BitVec.getLsbD_ushiftRight]
theorem zt_1 (i : Nat) : zt 1 i = decide (i = 0) := by
  by_cases h : i < 64
  · have : ∀ i, i < 64 → zt 1 i = decide (i = 0) := by decide +kernel
    exact this i h
  · rw [zt_ge (by omega), decide_eq_false (by omega)]
theorem zt_bit {k : Nat} (hk : k < 64) (i : Nat) : zt ((1 : Int64) <<< ((nI k).toInt64 &&& 63)) i = decide (i = k) := by
  rw [zt_shl 1 hk, zt_1]
  by_cases h : i = k
  · subst h; simp [hk]
  · rw [decide_eq_false h]
    by_cases h2 : i < k
    · simp [h2]
    · rw [decide_eq_false (show ¬ (i - k = 0) by omega)]; simp
theorem zt_neg (x : Int64) (i : Nat) : zt (-x) i = (zt x i ^^ (decide (i < 64) && decide (∃ j, j < i ∧ zt x j = true))) := by
  unfold zt
  rw [Int64.toBitVec_neg, BitVec.getLsbD_neg]
/-- the least bit alone -/
theorem zt_low (x : Int64) (i : Nat) : zt (x &&& (-x)) i = true ↔ zt x i = true ∧ ∀ j, j < i → zt x j = false := by
  rw [zt_and, zt_neg, Bool.and_eq_true]
  constructor
  · rintro ⟨h1, h2⟩
    refine ⟨h1, fun j hj => ?_⟩
    rw [h1, decide_eq_true (zt_lt h1)] at h2
    cases e : zt x j with
    | false => rfl
    | true =>
      rw [decide_eq_true (show ∃ j, j < i ∧ zt x j = true from ⟨j, hj, e⟩)] at h2
      exact absurd h2 (by decide)
  · rintro ⟨h1, h2⟩
    refine ⟨h1, ?_⟩
    rw [h1, decide_eq_false (show ¬ ∃ j, j < i ∧ zt x j = true from fun ⟨j, hj, e⟩ => by rw [h2 j hj] at e; cases e)]
    simp
