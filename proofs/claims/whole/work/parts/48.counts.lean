/-! PURE: the two counts of bits -/
theorem zp2_lt : ∀ k n, 255 * zp2 k n + 68 ≤ 68 * 256 ^ k
  | 0, n => by simp [zp2]
  | k + 1, n => by
    have ih := zp2_lt k (n / 256)
    obtain ⟨-, -, -, a4, a5, -⟩ := zg_all (n % 256) (by omega)
    show 255 * (256 * zp2 k (n / 256) + zg2 (zg1 (n % 256))) + 68 ≤ 68 * 256 ^ (k + 1)
    rw [Nat.pow_succ]
    omega
theorem p_bitCount (x : Int64) : fJ13_bitCount_95d88 x = some (nI (zcount (zt x) 64)) := by
  obtain ⟨n, hn, rfl⟩ := zw_of x
  have hn2 : n < 256 ^ 8 := hn
  have h1 := zp1_ok 8 n hn2
  have h2 := zp2_ok 8 n
  have h3 := zp3_ok 8 n
  have hs := zps_ok 8 n
  have l1 : zp1 8 n < 2 ^ 64 := by rw [← h1]; omega
  have l2 : 255 * zp2 8 n + 68 ≤ 68 * 2 ^ 64 := zp2_lt 8 n
  have l0 : (n / 2) &&& zm5 8 ≤ n := Nat.le_trans Nat.and_le_left (by omega)
  obtain ⟨g1, g2, g3, g4, g5, g6⟩ := zfold n _ _ _ rfl rfl rfl
  unfold fJ13_bitCount_95d88
  rw [zlet_eq, show (1 : Int32) = nI 1 from rfl, zl_shr hn (by decide), show (6148914691236517205 : Int64) = lN (zm5 8) by decide +kernel, zl_and (by omega) (by decide +kernel), lN_sub l0, show n / 2 ^ 1 = n / 2 from rfl, h1]
  rw [zlet_eq, show (2 : Int32) = nI 2 from rfl, zl_shr l1 (by decide), show (3689348814741910323 : Int64) = lN (zm3 8) by decide +kernel, zl_and l1 (by decide +kernel), zl_and (by omega) (by decide +kernel), lN_add, show zp1 8 n / 2 ^ 2 = zp1 8 n / 4 from rfl, h2]
  rw [zlet_eq, show (4 : Int32) = nI 4 from rfl, zl_shr (by omega) (by decide), lN_add, show (1085102592571150095 : Int64) = lN (zmf 8) by decide +kernel, zl_and (by omega) (by decide +kernel), show zp2 8 n / 2 ^ 4 = zp2 8 n / 16 from rfl, h3]
  rw [zlet_eq, show (8 : Int32) = nI 8 from rfl, zl_shr g6 (by decide), lN_add]
  rw [zlet_eq, show (16 : Int32) = nI 16 from rfl, zl_shr g5 (by decide), lN_add]
  rw [zlet_eq, show (32 : Int32) = nI 32 from rfl, zl_shr g4 (by decide), lN_add]
  rw [zcount_congr (q := fun i => n.testBit i) (fun i _ => zt_lN hn i), hs, ← g2, lN_i, pk_and _ 7 (by decide)]
  congr 2
  show (BitVec.ofNat 32 _).toNat % 2 ^ 7 = _ % 2 ^ 7
  rw [BitVec.toNat_ofNat]
  omega
theorem zu_neg (x : Int32) (i : Nat) : zu (-x) i = (zu x i ^^ (decide (i < 32) && decide (∃ j, j < i ∧ zu x j = true))) := by
  unfold zu
  rw [Int32.toBitVec_neg, BitVec.getLsbD_neg]
theorem zu_pred (x : Int32) {i : Nat} (hi : i < 32) : zu (x - 1) i = !zu (-x) i := by
  unfold zu
  rw [Int32.toBitVec_sub, Int32.toBitVec_neg, show (1 : Int32).toBitVec = 1#32 from rfl, ← BitVec.not_neg, BitVec.getLsbD_not]
  simp [hi]
theorem zu_m1 {i : Nat} (hi : i < 32) : zu (-1) i = true := by
  rw [zu_neg]
  revert i
  decide +kernel
/-- the places below the least bit -/
theorem zu_below {y : Int32} {k : Nat} (hk : zu y k = true) (hl : ∀ j, j < k → zu y j = false) {i : Nat} (hi : i < 32) : zu ((y ^^^ (-1)) &&& (y - 1)) i = decide (i < k) := by
  rw [zu_and, zu_xor, zu_m1 hi, zu_pred _ hi, zu_neg, decide_eq_true hi]
  rcases Nat.lt_trichotomy i k with h | h | h
  · rw [hl i h, decide_eq_true h, decide_eq_false (fun ⟨j, h1, h2⟩ => by rw [hl j (by omega)] at h2; cases h2)]; rfl
  · subst h
    rw [hk, decide_eq_false (show ¬ i < i by omega)]; rfl
  · rw [decide_eq_false (show ¬ i < k by omega), decide_eq_true (show ∃ j, j < i ∧ zu y j = true from ⟨k, h, hk⟩)]
    cases zu y i <;> rfl
theorem zu_lt {x : Int32} {i : Nat} (h : zu x i = true) : i < 32 := by
  rcases Nat.lt_or_ge i 32 with q | q
  · exact q
  · rw [zu_ge q] at h; cases h
theorem zntz_all : ∀ k, k < 32 → fJ6_numberOfTrailingZeros_0f7a4 (nI (2 ^ k)) = some (nI k) := by decide +kernel
theorem zpow_all : ∀ k, k < 32 → nI (2 ^ k) = (1 : Int32) <<< (nI k &&& 31) := by decide +kernel
theorem p_ntz32 {y : Int32} {k : Nat} (hk : zu y k = true) (hl : ∀ j, j < k → zu y j = false) : fJ6_numberOfTrailingZeros_0f7a4 y = some (nI k) := by
  have hk32 := zu_lt hk
  rw [← zntz_all k hk32]
  unfold fJ6_numberOfTrailingZeros_0f7a4
  have hb : ∀ i, zu (nI (2 ^ k)) i = decide (i = k) := fun i => by rw [zpow_all k hk32, zu_bit hk32]
  have e : (y ^^^ (-1)) &&& (y - 1) = (nI (2 ^ k) ^^^ (-1)) &&& (nI (2 ^ k) - 1) := zu_ext fun i hi => by
    rw [zu_below hk hl hi, zu_below (k := k) (by rw [hb]; simp) (fun j hj => by rw [hb]; simp; omega) hi]
  rw [e]
theorem zu_l2i (x : Int64) {i : Nat} (hi : i < 32) : zu x.toInt32 i = zt x i := by
  unfold zu zt
  rw [Int64.toBitVec_toInt32, BitVec.getLsbD_signExtend, if_pos (show i < 64 by omega)]
  simp [hi]
theorem p_ntz {x : Int64} {k : Nat} (hk : zt x k = true) (hl : ∀ j, j < k → zt x j = false) : fJ13_numberOfTrailingZeros_95d88 x = some (nI k) := by
  have hk64 := zt_lt hk
  unfold fJ13_numberOfTrailingZeros_95d88
  rw [zlet_eq]
  by_cases h : k < 32
  · rw [if_neg (fun e => by rw [← zu_l2i x h, e, zu_0] at hk; cases hk), p_ntz32 (k := k) (by rw [zu_l2i x h]; exact hk) (fun j hj => by rw [zu_l2i x (by omega)]; exact hl j hj), Option.bind_some]
  · rw [if_pos (zu_ext fun i hi => by rw [zu_l2i x hi, zu_0]; exact hl i (by omega)), show (32 : Int32) = nI 32 from rfl]
    have hb : ∀ i, i < 32 → zu ((x.toUInt64 >>> ((nI 32).toInt64.toUInt64 &&& Int64.toUInt64 63)).toInt64).toInt32 i = zt x (32 + i) := fun i hi => by rw [zu_l2i _ hi, zt_shr _ (by decide)]
    rw [p_ntz32 (k := k - 32) (by rw [hb _ (by omega), show 32 + (k - 32) = k by omega]; exact hk) (fun j hj => by rw [hb _ (by omega)]; exact hl _ (by omega)), Option.bind_some, nI_add, show 32 + (k - 32) = k by omega]
