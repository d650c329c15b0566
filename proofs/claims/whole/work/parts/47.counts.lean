/-! PURE: Long.bitCount counts bits; Long.numberOfTrailingZeros is the least bit -/
theorem zcount_add {p : Nat → Bool} {a : Nat} : ∀ {c : Nat}, zcount p (a + c) = zcount p a + zcount (fun i => p (a + i)) c
  | 0 => rfl
  | c + 1 => by
    show zcount p (a + c) + _ = zcount p a + (zcount (fun i => p (a + i)) c + _)
    rw [zcount_add (c := c), Nat.add_assoc]
    rfl
theorem zw_of (x : Int64) : ∃ n, n < 2 ^ 64 ∧ x = lN n := ⟨x.toBitVec.toNat, x.toBitVec.isLt, Int64.toBitVec_inj.mp (by show _ = BitVec.ofNat 64 _; simp)⟩
theorem zt_lN {n : Nat} (hn : n < 2 ^ 64) (i : Nat) : zt (lN n) i = n.testBit i := by
  unfold zt
  show (BitVec.ofNat 64 n).getLsbD i = _
  rw [BitVec.getLsbD_ofNat]
  by_cases h : i < 64
  · simp [h]
  · rw [decide_eq_false h, Bool.false_and]
    rw [Nat.testBit_lt_two_pow (Nat.lt_of_lt_of_le hn (Nat.pow_le_pow_right (by decide) (by omega)))]
theorem zl_shr {n k : Nat} (hn : n < 2 ^ 64) (hk : k < 64) : ((lN n).toUInt64 >>> ((nI k).toInt64.toUInt64 &&& Int64.toUInt64 63)).toInt64 = lN (n / 2 ^ k) := by
  apply zt_ext
  intro i hi
  rw [zt_shr _ hk, zt_lN hn, zt_lN (Nat.lt_of_le_of_lt (Nat.div_le_self _ _) hn), Nat.testBit_div_two_pow, Nat.add_comm]
theorem zl_and {a b : Nat} (ha : a < 2 ^ 64) (hb : b < 2 ^ 64) : lN a &&& lN b = lN (a &&& b) := by
  apply zt_ext
  intro i hi
  rw [zt_and, zt_lN ha, zt_lN hb, zt_lN (Nat.lt_of_le_of_lt Nat.and_le_left ha), Nat.testBit_and]
theorem zand256 (m b c e : Nat) (hb : b < 256) (he : e < 256) : (256 * m + b) &&& (256 * c + e) = 256 * (m &&& c) + (b &&& e) := by
  have hbe : b &&& e < 256 := Nat.lt_of_le_of_lt Nat.and_le_left hb
  apply Nat.eq_of_testBit_eq
  intro j
  rw [Nat.testBit_and]
  have h1 := Nat.testBit_two_pow_mul_add m (i := 8) (show b < 2 ^ 8 from hb) j
  have h2 := Nat.testBit_two_pow_mul_add c (i := 8) (show e < 2 ^ 8 from he) j
  have h3 := Nat.testBit_two_pow_mul_add (m &&& c) (i := 8) (show b &&& e < 2 ^ 8 from hbe) j
  rw [show (256 : Nat) = 2 ^ 8 from rfl, h1, h2, h3]
  by_cases h : j < 8
  · rw [if_pos h, if_pos h, if_pos h, Nat.testBit_and]
  · rw [if_neg h, if_neg h, if_neg h, Nat.testBit_and]
def zg1 (b : Nat) : Nat := b - ((b / 2) &&& 85)
def zg2 (a : Nat) : Nat := (a &&& 51) + ((a / 4) &&& 51)
def zg3 (c : Nat) : Nat := (c + c / 16) &&& 15
def zpc (b : Nat) : Nat := zg3 (zg2 (zg1 b))
theorem zg_all : ∀ b, b < 256 → zg1 b < 256 ∧ (b / 2) &&& 85 ≤ b ∧ (128 + b / 2) &&& 85 = (b / 2) &&& 85 ∧ zg2 (zg1 b) % 16 ≤ 4 ∧ zg2 (zg1 b) / 16 ≤ 4 ∧ zpc b ≤ 8 ∧ zpc b = zcount (fun i => b.testBit i) 8 := by decide +kernel
theorem zg4_all : ∀ a, a < 64 → (64 + a) &&& 51 = a &&& 51 ∧ (128 + a) &&& 51 = a &&& 51 ∧ (192 + a) &&& 51 = a &&& 51 := by decide +kernel
theorem zg5_all : ∀ c, c < 128 → ∀ e, e < 5 → c % 16 ≤ 4 → c / 16 ≤ 4 → (c + 16 * e + c / 16) &&& 15 = zg3 c := by decide +kernel
def zm5 : Nat → Nat
  | 0 => 0
  | k + 1 => 256 * zm5 k + 85
def zm3 : Nat → Nat
  | 0 => 0
  | k + 1 => 256 * zm3 k + 51
def zmf : Nat → Nat
  | 0 => 0
  | k + 1 => 256 * zmf k + 15
def zp1 : Nat → Nat → Nat
  | 0, _ => 0
  | k + 1, n => 256 * zp1 k (n / 256) + zg1 (n % 256)
def zp2 : Nat → Nat → Nat
  | 0, _ => 0
  | k + 1, n => 256 * zp2 k (n / 256) + zg2 (zg1 (n % 256))
def zp3 : Nat → Nat → Nat
  | 0, _ => 0
  | k + 1, n => 256 * zp3 k (n / 256) + zpc (n % 256)
def zps : Nat → Nat → Nat
  | 0, _ => 0
  | k + 1, n => zps k (n / 256) + zpc (n % 256)
theorem zp1_ok : ∀ k n, n < 256 ^ k → n - ((n / 2) &&& zm5 k) = zp1 k n
  | 0, n, h => by
    have h0 : n = 0 := by simpa using h
    subst h0; rfl
  | k + 1, n, h => by
    have hm : n / 256 < 256 ^ k := by rw [Nat.pow_succ] at h; omega
    have ih := zp1_ok k (n / 256) hm
    have hb : n % 256 < 256 := by omega
    obtain ⟨-, a2, a3, -⟩ := zg_all (n % 256) hb
    have e1 : n / 2 = 256 * (n / 256 / 2) + (128 * (n / 256 % 2) + n % 256 / 2) := by omega
    have e2 : (n / 2) &&& zm5 (k + 1) = 256 * ((n / 256 / 2) &&& zm5 k) + ((n % 256 / 2) &&& 85) := by
      rw [e1]
      show _ &&& (256 * zm5 k + 85) = _
      rw [zand256 _ _ _ _ (by omega) (by decide)]
      rcases (show n / 256 % 2 = 0 ∨ n / 256 % 2 = 1 by omega) with h0 | h0
      · rw [h0]; simp
      · rw [h0, show 128 * 1 = 128 from rfl, a3]
    have e3 : (n / 256 / 2) &&& zm5 k ≤ n / 256 := Nat.le_trans Nat.and_le_left (by omega)
    rw [e2]
    show _ = 256 * zp1 k (n / 256) + (n % 256 - ((n % 256 / 2) &&& 85))
    rw [← ih]
    omega
theorem zp1_div (k n : Nat) : zp1 (k + 1) n / 256 = zp1 k (n / 256) ∧ zp1 (k + 1) n % 256 = zg1 (n % 256) := by
  have h := (zg_all (n % 256) (by omega)).1
  show (256 * zp1 k (n / 256) + zg1 (n % 256)) / 256 = _ ∧ _
  constructor
  · omega
  · show (256 * zp1 k (n / 256) + zg1 (n % 256)) % 256 = _
    omega
theorem zp2_ok : ∀ k n, (zp1 k n &&& zm3 k) + ((zp1 k n / 4) &&& zm3 k) = zp2 k n
  | 0, n => by simp [zp1, zm3, zp2]
  | k + 1, n => by
    have ih := zp2_ok k (n / 256)
    have ha := (zg_all (n % 256) (by omega)).1
    have e0 : zp1 (k + 1) n = 256 * zp1 k (n / 256) + zg1 (n % 256) := rfl
    have e1 : zp1 (k + 1) n / 4 = 256 * (zp1 k (n / 256) / 4) + (64 * (zp1 k (n / 256) % 4) + zg1 (n % 256) / 4) := by rw [e0]; omega
    have e2 : (64 * (zp1 k (n / 256) % 4) + zg1 (n % 256) / 4) &&& 51 = (zg1 (n % 256) / 4) &&& 51 := by
      obtain ⟨g1, g2, g3⟩ := zg4_all (zg1 (n % 256) / 4) (by omega)
      rcases (show zp1 k (n / 256) % 4 = 0 ∨ zp1 k (n / 256) % 4 = 1 ∨ zp1 k (n / 256) % 4 = 2 ∨ zp1 k (n / 256) % 4 = 3 by omega) with h | h | h | h
      · rw [h]; simp
      · rw [h]; exact g1
      · rw [h]; exact g2
      · rw [h]; exact g3
    rw [e1, e0]
    show (_ &&& (256 * zm3 k + 51)) + (_ &&& (256 * zm3 k + 51)) = 256 * zp2 k (n / 256) + ((zg1 (n % 256) &&& 51) + ((zg1 (n % 256) / 4) &&& 51))
    rw [zand256 _ _ _ _ ha (by decide), zand256 _ _ _ _ (by omega) (by decide), e2, ← ih]
    omega
theorem zp2_dig : ∀ k n, zp2 k n % 16 ≤ 4
  | 0, n => by simp [zp2]
  | k + 1, n => by
    have h := (zg_all (n % 256) (by omega)).2.2.2.1
    show (256 * zp2 k (n / 256) + zg2 (zg1 (n % 256))) % 16 ≤ 4
    omega
theorem zp3_ok : ∀ k n, (zp2 k n + zp2 k n / 16) &&& zmf k = zp3 k n
  | 0, n => by simp [zp2, zmf, zp3]
  | k + 1, n => by
    have ih := zp3_ok k (n / 256)
    obtain ⟨-, -, -, a4, a5, -⟩ := zg_all (n % 256) (by omega)
    have hd := zp2_dig k (n / 256)
    have e0 : zp2 (k + 1) n = 256 * zp2 k (n / 256) + zg2 (zg1 (n % 256)) := rfl
    have e1 : zp2 (k + 1) n + zp2 (k + 1) n / 16 = 256 * (zp2 k (n / 256) + zp2 k (n / 256) / 16) + (zg2 (zg1 (n % 256)) + 16 * (zp2 k (n / 256) % 16) + zg2 (zg1 (n % 256)) / 16) := by rw [e0]; omega
    have e2 := zg5_all (zg2 (zg1 (n % 256))) (by omega) (zp2 k (n / 256) % 16) (by omega) a4 a5
    rw [e1]
    show _ &&& (256 * zmf k + 15) = 256 * zp3 k (n / 256) + zg3 (zg2 (zg1 (n % 256)))
    rw [zand256 _ _ _ _ (by omega) (by decide), e2, ih]
theorem zps_ok : ∀ k n, zcount (fun i => n.testBit i) (8 * k) = zps k n
  | 0, n => rfl
  | k + 1, n => by
    have ih := zps_ok k (n / 256)
    have h7 := (zg_all (n % 256) (by omega)).2.2.2.2.2.2
    rw [show 8 * (k + 1) = 8 + 8 * k by omega, zcount_add]
    show _ = zps k (n / 256) + zpc (n % 256)
    have e1 : zcount (fun i => n.testBit i) 8 = zcount (fun i => (n % 256).testBit i) 8 := zcount_congr (fun i hi => by
      show n.testBit i = (n % 2 ^ 8).testBit i
      rw [Nat.testBit_mod_two_pow]
      simp [hi])
    have e2 : zcount (fun i => n.testBit (8 + i)) (8 * k) = zcount (fun i => (n / 256).testBit i) (8 * k) := zcount_congr (fun i _ => by
      show n.testBit (8 + i) = (n / 2 ^ 8).testBit i
      rw [Nat.testBit_div_two_pow, Nat.add_comm])
    rw [e1, e2, ih, h7]
    omega
theorem zdm (K U v : Nat) (h : v < K) : (K * U + v) / K = U := by
  rw [Nat.mul_add_div (by omega), Nat.div_eq_of_lt h, Nat.add_zero]
theorem zdg (s r : Nat) (h : s < 128) : (s + 256 * r) % 128 = s := by omega
theorem zfA (f0 f1 f2 f3 f4 f5 f6 f7 : Nat) (h0 : f0 ≤ 8) : (256 * (256 * (256 * (256 * (256 * (256 * (256 * (256 * 0 + f7) + f6) + f5) + f4) + f3) + f2) + f1) + f0) + (256 * (256 * (256 * (256 * (256 * (256 * (256 * (256 * 0 + f7) + f6) + f5) + f4) + f3) + f2) + f1) + f0) / 2 ^ 8 = (f0 + f1) + 256 * (f1 + f2) + 65536 * (f2 + f3) + 16777216 * (f3 + f4) + 4294967296 * (f4 + f5) + 1099511627776 * (f5 + f6) + 281474976710656 * (f6 + f7) + 72057594037927936 * (f7) := by
  rw [show (256 * (256 * (256 * (256 * (256 * (256 * (256 * (256 * 0 + f7) + f6) + f5) + f4) + f3) + f2) + f1) + f0) / 2 ^ 8 = 256 * (256 * (256 * (256 * (256 * (256 * (256 * 0 + f7) + f6) + f5) + f4) + f3) + f2) + f1 from zdm 256 (256 * (256 * (256 * (256 * (256 * (256 * (256 * 0 + f7) + f6) + f5) + f4) + f3) + f2) + f1) f0 (by omega)]
  clear h0
  omega
theorem zfB1 (f0 f1 f2 f3 f4 f5 f6 f7 : Nat) : (f0 + f1) + 256 * (f1 + f2) + 65536 * (f2 + f3) + 16777216 * (f3 + f4) + 4294967296 * (f4 + f5) + 1099511627776 * (f5 + f6) + 281474976710656 * (f6 + f7) + 72057594037927936 * (f7) = 65536 * ((f2 + f3) + 256 * (f3 + f4) + 65536 * (f4 + f5) + 16777216 * (f5 + f6) + 4294967296 * (f6 + f7) + 1099511627776 * (f7)) + ((f0 + f1) + 256 * (f1 + f2)) := by omega
theorem zfB (f0 f1 f2 f3 f4 f5 f6 f7 : Nat) (h0 : f0 ≤ 8) (h1 : f1 ≤ 8) (h2 : f2 ≤ 8) : ((f0 + f1) + 256 * (f1 + f2) + 65536 * (f2 + f3) + 16777216 * (f3 + f4) + 4294967296 * (f4 + f5) + 1099511627776 * (f5 + f6) + 281474976710656 * (f6 + f7) + 72057594037927936 * (f7)) + ((f0 + f1) + 256 * (f1 + f2) + 65536 * (f2 + f3) + 16777216 * (f3 + f4) + 4294967296 * (f4 + f5) + 1099511627776 * (f5 + f6) + 281474976710656 * (f6 + f7) + 72057594037927936 * (f7)) / 2 ^ 16 = (f0 + f1 + f2 + f3) + 256 * (f1 + f2 + f3 + f4) + 65536 * (f2 + f3 + f4 + f5) + 16777216 * (f3 + f4 + f5 + f6) + 4294967296 * (f4 + f5 + f6 + f7) + 1099511627776 * (f5 + f6 + f7) + 281474976710656 * (f6 + f7) + 72057594037927936 * (f7) := by
  rw [show ((f0 + f1) + 256 * (f1 + f2) + 65536 * (f2 + f3) + 16777216 * (f3 + f4) + 4294967296 * (f4 + f5) + 1099511627776 * (f5 + f6) + 281474976710656 * (f6 + f7) + 72057594037927936 * (f7)) / 2 ^ 16 = (f2 + f3) + 256 * (f3 + f4) + 65536 * (f4 + f5) + 16777216 * (f5 + f6) + 4294967296 * (f6 + f7) + 1099511627776 * (f7) by rw [zfB1]; exact zdm 65536 _ _ (by omega)]
  clear h0 h1 h2
  omega
theorem zfC1 (f0 f1 f2 f3 f4 f5 f6 f7 : Nat) : (f0 + f1 + f2 + f3) + 256 * (f1 + f2 + f3 + f4) + 65536 * (f2 + f3 + f4 + f5) + 16777216 * (f3 + f4 + f5 + f6) + 4294967296 * (f4 + f5 + f6 + f7) + 1099511627776 * (f5 + f6 + f7) + 281474976710656 * (f6 + f7) + 72057594037927936 * (f7) = 4294967296 * ((f4 + f5 + f6 + f7) + 256 * (f5 + f6 + f7) + 65536 * (f6 + f7) + 16777216 * (f7)) + ((f0 + f1 + f2 + f3) + 256 * (f1 + f2 + f3 + f4) + 65536 * (f2 + f3 + f4 + f5) + 16777216 * (f3 + f4 + f5 + f6)) := by omega
theorem zfC2 (f0 f1 f2 f3 f4 f5 f6 f7 : Nat) (h0 : f0 ≤ 8) (h1 : f1 ≤ 8) (h2 : f2 ≤ 8) (h3 : f3 ≤ 8) (h4 : f4 ≤ 8) (h5 : f5 ≤ 8) (h6 : f6 ≤ 8) (h7 : f7 ≤ 8) : (f0 + f1 + f2 + f3) + 256 * (f1 + f2 + f3 + f4) + 65536 * (f2 + f3 + f4 + f5) + 16777216 * (f3 + f4 + f5 + f6) < 4294967296 := by omega
theorem zfC (f0 f1 f2 f3 f4 f5 f6 f7 : Nat) (h0 : f0 ≤ 8) (h1 : f1 ≤ 8) (h2 : f2 ≤ 8) (h3 : f3 ≤ 8) (h4 : f4 ≤ 8) (h5 : f5 ≤ 8) (h6 : f6 ≤ 8) (h7 : f7 ≤ 8) : ((f0 + f1 + f2 + f3) + 256 * (f1 + f2 + f3 + f4) + 65536 * (f2 + f3 + f4 + f5) + 16777216 * (f3 + f4 + f5 + f6) + 4294967296 * (f4 + f5 + f6 + f7) + 1099511627776 * (f5 + f6 + f7) + 281474976710656 * (f6 + f7) + 72057594037927936 * (f7)) + ((f0 + f1 + f2 + f3) + 256 * (f1 + f2 + f3 + f4) + 65536 * (f2 + f3 + f4 + f5) + 16777216 * (f3 + f4 + f5 + f6) + 4294967296 * (f4 + f5 + f6 + f7) + 1099511627776 * (f5 + f6 + f7) + 281474976710656 * (f6 + f7) + 72057594037927936 * (f7)) / 2 ^ 32 = (f0 + f1 + f2 + f3 + f4 + f5 + f6 + f7) + 256 * (f1 + f2 + f3 + f4 + f5 + f6 + f7) + 65536 * (f2 + f3 + f4 + f5 + f6 + f7) + 16777216 * (f3 + f4 + f5 + f6 + f7) + 4294967296 * (f4 + f5 + f6 + f7) + 1099511627776 * (f5 + f6 + f7) + 281474976710656 * (f6 + f7) + 72057594037927936 * (f7) := by
  rw [show ((f0 + f1 + f2 + f3) + 256 * (f1 + f2 + f3 + f4) + 65536 * (f2 + f3 + f4 + f5) + 16777216 * (f3 + f4 + f5 + f6) + 4294967296 * (f4 + f5 + f6 + f7) + 1099511627776 * (f5 + f6 + f7) + 281474976710656 * (f6 + f7) + 72057594037927936 * (f7)) / 2 ^ 32 = (f4 + f5 + f6 + f7) + 256 * (f5 + f6 + f7) + 65536 * (f6 + f7) + 16777216 * (f7) by rw [zfC1]; exact zdm 4294967296 _ _ (zfC2 f0 f1 f2 f3 f4 f5 f6 f7 h0 h1 h2 h3 h4 h5 h6 h7)]
  clear h0 h1 h2 h3 h4 h5 h6 h7
  omega
theorem zfG1 (f0 f1 f2 f3 f4 f5 f6 f7 : Nat) : (f0 + f1 + f2 + f3 + f4 + f5 + f6 + f7) + 256 * (f1 + f2 + f3 + f4 + f5 + f6 + f7) + 65536 * (f2 + f3 + f4 + f5 + f6 + f7) + 16777216 * (f3 + f4 + f5 + f6 + f7) + 4294967296 * (f4 + f5 + f6 + f7) + 1099511627776 * (f5 + f6 + f7) + 281474976710656 * (f6 + f7) + 72057594037927936 * (f7) = (f0 + f1 + f2 + f3 + f4 + f5 + f6 + f7) + 256 * ((f1 + f2 + f3 + f4 + f5 + f6 + f7) + 256 * (f2 + f3 + f4 + f5 + f6 + f7) + 65536 * (f3 + f4 + f5 + f6 + f7) + 16777216 * (f4 + f5 + f6 + f7) + 4294967296 * (f5 + f6 + f7) + 1099511627776 * (f6 + f7) + 281474976710656 * (f7)) := by omega
theorem zfG2 (f0 f1 f2 f3 f4 f5 f6 f7 : Nat) (h0 : f0 ≤ 8) (h1 : f1 ≤ 8) (h2 : f2 ≤ 8) (h3 : f3 ≤ 8) (h4 : f4 ≤ 8) (h5 : f5 ≤ 8) (h6 : f6 ≤ 8) (h7 : f7 ≤ 8) : (f0 + f1 + f2 + f3 + f4 + f5 + f6 + f7) + 256 * (f1 + f2 + f3 + f4 + f5 + f6 + f7) + 65536 * (f2 + f3 + f4 + f5 + f6 + f7) + 16777216 * (f3 + f4 + f5 + f6 + f7) + 4294967296 * (f4 + f5 + f6 + f7) + 1099511627776 * (f5 + f6 + f7) + 281474976710656 * (f6 + f7) + 72057594037927936 * (f7) < 2 ^ 64 ∧ (f0 + f1 + f2 + f3) + 256 * (f1 + f2 + f3 + f4) + 65536 * (f2 + f3 + f4 + f5) + 16777216 * (f3 + f4 + f5 + f6) + 4294967296 * (f4 + f5 + f6 + f7) + 1099511627776 * (f5 + f6 + f7) + 281474976710656 * (f6 + f7) + 72057594037927936 * (f7) < 2 ^ 64 ∧ (f0 + f1) + 256 * (f1 + f2) + 65536 * (f2 + f3) + 16777216 * (f3 + f4) + 4294967296 * (f4 + f5) + 1099511627776 * (f5 + f6) + 281474976710656 * (f6 + f7) + 72057594037927936 * (f7) < 2 ^ 64 ∧ 256 * (256 * (256 * (256 * (256 * (256 * (256 * (256 * 0 + f7) + f6) + f5) + f4) + f3) + f2) + f1) + f0 < 2 ^ 64 ∧ f0 + f1 + f2 + f3 + f4 + f5 + f6 + f7 ≤ 64 := by
  refine ⟨?_, ?_, ?_, ?_, ?_⟩ <;> omega
theorem zfold (n : Nat) : ∀ d e g, d = zp3 8 n + zp3 8 n / 2 ^ 8 → e = d + d / 2 ^ 16 → g = e + e / 2 ^ 32 → g < 2 ^ 64 ∧ g % 128 = zps 8 n ∧ zps 8 n ≤ 64 ∧ e < 2 ^ 64 ∧ d < 2 ^ 64 ∧ zp3 8 n < 2 ^ 64 := by
  intro d e g hd he hg
  have b : ∀ m, zpc (m % 256) ≤ 8 := fun m => (zg_all (m % 256) (by omega)).2.2.2.2.2.1
  have h0 := b n
  have h1 := b (n / 256)
  have h2 := b (n / 256 / 256)
  have h3 := b (n / 256 / 256 / 256)
  have h4 := b (n / 256 / 256 / 256 / 256)
  have h5 := b (n / 256 / 256 / 256 / 256 / 256)
  have h6 := b (n / 256 / 256 / 256 / 256 / 256 / 256)
  have h7 := b (n / 256 / 256 / 256 / 256 / 256 / 256 / 256)
  have e3 : zp3 8 n = 256 * (256 * (256 * (256 * (256 * (256 * (256 * (256 * 0 + zpc (n / 256 / 256 / 256 / 256 / 256 / 256 / 256 % 256)) + zpc (n / 256 / 256 / 256 / 256 / 256 / 256 % 256)) + zpc (n / 256 / 256 / 256 / 256 / 256 % 256)) + zpc (n / 256 / 256 / 256 / 256 % 256)) + zpc (n / 256 / 256 / 256 % 256)) + zpc (n / 256 / 256 % 256)) + zpc (n / 256 % 256)) + zpc (n % 256) := rfl
  have es : zps 8 n = 0 + zpc (n / 256 / 256 / 256 / 256 / 256 / 256 / 256 % 256) + zpc (n / 256 / 256 / 256 / 256 / 256 / 256 % 256) + zpc (n / 256 / 256 / 256 / 256 / 256 % 256) + zpc (n / 256 / 256 / 256 / 256 % 256) + zpc (n / 256 / 256 / 256 % 256) + zpc (n / 256 / 256 % 256) + zpc (n / 256 % 256) + zpc (n % 256) := rfl
  clear b
  revert h0 h1 h2 h3 h4 h5 h6 h7 e3 es
  generalize zpc (n / 256 / 256 / 256 / 256 / 256 / 256 / 256 % 256) = f7
  generalize zpc (n / 256 / 256 / 256 / 256 / 256 / 256 % 256) = f6
  generalize zpc (n / 256 / 256 / 256 / 256 / 256 % 256) = f5
  generalize zpc (n / 256 / 256 / 256 / 256 % 256) = f4
  generalize zpc (n / 256 / 256 / 256 % 256) = f3
  generalize zpc (n / 256 / 256 % 256) = f2
  generalize zpc (n / 256 % 256) = f1
  generalize zpc (n % 256) = f0
  intro h0 h1 h2 h3 h4 h5 h6 h7 e3 es
  rw [e3, zfA f0 f1 f2 f3 f4 f5 f6 f7 h0] at hd
  rw [hd, zfB f0 f1 f2 f3 f4 f5 f6 f7 h0 h1 h2] at he
  rw [he, zfC f0 f1 f2 f3 f4 f5 f6 f7 h0 h1 h2 h3 h4 h5 h6 h7] at hg
  obtain ⟨k1, k2, k3, k4, k5⟩ := zfG2 f0 f1 f2 f3 f4 f5 f6 f7 h0 h1 h2 h3 h4 h5 h6 h7
  have es : zps 8 n = f0 + f1 + f2 + f3 + f4 + f5 + f6 + f7 := by rw [es]; clear hd he hg e3 es k1 k2 k3 k4; omega
  rw [es, e3, hd, he, hg]
  refine ⟨k1, ?_, k5, k2, k3, k4⟩
  rw [zfG1]
  exact zdg _ _ (Nat.lt_of_le_of_lt k5 (by decide))
