/-! PURE: the digest -/
def zhm (h : Int64) (f : Nat → Int64) : Nat → Int64
  | 0 => h
  | n + 1 => 31 * zhm h f n + f n
theorem zhm_add (h : Int64) (f : Nat → Int64) (a : Nat) : ∀ b, zhm h f (a + b) = zhm (zhm h f a) (fun i => f (a + i)) b
  | 0 => rfl
  | b + 1 => by
    show 31 * zhm h f (a + b) + f (a + b) = 31 * zhm (zhm h f a) (fun i => f (a + i)) b + f (a + b)
    rw [zhm_add h f a b]
theorem zhm_congr {h : Int64} {f g : Nat → Int64} : ∀ {n}, (∀ i, i < n → f i = g i) → zhm h f n = zhm h g n
  | 0, _ => rfl
  | n + 1, e => by
    show 31 * zhm h f n + f n = 31 * zhm h g n + g n
    rw [zhm_congr (n := n) (fun i hi => e i (by omega)), e n (by omega)]
theorem zt_sx (x : Int32) {i : Nat} (hi : i < 32) : zt x.toInt64 i = zu x i := by
  unfold zt zu
  rw [Int32.toBitVec_toInt64, BitVec.getLsbD_signExtend]
  simp [hi]
  omega
theorem zt_mask : ∀ i, i < 64 → zt 4294967295 i = decide (i < 32) := by decide +kernel
theorem zlayer (hi lo : Int32) {i : Nat} (h : i < 64) : zt ((hi.toInt64 <<< ((32 : Int32).toInt64 &&& 63)) ||| (lo.toInt64 &&& (4294967295 : Int64))) i = if i < 32 then zu lo i else zu hi (i - 32) := by
  rw [zt_or, show (32 : Int32) = nI 32 from rfl, zt_shl _ (show 32 < 64 by decide), zt_and, zt_mask i h]
  by_cases q : i < 32
  · rw [if_pos q, zt_sx lo q]
    simp [q]
  · rw [if_neg q, zt_sx hi (show i - 32 < 32 by omega)]
    simp [q, h]
section ZZ
variable {sX sT sM sL sP : zOS} {sSS : zSS} {sD : zOS} {F : Nat}
theorem zRR_H {v : Int64} (h : zRR sX sT sM sL sP sSS sD) : zRR sX sT sM sL sP sSS (zsH sD v) := zRR_cs h ⟨h.1.1, h.1.2.1, h.1.2.2.1, h.1.2.2.2.1, h.1.2.2.2.2⟩ (Or.inr ⟨rfl, fun _ _ => rfl, rfl, rfl, rfl, rfl, rfl, rfl, rfl, rfl, rfl⟩)
theorem zlayer_eq {l : Nat} (hl : l < 4) (h : zRR sX sT sM sL sP sSS sD) : ((zI sD 1 (2 * l + 1)).toInt64 <<< ((32 : Int32).toInt64 &&& 63)) ||| ((zI sD 1 (2 * l)).toInt64 &&& (4294967295 : Int64)) = zL sP 1 l := by
  apply zt_ext
  intro i hi
  rw [zlayer _ _ hi, h.1.1.1 l hl i hi]
  unfold zmb
  by_cases q : i < 32
  · rw [if_pos q, show 2 * l + i / 32 = 2 * l by omega, show i % 32 = i by omega]
  · rw [if_neg q, show 2 * l + i / 32 = 2 * l + 1 by omega, show i % 32 = i - 32 by omega]
/-- told, side by side -/
theorem zd_told (hF : 1000 ≤ F) (h : zRR sX sT sM sL sP sSS sD) : ∀ (d k : Nat) (v : Int64) (K K' : Nat), k + d = 5 → ∃ v', zit (P := Int64 × Int32 × zOS) (R := Int64 × zOS × zOS × zOS × zOS) (fun kc9 p9 => bX4_digest_6 F sT sM sP sL kc9 p9.1 p9.2.1 p9.2.2) (K + d + 1) (v, nI k, sX) = zit (P := Int64 × Int32 × zOS × zOS × zOS × zOS) (R := Int64 × zOS × zOS × zOS × zOS) (fun kc9 p9 => bX4_digest_32 F kc9 p9.1 p9.2.1 p9.2.2.1 p9.2.2.2.1 p9.2.2.2.2.1 p9.2.2.2.2.2) F (v', (0 : Int32), sX, sM, sP, sL) ∧ zit (P := Int32 × zOS) (R := Int64 × zOS) (fun kc9 p9 => bX5_digest_9 F kc9 p9.1 p9.2) (K' + d + 1) (nI k, zsH sD v) = zit (P := Int32 × zOS) (R := Int64 × zOS) (fun kc9 p9 => bX5_digest_32 F kc9 p9.1 p9.2) F ((0 : Int32), zsH sD v')
  | 0, k, v, K, K', hk => by
    obtain rfl : k = 5 := by omega
    refine ⟨v, ?_, ?_⟩
    · show bX4_digest_6 F sT sM sP sL _ v (nI 5) sX = _
      generalize (zit (P := Int64 × Int32 × zOS) (R := Int64 × zOS × zOS × zOS × zOS) (fun kc9 p9 => bX4_digest_6 F sT sM sP sL kc9 p9.1 p9.2.1 p9.2.2) (K + 0)) = kc
      unfold bX4_digest_6
      rw [if_pos (show (4 : Int32) < nI 5 by decide)]
    · show bX5_digest_9 F _ (nI 5) (zsH sD v) = _
      generalize (zit (P := Int32 × zOS) (R := Int64 × zOS) (fun kc9 p9 => bX5_digest_9 F kc9 p9.1 p9.2) (K' + 0)) = kc
      unfold bX5_digest_9
      rw [if_pos (show (5 : Int32) ≤ nI 5 by decide)]
  | d + 1, k, v, K, K', hk => by
    obtain ⟨r, e1, e2⟩ := ztold (k := k) (by omega) h
    obtain ⟨v', a1, a2⟩ := zd_told hF h d (k + 1) (31 * v + r.toInt64) K K' (by omega)
    refine ⟨v', Eq.trans ?_ a1, Eq.trans ?_ a2⟩
    · show bX4_digest_6 F sT sM sP sL (zit (P := Int64 × Int32 × zOS) (R := Int64 × zOS × zOS × zOS × zOS) (fun kc9 p9 => bX4_digest_6 F sT sM sP sL kc9 p9.1 p9.2.1 p9.2.2) (K + d + 1)) v (nI k) sX = _
      generalize (zit (P := Int64 × Int32 × zOS) (R := Int64 × zOS × zOS × zOS × zOS) (fun kc9 p9 => bX4_digest_6 F sT sM sP sL kc9 p9.1 p9.2.1 p9.2.2) (K + d + 1)) = kc
      unfold bX4_digest_6
      rw [if_neg (show ¬ (4 : Int32) < nI k from Int32.not_lt.mpr (zle_ok (n := k) (i := 4) (by omega) (by decide))), e1, Option.bind_some, zlet_eq, nI_1]
    · show bX5_digest_9 F (zit (P := Int32 × zOS) (R := Int64 × zOS) (fun kc9 p9 => bX5_digest_9 F kc9 p9.1 p9.2) (K' + d + 1)) (nI k) (zsH sD v) = _
      generalize (zit (P := Int32 × zOS) (R := Int64 × zOS) (fun kc9 p9 => bX5_digest_9 F kc9 p9.1 p9.2) (K' + d + 1)) = kc
      unfold bX5_digest_9
      rw [if_neg (show ¬ (5 : Int32) ≤ nI k from zlt_no (n := 5) (by omega) (by decide)), show fX5_toldOf (nI k) (zsH sD v) = some r from e2, Option.bind_some, nI_1]
      rfl
/-- counts, side by side -/
theorem zd_count (hF : 20000000 ≤ F) : ∀ (d k : Nat) (v : Int64) (K K' : Nat) (sX sM sL sD : zOS), k + d = 9 → zRR sX sT sM sL sP sSS sD → zH sD = v → (d = 0 → ¬ zF sD 5 = 0) → ∃ v' sX' sM' sL' sD', zit (P := Int64 × Int32 × zOS × zOS × zOS × zOS) (R := Int64 × zOS × zOS × zOS × zOS) (fun kc9 p9 => bX4_digest_32 F kc9 p9.1 p9.2.1 p9.2.2.1 p9.2.2.2.1 p9.2.2.2.2.1 p9.2.2.2.2.2) (K + d + 1) (v, nI k, sX, sM, sP, sL) = zit (P := Int64 × Int32) (R := Int64 × zOS × zOS × zOS × zOS) (fun kc9 p9 => bX4_digest_59 F sX' sM' sP sL' kc9 p9.1 p9.2) F (v', (0 : Int32)) ∧ zit (P := Int32 × zOS) (R := Int64 × zOS) (fun kc9 p9 => bX5_digest_32 F kc9 p9.1 p9.2) (K' + d + 1) (nI k, sD) = zit (P := Int32 × zOS) (R := Int64 × zOS) (fun kc9 p9 => bX5_digest_56 F kc9 p9.1 p9.2) F ((0 : Int32), sD') ∧ zRR sX' sT sM' sL' sP sSS sD' ∧ zH sD' = v' ∧ ¬ zF sD' 5 = 0
  | 0, k, v, K, K', sX, sM, sL, sD, hk, h, hv, h5 => by
    obtain rfl : k = 9 := by omega
    refine ⟨v, sX, sM, sL, sD, ?_, ?_, h, hv, h5 rfl⟩
    · show bX4_digest_32 F _ v (nI 9) sX sM sP sL = _
      generalize (zit (P := Int64 × Int32 × zOS × zOS × zOS × zOS) (R := Int64 × zOS × zOS × zOS × zOS) (fun kc9 p9 => bX4_digest_32 F kc9 p9.1 p9.2.1 p9.2.2.1 p9.2.2.2.1 p9.2.2.2.2.1 p9.2.2.2.2.2) (K + 0)) = kc
      unfold bX4_digest_32
      rw [if_pos (show (8 : Int32) < nI 9 by decide)]
    · show bX5_digest_32 F _ (nI 9) sD = _
      generalize (zit (P := Int32 × zOS) (R := Int64 × zOS) (fun kc9 p9 => bX5_digest_32 F kc9 p9.1 p9.2) (K' + 0)) = kc
      unfold bX5_digest_32
      rw [if_pos (show (9 : Int32) ≤ nI 9 by decide)]
  | d + 1, k, v, K, K', sX, sM, sL, sD, hk, h, hv, h5 => by
    obtain ⟨r, sX1, sM1, sL1, sD1, e1, e2, e3, e4, e5⟩ := zcounted (k := k) (by omega) hF h
    obtain ⟨nd, np, hpd⟩ := zRR_pv h
    obtain ⟨s2, q1, -, -, q4⟩ := q_lay hF hpd.1 h.2.2
    rw [e5] at q1
    cases q1
    have hH : zH sD1 = v := e4.2.2.2.2.2.2.trans hv
    obtain ⟨v', sX', sM', sL', sD', a1, a2, a3⟩ := zd_count hF d (k + 1) (31 * v + r.toInt64) K K' sX1 sM1 sL1 (zsH sD1 (31 * v + r.toInt64)) (by omega) (zRR_H e3) rfl (fun _ => q4)
    refine ⟨v', sX', sM', sL', sD', Eq.trans ?_ a1, Eq.trans ?_ a2, a3⟩
    · show bX4_digest_32 F (zit (P := Int64 × Int32 × zOS × zOS × zOS × zOS) (R := Int64 × zOS × zOS × zOS × zOS) (fun kc9 p9 => bX4_digest_32 F kc9 p9.1 p9.2.1 p9.2.2.1 p9.2.2.2.1 p9.2.2.2.2.1 p9.2.2.2.2.2) (K + d + 1)) v (nI k) sX sM sP sL = _
      generalize (zit (P := Int64 × Int32 × zOS × zOS × zOS × zOS) (R := Int64 × zOS × zOS × zOS × zOS) (fun kc9 p9 => bX4_digest_32 F kc9 p9.1 p9.2.1 p9.2.2.1 p9.2.2.2.1 p9.2.2.2.2.1 p9.2.2.2.2.2) (K + d + 1)) = kc
      unfold bX4_digest_32
      rw [if_neg (show ¬ (8 : Int32) < nI k from Int32.not_lt.mpr (zle_ok (n := k) (i := 8) (by omega) (by decide))), e1, Option.bind_some, zlet_eq, nI_1]
    · show bX5_digest_32 F (zit (P := Int32 × zOS) (R := Int64 × zOS) (fun kc9 p9 => bX5_digest_32 F kc9 p9.1 p9.2) (K' + d + 1)) (nI k) sD = _
      generalize (zit (P := Int32 × zOS) (R := Int64 × zOS) (fun kc9 p9 => bX5_digest_32 F kc9 p9.1 p9.2) (K' + d + 1)) = kc
      unfold bX5_digest_32 fX5_mix
      rw [if_neg (show ¬ (9 : Int32) ≤ nI k from zlt_no (n := 9) (by omega) (by decide)), e2, Option.bind_some, zlet_eq, Option.bind_some, nI_1, hH]
/-- gates and nodes, on the reference's side -/
theorem q_mixGates {nG : Nat} {v : Int64} (hF : 1000 ≤ F) (hn : nG ≤ 32) (h10 : zF sD 10 = nI nG) : zit (P := Int32 × zOS) (R := Int64 × zOS) (fun kc9 p9 => bX5_digest_101 F kc9 p9.1 p9.2) F ((0 : Int32), zsH sD v) = zit (P := Int32 × zOS) (R := Int64 × zOS) (fun kc9 p9 => bX5_digest_137 F kc9 p9.1 p9.2) F ((0 : Int32), zsH sD (zhm v (fun k => (zI sD 8 k).toInt64) (6 * nG))) := by
  obtain ⟨F', p', rfl, -, e⟩ := zfor (B := fun kc9 (p9 : Int32 × zOS) => bX5_digest_101 F kc9 p9.1 p9.2) (fun i p => p = (nI i, zsH sD (zhm v (fun k => (zI sD 8 k).toInt64) i))) (6 * nG) (by
    rintro kc i p hi rfl
    refine ⟨_, rfl, ?_⟩
    show bX5_digest_101 F kc (nI i) (zsH sD (zhm v (fun k => (zI sD 8 k).toInt64) i)) = _
    unfold bX5_digest_101 fX5_mix
    rw [show zF (zsH sD (zhm v (fun k => (zI sD 8 k).toInt64) i)) 10 = nI nG from h10, show (6 : Int32) = nI 6 from rfl, pk_mul, if_neg (zlt_no hi (by omega)), zdvk_ok (show ¬ nI 6 = 0 by decide), zdvk_ok (show ¬ nI 6 = 0 by decide), zrm (show i < 2 ^ 31 by omega) (by decide) (by decide), pk_div (show i < 2 ^ 31 by omega) (by decide) (by decide), q_ofGate (show i / 6 < 32 by omega) (show i % 6 < 6 by omega), Option.bind_some, zlet_eq, Option.bind_some, nI_1, show 6 * (i / 6) + i % 6 = i by omega]
    rfl) (F := F) (p := ((0 : Int32), zsH sD v)) rfl (by omega)
  rw [e]
  show bX5_digest_101 F _ (nI (6 * nG)) (zsH sD (zhm v (fun k => (zI sD 8 k).toInt64) (6 * nG))) = _
  generalize (zit (P := Int32 × zOS) (R := Int64 × zOS) (fun kc9 p9 => bX5_digest_101 F kc9 p9.1 p9.2) F') = kc
  unfold bX5_digest_101
  rw [show zF (zsH sD (zhm v (fun k => (zI sD 8 k).toInt64) (6 * nG))) 10 = nI nG from h10, show (6 : Int32) * nI nG = nI (6 * nG) from pk_mul 6 nG, if_pos (zle_ok (Nat.le_refl _) (by omega))]
def zfw (s : zOS) (lab : Nat → Option Nat) (nG k : Nat) : Int64 := if k % 2 = 0 then (nI (znz lab (k / 2))).toInt64 else (nI (zhw (zVs s) (zqw s) (nI (k / 2)) nG)).toInt64
theorem q_mixWires {N nG W : Nat} {lab labG : Nat → Option Nat} {v : Int64} (hF : 1000 ≤ F) (hn : nG ≤ 32) (h10 : zF sD 10 = nI nG) (h7 : zF sD 7 = nI N) (hN : N ≤ 192) (hq : zqa sD lab labG) (h5 : ¬ zF sD 5 = 0) (h14 : zF sD 14 = nI W) (hW : W ≤ 10000000) : zit (P := Int32 × zOS) (R := Int64 × zOS) (fun kc9 p9 => bX5_digest_137 F kc9 p9.1 p9.2) F ((0 : Int32), zsH sD v) = zit (P := Int32 × zOS) (R := Int64 × zOS) (fun kc9 p9 => bX5_digest_179 F kc9 p9.1 p9.2) F ((0 : Int32), zsH sD (31 * zhm v (zfw sD lab nG) (2 * N) + (nI (min W 9999)).toInt64)) := by
  obtain ⟨F', p', rfl, -, e⟩ := zfor (B := fun kc9 (p9 : Int32 × zOS) => bX5_digest_137 F kc9 p9.1 p9.2) (fun i p => p = (nI i, zsH sD (zhm v (zfw sD lab nG) i))) (2 * N) (by
    rintro kc i p hi rfl
    refine ⟨_, rfl, ?_⟩
    show bX5_digest_137 F kc (nI i) (zsH sD (zhm v (zfw sD lab nG) i)) = kc (nI (i + 1), zsH sD (31 * zhm v (zfw sD lab nG) i + zfw sD lab nG i))
    generalize zhm v (zfw sD lab nG) i = u
    unfold bX5_digest_137 fX5_mix zfw
    rw [show zF (zsH sD u) 7 = nI N from h7, show (2 : Int32) * nI N = nI (2 * N) from pk_mul 2 N, if_neg (zlt_no hi (by omega)), zdvk_ok (show ¬ (2 : Int32) = 0 by decide), zdvk_ok (show ¬ (2 : Int32) = 0 by decide), nI_2 (show i < 2 ^ 31 by omega), nI_r2 (show i < 2 ^ 31 by omega), nI_1]
    by_cases h0 : i % 2 = 0
    · rw [h0, if_pos rfl, show nI 0 = (0 : Int32) from rfl, q_sizeOf (sD := zsH sD u) (lab := lab) (labG := labG) hF hq (show i / 2 < 192 by omega), Option.bind_some, zlet_eq, Option.bind_some]
      rfl
    · have h1 : i % 2 = 1 := by omega
      rw [h1, if_neg (by decide), show nI 1 = (1 : Int32) from rfl, q_hangOfN (sD := zsH sD u) hF hn h10, Option.bind_some, zlet_eq, Option.bind_some]
      rfl) (F := F) (p := ((0 : Int32), zsH sD v)) rfl (by omega)
  rw [e]
  show bX5_digest_137 F _ (nI (2 * N)) (zsH sD (zhm v (zfw sD lab nG) (2 * N))) = _
  generalize (zit (P := Int32 × zOS) (R := Int64 × zOS) (fun kc9 p9 => bX5_digest_137 F kc9 p9.1 p9.2) F') = kc
  unfold bX5_digest_137 fX5_waysOf fX5_lay
  rw [show zF (zsH sD (zhm v (zfw sD lab nG) (2 * N))) 7 = nI N from h7, show (2 : Int32) * nI N = nI (2 * N) from pk_mul 2 N, if_pos (zle_ok (Nat.le_refl _) (by omega)), if_neg (show ¬ zF (zsH sD (zhm v (zfw sD lab nG) (2 * N))) 5 = 0 from h5), Option.bind_some, show zF (zsH sD (zhm v (zfw sD lab nG) (2 * N))) 14 = nI W from h14]
  have hc := zcap hW
  by_cases h9 : (9999 : Int32) ≤ nI W
  · rw [if_pos h9] at hc ⊢
    rw [Option.bind_some]
    unfold fX5_mix
    rw [zlet_eq, Option.bind_some, hc]
    rfl
  · rw [if_neg h9] at hc ⊢
    rw [Option.bind_some]
    unfold fX5_mix
    rw [zlet_eq, Option.bind_some, hc]
    rfl
theorem zit_succ {P R : Type} {B : (P → Option R) → P → Option R} {K : Nat} {p : P} : zit B (K + 1) p = B (zit B K) p := rfl
theorem zle00 : nI 0 ≤ (0 : Int32) := by decide
theorem q_mixBestZ {v : Int64} (kc : (Int32 × zOS) → Option (Int64 × zOS)) (h14 : zF sD 14 = nI 0) : bX5_digest_179 F kc (0 : Int32) (zsH sD v) = some (v, zsH sD v) := by
  unfold bX5_digest_179
  rw [zck (j := (8 : Int32)) (n := 46) 8 rfl (by decide) (by decide), show zF (zsH sD v) 14 = nI 0 from h14, if_pos zle00, ite_self]
  rfl
theorem q_mixBest0 {v : Int64} (hF : 1000 ≤ F) (h14 : zF sD 14 = nI 0) : zit (P := Int32 × zOS) (R := Int64 × zOS) (fun kc9 p9 => bX5_digest_179 F kc9 p9.1 p9.2) F ((0 : Int32), zsH sD v) = some (v, zsH sD v) := by
  cases F with
  | zero => omega
  | succ K =>
    rw [zit_succ]
    exact q_mixBestZ (F := K + 1) _ h14
theorem q_mixBestS {nd W i : Nat} {v : Int64} (kc : (Int32 × zOS) → Option (Int64 × zOS)) (hnd : nd ≤ 6) (h8 : zI sD 1 8 = nI nd) (h14 : zF sD 14 = nI W) (hW : W ≤ 10000000) (h0 : ¬ W = 0) (hi : i < nd + 10) : bX5_digest_179 F kc (nI i) (zsH sD v) = kc (nI (i + 1), zsH sD (31 * v + (zI sD 9 i).toInt64)) := by
  unfold bX5_digest_179 fX5_mix
  rw [zck (j := (8 : Int32)) (n := 46) 8 rfl (by decide) (by decide), show zI (zsH sD v) 1 (8 : Int32).toNatClampNeg = nI nd from h8, show nI nd + (10 : Int32) = nI (nd + 10) from nI_add nd 10, if_neg (zlt_no hi (by omega)), show zF (zsH sD v) 14 = nI W from h14, if_neg (show ¬ nI W ≤ 0 from zlt_no (n := W) (i := 0) (by omega) (by omega)), zchk_nI (show i < 16 by omega) (by decide), zlet_eq, Option.bind_some, nI_clamp (show i < 2 ^ 31 by omega), nI_1]
  rfl
theorem q_mixBestE {nd : Nat} {v : Int64} (kc : (Int32 × zOS) → Option (Int64 × zOS)) (hnd : nd ≤ 6) (h8 : zI sD 1 8 = nI nd) : bX5_digest_179 F kc (nI (nd + 10)) (zsH sD v) = some (v, zsH sD v) := by
  unfold bX5_digest_179
  rw [zck (j := (8 : Int32)) (n := 46) 8 rfl (by decide) (by decide), show zI (zsH sD v) 1 (8 : Int32).toNatClampNeg = nI nd from h8, show nI nd + (10 : Int32) = nI (nd + 10) from nI_add nd 10, if_pos (zle_ok (Nat.le_refl _) (by omega))]
  rfl
theorem q_mixBest1 {nd W : Nat} {v : Int64} (hF : 1000 ≤ F) (hnd : nd ≤ 6) (h8 : zI sD 1 8 = nI nd) (h14 : zF sD 14 = nI W) (hW : W ≤ 10000000) (h0 : ¬ W = 0) : zit (P := Int32 × zOS) (R := Int64 × zOS) (fun kc9 p9 => bX5_digest_179 F kc9 p9.1 p9.2) F ((0 : Int32), zsH sD v) = some (zhm v (fun k => (zI sD 9 k).toInt64) (nd + 10), zsH sD (zhm v (fun k => (zI sD 9 k).toInt64) (nd + 10))) := by
  obtain ⟨F', p', hp, -, e⟩ := zfor (B := fun kc9 (p9 : Int32 × zOS) => bX5_digest_179 F kc9 p9.1 p9.2) (fun i p => p = (nI i, zsH sD (zhm v (fun k => (zI sD 9 k).toInt64) i))) (nd + 10) (by
    rintro kc i p hi rfl
    exact ⟨_, rfl, q_mixBestS kc hnd h8 h14 hW h0 hi⟩) (F := F) (p := ((0 : Int32), zsH sD v)) rfl (by omega)
  rw [e, hp]
  exact q_mixBestE _ hnd h8
end ZZ
