/-! PURE: the digest on the class's side; both digests -/
section ZA
variable {sX sT sM sL sP : zOS} {sSS : zSS} {sD : zOS} {F : Nat}
theorem p_mixLayout {m N nG : Nat} {lab0 lab labG : Nat → Option Nat} {v : Int64} (hF : 1000 ≤ F) (hc : zcc sL sD m N nG lab labG) (hq : zqlay sD m N nG lab0 lab labG) : fX0_mixInto F v sL = some (zhm (zhm v (fun k => (zI sD 8 k).toInt64) (6 * nG)) (zfw sD lab nG) (2 * N)) := by
  have hnG := hc.2.2.1
  have hN := hc.1.2.1
  unfold fX0_mixInto
  obtain ⟨F', p', hp, -, e⟩ := zfor (B := fun kc9 (p9 : Int64 × Int32) => bX0_mixInto_5 F sL kc9 p9.1 p9.2) (fun i p => p = (zhm v (fun k => (zI sD 8 k).toInt64) (6 * i), nI i)) nG (by
    rintro kc i p hi rfl
    refine ⟨_, rfl, ?_⟩
    show bX0_mixInto_5 F sL kc (zhm v (fun k => (zI sD 8 k).toInt64) (6 * i)) (nI i) = kc (zhm v (fun k => (zI sD 8 k).toInt64) (6 * (i + 1)), nI (i + 1))
    unfold bX0_mixInto_5
    rw [hc.2.1, if_neg (zlt_no hi (by omega))]
    obtain ⟨c, c1, c2, c3⟩ := hq.2.2.1.2.2.2.2.1 i hi
    obtain ⟨F', p', hp, -, e⟩ := zfor (B := fun kc9 (p9 : Int64 × Int32) => bX0_mixInto_17 F kc (nI i) sL kc9 p9.1 p9.2) (fun w p => p = (zhm v (fun k => (zI sD 8 k).toInt64) (6 * i + w), nI w)) 6 (by
      rintro kc2 w p hw rfl
      refine ⟨_, rfl, ?_⟩
      show bX0_mixInto_17 F kc (nI i) sL kc2 (zhm v (fun k => (zI sD 8 k).toInt64) (6 * i + w)) (nI w) = kc2 (31 * zhm v (fun k => (zI sD 8 k).toInt64) (6 * i + w) + (zI sD 8 (6 * i + w)).toInt64, nI (w + 1))
      generalize zhm v (fun k => (zI sD 8 k).toInt64) (6 * i + w) = u
      unfold bX0_mixInto_17
      rw [if_neg (show ¬ (5 : Int32) < nI w from Int32.not_lt.mpr (zle_ok (n := w) (i := 5) (by omega) (by decide))), p_tellGate (by omega) hw ⟨c, (hc.2.2.2.2.2.2.2.1 i hi c).mpr ⟨c1, c3⟩⟩, hc.2.2.2.1 i hi w hw, Option.bind_some, zlet_eq, nI_1]
      rfl) (F := F) (p := (zhm v (fun k => (zI sD 8 k).toInt64) (6 * i), (0 : Int32))) rfl (by omega)
    rw [e, hp, show 6 * (i + 1) = 6 * i + 6 by omega]
    show bX0_mixInto_17 F kc (nI i) sL _ (zhm v (fun k => (zI sD 8 k).toInt64) (6 * i + 6)) (nI 6) = _
    generalize zhm v (fun k => (zI sD 8 k).toInt64) (6 * i + 6) = u
    unfold bX0_mixInto_17
    rw [if_pos (show (5 : Int32) < nI 6 by decide), nI_1]) (F := F) (p := (v, (0 : Int32))) rfl (by omega)
  rw [e, hp]
  show bX0_mixInto_5 F sL _ (zhm v (fun k => (zI sD 8 k).toInt64) (6 * nG)) (nI nG) = _
  generalize zhm v (fun k => (zI sD 8 k).toInt64) (6 * nG) = u
  generalize (zit (P := Int64 × Int32) (R := Int64) (fun kc9 p9 => bX0_mixInto_5 F sL kc9 p9.1 p9.2) F') = kc0
  clear e hp
  unfold bX0_mixInto_5
  rw [hc.2.1, if_pos (zle_ok (Nat.le_refl _) (by omega))]
  obtain ⟨F', p', hp, -, e⟩ := zfor (B := fun kc9 (p9 : Int64 × Int32) => bX0_mixInto_54 F sL kc9 p9.1 p9.2) (fun n p => p = (zhm u (zfw sD lab nG) (2 * n), nI n)) N (by
    rintro kc n p hn rfl
    refine ⟨_, rfl, ?_⟩
    show bX0_mixInto_54 F sL kc (zhm u (zfw sD lab nG) (2 * n)) (nI n) = kc (31 * (31 * zhm u (zfw sD lab nG) (2 * n) + zfw sD lab nG (2 * n)) + zfw sD lab nG (2 * n + 1), nI (n + 1))
    generalize zhm u (zfw sD lab nG) (2 * n) = x
    unfold bX0_mixInto_54 zfw
    rw [hc.1.1, if_neg (zlt_no hn (by omega)), p_sizeOf hF hc.1 hn, Option.bind_some, zlet_eq, p_nodeHang hc hn, Option.bind_some, zlet_eq, nI_1, if_pos (show 2 * n % 2 = 0 by omega), if_neg (show ¬ (2 * n + 1) % 2 = 0 by omega), show 2 * n / 2 = n by omega, show (2 * n + 1) / 2 = n by omega]) (F := F) (p := (u, (0 : Int32))) rfl (by omega)
  rw [e, hp]
  show bX0_mixInto_54 F sL _ (zhm u (zfw sD lab nG) (2 * N)) (nI N) = _
  generalize zhm u (zfw sD lab nG) (2 * N) = x
  unfold bX0_mixInto_54
  rw [hc.1.1, if_pos (zle_ok (Nat.le_refl _) (by omega))]
theorem p_mixMatch {nd W : Nat} {v : Int64} (hF : 1000 ≤ F) (hnd : nd ≤ 6) (h3 : zF sP 3 = nI nd) (h8 : zF sM 8 = nI (min W 9999)) : fX1_mixInto F v sM sP = some (if W = 0 then 31 * v + (nI (min W 9999)).toInt64 else zhm (31 * v + (nI (min W 9999)).toInt64) (fun k => (zBf sM nd k).toInt64) (nd + 10)) := by
  unfold fX1_mixInto
  rw [zlet_eq, h8]
  by_cases hW : W = 0
  · rw [if_pos (nI_min0.mpr hW), if_pos hW]
  · rw [if_neg (fun q => hW (nI_min0.mp q)), if_neg hW]
    generalize 31 * v + (nI (min W 9999)).toInt64 = h
    obtain ⟨F', p', hp, -, e⟩ := zfor (B := fun kc9 (p9 : Int64 × Int32) => bX1_mixInto_24 F sM sP kc9 p9.1 p9.2) (fun d p => p = (zhm h (fun k => (zBf sM nd k).toInt64) d, nI d)) nd (by
      rintro kc d p hd rfl
      refine ⟨_, rfl, ?_⟩
      show bX1_mixInto_24 F sM sP kc (zhm h (fun k => (zBf sM nd k).toInt64) d) (nI d) = kc (31 * zhm h (fun k => (zBf sM nd k).toInt64) d + (zBf sM nd d).toInt64, nI (d + 1))
      generalize zhm h (fun k => (zBf sM nd k).toInt64) d = x
      unfold bX1_mixInto_24 zBf
      rw [h3, if_neg (zlt_no hd (by omega)), zchk_nI (show d < 6 by omega) (by decide), zlet_eq, nI_clamp (show d < 2 ^ 31 by omega), nI_1, if_pos hd]) (F := F) (p := (h, (0 : Int32))) rfl (by omega)
    rw [e, hp]
    show bX1_mixInto_24 F sM sP _ (zhm h (fun k => (zBf sM nd k).toInt64) nd) (nI nd) = _
    rw [zhm_add]
    generalize zhm h (fun k => (zBf sM nd k).toInt64) nd = x
    generalize (zit (P := Int64 × Int32) (R := Int64) (fun kc9 p9 => bX1_mixInto_24 F sM sP kc9 p9.1 p9.2) F') = kc0
    clear e hp
    unfold bX1_mixInto_24
    rw [h3, if_pos (zle_ok (Nat.le_refl _) (by omega))]
    obtain ⟨F', p', hp, -, e⟩ := zfor (B := fun kc9 (p9 : Int64 × Int32) => bX1_mixInto_60 F sM kc9 p9.1 p9.2) (fun n p => p = (zhm x (fun i => (zBf sM nd (nd + i)).toInt64) n, nI n)) 10 (by
      rintro kc n p hn rfl
      refine ⟨_, rfl, ?_⟩
      show bX1_mixInto_60 F sM kc (zhm x (fun i => (zBf sM nd (nd + i)).toInt64) n) (nI n) = kc (31 * zhm x (fun i => (zBf sM nd (nd + i)).toInt64) n + (zBf sM nd (nd + n)).toInt64, nI (n + 1))
      generalize zhm x (fun i => (zBf sM nd (nd + i)).toInt64) n = y
      unfold bX1_mixInto_60 zBf
      rw [if_neg (show ¬ (10 : Int32) ≤ nI n from zlt_no (n := 10) hn (by decide)), zchk_nI hn (by decide), zlet_eq, nI_clamp (show n < 2 ^ 31 by omega), nI_1, if_neg (show ¬ nd + n < nd by omega), Nat.add_sub_cancel_left]) (F := F) (p := (x, (0 : Int32))) rfl (by omega)
    rw [e, hp]
    show bX1_mixInto_60 F sM _ (zhm x (fun i => (zBf sM nd (nd + i)).toInt64) 10) (nI 10) = _
    generalize zhm x (fun i => (zBf sM nd (nd + i)).toInt64) 10 = y
    unfold bX1_mixInto_60
    rw [if_pos (show (10 : Int32) ≤ nI 10 by decide)]
theorem zg_digest (hF : 20000000 ≤ F) (h : zRR sX sT sM sL sP sSS sD) : ∃ r sX' sM' sL' sD', fX4_digest F sX sT sM sP sL = some (r, sX', sM', sP, sL') ∧ fX5_digest F sD = some (r, sD') ∧ zRR sX' sT sM' sL' sP sSS sD' := by
  obtain ⟨K5, hK5⟩ : ∃ K, F = K + 5 + 1 := ⟨F - 6, by omega⟩
  obtain ⟨K9, hK9⟩ : ∃ K, F = K + 9 + 1 := ⟨F - 10, by omega⟩
  obtain ⟨v1, a1, a2⟩ := zd_told (F := F) (by omega) h 5 0 1682 K5 K5 (by omega)
  rw [← hK5] at a1 a2
  obtain ⟨v2, sX2, sM2, sL2, sD2, b1, b2, b3, b4, b5⟩ := zd_count (F := F) (sP := sP) (sSS := sSS) (sT := sT) hF 9 0 v1 K9 K9 sX sM sL (zsH sD v1) (by omega) (zRR_H h) rfl (fun q => by omega)
  rw [← hK9] at b1 b2
  -- the layers
  obtain ⟨F1, p1, hp1, -, c1⟩ := zfor (B := fun kc9 (p9 : Int64 × Int32) => bX4_digest_59 F sX2 sM2 sP sL2 kc9 p9.1 p9.2) (fun l p => p = (zhm v2 (fun l => zL sP 1 l) l, nI l)) 4 (by
    rintro kc l p hl rfl
    refine ⟨_, rfl, ?_⟩
    show bX4_digest_59 F sX2 sM2 sP sL2 kc (zhm v2 (fun l => zL sP 1 l) l) (nI l) = kc (31 * zhm v2 (fun l => zL sP 1 l) l + zL sP 1 l, nI (l + 1))
    generalize zhm v2 (fun l => zL sP 1 l) l = x
    unfold bX4_digest_59
    rw [if_neg (show ¬ (4 : Int32) ≤ nI l from zlt_no (n := 4) hl (by decide)), zchk_nI hl (by decide), zlet_eq, nI_clamp (show l < 2 ^ 31 by omega), nI_1]) (F := F) (p := (v2, (0 : Int32))) rfl (by omega)
  obtain ⟨F2, p2, hp2, -, c2⟩ := zfor (B := fun kc9 (p9 : Int32 × zOS) => bX5_digest_56 F kc9 p9.1 p9.2) (fun l p => p = (nI l, zsH sD2 (zhm v2 (fun l => zL sP 1 l) l))) 4 (by
    rintro kc l p hl rfl
    refine ⟨_, rfl, ?_⟩
    show bX5_digest_56 F kc (nI l) (zsH sD2 (zhm v2 (fun l => zL sP 1 l) l)) = kc (nI (l + 1), zsH sD2 (31 * zhm v2 (fun l => zL sP 1 l) l + zL sP 1 l))
    generalize zhm v2 (fun l => zL sP 1 l) l = x
    unfold bX5_digest_56 fX5_mix
    rw [if_neg (show ¬ (4 : Int32) ≤ nI l from zlt_no (n := 4) hl (by decide)), show (2 : Int32) * nI l = nI (2 * l) from pk_mul 2 l, nI_1, zchk_nI (show 2 * l + 1 < 46 by omega) (by decide), zchk_nI (show 2 * l < 46 by omega) (by decide), zlet_eq, Option.bind_some, nI_clamp (show 2 * l + 1 < 2 ^ 31 by omega), nI_clamp (show 2 * l < 2 ^ 31 by omega), show zI (zsH sD2 x) 1 = zI sD2 1 from rfl, zlayer_eq hl b3, nI_1]
    rfl) (F := F) (p := ((0 : Int32), sD2)) (by rw [← b4]; rfl) (by omega)
  -- what is left
  obtain ⟨sX', sM', sL', sD', nd, np, W, d1, d2, d3, d4, d5, d6, d7, d8, d9, d10, d11, d12⟩ := zRR_found hF b3
  have hsame : sD' = sD2 := by
    unfold fX5_lay at d2
    rw [if_neg b5] at d2
    exact (Option.some.inj d2).symm
  subst hsame
  obtain ⟨sL3, e1, e2, e3, e4⟩ := zRR_read (F := F) (by omega) d4
  obtain ⟨m, N, nG, lab0, lab, labG, nd', np', y, -⟩ := id d12
  have hcc := zcc_of e4 e3 e2.1.1 y
  have hnd := d5.1.1
  unfold fX4_digest fX5_digest
  rw [show zit (P := Int64 × Int32 × zOS) (R := Int64 × zOS × zOS × zOS × zOS) (fun kc9 p9 => bX4_digest_6 F sT sM sP sL kc9 p9.1 p9.2.1 p9.2.2) F ((1682 : Int64), (0 : Int32), sX) = _ from a1, zlet_eq, show zit (P := Int32 × zOS) (R := Int64 × zOS) (fun kc9 p9 => bX5_digest_9 F kc9 p9.1 p9.2) F ((0 : Int32), zsH sD 1682) = _ from a2, show zit (P := Int64 × Int32 × zOS × zOS × zOS × zOS) (R := Int64 × zOS × zOS × zOS × zOS) (fun kc9 p9 => bX4_digest_32 F kc9 p9.1 p9.2.1 p9.2.2.1 p9.2.2.2.1 p9.2.2.2.2.1 p9.2.2.2.2.2) F (v1, (0 : Int32), sX, sM, sP, sL) = _ from b1, show zit (P := Int32 × zOS) (R := Int64 × zOS) (fun kc9 p9 => bX5_digest_32 F kc9 p9.1 p9.2) F ((0 : Int32), zsH sD v1) = _ from b2, c1, hp1, c2, hp2]
  have l4 : ∀ kc, bX4_digest_59 F sX2 sM2 sP sL2 kc (zhm v2 (fun l => zL sP 1 l) 4) (nI 4) = some (if W = 0 then 31 * zhm (zhm (zhm v2 (fun l => zL sP 1 l) 4) (fun k => (zI sD' 8 k).toInt64) (6 * nG)) (zfw sD' lab nG) (2 * N) + (nI (min W 9999)).toInt64 else zhm (31 * zhm (zhm (zhm v2 (fun l => zL sP 1 l) 4) (fun k => (zI sD' 8 k).toInt64) (6 * nG)) (zfw sD' lab nG) (2 * N) + (nI (min W 9999)).toInt64) (fun k => (zBf sM' nd k).toInt64) (nd + 10), sX', sM', sP, sL3) := fun kc => by
    generalize zhm v2 (fun l => zL sP 1 l) 4 = x
    unfold bX4_digest_59
    rw [if_pos (show (4 : Int32) ≤ nI 4 by decide), d1, Option.bind_some, e1, Option.bind_some, p_mixLayout (by omega) hcc y, Option.bind_some, p_mixMatch (W := W) (by omega) hnd d5.2.1 d6, Option.bind_some]
  have r4 : ∀ kc, bX5_digest_56 F kc (nI 4) (zsH sD' (zhm v2 (fun l => zL sP 1 l) 4)) = zit (P := Int32 × zOS) (R := Int64 × zOS) (fun kc9 p9 => bX5_digest_101 F kc9 p9.1 p9.2) F ((0 : Int32), zsH sD' (zhm v2 (fun l => zL sP 1 l) 4)) := fun kc => by
    generalize zhm v2 (fun l => zL sP 1 l) 4 = x
    unfold bX5_digest_56
    rw [if_pos (show (4 : Int32) ≤ nI 4 by decide)]
  show ∃ r sX' sM' sL' sD2, bX4_digest_59 F sX2 sM2 sP sL2 _ (zhm v2 (fun l => zL sP 1 l) 4) (nI 4) = _ ∧ bX5_digest_56 F _ (nI 4) (zsH sD' (zhm v2 (fun l => zL sP 1 l) 4)) = _ ∧ _
  rw [l4, r4, q_mixGates (by omega) y.2.2.2.2.2.2.2.2.1 y.2.2.2.2.2.2.2.1, q_mixWires (W := W) (by omega) y.2.2.2.2.2.2.2.2.1 y.2.2.2.2.2.2.2.1 y.2.2.2.2.2.1 y.2.2.2.2.2.2.1 y.2.2.2.2.2.2.2.2.2.1 b5 d7 d8]
  generalize zhm (zhm v2 (fun l => zL sP 1 l) 4) (fun k => (zI sD' 8 k).toInt64) (6 * nG) = h5
  generalize 31 * zhm h5 (zfw sD' lab nG) (2 * N) + (nI (min W 9999)).toInt64 = h6
  by_cases hW : W = 0
  · rw [if_pos hW, q_mixBest0 (by omega) (by rw [d7, hW])]
    exact ⟨_, _, _, _, _, rfl, rfl, zRR_H e2⟩
  · rw [if_neg hW, q_mixBest1 (by omega) hnd d5.1.2.2.1 d7 d8 hW, zhm_congr (fun i hi => by rw [d9 hW i hi])]
    exact ⟨_, _, _, _, _, rfl, rfl, zRR_H e2⟩
end ZA
