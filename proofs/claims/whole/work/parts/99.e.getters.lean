/-! PURE: more getters; texts; back -/
theorem zcmp {sM sD : zOS} (hm : zmok sM (zI sD 1)) (hq : zqok sD) : ∃ nd np W, zpv (zI sD 1) nd np ∧ zF sM 8 = nI (min W 9999) ∧ zF sD 14 = nI W ∧ W ≤ 10000000 ∧ (¬ W = 0 → ∀ k, k < nd + 10 → zBf sM nd k = zI sD 9 k) ∧ ∀ F, 1000 ≤ F → fX5_unlike F sD = some (zF sM 9) := by
  obtain ⟨m, N, nG, lab0, lab, labG, nd, np, y, v, w1, w2, w3⟩ := hq
  obtain ⟨k1, ⟨u, n, k2, k3⟩, k4⟩ := hm sD m N nG lab0 lab labG nd np y v (fun _ _ => rfl)
  refine ⟨nd, np, _, v, k1, w1, w2, fun hW k hk => ?_, fun F hF => ?_⟩
  · have hne : ¬ zMs sD lab nd np nG = [] := fun q => hW (by rw [q]; rfl)
    exact zmin_u _ _ _ (k4 hne) (w3 hne) (fun x => Iff.rfl) k hk
  · obtain ⟨u', n', q1, q2⟩ := q_unlike (F := F) hF v y.2.2.2.2.2.2.2.2.1 y.2.2.2.2.2.2.2.1
    rw [q1, k2, (zgrd_u k3 q2).2]
theorem zcap {W : Nat} (hW : W ≤ 10000000) : (if (9999 : Int32) ≤ nI W then (9999 : Int32) else nI W) = nI (min W 9999) := by
  by_cases h : 9999 ≤ W
  · rw [if_pos (show (9999 : Int32) ≤ nI W from zle_ok (n := 9999) h (by omega)), show min W 9999 = 9999 by omega]
    rfl
  · rw [if_neg (show ¬ (9999 : Int32) ≤ nI W from zlt_no (n := 9999) (by omega) (by decide)), show min W 9999 = W by omega]
section ZX
variable {sX sT sM sL sP : zOS} {sSS : zSS} {sD : zOS} {F : Nat} {x1 x2 x3 : Int32}
/-- both have searched -/
theorem zRR_found (hF : 20000000 ≤ F) (h : zRR sX sT sM sL sP sSS sD) : ∃ sX' sM' sL' sD' nd np W, fX4_search F sX sM sP sL = some (sX', sM', sP, sL') ∧ fX5_lay F sD = some sD' ∧ fX5_waysOf F sD = some (nI (min W 9999), sD') ∧ zRR sX' sT sM' sL' sP sSS sD' ∧ zpd sP (zI sD' 1) nd np ∧ zF sM' 8 = nI (min W 9999) ∧ zF sD' 14 = nI W ∧ W ≤ 10000000 ∧ (¬ W = 0 → ∀ k, k < nd + 10 → zBf sM' nd k = zI sD' 9 k) ∧ (∀ F, 1000 ≤ F → fX5_unlike F sD' = some (zF sM' 9)) ∧ zqfl sD sD' ∧ zqok sD' := by
  obtain ⟨sX', sM', sL', a1, a2, a3⟩ := zRR_search hF h
  obtain ⟨sD', b1, b2, b3, b4⟩ := zRR_lay hF a2
  obtain ⟨nd, np, W, c1, c2, c3, c4, c5, c6⟩ := zcmp (sM := sM') (sD := sD') (by rw [b4.1]; exact a3) b3
  obtain ⟨nd', np', hpd⟩ := zRR_pv b2
  have hnd : nd' = nd := by
    have e := hpd.1.2.2.1.symm.trans c1.2.2.1
    have x1 := hpd.1.1
    have x2 := c1.1
    exact (nI_eq (by omega) (by omega)).mp e
  subst hnd
  refine ⟨sX', sM', sL', sD', nd', np', W, a1, b1, ?_, b2, hpd, c2, c3, c4, c5, c6, b4, b3⟩
  unfold fX5_waysOf
  rw [b1, Option.bind_some, c3, ← zcap c4]
  split <;> rfl
theorem zg_ways (hF : 20000000 ≤ F) (h : zRR sX sT sM sL sP sSS sD) : ∃ r sX' sM' sL' sD', fX4_ways F sX sM sP sL = some (r, sX', sM', sP, sL') ∧ fX5_ways F sD = some (r, sD') ∧ zRR sX' sT sM' sL' sP sSS sD' := by
  obtain ⟨sX', sM', sL', sD', nd, np, W, a1, a2, a3, a4, a5, a6, -⟩ := zRR_found hF h
  unfold fX4_ways fX5_ways
  rw [a1, a3, Option.bind_some, Option.bind_some, a6]
  exact ⟨_, _, _, _, _, rfl, rfl, a4⟩
theorem nI_min0 {W : Nat} : nI (min W 9999) = 0 ↔ W = 0 := by
  rw [show (0 : Int32) = nI 0 from rfl, nI_eq (by omega) (by omega)]
  omega
theorem zg_matched (hF : 20000000 ≤ F) (h : zRR sX sT sM sL sP sSS sD) : ∃ r sX' sM' sL' sD', fX4_matched F x1 sX sM sP sL = some (r, sX', sM', sP, sL') ∧ fX5_matched F x1 sD = some (r, sD') ∧ zRR sX' sT sM' sL' sP sSS sD' := by
  obtain ⟨nd, np, hpd⟩ := zRR_pv h
  obtain ⟨R, R', e1, e2, e3⟩ := zRR_refuse (r := -2) (Or.inl rfl) h
  have hnd := hpd.1.1
  unfold fX4_matched fX5_matched fX5_isDevice
  rw [hpd.2.1, p_isWithin, zck (j := (8 : Int32)) (n := 46) 8 rfl (by decide) (by decide), show zI sD 1 (8 : Int32).toNatClampNeg = nI nd from hpd.1.2.2.1, q_inm x1 (by omega), e1, e2]
  simp only [Option.bind_some, zif_b, zbk_b]
  cases h1 : zin x1 (nI nd) with
  | false => exact ⟨_, _, _, _, _, rfl, rfl, e3⟩
  | true =>
    obtain ⟨i, hi, rfl⟩ := (zin_iff (by omega)).mp h1
    obtain ⟨sX', sM', sL', sD', nd', np', W, a1, a2, a3, a4, a5, a6, a7, a8, a9, -⟩ := zRR_found hF h
    have hnd' : nd' = nd := by
      have e := a5.2.1.symm.trans hpd.2.1
      have x1 := a5.1.1
      exact (nI_eq (by omega) (by omega)).mp e
    subst hnd'
    rw [if_pos rfl, if_pos rfl, a1, a3, Option.bind_some, Option.bind_some, a6]
    by_cases hW : W = 0
    · rw [if_pos (nI_min0.mpr hW), if_pos (nI_min0.mpr hW)]
      obtain ⟨R2, R2', f1, f2, f3⟩ := zRR_refuse (r := -3) (Or.inr (Or.inl rfl)) a4
      rw [f1, f2, Option.bind_some, Option.bind_some]
      exact ⟨_, _, _, _, _, rfl, rfl, f3⟩
    · rw [if_neg (fun q => hW (nI_min0.mp q)), if_neg (fun q => hW (nI_min0.mp q)), zchk_nI (show i < 6 by omega) (by decide), zchk_nI (show i < 16 by omega) (by decide), nI_clamp (show i < 2 ^ 31 by omega)]
      have := a9 hW i (by omega)
      unfold zBf at this
      rw [if_pos hi] at this
      rw [this]
      exact ⟨_, _, _, _, _, rfl, rfl, a4⟩
theorem zg_net (hF : 20000000 ≤ F) (h : zRR sX sT sM sL sP sSS sD) : ∃ r sX' sM' sL' sD', fX4_net F x1 sX sM sP sL = some (r, sX', sM', sP, sL') ∧ fX5_net F x1 sD = some (r, sD') ∧ zRR sX' sT sM' sL' sP sSS sD' := by
  obtain ⟨R, R', e1, e2, e3⟩ := zRR_refuse (r := -2) (Or.inl rfl) h
  unfold fX4_net fX5_net
  rw [p_isWithin, q_isNet, e1, e2]
  simp only [Option.bind_some, zif_b]
  cases h1 : zin x1 10 with
  | false => exact ⟨_, _, _, _, _, rfl, rfl, e3⟩
  | true =>
    obtain ⟨n, hn, rfl⟩ := (zin_iff (n := 10) (by decide)).mp h1
    obtain ⟨sX', sM', sL', sD', nd, np, W, a1, a2, a3, a4, a5, a6, a7, a8, a9, -⟩ := zRR_found hF h
    have hnd := a5.1.1
    rw [if_pos rfl, if_pos rfl, a1, a3, Option.bind_some, Option.bind_some, a6]
    by_cases hW : W = 0
    · rw [if_pos (nI_min0.mpr hW), if_pos (nI_min0.mpr hW)]
      obtain ⟨R2, R2', f1, f2, f3⟩ := zRR_refuse (r := -3) (Or.inr (Or.inl rfl)) a4
      rw [f1, f2, Option.bind_some, Option.bind_some]
      exact ⟨_, _, _, _, _, rfl, rfl, f3⟩
    · rw [if_neg (fun q => hW (nI_min0.mp q)), if_neg (fun q => hW (nI_min0.mp q)), zchk_nI hn (by decide), nI_clamp (show n < 2 ^ 31 by omega), zck (j := (8 : Int32)) (n := 46) 8 rfl (by decide) (by decide), show zI sD' 1 (8 : Int32).toNatClampNeg = nI nd from a5.1.2.2.1, nI_add, zchk_nI (show nd + n < 16 by omega) (by decide), nI_clamp (show nd + n < 2 ^ 31 by omega)]
      have := a9 hW (nd + n) (by omega)
      unfold zBf at this
      rw [if_neg (by omega), Nat.add_sub_cancel_left] at this
      rw [this]
      exact ⟨_, _, _, _, _, rfl, rfl, a4⟩
theorem zg_device (h : zRR sX sT sM sL sP sSS sD) : ∃ r sX' sD', fX4_device x1 x2 sX sP = some (r, sX') ∧ fX5_device x1 x2 sD = some (r, sD') ∧ zRR sX' sT sM sL sP sSS sD' := by
  obtain ⟨nd, np, hpd⟩ := zRR_pv h
  obtain ⟨R, R', e1, e2, e3⟩ := zRR_refuse (r := -2) (Or.inl rfl) h
  have hnd := hpd.1.1
  unfold fX4_device fX5_device fX5_isDevice jX4_device_22 jX5_device_26
  rw [hpd.2.1, p_isWithin, p_isWithin, zck (j := (8 : Int32)) (n := 46) 8 rfl (by decide) (by decide), show zI sD 1 (8 : Int32).toNatClampNeg = nI nd from hpd.1.2.2.1, q_inm x1 (by omega), show fX5_in x2 0 2 = some (zb (zin x2 3)) from q_in0 x2 (n := 2) (by decide), e1, e2]
  simp only [Option.bind_some, zif_b, zbk_b]
  cases h1 : zin x1 (nI nd) with
  | false => exact ⟨_, _, _, rfl, rfl, e3⟩
  | true =>
    cases h2 : zin x2 3 with
    | false => exact ⟨_, _, _, rfl, rfl, e3⟩
    | true =>
      obtain ⟨i, hi, rfl⟩ := (zin_iff (by omega)).mp h1
      obtain ⟨k, hk, rfl⟩ := (zin_iff (n := 3) (by decide)).mp h2
      rw [if_pos rfl, if_pos rfl, if_pos rfl, if_pos rfl, nI31, nI_add, zchk_nI (show 3 * i + k < 18 by omega) (by decide), nI_clamp (show 3 * i + k < 2 ^ 31 by omega), q_ofDevice (by omega) hk, Option.bind_some, p_dev hpd hi hk, (zdvc_e hpd.1 hi hk).1]
      exact ⟨_, _, _, rfl, rfl, h⟩
theorem zg_pin (hF : 20000000 ≤ F) (h : zRR sX sT sM sL sP sSS sD) : ∃ r sX' sL' sD', fX4_pin F x1 x2 sX sL sP = some (r, sX', sL') ∧ fX5_pin F x1 x2 sD = some (r, sD') ∧ zRR sX' sT sM sL' sP sSS sD' := by
  obtain ⟨nd, np, hpd⟩ := zRR_pv h
  obtain ⟨R, R', e1, e2, e3⟩ := zRR_refuse (r := -2) (Or.inl rfl) h
  have hnp := hpd.1.2.1
  unfold fX4_pin fX5_pin jX4_pin_22 jX5_pin_26
  rw [hpd.2.2.1, p_isWithin, p_isWithin, zck (j := (27 : Int32)) (n := 46) 27 rfl (by decide) (by decide), show zI sD 1 (27 : Int32).toNatClampNeg = nI np from hpd.1.2.2.2.1, q_inm x1 (by omega), show fX5_in x2 0 3 = some (zb (zin x2 4)) from q_in0 x2 (n := 3) (by decide), e1, e2]
  simp only [Option.bind_some, zif_b]
  cases h1 : zin x1 (nI np) with
  | false => exact ⟨_, _, _, _, rfl, rfl, e3⟩
  | true =>
    cases h2 : zin x2 4 with
    | false => exact ⟨_, _, _, _, rfl, rfl, e3⟩
    | true =>
      obtain ⟨i, hi, rfl⟩ := (zin_iff (by omega)).mp h1
      obtain ⟨k, hk, rfl⟩ := (zin_iff (n := 4) (by decide)).mp h2
      obtain ⟨sL', sD', m, N, nG, lab0, lab, labG, nd', np', b1, b2, b3, b4, b5, b6, b7, b8⟩ := zRR_both hF h
      have hpd' : zpd sP (zI sD' 1) nd np := by rw [b7.1]; exact hpd
      rw [if_pos rfl, if_pos rfl, if_pos rfl, if_pos rfl, b2, Option.bind_some]
      by_cases h3 : k = 3
      · subst h3
        rw [if_pos (show nI 3 = (3 : Int32) from rfl), if_pos (show (3 : Int32) ≤ nI 3 by decide), b1, Option.bind_some, p_pinNode (by omega) hpd' b5.1 hi, q_pinNode b4.2.2.2.2.2.2.2.2.2.1 hpd'.1 hi, Option.bind_some, Option.bind_some]
        exact ⟨_, _, _, _, rfl, rfl, b3⟩
      · obtain ⟨sD2, c1, c2, c3, c4⟩ := zRR_lay hF h
        rw [b2] at c1
        cases c1
        rw [if_neg (show ¬ nI k = (3 : Int32) from fun q => h3 ((nI_eq (a := k) (b := 3) (by omega) (by decide)).mp q)), if_neg (show ¬ (3 : Int32) ≤ nI k from zlt_no (n := 3) (by omega) (by decide)), nI31, nI_add, zchk_nI (show 3 * i + k < 18 by omega) (by decide), nI_clamp (show 3 * i + k < 2 ^ 31 by omega), q_ofPin (by omega) (by omega), Option.bind_some, p_tie3 hpd' hi (by omega), (zpnc_e hpd'.1 hi (by omega)).1]
        exact ⟨_, _, _, _, rfl, rfl, c2⟩
theorem zg_hangs (hF : 1000 ≤ F) (h : zRR sX sT sM sL sP sSS sD) : ∃ r sX' sD', fX4_hangs F x1 sX sP = some (r, sX') ∧ fX5_hangs F x1 sD = some (r, sD') ∧ zRR sX' sT sM sL sP sSS sD' := by
  obtain ⟨nd, np, hpd⟩ := zRR_pv h
  obtain ⟨R, R', e1, e2, e3⟩ := zRR_refuse (r := -2) (Or.inl rfl) h
  unfold fX4_hangs fX5_hangs
  rw [p_isWithin, q_isNet, e1, e2]
  simp only [Option.bind_some, zif_b]
  cases h1 : zin x1 10 with
  | false => exact ⟨_, _, _, rfl, rfl, e3⟩
  | true =>
    obtain ⟨n, hn, rfl⟩ := (zin_iff (n := 10) (by decide)).mp h1
    rw [if_pos rfl, if_pos rfl, p_netHang hF hpd (by omega), q_netHangs hF hpd.1 (by omega), Option.bind_some, Option.bind_some]
    exact ⟨_, _, _, rfl, rfl, h⟩
theorem zbyte_all : ∀ k, k < 128 → vp_nar .byte (nI k).toInt8.toInt32 = nI k := by decide +kernel
theorem zg_type (h : zRR sX sT sM sL sP sSS sD) : ∃ r sX' sT' sD', fX4_type x1 sX sT = some (r, sX', sT') ∧ fX5_type x1 sD = some (r, sD') ∧ zRR sX' sT' sM sL sP sSS sD' := by
  obtain ⟨R, R', e1, e2, e3⟩ := zRR_refuse (r := -2) (Or.inl rfl) h
  obtain ⟨S, S', f1, f2, f3⟩ := zRR_refuse (r := -4) (Or.inr (Or.inr rfl)) h
  obtain ⟨n, hn, hT, h19, htx⟩ := id h.1.2.2.2.1
  unfold fX4_type fX5_type fX3_add
  rw [show fX5_in x1 0 127 = some (zb (zin x1 128)) from q_in0 x1 (n := 127) (by decide), Option.bind_some, zif_b, e2, f2]
  cases h1 : zin x1 128 with
  | false =>
    rw [if_neg (show ¬ false = true by decide), Option.bind_some (-2, zsI sD 4 R')]
    have bad : (Option.bind (some ((-2 : Int32), sT)) (fun r_1 : Int32 × zOS => (zlet r_1.1 (fun x2_3 : Int32 => (if 0 ≤ x2_3 then (some (x2_3, sX, r_1.2)) else (Option.bind (fX4_refuse x2_3 sX) (fun r_4 : Int32 × zOS => (some (r_4.1, r_4.2, r_1.2)))))))) ) = some (-2, zsI sX 2 R, sT) := by
      rw [Option.bind_some, zlet_eq, if_neg (show ¬ (0 : Int32) ≤ -2 by decide), e1, Option.bind_some]
    by_cases h0 : x1 < 0
    · rw [if_pos h0, bad]
      exact ⟨_, _, _, _, rfl, rfl, e3⟩
    · rw [if_neg h0, if_neg (fun q => by
        have : zin x1 128 = true := by
          unfold zin
          rw [decide_eq_true (Int32.not_lt.mp h0), show (128 : Int32) = nI (127 + 1) from rfl, ← zle_lt (by decide), decide_eq_true (show x1 ≤ nI 127 from q)]
          rfl
        rw [h1] at this; cases this), bad]
      exact ⟨_, _, _, _, rfl, rfl, e3⟩
  | true =>
    obtain ⟨c, hc, rfl⟩ := (zin_iff (n := 128) (by decide)).mp h1
    rw [if_pos rfl, if_neg (show ¬ nI c < 0 from Int32.not_lt.mpr (nI_pos' (by omega))), if_pos (show nI c ≤ (127 : Int32) from zle_ok (n := c) (i := 127) (by omega) (by decide)), hT, h19]
    by_cases h150 : n = 150
    · subst h150
      rw [if_neg (show ¬ nI 150 < (150 : Int32) by decide), if_pos (show nI 150 = (150 : Int32) from rfl), Option.bind_some, Option.bind_some, zlet_eq, if_neg (show ¬ (0 : Int32) ≤ -4 by decide), f1, Option.bind_some]
      exact ⟨_, _, _, _, rfl, rfl, f3⟩
    · rw [if_pos (show nI n < (150 : Int32) from nI_lt (b := 150) (by omega) (by decide)), if_neg (show ¬ nI n = (150 : Int32) from fun q => h150 ((nI_eq (a := n) (b := 150) (by omega) (by decide)).mp q)), zchk_nI (show n < 150 by omega) (by decide), zchk_nI (show n < 150 by omega) (by decide), zlet_eq, zlet_eq, zlet_eq, zlet_eq, nI_clamp (show n < 2 ^ 31 by omega), zbyte_all c hc, show zF (zsI sT 1 (upd (zI sT 1) n (nI c))) 2 = nI n from hT, show zF (zsI sD 12 (upd (zI sD 12) n (nI c))) 19 = nI n from h19, nI_1, Option.bind_some, zlet_eq, show zF (zsF (zsI sT 1 (upd (zI sT 1) n (nI c))) 2 (nI (n + 1))) 2 = nI (n + 1) from rfl, show zF (zsF (zsI sD 12 (upd (zI sD 12) n (nI c))) 19 (nI (n + 1))) 19 = nI (n + 1) from rfl, if_pos (nI_pos' (show n + 1 < 2 ^ 31 by omega))]
      refine ⟨_, _, _, _, rfl, rfl, zRR_cs h ⟨h.1.1, h.1.2.1, h.1.2.2.1, ⟨n + 1, by omega, rfl, rfl, fun i hi => ?_⟩, h.1.2.2.2.2⟩ (Or.inr ⟨rfl, fun _ _ => rfl, rfl, rfl, rfl, rfl, rfl, rfl, rfl, rfl, rfl⟩)⟩
      show upd (zI sT 1) n (nI c) i = upd (zI sD 12) n (nI c) i ∧ zin (upd (zI sD 12) n (nI c) i) 128 = true
      by_cases ei : i = n
      · rw [ei, zud_s, zud_s]; exact ⟨rfl, h1⟩
      · rw [zud_n _ _ ei, zud_n _ _ ei]; exact htx i (by omega)
theorem zg_clear (h : zRR sX sT sM sL sP sSS sD) : ∃ r sT' sD', fX4_clear sT = some (r, sT') ∧ fX5_clear sD = some (r, sD') ∧ zRR sX sT' sM sL sP sSS sD' := by
  obtain ⟨n, hn, hT, h19, htx⟩ := id h.1.2.2.2.1
  unfold fX4_clear fX5_clear
  rw [zlet_eq, zlet_eq, zlet_eq, zlet_eq, hT, h19]
  exact ⟨_, _, _, rfl, rfl, zRR_cs h ⟨h.1.1, h.1.2.1, h.1.2.2.1, ⟨0, by omega, rfl, rfl, fun i hi => by omega⟩, h.1.2.2.2.2⟩ (Or.inr ⟨rfl, fun _ _ => rfl, rfl, rfl, rfl, rfl, rfl, rfl, rfl, rfl, rfl⟩)⟩
theorem zg_back (hF : 1000 ≤ F) (h : zRR sX sT sM sL sP sSS sD) : ∃ r sX' sP' sD', fX4_back sX sP sSS = some (r, sX', sP') ∧ fX5_back F sD = some (r, sD') ∧ zRR sX' sT sM sL sP' sSS sD' := by
  rcases zbackq (sP := sP) (F := F) hF h.1.2.1 h.1.2.2.1 with ⟨R, R', e1, e2, e3⟩ | ⟨n, sP', a, n5, e1, e2, e3, e4⟩
  · exact ⟨_, _, _, _, e1, e2, zRR_cs h ⟨h.1.1, h.1.2.1, e3, h.1.2.2.2.1, h.1.2.2.2.2⟩ (Or.inr ⟨rfl, fun _ _ => rfl, rfl, rfl, rfl, rfl, rfl, rfl, rfl, rfl, rfl⟩)⟩
  · exact ⟨_, _, _, _, e1, e2, zRR_cs h ⟨e3, ⟨n, by omega, rfl, rfl, e4⟩, h.1.2.2.1, h.1.2.2.2.1, h.1.2.2.2.2⟩ (Or.inl ⟨rfl, rfl⟩)⟩
/-- what is told, on both sides -/
theorem ztold {k : Nat} (hk : k < 5) (h : zRR sX sT sM sL sP sSS sD) : ∃ r, fX4_told (nI k) sX sT = some (r, sX) ∧ fX5_toldOf (nI k) sD = some r := by
  obtain ⟨n, hn, hT, h19, htx⟩ := id h.1.2.2.2.1
  obtain ⟨q, hq, hX, h3, -⟩ := id h.1.2.1
  have hr := h.1.2.2.1
  unfold fX4_told fX5_toldOf
  rcases (show k = 0 ∨ k = 1 ∨ k = 2 ∨ k = 3 ∨ k = 4 by omega) with rfl | rfl | rfl | rfl | rfl
  · rw [if_pos (show nI 0 = (0 : Int32) from rfl), zck (j := (0 : Int32)) (n := 3) 0 rfl (by decide) (by decide), if_neg (show ¬ (3 : Int32) ≤ nI 0 by decide), zchk_nI (show 0 < 3 by decide) (by decide)]
    exact ⟨_, rfl, by rw [show (nI 0).toNatClampNeg = 0 from rfl, ← hr 0 (by decide)]; rfl⟩
  · rw [if_neg (show ¬ nI 1 = (0 : Int32) by decide), if_pos (show nI 1 = (1 : Int32) from rfl), zck (j := (1 : Int32)) (n := 3) 1 rfl (by decide) (by decide), if_neg (show ¬ (3 : Int32) ≤ nI 1 by decide), zchk_nI (show 1 < 3 by decide) (by decide)]
    exact ⟨_, rfl, by rw [show (nI 1).toNatClampNeg = 1 from rfl, ← hr 1 (by decide)]; rfl⟩
  · rw [if_neg (show ¬ nI 2 = (0 : Int32) by decide), if_neg (show ¬ nI 2 = (1 : Int32) by decide), if_pos (show nI 2 = (2 : Int32) from rfl), zck (j := (2 : Int32)) (n := 3) 2 rfl (by decide) (by decide), if_neg (show ¬ (3 : Int32) ≤ nI 2 by decide), zchk_nI (show 2 < 3 by decide) (by decide)]
    exact ⟨_, rfl, by rw [show (nI 2).toNatClampNeg = 2 from rfl, ← hr 2 (by decide)]; rfl⟩
  · rw [if_neg (show ¬ nI 3 = (0 : Int32) by decide), if_neg (show ¬ nI 3 = (1 : Int32) by decide), if_neg (show ¬ nI 3 = (2 : Int32) by decide), if_pos (show nI 3 = (3 : Int32) from rfl), if_pos (show (3 : Int32) ≤ nI 3 by decide), if_pos (show nI 3 = (3 : Int32) from rfl), hT, h19]
    exact ⟨_, rfl, rfl⟩
  · rw [if_neg (show ¬ nI 4 = (0 : Int32) by decide), if_neg (show ¬ nI 4 = (1 : Int32) by decide), if_neg (show ¬ nI 4 = (2 : Int32) by decide), if_neg (show ¬ nI 4 = (3 : Int32) by decide), if_pos (show nI 4 = (4 : Int32) from rfl), if_pos (show (3 : Int32) ≤ nI 4 by decide), if_neg (show ¬ nI 4 = (3 : Int32) by decide), hX, h3]
    exact ⟨_, rfl, rfl⟩
theorem zg_told (h : zRR sX sT sM sL sP sSS sD) : ∃ r sX' sD', fX4_told x1 sX sT = some (r, sX') ∧ fX5_told x1 sD = some (r, sD') ∧ zRR sX' sT sM sL sP sSS sD' := by
  cases h1 : zin x1 5 with
  | true =>
    obtain ⟨k, hk, rfl⟩ := (zin_iff (n := 5) (by decide)).mp h1
    obtain ⟨r, e1, e2⟩ := ztold hk h
    refine ⟨r, sX, sD, e1, ?_, h⟩
    unfold fX5_told
    rw [show fX5_in (nI k) 0 4 = some (zb (zin (nI k) 5)) from q_in0 _ (n := 4) (by decide), h1, Option.bind_some, if_neg (by decide), e2, Option.bind_some]
  | false =>
    obtain ⟨R, R', e1, e2, e3⟩ := zRR_refuse (r := -2) (Or.inl rfl) h
    refine ⟨-2, _, _, ?_, ?_, e3⟩
    · have hne : ∀ k, k < 5 → ¬ x1 = nI k := fun k hk q => by
        rw [show zin x1 5 = true from (zin_iff (n := 5) (by decide)).mpr ⟨k, hk, q⟩] at h1; cases h1
      unfold fX4_told
      rw [if_neg (show ¬ x1 = 0 from hne 0 (by decide)), if_neg (show ¬ x1 = 1 from hne 1 (by decide)), if_neg (show ¬ x1 = 2 from hne 2 (by decide)), if_neg (show ¬ x1 = 3 from hne 3 (by decide)), if_neg (show ¬ x1 = 4 from hne 4 (by decide)), e1, Option.bind_some]
    · unfold fX5_told
      rw [show fX5_in x1 0 4 = some (zb (zin x1 5)) from q_in0 _ (n := 4) (by decide), h1, Option.bind_some, if_pos (by decide), e2, Option.bind_some]
end ZX
