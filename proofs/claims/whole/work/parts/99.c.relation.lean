/-! PURE: the relation between class and reference; searching and reading keep it -/
theorem zqok_sim {s s' : zOS} (h : zsim s s') (hq : zqok s) : zqok s' := by
  obtain ⟨h1, h5, h6, h8, h9, f5, f7, f8, f10, f14⟩ := h
  obtain ⟨m, N, nG, lab0, lab, labG, nd, np, ⟨y1, y2, y3, y4, y5, y6, y7, y8, y9, y10, y11⟩, v, w1, w2, w3⟩ := hq
  have eb : ∀ l, l < 4 → ∀ i, i < 64 → zmb (zI s' 1) l i = zmb (zI s 1) l i := fun l hl i hi => by
    unfold zmb
    rw [h1 _ (by omega)]
  have ew : zwr (zmb (zI s' 1)) = zwr (zmb (zI s 1)) := funext fun p => by
    unfold zwr
    by_cases g1 : p < 64
    · rw [if_pos g1, if_pos g1, eb 0 (by decide) p g1, eb 1 (by decide) p g1]
    · rw [if_neg g1, if_neg g1]
      by_cases g2 : p < 128
      · rw [if_pos g2, if_pos g2, eb 1 (by decide) _ (by omega)]
      · rw [if_neg g2, if_neg g2]
        by_cases g3 : p < 192
        · rw [if_pos g3, if_pos g3, eb 2 (by decide) _ (by omega)]
        · rw [if_neg g3, if_neg g3]
  have ea : ∀ jn, zadj (zmb (zI s' 1)) jn = zadj (zmb (zI s 1)) jn := fun jn => funext fun p => funext fun q => by
    unfold zadj
    rw [eb 3 (by decide) _ (show p % 64 < 64 by omega), eb 2 (by decide) _ (show p % 64 < 64 by omega)]
  have eg : zgc (zmb (zI s' 1)) = zgc (zmb (zI s 1)) := funext fun c => by
    by_cases g1 : c < 64
    · rw [zgc_eq g1, zgc_eq g1, eb 0 (by decide) c g1, eb 1 (by decide) c g1]
    · unfold zgc; rw [decide_eq_false g1, Bool.false_and, Bool.false_and]
  have e1 : zdvc (zI s' 1) = zdvc (zI s 1) := funext fun i => funext fun k => by
    unfold zdvc
    by_cases g : 9 + 3 * i + k < 46
    · rw [if_pos g, if_pos g, h1 _ g]
    · rw [if_neg g, if_neg g]
  have e1' : zpnc (zI s' 1) = zpnc (zI s 1) := funext fun i => funext fun k => by
    unfold zpnc
    by_cases g : 28 + 3 * i + k < 46
    · rw [if_pos g, if_pos g, h1 _ g]
    · rw [if_neg g, if_neg g]
  have e2 : zVs s' = zVs s := funext fun i => funext fun k => by unfold zVs; rw [h8]
  have e3 : zqw s' = zqw s := funext fun j => by unfold zqw; rw [h8]
  have e4 : zSi lab (zI s' 1) np = zSi lab (zI s 1) np := by unfold zSi zpnd; rw [e1']
  have e5 : zMs s' lab nd np nG = zMs s lab nd np nG := by unfold zMs; rw [e1, e2, e3, e4]
  refine ⟨m, N, nG, lab0, lab, labG, nd, np, ⟨?_, ?_, ?_, by rw [f8]; exact y4, y5, by rw [f7]; exact y6, y7, by rw [f10]; exact y8, y9, ?_, fun j hj => ?_⟩, ?_, ?_, ?_, ?_⟩
  · rw [ew, ea]; exact y1
  · rw [ew, ea]; exact y2
  · rw [eg]; exact y3
  · exact ⟨fun p hp => by rw [h5]; exact y10.1 p hp, fun c hc => by rw [h6]; exact y10.2.1 c hc, y10.2.2⟩
  · rw [h8]; exact y11 j hj
  · obtain ⟨v1, v2, v3, v4, v5, v6⟩ := v
    exact ⟨v1, v2, by rw [h1 8 (by omega)]; exact v3, by rw [h1 27 (by omega)]; exact v4, fun i hi => by rw [h1 _ (by omega)]; exact v5 i hi, fun i hi => by rw [h1 _ (by omega)]; exact v6 i hi⟩
  · rw [f14, e5]; exact w1
  · rw [e5]; exact w2
  · rw [e5, e1, e2, e4, h9]; exact w3
/-- what the class remembers is right for the plan a -/
def zmok (sM : zOS) (a : Nat → Int32) : Prop := ∀ (s : zOS) (m N nG : Nat) (lab0 lab labG : Nat → Option Nat) (nd np : Nat), zqlay s m N nG lab0 lab labG → zpv (zI s 1) nd np → (∀ k, k < 46 → zI s 1 k = a k) → zmkr sM s lab nd np nG
theorem zmok_c {sM : zOS} {a a' : Nat → Int32} (h : zmok sM a) (he : ∀ k, k < 46 → a' k = a k) : zmok sM a' := fun s m N nG lab0 lab labG nd np h1 h2 h3 => h s m N nG lab0 lab labG nd np h1 h2 (fun k hk => (h3 k hk).trans (he k hk))
def zRR (sX sT sM sL sP : zOS) (sSS : zSS) (sD : zOS) : Prop := zRc sX sT sL sP sSS sD ∧ (zF sX 8 = 0 ∨ zmok sM (zI sD 1)) ∧ (zF sD 5 = 0 ∨ zqok sD)
theorem zRR_cs {sX sX' sT sT' sM sL sP sP' : zOS} {sSS S' : zSS} {sD sD' : zOS} (h : zRR sX sT sM sL sP sSS sD) (hc : zRc sX' sT' sL sP' S' sD') (hs : zcs sX sX' sD sD') : zRR sX' sT' sM sL sP' S' sD' := by
  obtain ⟨-, h2, h3⟩ := h
  rcases hs with ⟨k1, k2⟩ | ⟨k1, k2⟩
  · exact ⟨hc, Or.inl k1, Or.inl k2⟩
  · refine ⟨hc, ?_, ?_⟩
    · rcases h2 with q | q
      · exact Or.inl (k1.trans q)
      · exact Or.inr (zmok_c q k2.1)
    · rcases h3 with q | q
      · exact Or.inl (k2.2.2.2.2.2.1.trans q)
      · exact Or.inr (zqok_sim k2 q)
section ZV
variable {sX sT sM sL sP : zOS} {sSS : zSS} {sD : zOS} {F : Nat}
theorem zRR_refuse {r : Int32} (hr : r = -2 ∨ r = -3 ∨ r = -4) (h : zRR sX sT sM sL sP sSS sD) : ∃ R R', fX4_refuse r sX = some (r, zsI sX 2 R) ∧ fX5_refuses r sD = some (r, zsI sD 4 R') ∧ zRR (zsI sX 2 R) sT sM sL sP sSS (zsI sD 4 R') := by
  obtain ⟨R, R', e1, e2, e3⟩ := zrefused hr h.1.2.2.1
  refine ⟨R, R', e1, e2, zRR_cs h ⟨h.1.1, h.1.2.1, e3, h.1.2.2.2.1, h.1.2.2.2.2⟩ (Or.inr ⟨rfl, fun _ _ => rfl, rfl, rfl, rfl, rfl, rfl, rfl, rfl, rfl, rfl⟩)⟩
theorem zRR_pv (h : zRR sX sT sM sL sP sSS sD) : ∃ nd np, zpd sP (zI sD 1) nd np := by
  obtain ⟨nd, np, h1, h2⟩ := zpl_pv h.1.1
  exact ⟨nd, np, h1, h2⟩
theorem zRR_lay (hF : 20000000 ≤ F) (h : zRR sX sT sM sL sP sSS sD) : ∃ sD', fX5_lay F sD = some sD' ∧ zRR sX sT sM sL sP sSS sD' ∧ zqok sD' ∧ zqfl sD sD' := by
  obtain ⟨nd, np, hp⟩ := zRR_pv h
  obtain ⟨sD', e1, e2, e3, e4⟩ := q_lay hF hp.1 h.2.2
  obtain ⟨g1, g3, g4, g12, k3, k19, kH⟩ := id e3
  refine ⟨sD', e1, ⟨⟨by rw [g1]; exact h.1.1, ?_, ?_, ?_, h.1.2.2.2.2⟩, by rw [g1]; exact h.2.1, Or.inr e2⟩, e2, e3⟩
  · obtain ⟨n, n1, n2, n3, n4⟩ := h.1.2.1
    exact ⟨n, n1, n2, k3.trans n3, fun i hi => by rw [g3]; exact n4 i hi⟩
  · intro k hk
    rw [g4]; exact h.1.2.2.1 k hk
  · obtain ⟨n, n1, n2, n3, n4⟩ := h.1.2.2.2.1
    exact ⟨n, n1, n2, k19.trans n3, fun i hi => by rw [g12]; exact n4 i hi⟩
theorem zRR_read (hF : 1000 ≤ F) (h : zRR sX sT sM sL sP sSS sD) : ∃ sL', fX4_readLayout F sL sP = some sL' ∧ zRR sX sT sM sL' sP sSS sD ∧ (∀ l, l < 4 → zL sL' 1 l = zL sP 1 l) ∧ zlok sL' := by
  obtain ⟨sL', e1, e2, e3⟩ := p_refresh (sP := sP) hF h.1.2.2.2.2
  refine ⟨sL', ?_, ⟨⟨h.1.1, h.1.2.1, h.1.2.2.1, h.1.2.2.2.1, e2⟩, h.2⟩, e3, e2⟩
  unfold fX4_readLayout
  rw [e1, Option.bind_some]
theorem zRR_search (hF : 20000000 ≤ F) (h : zRR sX sT sM sL sP sSS sD) : ∃ sX' sM' sL', fX4_search F sX sM sP sL = some (sX', sM', sP, sL') ∧ zRR sX' sT sM' sL' sP sSS sD ∧ zmok sM' (zI sD 1) := by
  unfold fX4_search
  by_cases h8 : zF sX 8 = 0
  · rw [if_pos h8]
    obtain ⟨sL', e1, e2, e3⟩ := p_refresh (sP := sP) (F := F) (by omega) h.1.2.2.2.2
    rw [e1, Option.bind_some]
    have run : ∀ (s : zOS) (m N nG : Nat) (lab0 lab labG : Nat → Option Nat) (nd np : Nat), zqlay s m N nG lab0 lab labG → zpv (zI s 1) nd np → (∀ k, k < 46 → zI s 1 k = zI sD 1 k) → ∃ sM', fX1_run F sM sP sL' = some (sM', sP, sL') ∧ zmkr sM' s lab nd np nG := fun s m N nG lab0 lab labG nd np h1 h2 h3 => by
      have hp : zpl sP (zI s 1) := zpl_congr (fun k hk => (h3 k hk).symm) h.1.1
      obtain ⟨nd', np', hpd⟩ := zpl_pv hp
      have hnd : nd' = nd := by
        have := hpd.1.2.2.1.symm.trans h2.2.2.1
        have a1 := hpd.1.1
        have a2 := h2.1
        exact (nI_eq (by omega) (by omega)).mp this
      have hnp : np' = np := by
        have := hpd.1.2.2.2.1.symm.trans h2.2.2.2.1
        have a1 := hpd.1.2.1
        have a2 := h2.2.1
        exact (nI_eq (by omega) (by omega)).mp this
      subst hnd hnp
      exact p_run (by omega) hpd (zcc_of e2 e3 hp h1) h1
    obtain ⟨m, N, nG, lab0, lab, labG, s1, s2, s3, s4, -, -, -, -, hq, hf, -⟩ := q_read (s := sD) (F := F) (by omega)
    have g1 : zI s4 1 = zI sD 1 := hf.1 1 (by decide) (by decide) (by decide) (by decide)
    obtain ⟨nd, np, hpd⟩ := zRR_pv h
    obtain ⟨sM', r1, r2⟩ := run s4 m N nG lab0 lab labG nd np hq (by rw [g1]; exact hpd.1) (fun k _ => by rw [g1])
    rw [r1, Option.bind_some, zlet_eq]
    have hmk : zmok sM' (zI sD 1) := fun s m N nG lab0 lab labG nd np h1 h2 h3 => by
      obtain ⟨sM2, k1, k2⟩ := run s m N nG lab0 lab labG nd np h1 h2 h3
      rw [r1] at k1
      obtain ⟨rfl, -⟩ := Prod.mk.inj (Option.some.inj k1)
      exact k2
    exact ⟨zsF sX 8 1, sM', sL', rfl, ⟨⟨h.1.1, h.1.2.1, h.1.2.2.1, h.1.2.2.2.1, e2⟩, Or.inr hmk, h.2.2⟩, hmk⟩
  · rw [if_neg h8]
    rcases h.2.1 with q | q
    · exact absurd q h8
    · exact ⟨sX, sM, sL, rfl, h, q⟩
end ZV
