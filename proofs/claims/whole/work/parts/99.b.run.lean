/-! PURE: the class's search finds what the reference finds -/
theorem zsub0 {a b : Nat} (ha : a < 2 ^ 31) (hb : b < 2 ^ 31) : nI a - nI b = 0 ↔ a = b := by
  constructor
  · intro h
    have h2 : nI a - nI b + nI b = 0 + nI b := by rw [h]
    rw [Int32.sub_add_cancel, Int32.zero_add] at h2
    exact (nI_eq ha hb).mp h2
  · rintro rfl
    rw [Int32.sub_self]
theorem zU0 {nd W n : Nat} (h1 : nd ≤ 100) (h2 : W ≤ 100) (h3 : n ≤ 100) : nI nd + nI W - 2 * nI n = 0 ↔ nd + W = 2 * n := by
  rw [nI_add, show (2 : Int32) * nI n = nI (2 * n) from pk_mul 2 n]
  exact zsub0 (by omega) (by omega)
/-- what the class remembers of its search is right -/
def zmkr (sM s : zOS) (lab : Nat → Option Nat) (nd np nG : Nat) : Prop := zF sM 8 = nI (min (zMs s lab nd np nG).length 9999) ∧ (∃ u n, zF sM 9 = nI nd + nI (zcount (zqw s) nG) - 2 * nI n ∧ zgrd (zLk s nd nG) nG nd u n) ∧ (¬ zMs s lab nd np nG = [] → zmin (zdvc (zI s 1)) (zVs s) (zSi lab (zI s 1) np) nd (zMs s lab nd np nG) (zBf sM nd))
theorem zMs_mem {s : zOS} {lab : Nat → Option Nat} {nd np nG : Nat} (h : ¬ zMs s lab nd np nG = []) : (nG = nd ∧ (∀ j, j < nG → zqw s j = true) ∧ zcon (zSi lab (zI s 1) np)) ∧ ∃ gs ts, zpx nG (zdvc (zI s 1)) (zVs s) (zSi lab (zI s 1) np) gs ts ∧ gs.length = nd := by
  rcases Classical.em (nG = nd ∧ (∀ j, j < nG → zqw s j = true) ∧ zcon (zSi lab (zI s 1) np)) with hc | hc
  · refine ⟨hc, ?_⟩
    have e : zMs s lab nd np nG = zLR nG (zdvc (zI s 1)) (zVs s) (zSi lab (zI s 1) np) nd [] [] := if_pos hc
    rw [e] at h
    obtain ⟨x, hx⟩ := List.exists_mem_of_ne_nil _ h
    have h1 : zpx nG (zdvc (zI s 1)) (zVs s) (zSi lab (zI s 1) np) [] [] := ⟨rfl, fun g hg => (by cases hg), List.Pairwise.nil, fun i g t q => (by cases q), by rw [zSt_nil, zSg_nil]; exact hc.2.2⟩
    obtain ⟨a, b, ha, hb, -, hz⟩ := (zLR_mem nG _ _ _ nd [] [] h1 x).mp hx
    exact ⟨a, b, hz, ha⟩
  · exact absurd (show zMs s lab nd np nG = [] from if_neg hc) h
section ZR2
variable {sM sP sL s : zOS} {m0 N nG nd np F : Nat} {lab0 lab labG : Nat → Option Nat}
theorem zfull {u : Nat → Bool} {n : Nat} (h : zgrd (zLk s nd nG) nG nd u n) (hM : ¬ zMs s lab nd np nG = []) : n = nd := by
  obtain ⟨⟨e1, e2, e3⟩, gs, ts, hz, hl⟩ := zMs_mem hM
  subst e1
  have hg : ∀ i, i < nG → ∃ g, gs[i]? = some g ∧ gs.getD i 0 = g := fun i hi => by
    obtain ⟨g, hg⟩ := zgsome (l := gs) (i := i) (by omega)
    exact ⟨g, hg, by rw [List.getD_eq_getElem?_getD, hg]; rfl⟩
  refine (zgrd_full (D := nG) zLk_rect (fun i => gs.getD i 0) (fun i hi => ?_) (fun i j hi hj he => ?_) (Nat.le_refl _) h).1
  · obtain ⟨g, g1, g2⟩ := hg i hi
    show gs.getD i 0 < nG ∧ zLk s nG nG i (gs.getD i 0)
    rw [g2]
    have hgG := hz.2.1 g (List.mem_of_getElem? g1)
    exact ⟨hgG, e2 g hgG, zlike e2 hz hl g1⟩
  · obtain ⟨g, g1, g2⟩ := hg i hi
    obtain ⟨k, k1, k2⟩ := hg j hj
    have he : gs.getD i 0 = gs.getD j 0 := he
    rw [g2, k2] at he
    subst he
    exact (List.getElem?_inj (by omega) hz.2.2.1).mp (g1.trans k1.symm)
theorem p_run (hF : 1000 ≤ F) (h : zpd sP (zI s 1) nd np) (hc : zcc sL s m0 N nG lab labG) (hq : zqlay s m0 N nG lab0 lab labG) : ∃ sM', fX1_run F sM sP sL = some (sM', sP, sL) ∧ zmkr sM' s lab nd np nG := by
  have hnd := h.1.1
  have hnG := hc.2.2.1
  have hqa := hq.2.2.2.2.2.2.2.2.2.1
  have hcl := zcount_le (p := zqw s) (n := nG)
  unfold fX1_run
  rw [zlet_eq, zlet_eq]
  obtain ⟨lk, l1, l2⟩ := p_findLikes (sM := zsF (zsF sM 8 0) 5 0) (F := F) (lab0 := lab0) hF h hc hq
  rw [l1, Option.bind_some]
  obtain ⟨u, n, c1, c2⟩ := p_countLeftOver (sM := zsI (zsF (zsF sM 8 0) 5 0) 1 lk) (F := F) hF h hc (fun d hd g => by rw [zI_e]; exact l2 d hd g)
  have hn := zgrd_le c2
  rw [c1, Option.bind_some, zlet_eq]
  generalize hσ : zsF (zsI (zsF (zsF sM 8 0) 5 0) 1 lk) 9 (nI nd + nI (zcount (zqw s) nG) - 2 * nI n) = σ
  have f9 : zF σ 9 = nI nd + nI (zcount (zqw s) nG) - 2 * nI n := by rw [← hσ]; rfl
  have f8 : zF σ 8 = nI 0 := by rw [← hσ]; rfl
  have f5 : zF σ 5 = 0 := by rw [← hσ]; rfl
  have i1 : zI σ 1 = lk := by rw [← hσ]; show zI (zsI (zsF (zsF sM 8 0) 5 0) 1 lk) 1 = lk; exact zI_e
  have none : ∀ σ', zF σ' 8 = nI 0 → zF σ' 9 = zF σ 9 → zMs s lab nd np nG = [] → zmkr σ' s lab nd np nG := fun σ' h1 h2 h3 => ⟨by rw [h1, h3]; rfl, ⟨u, n, h2.trans f9, c2⟩, fun q => absurd h3 q⟩
  rw [f9]
  by_cases hU : nd + zcount (zqw s) nG = 2 * n
  · rw [if_pos ((zU0 (by omega) (by omega) (by omega)).mpr hU), hc.2.2.2.2.2.2.1]
    have hcn := zcount_not (p := zqw s) nG
    by_cases hb0 : zcount (fun j => !zqw s j) nG = 0
    · rw [if_pos (show nI (zcount (fun j => !zqw s j) nG) = 0 by rw [hb0]; rfl)]
      have hall : ∀ j, j < nG → zqw s j = true := zcount_all.mp (by omega)
      rw [zck (j := (0 : Int32)) (n := 13) 0 rfl (by decide) (by decide), show zbs 1 + (0 : Int32).toNatClampNeg = 6 from rfl]
      obtain ⟨T, t1, t2⟩ := p_fill (s := σ) (n := 10) (k := 6) (x := -1) (F := F) hF (by decide)
      rw [t1, Option.bind_some, zck (j := (0 : Int32)) (n := 13) 0 rfl (by decide) (by decide)]
      obtain ⟨b, T1, b1, b2, b3⟩ := p_tiePins (sM := σ) (sP := sP) (sL := sL) (F := F) (T := T) hF h hc.1 hqa.2.2.1 t2
      rw [b1, Option.bind_some, zif_b]
      cases b with
      | false =>
        rw [if_neg (by decide)]
        exact ⟨_, rfl, none _ f8 rfl (if_neg (fun q => absurd (b2.mpr q.2.2) (by decide)))⟩
      | true =>
        have hcon := b2.mp rfl
        have hT1 := b3 rfl
        rw [if_pos rfl]
        have hw0 := zSi_wf h.1 hqa.2.2.1 (Nat.le_refl np)
        have hgx : zgx nG (zdvc (zI s 1)) (zVs s) (zSi lab (zI s 1) np) (zLk s nd nG) [] := ⟨fun g hg => (by cases hg), List.Pairwise.nil, fun i g q => (by cases q), by rw [zSg_nil]; exact hcon⟩
        obtain ⟨sM', p1, p2, p3⟩ := p_place (F := F) (lab0 := lab0) (S0 := zSi lab (zI s 1) np) hF h hc hq hw0 nd 8 [] (zsI σ 6 T1) [] (by simp) (by omega) hgx (fun k g q => (by cases q)) (by rw [zSg_nil, List.length_nil, zI_e]; exact hT1) (fun j => by
          rw [show zF (zsI σ 6 T1) 5 = 0 from f5, zu_0]
          exact ⟨fun q => (by cases q), fun q => (by cases q)⟩) (fun d hd g => by
          rw [zI_o (by decide), i1]
          exact l2 d hd g) ⟨f8, fun q => absurd rfl q, fun x hx => (by cases hx)⟩ (fun y hy => (by cases hy))
        rw [show (0 : Int32) = nI ([] : List Nat).length from rfl, p1, Option.bind_some]
        rw [List.nil_append] at p2
        by_cases eG : nG = nd
        · have eM : zMs s lab nd np nG = zLR nG (zdvc (zI s 1)) (zVs s) (zSi lab (zI s 1) np) nd [] [] := if_pos ⟨eG, hall, hcon⟩
          have hsame := zsame nG (zdvc (zI s 1)) (zVs s) (zSi lab (zI s 1) np) (zLk s nd nG) (D := nd) hcon (fun gs ts hz hl i g hg => ⟨hall g (hz.2.1 g (List.mem_of_getElem? hg)), by
            have := zlike (wl := zqw s) hall hz (by omega) hg
            rw [← eG]; exact this⟩)
          have h1 : zpx nG (zdvc (zI s 1)) (zVs s) (zSi lab (zI s 1) np) [] [] := ⟨rfl, fun g hg => (by cases hg), List.Pairwise.nil, fun i g t q => (by cases q), by rw [zSt_nil, zSg_nil]; exact hcon⟩
          have hlen := zsame_len (zLC_nodup nG _ _ _ _ (D := nd) (m := nd) hgx) (zLR_nodup nG _ _ _ nd [] [] h1) hsame
          refine ⟨sM', rfl, ?_, ⟨u, n, p3.2.2.2.2.trans f9, c2⟩, fun hne => ?_⟩
          · rw [p2.1, eM, hlen]
          · rw [eM] at hne ⊢
            refine zmin_m _ _ _ (p2.2.1 (fun q => hne ?_)) hsame
            apply List.eq_nil_iff_forall_not_mem.mpr
            intro x hx
            have := (hsame x).mpr hx
            rw [q] at this; cases this
        · have eM : zMs s lab nd np nG = [] := if_neg (fun q => eG q.1)
          have eC : zLC nG (zdvc (zI s 1)) (zVs s) (zSi lab (zI s 1) np) (zLk s nd nG) nd nd [] = [] := by
            apply List.eq_nil_iff_forall_not_mem.mpr
            intro x hx
            obtain ⟨a, a1, a2, a3, -⟩ := (zLC_mem nG _ _ _ _ hgx x).mp hx
            have a3 : zgx nG (zdvc (zI s 1)) (zVs s) (zSi lab (zI s 1) np) (zLk s nd nG) a := a3
            have hle : a.length ≤ (List.range nG).length := List.Nodup.length_le_of_subset a3.2.1 (fun y hy => List.mem_range.mpr (a3.1 y hy))
            rw [List.length_range] at hle
            have := zcount_all.mpr hall
            omega
          rw [eC] at p2
          exact ⟨sM', rfl, none sM' p2.1 p3.2.2.2.2 eM⟩
    · rw [if_neg (show ¬ nI (zcount (fun j => !zqw s j) nG) = 0 from fun q => hb0 ((nI_eq (b := 0) (by omega) (by omega)).mp q))]
      refine ⟨σ, rfl, none σ f8 rfl (Classical.byContradiction fun hM => ?_)⟩
      have := zcount_all.mpr (zMs_mem hM).1.2.1
      omega
  · rw [if_neg (fun q => hU ((zU0 (by omega) (by omega) (by omega)).mp q))]
    refine ⟨σ, rfl, none σ f8 rfl (Classical.byContradiction fun hM => ?_)⟩
    have e1 := zfull c2 hM
    have e2 := zcount_all.mpr (zMs_mem hM).1.2.1
    have e3 := (zMs_mem hM).1.1
    omega
end ZR2
