/-! PURE: the class's Layout tells its layers -/
def zlay (s : zOS) (m N nG : Nat) (lab0 lab labG : Nat → Option Nat) : Prop :=
  zlab 192 (zwr (zlb s)) (zadj (zlb s) false) lab0 m ∧ zlab 192 (zwr (zlb s)) (zadj (zlb s) true) lab N ∧ zlab 64 (zgc (zlb s)) zga labG nG ∧ zF s 12 = nI m ∧ m ≤ 96 ∧ zcw s N lab ∧ zF s 14 = nI nG ∧ nG ≤ 32 ∧
  (∀ j, j < nG → (∀ c, zt (zL s 8 j) c = true ↔ c < 64 ∧ labG c = some j) ∧ zgd lab labG N j (zcv s j)) ∧ zF s 15 = nI (zcount (fun j => !zwb (zscan (zsdb lab labG j) N).1) nG) ∧
  ∀ v, v < N → zI s 7 v = nI (zhw (zcv s) (fun j => zwb (zscan (zsdb lab labG j) N).1) (nI v) nG)
def zlok (s : zOS) : Prop := ∃ m N nG lab0 lab labG, zlay s m N nG lab0 lab labG
theorem p_isAsRead {s sP : zOS} {F : Nat} (hF : 1000 ≤ F) : ∃ b : Bool, fX0_isAsRead F s sP = some (zb b) ∧ (b = true → ∀ l, l < 4 → zL s 1 l = zL sP 1 l) := by
  unfold fX0_isAsRead
  refine zit_wf (fun p => ∃ l, p = nI l ∧ l ≤ 4 ∧ ∀ l', l' < l → zL s 1 l' = zL sP 1 l') (fun p => 5 - p.toNatClampNeg) (fun o => ∃ b : Bool, o = some (zb b) ∧ (b = true → ∀ l, l < 4 → zL s 1 l = zL sP 1 l)) ?_ F 0 ⟨0, rfl, by omega, fun l hl => by omega⟩ (by show 5 - _ < F; omega)
  rintro kc x ⟨l, rfl, hl, h⟩
  show (∃ p', _ ∧ _ ∧ bX0_isAsRead_2 F s sP kc (nI l) = kc p') ∨ (∃ b : Bool, bX0_isAsRead_2 F s sP kc (nI l) = some (zb b) ∧ _)
  unfold bX0_isAsRead_2
  rw [show (4 : Int32) = nI 4 from rfl]
  by_cases h4 : l = 4
  · right
    subst h4
    rw [if_pos (show nI 4 ≤ nI 4 by rw [zle_nI (by decide) (by decide)]; omega)]
    exact ⟨true, rfl, fun _ => h⟩
  · have hl' : l < 4 := by omega
    rw [if_neg (show ¬ nI 4 ≤ nI l by rw [zle_nI (by decide) (by omega)]; omega), zchk_nI hl' (by decide), zchk_nI hl' (by decide), nI_clamp (show l < 2 ^ 31 by omega)]
    by_cases e : zL s 1 l = zL sP 1 l
    · left
      rw [if_pos ((zc_eq0 _ _).mpr e), nI_1]
      refine ⟨nI (l + 1), ⟨l + 1, rfl, by omega, fun l' hl1 => ?_⟩, by show 5 - (nI (l + 1)).toNatClampNeg < _; rw [nI_clamp (by omega)]; omega, rfl⟩
      by_cases e2 : l' = l
      · rw [e2]; exact e
      · exact h l' (by omega)
    · right
      rw [if_neg (fun q => e ((zc_eq0 _ _).mp q))]
      exact ⟨false, rfl, fun q => by cases q⟩
theorem p_read {s : zOS} {F : Nat} (hF : 1000 ≤ F) : ∃ s1 s2 s3 s4 s5, fX0_findPieces F s = some s1 ∧ fX0_joinPieces F s1 = some s2 ∧ fX0_numberNodes F s2 = some s3 ∧ fX0_findGates F s3 = some s4 ∧ fX0_weighNodes F s4 = some s5 ∧ zlok s5 ∧ zL s5 1 = zL s 1 := by
  obtain ⟨s1, s2, s3, m, N, lab0, lab, e1, e2, e3, l0, l1, f12, f13, hm, hN, hL, hW⟩ := p_nodes (s := s) hF
  have hb : zlb s3 = zlb s := by unfold zlb; rw [hL]
  have hcw : zcw s3 N lab := ⟨f13, hN, hW, fun p v hp hv => by
    cases ew : zwr (zlb s) p with
    | false => rw [l1.1 p hp ew] at hv; cases hv
    | true =>
      obtain ⟨k, hk, hk2⟩ := l1.2.1 p hp ew
      rw [hv] at hk2
      have := Option.some.inj hk2
      omega⟩
  obtain ⟨labG, n, C, Nd, A, B, Sd, e4, lG, hn, hg⟩ := p_findGates (s := s3) hF hcw (by rw [hb]; exact l1)
  have hcw4 : zcw (zcg s3 C Nd A B Sd (nI n) (nI (zbkn lab N C n))) N lab := zcw_cg hcw
  have kle : ∀ j, (zscan (zsdb lab labG j) N).1 ≤ 96 := fun j => by have := zscan_le (zsdb lab labG j) N; omega
  obtain ⟨H, e5, hH⟩ := p_weighNodes (s := zcg s3 C Nd A B Sd (nI n) (nI (zbkn lab N C n))) (n := n) (kk := fun j => (zscan (zsdb lab labG j) N).1) hF hcw4.1 hN rfl hn (fun j hj => by
    obtain ⟨g1, g2⟩ := hg j hj
    have g3 := g2.2.2.2
    rw [zsdb_congr g1] at g3
    exact ⟨g3, by have := kle j; omega⟩)
  refine ⟨s1, s2, s3, _, _, e1, e2, e3, e4, e5, ⟨m, N, n, lab0, lab, labG, ?_⟩, hL⟩
  have hb5 : zlb (zsI (zcg s3 C Nd A B Sd (nI n) (nI (zbkn lab N C n))) 7 H) = zlb s := hb
  rw [hb] at lG
  unfold zlay
  rw [hb5]
  refine ⟨l0, l1, lG, f12, hm, hcw4, rfl, hn, fun j hj => ?_, ?_, hH⟩
  · obtain ⟨g1, g2⟩ := hg j hj
    exact ⟨g1, zgd_cv (s := zsI (zcg s3 C Nd A B Sd (nI n) (nI (zbkn lab N C n))) 7 H) g1 g2⟩
  · show nI (zbkn lab N C n) = _
    unfold zbkn
    rw [zcount_congr (p := fun j => !zwb (zscan (zsdb lab (zgm (C j) j) j) N).1) (q := fun j => !zwb (zscan (zsdb lab labG j) N).1) (fun i hi => by
      show (!zwb (zscan (zsdb lab (zgm (C i) i) i) N).1) = _
      rw [zsdb_congr (hg i hi).1])]
theorem p_refresh {s sP : zOS} {F : Nat} (hF : 1000 ≤ F) (h : zlok s) : ∃ s', fX0_refresh F s sP = some s' ∧ zlok s' ∧ ∀ l, l < 4 → zL s' 1 l = zL sP 1 l := by
  unfold fX0_refresh
  obtain ⟨b, e1, e2⟩ := p_isAsRead (s := s) (sP := sP) hF
  rw [e1, Option.bind_some, zif_b]
  cases b with
  | true => exact ⟨s, rfl, h, e2 rfl⟩
  | false =>
    rw [if_neg (by decide), zlet_eq]
    obtain ⟨s1, s2, s3, s4, s5, a1, a2, a3, a4, a5, a6, a7⟩ := p_read (s := zsL s 1 (va_cpy (zL sP 1) (zL s 1) (0 : Int32).toNatClampNeg (0 : Int32).toNatClampNeg (4 : Int32).toNatClampNeg)) hF
    rw [a1, Option.bind_some, a2, Option.bind_some, a3, Option.bind_some, a4, Option.bind_some, a5, Option.bind_some]
    refine ⟨s5, rfl, a6, fun l hl => ?_⟩
    rw [a7]
    show (if 0 ≤ l ∧ l < 0 + 4 then zL sP 1 (0 + (l - 0)) else zL s 1 l) = zL sP 1 l
    rw [if_pos (by omega)]
    congr 1
    omega
