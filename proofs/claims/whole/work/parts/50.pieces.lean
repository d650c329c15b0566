/-! PURE: findPieces -/
/-- within a layer l: the cells R are left, k places are done -/
def zpiI (s : zOS) (l t : Nat) (R : Int64) (k n : Nat) (lab : Nat → Option Nat) (P : Nat → Int64) (Y : Nat → Int32) : Prop :=
  t + zcount (zt R) 64 ≤ 64 ∧ 64 * l ≤ k ∧ k ≤ 64 * l + 64 ∧ zoi 192 (zwr (zlb s)) (zadj (zlb s) false) lab n k ∧
  (∀ c, c < 64 → (zt R c = true ↔ zwr (zlb s) (64 * l + c) = true ∧ lab (64 * l + c) = none)) ∧ (∀ p, 64 * l + 64 ≤ p → p < 192 → lab p = none) ∧ zpi n P Y lab
theorem zpi_cap {s : zOS} {l t : Nat} {R : Int64} {k n : Nat} {lab : Nat → Option Nat} {P : Nat → Int64} {Y : Nat → Int32} (hl : l < 3) (h : zpiI s l t R k n lab P Y) (hR : ¬ R = 0) : n < 96 ∧ t < 64 := by
  obtain ⟨h1, h2, h3, h4, h5, h6, h7⟩ := h
  obtain ⟨m, hm, hx, -⟩ := zt_least hR
  obtain ⟨a, b⟩ := (h5 m hm).mp hx
  refine ⟨(zoi_cap (M := 96) (fun p q _ _ => zadj_dom) h4).2 ⟨64 * l + m, by omega, a, b⟩, ?_⟩
  have := zcount_pos hm hx
  omega
/-- the layer is done -/
theorem zpi_done {s : zOS} {l t : Nat} {R : Int64} {k n : Nat} {lab : Nat → Option Nat} {P : Nat → Int64} {Y : Nat → Int32} (hl : l < 3) (h : zpiI s l t R k n lab P Y) (hR : R = 0) : zoi 192 (zwr (zlb s)) (zadj (zlb s) false) lab n (64 * (l + 1)) := by
  obtain ⟨h1, h2, h3, h4, h5, h6, h7⟩ := h
  refine zoi_skips h4 (by omega) (fun p hp1 hp2 => ?_)
  cases e : zwr (zlb s) p with
  | false => exact Or.inl rfl
  | true =>
    refine Or.inr (fun hn => ?_)
    have h8 := (h5 (p - 64 * l) (by omega)).mpr (by rw [show 64 * l + (p - 64 * l) = p by omega]; exact ⟨e, hn⟩)
    rw [hR, zt_0] at h8; cases h8
/-- one more piece -/
theorem zpi_step {s : zOS} {l t : Nat} {R r : Int64} {k n m : Nat} {lab : Nat → Option Nat} {P : Nat → Int64} {Y : Nat → Int32} (hl : l < 3) (h : zpiI s l t R k n lab P Y) (hm : m < 64) (hx : zt R m = true) (hlow : ∀ j, j < m → zt R j = false) (hr : ∀ d, zt r d = true ↔ zt R d = true ∧ zcn (zt R) znb m d) :
    ∃ lab', zpiI s l (t + 1) (R &&& (r ^^^ (-1))) (64 * l + m + 1) (n + 1) lab' (vp_updL P n r) (upd Y n (nI l)) := by
  obtain ⟨h1, h2, h3, h4, h5, h6, h7⟩ := h
  obtain ⟨hw, hn⟩ := (h5 m hm).mp hx
  have hrm : zt r m = true := (hr m).mpr ⟨hx, zcn_refl⟩
  have hkm : k ≤ 64 * l + m := by
    rcases Nat.lt_or_ge (64 * l + m) k with q | q
    · exact absurd hn (h4.2.2.1 _ (by omega) q hw)
    · exact q
  have h4' : zoi 192 (zwr (zlb s)) (zadj (zlb s) false) lab n (64 * l + m) := zoi_skips h4 hkm (fun p hp1 hp2 => by
    cases e : zwr (zlb s) p with
    | false => exact Or.inl rfl
    | true =>
      refine Or.inr (fun hnn => ?_)
      have h8 := (h5 (p - 64 * l) (by omega)).mpr (by rw [show 64 * l + (p - 64 * l) = p by omega]; exact ⟨e, hnn⟩)
      rw [hlow _ (by omega)] at h8; cases h8)
  have rin : ∀ c, zt r c = true → zt R c = true := fun c hc => ((hr c).mp hc).1
  have hin : ∀ c, zt r c = true → zwr (zlb s) (64 * l + c) = true ∧ lab (64 * l + c) = none := fun c hc => (h5 c (zt_lt hc)).mp (rin c hc)
  let lab' : Nat → Option Nat := fun p => if p / 64 = l ∧ zt r (p % 64) = true then some n else lab p
  have lp : ∀ p, p / 64 = l → zt r (p % 64) = true → lab' p = some n := fun p h h' => if_pos ⟨h, h'⟩
  have ln : ∀ p, ¬ (p / 64 = l ∧ zt r (p % 64) = true) → lab' p = lab p := fun p h => if_neg h
  have lc : ∀ c, zt r c = true → lab' (64 * l + c) = some n := fun c hc => by
    have := zt_lt hc
    exact lp _ (by omega) (by rw [show (64 * l + c) % 64 = c by omega]; exact hc)
  have new : ∀ p, p < 192 → lab p = none → lab' p = some n → p / 64 = l ∧ zt r (p % 64) = true := fun p hp e1 e2 => by
    rcases Classical.em (p / 64 = l ∧ zt r (p % 64) = true) with q | q
    · exact q
    · rw [ln p q, e1] at e2; cases e2
  have isn : ∀ p, p < 192 → lab' p = some n → p / 64 = l ∧ zt r (p % 64) = true := fun p hp e2 => by
    rcases Classical.em (p / 64 = l ∧ zt r (p % 64) = true) with q | q
    · exact q
    · rw [ln p q] at e2
      have := h4.2.1 p n hp e2
      omega
  have cnmap : ∀ d, zcn (zt R) znb m d → zcn (zwr (zlb s)) (zadj (zlb s) false) (64 * l + m) (64 * l + d) := fun d hd => by
    intro S hS hstep
    refine hd (fun z => S (64 * l + z)) hS (fun x y hSx wx wy hxy => hstep (64 * l + x) (64 * l + y) hSx ((h5 x (zt_lt wx)).mp wx).1 ((h5 y (zt_lt wy)).mp wy).1 ?_)
    have hx64 := zt_lt wx
    have hy64 := zt_lt wy
    obtain ⟨sd, hs1, hs2⟩ := hxy
    exact Or.inl ⟨by omega, sd, hs1, by rw [show (64 * l + x) % 64 = x by omega, show (64 * l + y) % 64 = y by omega]; exact hs2⟩
  have hzo : zoi 192 (zwr (zlb s)) (zadj (zlb s) false) lab' (n + 1) (64 * l + m + 1) := by
    refine zoi_new (fun x y => zadj_sym) h4' (by omega) hw hn (lc m hrm) (fun p hp => ?_) (fun p hp e1 e2 => ?_) (fun p q hp hq e1 e2 wq hpq => ?_)
    · rcases Classical.em (p / 64 = l ∧ zt r (p % 64) = true) with q | q
      · refine Or.inr ⟨?_, lp p q.1 q.2⟩
        have := (hin _ q.2).2
        rw [show 64 * l + p % 64 = p by omega] at this
        exact this
      · exact Or.inl (ln p q)
    · obtain ⟨g1, g2⟩ := new p hp e1 e2
      have g3 := (hin _ g2).1
      have g4 := cnmap _ ((hr _).mp g2).2
      rw [show 64 * l + p % 64 = p by omega] at g3 g4
      exact ⟨g3, g4⟩
    · obtain ⟨g1, g2⟩ := new p hp e1 e2
      rcases hpq with ⟨k1, sd, k2, k3⟩ | ⟨k1, -⟩
      · intro hq0
        have hq1 : lab q = none := by
          rcases Classical.em (q / 64 = l ∧ zt r (q % 64) = true) with z | z
          · rw [lp q z.1 z.2] at hq0; cases hq0
          · rw [ln q z] at hq0; exact hq0
        have hq2 : zt R (q % 64) = true := (h5 (q % 64) (by omega)).mpr (by rw [show 64 * l + q % 64 = q by omega]; exact ⟨wq, hq1⟩)
        have hq3 : zt r (q % 64) = true := (hr _).mpr ⟨hq2, zcn_step ((hr _).mp g2).2 (rin _ g2) hq2 ⟨sd, k2, k3⟩⟩
        rw [lp q (by omega) hq3] at hq0; cases hq0
      · cases k1
  refine ⟨lab', ?_, by omega, by omega, hzo, fun c hc => ?_, fun p hp1 hp2 => ?_, fun j hj => ?_⟩
  · have := zcount_lt (p := zt (R &&& (r ^^^ (-1)))) (q := zt R) (fun j _ hj => by rw [zt_andn, Bool.and_eq_true] at hj; exact hj.1) hm (by rw [zt_andn, hrm]; simp) hx
    omega
  · rw [zt_andn, Bool.and_eq_true, Bool.not_eq_true']
    constructor
    · rintro ⟨g1, g2⟩
      obtain ⟨g3, g4⟩ := (h5 c hc).mp g1
      refine ⟨g3, ?_⟩
      rw [ln _ (fun ⟨_, z⟩ => by rw [show (64 * l + c) % 64 = c by omega, g2] at z; cases z)]
      exact g4
    · rintro ⟨g1, g2⟩
      cases e : zt r c with
      | true => rw [lc c e] at g2; cases g2
      | false =>
        rw [ln _ (fun ⟨_, z⟩ => by rw [show (64 * l + c) % 64 = c by omega, e] at z; cases z)] at g2
        exact ⟨(h5 c hc).mpr ⟨g1, g2⟩, rfl⟩
  · rw [ln p (fun z => by omega)]
    exact h6 p hp1 hp2
  · by_cases e : j = n
    · subst e
      refine ⟨l, hl, if_pos rfl, fun p hp hlp => ?_, fun c hc => ?_⟩
      · rw [show vp_updL P j r j = r from if_pos rfl]
        exact isn p hp hlp
      · rw [show vp_updL P j r j = r from if_pos rfl] at hc
        exact lc c hc
    · obtain ⟨l', g1, g2, g3, g4⟩ := h7 j (by omega)
      refine ⟨l', g1, (if_neg e).trans g2, fun p hp hlp => ?_, fun c hc => ?_⟩
      · rw [show vp_updL P n r j = P j from if_neg e]
        refine g3 p hp ?_
        rcases Classical.em (p / 64 = l ∧ zt r (p % 64) = true) with z | z
        · rw [lp p z.1 z.2] at hlp; have := Option.some.inj hlp; omega
        · rw [ln p z] at hlp; exact hlp
      · rw [show vp_updL P n r j = P j from if_neg e] at hc
        have g5 := g4 c hc
        have hc64 := zt_lt hc
        rw [ln _ (fun z => ?_)]
        · exact g5
        · have g6 := (hin _ z.2).2
          rw [show 64 * l + (64 * l' + c) % 64 = 64 * l' + c by omega, g5] at g6
          cases g6
/-- the pieces -/
theorem p_findPieces {s : zOS} {F : Nat} (hF : 1000 ≤ F) : ∃ n lab P Y, fX0_findPieces F s = some (zpst s P Y n) ∧ zlab 192 (zwr (zlb s)) (zadj (zlb s) false) lab n ∧ zpi n P Y lab ∧ n ≤ 96 := by
  unfold fX0_findPieces
  rw [zlet_eq, show (0 : Int32) = nI 0 from rfl, zpst_0]
  refine zit_wf (fun p => ∃ l n lab P Y, p = (nI l, zpst s P Y n) ∧ l ≤ 3 ∧ zoi 192 (zwr (zlb s)) (zadj (zlb s) false) lab n (64 * l) ∧ (∀ p, 64 * l ≤ p → p < 192 → lab p = none) ∧ zpi n P Y lab) (fun p => 4 - p.1.toNatClampNeg) (fun o => ∃ n lab P Y, o = some (zpst s P Y n) ∧ zlab 192 (zwr (zlb s)) (zadj (zlb s) false) lab n ∧ zpi n P Y lab ∧ n ≤ 96) ?_ F (nI 0, zpst s (zL s 2) (zI s 3) 0) ⟨0, 0, fun _ => none, _, _, rfl, by omega, zoi_0 (fun _ _ => rfl), fun _ _ _ => rfl, fun j hj => by omega⟩ (by show 4 - _ < F; omega)
  rintro kc ⟨x1, σ⟩ ⟨l, n, lab, P, Y, he, hl, hz, hnone, hpi⟩
  obtain ⟨rfl, rfl⟩ := Prod.mk.inj he
  show (∃ p', _ ∧ _ ∧ bX0_findPieces_7 F kc (nI l) (zpst s P Y n) = kc p') ∨ (∃ n' lab' P' Y', bX0_findPieces_7 F kc (nI l) (zpst s P Y n) = some (zpst s P' Y' n') ∧ _)
  unfold bX0_findPieces_7
  rw [show (3 : Int32) = nI 3 from rfl]
  by_cases hl3 : l = 3
  · right
    subst hl3
    rw [if_pos (show nI 3 ≤ nI 3 by rw [zle_nI (by decide) (by decide)]; omega)]
    exact ⟨n, lab, P, Y, rfl, zoi_end hz, hpi, (zoi_cap (M := 96) (fun p q _ _ => zadj_dom) hz).1⟩
  · left
    have hl' : l < 3 := by omega
    obtain ⟨m, hm1, hm2⟩ := p_cellsOf (s := zpst s P Y n) hl'
    have hm2 : ∀ c, c < 64 → zt m c = zwr (zlb s) (64 * l + c) := hm2
    rw [if_neg (show ¬ nI 3 ≤ nI l by rw [zle_nI (by decide) (by omega)]; omega), hm1, Option.bind_some, show (0 : Int32) = nI 0 from rfl]
    have hcl : (nI l).toNatClampNeg = l := nI_clamp (by omega)
    refine zit_wf (fun p => ∃ t k n lab P Y, p.2 = (nI t, zpst s P Y n) ∧ zpiI s l t p.1 k n lab P Y) (fun p => 64 - p.2.1.toNatClampNeg) (fun o => ∃ p', (∃ l n lab P Y, p' = (nI l, zpst s P Y n) ∧ l ≤ 3 ∧ zoi 192 (zwr (zlb s)) (zadj (zlb s) false) lab n (64 * l) ∧ (∀ p, 64 * l ≤ p → p < 192 → lab p = none) ∧ zpi n P Y lab) ∧ 4 - p'.1.toNatClampNeg < 4 - (nI l).toNatClampNeg ∧ o = kc p') ?_ F (m, nI 0, zpst s P Y n) ⟨0, 64 * l, n, lab, P, Y, rfl, by have := zcount_le (p := zt m) (n := 64); show 0 + zcount (zt m) 64 ≤ 64; omega, by omega, by omega, hz, fun c hc => by show zt m c = true ↔ _; rw [hm2 c hc]; exact ⟨fun h => ⟨h, hnone _ (by omega) (by omega)⟩, fun h => h.1⟩, fun p h1 h2 => hnone p (by omega) h2, hpi⟩ (by show 64 - _ < F; omega)
    clear hm1 hm2 hz hnone hpi he
    rintro kc2 ⟨R, x4, σ⟩ ⟨t, k, n, lab, P, Y, he, hI⟩
    obtain ⟨rfl, rfl⟩ := Prod.mk.inj (show (x4, σ) = (nI t, zpst s P Y n) from he)
    have hI : zpiI s l t R k n lab P Y := hI
    show (∃ p', _ ∧ _ ∧ bX0_findPieces_21 F kc (nI l) kc2 R (nI t) (zpst s P Y n) = kc2 p') ∨ (∃ p', _ ∧ _ ∧ bX0_findPieces_21 F kc (nI l) kc2 R (nI t) (zpst s P Y n) = kc p')
    unfold bX0_findPieces_21
    have ht := hI.1
    have done : R = 0 → ∃ p', (∃ l n lab P Y, p' = (nI l, zpst s P Y n) ∧ l ≤ 3 ∧ zoi 192 (zwr (zlb s)) (zadj (zlb s) false) lab n (64 * l) ∧ (∀ p, 64 * l ≤ p → p < 192 → lab p = none) ∧ zpi n P Y lab) ∧ 4 - p'.1.toNatClampNeg < 4 - (nI l).toNatClampNeg ∧ kc (nI l + 1, zpst s P Y n) = kc p' := fun hR =>
      ⟨(nI (l + 1), zpst s P Y n), ⟨l + 1, n, lab, P, Y, rfl, by omega, zpi_done hl' hI hR, fun p h1 h2 => hI.2.2.2.2.2.1 p (by omega) h2, hI.2.2.2.2.2.2⟩, by show 4 - (nI (l + 1)).toNatClampNeg < _; rw [nI_clamp (by omega), hcl]; omega, by rw [nI_1]⟩
    rw [show (64 : Int32) = nI 64 from rfl, show zF (zpst s P Y n) 12 = nI n from rfl, show (96 : Int32) = nI 96 from rfl]
    by_cases hR : R = 0
    · right
      by_cases h64 : nI 64 ≤ nI t
      · rw [if_pos h64]; exact done hR
      · rw [if_neg h64, if_pos ((zc_eq0 _ _).mpr hR)]; exact done hR
    · left
      obtain ⟨hn, ht64⟩ := zpi_cap hl' hI hR
      obtain ⟨mm, hm, hx, hlow⟩ := zt_least hR
      obtain ⟨r, hr1, hr2⟩ := p_hangingTogether (F := F) (by omega) hx hlow
      obtain ⟨lab', hI'⟩ := zpi_step hl' hI hm hx hlow hr2
      rw [if_neg (show ¬ nI 64 ≤ nI t by rw [zle_nI (by decide) (by omega)]; omega), if_neg (fun h => hR ((zc_eq0 _ _).mp h)), if_neg (show ¬ nI 96 ≤ nI n by rw [zle_nI (by decide) (by omega)]; omega), hr1, Option.bind_some, zchk_nI hn (by decide), nI_clamp (show n < 2 ^ 31 by omega), show zL (zpst s P Y n) 2 = P from rfl, zlet_eq, show zF (zsL (zpst s P Y n) 2 (vp_updL P n r)) 12 = nI n from rfl, zchk_nI hn (by decide), nI_clamp (show n < 2 ^ 31 by omega), show zI (zsL (zpst s P Y n) 2 (vp_updL P n r)) 3 = Y from rfl, zlet_eq, show zF (zsI (zsL (zpst s P Y n) 2 (vp_updL P n r)) 3 (upd Y n (nI l))) 12 = nI n from rfl, zlet_eq, zlet_eq, nI_1, nI_1, zpst_step]
      exact ⟨(R &&& (r ^^^ (-1)), nI (t + 1), zpst s (vp_updL P n r) (upd Y n (nI l)) (n + 1)), ⟨t + 1, _, n + 1, lab', _, _, rfl, hI'⟩, by show 64 - (nI (t + 1)).toNatClampNeg < 64 - (nI t).toNatClampNeg; rw [nI_clamp (by omega), nI_clamp (by omega)]; omega, rfl⟩
