/-! PURE: the class's findGates -/
def zgk (lab : Nat → Option Nat) (N j : Nat) (m : Int64) (nd a b sd : Int32) : Prop :=
  (∀ c, zt m c = true → nd = zenc (lab (64 + c))) ∧ a = zwl (zscan (zsdb lab (zgm m j) j) N).1 (zscan (zsdb lab (zgm m j) j) N).2.1 ∧ b = zwl (zscan (zsdb lab (zgm m j) j) N).1 (zscan (zsdb lab (zgm m j) j) N).2.2 ∧ sd = nI (zscan (zsdb lab (zgm m j) j) N).1
noncomputable def zbkn (lab : Nat → Option Nat) (N : Nat) (C : Nat → Int64) (n : Nat) : Nat := zcount (fun j => !zwb (zscan (zsdb lab (zgm (C j) j) j) N).1) n
def zgI (b : Nat → Nat → Bool) (lab : Nat → Option Nat) (N t : Nat) (R : Int64) (k n : Nat) (labG : Nat → Option Nat) (C : Nat → Int64) (Nd A B Sd : Nat → Int32) : Prop :=
  t + zcount (zt R) 64 ≤ 64 ∧ k ≤ 64 ∧ zoi 64 (zgc b) zga labG n k ∧ (∀ c, c < 64 → (zt R c = true ↔ zgc b c = true ∧ labG c = none)) ∧
  (∀ j, j < n → (∀ c, zt (C j) c = true ↔ c < 64 ∧ labG c = some j) ∧ zgk lab N j (C j) (Nd j) (A j) (B j) (Sd j))
theorem zgI_cap {b : Nat → Nat → Bool} {lab labG : Nat → Option Nat} {N t k n : Nat} {R : Int64} {C : Nat → Int64} {Nd A B Sd : Nat → Int32} (h : zgI b lab N t R k n labG C Nd A B Sd) : n ≤ 32 ∧ (¬ R = 0 → n < 32 ∧ t < 64) := by
  obtain ⟨h1, h2, h3, h4, h5⟩ := h
  have hcap := zoi_cap (M := 32) (fun p q hp hq e1 e2 => ⟨hp, hq, znb_dom p hp q hq e1 e2⟩) h3
  refine ⟨hcap.1, fun hR => ?_⟩
  obtain ⟨m, hm, hx, -⟩ := zt_least hR
  obtain ⟨a, b⟩ := (h4 m hm).mp hx
  refine ⟨hcap.2 ⟨m, hm, a, b⟩, ?_⟩
  have := zcount_pos hm hx
  omega
theorem zgI_done {b : Nat → Nat → Bool} {lab labG : Nat → Option Nat} {N t k n : Nat} {R : Int64} {C : Nat → Int64} {Nd A B Sd : Nat → Int32} (h : zgI b lab N t R k n labG C Nd A B Sd) (hR : R = 0) : zlab 64 (zgc b) zga labG n := by
  obtain ⟨h1, h2, h3, h4, h5⟩ := h
  refine zoi_end (zoi_skips h3 h2 (fun p hp1 hp2 => ?_))
  cases e : zgc b p with
  | false => exact Or.inl rfl
  | true =>
    refine Or.inr (fun hn => ?_)
    have h8 := (h4 p hp2).mpr ⟨e, hn⟩
    rw [hR, zt_0] at h8; cases h8
theorem zgI_step {b : Nat → Nat → Bool} {lab labG : Nat → Option Nat} {N t k n m : Nat} {R r : Int64} {C : Nat → Int64} {Nd A B Sd Nd' A' B' Sd' : Nat → Int32} (h : zgI b lab N t R k n labG C Nd A B Sd) (hm : m < 64) (hx : zt R m = true) (hlow : ∀ j, j < m → zt R j = false) (hr : ∀ d, zt r d = true ↔ zt R d = true ∧ zcn (zt R) znb m d)
    (hnew : zgk lab N n r (Nd' n) (A' n) (B' n) (Sd' n)) (hold : ∀ j, j < n → Nd' j = Nd j ∧ A' j = A j ∧ B' j = B j ∧ Sd' j = Sd j) :
    ∃ labG', zgI b lab N (t + 1) (R &&& (r ^^^ (-1))) (m + 1) (n + 1) labG' (vp_updL C n r) Nd' A' B' Sd' := by
  obtain ⟨h1, h3, h4, h5, h7⟩ := h
  obtain ⟨hw, hn⟩ := (h5 m hm).mp hx
  have hrm : zt r m = true := (hr m).mpr ⟨hx, zcn_refl⟩
  have hkm : k ≤ m := by
    rcases Nat.lt_or_ge m k with q | q
    · exact absurd hn (h4.2.2.1 _ hm q hw)
    · exact q
  have h4' : zoi 64 (zgc b) zga labG n m := zoi_skips h4 hkm (fun p hp1 hp2 => by
    cases e : zgc b p with
    | false => exact Or.inl rfl
    | true =>
      refine Or.inr (fun hnn => ?_)
      have h8 := (h5 p (by omega)).mpr ⟨e, hnn⟩
      rw [hlow _ (by omega)] at h8; cases h8)
  have rin : ∀ c, zt r c = true → zt R c = true := fun c hc => ((hr c).mp hc).1
  have hin : ∀ c, zt r c = true → zgc b c = true ∧ labG c = none := fun c hc => (h5 c (zt_lt hc)).mp (rin c hc)
  let lab' : Nat → Option Nat := fun p => if zt r p = true then some n else labG p
  have lp : ∀ p, zt r p = true → lab' p = some n := fun p h => if_pos h
  have ln : ∀ p, ¬ zt r p = true → lab' p = labG p := fun p h => if_neg h
  have new : ∀ p, labG p = none → lab' p = some n → zt r p = true := fun p e1 e2 => by
    rcases Classical.em (zt r p = true) with q | q
    · exact q
    · rw [ln p q, e1] at e2; cases e2
  have isn : ∀ p, p < 64 → lab' p = some n → zt r p = true := fun p hp e2 => by
    rcases Classical.em (zt r p = true) with q | q
    · exact q
    · rw [ln p q] at e2
      have := h4.2.1 p n hp e2
      omega
  have cnmap : ∀ d, zcn (zt R) znb m d → zcn (zgc b) zga m d := fun d hd => by
    intro S hS hstep
    exact hd S hS (fun x y hSx wx wy hxy => hstep x y hSx ((h5 x (zt_lt wx)).mp wx).1 ((h5 y (zt_lt wy)).mp wy).1 ⟨zt_lt wx, zt_lt wy, hxy⟩)
  have hzo : zoi 64 (zgc b) zga lab' (n + 1) (m + 1) := by
    refine zoi_new (fun x y => zga_sym) h4' hm hw hn (lp m hrm) (fun p hp => ?_) (fun p hp e1 e2 => ?_) (fun p q hp hq e1 e2 wq hpq => ?_)
    · rcases Classical.em (zt r p = true) with q | q
      · exact Or.inr ⟨(hin p q).2, lp p q⟩
      · exact Or.inl (ln p q)
    · have g2 := new p e1 e2
      exact ⟨(hin _ g2).1, cnmap _ ((hr _).mp g2).2⟩
    · have g2 := new p e1 e2
      intro hq0
      have hq1 : labG q = none := by
        rcases Classical.em (zt r q = true) with z | z
        · rw [lp q z] at hq0; cases hq0
        · rw [ln q z] at hq0; exact hq0
      have hq2 : zt R q = true := (h5 q hq).mpr ⟨wq, hq1⟩
      have hq3 : zt r q = true := (hr _).mpr ⟨hq2, zcn_step ((hr _).mp g2).2 (rin _ g2) hq2 hpq.2.2⟩
      rw [lp q hq3] at hq0; cases hq0
  refine ⟨lab', ?_, by omega, hzo, fun c hc => ?_, fun j hj => ?_⟩
  · have := zcount_lt (p := zt (R &&& (r ^^^ (-1)))) (q := zt R) (fun j _ hj => by rw [zt_andn, Bool.and_eq_true] at hj; exact hj.1) hm (by rw [zt_andn, hrm]; simp) hx
    omega
  · rw [zt_andn, Bool.and_eq_true, Bool.not_eq_true']
    constructor
    · rintro ⟨g1, g2⟩
      obtain ⟨g3, g4⟩ := (h5 c hc).mp g1
      refine ⟨g3, ?_⟩
      rw [ln _ (fun z => by rw [g2] at z; cases z)]
      exact g4
    · rintro ⟨g1, g2⟩
      cases e : zt r c with
      | true => rw [lp c e] at g2; cases g2
      | false =>
        rw [ln _ (fun z => by rw [e] at z; cases z)] at g2
        exact ⟨(h5 c hc).mpr ⟨g1, g2⟩, rfl⟩
  · by_cases e : j = n
    · subst e
      rw [show vp_updL C j r j = r from if_pos rfl]
      exact ⟨fun c => ⟨fun hc => ⟨zt_lt hc, lp c hc⟩, fun hc => isn c hc.1 hc.2⟩, hnew⟩
    · obtain ⟨g1, g2⟩ := h7 j (by omega)
      obtain ⟨o1, o2, o3, o4⟩ := hold j (by omega)
      rw [show vp_updL C n r j = C j from if_neg e, o1, o2, o3, o4]
      refine ⟨fun c => ?_, g2⟩
      rw [g1 c]
      constructor
      · rintro ⟨c1, c2⟩
        refine ⟨c1, ?_⟩
        rw [ln c (fun z => by rw [(hin c z).2] at c2; cases c2)]
        exact c2
      · rintro ⟨c1, c2⟩
        refine ⟨c1, ?_⟩
        rcases Classical.em (zt r c = true) with z | z
        · rw [lp c z] at c2; have := Option.some.inj c2; omega
        · rw [ln c z] at c2; exact c2
theorem zgc_wr {b : Nat → Nat → Bool} {c : Nat} (h : zgc b c = true) : zwr b (64 + c) = true := by
  have hc := zgc_lt h
  rw [zgc_eq hc, Bool.and_eq_true] at h
  unfold zwr
  rw [if_neg (by omega), if_pos (by omega), show 64 + c - 64 = c by omega]
  exact h.2
theorem zgc_node {b : Nat → Nat → Bool} {lab : Nat → Option Nat} {N : Nat} (hl : zlab 192 (zwr b) (zadj b true) lab N) {x y : Nat} (hx : zgc b x = true) (hy : zgc b y = true) (hxy : znb x y) : lab (64 + x) = lab (64 + y) := by
  have h1 := zgc_lt hx
  have h2 := zgc_lt hy
  obtain ⟨s, k1, k2⟩ := hxy
  exact hl.2.2.1 _ _ (by omega) (by omega) (zgc_wr hx) (zgc_wr hy) (Or.inl ⟨by omega, s, k1, by rw [show (64 + x) % 64 = x by omega, show (64 + y) % 64 = y by omega]; exact k2⟩)
theorem p_findGates {s : zOS} {N F : Nat} {lab : Nat → Option Nat} (hF : 1000 ≤ F) (hw : zcw s N lab) (hl : zlab 192 (zwr (zlb s)) (zadj (zlb s) true) lab N) :
    ∃ labG n C Nd A B Sd, fX0_findGates F s = some (zcg s C Nd A B Sd (nI n) (nI (zbkn lab N C n))) ∧ zlab 64 (zgc (zlb s)) zga labG n ∧ n ≤ 32 ∧ ∀ j, j < n → (∀ c, zt (C j) c = true ↔ c < 64 ∧ labG c = some j) ∧ zgk lab N j (C j) (Nd j) (A j) (B j) (Sd j) := by
  unfold fX0_findGates
  rw [zlet_eq, zlet_eq, zchk_ok (j := (0 : Int32)) (n := 4) (vp_in_nI (show 0 < 4 by decide) (by decide)), zchk_ok (j := (1 : Int32)) (n := 4) (vp_in_nI (show 1 < 4 by decide) (by decide)), zlet_eq, show Int32.toNatClampNeg 0 = 0 from rfl, show Int32.toNatClampNeg 1 = 1 from rfl, show (0 : Int32) = nI 0 from rfl, zcg_0]
  have hR0 : ∀ c, c < 64 → zt (zL s 1 0 &&& zL s 1 1) c = zgc (zlb s) c := fun c hc => by rw [zt_and, zgc_eq hc]; rfl
  refine zit_wf (fun p => ∃ t k n labG C Nd A B Sd, p.2 = (nI t, zcg s C Nd A B Sd (nI n) (nI (zbkn lab N C n))) ∧ zgI (zlb s) lab N t p.1 k n labG C Nd A B Sd) (fun p => 65 - p.2.1.toNatClampNeg) (fun o => ∃ labG n C Nd A B Sd, o = some (zcg s C Nd A B Sd (nI n) (nI (zbkn lab N C n))) ∧ zlab 64 (zgc (zlb s)) zga labG n ∧ n ≤ 32 ∧ ∀ j, j < n → (∀ c, zt (C j) c = true ↔ c < 64 ∧ labG c = some j) ∧ zgk lab N j (C j) (Nd j) (A j) (B j) (Sd j)) ?_ F _ ⟨0, 0, 0, fun _ => none, _, _, _, _, _, rfl, by have := zcount_le (p := zt (zL s 1 0 &&& zL s 1 1)) (n := 64); show 0 + zcount (zt (zL s 1 0 &&& zL s 1 1)) 64 ≤ 64; omega, by omega, zoi_0 (fun _ _ => rfl), fun c hc => by show zt (zL s 1 0 &&& zL s 1 1) c = true ↔ _; rw [hR0 c hc]; exact ⟨fun h => ⟨h, rfl⟩, fun h => h.1⟩, fun j hj => by omega⟩ (by show 65 - _ < F; omega)
  rintro kc ⟨R, x3, σ⟩ ⟨t, k, n, labG, C, Nd, A, B, Sd, he, hI⟩
  obtain ⟨rfl, rfl⟩ := Prod.mk.inj (show (x3, σ) = (nI t, zcg s C Nd A B Sd (nI n) (nI (zbkn lab N C n))) from he)
  have hI : zgI (zlb s) lab N t R k n labG C Nd A B Sd := hI
  show (∃ p', _ ∧ _ ∧ bX0_findGates_26 F kc R (nI t) (zcg s C Nd A B Sd (nI n) (nI (zbkn lab N C n))) = kc p') ∨ (∃ labG' n' C' Nd' A' B' Sd', bX0_findGates_26 F kc R (nI t) (zcg s C Nd A B Sd (nI n) (nI (zbkn lab N C n))) = some (zcg s C' Nd' A' B' Sd' (nI n') (nI (zbkn lab N C' n'))) ∧ _)
  unfold bX0_findGates_26
  obtain ⟨hn32, hcap⟩ := zgI_cap hI
  have ht := hI.1
  rw [show (64 : Int32) = nI 64 from rfl, show zF (zcg s C Nd A B Sd (nI n) (nI (zbkn lab N C n))) 14 = nI n from rfl, show (32 : Int32) = nI 32 from rfl]
  by_cases hR : R = 0
  · right
    have hfin : ∃ labG' n' C' Nd' A' B' Sd', some (zcg s C Nd A B Sd (nI n) (nI (zbkn lab N C n))) = some (zcg s C' Nd' A' B' Sd' (nI n') (nI (zbkn lab N C' n'))) ∧ zlab 64 (zgc (zlb s)) zga labG' n' ∧ n' ≤ 32 ∧ ∀ j, j < n' → (∀ c, zt (C' j) c = true ↔ c < 64 ∧ labG' c = some j) ∧ zgk lab N j (C' j) (Nd' j) (A' j) (B' j) (Sd' j) := ⟨labG, n, C, Nd, A, B, Sd, rfl, zgI_done hI hR, hn32, hI.2.2.2.2⟩
    by_cases h64 : nI 64 ≤ nI t
    · rw [if_pos h64]; exact hfin
    · rw [if_neg h64, if_pos ((zc_eq0 _ _).mpr hR)]; exact hfin
  · left
    obtain ⟨hn, ht64⟩ := hcap hR
    obtain ⟨m, hm, hx, hlow⟩ := zt_least hR
    obtain ⟨r, hr1, hr2⟩ := p_hangingTogether (F := F) (by omega) hx hlow
    have hrm : zt r m = true := (hr2 m).mpr ⟨hx, zcn_refl⟩
    have inR : ∀ c, zt R c = true → zgc (zlb s) c = true := fun c hc => ((hI.2.2.2.1 c (zt_lt hc)).mp hc).1
    have hnode : ∀ c, zt r c = true → lab (64 + c) = lab (64 + m) := fun c hc => ((hr2 c).mp hc).2 (fun z => lab (64 + z) = lab (64 + m)) rfl (fun x y hSx wx wy hxy => (zgc_node hl (inR x wx) (inR y wy) hxy).symm.trans hSx)
    have hw1 : zcw (zcg s (vp_updL C n r) Nd A B Sd (nI n) (nI (zbkn lab N C n))) N lab := zcw_cg hw
    rw [if_neg (show ¬ nI 64 ≤ nI t by rw [zle_nI (by decide) (by omega)]; omega), if_neg (fun h => hR ((zc_eq0 _ _).mp h)), if_neg (show ¬ nI 32 ≤ nI n by rw [zle_nI (by decide) (by omega)]; omega), hr1, Option.bind_some, zchk_nI hn (by decide), nI_clamp (show n < 2 ^ 31 by omega), show zL (zcg s C Nd A B Sd (nI n) (nI (zbkn lab N C n))) 8 = C from rfl, zlet_eq, zcg_s8, show (1 : Int32) = nI 1 from rfl, p_nodeWith (l := 1) (o := lab (64 + m)) hF hw1 (by decide) (fun c hc => hnode c hc) (Or.inr ⟨m, hrm⟩), Option.bind_some, show zF (zcg s (vp_updL C n r) Nd A B Sd (nI n) (nI (zbkn lab N C n))) 14 = nI n from rfl, zchk_nI hn (by decide), nI_clamp (show n < 2 ^ 31 by omega), show zI (zcg s (vp_updL C n r) Nd A B Sd (nI n) (nI (zbkn lab N C n))) 9 = Nd from rfl, zlet_eq, zcg_s9, show zF (zcg s (vp_updL C n r) (upd Nd n (zenc (lab (64 + m)))) A B Sd (nI n) (nI (zbkn lab N C n))) 14 = nI n from rfl, p_findSidesC hF hw hn, Option.bind_some, zlet_eq, show vp_updL C n r n = r from if_pos rfl]
    have hbk : zbkn lab N C n + (if zwb (zscan (zsdb lab (zgm r n) n) N).1 then 0 else 1) = zbkn lab N (vp_updL C n r) (n + 1) := by
      unfold zbkn
      rw [zcount_next, show vp_updL C n r n = r from if_pos rfl, zcount_congr (p := fun j => !zwb (zscan (zsdb lab (zgm (vp_updL C n r j) j) j) N).1) (q := fun j => !zwb (zscan (zsdb lab (zgm (C j) j) j) N).1) (n := n) (fun i hi => by
        show (!zwb (zscan (zsdb lab (zgm (vp_updL C n r i) i) i) N).1) = _
        rw [show vp_updL C n r i = C i from if_neg (by omega)])]
      cases zwb (zscan (zsdb lab (zgm r n) n) N).1 <;> rfl
    rw [hbk, show ∀ X Y Z W : Nat → Int32, ∀ V : Nat → Int64, ∀ u : Int32, zF (zcg s V X Y Z W (nI n) u) 14 = nI n from fun _ _ _ _ _ _ => rfl, show nI n + nI 1 = nI (n + 1) from nI_add n 1, zcg_f14, zlet_eq, show nI t + nI 1 = nI (t + 1) from nI_add t 1]
    obtain ⟨labG', hI'⟩ := zgI_step (Nd' := upd Nd n (zenc (lab (64 + m)))) (A' := upd A n (zwl (zscan (zsdb lab (zgm r n) n) N).1 (zscan (zsdb lab (zgm r n) n) N).2.1)) (B' := upd B n (zwl (zscan (zsdb lab (zgm r n) n) N).1 (zscan (zsdb lab (zgm r n) n) N).2.2)) (Sd' := upd Sd n (nI (zscan (zsdb lab (zgm r n) n) N).1)) hI hm hx hlow hr2 ⟨fun c hc => by rw [zud_s, hnode c hc], zud_s _ _ _, zud_s _ _ _, zud_s _ _ _⟩ (fun j hj => ⟨zud_n _ _ (by omega), zud_n _ _ (by omega), zud_n _ _ (by omega), zud_n _ _ (by omega)⟩)
    exact ⟨(R &&& (r ^^^ (-1)), nI (t + 1), _), ⟨t + 1, _, n + 1, labG', _, _, _, _, _, rfl, hI'⟩, by show 65 - (nI (t + 1)).toNatClampNeg < 65 - (nI t).toNatClampNeg; rw [nI_clamp (by omega), nI_clamp (by omega)]; omega, rfl⟩
