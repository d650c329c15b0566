/-! PURE: the class's gates and their sides -/
def zcg (s : zOS) (C : Nat → Int64) (Nd A B Sd : Nat → Int32) (n bk : Int32) : zOS := (va_up (va_up (va_up (va_up s.1 9 Nd) 10 A) 11 B) 12 Sd, va_up s.2.1 8 C, va_up (va_up s.2.2.1 14 n) 15 bk, s.2.2.2)
theorem zcg_s8 {s : zOS} {C C' : Nat → Int64} {Nd A B Sd : Nat → Int32} {n bk : Int32} : zsL (zcg s C Nd A B Sd n bk) 8 C' = zcg s C' Nd A B Sd n bk := by
  show (_, va_up (va_up s.2.1 8 C) 8 C', _, _) = _
  rw [bx_uu]; rfl
theorem zcg_s12 {s : zOS} {C : Nat → Int64} {Nd A B Sd Sd' : Nat → Int32} {n bk : Int32} : zsI (zcg s C Nd A B Sd n bk) 12 Sd' = zcg s C Nd A B Sd' n bk := by
  show (va_up (va_up (va_up (va_up (va_up s.1 9 Nd) 10 A) 11 B) 12 Sd) 12 Sd', _) = _
  rw [bx_uu]; rfl
theorem zcg_s11 {s : zOS} {C : Nat → Int64} {Nd A B B' Sd : Nat → Int32} {n bk : Int32} : zsI (zcg s C Nd A B Sd n bk) 11 B' = zcg s C Nd A B' Sd n bk := by
  show (va_up (va_up (va_up (va_up (va_up s.1 9 Nd) 10 A) 11 B) 12 Sd) 11 B', _) = _
  rw [va_cm _ (show 12 ≠ 11 by decide), bx_uu]; rfl
theorem zcg_s10 {s : zOS} {C : Nat → Int64} {Nd A A' B Sd : Nat → Int32} {n bk : Int32} : zsI (zcg s C Nd A B Sd n bk) 10 A' = zcg s C Nd A' B Sd n bk := by
  show (va_up (va_up (va_up (va_up (va_up s.1 9 Nd) 10 A) 11 B) 12 Sd) 10 A', _) = _
  rw [va_cm _ (show 12 ≠ 10 by decide), va_cm _ (show 11 ≠ 10 by decide), bx_uu]; rfl
theorem zcg_s9 {s : zOS} {C : Nat → Int64} {Nd Nd' A B Sd : Nat → Int32} {n bk : Int32} : zsI (zcg s C Nd A B Sd n bk) 9 Nd' = zcg s C Nd' A B Sd n bk := by
  show (va_up (va_up (va_up (va_up (va_up s.1 9 Nd) 10 A) 11 B) 12 Sd) 9 Nd', _) = _
  rw [va_cm _ (show 12 ≠ 9 by decide), va_cm _ (show 11 ≠ 9 by decide), va_cm _ (show 10 ≠ 9 by decide), bx_uu]; rfl
theorem zcg_f15 {s : zOS} {C : Nat → Int64} {Nd A B Sd : Nat → Int32} {n bk bk' : Int32} : zsF (zcg s C Nd A B Sd n bk) 15 bk' = zcg s C Nd A B Sd n bk' := by
  show (_, _, va_up (va_up (va_up s.2.2.1 14 n) 15 bk) 15 bk', _) = _
  rw [bx_uu]; rfl
theorem zcg_f14 {s : zOS} {C : Nat → Int64} {Nd A B Sd : Nat → Int32} {n n' bk : Int32} : zsF (zcg s C Nd A B Sd n bk) 14 n' = zcg s C Nd A B Sd n' bk := by
  show (_, _, va_up (va_up (va_up s.2.2.1 14 n) 15 bk) 14 n', _) = _
  rw [va_cm _ (show 15 ≠ 14 by decide), bx_uu]; rfl
theorem va_id {α : Type} (f : Nat → α) (k : Nat) : va_up f k (f k) = f := funext fun j => by
  show (if j = k then f k else f j) = f j
  by_cases e : j = k
  · rw [if_pos e, e]
  · rw [if_neg e]
theorem zcg_0 {s : zOS} {n bk : Int32} : zsF (zsF s 14 n) 15 bk = zcg s (zL s 8) (zI s 9) (zI s 10) (zI s 11) (zI s 12) n bk := by
  obtain ⟨a, b, c, d⟩ := s
  show (a, b, va_up (va_up c 14 n) 15 bk, d) = (va_up (va_up (va_up (va_up a 9 (a 9)) 10 (a 10)) 11 (a 11)) 12 (a 12), va_up b 8 (b 8), va_up (va_up c 14 n) 15 bk, d)
  rw [va_id, va_id, va_id, va_id, va_id]
/-- the class's node rows tell the labelling -/
def zcw (s : zOS) (N : Nat) (lab : Nat → Option Nat) : Prop := zF s 13 = nI N ∧ N ≤ 96 ∧ (∀ l, l < 3 → ∀ v, v < N → ∀ c, zt (zL s (zbs 0 + l) v) c = true ↔ c < 64 ∧ lab (64 * l + c) = some v) ∧ ∀ p v, p < 192 → lab p = some v → v < N
theorem p_nodeWith {s : zOS} {N l F : Nat} {lab : Nat → Option Nat} {x : Int64} {o : Option Nat} (hF : 1000 ≤ F) (hw : zcw s N lab) (hl : l < 3) (hx : ∀ c, zt x c = true → lab (64 * l + c) = o) (hne : o = none ∨ ∃ c, zt x c = true) : fX0_nodeWith F (nI l) x s = some (zenc o) := by
  obtain ⟨w1, w2, w3, w4⟩ := hw
  unfold fX0_nodeWith
  rw [show (0 : Int32) = nI 0 from rfl]
  refine zit_wf (fun p => ∃ v, p = nI v ∧ v ≤ N ∧ ∀ v', v' < v → ¬ o = some v') (fun p => 97 - p.toNatClampNeg) (fun r => r = some (zenc o)) ?_ F (nI 0) ⟨0, rfl, by omega, fun v' hv => by omega⟩ (by show 97 - _ < F; omega)
  rintro kc x4 ⟨v, rfl, hv, hno⟩
  show (∃ p', _ ∧ _ ∧ bX0_nodeWith_3 F (nI l) x s kc (nI v) = kc p') ∨ bX0_nodeWith_3 F (nI l) x s kc (nI v) = _
  unfold bX0_nodeWith_3
  rw [w1]
  by_cases hvN : v = N
  · right
    subst hvN
    rw [if_pos (show nI v ≤ nI v by rw [zle_nI (by omega) (by omega)]; omega)]
    cases o with
    | none => rfl
    | some k =>
      rcases hne with h | ⟨c, hc⟩
      · cases h
      · have h1 := hx c hc
        have h2 := w4 _ k (by have := zt_lt hc; omega) h1
        exact absurd rfl (hno k h2)
  · have hv' : v < N := by omega
    rw [if_neg (show ¬ nI N ≤ nI v by rw [zle_nI (by omega) (by omega)]; omega), zchk_nI hl (by decide), zchk_nI (show v < 96 by omega) (by decide), nI_clamp (show l < 2 ^ 31 by omega), nI_clamp (show v < 2 ^ 31 by omega)]
    by_cases h0 : zL s (zbs 0 + l) v &&& x = 0
    · left
      rw [if_pos ((zc_eq0 _ _).mpr h0), nI_1]
      refine ⟨nI (v + 1), ⟨v + 1, rfl, by omega, fun v' hv1 ho => ?_⟩, by show 97 - (nI (v + 1)).toNatClampNeg < _; rw [nI_clamp (by omega)]; omega, rfl⟩
      by_cases e : v' = v
      · subst e
        rcases hne with h | ⟨c, hc⟩
        · rw [h] at ho; cases ho
        · have h1 := hx c hc
          have h2 : zt (zL s (zbs 0 + l) v' &&& x) c = true := by
            rw [zt_and, Bool.and_eq_true]
            exact ⟨(w3 l hl v' hv' c).mpr ⟨zt_lt hc, by rw [h1, ho]⟩, hc⟩
          rw [h0, zt_0] at h2; cases h2
      · exact hno v' (by omega) ho
    · right
      rw [if_neg (fun h => h0 ((zc_eq0 _ _).mp h))]
      obtain ⟨c, hc, h2⟩ := zt_ne0.mp h0
      rw [zt_and, Bool.and_eq_true] at h2
      have h3 := hx c h2.2
      have h4 := ((w3 l hl v hv' c).mp h2.1).2
      rw [← h3, h4]; rfl
theorem zcw_cg {s : zOS} {N : Nat} {lab : Nat → Option Nat} {C : Nat → Int64} {Nd A B Sd : Nat → Int32} {n bk : Int32} (hw : zcw s N lab) : zcw (zcg s C Nd A B Sd n bk) N lab := by
  refine ⟨hw.1, hw.2.1, fun l hl v hv c => ?_, hw.2.2.2⟩
  rw [show zL (zcg s C Nd A B Sd n bk) (zbs 0 + l) = zL s (zbs 0 + l) from if_neg (show ¬ 13 + l = 8 by omega)]
  exact hw.2.2.1 l hl v hv c
def zgm (m : Int64) (j c : Nat) : Option Nat := if zt m c = true then some j else none
theorem zgm_iff {m : Int64} {j c : Nat} : zgm m j c = some j ↔ zt m c = true := by
  unfold zgm
  by_cases h : zt m c = true
  · rw [if_pos h]; exact ⟨fun _ => h, fun _ => rfl⟩
  · rw [if_neg h]; exact ⟨fun e => (by cases e), fun e => absurd e h⟩
/-- a side of the class's gate: a node row meets the cells beside -/
theorem p_side {s : zOS} {N v j : Nat} {lab : Nat → Option Nat} {m : Int64} (hw : zcw s N lab) (hv : v < N) : ¬ zL s (zbs 0 + 0) v &&& zbo m = 0 ↔ zsdb lab (zgm m j) j v = true := by
  obtain ⟨w1, w2, w3, w4⟩ := hw
  rw [zsdb_iff, zt_ne0]
  constructor
  · rintro ⟨d, hd, h⟩
    rw [zt_and, Bool.and_eq_true] at h
    obtain ⟨h1, h2⟩ := h
    obtain ⟨c, hc, s', h3, h4⟩ := (zbo_iff m hd).mp h2
    have h5 := ((w3 0 (by omega) v hv d).mp h1).2
    rw [show 64 * 0 + d = d by omega] at h5
    exact ⟨c, zt_lt hc, zgm_iff.mpr hc, s', h3, d, h4, h5⟩
  · rintro ⟨c, hc, h1, s', h2, d, h3, h4⟩
    have hc1 := zgm_iff.mp h1
    have hd := zbd_lt hc h3
    refine ⟨d, hd, ?_⟩
    rw [zt_and, Bool.and_eq_true]
    exact ⟨(w3 0 (by omega) v hv d).mpr ⟨hd, by rw [show 64 * 0 + d = d by omega]; exact h4⟩, (zbo_iff m hd).mpr ⟨c, hc1, s', h2, h3⟩⟩
def zwb (k : Nat) : Bool := decide (k = 1 ∨ k = 2)
theorem p_isWell {s : zOS} {j k : Nat} (hj : j < 32) (hk : k < 2 ^ 31) (h : zI s 12 j = nI k) : fX0_isWell (nI j) s = some (zb (zwb k)) := by
  unfold fX0_isWell zwb
  rw [zchk_nI hj (by decide), zchk_nI hj (by decide), nI_clamp (show j < 2 ^ 31 by omega), h]
  by_cases e1 : k = 1
  · rw [if_pos (show nI k = 1 by rw [e1]; rfl), decide_eq_true (Or.inl e1)]; rfl
  · rw [if_neg (show ¬ nI k = 1 from fun q => e1 ((nI_eq (a := k) (b := 1) hk (by decide)).mp q))]
    by_cases e2 : k = 2
    · rw [if_pos (show nI k = 2 by rw [e2]; rfl), decide_eq_true (Or.inr e2)]; rfl
    · rw [if_neg (show ¬ nI k = 2 from fun q => e2 ((nI_eq (a := k) (b := 2) hk (by decide)).mp q)), decide_eq_false (by omega)]; rfl
theorem p_findSidesC {s : zOS} {N j F bk : Nat} {lab : Nat → Option Nat} {C : Nat → Int64} {Nd A B Sd : Nat → Int32} {n : Int32} (hF : 1000 ≤ F) (hw : zcw s N lab) (hj : j < 32) :
    fX0_findSides F (nI j) (zcg s C Nd A B Sd n (nI bk)) = some (zcg s C Nd (upd A j (zwl (zscan (zsdb lab (zgm (C j) j) j) N).1 (zscan (zsdb lab (zgm (C j) j) j) N).2.1)) (upd B j (zwl (zscan (zsdb lab (zgm (C j) j) j) N).1 (zscan (zsdb lab (zgm (C j) j) j) N).2.2)) (upd Sd j (nI (zscan (zsdb lab (zgm (C j) j) j) N).1)) n (nI (bk + if zwb (zscan (zsdb lab (zgm (C j) j) j) N).1 then 0 else 1))) := by
  have hw' : zcw (zcg s C Nd A B Sd n (nI bk)) N lab := zcw_cg hw
  unfold fX0_findSides
  rw [zchk_nI hj (by decide), nI_clamp (show j < 2 ^ 31 by omega), show zL (zcg s C Nd A B Sd n (nI bk)) 8 = C from rfl, p_besideOf, Option.bind_some, show (0 : Int32) = nI 0 from rfl]
  generalize hS : zsdb lab (zgm (C j) j) j = S
  refine zit_wf (fun p => ∃ v, p = (nI (zscan S v).1, (zscan S v).2.1, (zscan S v).2.2, nI v) ∧ v ≤ N) (fun p => 200 - p.2.2.2.toNatClampNeg) (fun o => o = some (zcg s C Nd (upd A j (zwl (zscan S N).1 (zscan S N).2.1)) (upd B j (zwl (zscan S N).1 (zscan S N).2.2)) (upd Sd j (nI (zscan S N).1)) n (nI (bk + if zwb (zscan S N).1 then 0 else 1)))) ?_ F _ ⟨0, rfl, by omega⟩ (by show 200 - _ < F; omega)
  rintro kc ⟨x4, x5, x6, x7⟩ ⟨v, he, hv⟩
  obtain ⟨rfl, he2⟩ := Prod.mk.inj he
  obtain ⟨rfl, he3⟩ := Prod.mk.inj he2
  obtain ⟨rfl, rfl⟩ := Prod.mk.inj he3
  clear he he2 he3
  show (∃ p', _ ∧ _ ∧ bX0_findSides_22 F (nI j) (zbo (C j)) (zcg s C Nd A B Sd n (nI bk)) kc (nI (zscan S v).1) (zscan S v).2.1 (zscan S v).2.2 (nI v) = kc p') ∨ bX0_findSides_22 F (nI j) (zbo (C j)) (zcg s C Nd A B Sd n (nI bk)) kc (nI (zscan S v).1) (zscan S v).2.1 (zscan S v).2.2 (nI v) = _
  unfold bX0_findSides_22
  have hle := zscan_le S v
  have hN := hw.2.1
  rw [show zF (zcg s C Nd A B Sd n (nI bk)) 13 = nI N from hw.1]
  by_cases hvN : v = N
  · right
    subst hvN
    rw [if_pos (show nI v ≤ nI v by rw [zle_nI (by omega) (by omega)]; omega), zchk_nI hj (by decide), zlet_eq, nI_clamp (show j < 2 ^ 31 by omega), show zI (zcg s C Nd A B Sd n (nI bk)) 12 = Sd from rfl, zcg_s12]
    generalize hk : (zscan S v).1 = k at *
    generalize (zscan S v).2.1 = a
    generalize (zscan S v).2.2 = b
    rw [p_isWell (s := zcg s C Nd A B (upd Sd j (nI k)) n (nI bk)) (k := k) hj (by omega) (zud_s _ _ _), Option.bind_some]
    have j105 : ∀ (w : Bool) (x y : Int32), jX0_findSides_105 F (nI j) y (zb w) x (nI j) (zcg s C Nd A B (upd Sd j (nI k)) n (nI bk)) = some (zcg s C Nd (upd A j x) (upd B j (if w then y else -1)) (upd Sd j (nI k)) n (nI (bk + if w then 0 else 1))) := fun w x y => by
      unfold jX0_findSides_105 jX0_findSides_122 jX0_findSides_138
      rw [zchk_nI hj (by decide), zlet_eq, nI_clamp (show j < 2 ^ 31 by omega), show zI (zcg s C Nd A B (upd Sd j (nI k)) n (nI bk)) 10 = A from rfl, zcg_s10]
      cases w with
      | true =>
        rw [if_neg (show ¬ zb true = 0 by decide), zchk_nI hj (by decide), zlet_eq, show zI (zcg s C Nd (upd A j x) B (upd Sd j (nI k)) n (nI bk)) 11 = B from rfl, zcg_s11, if_neg (show ¬ zb true = 0 by decide), zlet_eq, show zF (zcg s C Nd (upd A j x) (upd B j y) (upd Sd j (nI k)) n (nI bk)) 15 + 0 = nI (bk + 0) from nI_add bk 0, zcg_f15]
        rfl
      | false =>
        rw [if_pos (show zb false = 0 from rfl), zchk_nI hj (by decide), zlet_eq, show zI (zcg s C Nd (upd A j x) B (upd Sd j (nI k)) n (nI bk)) 11 = B from rfl, zcg_s11, if_pos (show zb false = 0 from rfl), zlet_eq, show zF (zcg s C Nd (upd A j x) (upd B j (-1)) (upd Sd j (nI k)) n (nI bk)) 15 + 1 = nI (bk + 1) from nI_add bk 1, zcg_f15]
        rfl
    rw [zif_b, j105, j105]
    unfold zwl zwb
    by_cases e : k = 1 ∨ k = 2
    · rw [if_pos e, if_pos e, decide_eq_true e]; rfl
    · rw [if_neg e, if_neg e, decide_eq_false e]; rfl
  · left
    have hv' : v < N := by omega
    rw [if_neg (show ¬ nI N ≤ nI v by rw [zle_nI (by omega) (by omega)]; omega), zchk_ok (j := (0 : Int32)) (n := 3) (vp_in_nI (show 0 < 3 by decide) (by decide)), zchk_nI (show v < 96 by omega) (by decide), show Int32.toNatClampNeg 0 = 0 from rfl, nI_1, nI_1]
    refine ⟨(nI (zscan S (v + 1)).1, (zscan S (v + 1)).2.1, (zscan S (v + 1)).2.2, nI (v + 1)), ⟨v + 1, rfl, by omega⟩, by show 200 - (nI (v + 1)).toNatClampNeg < 200 - (nI v).toNatClampNeg; rw [nI_clamp (by omega), nI_clamp (by omega)]; omega, ?_⟩
    rw [nI_clamp (show v < 2 ^ 31 by omega)]
    have hside := p_side (j := j) (m := C j) hw' hv'
    rw [hS] at hside
    show _ = kc (nI (if S v then _ else _ : Nat × Int32 × Int32).1, (if S v then _ else _ : Nat × Int32 × Int32).2.1, (if S v then _ else _ : Nat × Int32 × Int32).2.2, nI (v + 1))
    cases e : S v with
    | false =>
      rw [if_pos ((zc_eq0 _ _).mpr (Classical.byContradiction fun h => by rw [hside.mp h] at e; cases e))]
      rfl
    | true =>
      rw [if_neg (fun h => hside.mpr e ((zc_eq0 _ _).mp h)), if_pos rfl]
      show _ = kc (nI ((zscan S v).1 + 1), (if (zscan S v).1 = 0 then nI v else (zscan S v).2.1), nI v, nI (v + 1))
      by_cases e : (zscan S v).1 = 0
      · rw [if_pos e, if_pos (by rw [e]; rfl)]
      · rw [if_neg e, if_neg (show ¬ nI (zscan S v).1 = 0 from fun q => e ((nI_eq (a := (zscan S v).1) (b := 0) (by omega) (by omega)).mp q))]
