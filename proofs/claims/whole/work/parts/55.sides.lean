/-! PURE: the gates' sides; what is told of a gate -/
def zsa (lab labG : Nat → Option Nat) (j v c : Nat) : Prop := labG c = some j ∧ ∃ s, s < 4 ∧ ∃ d, zbd c s = some d ∧ lab d = some v
def zsd (lab labG : Nat → Option Nat) (j v : Nat) : Prop := ∃ c, c < 64 ∧ zsa lab labG j v c
noncomputable def zsdb (lab labG : Nat → Option Nat) (j v : Nat) : Bool := @decide (zsd lab labG j v) (Classical.propDecidable _)
theorem zsdb_t {lab labG : Nat → Option Nat} {j v : Nat} (h : zsd lab labG j v) : zsdb lab labG j v = true := @decide_eq_true _ (Classical.propDecidable _) h
theorem zsdb_f {lab labG : Nat → Option Nat} {j v : Nat} (h : ¬ zsd lab labG j v) : zsdb lab labG j v = false := @decide_eq_false _ (Classical.propDecidable _) h
theorem zsdb_iff {lab labG : Nat → Option Nat} {j v : Nat} : zsdb lab labG j v = true ↔ zsd lab labG j v := ⟨fun h => @of_decide_eq_true _ (Classical.propDecidable _) h, zsdb_t⟩
def zscan (S : Nat → Bool) : Nat → Nat × Int32 × Int32
  | 0 => (0, -1, -1)
  | v + 1 => if S v then ((zscan S v).1 + 1, if (zscan S v).1 = 0 then nI v else (zscan S v).2.1, nI v) else zscan S v
theorem zscan_le (S : Nat → Bool) : ∀ v, (zscan S v).1 ≤ v
  | 0 => Nat.le_refl _
  | v + 1 => by
    have := zscan_le S v
    show (if S v then _ else _ : Nat × Int32 × Int32).1 ≤ v + 1
    split
    · show (zscan S v).1 + 1 ≤ v + 1; omega
    · omega
def zwl (k : Nat) (x : Int32) : Int32 := if k = 1 ∨ k = 2 then x else -1
def zgd (lab labG : Nat → Option Nat) (N j : Nat) (V : Nat → Int32) : Prop :=
  (∀ c, c < 64 → labG c = some j → V 0 = zenc (lab (64 + c))) ∧ V 1 = zwl (zscan (zsdb lab labG j) N).1 (zscan (zsdb lab labG j) N).2.1 ∧ V 2 = zwl (zscan (zsdb lab labG j) N).1 (zscan (zsdb lab labG j) N).2.2 ∧
  V 3 = nI (zcount (fun c => decide (labG c = some j)) 64) ∧ V 4 = nI (zscan (zsdb lab labG j) N).1 ∧ (∀ c, c < 64 → labG c = some j → (∀ c', c' < c → ¬ labG c' = some j) → V 5 = nI c)
theorem zenc_eq {o : Option Nat} {v : Nat} (ho : ∀ j, o = some j → j < 2 ^ 31) (hv : v < 2 ^ 31) : zenc o = nI v ↔ o = some v := by
  cases o with
  | none =>
    constructor
    · intro h; exact absurd h.symm (zenc_ne hv)
    · intro h; cases h
  | some j =>
    constructor
    · intro h; rw [(nI_eq (ho j rfl) hv).mp h]
    · intro h; rw [Option.some.inj h]; rfl
/-- the reference's arrays tell the labellings -/
def zqa (sD : zOS) (lab labG : Nat → Option Nat) : Prop := (∀ p, p < 192 → zI sD 5 p = zenc (lab p)) ∧ (∀ c, c < 64 → zI sD 6 c = zenc (labG c)) ∧ (∀ p j, p < 192 → lab p = some j → j < 192) ∧ (∀ c j, c < 64 → labG c = some j → j < 32)
theorem q_isSide {sD : zOS} {lab labG : Nat → Option Nat} {j v F : Nat} (hF : 1000 ≤ F) (hq : zqa sD lab labG) (hj : j < 32) (hv : v < 192) : fX5_isSide F (nI j) (nI v) sD = some (zb (zsdb lab labG j v)) := by
  obtain ⟨q1, q2, q3, q4⟩ := hq
  unfold fX5_isSide
  rw [show (0 : Int32) = nI 0 from rfl]
  have fin : ∀ fl : Bool, (fl = true → zsd lab labG j v) → (fl = false → ¬ zsd lab labG j v) → zbk (zb fl) (some (zb fl)) = some (zb (zsdb lab labG j v)) := fun fl h1 h2 => by
    rw [zbk_b]
    cases fl with
    | true => rw [zsdb_t (h1 rfl)]
    | false => rw [zsdb_f (h2 rfl)]
  refine zit_wf (fun p => ∃ fl c, p = (zb fl, nI c) ∧ c ≤ 64 ∧ (fl = true → zsd lab labG j v) ∧ (fl = false → ∀ c', c' < c → ¬ zsa lab labG j v c')) (fun p => 65 - p.2.toNatClampNeg) (fun o => o = some (zb (zsdb lab labG j v))) ?_ F (nI 0, nI 0) ⟨false, 0, rfl, by omega, fun h => (by cases h), fun _ c' hc => (by omega)⟩ (by show 65 - _ < F; omega)
  rintro kc ⟨x3, x4⟩ ⟨fl, c, he, hc, h1, h2⟩
  obtain ⟨rfl, rfl⟩ := Prod.mk.inj he
  show (∃ p', _ ∧ _ ∧ bX5_isSide_5 F (nI j) (nI v) sD kc (zb fl) (nI c) = kc p') ∨ bX5_isSide_5 F (nI j) (nI v) sD kc (zb fl) (nI c) = _
  unfold bX5_isSide_5
  rw [show (64 : Int32) = nI 64 from rfl]
  by_cases hc64 : c = 64
  · right
    subst hc64
    rw [if_pos (show nI 64 ≤ nI 64 by rw [zle_nI (by decide) (by decide)]; omega)]
    exact fin fl h1 (fun h ⟨c', h3, h4⟩ => h2 h c' h3 h4)
  · have hc' : c < 64 := by omega
    rw [if_neg (show ¬ nI 64 ≤ nI c by rw [zle_nI (by decide) (by omega)]; omega)]
    cases fl with
    | true =>
      right
      rw [if_neg (show ¬ zb true = 0 by decide)]
      exact fin true h1 (fun h => by cases h)
    | false =>
      left
      rw [if_pos (show zb false = 0 from rfl), show (0 : Int32) = nI 0 from rfl]
      refine zit_wf (fun p => ∃ fl s, p = (zb fl, nI s) ∧ s ≤ 4 ∧ (s = 0 ∨ labG c = some j) ∧ (fl = true → zsd lab labG j v) ∧ (fl = false → ∀ s', s' < s → ∀ d, zbd c s' = some d → ¬ lab d = some v)) (fun p => 5 - p.2.toNatClampNeg) (fun o => ∃ p', (∃ fl c, p' = (zb fl, nI c) ∧ c ≤ 64 ∧ (fl = true → zsd lab labG j v) ∧ (fl = false → ∀ c', c' < c → ¬ zsa lab labG j v c')) ∧ 65 - p'.2.toNatClampNeg < 65 - (nI c).toNatClampNeg ∧ o = kc p') ?_ F (zb false, nI 0) ⟨false, 0, rfl, by omega, Or.inl rfl, fun h => (by cases h), fun _ s' hs => by omega⟩ (by show 5 - _ < F; omega)
      rintro kc2 ⟨x3, x5⟩ ⟨fl, s, he, hs, hs0, h3, h4⟩
      obtain ⟨rfl, rfl⟩ := Prod.mk.inj he
      show (∃ p', _ ∧ _ ∧ bX5_isSide_19 F kc (nI j) (nI v) (nI c) sD kc2 (zb fl) (nI s) = kc2 p') ∨ (∃ p', _ ∧ _ ∧ bX5_isSide_19 F kc (nI j) (nI v) (nI c) sD kc2 (zb fl) (nI s) = kc p')
      unfold bX5_isSide_19
      have out : (fl = false → ¬ zsa lab labG j v c) → ∃ p', (∃ fl c, p' = (zb fl, nI c) ∧ c ≤ 64 ∧ (fl = true → zsd lab labG j v) ∧ (fl = false → ∀ c', c' < c → ¬ zsa lab labG j v c')) ∧ 65 - p'.2.toNatClampNeg < 65 - (nI c).toNatClampNeg ∧ kc (zb fl, nI c + 1) = kc p' := fun hh =>
        ⟨(zb fl, nI (c + 1)), ⟨fl, c + 1, rfl, by omega, h3, fun hfl c' hc1 => by
          by_cases e : c' = c
          · subst e; exact hh hfl
          · exact h2 rfl c' (by omega)⟩, by show 65 - (nI (c + 1)).toNatClampNeg < _; rw [nI_clamp (by omega), nI_clamp (by omega)]; omega, by rw [nI_1]⟩
      by_cases hs4 : s = 4
      · right
        subst hs4
        rw [if_pos (show (4 : Int32) ≤ nI 4 by decide)]
        exact out (fun hfl ⟨_, s', k1, d, k2, k3⟩ => h4 hfl s' k1 d k2 k3)
      · have hs' : s < 4 := by omega
        rw [if_neg (show ¬ (4 : Int32) ≤ nI s by rw [show (4 : Int32) = nI 4 from rfl, zle_nI (by decide) (by omega)]; omega), zchk_nI hc' (by decide)]
        by_cases hg : labG c = some j
        · left
          rw [if_pos (show zI sD 6 (nI c).toNatClampNeg = nI j by rw [nI_clamp (by omega), q2 c hc', hg]; rfl), q_beside_all c hc' s hs', Option.bind_some, nI_1]
          have stay : (fl = false → ∀ d, zbd c s = some d → ¬ lab d = some v) → ∃ p', (∃ fl s, p' = (zb fl, nI s) ∧ s ≤ 4 ∧ (s = 0 ∨ labG c = some j) ∧ (fl = true → zsd lab labG j v) ∧ (fl = false → ∀ s', s' < s → ∀ d, zbd c s' = some d → ¬ lab d = some v)) ∧ 5 - p'.2.toNatClampNeg < 5 - (nI s).toNatClampNeg ∧ kc2 (zb fl, nI (s + 1)) = kc2 p' := fun hh =>
            ⟨(zb fl, nI (s + 1)), ⟨fl, s + 1, rfl, by omega, Or.inr hg, h3, fun hfl s' hs1 d hd => by
              by_cases e : s' = s
              · subst e; exact hh hfl d hd
              · exact h4 hfl s' (by omega) d hd⟩, by show 5 - (nI (s + 1)).toNatClampNeg < _; rw [nI_clamp (by omega), nI_clamp (by omega)]; omega, rfl⟩
          cases fl with
          | true =>
            rw [if_neg (show ¬ zb true = 0 by decide)]
            exact stay (fun h => by cases h)
          | false =>
            rw [if_pos (show zb false = 0 from rfl)]
            cases hbd : zbd c s with
            | none =>
              rw [if_pos (show zenc none = -1 from rfl)]
              exact stay (fun _ d hd => by rw [hbd] at hd; cases hd)
            | some d =>
              have hd64 := zbd_lt hc' hbd
              rw [if_neg (show ¬ zenc (some d) = -1 from zenc_ne (by omega)), show zenc (some d) = nI d from rfl, zchk_nI (show d < 192 by omega) (by decide), nI_clamp (show d < 2 ^ 31 by omega), q1 d (by omega)]
              by_cases hl : lab d = some v
              · rw [if_pos ((zenc_eq (fun i hi => by have := q3 d i (by omega) hi; omega) (by omega)).mpr hl)]
                exact ⟨(zb true, nI (s + 1)), ⟨true, s + 1, rfl, by omega, Or.inr hg, fun _ => ⟨c, hc', hg, s, hs', d, hbd, hl⟩, fun h => by cases h⟩, by show 5 - (nI (s + 1)).toNatClampNeg < _; rw [nI_clamp (by omega), nI_clamp (by omega)]; omega, rfl⟩
              · rw [if_neg (fun h => hl ((zenc_eq (fun i hi => by have := q3 d i (by omega) hi; omega) (by omega)).mp h))]
                exact stay (fun _ d' hd' => by rw [hbd] at hd'; rw [← Option.some.inj hd']; exact hl)
        · right
          rw [if_neg (show ¬ zI sD 6 (nI c).toNatClampNeg = nI j by rw [nI_clamp (by omega), q2 c hc', zenc_eq (fun i hi => by have := q4 c i hc' hi; omega) (by omega)]; exact hg)]
          exact out (fun _ h => hg h.1)
theorem nI6 {j k : Nat} : (6 : Int32) * nI j + nI k = nI (6 * j + k) := by
  rw [show (6 : Int32) = nI 6 from rfl, pk_mul, nI_add]
theorem nI61 {j : Nat} : (6 : Int32) * nI j + 1 = nI (6 * j + 1) := nI6 (k := 1)
theorem nI62 {j : Nat} : (6 : Int32) * nI j + 2 = nI (6 * j + 2) := nI6 (k := 2)
theorem nI64 {j : Nat} : (6 : Int32) * nI j + 4 = nI (6 * j + 4) := nI6 (k := 4)
theorem zwl_if {α : Type} {k : Nat} {x : Int32} (hk : k < 2 ^ 31) (f : Int32 → α) : (if nI k = 1 then f x else if nI k = 2 then f x else f (-1)) = f (zwl k x) := by
  unfold zwl
  by_cases e1 : k = 1
  · rw [if_pos (show nI k = 1 by rw [e1]; rfl), if_pos (Or.inl e1)]
  · rw [if_neg (show ¬ nI k = 1 from fun q => e1 ((nI_eq (a := k) (b := 1) hk (by decide)).mp q))]
    by_cases e2 : k = 2
    · rw [if_pos (show nI k = 2 by rw [e2]; rfl), if_pos (Or.inr e2)]
    · rw [if_neg (show ¬ nI k = 2 from fun q => e2 ((nI_eq (a := k) (b := 2) hk (by decide)).mp q)), if_neg (by omega)]
theorem zsI_8I {σ : zOS} {J K : Nat → Int32} : zsI (zsI σ 8 J) 8 K = zsI σ 8 K := zsI_I
theorem q_countSides {sD : zOS} {lab labG : Nat → Option Nat} {j N F : Nat} {G : Nat → Int32} (hF : 1000 ≤ F) (hq : zqa sD lab labG) (hj : j < 32) (hN : N ≤ 192) (h7 : zF sD 7 = nI N) :
    fX5_countSides F (nI j) (zsI sD 8 G) = some (zsI sD 8 (upd (upd (upd G (6 * j + 4) (nI (zscan (zsdb lab labG j) N).1)) (6 * j + 1) (zwl (zscan (zsdb lab labG j) N).1 (zscan (zsdb lab labG j) N).2.1)) (6 * j + 2) (zwl (zscan (zsdb lab labG j) N).1 (zscan (zsdb lab labG j) N).2.2))) := by
  unfold fX5_countSides
  rw [show (0 : Int32) = nI 0 from rfl]
  refine zit_wf (fun p => ∃ v, p = (nI (zscan (zsdb lab labG j) v).1, (zscan (zsdb lab labG j) v).2.1, (zscan (zsdb lab labG j) v).2.2, nI v) ∧ v ≤ N) (fun p => 200 - p.2.2.2.toNatClampNeg) (fun o => o = some (zsI sD 8 (upd (upd (upd G (6 * j + 4) (nI (zscan (zsdb lab labG j) N).1)) (6 * j + 1) (zwl (zscan (zsdb lab labG j) N).1 (zscan (zsdb lab labG j) N).2.1)) (6 * j + 2) (zwl (zscan (zsdb lab labG j) N).1 (zscan (zsdb lab labG j) N).2.2)))) ?_ F _ ⟨0, rfl, by omega⟩ (by show 200 - _ < F; omega)
  rintro kc ⟨x2, x3, x4, x5⟩ ⟨v, he, hv⟩
  obtain ⟨rfl, he2⟩ := Prod.mk.inj he
  obtain ⟨rfl, he3⟩ := Prod.mk.inj he2
  obtain ⟨rfl, rfl⟩ := Prod.mk.inj he3
  clear he he2 he3
  show (∃ p', _ ∧ _ ∧ bX5_countSides_10 F (nI j) (zsI sD 8 G) kc (nI (zscan (zsdb lab labG j) v).1) (zscan (zsdb lab labG j) v).2.1 (zscan (zsdb lab labG j) v).2.2 (nI v) = kc p') ∨ bX5_countSides_10 F (nI j) (zsI sD 8 G) kc (nI (zscan (zsdb lab labG j) v).1) (zscan (zsdb lab labG j) v).2.1 (zscan (zsdb lab labG j) v).2.2 (nI v) = _
  unfold bX5_countSides_10
  have hle := zscan_le (zsdb lab labG j) v
  rw [show zF (zsI sD 8 G) 7 = nI N from h7]
  by_cases hvN : v = N
  · right
    subst hvN
    rw [if_pos (show nI v ≤ nI v by rw [zle_nI (by omega) (by omega)]; omega), nI64, nI61, zchk_nI (show 6 * j + 4 < 192 by omega) (by decide), zlet_eq, nI_clamp (show 6 * j + 4 < 2 ^ 31 by omega), show zI (zsI sD 8 G) 8 = G from rfl, zsI_8I]
    generalize hk : (zscan (zsdb lab labG j) v).1 = k at *
    generalize (zscan (zsdb lab labG j) v).2.1 = a
    generalize (zscan (zsdb lab labG j) v).2.2 = b
    have c117 : ∀ (x : Int32) (H : Nat → Int32), jX5_countSides_117 F x (nI (6 * j + 2)) (zsI sD 8 H) = some (zsI sD 8 (upd H (6 * j + 2) x)) := fun x H => by
      unfold jX5_countSides_117
      rw [zchk_nI (show 6 * j + 2 < 192 by omega) (by decide), zlet_eq, nI_clamp (show 6 * j + 2 < 2 ^ 31 by omega), show zI (zsI sD 8 H) 8 = H from rfl, zsI_8I]
    have c90 : ∀ (x : Int32) (H : Nat → Int32), jX5_countSides_90 F (nI j) (nI k) b x (nI (6 * j + 1)) (zsI sD 8 H) = some (zsI sD 8 (upd (upd H (6 * j + 1) x) (6 * j + 2) (zwl k b))) := fun x H => by
      unfold jX5_countSides_90 jX5_countSides_111
      rw [zchk_nI (show 6 * j + 1 < 192 by omega) (by decide), zlet_eq, nI_clamp (show 6 * j + 1 < 2 ^ 31 by omega), show zI (zsI sD 8 H) 8 = H from rfl, zsI_8I, nI62, c117, c117]
      exact zwl_if (by omega) (fun y => some (zsI sD 8 (upd (upd H (6 * j + 1) x) (6 * j + 2) y)))
    unfold jX5_countSides_85
    rw [c90, c90]
    exact zwl_if (by omega) (fun y => some (zsI sD 8 (upd (upd (upd G (6 * j + 4) (nI k)) (6 * j + 1) y) (6 * j + 2) (zwl k b))))
  · left
    have hq' : zqa (zsI sD 8 G) lab labG := hq
    rw [if_neg (show ¬ nI N ≤ nI v by rw [zle_nI (by omega) (by omega)]; omega), q_isSide hF hq' hj (show v < 192 by omega), Option.bind_some, zif_b, nI_1, nI_1]
    refine ⟨(nI (zscan (zsdb lab labG j) (v + 1)).1, (zscan (zsdb lab labG j) (v + 1)).2.1, (zscan (zsdb lab labG j) (v + 1)).2.2, nI (v + 1)), ⟨v + 1, rfl, by omega⟩, by show 200 - (nI (v + 1)).toNatClampNeg < 200 - (nI v).toNatClampNeg; rw [nI_clamp (by omega), nI_clamp (by omega)]; omega, ?_⟩
    show _ = kc (nI (if zsdb lab labG j v then _ else _ : Nat × Int32 × Int32).1, (if zsdb lab labG j v then _ else _ : Nat × Int32 × Int32).2.1, (if zsdb lab labG j v then _ else _ : Nat × Int32 × Int32).2.2, nI (v + 1))
    cases zsdb lab labG j v with
    | false => rfl
    | true =>
      rw [if_pos rfl]
      show _ = kc (nI ((zscan (zsdb lab labG j) v).1 + 1), (if (zscan (zsdb lab labG j) v).1 = 0 then nI v else (zscan (zsdb lab labG j) v).2.1), nI v, nI (v + 1))
      by_cases e : (zscan (zsdb lab labG j) v).1 = 0
      · rw [if_pos e, if_pos (by rw [e]; rfl)]
      · rw [if_neg e, if_neg (show ¬ nI (zscan (zsdb lab labG j) v).1 = 0 from fun q => e ((nI_eq (a := (zscan (zsdb lab labG j) v).1) (b := 0) (by omega) (by omega)).mp q))]
