/-! PURE: the reference's gates -/
def zgc (b : Nat → Nat → Bool) (c : Nat) : Bool := decide (c < 64) && (b 0 c && b 1 c)
theorem zgc_lt {b : Nat → Nat → Bool} {c : Nat} (h : zgc b c = true) : c < 64 := by
  unfold zgc at h
  rw [Bool.and_eq_true] at h
  exact of_decide_eq_true h.1
theorem zgc_eq {b : Nat → Nat → Bool} {c : Nat} (h : c < 64) : zgc b c = (b 0 c && b 1 c) := by unfold zgc; rw [decide_eq_true h]; rfl
theorem znb_sym {c d : Nat} (hc : c < 64) (h : znb c d) : znb d c := by
  obtain ⟨s, h1, h2⟩ := h
  exact zbd_sym_all c hc s h1 d (zbd_lt hc h2) h2
/-- the gates' adjacency, symmetric everywhere -/
def zga (c d : Nat) : Prop := c < 64 ∧ d < 64 ∧ znb c d
theorem zga_sym {c d : Nat} (h : zga c d) : zga d c := ⟨h.2.1, h.1, znb_sym h.1 h.2.2⟩
def zhg (s : zOS) (f r : Nat → Int32) (m n : Int32) : zOS := (va_up (va_up s.1 6 f) 7 r, s.2.1, va_up (va_up s.2.2.1 10 n) 12 m, s.2.2.2)
theorem zhg_s6 {s : zOS} {f f' r : Nat → Int32} {m n : Int32} : zsI (zhg s f r m n) 6 f' = zhg s f' r m n := by
  unfold zsI zhg
  show (va_up (va_up (va_up s.1 6 f) 7 r) 6 f', _) = _
  rw [va_cm (va_up s.1 6 f) (show 7 ≠ 6 by decide), bx_uu]
theorem zhg_s7 {s : zOS} {f r r' : Nat → Int32} {m n : Int32} : zsI (zhg s f r m n) 7 r' = zhg s f r' m n := by
  unfold zsI zhg
  show (va_up (va_up (va_up s.1 6 f) 7 r) 7 r', _) = _
  rw [bx_uu]
theorem zhg_s12 {s : zOS} {f r : Nat → Int32} {m m' n : Int32} : zsF (zhg s f r m n) 12 m' = zhg s f r m' n := by
  unfold zsF zhg
  show (_, _, va_up (va_up (va_up s.2.2.1 10 n) 12 m) 12 m', _) = _
  rw [bx_uu]
theorem zhg_s10 {s : zOS} {f r : Nat → Int32} {m n n' : Int32} : zsF (zhg s f r m n) 10 n' = zhg s f r m n' := by
  unfold zsF zhg
  show (_, _, va_up (va_up (va_up s.2.2.1 10 n) 12 m) 10 n', _) = _
  rw [va_cm (va_up s.2.2.1 10 n) (show 12 ≠ 10 by decide), bx_uu]
theorem zhg_0 (s : zOS) (n : Int32) : zsF s 10 n = zhg s (zI s 6) (zI s 7) (zF s 12) n := by
  obtain ⟨a, b, c, d⟩ := s
  have e1 : va_up (va_up a 6 (a 6)) 7 (a 7) = a := by
    funext k
    show (if k = 7 then a 7 else if k = 6 then a 6 else a k) = a k
    by_cases h1 : k = 7
    · rw [if_pos h1, h1]
    · rw [if_neg h1]
      by_cases h2 : k = 6
      · rw [if_pos h2, h2]
      · rw [if_neg h2]
  have e2 : va_up (va_up c 10 n) 12 (c 12) = va_up c 10 n := by
    funext k
    show (if k = 12 then c 12 else if k = 10 then n else c k) = if k = 10 then n else c k
    by_cases h1 : k = 12
    · rw [if_pos h1, if_neg (by omega), h1]
    · rw [if_neg h1]
  show (a, b, va_up c 10 n, d) = (va_up (va_up a 6 (a 6)) 7 (a 7), b, va_up (va_up c 10 n) 12 (c 12), d)
  rw [e1, e2]
def zflg (s : zOS) (lab0 : Nat → Option Nat) (n k : Nat) (σ : zOS) (lab : Nat → Option Nat) (ro : Nat → Nat) (m : Nat) : Prop :=
  (∃ f r, σ = zhg s f r (nI m) (nI n) ∧ (∀ p, p < 64 → f p = zenc (lab p)) ∧ ∀ j, j < m → r j = nI (ro j)) ∧ zbi 64 (zgc (zmb (zI s 1))) zga lab0 n k lab ro m ∧ (∀ p j, p < 64 → lab0 p = some j → j < n) ∧ n < 1000
theorem zflg_put {s : zOS} {f r : Nat → Int32} {lab : Nat → Option Nat} {ro : Nat → Nat} {m n p : Nat} (hf : ∀ p, p < 64 → f p = zenc (lab p)) (hr : ∀ j, j < m → r j = nI (ro j)) :
    ∃ f' r', zhg s (upd f p (nI n)) (upd r m (nI p)) (nI (m + 1)) (nI n) = zhg s f' r' (nI (m + 1)) (nI n) ∧ (∀ q, q < 64 → f' q = zenc (va_up lab p (some n) q)) ∧ ∀ j, j < m + 1 → r' j = nI (va_up ro m p j) := by
  refine ⟨_, _, rfl, fun q hq => ?_, fun j hj => ?_⟩
  · show (if q = p then nI n else f q) = zenc (if q = p then some n else lab q)
    by_cases h : q = p
    · rw [if_pos h, if_pos h]; rfl
    · rw [if_neg h, if_neg h]; exact hf q hq
  · show (if j = m then nI p else r j) = nI (if j = m then p else ro j)
    by_cases h : j = m
    · rw [if_pos h, if_pos h]
    · rw [if_neg h, if_neg h]; exact hr j (by omega)
theorem q_goGate {s σ : zOS} {lab0 lab : Nat → Option Nat} {ro : Nat → Nat} {m n k p F : Nat} (hF : 10 ≤ F) (h : zflg s lab0 n k σ lab ro m) (hp : p < 64) (hw : zgc (zmb (zI s 1)) p = true) (hc : zcn (zgc (zmb (zI s 1))) zga k p) :
    ∃ σ' lab' ro' m', fX5_goGate F (nI p) σ = some σ' ∧ zflg s lab0 n k σ' lab' ro' m' ∧ zgr lab ro m lab' ro' m' ∧ ∀ q, q < 64 → zgc (zmb (zI s 1)) q = true → zga p q → ¬ lab' q = none := by
  unfold fX5_goGate
  refine zit_wf (fun P => ∃ t σt labt rot mt, P = (nI t, σt) ∧ t ≤ 4 ∧ zflg s lab0 n k σt labt rot mt ∧ zgr lab ro m labt rot mt ∧ ∀ t', t' < t → ∀ d, zbd p t' = some d → zgc (zmb (zI s 1)) d = true → ¬ labt d = none) (fun P => 4 - P.1.toNatClampNeg) (fun o => ∃ σ' lab' ro' m', o = some σ' ∧ zflg s lab0 n k σ' lab' ro' m' ∧ zgr lab ro m lab' ro' m' ∧ ∀ q, q < 64 → zgc (zmb (zI s 1)) q = true → zga p q → ¬ lab' q = none) ?_ F (nI 0, σ) ⟨0, σ, lab, ro, m, rfl, by omega, h, zgr_refl, fun t' ht => by omega⟩ (by show 4 - _ < F; omega)
  clear h
  rintro kc ⟨x2, σt⟩ ⟨t, σt', labt, rot, mt, he, ht, hz, hg, hd⟩
  obtain ⟨rfl, rfl⟩ := Prod.mk.inj he
  show (∃ p', _ ∧ _ ∧ bX5_goGate_2 F (nI p) kc (nI t) σt = kc p') ∨ (∃ σ' lab' ro' m', bX5_goGate_2 F (nI p) kc (nI t) σt = some σ' ∧ _)
  unfold bX5_goGate_2
  by_cases h4 : t = 4
  · right
    subst h4
    rw [if_pos (show (4 : Int32) ≤ nI 4 by decide)]
    refine ⟨σt, labt, rot, mt, rfl, hz, hg, fun q hq hwq ha => ?_⟩
    obtain ⟨-, -, t', h1, h2⟩ := ha
    exact hd t' h1 q h2 hwq
  · left
    have ht4 : t < 4 := by omega
    rw [if_neg (show ¬ (4 : Int32) ≤ nI t by rw [show (4 : Int32) = nI 4 from rfl, zle_nI (by decide) (by omega)]; omega), q_beside_all p hp t ht4, Option.bind_some, nI_1]
    have next : (∀ d, zbd p t = some d → zgc (zmb (zI s 1)) d = true → ¬ labt d = none) → ∃ p', (∃ t σt labt rot mt, p' = (nI t, σt) ∧ t ≤ 4 ∧ zflg s lab0 n k σt labt rot mt ∧ zgr lab ro m labt rot mt ∧ ∀ t', t' < t → ∀ d, zbd p t' = some d → zgc (zmb (zI s 1)) d = true → ¬ labt d = none) ∧ 4 - p'.1.toNatClampNeg < 4 - (nI t).toNatClampNeg ∧ kc (nI (t + 1), σt) = kc p' := fun hh =>
      ⟨(nI (t + 1), σt), ⟨t + 1, σt, labt, rot, mt, rfl, by omega, hz, hg, fun t' ht' d hd' hwd => by
        by_cases e : t' = t
        · subst e; exact hh d hd' hwd
        · exact hd t' (by omega) d hd' hwd⟩, by show 4 - (nI (t + 1)).toNatClampNeg < _; rw [nI_clamp (by omega), nI_clamp (by omega)]; omega, rfl⟩
    cases hbd : zbd p t with
    | none =>
      rw [if_pos (show zenc none = -1 from rfl)]
      exact next (fun d hd' => by rw [hbd] at hd'; cases hd')
    | some d =>
      have hd64 := zbd_lt hp hbd
      obtain ⟨⟨f, r, rfl, hf, hr⟩, hbi, h0, hn⟩ := id hz
      rw [if_neg (show ¬ zenc (some d) = -1 from zenc_ne (by omega)), show zenc (some d) = nI d from rfl, q_isGateCell hd64, Option.bind_some, zif_b, show zI (zhg s f r (nI mt) (nI n)) 1 = zI s 1 from rfl, ← zgc_eq hd64]
      cases hwd : zgc (zmb (zI s 1)) d with
      | false => exact next (fun d' hd' hw' => by rw [hbd] at hd'; have e := Option.some.inj hd'; subst e; rw [hwd] at hw'; cases hw')
      | true =>
        rw [if_pos rfl, zchk_nI hd64 (by decide), zchk_nI hd64 (by decide), nI_clamp (show d < 2 ^ 31 by omega), show zI (zhg s f r (nI mt) (nI n)) 6 = f from rfl, hf d hd64]
        cases hl : labt d with
        | some j =>
          have hj : j < 2 ^ 31 := by
            rcases hbi.2.1 d hd64 with h1 | h1
            · rw [hl] at h1; have := h0 d j hd64 h1.symm; omega
            · rw [hl] at h1; have := Option.some.inj h1.2; omega
          rw [if_neg (show ¬ zenc (some j) = -1 from zenc_ne hj)]
          exact next (fun d' hd' hw' => by rw [hbd] at hd'; have e := Option.some.inj hd'; subst e; rw [hl]; simp)
        | none =>
          have hroom := zbi_room hbi hd64 hwd hl
          have hcd : zcn (zgc (zmb (zI s 1))) zga k d := zcn_step hc hw hwd ⟨hp, hd64, t, ht4, hbd⟩
          obtain ⟨g1, g2, g3, g4, g5⟩ := ztk_bi hbi hd64 (fun _ => hcd) (Or.inl ⟨hwd, hl, rfl, rfl, rfl⟩)
          rw [if_pos (show zenc none = -1 from rfl), zlet_eq, show zF (zhg s f r (nI mt) (nI n)) 10 = nI n from rfl, zhg_s6, show zF (zhg s (upd f d (nI n)) r (nI mt) (nI n)) 12 = nI mt from rfl, zchk_nI (show mt < 192 by omega) (by decide), zlet_eq, nI_clamp (show mt < 2 ^ 31 by omega), show zI (zhg s (upd f d (nI n)) r (nI mt) (nI n)) 7 = r from rfl, zhg_s7, zlet_eq, show zF (zhg s (upd f d (nI n)) (upd r mt (nI d)) (nI mt) (nI n)) 12 = nI mt from rfl, zhg_s12, nI_1]
          refine ⟨(nI (t + 1), zhg s (upd f d (nI n)) (upd r mt (nI d)) (nI (mt + 1)) (nI n)), ⟨t + 1, _, _, _, mt + 1, rfl, by omega, ⟨zflg_put hf hr, g1, h0, hn⟩, zgr_trans hg ⟨g2, g3, g4⟩, fun t' ht' d' hd' hwd' => ?_⟩, by show 4 - (nI (t + 1)).toNatClampNeg < _; rw [nI_clamp (by omega), nI_clamp (by omega)]; omega, rfl⟩
          by_cases e : t' = t
          · subst e
            rw [hbd] at hd'
            have e2 := Option.some.inj hd'
            subst e2
            exact g5 hwd
          · exact g2 _ (hd t' (by omega) d' hd' hwd')
theorem q_findGates {sD : zOS} {F : Nat} (hF : 1000 ≤ F) : ∃ n lab f r mm, fX5_findGates F sD = some (zhg sD f r mm (nI n)) ∧ zlab 64 (zgc (zmb (zI sD 1))) zga lab n ∧ (∀ p, p < 64 → f p = zenc (lab p)) ∧ n ≤ 32 := by
  unfold fX5_findGates
  rw [zlet_eq, show (0 : Int32) = nI 0 from rfl, zhg_0]
  refine zit_wf (fun P => ∃ t f r mm, P = (nI t, zhg sD f r mm (nI 0)) ∧ t ≤ 64 ∧ ∀ p, p < t → f p = -1) (fun P => 64 - P.1.toNatClampNeg) (fun o => ∃ n lab f r mm, o = some (zhg sD f r mm (nI n)) ∧ zlab 64 (zgc (zmb (zI sD 1))) zga lab n ∧ (∀ p, p < 64 → f p = zenc (lab p)) ∧ n ≤ 32) ?_ F _ ⟨0, _, _, _, rfl, by omega, fun p hp => by omega⟩ (by show 64 - _ < F; omega)
  rintro kc ⟨x1, σ⟩ ⟨t, f, r, mm, he, ht, hf⟩
  obtain ⟨rfl, rfl⟩ := Prod.mk.inj he
  show (∃ p', _ ∧ _ ∧ bX5_findGates_7 F kc (nI t) (zhg sD f r mm (nI 0)) = kc p') ∨ (∃ n lab f' r' mm', bX5_findGates_7 F kc (nI t) (zhg sD f r mm (nI 0)) = some (zhg sD f' r' mm' (nI n)) ∧ _)
  unfold bX5_findGates_7
  rw [show (64 : Int32) = nI 64 from rfl]
  by_cases h64 : t = 64
  · right
    subst h64
    rw [if_pos (show nI 64 ≤ nI 64 by rw [zle_nI (by decide) (by decide)]; omega), show (0 : Int32) = nI 0 from rfl]
    refine zit_wf (fun P => ∃ n k lab f r mm, P = (nI k, zhg sD f r mm (nI n)) ∧ k ≤ 64 ∧ n ≤ k ∧ zoi 64 (zgc (zmb (zI sD 1))) zga lab n k ∧ ∀ p, p < 64 → f p = zenc (lab p)) (fun P => 64 - P.1.toNatClampNeg) (fun o => ∃ n lab f r mm, o = some (zhg sD f r mm (nI n)) ∧ zlab 64 (zgc (zmb (zI sD 1))) zga lab n ∧ (∀ p, p < 64 → f p = zenc (lab p)) ∧ n ≤ 32) ?_ F (nI 0, zhg sD f r mm (nI 0)) ⟨0, 0, fun _ => none, f, r, mm, rfl, by omega, by omega, zoi_0 (fun _ _ => rfl), fun p hp => hf p hp⟩ (by show 64 - _ < F; omega)
    clear hf he f r mm
    rintro kc2 ⟨x1, σ⟩ ⟨n, k, lab, f, r, mm, he, hk, hnk, ho, hf⟩
    obtain ⟨rfl, rfl⟩ := Prod.mk.inj he
    show (∃ p', _ ∧ _ ∧ bX5_findGates_28 F kc2 (nI k) (zhg sD f r mm (nI n)) = kc2 p') ∨ (∃ n' lab' f' r' mm', bX5_findGates_28 F kc2 (nI k) (zhg sD f r mm (nI n)) = some (zhg sD f' r' mm' (nI n')) ∧ _)
    unfold bX5_findGates_28
    rw [show (64 : Int32) = nI 64 from rfl]
    by_cases hk64 : k = 64
    · right
      subst hk64
      rw [if_pos (show nI 64 ≤ nI 64 by rw [zle_nI (by decide) (by decide)]; omega)]
      exact ⟨n, lab, f, r, mm, rfl, zoi_end ho, hf, (zoi_cap (M := 32) (fun p q hp hq h1 h2 => ⟨hp, hq, znb_dom p hp q hq h1 h2⟩) ho).1⟩
    · left
      have hk' : k < 64 := by omega
      have skip : (zgc (zmb (zI sD 1)) k = false ∨ ¬ lab k = none) → ∃ p', (∃ n k lab f r mm, p' = (nI k, zhg sD f r mm (nI n)) ∧ k ≤ 64 ∧ n ≤ k ∧ zoi 64 (zgc (zmb (zI sD 1))) zga lab n k ∧ ∀ p, p < 64 → f p = zenc (lab p)) ∧ 64 - p'.1.toNatClampNeg < 64 - k ∧ kc2 (nI k + 1, zhg sD f r mm (nI n)) = kc2 p' := fun hsk => ⟨(nI (k + 1), zhg sD f r mm (nI n)), ⟨n, k + 1, lab, f, r, mm, rfl, by omega, by omega, zoi_skip ho hsk, hf⟩, by show 64 - (nI (k + 1)).toNatClampNeg < _; rw [nI_clamp (by omega)]; omega, by rw [nI_1]⟩
      rw [nI_clamp (show k < 2 ^ 31 by omega), if_neg (show ¬ nI 64 ≤ nI k by rw [zle_nI (by decide) (by omega)]; omega), q_isGateCell hk', Option.bind_some, zif_b, show zI (zhg sD f r mm (nI n)) 1 = zI sD 1 from rfl, ← zgc_eq hk']
      cases hw : zgc (zmb (zI sD 1)) k with
      | false => exact skip (Or.inl hw)
      | true =>
        rw [if_pos rfl, zchk_nI hk' (by decide), zchk_nI hk' (by decide), show zI (zhg sD f r mm (nI n)) 6 = f from rfl, hf k hk']
        cases hl : lab k with
        | some j =>
          rw [if_neg (show ¬ zenc (some j) = -1 from zenc_ne (by have := ho.2.1 k j hk' hl; omega))]
          exact skip (Or.inr (by rw [hl]; simp))
        | none =>
          rw [if_pos (show zenc none = -1 from rfl), zlet_eq, show zF (zhg sD f r mm (nI n)) 10 = nI n from rfl, zhg_s6, zlet_eq, zhg_s12, show (0 : Int32) = nI 0 from rfl, zchk_nI (show 0 < 192 by decide) (by decide), zlet_eq, nI_clamp (show 0 < 2 ^ 31 by decide), show zI (zhg sD (upd f k (nI n)) r 1 (nI n)) 7 = r from rfl, zhg_s7]
          have z0 := ztk_bi (zbi_start (ro := fun _ => 0) ho) hk' (fun _ => zcn_refl) (Or.inl ⟨hw, hl, rfl, rfl, rfl⟩)
          have z1 : zflg sD lab n k (zhg sD (upd f k (nI n)) (upd r 0 (nI k)) 1 (nI n)) (va_up lab k (some n)) (va_up (fun _ => 0) 0 k) (0 + 1) := ⟨zflg_put (m := 0) hf (fun j hj => by omega), z0.1, fun p j hp hj => ho.2.1 p j hp hj, by omega⟩
          have z2 := z0.2.2.2.2 hw
          clear z0
          revert z1 z2
          generalize va_up lab k (some n) = l1
          generalize va_up (fun _ => 0) 0 k = r1
          generalize zhg sD (upd f k (nI n)) (upd r 0 (nI k)) 1 (nI n) = σ1
          intro z1 z2
          refine zit_wf (fun P => ∃ i σi li ri mi, P = (nI i, σi) ∧ i ≤ mi ∧ zflg sD lab n k σi li ri mi ∧ ¬ li k = none ∧ ∀ j, j < i → ∀ q, q < 64 → zgc (zmb (zI sD 1)) q = true → zga (ri j) q → ¬ li q = none) (fun P => 193 - P.1.toNatClampNeg) (fun o => ∃ p', (∃ n k lab f r mm, p' = (nI k, zhg sD f r mm (nI n)) ∧ k ≤ 64 ∧ n ≤ k ∧ zoi 64 (zgc (zmb (zI sD 1))) zga lab n k ∧ ∀ p, p < 64 → f p = zenc (lab p)) ∧ 64 - p'.1.toNatClampNeg < 64 - k ∧ o = kc2 p') ?_ F (nI 0, σ1) ⟨0, σ1, l1, r1, 0 + 1, rfl, by omega, z1, z2, fun j hj => by omega⟩ (by show 193 - _ < F; omega)
          rintro kc3 ⟨x2, σi⟩ ⟨i, σi', li, ri, mi, he, hi, hz, hlk, hall⟩
          obtain ⟨rfl, rfl⟩ := Prod.mk.inj he
          show (∃ p', _ ∧ _ ∧ bX5_findGates_76 F kc2 (nI k) kc3 (nI i) σi = kc3 p') ∨ (∃ p', _ ∧ _ ∧ bX5_findGates_76 F kc2 (nI k) kc3 (nI i) σi = kc2 p')
          unfold bX5_findGates_76
          obtain ⟨⟨fi, rri, rfl, hfi, hri⟩, hbi, h0, hn⟩ := id hz
          have hmi := zbi_m hbi
          rw [show zF (zhg sD fi rri (nI mi) (nI n)) 12 = nI mi from rfl]
          by_cases him : mi ≤ i
          · right
            have e1 : i = mi := by omega
            subst e1
            rw [if_pos (show nI i ≤ nI i by rw [zle_nI (by omega) (by omega)]; omega), zlet_eq, show zF (zhg sD fi rri (nI i) (nI n)) 10 = nI n from rfl, nI_1, nI_1, zhg_s10]
            exact ⟨(nI (k + 1), zhg sD fi rri (nI i) (nI (n + 1))), ⟨n + 1, k + 1, li, fi, rri, nI i, rfl, by omega, by omega, zoi_next (fun x y => zga_sym) ho hk' hw hbi hlk hl hall, hfi⟩, by show 64 - (nI (k + 1)).toNatClampNeg < _; rw [nI_clamp (by omega)]; omega, rfl⟩
          · left
            obtain ⟨g1, g2⟩ := hbi.2.2.2.1 i (by omega)
            obtain ⟨⟨g3, g4⟩, -⟩ := hbi.2.2.1 (ri i) g1 g2
            rw [if_neg (show ¬ nI mi ≤ nI i by rw [zle_nI (by omega) (by omega)]; omega), zchk_nI (show i < 192 by omega) (by decide), nI_clamp (show i < 2 ^ 31 by omega), show zI (zhg sD fi rri (nI mi) (nI n)) 7 = rri from rfl, hri i (by omega)]
            obtain ⟨σ2, l2, r2, m2, b1, b2, b3, b4⟩ := q_goGate (F := F) (by omega) hz g1 g3 g4
            rw [b1, Option.bind_some, nI_1]
            refine ⟨(nI (i + 1), σ2), ⟨i + 1, σ2, l2, r2, m2, rfl, by have := b3.2.2; omega, b2, b3.1 k hlk, fun j hj q hq hwq ha => ?_⟩, by show 193 - (nI (i + 1)).toNatClampNeg < _; rw [nI_clamp (by omega)]; omega, rfl⟩
            rw [b3.2.1 j (by omega)] at ha
            by_cases e : j = i
            · subst e; exact b4 q hq hwq ha
            · exact b3.1 q (hall j (by omega) q hq hwq ha)
  · left
    have ht' : t < 64 := by omega
    rw [if_neg (show ¬ nI 64 ≤ nI t by rw [zle_nI (by decide) (by omega)]; omega), zchk_nI ht' (by decide), zlet_eq, nI_clamp (show t < 2 ^ 31 by omega), show zI (zhg sD f r mm (nI 0)) 6 = f from rfl, zhg_s6, nI_1]
    refine ⟨(nI (t + 1), zhg sD (upd f t (-1)) r mm (nI 0)), ⟨t + 1, _, _, _, rfl, by omega, fun p hp => ?_⟩, by show 64 - (nI (t + 1)).toNatClampNeg < _; rw [nI_clamp (by omega)]; omega, rfl⟩
    show (if p = t then -1 else f p) = -1
    by_cases e : p = t
    · rw [if_pos e]
    · rw [if_neg e]; exact hf p (by omega)
