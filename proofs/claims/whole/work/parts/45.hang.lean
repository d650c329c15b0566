/-! PURE: the reference's queue floods -/
theorem va_cm {α : Type} (g : Nat → α) {i j : Nat} (h : i ≠ j) (a b : α) : va_up (va_up g i a) j b = va_up (va_up g j b) i a := by
  funext k
  show (if k = j then b else if k = i then a else g k) = if k = i then a else if k = j then b else g k
  by_cases h1 : k = j
  · rw [if_pos h1, if_neg (by omega), if_pos h1]
  · rw [if_neg h1, if_neg h1]
/-- the state in a flood: numbers, row, how many in it -/
def zh (s : zOS) (f r : Nat → Int32) (m : Int32) : zOS := (va_up (va_up s.1 5 f) 7 r, s.2.1, va_up s.2.2.1 12 m, s.2.2.2)
theorem zh_s5 {s : zOS} {f f' r : Nat → Int32} {m : Int32} : zsI (zh s f r m) 5 f' = zh s f' r m := by
  unfold zsI zh
  show (va_up (va_up (va_up s.1 5 f) 7 r) 5 f', _) = _
  rw [va_cm (va_up s.1 5 f) (show 7 ≠ 5 by decide), bx_uu]
theorem zh_s7 {s : zOS} {f r r' : Nat → Int32} {m : Int32} : zsI (zh s f r m) 7 r' = zh s f r' m := by
  unfold zsI zh
  show (va_up (va_up (va_up s.1 5 f) 7 r) 7 r', _) = _
  rw [bx_uu]
theorem zh_s12 {s : zOS} {f r : Nat → Int32} {m m' : Int32} : zsF (zh s f r m) 12 m' = zh s f r m' := by
  unfold zsF zh
  show (_, _, va_up (va_up s.2.2.1 12 m) 12 m', _) = _
  rw [bx_uu]
theorem zh_self (s : zOS) : s = zh s (zI s 5) (zI s 7) (zF s 12) := by
  obtain ⟨a, b, c, d⟩ := s
  have e1 : va_up (va_up a 5 (a 5)) 7 (a 7) = a := by
    funext k
    show (if k = 7 then a 7 else if k = 5 then a 5 else a k) = a k
    by_cases h1 : k = 7
    · rw [if_pos h1, h1]
    · rw [if_neg h1]
      by_cases h2 : k = 5
      · rw [if_pos h2, h2]
      · rw [if_neg h2]
  have e2 : va_up c 12 (c 12) = c := by
    funext k
    show (if k = 12 then c 12 else c k) = c k
    by_cases h1 : k = 12
    · rw [if_pos h1, h1]
    · rw [if_neg h1]
  show (a, b, c, d) = (va_up (va_up a 5 (a 5)) 7 (a 7), b, va_up c 12 (c 12), d)
  rw [e1, e2]
theorem zenc_ne {j : Nat} (h : j < 2 ^ 31) : ¬ nI j = -1 := by
  intro e
  have h1 := nI_toInt h
  rw [e] at h1
  have h2 : ((-1 : Int32)).toInt = -1 := by decide
  omega
def zhs (s σ : zOS) (lab : Nat → Option Nat) (ro : Nat → Nat) (m : Nat) : Prop := ∃ f r, σ = zh s f r (nI m) ∧ (∀ p, p < 192 → f p = zenc (lab p)) ∧ ∀ j, j < m → r j = nI (ro j)
theorem q_take {s σ : zOS} {lab : Nat → Option Nat} {ro : Nat → Nat} {m n p : Nat} (hs : zhs s σ lab ro m) (hp : p < 192) (hm : zwr (zmb (zI s 1)) p = true → lab p = none → m < 192) (hb : ∀ j, lab p = some j → j < 2 ^ 31) :
    ∃ σ' lab' ro' m', fX5_take (nI p) (nI n) σ = some σ' ∧ zhs s σ' lab' ro' m' ∧ ztk (zwr (zmb (zI s 1))) n p lab ro m lab' ro' m' := by
  obtain ⟨f, r, rfl, hf, hr⟩ := hs
  unfold fX5_take
  rw [q_isWire hp, Option.bind_some, zif_b, show zI (zh s f r (nI m)) 1 = zI s 1 from rfl]
  cases hw : zwr (zmb (zI s 1)) p with
  | false => exact ⟨_, lab, ro, m, rfl, ⟨f, r, rfl, hf, hr⟩, Or.inr ⟨Or.inl hw, rfl, rfl, rfl⟩⟩
  | true =>
    rw [if_pos rfl, zchk_nI hp (by decide), nI_clamp (by omega), show zI (zh s f r (nI m)) 5 = f from rfl, hf p hp]
    cases hl : lab p with
    | some j =>
      rw [if_neg (show ¬ zenc (some j) = -1 from zenc_ne (hb j hl))]
      exact ⟨_, lab, ro, m, rfl, ⟨f, r, rfl, hf, hr⟩, Or.inr ⟨Or.inr (by rw [hl]; simp), rfl, rfl, rfl⟩⟩
    | none =>
      have hm1 : m < 192 := hm hw hl
      rw [if_pos (show zenc none = -1 from rfl), zchk_nI hp (by decide), zlet_eq, zh_s5, show zF (zh s (upd f p (nI n)) r (nI m)) 12 = nI m from rfl, zchk_nI hm1 (by decide), zlet_eq, nI_clamp (by omega), show zI (zh s (upd f p (nI n)) r (nI m)) 7 = r from rfl, zh_s7, zlet_eq, show zF (zh s (upd f p (nI n)) (upd r m (nI p)) (nI m)) 12 = nI m from rfl, zh_s12, nI_1]
      refine ⟨_, va_up lab p (some n), va_up ro m p, m + 1, rfl, ⟨_, _, rfl, fun q hq => ?_, fun j hj => ?_⟩, Or.inl ⟨hw, hl, rfl, rfl, rfl⟩⟩
      · show (if q = p then nI n else f q) = zenc (if q = p then some n else lab q)
        by_cases h : q = p
        · rw [if_pos h, if_pos h]; rfl
        · rw [if_neg h, if_neg h]; exact hf q hq
      · show (if j = m then nI p else r j) = nI (if j = m then p else ro j)
        by_cases h : j = m
        · rw [if_pos h, if_pos h]
        · rw [if_neg h, if_neg h]; exact hr j (by omega)
def zadj (b : Nat → Nat → Bool) (jn : Bool) (p q : Nat) : Prop := (p / 64 = q / 64 ∧ ∃ s, s < 4 ∧ zbd (p % 64) s = some (q % 64)) ∨ (jn = true ∧ p % 64 = q % 64 ∧ b 3 (p % 64) = true ∧ b 2 (p % 64) = true)
set_option maxRecDepth 100000 in
theorem zbd_sym_all : ∀ c, c < 64 → ∀ s, s < 4 → ∀ d, d < 64 → zbd c s = some d → ∃ s', s' < 4 ∧ zbd d s' = some c := by decide +kernel
theorem zbd_lt {c s d : Nat} (hc : c < 64) (h : zbd c s = some d) : d < 64 := by
  unfold zbd at h
  split at h
  · split at h
    · have := Option.some.inj h; omega
    · cases h
  · split at h
    · split at h
      · have := Option.some.inj h; omega
      · cases h
    · split at h
      · split at h
        · cases h
        · have := Option.some.inj h; omega
      · split at h
        · cases h
        · have := Option.some.inj h; omega
theorem zadj_sym {b : Nat → Nat → Bool} {jn : Bool} {p q : Nat} (h : zadj b jn p q) : zadj b jn q p := by
  rcases h with ⟨h1, s, h2, h3⟩ | ⟨h1, h2, h3, h4⟩
  · obtain ⟨s', h4, h5⟩ := zbd_sym_all (p % 64) (by omega) s h2 (q % 64) (by omega) h3
    exact Or.inl ⟨h1.symm, s', h4, h5⟩
  · exact Or.inr ⟨h1, h2.symm, by rw [← h2]; exact h3, by rw [← h2]; exact h4⟩
def zgr (lab : Nat → Option Nat) (ro : Nat → Nat) (m : Nat) (lab' : Nat → Option Nat) (ro' : Nat → Nat) (m' : Nat) : Prop := (∀ q, ¬ lab q = none → ¬ lab' q = none) ∧ (∀ j, j < m → ro' j = ro j) ∧ m ≤ m'
theorem zgr_refl {lab : Nat → Option Nat} {ro : Nat → Nat} {m : Nat} : zgr lab ro m lab ro m := ⟨fun _ h => h, fun _ _ => rfl, Nat.le_refl _⟩
theorem zgr_trans {l1 l2 l3 : Nat → Option Nat} {r1 r2 r3 : Nat → Nat} {m1 m2 m3 : Nat} (h : zgr l1 r1 m1 l2 r2 m2) (h' : zgr l2 r2 m2 l3 r3 m3) : zgr l1 r1 m1 l3 r3 m3 := ⟨fun q hq => h'.1 q (h.1 q hq), fun j hj => (h'.2.1 j (by have := h.2.2; omega)).trans (h.2.1 j hj), Nat.le_trans h.2.2 h'.2.2⟩
/-- the flood's state: as the code has it, and what it means -/
def zfl (s : zOS) (jn : Bool) (lab0 : Nat → Option Nat) (n k : Nat) (σ : zOS) (lab : Nat → Option Nat) (ro : Nat → Nat) (m : Nat) : Prop :=
  zhs s σ lab ro m ∧ zbi 192 (zwr (zmb (zI s 1))) (zadj (zmb (zI s 1)) jn) lab0 n k lab ro m ∧ (∀ p j, p < 192 → lab0 p = some j → j < n) ∧ n < 1000
theorem q_tk {s σ : zOS} {jn : Bool} {lab0 lab : Nat → Option Nat} {ro : Nat → Nat} {m n k p : Nat} (h : zfl s jn lab0 n k σ lab ro m) (hp : p < 192) (hc : zwr (zmb (zI s 1)) p = true → zcn (zwr (zmb (zI s 1))) (zadj (zmb (zI s 1)) jn) k p) :
    ∃ σ' lab' ro' m', fX5_take (nI p) (nI n) σ = some σ' ∧ zfl s jn lab0 n k σ' lab' ro' m' ∧ zgr lab ro m lab' ro' m' ∧ (zwr (zmb (zI s 1)) p = true → ¬ lab' p = none) := by
  obtain ⟨hz, hb, h0, hn⟩ := h
  obtain ⟨σ', lab', ro', m', e1, e2, e3⟩ := q_take (n := n) hz hp (fun h1 h2 => zbi_room hb hp h1 h2) (fun j hj => by
    rcases hb.2.1 p hp with h1 | h1
    · rw [hj] at h1; have := h0 p j hp h1.symm; omega
    · rw [hj] at h1; have := Option.some.inj h1.2; omega)
  obtain ⟨g1, g2, g3, g4, g5⟩ := ztk_bi hb hp hc e3
  exact ⟨σ', lab', ro', m', e1, ⟨e2, g1, h0, hn⟩, ⟨g2, g3, g4⟩, g5⟩
theorem zle_nI {a b : Nat} (ha : a < 2 ^ 31) (hb : b < 2 ^ 31) : (nI a ≤ nI b) ↔ a ≤ b := nI_leI ha hb
theorem q_goFrom {s σ : zOS} {jn : Bool} {lab0 lab : Nat → Option Nat} {ro : Nat → Nat} {m n k p F : Nat} (hF : 10 ≤ F) (h : zfl s jn lab0 n k σ lab ro m) (hp : p < 192) (hw : zwr (zmb (zI s 1)) p = true) (hc : zcn (zwr (zmb (zI s 1))) (zadj (zmb (zI s 1)) jn) k p) :
    ∃ σ' lab' ro' m', fX5_goFrom F (nI p) (nI n) (zb jn) σ = some σ' ∧ zfl s jn lab0 n k σ' lab' ro' m' ∧ zgr lab ro m lab' ro' m' ∧ ∀ q, q < 192 → zwr (zmb (zI s 1)) q = true → zadj (zmb (zI s 1)) jn p q → ¬ lab' q = none := by
  unfold fX5_goFrom
  rw [zdvk_ok (by decide), zlet_eq, show (64 : Int32) = nI 64 from rfl, zrm (by omega) (by decide) (by decide)]
  refine zit_wf (fun P => ∃ t σt labt rot mt, P = (nI t, σt) ∧ t ≤ 4 ∧ zfl s jn lab0 n k σt labt rot mt ∧ zgr lab ro m labt rot mt ∧ ∀ t', t' < t → ∀ d, zbd (p % 64) t' = some d → zwr (zmb (zI s 1)) (p - p % 64 + d) = true → ¬ labt (p - p % 64 + d) = none) (fun P => 4 - P.1.toNatClampNeg) (fun o => ∃ σ' lab' ro' m', o = some σ' ∧ zfl s jn lab0 n k σ' lab' ro' m' ∧ zgr lab ro m lab' ro' m' ∧ ∀ q, q < 192 → zwr (zmb (zI s 1)) q = true → zadj (zmb (zI s 1)) jn p q → ¬ lab' q = none) ?_ F (nI 0, σ) ⟨0, σ, lab, ro, m, rfl, by omega, h, zgr_refl, fun t' ht => by omega⟩ (by show 4 - _ < F; omega)
  rintro kc ⟨x5, σt⟩ ⟨t, σt', labt, rot, mt, he, ht, hz, hg, hd⟩
  obtain ⟨rfl, rfl⟩ := Prod.mk.inj he
  show (∃ p', _ ∧ _ ∧ bX5_goFrom_9 F (nI p) (nI n) (zb jn) (nI (p % 64)) kc (nI t) σt = kc p') ∨ (∃ σ' lab' ro' m', bX5_goFrom_9 F (nI p) (nI n) (zb jn) (nI (p % 64)) kc (nI t) σt = some σ' ∧ _)
  unfold bX5_goFrom_9
  have hcell : p % 64 < 64 := by omega
  by_cases h4 : t = 4
  · right
    subst h4
    rw [if_pos (show (4 : Int32) ≤ nI 4 by decide)]
    have base : ∀ {lab' : Nat → Option Nat}, (∀ q, ¬ labt q = none → ¬ lab' q = none) → ∀ q, q < 192 → zwr (zmb (zI s 1)) q = true → p / 64 = q / 64 → (∃ s, s < 4 ∧ zbd (p % 64) s = some (q % 64)) → ¬ lab' q = none := by
      intro lab' hm q hq hwq e1 ⟨s', hs', e2⟩
      have e3 := hd s' hs' (q % 64) e2
      rw [show p - p % 64 + q % 64 = q by omega] at e3
      exact hm q (e3 hwq)
    cases jn with
    | false =>
      rw [if_pos (show zb false = 0 from rfl)]
      refine ⟨σt, labt, rot, mt, rfl, hz, hg, fun q hq hwq ha => ?_⟩
      rcases ha with ⟨e1, e2⟩ | ⟨e1, -⟩
      · exact base (fun _ h => h) q hq hwq e1 e2
      · cases e1
    | true =>
      rw [if_neg (show ¬ zb true = 0 by decide), show (3 : Int32) = nI 3 from rfl, q_isDrawn (by decide) hcell, Option.bind_some, zif_b]
      have hI : ∀ {σ' lab' ro' m'}, zhs s σ' lab' ro' m' → zI σ' 1 = zI s 1 := by
        rintro σ' lab' ro' m' ⟨f, r, rfl, -, -⟩
        rfl
      rw [hI hz.1]
      cases h3 : zmb (zI s 1) 3 (p % 64) with
      | false =>
        refine ⟨σt, labt, rot, mt, rfl, hz, hg, fun q hq hwq ha => ?_⟩
        rcases ha with ⟨e1, e2⟩ | ⟨-, e1, e2, -⟩
        · exact base (fun _ h => h) q hq hwq e1 e2
        · rw [h3] at e2; cases e2
      | true =>
        rw [if_pos rfl, show (2 : Int32) = nI 2 from rfl, q_isDrawn (by decide) hcell, Option.bind_some, zif_b, hI hz.1]
        cases h2 : zmb (zI s 1) 2 (p % 64) with
        | false =>
          refine ⟨σt, labt, rot, mt, rfl, hz, hg, fun q hq hwq ha => ?_⟩
          rcases ha with ⟨e1, e2⟩ | ⟨-, e1, -, e2⟩
          · exact base (fun _ h => h) q hq hwq e1 e2
          · rw [h2] at e2; cases e2
        | true =>
          rw [if_pos rfl]
          have cn : ∀ q, q % 64 = p % 64 → zwr (zmb (zI s 1)) q = true → zcn (zwr (zmb (zI s 1))) (zadj (zmb (zI s 1)) true) k q := fun q hq hwq => zcn_step hc hw hwq (Or.inr ⟨rfl, hq.symm, h3, h2⟩)
          obtain ⟨σ1, l1, r1, m1, a1, a2, a3, a4⟩ := q_tk hz (show p % 64 < 192 by omega) (cn _ (by omega))
          rw [a1, Option.bind_some, show (64 : Int32) + nI (p % 64) = nI (64 + p % 64) by rw [show (64 : Int32) = nI 64 from rfl, nI_add]]
          obtain ⟨σ2, l2, r2, m2, b1, b2, b3, b4⟩ := q_tk a2 (show 64 + p % 64 < 192 by omega) (cn _ (by omega))
          rw [b1, Option.bind_some, show (128 : Int32) + nI (p % 64) = nI (128 + p % 64) by rw [show (128 : Int32) = nI 128 from rfl, nI_add]]
          obtain ⟨σ3, l3, r3, m3, c1, c2, c3, c4⟩ := q_tk b2 (show 128 + p % 64 < 192 by omega) (cn _ (by omega))
          rw [c1, Option.bind_some]
          refine ⟨σ3, l3, r3, m3, rfl, c2, zgr_trans hg (zgr_trans a3 (zgr_trans b3 c3)), fun q hq hwq ha => ?_⟩
          rcases ha with ⟨e1, e2⟩ | ⟨-, e1, -, -⟩
          · exact base (fun q h => c3.1 q (b3.1 q (a3.1 q h))) q hq hwq e1 e2
          · rcases (show q = p % 64 ∨ q = 64 + p % 64 ∨ q = 128 + p % 64 by omega) with e | e | e
            · rw [e] at hwq ⊢; exact c3.1 _ (b3.1 _ (a4 hwq))
            · rw [e] at hwq ⊢; exact c3.1 _ (b4 hwq)
            · rw [e] at hwq ⊢; exact c4 hwq
  · left
    have ht4 : t < 4 := by omega
    rw [if_neg (show ¬ (4 : Int32) ≤ nI t by rw [show (4 : Int32) = nI 4 from rfl, zle_nI (by decide) (by omega)]; omega), q_beside_all (p % 64) hcell t ht4, Option.bind_some, nI_1]
    cases hbd : zbd (p % 64) t with
    | none =>
      rw [if_pos (show zenc none = -1 from rfl)]
      refine ⟨(nI (t + 1), σt), ⟨t + 1, σt, labt, rot, mt, rfl, by omega, hz, hg, fun t' ht' d hd' hwd => ?_⟩, ?_, rfl⟩
      · by_cases e : t' = t
        · subst e; rw [hbd] at hd'; cases hd'
        · exact hd t' (by omega) d hd' hwd
      · show 4 - (nI (t + 1)).toNatClampNeg < 4 - (nI t).toNatClampNeg
        rw [nI_clamp (by omega), nI_clamp (by omega)]; omega
    | some d =>
      have hd64 := zbd_lt hcell hbd
      rw [if_neg (show ¬ zenc (some d) = -1 from zenc_ne (by omega)), show nI p - nI (p % 64) + zenc (some d) = nI (p - p % 64 + d) by
        show nI p - nI (p % 64) + nI d = _
        rw [pk_sub (by omega), nI_add]]
      obtain ⟨σ1, l1, r1, m1, a1, a2, a3, a4⟩ := q_tk hz (show p - p % 64 + d < 192 by omega) (fun hwd => zcn_step hc hw hwd (Or.inl ⟨by omega, t, ht4, by rw [hbd]; congr 1; omega⟩))
      rw [a1, Option.bind_some]
      refine ⟨(nI (t + 1), σ1), ⟨t + 1, σ1, l1, r1, m1, rfl, by omega, a2, zgr_trans hg a3, fun t' ht' d' hd' hwd => ?_⟩, ?_, rfl⟩
      · by_cases e : t' = t
        · subst e
          rw [hbd] at hd'
          have e2 := Option.some.inj hd'
          subst e2
          exact a4 hwd
        · exact a3.1 _ (hd t' (by omega) d' hd' hwd)
      · show 4 - (nI (t + 1)).toNatClampNeg < 4 - (nI t).toNatClampNeg
        rw [nI_clamp (by omega), nI_clamp (by omega)]; omega
theorem zbi_m {N : Nat} {w : Nat → Bool} {adj : Nat → Nat → Prop} {lab0 lab : Nat → Option Nat} {n k m : Nat} {ro : Nat → Nat} (h : zbi N w adj lab0 n k lab ro m) : m ≤ N := by
  have := h.2.2.2.2
  omega
/-- the reference's flood from all places: the pieces' numbers -/
theorem q_hang {sD : zOS} {jn : Bool} {F : Nat} (hF : 1000 ≤ F) : ∃ n lab f r mm, fX5_hang F (zb jn) sD = some (nI n, zh sD f r mm) ∧ zlab 192 (zwr (zmb (zI sD 1))) (zadj (zmb (zI sD 1)) jn) lab n ∧ (∀ p, p < 192 → f p = zenc (lab p)) ∧ n ≤ 192 := by
  unfold fX5_hang
  refine zit_wf (fun P => ∃ t f, P = (nI t, zsI sD 5 f) ∧ t ≤ 192 ∧ ∀ p, p < t → f p = -1) (fun P => 192 - P.1.toNatClampNeg) (fun o => ∃ n lab f r mm, o = some (nI n, zh sD f r mm) ∧ zlab 192 (zwr (zmb (zI sD 1))) (zadj (zmb (zI sD 1)) jn) lab n ∧ (∀ p, p < 192 → f p = zenc (lab p)) ∧ n ≤ 192) ?_ F (nI 0, sD) ⟨0, zI sD 5, by
      congr 1
      obtain ⟨a, b, c, d⟩ := sD
      show (a, b, c, d) = (va_up a 5 (a 5), b, c, d)
      congr 1
      funext k
      show a k = if k = 5 then a 5 else a k
      by_cases h : k = 5
      · rw [if_pos h, h]
      · rw [if_neg h], by omega, fun p hp => by omega⟩ (by show 192 - _ < F; omega)
  rintro kc ⟨x3, σ⟩ ⟨t, f, he, ht, hf⟩
  obtain ⟨rfl, rfl⟩ := Prod.mk.inj he
  show (∃ p', _ ∧ _ ∧ bX5_hang_4 F (zb jn) 0 kc (nI t) (zsI sD 5 f) = kc p') ∨ (∃ n lab f' r mm, bX5_hang_4 F (zb jn) 0 kc (nI t) (zsI sD 5 f) = some (nI n, zh sD f' r mm) ∧ _)
  unfold bX5_hang_4
  rw [show (192 : Int32) = nI 192 from rfl]
  by_cases h192 : t = 192
  · right
    subst h192
    rw [if_pos (show nI 192 ≤ nI 192 by rw [zle_nI (by decide) (by decide)]; omega)]
    have e0 : zsI sD 5 f = zh sD f (zI sD 7) (zF sD 12) := by
      have h1 := zh_self sD
      have h2 : zsI sD 5 f = zsI (zh sD (zI sD 5) (zI sD 7) (zF sD 12)) 5 f := by rw [← h1]
      rw [h2, zh_s5]
    rw [e0]
    refine zit_wf (fun P => ∃ n k lab f r mm, P = (nI n, nI k, zh sD f r mm) ∧ k ≤ 192 ∧ n ≤ k ∧ zoi 192 (zwr (zmb (zI sD 1))) (zadj (zmb (zI sD 1)) jn) lab n k ∧ ∀ p, p < 192 → f p = zenc (lab p)) (fun P => 192 - P.2.1.toNatClampNeg) (fun o => ∃ n lab f r mm, o = some (nI n, zh sD f r mm) ∧ zlab 192 (zwr (zmb (zI sD 1))) (zadj (zmb (zI sD 1)) jn) lab n ∧ (∀ p, p < 192 → f p = zenc (lab p)) ∧ n ≤ 192) ?_ F (nI 0, nI 0, zh sD f (zI sD 7) (zF sD 12)) ⟨0, 0, fun _ => none, f, _, _, rfl, by omega, by omega, zoi_0 (fun _ _ => rfl), fun p hp => hf p hp⟩ (by show 192 - _ < F; omega)
    clear hf e0 he f
    rintro kc2 ⟨x2, x3, σ⟩ ⟨n, k, lab, f, r, mm, he, hk, hnk, ho, hf⟩
    obtain ⟨rfl, he2⟩ := Prod.mk.inj he
    obtain ⟨rfl, rfl⟩ := Prod.mk.inj he2
    show (∃ p', _ ∧ _ ∧ bX5_hang_26 F (zb jn) kc2 (nI n) (nI k) (zh sD f r mm) = kc2 p') ∨ (∃ n' lab' f' r' mm', bX5_hang_26 F (zb jn) kc2 (nI n) (nI k) (zh sD f r mm) = some (nI n', zh sD f' r' mm') ∧ _)
    unfold bX5_hang_26
    rw [show (192 : Int32) = nI 192 from rfl]
    by_cases hk192 : k = 192
    · right
      subst hk192
      rw [if_pos (show nI 192 ≤ nI 192 by rw [zle_nI (by decide) (by decide)]; omega)]
      exact ⟨n, lab, f, r, mm, rfl, zoi_end ho, hf, hnk⟩
    · left
      have hk' : k < 192 := by omega
      have skip : (zwr (zmb (zI sD 1)) k = false ∨ ¬ lab k = none) → ∃ p', (∃ n k lab f r mm, p' = (nI n, nI k, zh sD f r mm) ∧ k ≤ 192 ∧ n ≤ k ∧ zoi 192 (zwr (zmb (zI sD 1))) (zadj (zmb (zI sD 1)) jn) lab n k ∧ ∀ p, p < 192 → f p = zenc (lab p)) ∧ 192 - p'.2.1.toNatClampNeg < 192 - k ∧ kc2 (nI n, nI k + 1, zh sD f r mm) = kc2 p' := fun hsk => ⟨(nI n, nI (k + 1), zh sD f r mm), ⟨n, k + 1, lab, f, r, mm, rfl, by omega, by omega, zoi_skip ho hsk, hf⟩, by show 192 - (nI (k + 1)).toNatClampNeg < _; rw [nI_clamp (by omega)]; omega, by rw [nI_1]⟩
      rw [nI_clamp (show k < 2 ^ 31 by omega), if_neg (show ¬ nI 192 ≤ nI k by rw [zle_nI (by decide) (by omega)]; omega), q_isWire hk', Option.bind_some, zif_b, show zI (zh sD f r mm) 1 = zI sD 1 from rfl]
      cases hw : zwr (zmb (zI sD 1)) k with
      | false => exact skip (Or.inl hw)
      | true =>
        rw [if_pos rfl, zchk_nI hk' (by decide), show zI (zh sD f r mm) 5 = f from rfl, hf k hk']
        cases hl : lab k with
        | some j =>
          rw [if_neg (show ¬ zenc (some j) = -1 from zenc_ne (by have := ho.2.1 k j hk' hl; omega))]
          exact skip (Or.inr (by rw [hl]; simp))
        | none =>
          rw [if_pos (show zenc none = -1 from rfl), zlet_eq, show (0 : Int32) = nI 0 from rfl, zh_s12]
          have z0 : zfl sD jn lab n k (zh sD f r (nI 0)) lab (fun _ => 0) 0 := ⟨⟨f, r, rfl, hf, fun j hj => by omega⟩, zbi_start ho, fun p j hp hj => ho.2.1 p j hp hj, by omega⟩
          obtain ⟨σ1, l1, r1, m1, a1, a2, a3, a4⟩ := q_tk z0 hk' (fun _ => zcn_refl)
          rw [a1, Option.bind_some]
          refine zit_wf (fun P => ∃ i σi li ri mi, P = (nI i, σi) ∧ i ≤ mi ∧ zfl sD jn lab n k σi li ri mi ∧ ¬ li k = none ∧ ∀ j, j < i → ∀ q, q < 192 → zwr (zmb (zI sD 1)) q = true → zadj (zmb (zI sD 1)) jn (ri j) q → ¬ li q = none) (fun P => 193 - P.1.toNatClampNeg) (fun o => ∃ p', (∃ n k lab f r mm, p' = (nI n, nI k, zh sD f r mm) ∧ k ≤ 192 ∧ n ≤ k ∧ zoi 192 (zwr (zmb (zI sD 1))) (zadj (zmb (zI sD 1)) jn) lab n k ∧ ∀ p, p < 192 → f p = zenc (lab p)) ∧ 192 - p'.2.1.toNatClampNeg < 192 - k ∧ o = kc2 p') ?_ F (nI 0, σ1) ⟨0, σ1, l1, r1, m1, rfl, by omega, a2, a4 hw, fun j hj => by omega⟩ (by show 193 - _ < F; omega)
          rintro kc3 ⟨x4, σi⟩ ⟨i, σi', li, ri, mi, he, hi, hz, hlk, hall⟩
          obtain ⟨rfl, rfl⟩ := Prod.mk.inj he
          show (∃ p', _ ∧ _ ∧ bX5_hang_65 F kc2 (zb jn) (nI n) (nI k) kc3 (nI i) σi = kc3 p') ∨ (∃ p', _ ∧ _ ∧ bX5_hang_65 F kc2 (zb jn) (nI n) (nI k) kc3 (nI i) σi = kc2 p')
          unfold bX5_hang_65
          obtain ⟨⟨fi, rri, rfl, hfi, hri⟩, hbi, h0, hn⟩ := id hz
          have hmi := zbi_m hbi
          rw [show zF (zh sD fi rri (nI mi)) 12 = nI mi from rfl]
          by_cases him : mi ≤ i
          · right
            have e1 : i = mi := by omega
            subst e1
            rw [if_pos (show nI i ≤ nI i by rw [zle_nI (by omega) (by omega)]; omega), nI_1, nI_1]
            exact ⟨(nI (n + 1), nI (k + 1), zh sD fi rri (nI i)), ⟨n + 1, k + 1, li, fi, rri, nI i, rfl, by omega, by omega, zoi_next (fun x y => zadj_sym) ho hk' hw hbi hlk hl hall, hfi⟩, by show 192 - (nI (k + 1)).toNatClampNeg < _; rw [nI_clamp (by omega)]; omega, rfl⟩
          · left
            obtain ⟨g1, g2⟩ := hbi.2.2.2.1 i (by omega)
            obtain ⟨⟨g3, g4⟩, -⟩ := hbi.2.2.1 (ri i) g1 g2
            rw [if_neg (show ¬ nI mi ≤ nI i by rw [zle_nI (by omega) (by omega)]; omega), zchk_nI (by omega) (by decide), nI_clamp (by omega), show zI (zh sD fi rri (nI mi)) 7 = rri from rfl, hri i (by omega)]
            obtain ⟨σ2, l2, r2, m2, b1, b2, b3, b4⟩ := q_goFrom (F := F) (by omega) hz g1 g3 g4
            rw [b1, Option.bind_some, nI_1]
            refine ⟨(nI (i + 1), σ2), ⟨i + 1, σ2, l2, r2, m2, rfl, by have := b3.2.2; omega, b2, b3.1 k hlk, fun j hj q hq hwq ha => ?_⟩, by show 193 - (nI (i + 1)).toNatClampNeg < _; rw [nI_clamp (by omega)]; omega, rfl⟩
            rw [b3.2.1 j (by omega)] at ha
            by_cases e : j = i
            · subst e; exact b4 q hq hwq ha
            · exact b3.1 q (hall j (by omega) q hq hwq ha)
  · left
    have ht' : t < 192 := by omega
    rw [if_neg (show ¬ nI 192 ≤ nI t by rw [zle_nI (by decide) (by omega)]; omega), zchk_nI ht' (by decide), zlet_eq, nI_clamp (by omega), show zI (zsI sD 5 f) 5 = f from rfl, zsI_I, nI_1]
    refine ⟨(nI (t + 1), zsI sD 5 (upd f t (-1))), ⟨t + 1, _, rfl, by omega, fun p hp => ?_⟩, by show 192 - (nI (t + 1)).toNatClampNeg < _; rw [nI_clamp (by omega)]; omega, rfl⟩
    show (if p = t then -1 else f p) = -1
    by_cases e : p = t
    · rw [if_pos e]
    · rw [if_neg e]; exact hf p (by omega)
