/-! PURE: the class's joins of pieces by cuts -/
def zjr (σ : zOS) (i j : Nat) : Prop := zI σ 3 i = 2 ∧ ¬ zI σ 3 j = 2 ∧ ¬ zL σ 2 j &&& (zL σ 2 i &&& zL σ 1 3) = 0
def zja (σ : zOS) (i j : Nat) : Prop := zjr σ i j ∨ zjr σ j i
def zuf (σ : zOS) (m : Nat) (g : Nat → Nat) : Prop := (∀ i, i < m → g i ≤ i) ∧ (∀ i, i < m → g (g i) = g i) ∧ ∀ i, i < m → zcn (fun k => decide (k < m)) (zja σ) i (g i)
def zph2 (a b v : Nat) : Nat := if v = (if a < b then b else a) then (if b < a then b else a) else v
theorem zph2_a (a b : Nat) : zph2 a b a = (if b < a then b else a) := by
  unfold zph2
  by_cases h : a < b
  · rw [if_pos h, if_neg (by omega), if_neg (by omega)]
  · rw [if_neg h, if_pos rfl]
theorem zph2_b (a b : Nat) : zph2 a b b = (if b < a then b else a) := by
  unfold zph2
  by_cases h : a < b
  · rw [if_pos h, if_pos rfl]
  · rw [if_neg h]
    by_cases h2 : b = a
    · rw [if_pos h2]
    · rw [if_neg h2, if_pos (by omega)]
theorem zph2_le (a b v : Nat) : zph2 a b v ≤ v := by
  unfold zph2
  by_cases h : v = (if a < b then b else a)
  · rw [if_pos h]
    rw [h]
    by_cases h1 : a < b
    · rw [if_pos h1, if_neg (by omega)]; omega
    · rw [if_neg h1]; split <;> omega
  · rw [if_neg h]; omega
theorem zph2_cas (a b v : Nat) : zph2 a b v = v ∨ ((v = a ∨ v = b) ∧ (zph2 a b v = a ∨ zph2 a b v = b)) := by
  by_cases h : v = (if a < b then b else a)
  · right
    have hv : v = a ∨ v = b := by
      by_cases h1 : a < b
      · rw [if_pos h1] at h; exact Or.inr h
      · rw [if_neg h1] at h; exact Or.inl h
    refine ⟨hv, ?_⟩
    rcases hv with e | e
    · rw [e, zph2_a]; split <;> simp
    · rw [e, zph2_b]; split <;> simp
  · left; unfold zph2; rw [if_neg h]
theorem zuf_join {σ : zOS} {m : Nat} {g : Nat → Nat} {x y : Nat} (h : zuf σ m g) (hx : x < m) (hy : y < m) (hxy : zja σ x y) : zuf σ m (fun i => zph2 (g x) (g y) (g i)) ∧ zph2 (g x) (g y) (g x) = zph2 (g x) (g y) (g y) := by
  obtain ⟨h1, h2, h3⟩ := h
  have hs : ∀ a b, zja σ a b → zja σ b a := fun a b q => Or.symm q
  have ga : g (if g y < g x then g y else g x) = (if g y < g x then g y else g x) := by
    split
    · exact h2 y hy
    · exact h2 x hx
  have mfix : zph2 (g x) (g y) (if g y < g x then g y else g x) = (if g y < g x then g y else g x) := by
    split
    · next h => rw [zph2_b, if_pos h]
    · next h => rw [zph2_a, if_neg h]
  refine ⟨⟨fun i hi => Nat.le_trans (zph2_le _ _ _) (h1 i hi), fun i hi => ?_, fun i hi => ?_⟩, ?_⟩
  · show zph2 (g x) (g y) (g (zph2 (g x) (g y) (g i))) = zph2 (g x) (g y) (g i)
    by_cases e : g i = (if g x < g y then g y else g x)
    · have e2 : zph2 (g x) (g y) (g i) = (if g y < g x then g y else g x) := by unfold zph2; rw [if_pos e]
      rw [e2, ga, mfix]
    · have e2 : zph2 (g x) (g y) (g i) = g i := by unfold zph2; rw [if_neg e]
      rw [e2, h2 i hi, e2]
  · show zcn _ _ i (zph2 (g x) (g y) (g i))
    have cxy : zcn (fun k => decide (k < m)) (zja σ) x y := zcn_step zcn_refl (decide_eq_true hx) (decide_eq_true hy) hxy
    have cab : zcn (fun k => decide (k < m)) (zja σ) (g x) (g y) := zcn_trans (zcn_symm hs (h3 x hx)) (zcn_trans cxy (h3 y hy))
    rcases zph2_cas (g x) (g y) (g i) with q | ⟨q1, q2⟩
    · rw [q]; exact h3 i hi
    · refine zcn_trans (h3 i hi) ?_
      rcases q1 with q1 | q1 <;> rcases q2 with q2 | q2 <;> rw [q2]
      · rw [q1]; exact zcn_refl
      · rw [q1]; exact cab
      · rw [q1]; exact zcn_symm hs cab
      · rw [q1]; exact zcn_refl
  · rw [zph2_a, zph2_b]
def zjv (σ : zOS) (m : Nat) (J : Nat → Int32) (g : Nat → Nat) : Prop := (∀ i, i < m → J i = nI (g i)) ∧ zuf σ m g
theorem zsI_4I {σ : zOS} {J K : Nat → Int32} : zsI (zsI σ 4 J) 4 K = zsI σ 4 K := zsI_I
theorem zmin_nI {a b : Nat} (ha : a < 2 ^ 31) (hb : b < 2 ^ 31) : (if nI b < nI a then nI b else nI a) = nI (if b < a then b else a) := by
  by_cases h : b < a
  · rw [if_pos h, if_pos ((nI_ltI hb ha).mpr h)]
  · rw [if_neg h, if_neg (fun q => h ((nI_ltI hb ha).mp q))]
theorem zmax_nI {a b : Nat} (ha : a < 2 ^ 31) (hb : b < 2 ^ 31) : (if nI a < nI b then nI b else nI a) = nI (if a < b then b else a) := by
  by_cases h : a < b
  · rw [if_pos h, if_pos ((nI_ltI ha hb).mpr h)]
  · rw [if_neg h, if_neg (fun q => h ((nI_ltI ha hb).mp q))]
theorem p_join {σ : zOS} {m a b F : Nat} {J : Nat → Int32} {g : Nat → Nat} (hF : 1000 ≤ F) (hm : zF σ 12 = nI m) (hm96 : m ≤ 96) (hJ : ∀ i, i < m → J i = nI (g i)) (hg : ∀ i, i < m → g i < 96) (ha : a < 96) (hb : b < 96) : ∃ J', fX0_join F (nI a) (nI b) (zsI σ 4 J) = some (zsI σ 4 J') ∧ ∀ i, i < m → J' i = nI (zph2 a b (g i)) := by
  unfold fX0_join
  rw [zlet_eq, zlet_eq, zmin_nI (by omega) (by omega), zmax_nI (by omega) (by omega), show (0 : Int32) = nI 0 from rfl]
  refine zit_wf (fun p => ∃ i K, p = (nI i, zsI σ 4 K) ∧ i ≤ m ∧ (∀ j, j < i → K j = nI (zph2 a b (g j))) ∧ ∀ j, i ≤ j → j < m → K j = nI (g j)) (fun p => 97 - p.1.toNatClampNeg) (fun o => ∃ J', o = some (zsI σ 4 J') ∧ ∀ i, i < m → J' i = nI (zph2 a b (g i))) ?_ F (nI 0, zsI σ 4 J) ⟨0, J, rfl, by omega, fun j hj => by omega, fun j _ hj => hJ j hj⟩ (by show 97 - _ < F; omega)
  rintro kc ⟨x5, s⟩ ⟨i, K, he, hi, h1, h2⟩
  obtain ⟨rfl, rfl⟩ := Prod.mk.inj he
  show (∃ p', _ ∧ _ ∧ bX0_join_16 F (nI (if b < a then b else a)) (nI (if a < b then b else a)) kc (nI i) (zsI σ 4 K) = kc p') ∨ (∃ J', bX0_join_16 F (nI (if b < a then b else a)) (nI (if a < b then b else a)) kc (nI i) (zsI σ 4 K) = some (zsI σ 4 J') ∧ _)
  unfold bX0_join_16
  rw [show zF (zsI σ 4 K) 12 = nI m from hm]
  by_cases him : i = m
  · right
    subst him
    rw [if_pos (show nI i ≤ nI i by rw [zle_nI (by omega) (by omega)]; omega)]
    exact ⟨K, rfl, h1⟩
  · left
    have hi' : i < m := by omega
    have hmx : (if a < b then b else a) < 96 := by split <;> omega
    have hgi := hg i hi'
    rw [if_neg (show ¬ nI m ≤ nI i by rw [zle_nI (by omega) (by omega)]; omega), zchk_nI (show i < 96 by omega) (by decide), zchk_nI (show i < 96 by omega) (by decide), show zI (zsI σ 4 K) 4 = K from rfl, nI_clamp (show i < 2 ^ 31 by omega), h2 i (by omega) hi', nI_1]
    by_cases e : g i = (if a < b then b else a)
    · rw [if_pos (by rw [e]), zlet_eq, zsI_4I]
      refine ⟨(nI (i + 1), zsI σ 4 (upd K i (nI (if b < a then b else a)))), ⟨i + 1, _, rfl, by omega, fun j hj => ?_, fun j hj1 hj2 => ?_⟩, by show 97 - (nI (i + 1)).toNatClampNeg < _; rw [nI_clamp (by omega)]; omega, rfl⟩
      · show (if j = i then _ else K j) = _
        by_cases ej : j = i
        · rw [if_pos ej, ej]; unfold zph2; rw [if_pos e]
        · rw [if_neg ej]; exact h1 j (by omega)
      · show (if j = i then _ else K j) = _
        rw [if_neg (by omega)]; exact h2 j (by omega) hj2
    · rw [if_neg (fun q => e ((nI_eq (by omega) (by omega)).mp q))]
      refine ⟨(nI (i + 1), zsI σ 4 K), ⟨i + 1, K, rfl, by omega, fun j hj => ?_, fun j hj1 hj2 => h2 j (by omega) hj2⟩, by show 97 - (nI (i + 1)).toNatClampNeg < _; rw [nI_clamp (by omega)]; omega, rfl⟩
      by_cases ej : j = i
      · rw [ej, h2 i (by omega) hi']; unfold zph2; rw [if_neg e]
      · exact h1 j (by omega)
theorem zjv_lt {σ : zOS} {m : Nat} {J : Nat → Int32} {g : Nat → Nat} (h : zjv σ m J g) {i : Nat} (hi : i < m) : g i < m := by
  have := h.2.1 i hi
  omega
theorem p_joinBelow {σ : zOS} {m i F : Nat} {J : Nat → Int32} {g : Nat → Nat} (hF : 1000 ≤ F) (hm : zF σ 12 = nI m) (hm96 : m ≤ 96) (hi : i < m) (hY : zI σ 3 i = 2) (hJ : zjv σ m J g) : ∃ J' g', fX0_joinBelow F (nI i) (zsI σ 4 J) = some (zsI σ 4 J') ∧ zjv σ m J' g' ∧ (∀ x y, x < m → y < m → g x = g y → g' x = g' y) ∧ ∀ j, j < i → zjr σ i j → g' i = g' j := by
  unfold fX0_joinBelow
  rw [zchk_nI (show i < 96 by omega) (by decide), show (3 : Int32) = nI 3 from rfl, zchk_nI (show 3 < 4 by omega) (by decide), zlet_eq, nI_clamp (show i < 2 ^ 31 by omega), nI_clamp (show 3 < 2 ^ 31 by omega), show zL (zsI σ 4 J) 2 = zL σ 2 from rfl, show zL (zsI σ 4 J) 1 = zL σ 1 from rfl, show (0 : Int32) = nI 0 from rfl]
  refine zit_wf (fun p => ∃ j J' g', p = (nI j, zsI σ 4 J') ∧ j ≤ i ∧ zjv σ m J' g' ∧ (∀ x y, x < m → y < m → g x = g y → g' x = g' y) ∧ ∀ k, k < j → zjr σ i k → g' i = g' k) (fun p => 97 - p.1.toNatClampNeg) (fun o => ∃ J' g', o = some (zsI σ 4 J') ∧ zjv σ m J' g' ∧ (∀ x y, x < m → y < m → g x = g y → g' x = g' y) ∧ ∀ j, j < i → zjr σ i j → g' i = g' j) ?_ F (nI 0, zsI σ 4 J) ⟨0, J, g, rfl, by omega, hJ, fun _ _ _ _ h => h, fun k hk => by omega⟩ (by show 97 - _ < F; omega)
  clear hJ
  rintro kc ⟨x4, s⟩ ⟨j, J', g', he, hj, hJ, hmono, hdone⟩
  obtain ⟨rfl, rfl⟩ := Prod.mk.inj he
  show (∃ p', _ ∧ _ ∧ bX0_joinBelow_17 F (nI i) (zL σ 2 i &&& zL σ 1 3) kc (nI j) (zsI σ 4 J') = kc p') ∨ (∃ J'' g'', bX0_joinBelow_17 F (nI i) (zL σ 2 i &&& zL σ 1 3) kc (nI j) (zsI σ 4 J') = some (zsI σ 4 J'') ∧ _)
  unfold bX0_joinBelow_17
  by_cases hji : j = i
  · right
    subst hji
    rw [if_pos (show nI j ≤ nI j by rw [zle_nI (by omega) (by omega)]; omega)]
    exact ⟨J', g', rfl, hJ, hmono, hdone⟩
  · rw [if_neg (show ¬ nI i ≤ nI j by rw [zle_nI (by omega) (by omega)]; omega)]
    have hj' : j < i := by omega
    by_cases h0 : zL σ 2 i &&& zL σ 1 3 = 0
    · right
      rw [if_pos ((zc_eq0 _ _).mpr h0)]
      refine ⟨J', g', rfl, hJ, hmono, fun k _ hk => absurd ?_ hk.2.2⟩
      rw [h0]
      apply zt_ext
      intro b _
      rw [zt_and, zt_0, Bool.and_false]
    · left
      rw [if_neg (fun h => h0 ((zc_eq0 _ _).mp h)), zchk_nI (show j < 96 by omega) (by decide), zchk_nI (show j < 96 by omega) (by decide), zchk_nI (show j < 96 by omega) (by decide), zchk_nI (show i < 96 by omega) (by decide), nI_clamp (show j < 2 ^ 31 by omega), nI_clamp (show i < 2 ^ 31 by omega), show zI (zsI σ 4 J') 3 = zI σ 3 from rfl, show zL (zsI σ 4 J') 2 = zL σ 2 from rfl, show zI (zsI σ 4 J') 4 = J' from rfl, nI_1]
      have next : ¬ zjr σ i j → ∃ p', (∃ j J' g', p' = (nI j, zsI σ 4 J') ∧ j ≤ i ∧ zjv σ m J' g' ∧ (∀ x y, x < m → y < m → g x = g y → g' x = g' y) ∧ ∀ k, k < j → zjr σ i k → g' i = g' k) ∧ 97 - p'.1.toNatClampNeg < 97 - j ∧ kc (nI (j + 1), zsI σ 4 J') = kc p' := fun hno =>
        ⟨(nI (j + 1), zsI σ 4 J'), ⟨j + 1, J', g', rfl, by omega, hJ, hmono, fun k hk hr => by
          by_cases e : k = j
          · subst e; exact absurd hr hno
          · exact hdone k (by omega) hr⟩, by show 97 - (nI (j + 1)).toNatClampNeg < _; rw [nI_clamp (by omega)]; omega, rfl⟩
      by_cases hYj : zI σ 3 j = 2
      · rw [if_pos hYj]; exact next (fun h => h.2.1 hYj)
      · rw [if_neg hYj]
        by_cases hc : zL σ 2 j &&& (zL σ 2 i &&& zL σ 1 3) = 0
        · rw [if_pos ((zc_eq0 _ _).mpr hc)]; exact next (fun h => h.2.2 hc)
        · rw [if_neg (fun h => hc ((zc_eq0 _ _).mp h)), hJ.1 j (by omega), hJ.1 i hi]
          have hr : zjr σ i j := ⟨hY, hYj, hc⟩
          obtain ⟨J2, e1, e2⟩ := p_join (a := g' j) (b := g' i) hF hm hm96 hJ.1 (fun k hk => by have := zjv_lt hJ hk; omega) (by have := zjv_lt hJ (show j < m by omega); omega) (by have := zjv_lt hJ hi; omega)
          obtain ⟨e3, e4⟩ := zuf_join hJ.2 (show j < m by omega) hi (Or.inr hr)
          rw [e1, Option.bind_some]
          refine ⟨(nI (j + 1), zsI σ 4 J2), ⟨j + 1, J2, _, rfl, by omega, ⟨e2, e3⟩, fun x y hx hy hxy => ?_, fun k hk hkr => ?_⟩, by show 97 - (nI (j + 1)).toNatClampNeg < _; rw [nI_clamp (by omega)]; omega, rfl⟩
          · show zph2 _ _ (g' x) = zph2 _ _ (g' y)
            rw [hmono x y hx hy hxy]
          · show zph2 _ _ (g' i) = zph2 _ _ (g' k)
            by_cases e : k = j
            · subst e; exact e4.symm
            · rw [hdone k (by omega) hkr]
theorem p_joinPieces {σ : zOS} {m F : Nat} (hF : 1000 ≤ F) (hm : zF σ 12 = nI m) (hm96 : m ≤ 96) : ∃ J g, fX0_joinPieces F σ = some (zsI σ 4 J) ∧ zjv σ m J g ∧ ∀ i j, i < m → j < i → zjr σ i j → g i = g j := by
  unfold fX0_joinPieces
  rw [show (0 : Int32) = nI 0 from rfl]
  refine zit_wf (fun p => ∃ i J, p = (nI i, zsI σ 4 J) ∧ i ≤ m ∧ ∀ j, j < i → J j = nI j) (fun p => 97 - p.1.toNatClampNeg) (fun o => ∃ J g, o = some (zsI σ 4 J) ∧ zjv σ m J g ∧ ∀ i j, i < m → j < i → zjr σ i j → g i = g j) ?_ F (nI 0, σ) ⟨0, zI σ 4, by
      congr 1
      obtain ⟨a, b, c, d⟩ := σ
      show (a, b, c, d) = (va_up a 4 (a 4), b, c, d)
      congr 1
      funext k
      show a k = if k = 4 then a 4 else a k
      by_cases h : k = 4
      · rw [if_pos h, h]
      · rw [if_neg h], by omega, fun j hj => by omega⟩ (by show 97 - _ < F; omega)
  rintro kc ⟨x1, s⟩ ⟨i, J, he, hi, hJ⟩
  obtain ⟨rfl, rfl⟩ := Prod.mk.inj he
  show (∃ p', _ ∧ _ ∧ bX0_joinPieces_2 F kc (nI i) (zsI σ 4 J) = kc p') ∨ (∃ J' g, bX0_joinPieces_2 F kc (nI i) (zsI σ 4 J) = some (zsI σ 4 J') ∧ _)
  unfold bX0_joinPieces_2
  rw [show zF (zsI σ 4 J) 12 = nI m from hm]
  by_cases him : i = m
  · right
    subst him
    rw [if_pos (show nI i ≤ nI i by rw [zle_nI (by omega) (by omega)]; omega), show (0 : Int32) = nI 0 from rfl]
    refine zit_wf (fun p => ∃ k J g, p = (nI k, zsI σ 4 J) ∧ k ≤ i ∧ zjv σ i J g ∧ ∀ x y, x < k → y < x → zjr σ x y → g x = g y) (fun p => 97 - p.1.toNatClampNeg) (fun o => ∃ J g, o = some (zsI σ 4 J) ∧ zjv σ i J g ∧ ∀ x j, x < i → j < x → zjr σ x j → g x = g j) ?_ F (nI 0, zsI σ 4 J) ⟨0, J, fun k => k, rfl, by omega, ⟨hJ, fun _ _ => Nat.le_refl _, fun _ _ => rfl, fun _ _ => zcn_refl⟩, fun x y hx => by omega⟩ (by show 97 - _ < F; omega)
    clear hJ he
    rintro kc2 ⟨x1, s⟩ ⟨k, J, g, he, hk, hJ, hd⟩
    obtain ⟨rfl, rfl⟩ := Prod.mk.inj he
    show (∃ p', _ ∧ _ ∧ bX0_joinPieces_25 F kc2 (nI k) (zsI σ 4 J) = kc2 p') ∨ (∃ J' g, bX0_joinPieces_25 F kc2 (nI k) (zsI σ 4 J) = some (zsI σ 4 J') ∧ _)
    unfold bX0_joinPieces_25
    rw [show zF (zsI σ 4 J) 12 = nI i from hm]
    by_cases hki : k = i
    · right
      subst hki
      rw [if_pos (show nI k ≤ nI k by rw [zle_nI (by omega) (by omega)]; omega)]
      exact ⟨J, g, rfl, hJ, hd⟩
    · left
      have hk' : k < i := by omega
      rw [if_neg (show ¬ nI i ≤ nI k by rw [zle_nI (by omega) (by omega)]; omega), zchk_nI (show k < 96 by omega) (by decide), nI_clamp (show k < 2 ^ 31 by omega), show zI (zsI σ 4 J) 3 = zI σ 3 from rfl, nI_1]
      by_cases hY : zI σ 3 k = 2
      · obtain ⟨J', g', e1, e2, e3, e4⟩ := p_joinBelow hF hm hm96 hk' hY hJ
        rw [if_pos hY, e1, Option.bind_some]
        refine ⟨(nI (k + 1), zsI σ 4 J'), ⟨k + 1, J', g', rfl, by omega, e2, fun x y hx hy hr => ?_⟩, by show 97 - (nI (k + 1)).toNatClampNeg < _; rw [nI_clamp (by omega)]; omega, rfl⟩
        by_cases e : x = k
        · subst e; exact e4 y hy hr
        · exact e3 x y (by omega) (by omega) (hd x y (by omega) hy hr)
      · rw [if_neg hY]
        refine ⟨(nI (k + 1), zsI σ 4 J), ⟨k + 1, J, g, rfl, by omega, hJ, fun x y hx hy hr => ?_⟩, by show 97 - (nI (k + 1)).toNatClampNeg < _; rw [nI_clamp (by omega)]; omega, rfl⟩
        by_cases e : x = k
        · subst e; exact absurd hr.1 hY
        · exact hd x y (by omega) hy hr
  · left
    have hi' : i < m := by omega
    rw [if_neg (show ¬ nI m ≤ nI i by rw [zle_nI (by omega) (by omega)]; omega), zchk_nI (show i < 96 by omega) (by decide), zlet_eq, nI_clamp (show i < 2 ^ 31 by omega), show zI (zsI σ 4 J) 4 = J from rfl, zsI_4I, nI_1]
    refine ⟨(nI (i + 1), zsI σ 4 (upd J i (nI i))), ⟨i + 1, _, rfl, by omega, fun j hj => ?_⟩, by show 97 - (nI (i + 1)).toNatClampNeg < _; rw [nI_clamp (by omega)]; omega, rfl⟩
    show (if j = i then nI i else J j) = nI j
    by_cases e : j = i
    · rw [if_pos e, e]
    · rw [if_neg e]; exact hJ j (by omega)
