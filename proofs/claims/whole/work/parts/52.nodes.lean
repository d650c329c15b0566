/-! PURE: numberNodes -/
theorem zcount_next {p : Nat → Bool} {n : Nat} : zcount p (n + 1) = zcount p n + (if p n then 1 else 0) := rfl
theorem zcount_grow {p : Nat → Bool} {a b : Nat} (h : a ≤ b) : zcount p a ≤ zcount p b := by
  obtain ⟨d, rfl⟩ := Nat.exists_eq_add_of_le h
  clear h
  induction d with
  | zero => exact Nat.le_refl _
  | succ d ih => rw [← Nat.add_assoc, zcount_next]; omega
theorem zcount_lt2 {p : Nat → Bool} {a b : Nat} (h : a < b) (ha : p a = true) : zcount p a < zcount p b := by
  have h1 := zcount_grow (p := p) (show a + 1 ≤ b by omega)
  rw [zcount_next, ha, if_pos rfl] at h1
  omega
def znn (s : zOS) (N : Nat) (U : Nat → Int32) (W : Nat → Nat → Int64) : zOS := (va_up s.1 5 U, fun k => if 13 ≤ k ∧ k < 16 then W (k - 13) else s.2.1 k, va_up s.2.2.1 13 (nI N), s.2.2.2)
theorem znn_W {s : zOS} {N : Nat} {U : Nat → Int32} {W : Nat → Nat → Int64} {l : Nat} (hl : l < 3) : zL (znn s N U W) (zbs 0 + l) = W l := by
  show (if 13 ≤ 13 + l ∧ 13 + l < 16 then W (13 + l - 13) else s.2.1 (13 + l)) = W l
  rw [if_pos (by omega), show 13 + l - 13 = l by omega]
theorem znn_sW {s : zOS} {N : Nat} {U : Nat → Int32} {W : Nat → Nat → Int64} {l : Nat} {v : Nat → Int64} (hl : l < 3) : zsL (znn s N U W) (zbs 0 + l) v = znn s N U (va_up W l v) := by
  show (va_up s.1 5 U, va_up (fun k => if 13 ≤ k ∧ k < 16 then W (k - 13) else s.2.1 k) (13 + l) v, va_up s.2.2.1 13 (nI N), s.2.2.2) = (va_up s.1 5 U, fun k => if 13 ≤ k ∧ k < 16 then va_up W l v (k - 13) else s.2.1 k, va_up s.2.2.1 13 (nI N), s.2.2.2)
  congr 2
  funext k
  show (if k = 13 + l then v else if 13 ≤ k ∧ k < 16 then W (k - 13) else s.2.1 k) = if 13 ≤ k ∧ k < 16 then (if k - 13 = l then v else W (k - 13)) else s.2.1 k
  by_cases h1 : k = 13 + l
  · rw [if_pos h1, if_pos (by omega), if_pos (by omega)]
  · rw [if_neg h1]
    by_cases h2 : 13 ≤ k ∧ k < 16
    · rw [if_pos h2, if_pos h2, if_neg (by omega)]
    · rw [if_neg h2, if_neg h2]
theorem znn_sU {s : zOS} {N : Nat} {U V : Nat → Int32} {W : Nat → Nat → Int64} : zsI (znn s N U W) 5 V = znn s N V W := by
  show (va_up (va_up s.1 5 U) 5 V, _, _, _) = _
  rw [bx_uu]
  rfl
theorem znn_sN {s : zOS} {N M : Nat} {U : Nat → Int32} {W : Nat → Nat → Int64} : zsF (znn s N U W) 13 (nI M) = znn s M U W := by
  show (_, _, va_up (va_up s.2.2.1 13 (nI N)) 13 (nI M), _) = _
  rw [bx_uu]
  rfl
theorem znn_0 {s : zOS} : zsF s 13 (nI 0) = znn s 0 (zI s 5) (fun l => zL s (13 + l)) := by
  obtain ⟨a, b, c, d⟩ := s
  show (a, b, va_up c 13 (nI 0), d) = (va_up a 5 (a 5), fun k => if 13 ≤ k ∧ k < 16 then b (13 + (k - 13)) else b k, va_up c 13 (nI 0), d)
  have h1 : va_up a 5 (a 5) = a := funext fun j => by
    show (if j = 5 then a 5 else a j) = a j
    by_cases e : j = 5
    · rw [if_pos e, e]
    · rw [if_neg e]
  have h2 : (fun k => if 13 ≤ k ∧ k < 16 then b (13 + (k - 13)) else b k) = b := funext fun k => by
    by_cases e : 13 ≤ k ∧ k < 16
    · show (if 13 ≤ k ∧ k < 16 then b (13 + (k - 13)) else b k) = b k
      rw [if_pos e, show 13 + (k - 13) = k by omega]
    · exact if_neg e
  rw [h1, h2]
theorem p_openNode {s : zOS} {N F : Nat} {U : Nat → Int32} {W : Nat → Nat → Int64} (hF : 1000 ≤ F) (hN : N < 96) : ∃ W', fX0_openNode F (znn s N U W) = some (znn s (N + 1) U W') ∧ ∀ l, l < 3 → W' l = vp_updL (W l) N 0 := by
  unfold fX0_openNode
  rw [show (0 : Int32) = nI 0 from rfl]
  refine zit_wf (fun p => ∃ t W', p = (nI t, znn s N U W') ∧ t ≤ 3 ∧ (∀ l, l < t → W' l = vp_updL (W l) N 0) ∧ ∀ l, t ≤ l → W' l = W l) (fun p => 4 - p.1.toNatClampNeg) (fun o => ∃ W', o = some (znn s (N + 1) U W') ∧ ∀ l, l < 3 → W' l = vp_updL (W l) N 0) ?_ F (nI 0, znn s N U W) ⟨0, W, rfl, by omega, fun l hl => by omega, fun _ _ => rfl⟩ (by show 4 - _ < F; omega)
  rintro kc ⟨x1, σ⟩ ⟨t, W', he, ht, h1, h2⟩
  obtain ⟨rfl, rfl⟩ := Prod.mk.inj he
  show (∃ p', _ ∧ _ ∧ bX0_openNode_2 F kc (nI t) (znn s N U W') = kc p') ∨ (∃ W'', bX0_openNode_2 F kc (nI t) (znn s N U W') = some (znn s (N + 1) U W'') ∧ _)
  unfold bX0_openNode_2
  rw [show (3 : Int32) = nI 3 from rfl, show zF (znn s N U W') 13 = nI N from rfl]
  by_cases h3 : t = 3
  · right
    subst h3
    rw [if_pos (show nI 3 ≤ nI 3 by rw [zle_nI (by decide) (by decide)]; omega), zlet_eq, nI_1, znn_sN]
    exact ⟨W', rfl, h1⟩
  · left
    have ht' : t < 3 := by omega
    rw [if_neg (show ¬ nI 3 ≤ nI t by rw [zle_nI (by decide) (by omega)]; omega), zchk_nI ht' (by decide), zchk_nI hN (by decide), zlet_eq, nI_clamp (show t < 2 ^ 31 by omega), nI_clamp (show N < 2 ^ 31 by omega), znn_W ht', znn_sW ht', nI_1]
    refine ⟨(nI (t + 1), znn s N U (va_up W' t (vp_updL (W' t) N 0))), ⟨t + 1, _, rfl, by omega, fun l hl => ?_, fun l hl => ?_⟩, by show 4 - (nI (t + 1)).toNatClampNeg < _; rw [nI_clamp (by omega)]; omega, rfl⟩
    · by_cases e : l = t
      · subst e; rw [va_up_self, h2 l (by omega)]
      · rw [va_up_ne _ _ e]; exact h1 l (by omega)
    · rw [va_up_ne _ _ (by omega)]; exact h2 l (by omega)
/-- the node of piece i -/
def znu (g : Nat → Nat) (i : Nat) : Nat := zcount (fun k => decide (g k = k)) (g i)
def znT (s : zOS) (g : Nat → Nat) (i l v c : Nat) : Prop := ∃ j, j < i ∧ zI s 3 j = nI l ∧ znu g j = v ∧ zt (zL s 2 j) c = true
theorem zj58 {s : zOS} {N i F : Nat} {U : Nat → Int32} {W : Nat → Nat → Int64} {g : Nat → Nat} {kc : Int32 × zOS → Option zOS} (hi : i < 96) (hN : N ≤ 96) (hY : ∃ l, l < 3 ∧ zI s 3 i = nI l) (hU : U i = nI (znu g i)) (hv : znu g i < N) (hW : ∀ l, l < 3 → ∀ v, v < N → ∀ c, zt (W l v) c = true ↔ znT s g i l v c) :
    ∃ W', jX0_numberNodes_58 F kc (nI i) (znn s N U W) = kc (nI (i + 1), znn s N U W') ∧ ∀ l, l < 3 → ∀ v, v < N → ∀ c, zt (W' l v) c = true ↔ znT s g (i + 1) l v c := by
  obtain ⟨l0, hl0, hY⟩ := hY
  unfold jX0_numberNodes_58
  rw [zchk_nI hi (by decide), zchk_nI hi (by decide), zchk_nI hi (by decide), nI_clamp (show i < 2 ^ 31 by omega), show zI (znn s N U W) 3 = zI s 3 from rfl, show zI (znn s N U W) 5 = U from rfl, show zL (znn s N U W) 2 = zL s 2 from rfl, hY, hU, zchk_nI hl0 (by decide), zchk_nI (show znu g i < 96 by omega) (by decide), zchk_nI (show znu g i < 96 by omega) (by decide), zlet_eq, nI_clamp (show l0 < 2 ^ 31 by omega), nI_clamp (show znu g i < 2 ^ 31 by omega), znn_W hl0, znn_sW hl0, nI_1]
  refine ⟨_, rfl, fun l hl v hv' c => ?_⟩
  have hT : znT s g (i + 1) l v c ↔ znT s g i l v c ∨ (l = l0 ∧ znu g i = v ∧ zt (zL s 2 i) c = true) := by
    constructor
    · rintro ⟨j, h1, h2, h3, h4⟩
      by_cases e : j = i
      · subst e
        refine Or.inr ⟨?_, h3, h4⟩
        rw [hY] at h2
        exact ((nI_eq (by omega) (by omega)).mp h2).symm
      · exact Or.inl ⟨j, by omega, h2, h3, h4⟩
    · rintro (⟨j, h1, h2⟩ | ⟨rfl, h2, h3⟩)
      · exact ⟨j, by omega, h2⟩
      · exact ⟨i, by omega, hY, h2, h3⟩
  rw [hT]
  by_cases e : l = l0
  · subst e
    rw [va_up_self]
    by_cases e2 : v = znu g i
    · subst e2
      rw [show vp_updL (W l) (znu g i) (W l (znu g i) ||| zL s 2 i) (znu g i) = W l (znu g i) ||| zL s 2 i from if_pos rfl, zt_or, Bool.or_eq_true, hW l hl _ hv c]
      simp
    · rw [show vp_updL (W l) (znu g i) (W l (znu g i) ||| zL s 2 i) v = W l v from if_neg e2, hW l hl _ hv' c]
      constructor
      · exact Or.inl
      · rintro (h | h)
        · exact h
        · exact absurd h.2.1.symm e2
  · rw [va_up_ne _ _ e, hW l hl _ hv' c]
    constructor
    · exact Or.inl
    · rintro (h | h)
      · exact h
      · exact absurd h.1 e
theorem p_numberNodes {s : zOS} {m F : Nat} {g : Nat → Nat} (hF : 1000 ≤ F) (hm : zF s 12 = nI m) (hm96 : m ≤ 96) (hJ : ∀ i, i < m → zI s 4 i = nI (g i)) (hg : (∀ i, i < m → g i ≤ i) ∧ ∀ i, i < m → g (g i) = g i) (hY : ∀ i, i < m → ∃ l, l < 3 ∧ zI s 3 i = nI l) :
    ∃ U W, fX0_numberNodes F s = some (znn s (zcount (fun k => decide (g k = k)) m) U W) ∧ (∀ i, i < m → U i = nI (znu g i)) ∧ ∀ l, l < 3 → ∀ v, v < zcount (fun k => decide (g k = k)) m → ∀ c, zt (W l v) c = true ↔ znT s g m l v c := by
  have nul : ∀ i j, j < i → i ≤ m → znu g j < zcount (fun k => decide (g k = k)) i := fun i j hj hi => by
    have h1 := hg.1 j (by omega)
    exact zcount_lt2 (by omega) (decide_eq_true (hg.2 j (by omega)))
  unfold fX0_numberNodes
  rw [zlet_eq, show (0 : Int32) = nI 0 from rfl, znn_0]
  refine zit_wf (fun p => ∃ i U W, p = (nI i, znn s (zcount (fun k => decide (g k = k)) i) U W) ∧ i ≤ m ∧ (∀ j, j < i → U j = nI (znu g j)) ∧ ∀ l, l < 3 → ∀ v, v < zcount (fun k => decide (g k = k)) i → ∀ c, zt (W l v) c = true ↔ znT s g i l v c) (fun p => 97 - p.1.toNatClampNeg) (fun o => ∃ U W, o = some (znn s (zcount (fun k => decide (g k = k)) m) U W) ∧ (∀ i, i < m → U i = nI (znu g i)) ∧ ∀ l, l < 3 → ∀ v, v < zcount (fun k => decide (g k = k)) m → ∀ c, zt (W l v) c = true ↔ znT s g m l v c) ?_ F _ ⟨0, _, _, rfl, by omega, fun j hj => by omega, fun l _ v hv => absurd hv (Nat.not_lt_zero v)⟩ (by show 97 - _ < F; omega)
  rintro kc ⟨x1, σ⟩ ⟨i, U, W, he, hi, hU, hW⟩
  obtain ⟨rfl, rfl⟩ := Prod.mk.inj he
  show (∃ p', _ ∧ _ ∧ bX0_numberNodes_7 F kc (nI i) (znn s (zcount (fun k => decide (g k = k)) i) U W) = kc p') ∨ (∃ U' W', bX0_numberNodes_7 F kc (nI i) (znn s (zcount (fun k => decide (g k = k)) i) U W) = some (znn s (zcount (fun k => decide (g k = k)) m) U' W') ∧ _)
  unfold bX0_numberNodes_7
  rw [show zF (znn s (zcount (fun k => decide (g k = k)) i) U W) 12 = nI m from hm]
  by_cases him : i = m
  · right
    subst him
    rw [if_pos (show nI i ≤ nI i by rw [zle_nI (by omega) (by omega)]; omega)]
    exact ⟨U, W, rfl, hU, hW⟩
  · left
    have hi' : i < m := by omega
    have hc := zcount_le (p := fun k => decide (g k = k)) (n := i)
    have hgi := hg.1 i hi'
    rw [if_neg (show ¬ nI m ≤ nI i by rw [zle_nI (by omega) (by omega)]; omega), zchk_nI (show i < 96 by omega) (by decide), zlet_eq, nI_clamp (show i < 2 ^ 31 by omega), show zI (znn s (zcount (fun k => decide (g k = k)) i) U W) 4 = zI s 4 from rfl, hJ i hi']
    by_cases e : g i = i
    · rw [if_pos (by rw [e])]
      obtain ⟨W1, e1, e2⟩ := p_openNode (s := s) (U := U) (W := W) hF (show zcount (fun k => decide (g k = k)) i < 96 by omega)
      have hnx : zcount (fun k => decide (g k = k)) i + 1 = zcount (fun k => decide (g k = k)) (i + 1) := by rw [zcount_next, decide_eq_true e]; rfl
      have hnu : znu g i = zcount (fun k => decide (g k = k)) i := by unfold znu; rw [e]
      rw [e1, Option.bind_some, zchk_nI (show i < 96 by omega) (by decide), zlet_eq, show zF (znn s (zcount (fun k => decide (g k = k)) i + 1) U W1) 13 = nI (zcount (fun k => decide (g k = k)) i + 1) from rfl, nI_pred, show zI (znn s (zcount (fun k => decide (g k = k)) i + 1) U W1) 5 = U from rfl, znn_sU, hnx]
      obtain ⟨W2, e3, e4⟩ := zj58 (s := s) (N := zcount (fun k => decide (g k = k)) (i + 1)) (i := i) (F := F) (U := upd U i (nI (zcount (fun k => decide (g k = k)) i))) (W := W1) (g := g) (kc := kc) (by omega) (by omega) (hY i hi') (by rw [hnu]; exact if_pos rfl) (by omega) (fun l hl v hv c => by
        rw [e2 l hl]
        show zt (if v = zcount (fun k => decide (g k = k)) i then 0 else W l v) c = true ↔ _
        by_cases ev : v = zcount (fun k => decide (g k = k)) i
        · rw [if_pos ev, zt_0]
          constructor
          · intro h; cases h
          · rintro ⟨j, h1, h2, h3, h4⟩
            have := nul i j h1 (by omega)
            omega
        · rw [if_neg ev]; exact hW l hl v (by omega) c)
      rw [e3]
      refine ⟨_, ⟨i + 1, _, W2, rfl, by omega, fun j hj => ?_, e4⟩, by show 97 - (nI (i + 1)).toNatClampNeg < _; rw [nI_clamp (by omega)]; omega, rfl⟩
      show (if j = i then nI (zcount (fun k => decide (g k = k)) i) else U j) = _
      by_cases ej : j = i
      · rw [if_pos ej, ej, hnu]
      · rw [if_neg ej]; exact hU j (by omega)
    · have hnx : zcount (fun k => decide (g k = k)) (i + 1) = zcount (fun k => decide (g k = k)) i := by rw [zcount_next, decide_eq_false e]; rfl
      have hnu : znu g (g i) = znu g i := by unfold znu; rw [hg.2 i hi']
      rw [if_neg (fun q => e ((nI_eq (by omega) (by omega)).mp q)), zchk_nI (show g i < 96 by omega) (by decide), zchk_nI (show i < 96 by omega) (by decide), zlet_eq, nI_clamp (show g i < 2 ^ 31 by omega), show zI (znn s (zcount (fun k => decide (g k = k)) i) U W) 5 = U from rfl, hU (g i) (by omega), znn_sU, hnu]
      obtain ⟨W2, e3, e4⟩ := zj58 (s := s) (N := zcount (fun k => decide (g k = k)) i) (i := i) (F := F) (U := upd U i (nI (znu g i))) (W := W) (g := g) (kc := kc) (by omega) (by omega) (hY i hi') (if_pos rfl) (by rw [← hnu]; exact nul i (g i) (by omega) (by omega)) hW
      rw [e3]
      refine ⟨_, ⟨i + 1, upd U i (nI (znu g i)), W2, by rw [hnx], by omega, fun j hj => ?_, by rw [hnx]; exact e4⟩, by show 97 - (nI (i + 1)).toNatClampNeg < _; rw [nI_clamp (by omega)]; omega, rfl⟩
      show (if j = i then nI (znu g i) else U j) = _
      by_cases ej : j = i
      · rw [if_pos ej, ej]
      · rw [if_neg ej]; exact hU j (by omega)
