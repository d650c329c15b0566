/-! PURE: the class moves a layer -/
theorem zt_test {L : Int64} {i : Nat} (hi : i < 64) : lg_cmp (L &&& ((1 : Int64) <<< ((nI i).toInt64 &&& 63))) 0 = 0 ↔ zt L i = false := by
  rw [zc_eq0, zt_eq0]
  constructor
  · intro h
    have := h i hi
    rw [zt_and, zt_bit hi, decide_eq_true rfl, Bool.and_true] at this
    exact this
  · intro h j hj
    rw [zt_and, zt_bit hi]
    by_cases e : j = i
    · rw [e, h, Bool.false_and]
    · rw [decide_eq_false e, Bool.and_false]
theorem p_shiftLoop {sP : zOS} {l kx ky F : Nat} (hF : 1000 ≤ F) (hl : l < 4) (hx : kx < 15) (hy : ky < 15) :
    ∃ m, zit (P := Int64 × Int32) (R := Int32 × zOS) (fun kc9 p9 => bX2_shift_31 F (nI l) (nI kx - 7) (nI ky - 7) sP kc9 p9.1 p9.2) F ((0 : Int64), (0 : Int32)) = some (nI (zcount (zt m) 64), zsL sP 1 (vp_updL (zL sP 1) l m)) ∧ ∀ i, i < 64 → zt m i = zmk (zt (zL sP 1 l)) ((kx : Int) - 7) ((ky : Int) - 7) 64 i := by
  refine zit_wf (fun p => ∃ y, p.2 = nI y ∧ y ≤ 8 ∧ ∀ i, i < 64 → zt p.1 i = zmk (zt (zL sP 1 l)) ((kx : Int) - 7) ((ky : Int) - 7) (8 * y) i) (fun p => 9 - p.2.toNatClampNeg) (fun o => ∃ m, o = some (nI (zcount (zt m) 64), zsL sP 1 (vp_updL (zL sP 1) l m)) ∧ ∀ i, i < 64 → zt m i = zmk (zt (zL sP 1 l)) ((kx : Int) - 7) ((ky : Int) - 7) 64 i) ?_ F (0, 0) ⟨0, rfl, by omega, fun i hi => by show zt 0 i = _; rw [zt_0, zmk_0]⟩ (by show 9 - _ < F; omega)
  rintro kc ⟨m, x6⟩ ⟨y, he, hy8, hm⟩
  have he : x6 = nI y := he
  subst he
  have hm : ∀ i, i < 64 → zt m i = zmk (zt (zL sP 1 l)) ((kx : Int) - 7) ((ky : Int) - 7) (8 * y) i := hm
  show (∃ p', _ ∧ _ ∧ bX2_shift_31 F (nI l) (nI kx - 7) (nI ky - 7) sP kc m (nI y) = kc p') ∨ (∃ m', bX2_shift_31 F (nI l) (nI kx - 7) (nI ky - 7) sP kc m (nI y) = some (_, zsL sP 1 (vp_updL (zL sP 1) l m')) ∧ _)
  unfold bX2_shift_31
  rw [show (8 : Int32) = nI 8 from rfl]
  by_cases h8 : y = 8
  · right
    subst h8
    rw [if_pos (show nI 8 ≤ nI 8 by rw [zle_nI (by decide) (by decide)]; omega), zchk_nI hl (by decide), zlet_eq, p_bitCount, Option.bind_some, nI_clamp (show l < 2 ^ 31 by omega)]
    exact ⟨m, rfl, hm⟩
  · left
    have hy' : y < 8 := by omega
    rw [if_neg (show ¬ nI 8 ≤ nI y by rw [zle_nI (by decide) (by omega)]; omega)]
    refine zit_wf (fun p => ∃ x, p.2 = nI x ∧ x ≤ 8 ∧ ∀ i, i < 64 → zt p.1 i = zmk (zt (zL sP 1 l)) ((kx : Int) - 7) ((ky : Int) - 7) (8 * y + x) i) (fun p => 9 - p.2.toNatClampNeg) (fun o => ∃ p' : Int64 × Int32, (∃ y, p'.2 = nI y ∧ y ≤ 8 ∧ ∀ i, i < 64 → zt p'.1 i = zmk (zt (zL sP 1 l)) ((kx : Int) - 7) ((ky : Int) - 7) (8 * y) i) ∧ 9 - p'.2.toNatClampNeg < 9 - (nI y).toNatClampNeg ∧ o = kc p') ?_ F (m, 0) ⟨0, rfl, by omega, hm⟩ (by show 9 - _ < F; omega)
    clear hm
    rintro kc2 ⟨m, x7⟩ ⟨x, he, hx8, hm⟩
    have he : x7 = nI x := he
    subst he
    have hm : ∀ i, i < 64 → zt m i = zmk (zt (zL sP 1 l)) ((kx : Int) - 7) ((ky : Int) - 7) (8 * y + x) i := hm
    show (∃ p', _ ∧ _ ∧ bX2_shift_41 F kc (nI l) (nI kx - 7) (nI ky - 7) (nI y) sP kc2 m (nI x) = kc2 p') ∨ (∃ p', _ ∧ _ ∧ bX2_shift_41 F kc (nI l) (nI kx - 7) (nI ky - 7) (nI y) sP kc2 m (nI x) = kc p')
    unfold bX2_shift_41
    rw [show (8 : Int32) = nI 8 from rfl]
    by_cases hx8' : x = 8
    · right
      subst hx8'
      rw [if_pos (show nI 8 ≤ nI 8 by rw [zle_nI (by decide) (by decide)]; omega), nI_1]
      exact ⟨(m, nI (y + 1)), ⟨y + 1, rfl, by omega, fun i hi => by rw [show 8 * (y + 1) = 8 * y + 8 by omega]; exact hm i hi⟩, by show 9 - (nI (y + 1)).toNatClampNeg < _; rw [nI_clamp (by omega), nI_clamp (by omega)]; omega, rfl⟩
    · left
      have hx' : x < 8 := by omega
      obtain ⟨sx1, sx2⟩ := zstep_all x hx' kx hx
      obtain ⟨sy1, sy2⟩ := zstep_all y hy' ky hy
      have mu : ∀ m9 : Int64, 9 - ((m9, nI (x + 1)) : Int64 × Int32).2.toNatClampNeg < 9 - ((m, nI x) : Int64 × Int32).2.toNatClampNeg := fun m9 => by
        show 9 - (nI (x + 1)).toNatClampNeg < 9 - (nI x).toNatClampNeg
        rw [nI_clamp (by omega), nI_clamp (by omega)]; omega
      have skip : (zt (zL sP 1 l) (8 * y + x) = false ∨ zmt ((kx : Int) - 7) ((ky : Int) - 7) (8 * y + x) = none) → ∃ p' : Int64 × Int32, (∃ x, p'.2 = nI x ∧ x ≤ 8 ∧ ∀ i, i < 64 → zt p'.1 i = zmk (zt (zL sP 1 l)) ((kx : Int) - 7) ((ky : Int) - 7) (8 * y + x) i) ∧ 9 - p'.2.toNatClampNeg < 9 - ((m, nI x) : Int64 × Int32).2.toNatClampNeg ∧ kc2 (m, nI (x + 1)) = kc2 p' := fun hs =>
        ⟨(m, nI (x + 1)), ⟨x + 1, rfl, by omega, fun i hi => by rw [show 8 * y + (x + 1) = 8 * y + x + 1 by omega, zmk_skip hs]; exact hm i hi⟩, mu m, rfl⟩
      rw [if_neg (show ¬ nI 8 ≤ nI x by rw [zle_nI (by decide) (by omega)]; omega), zchk_nI hl (by decide), nI_clamp (show l < 2 ^ 31 by omega), p_cellBit hx' hy', Option.bind_some, nI_1]
      cases hb : zt (zL sP 1 l) (8 * y + x) with
      | false =>
        rw [if_pos ((zt_test (by omega)).mpr hb)]
        exact skip (Or.inl hb)
      | true =>
        rw [if_neg (fun q => by rw [(zt_test (by omega)).mp q] at hb; cases hb), p_isCell, Option.bind_some, zif_b, sx1, sy1]
        by_cases hin : (7 ≤ x + kx ∧ x + kx < 15) ∧ 7 ≤ y + ky ∧ y + ky < 15
        · have ht : zmt ((kx : Int) - 7) ((ky : Int) - 7) (8 * y + x) = some (8 * (y + ky - 7) + (x + kx - 7)) := by rw [zmt_at hx' hy', if_pos hin]
          rw [decide_eq_true hin.1, decide_eq_true hin.2, if_pos (show (true && true) = true from rfl), sx2 hin.1, sy2 hin.2, p_cellBit (by omega) (by omega), Option.bind_some, zlet_eq]
          refine ⟨(_, nI (x + 1)), ⟨x + 1, rfl, by omega, fun i hi => ?_⟩, mu _, rfl⟩
          show zt (m ||| _) i = _
          rw [zt_or, hm i hi, zt_bit (by omega), show 8 * y + (x + 1) = 8 * y + x + 1 by omega, zmk_next hb ht]
        · rw [if_neg (fun q => hin (by rw [Bool.and_eq_true, decide_eq_true_iff, decide_eq_true_iff] at q; exact q))]
          exact skip (Or.inr (by rw [zmt_at hx' hy', if_neg hin]))
