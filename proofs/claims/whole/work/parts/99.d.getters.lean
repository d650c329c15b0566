/-! PURE: getters answer alike -/
theorem q_inm (x : Int32) {n : Nat} (hn : n + 1 < 2 ^ 31) : fX5_in x 0 (nI n - 1) = some (zb (zin x (nI n))) := by
  cases n with
  | zero =>
    rw [q_in]
    congr 2
    unfold zin
    congr 1
    rw [decide_eq_decide, Int32.le_iff_toInt_le, Int32.lt_iff_toInt_lt]
    have e1 : (nI 0 - 1).toInt = -1 := by decide
    have e2 : (nI 0).toInt = 0 := by decide
    omega
  | succ n => rw [nI_pred]; exact q_in0 x (by omega)
theorem zbit0 {X : Int64} {c : Nat} (hc : c < 64) : X &&& ((1 : Int64) <<< ((nI c).toInt64 &&& 63)) = 0 ↔ zt X c = false := by
  rw [zt_eq0]
  constructor
  · intro h
    have := h c hc
    rw [zt_and, zt_bit hc, decide_eq_true rfl, Bool.and_true] at this
    exact this
  · intro h i hi
    rw [zt_and, zt_bit hc]
    by_cases e : i = c
    · rw [e, h]; rfl
    · rw [decide_eq_false e, Bool.and_false]
section ZW
variable {sX sT sM sL sP : zOS} {sSS : zSS} {sD : zOS} {F : Nat} {x1 x2 x3 : Int32}
theorem zg_at (h : zRR sX sT sM sL sP sSS sD) : ∃ r sX' sD', fX4_at x1 x2 x3 sX sP = some (r, sX') ∧ fX5_at x1 x2 x3 sD = some (r, sD') ∧ zRR sX' sT sM sL sP sSS sD' := by
  obtain ⟨R, R', e1, e2, e3⟩ := zRR_refuse (r := -2) (Or.inl rfl) h
  unfold fX4_at fX5_at jX4_at_16 jX5_at_17
  rw [p_isWithin, p_isCell, q_isCell, show fX5_in x1 0 3 = some (zb (zin x1 4)) from q_in0 x1 (n := 3) (by decide), e1, e2]
  simp only [Option.bind_some, zif_b]
  cases h1 : zin x1 4 with
  | false => exact ⟨_, _, _, rfl, rfl, e3⟩
  | true =>
    cases h2 : zin x2 8 && zin x3 8 with
    | false => exact ⟨_, _, _, rfl, rfl, e3⟩
    | true =>
      obtain ⟨l, hl, rfl⟩ := (zin_iff (n := 4) (by decide)).mp h1
      obtain ⟨kx, ky⟩ := (Bool.and_eq_true _ _).mp h2
      obtain ⟨x, hx, rfl⟩ := (zin_iff (n := 8) (by decide)).mp kx
      obtain ⟨y, hy, rfl⟩ := (zin_iff (n := 8) (by decide)).mp ky
      rw [if_pos rfl, if_pos rfl, if_pos rfl, if_pos rfl, zchk_nI hl (by decide), nI_clamp (show l < 2 ^ 31 by omega), p_cellBit hx hy, Option.bind_some, show (8 : Int32) * nI y + nI x = nI (8 * y + x) from zmu (c := 8) rfl, q_isDrawn hl (show 8 * y + x < 64 by omega), Option.bind_some, ← h.1.1.1 l hl (8 * y + x) (by omega), zif_b]
      cases hb : zt (zL sP 1 l) (8 * y + x) with
      | false =>
        rw [if_pos ((zc_eq0 _ _).mpr ((zbit0 (by omega)).mpr hb)), if_neg (by decide)]
        exact ⟨_, _, _, rfl, rfl, h⟩
      | true =>
        rw [if_neg (fun q => by rw [(zbit0 (by omega)).mp ((zc_eq0 _ _).mp q)] at hb; cases hb), if_pos rfl]
        exact ⟨_, _, _, rfl, rfl, h⟩
/-- both have read: what is read is the same -/
theorem zRR_both (hF : 20000000 ≤ F) (h : zRR sX sT sM sL sP sSS sD) : ∃ sL' sD' m N nG lab0 lab labG nd np, fX4_readLayout F sL sP = some sL' ∧ fX5_lay F sD = some sD' ∧ zRR sX sT sM sL' sP sSS sD' ∧ zqlay sD' m N nG lab0 lab labG ∧ zcc sL' sD' m N nG lab labG ∧ zpd sP (zI sD' 1) nd np ∧ zqfl sD sD' ∧ zqok sD' := by
  obtain ⟨sD', a1, a2, a3, a4⟩ := zRR_lay hF h
  obtain ⟨sL', b1, b2, b3, b4⟩ := zRR_read (F := F) (by omega) a2
  obtain ⟨m, N, nG, lab0, lab, labG, nd, np, c1, -⟩ := id a3
  obtain ⟨nd, np, c2⟩ := zRR_pv b2
  exact ⟨sL', sD', m, N, nG, lab0, lab, labG, nd, np, b1, a1, b2, c1, zcc_of b4 b3 b2.1.1 c1, c2, a4, a3⟩
theorem zg_node (hF : 20000000 ≤ F) (h : zRR sX sT sM sL sP sSS sD) : ∃ r sX' sL' sD', fX4_node F x1 x2 x3 sX sL sP = some (r, sX', sL') ∧ fX5_node F x1 x2 x3 sD = some (r, sD') ∧ zRR sX' sT sM sL' sP sSS sD' := by
  obtain ⟨R, R', e1, e2, e3⟩ := zRR_refuse (r := -2) (Or.inl rfl) h
  unfold fX4_node fX5_node jX4_node_16 jX5_node_17
  rw [p_isWithin, p_isCell, q_isCell, show fX5_in x1 0 2 = some (zb (zin x1 3)) from q_in0 x1 (n := 2) (by decide), e1, e2]
  simp only [Option.bind_some, zif_b]
  cases h1 : zin x1 3 with
  | false => exact ⟨_, _, _, _, rfl, rfl, e3⟩
  | true =>
    cases h2 : zin x2 8 && zin x3 8 with
    | false => exact ⟨_, _, _, _, rfl, rfl, e3⟩
    | true =>
      obtain ⟨l, hl, rfl⟩ := (zin_iff (n := 3) (by decide)).mp h1
      obtain ⟨kx, ky⟩ := (Bool.and_eq_true _ _).mp h2
      obtain ⟨x, hx, rfl⟩ := (zin_iff (n := 8) (by decide)).mp kx
      obtain ⟨y, hy, rfl⟩ := (zin_iff (n := 8) (by decide)).mp ky
      obtain ⟨sL', sD', m, N, nG, lab0, lab, labG, nd, np, b1, b2, b3, b4, b5, b6, b7, b8⟩ := zRR_both hF h
      have hn := p_nodeAt (F := F) (l := l) (x := x) (y := y) (by omega) b5.1 hl hx hy
      rw [p_cellBit hx hy, Option.bind_some] at hn
      rw [if_pos rfl, if_pos rfl, if_pos rfl, if_pos rfl, b1, b2, Option.bind_some, Option.bind_some, p_cellBit hx hy, Option.bind_some, hn, Option.bind_some, show (64 : Int32) * nI l + (8 : Int32) * nI y + nI x = nI (64 * l + (8 * y + x)) by rw [show (64 : Int32) * nI l = nI (64 * l) from pk_mul 64 l, show (8 : Int32) * nI y = nI (8 * y) from pk_mul 8 y, nI_add, nI_add, Nat.add_assoc], zchk_nI (show 64 * l + (8 * y + x) < 192 by omega) (by decide), nI_clamp (show 64 * l + (8 * y + x) < 2 ^ 31 by omega), b4.2.2.2.2.2.2.2.2.2.1.1 _ (by omega)]
      exact ⟨_, _, _, _, rfl, rfl, b3⟩
theorem p_gateWith {m N nG c : Nat} {lab labG : Nat → Option Nat} (hF : 1000 ≤ F) (hc : zcc sL sD m N nG lab labG) (hl : ∀ c j, c < 64 → labG c = some j → j < nG) (hcc : c < 64) : fX0_gateWith F ((1 : Int64) <<< ((nI c).toInt64 &&& 63)) sL = some (zenc (labG c)) := by
  have hnG := hc.2.2.1
  unfold fX0_gateWith
  refine zit_wf (fun p => ∃ v, p = nI v ∧ v ≤ nG ∧ ∀ v', v' < v → ¬ labG c = some v') (fun p => 40 - p.toNatClampNeg) (fun r => r = some (zenc (labG c))) ?_ F (0 : Int32) ⟨0, rfl, by omega, fun v' hv => by omega⟩ (by show 40 - _ < F; omega)
  rintro kc p ⟨v, rfl, hv, hno⟩
  show (∃ p', _ ∧ _ ∧ bX0_gateWith_2 F _ sL kc (nI v) = kc p') ∨ bX0_gateWith_2 F _ sL kc (nI v) = _
  unfold bX0_gateWith_2
  rw [hc.2.1]
  by_cases hvN : v = nG
  · right
    rw [if_pos (zle_ok (by omega) (by omega))]
    cases e : labG c with
    | none => rfl
    | some k => exact absurd e (hno k (by have := hl c k hcc e; omega))
  · have hv' : v < nG := by omega
    rw [if_neg (zlt_no hv' (by omega)), zchk_nI (show v < 32 by omega) (by decide), nI_clamp (show v < 2 ^ 31 by omega)]
    have hb := hc.2.2.2.2.2.2.2.1 v hv' c
    by_cases e : labG c = some v
    · right
      rw [if_neg (fun q => by
        have := (zbit0 hcc).mp ((zc_eq0 _ _).mp q)
        rw [hb.mpr ⟨hcc, e⟩] at this; cases this), e]
      rfl
    · left
      rw [if_pos ((zc_eq0 _ _).mpr ((zbit0 hcc).mpr (by
        cases q : zt (zL sL 8 v) c with
        | false => rfl
        | true => exact absurd (hb.mp q).2 e))), nI_1]
      refine ⟨nI (v + 1), ⟨v + 1, rfl, by omega, fun v' hv1 => ?_⟩, by rw [nI_clamp (by omega)]; omega, rfl⟩
      by_cases e2 : v' = v
      · rw [e2]; exact e
      · exact hno v' (by omega)
theorem zg_gateAt (hF : 20000000 ≤ F) (h : zRR sX sT sM sL sP sSS sD) : ∃ r sX' sL' sD', fX4_gateAt F x1 x2 sX sL sP = some (r, sX', sL') ∧ fX5_gateAt F x1 x2 sD = some (r, sD') ∧ zRR sX' sT sM sL' sP sSS sD' := by
  obtain ⟨R, R', e1, e2, e3⟩ := zRR_refuse (r := -2) (Or.inl rfl) h
  unfold fX4_gateAt fX5_gateAt
  rw [p_isCell, q_isCell, e1, e2]
  simp only [Option.bind_some, zif_b]
  cases h2 : zin x1 8 && zin x2 8 with
  | false => exact ⟨_, _, _, _, rfl, rfl, e3⟩
  | true =>
    obtain ⟨kx, ky⟩ := (Bool.and_eq_true _ _).mp h2
    obtain ⟨x, hx, rfl⟩ := (zin_iff (n := 8) (by decide)).mp kx
    obtain ⟨y, hy, rfl⟩ := (zin_iff (n := 8) (by decide)).mp ky
    obtain ⟨sL', sD', m, N, nG, lab0, lab, labG, nd, np, b1, b2, b3, b4, b5, b6, b7, b8⟩ := zRR_both hF h
    rw [if_pos rfl, if_pos rfl, b1, b2, Option.bind_some, Option.bind_some, p_cellBit hx hy, Option.bind_some, p_gateWith (by omega) b5 (fun c j hc hj => zlab_lt b4.2.2.1 hc hj) (by omega), Option.bind_some, show (8 : Int32) * nI y + nI x = nI (8 * y + x) from zmu (c := 8) rfl, zchk_nI (show 8 * y + x < 64 by omega) (by decide), nI_clamp (show 8 * y + x < 2 ^ 31 by omega), b4.2.2.2.2.2.2.2.2.2.1.2.1 _ (by omega)]
    exact ⟨_, _, _, _, rfl, rfl, b3⟩
theorem zg_gate (hF : 20000000 ≤ F) (h : zRR sX sT sM sL sP sSS sD) : ∃ r sX' sL' sD', fX4_gate F x1 x2 sX sL sP = some (r, sX', sL') ∧ fX5_gate F x1 x2 sD = some (r, sD') ∧ zRR sX' sT sM sL' sP sSS sD' := by
  obtain ⟨sL', sD', m, N, nG, lab0, lab, labG, nd, np, b1, b2, b3, b4, b5, b6, b7, b8⟩ := zRR_both hF h
  obtain ⟨R, R', e1, e2, e3⟩ := zRR_refuse (r := -2) (Or.inl rfl) b3
  have hnG := b5.2.2.1
  unfold fX4_gate fX5_gate jX4_gate_25 jX5_gate_36
  rw [b1, b2, Option.bind_some, Option.bind_some, b5.2.1, b4.2.2.2.2.2.2.2.1, p_isWithin, p_isWithin, q_inm x1 (by omega), show fX5_in x2 0 5 = some (zb (zin x2 6)) from q_in0 x2 (n := 5) (by decide), e1, e2]
  simp only [Option.bind_some, zif_b]
  cases h1 : zin x1 (nI nG) with
  | false => exact ⟨_, _, _, _, rfl, rfl, e3⟩
  | true =>
    cases h2 : zin x2 6 with
    | false => exact ⟨_, _, _, _, rfl, rfl, e3⟩
    | true =>
      obtain ⟨j, hj, rfl⟩ := (zin_iff (by omega)).mp h1
      obtain ⟨k, hk, rfl⟩ := (zin_iff (n := 6) (by decide)).mp h2
      obtain ⟨c, c1, c2, c3⟩ := b4.2.2.1.2.2.2.2.1 j hj
      rw [if_pos rfl, if_pos rfl, if_pos rfl, if_pos rfl, p_tellGate (by omega) hk ⟨c, (b5.2.2.2.2.2.2.2.1 j hj c).mpr ⟨c1, c3⟩⟩, q_ofGate (by omega) hk, Option.bind_some, Option.bind_some, b5.2.2.2.1 j hj k hk]
      exact ⟨_, _, _, _, rfl, rfl, b3⟩
theorem zcount_ad2 {p : Nat → Bool} {a : Nat} : ∀ b, zcount p (a + b) = zcount p a + zcount (fun i => p (a + i)) b
  | 0 => rfl
  | b + 1 => by
    rw [← Nat.add_assoc, zcount_next, zcount_next, zcount_ad2 b]
    omega
/-- how many places are at node n -/
def znz (lab : Nat → Option Nat) (n : Nat) : Nat := zcount (fun k => decide (lab k = some n)) 192
theorem p_sizeOf {N n : Nat} {lab : Nat → Option Nat} (hF : 1000 ≤ F) (hw : zcw sL N lab) (hn : n < N) : fX0_sizeOf F (nI n) sL = some (nI (znz lab n)) := by
  have hN := hw.2.1
  unfold fX0_sizeOf
  have hl : ∀ l, l < 3 → zcount (zt (zL sL (zbs 0 + l) n)) 64 = zcount (fun c => decide (lab (64 * l + c) = some n)) 64 := fun l hl => zcount_congr (fun c hc => by
    rw [Bool.eq_iff_iff, hw.2.2.1 l hl n hn c, decide_eq_true_iff]
    exact ⟨fun q => q.2, fun q => ⟨hc, q⟩⟩)
  have hz : znz lab n = zcount (fun c => decide (lab (64 * 0 + c) = some n)) 64 + zcount (fun c => decide (lab (64 * 1 + c) = some n)) 64 + zcount (fun c => decide (lab (64 * 2 + c) = some n)) 64 := by
    unfold znz
    rw [show 192 = 64 + 64 + 64 by rfl, zcount_ad2, zcount_ad2]
    rw [zcount_congr (p := fun c => decide (lab (64 * 0 + c) = some n)) (q := fun c => decide (lab c = some n)) (fun c _ => by show decide (lab (64 * 0 + c) = some n) = decide (lab c = some n); rw [show 64 * 0 + c = c by omega])]
  have step : ∀ (kc : (Int32 × Int32) → Option Int32) (w l : Nat), l < 3 → bX0_sizeOf_4 F (nI n) sL kc (nI w) (nI l) = kc (nI (w + zcount (fun c => decide (lab (64 * l + c) = some n)) 64), nI (l + 1)) := fun kc w l h3 => by
    unfold bX0_sizeOf_4
    rw [if_neg (show ¬ (3 : Int32) ≤ nI l from zlt_no (n := 3) h3 (by decide)), zchk_nI h3 (by decide), zchk_nI (show n < 96 by omega) (by decide), p_bitCount, Option.bind_some, zlet_eq, nI_clamp (show l < 2 ^ 31 by omega), nI_clamp (show n < 2 ^ 31 by omega), hl l h3, nI_add, nI_1]
  obtain ⟨K, rfl⟩ : ∃ K, F = K + 1 + 1 + 1 + 1 := ⟨F - 4, by omega⟩
  show bX0_sizeOf_4 (K + 1 + 1 + 1 + 1) (nI n) sL (zit (P := Int32 × Int32) (R := Int32) (fun kc9 p9 => bX0_sizeOf_4 (K + 1 + 1 + 1 + 1) (nI n) sL kc9 p9.1 p9.2) (K + 1 + 1 + 1)) (nI 0) (nI 0) = _
  rw [step _ 0 0 (by decide)]
  show bX0_sizeOf_4 (K + 1 + 1 + 1 + 1) (nI n) sL (zit (P := Int32 × Int32) (R := Int32) (fun kc9 p9 => bX0_sizeOf_4 (K + 1 + 1 + 1 + 1) (nI n) sL kc9 p9.1 p9.2) (K + 1 + 1)) _ (nI 1) = _
  rw [step _ _ 1 (by decide)]
  show bX0_sizeOf_4 (K + 1 + 1 + 1 + 1) (nI n) sL (zit (P := Int32 × Int32) (R := Int32) (fun kc9 p9 => bX0_sizeOf_4 (K + 1 + 1 + 1 + 1) (nI n) sL kc9 p9.1 p9.2) (K + 1)) _ (nI 2) = _
  rw [step _ _ 2 (by decide)]
  show bX0_sizeOf_4 (K + 1 + 1 + 1 + 1) (nI n) sL _ _ (nI 3) = _
  unfold bX0_sizeOf_4
  rw [if_pos (show (3 : Int32) ≤ nI 3 by decide), hz, Nat.zero_add]
theorem q_sizeOf {n : Nat} {lab labG : Nat → Option Nat} (hF : 1000 ≤ F) (hq : zqa sD lab labG) (hn : n < 192) : fX5_wireOf F (nI n) 0 sD = some (nI (znz lab n)) := by
  unfold fX5_wireOf
  rw [if_neg (show ¬ (0 : Int32) = 1 by decide)]
  obtain ⟨F', p', rfl, -, e⟩ := zfor (B := fun kc9 (p9 : Int32 × Int32) => bX5_wireOf_16 F (nI n) sD kc9 p9.1 p9.2) (fun i p => p = (nI (zcount (fun k => decide (lab k = some n)) i), nI i)) 192 (by
    rintro kc i p hi rfl
    refine ⟨_, rfl, ?_⟩
    show bX5_wireOf_16 F (nI n) sD kc _ (nI i) = _
    unfold bX5_wireOf_16
    rw [if_neg (show ¬ (192 : Int32) ≤ nI i from zlt_no (n := 192) hi (by decide)), zchk_nI hi (by decide), nI_clamp (show i < 2 ^ 31 by omega), zlet_eq, zlet_eq, nI_1, nI_1, Int32.add_zero, hq.1 i hi, zcount_next]
    have hz := zenc_eq (o := lab i) (v := n) (fun j hj => by have := hq.2.2.1 i j hi hj; omega) (by omega)
    by_cases el : lab i = some n
    · rw [if_pos (hz.mpr el), decide_eq_true el]; rfl
    · rw [if_neg (fun q => el (hz.mp q)), decide_eq_false el]; rfl) (F := F) (p := ((0 : Int32), (0 : Int32))) rfl (by omega)
  rw [e]
  show bX5_wireOf_16 F (nI n) sD _ _ (nI 192) = _
  unfold bX5_wireOf_16
  rw [if_pos (show (192 : Int32) ≤ nI 192 by decide)]
  rfl
theorem q_hangOfN {nG : Nat} {x : Int32} (hF : 1000 ≤ F) (hn : nG ≤ 32) (h10 : zF sD 10 = nI nG) : fX5_wireOf F x 1 sD = some (nI (zhw (zVs sD) (zqw sD) x nG)) := by
  unfold fX5_wireOf
  rw [if_pos rfl, show fX5_nodeHangs F x sD = some (nI (zhw (zVs sD) (zqw sD) x nG)) from q_nodeHangs hF hn h10, Option.bind_some]
theorem zg_wire (hF : 20000000 ≤ F) (h : zRR sX sT sM sL sP sSS sD) : ∃ r sX' sL' sD', fX4_wire F x1 x2 sX sL sP = some (r, sX', sL') ∧ fX5_wire F x1 x2 sD = some (r, sD') ∧ zRR sX' sT sM sL' sP sSS sD' := by
  obtain ⟨sL', sD', m, N, nG, lab0, lab, labG, nd, np, b1, b2, b3, b4, b5, b6, b7, b8⟩ := zRR_both hF h
  obtain ⟨R, R', e1, e2, e3⟩ := zRR_refuse (r := -2) (Or.inl rfl) b3
  have hN := b5.1.2.1
  unfold fX4_wire fX5_wire jX4_wire_24 jX5_wire_36
  rw [b1, b2, Option.bind_some, Option.bind_some, b5.1.1, b4.2.2.2.2.2.1, p_isWithin, p_isWithin, q_inm x1 (by omega), show fX5_in x2 0 1 = some (zb (zin x2 2)) from q_in0 x2 (n := 1) (by decide), e1, e2]
  simp only [Option.bind_some, zif_b]
  cases h1 : zin x1 (nI N) with
  | false => exact ⟨_, _, _, _, rfl, rfl, e3⟩
  | true =>
    cases h2 : zin x2 2 with
    | false => exact ⟨_, _, _, _, rfl, rfl, e3⟩
    | true =>
      obtain ⟨n, hn, rfl⟩ := (zin_iff (by omega)).mp h1
      obtain ⟨k, hk, rfl⟩ := (zin_iff (n := 2) (by decide)).mp h2
      rw [if_pos rfl, if_pos rfl, if_pos rfl, if_pos rfl, p_sizeOf (by omega) b5.1 hn, p_nodeHang b5 hn, Option.bind_some, Option.bind_some]
      rcases (show k = 0 ∨ k = 1 by omega) with rfl | rfl
      · rw [if_pos (show nI 0 = 0 from rfl), show nI 0 = (0 : Int32) from rfl, q_sizeOf (by omega) b4.2.2.2.2.2.2.2.2.2.1 (by omega), Option.bind_some]
        exact ⟨_, _, _, _, rfl, rfl, b3⟩
      · rw [if_neg (show ¬ nI 1 = 0 by decide), show nI 1 = (1 : Int32) from rfl, q_hangOfN (by omega) b5.2.2.1 b4.2.2.2.2.2.2.2.1, Option.bind_some]
        exact ⟨_, _, _, _, rfl, rfl, b3⟩
end ZW
