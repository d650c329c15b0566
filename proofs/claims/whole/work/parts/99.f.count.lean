/-! PURE: shorts, opens; all counts -/
def zpp (sh : Bool) (f : Nat → Option Nat) (nt : Nat → Nat) (i j : Nat) : Bool := (f i).isSome && ((f j).isSome && (if sh then decide (f i = f j) && !decide (nt i = nt j) else decide (nt i = nt j) && !decide (f i = f j)))
def zps2 (sh : Bool) (f : Nat → Option Nat) (nt : Nat → Nat) (n : Nat) : Nat := zsm (fun i => zcount (zpp sh f nt i) i) n
theorem zenc_inj {o o' : Option Nat} (h : ∀ j, o = some j → j < 2 ^ 31) (h' : ∀ j, o' = some j → j < 2 ^ 31) : zenc o = zenc o' ↔ o = o' := by
  cases o' with
  | none =>
    cases o with
    | none => exact ⟨fun _ => rfl, fun _ => rfl⟩
    | some k => exact ⟨fun q => absurd q (nI_ne1 (h k rfl)), fun q => (by cases q)⟩
  | some k => exact zenc_eq h (h' k rfl)
theorem zpnd_lt {lab : Nat → Option Nat} {a : Nat → Int32} {nd np i : Nat} (hv : zpv a nd np) (hl : ∀ p j, p < 192 → lab p = some j → j < 192) (hi : i < np) : ∀ j, zpnd lab a i = some j → j < 2 ^ 31 := fun j hj => by
  obtain ⟨-, b1⟩ := zpnc_e hv hi (show 1 < 3 by decide)
  obtain ⟨-, b0⟩ := zpnc_e hv hi (show 0 < 3 by decide)
  rw [if_neg (by decide)] at b1 b0
  have := hl _ j (by omega) hj
  omega
section ZY
variable {sX sT sM sL sP : zOS} {sSS : zSS} {sD : zOS} {F : Nat} {x1 x2 x3 : Int32}
theorem q_pairs {nd np : Nat} {lab labG : Nat → Option Nat} (sh : Bool) (hF : 1000 ≤ F) (hq : zqa sD lab labG) (hv : zpv (zI sD 1) nd np) : fX5_pairs F (zb sh) sD = some (nI (zps2 sh (zpnd lab (zI sD 1)) (fun i => zpnc (zI sD 1) i 2) np)) := by
  have hnp := hv.2.1
  unfold fX5_pairs
  obtain ⟨F', p', rfl, -, e⟩ := zfor (B := fun kc9 (p9 : Int32 × Int32) => bX5_pairs_4 F (zb sh) sD kc9 p9.1 p9.2) (fun i p => p = (nI (zps2 sh (zpnd lab (zI sD 1)) (fun i => zpnc (zI sD 1) i 2) i), nI i)) np (by
    rintro kc i p hi rfl
    refine ⟨_, rfl, ?_⟩
    show bX5_pairs_4 F (zb sh) sD kc _ (nI i) = kc (nI (zps2 sh (zpnd lab (zI sD 1)) (fun i => zpnc (zI sD 1) i 2) i + zcount (zpp sh (zpnd lab (zI sD 1)) (fun i => zpnc (zI sD 1) i 2) i) i), nI (i + 1))
    generalize zps2 sh (zpnd lab (zI sD 1)) (fun i => zpnc (zI sD 1) i 2) i = w
    unfold bX5_pairs_4
    rw [zck (j := (27 : Int32)) (n := 46) 27 rfl (by decide) (by decide), show zI sD 1 (27 : Int32).toNatClampNeg = nI np from hv.2.2.2.1, if_neg (zlt_no hi (by omega))]
    obtain ⟨F', p', rfl, -, e⟩ := zfor (B := fun kc9 (p9 : Int32 × Int32) => bX5_pairs_18 F kc (zb sh) (nI i) sD kc9 p9.1 p9.2) (fun j p => p = (nI (w + zcount (zpp sh (zpnd lab (zI sD 1)) (fun i => zpnc (zI sD 1) i 2) i) j), nI j)) i (by
      rintro kc2 j p hj rfl
      refine ⟨_, rfl, ?_⟩
      have hjn : j < np := by omega
      rw [zcount_next, ← Nat.add_assoc]
      show bX5_pairs_18 F kc (zb sh) (nI i) sD kc2 (nI (w + zcount (zpp sh (zpnd lab (zI sD 1)) (fun i => zpnc (zI sD 1) i 2) i) j)) (nI j) = _
      generalize w + zcount (zpp sh (zpnd lab (zI sD 1)) (fun i => zpnc (zI sD 1) i 2) i) j = w2
      obtain ⟨a1, a2⟩ := zpnc_e hv hi (show 2 < 3 by decide)
      obtain ⟨b1, b2⟩ := zpnc_e hv hjn (show 2 < 3 by decide)
      rw [if_pos rfl] at a2 b2
      have li := zpnd_lt hv hq.2.2.1 hi
      have lj := zpnd_lt hv hq.2.2.1 hjn
      have pi := q_pinNode hq hv hi
      have pj := q_pinNode hq hv hjn
      have j66 : ∀ c1 c2 : Bool, (c1 = true ↔ zpnc (zI sD 1) i 2 = zpnc (zI sD 1) j 2) → (c2 = true ↔ zpnd lab (zI sD 1) i = zpnd lab (zI sD 1) j) → jX5_pairs_66 F kc kc2 (zb sh) (nI w2) (nI i) (nI j) (zb c1) (zb c2) sD = kc2 (nI (w2 + if zpp sh (zpnd lab (zI sD 1)) (fun i => zpnc (zI sD 1) i 2) i j = true then 1 else 0), nI (j + 1)) := fun c1 c2 h1 h2 => by
        unfold jX5_pairs_66 zpp
        rw [pi, pj, Option.bind_some, Option.bind_some]
        have e1 : decide (zpnc (zI sD 1) i 2 = zpnc (zI sD 1) j 2) = c1 := by
          cases c1 with
          | true => exact decide_eq_true (h1.mp rfl)
          | false => exact decide_eq_false (fun q => absurd (h1.mpr q) (by decide))
        have e2 : decide (zpnd lab (zI sD 1) i = zpnd lab (zI sD 1) j) = c2 := by
          cases c2 with
          | true => exact decide_eq_true (h2.mp rfl)
          | false => exact decide_eq_false (fun q => absurd (h2.mpr q) (by decide))
        simp only [zlet_eq, nI_1, Int32.add_zero, zif_b]
        rw [e1, e2]
        cases hfi : zpnd lab (zI sD 1) i with
        | none =>
          rw [if_pos (show zenc none = (-1 : Int32) from rfl)]
          rfl
        | some vi =>
          rw [if_neg (show ¬ zenc (some vi) = -1 from zenc_ne (li vi hfi))]
          cases hfj : zpnd lab (zI sD 1) j with
          | none =>
            rw [if_pos (show zenc none = (-1 : Int32) from rfl)]
            rfl
          | some vj =>
            rw [if_neg (show ¬ zenc (some vj) = -1 from zenc_ne (lj vj hfj))]
            cases sh <;> cases c1 <;> cases c2 <;> rfl
      have j45 : ∀ c1 : Bool, (c1 = true ↔ zpnc (zI sD 1) i 2 = zpnc (zI sD 1) j 2) → jX5_pairs_45 F kc kc2 (zb sh) (nI w2) (nI i) (nI j) (zb c1) sD = kc2 (nI (w2 + if zpp sh (zpnd lab (zI sD 1)) (fun i => zpnc (zI sD 1) i 2) i j = true then 1 else 0), nI (j + 1)) := fun c1 h1 => by
        unfold jX5_pairs_45
        rw [pi, pj, Option.bind_some, Option.bind_some]
        by_cases e : zpnd lab (zI sD 1) i = zpnd lab (zI sD 1) j
        · rw [if_pos ((zenc_inj li lj).mpr e)]
          exact j66 c1 true h1 ⟨fun _ => e, fun _ => rfl⟩
        · rw [if_neg (fun q => e ((zenc_inj li lj).mp q))]
          exact j66 c1 false h1 ⟨fun q => (by cases q), fun q => absurd q e⟩
      unfold bX5_pairs_18
      rw [if_neg (zlt_no hj (by omega)), show fX5_ofPin (nI i) 2 sD = some (zI sD 1 (28 + 3 * i + 2)) from q_ofPin (k := 2) (by omega) (by decide), show fX5_ofPin (nI j) 2 sD = some (zI sD 1 (28 + 3 * j + 2)) from q_ofPin (k := 2) (by omega) (by decide), Option.bind_some, Option.bind_some, a1, b1]
      by_cases e : zpnc (zI sD 1) i 2 = zpnc (zI sD 1) j 2
      · rw [if_pos (by rw [e])]
        exact j45 true ⟨fun _ => e, fun _ => rfl⟩
      · rw [if_neg (fun q => e ((nI_eq (by omega) (by omega)).mp q))]
        exact j45 false ⟨fun q => (by cases q), fun q => absurd q e⟩) (F := F) (p := (nI w, (0 : Int32))) rfl (by omega)
    rw [e]
    show bX5_pairs_18 F kc (zb sh) (nI i) sD _ _ (nI i) = _
    unfold bX5_pairs_18
    rw [if_pos (zle_ok (Nat.le_refl i) (by omega)), nI_1]) (F := F) (p := ((0 : Int32), (0 : Int32))) rfl (by omega)
  rw [e]
  show bX5_pairs_4 F (zb sh) sD _ _ (nI np) = _
  unfold bX5_pairs_4
  rw [zck (j := (27 : Int32)) (n := 46) 27 rfl (by decide) (by decide), show zI sD 1 (27 : Int32).toNatClampNeg = nI np from hv.2.2.2.1, if_pos (zle_ok (Nat.le_refl np) (by omega))]
theorem zpp_none {sh : Bool} {f : Nat → Option Nat} {nt : Nat → Nat} {i : Nat} (h : f i = none) (n : Nat) : zcount (zpp sh f nt i) n = 0 := zcount_0 (fun j _ => by unfold zpp; rw [h]; rfl)
theorem p_shorts {nd np N : Nat} {a : Nat → Int32} {lab : Nat → Option Nat} (hF : 1000 ≤ F) (h : zpd sP a nd np) (hw : zcw sL N lab) (hl : ∀ p j, p < 192 → lab p = some j → j < 192) : fX0_countShorts F sL sP = some (nI (zps2 true (zpnd lab a) (fun i => zpnc a i 2) np)) := by
  have hnp := h.1.2.1
  unfold fX0_countShorts
  have hit : ∀ (kc : (Int32 × Int32) → Option Int32) (i w : Nat), i < np → bX0_countShorts_4 F sL sP kc (nI w) (nI i) = kc (nI (w + zcount (zpp true (zpnd lab a) (fun i => zpnc a i 2) i) i), nI (i + 1)) := fun kc i w hi => by
    unfold bX0_countShorts_4
    rw [h.2.2.1, if_neg (zlt_no hi (by omega)), p_pinNode hF h hw hi, Option.bind_some]
    have li := zpnd_lt h.1 hl hi
    cases hfi : zpnd lab a i with
    | none =>
      rw [zpp_none hfi]
      obtain ⟨K, rfl⟩ : ∃ K, F = K + 1 := ⟨F - 1, by omega⟩
      show bX0_countShorts_23 (K + 1) kc (nI i) (zenc none) sL sP _ (nI w) (0 : Int32) = _
      unfold bX0_countShorts_23
      rw [if_pos (show zenc none = (-1 : Int32) from rfl), ite_self, nI_1]
      rfl
    | some vi =>
      obtain ⟨F', p', rfl, -, e⟩ := zfor (B := fun kc9 (p9 : Int32 × Int32) => bX0_countShorts_23 F kc (nI i) (zenc (some vi)) sL sP kc9 p9.1 p9.2) (fun j p => p = (nI (w + zcount (zpp true (zpnd lab a) (fun i => zpnc a i 2) i) j), nI j)) i (by
        rintro kc2 j p hj rfl
        refine ⟨_, rfl, ?_⟩
        have hjn : j < np := by omega
        rw [zcount_next, ← Nat.add_assoc]
        show bX0_countShorts_23 F kc (nI i) (zenc (some vi)) sL sP kc2 (nI (w + zcount (zpp true (zpnd lab a) (fun i => zpnc a i 2) i) j)) (nI j) = _
        generalize w + zcount (zpp true (zpnd lab a) (fun i => zpnc a i 2) i) j = w2
        obtain ⟨a1, a2⟩ := zpnc_e h.1 hi (show 2 < 3 by decide)
        obtain ⟨b1, b2⟩ := zpnc_e h.1 hjn (show 2 < 3 by decide)
        rw [if_pos rfl] at a2 b2
        have lj := zpnd_lt h.1 hl hjn
        unfold bX0_countShorts_23 zpp
        rw [if_neg (zlt_no hj (by omega)), if_neg (show ¬ zenc (some vi) = -1 from zenc_ne (li vi hfi)), p_pinNode hF h hw hjn, Option.bind_some, p_pinNet h hi, p_pinNet h hjn, Option.bind_some, Option.bind_some, nI_1, nI_1, hfi, if_pos (show true = true from rfl)]
        have hz := zenc_inj (o := some vi) (o' := zpnd lab a j) (fun k hk => li k (by rw [hfi]; exact hk)) lj
        by_cases e : some vi = zpnd lab a j
        · rw [if_pos (hz.mpr e), ← e, decide_eq_true rfl]
          by_cases e2 : zpnc a i 2 = zpnc a j 2
          · rw [if_pos (by rw [e2]), decide_eq_true e2]; rfl
          · rw [if_neg (fun q => e2 ((nI_eq (by omega) (by omega)).mp q)), decide_eq_false e2]; rfl
        · rw [if_neg (fun q => e (hz.mp q)), decide_eq_false e]
          cases zpnd lab a j <;> rfl) (F := F) (p := (nI w, (0 : Int32))) rfl (by omega)
      rw [e]
      show bX0_countShorts_23 F kc (nI i) (zenc (some vi)) sL sP _ _ (nI i) = _
      unfold bX0_countShorts_23
      rw [if_pos (zle_ok (Nat.le_refl i) (by omega)), nI_1]
  have fin : ∀ (kc : (Int32 × Int32) → Option Int32) (i w : Nat), np ≤ i → i < 100 → bX0_countShorts_4 F sL sP kc (nI w) (nI i) = some (nI w) := fun kc i w hi h100 => by
    unfold bX0_countShorts_4
    rw [h.2.2.1, if_pos (zle_ok hi (by omega))]
  cases np with
  | zero =>
    obtain ⟨K, rfl⟩ : ∃ K, F = K + 1 := ⟨F - 1, by omega⟩
    exact fin _ 1 0 (by omega) (by omega)
  | succ n =>
    obtain ⟨F', p', rfl, -, e⟩ := zfor (B := fun kc9 (p9 : Int32 × Int32) => bX0_countShorts_4 F sL sP kc9 p9.1 p9.2) (fun i p => p = (nI (zps2 true (zpnd lab a) (fun i => zpnc a i 2) (i + 1)), nI (i + 1))) n (by
      rintro kc i p hi rfl
      exact ⟨_, rfl, hit kc (i + 1) _ (by omega)⟩) (F := F) (p := ((0 : Int32), (1 : Int32))) rfl (by omega)
    rw [e]
    exact fin _ (n + 1) _ (by omega) (by omega)
theorem p_opens {nd np N : Nat} {a : Nat → Int32} {lab : Nat → Option Nat} (hF : 1000 ≤ F) (h : zpd sP a nd np) (hw : zcw sL N lab) (hl : ∀ p j, p < 192 → lab p = some j → j < 192) : fX0_countOpens F sL sP = some (nI (zps2 false (zpnd lab a) (fun i => zpnc a i 2) np)) := by
  have hnp := h.1.2.1
  unfold fX0_countOpens
  have hit : ∀ (kc : (Int32 × Int32) → Option Int32) (i w : Nat), i < np → bX0_countOpens_4 F sL sP kc (nI w) (nI i) = kc (nI (w + zcount (zpp false (zpnd lab a) (fun i => zpnc a i 2) i) i), nI (i + 1)) := fun kc i w hi => by
    unfold bX0_countOpens_4
    rw [h.2.2.1, if_neg (zlt_no hi (by omega)), p_pinNode hF h hw hi, Option.bind_some]
    have li := zpnd_lt h.1 hl hi
    cases hfi : zpnd lab a i with
    | none =>
      rw [zpp_none hfi]
      obtain ⟨K, rfl⟩ : ∃ K, F = K + 1 := ⟨F - 1, by omega⟩
      show bX0_countOpens_23 (K + 1) kc (nI i) (zenc none) sL sP _ (nI w) (0 : Int32) = _
      unfold bX0_countOpens_23
      rw [if_pos (show zenc none = (-1 : Int32) from rfl), ite_self, nI_1]
      rfl
    | some vi =>
      obtain ⟨F', p', rfl, -, e⟩ := zfor (B := fun kc9 (p9 : Int32 × Int32) => bX0_countOpens_23 F kc (nI i) (zenc (some vi)) sL sP kc9 p9.1 p9.2) (fun j p => p = (nI (w + zcount (zpp false (zpnd lab a) (fun i => zpnc a i 2) i) j), nI j)) i (by
        rintro kc2 j p hj rfl
        refine ⟨_, rfl, ?_⟩
        have hjn : j < np := by omega
        rw [zcount_next, ← Nat.add_assoc]
        show bX0_countOpens_23 F kc (nI i) (zenc (some vi)) sL sP kc2 (nI (w + zcount (zpp false (zpnd lab a) (fun i => zpnc a i 2) i) j)) (nI j) = _
        generalize w + zcount (zpp false (zpnd lab a) (fun i => zpnc a i 2) i) j = w2
        obtain ⟨a1, a2⟩ := zpnc_e h.1 hi (show 2 < 3 by decide)
        obtain ⟨b1, b2⟩ := zpnc_e h.1 hjn (show 2 < 3 by decide)
        rw [if_pos rfl] at a2 b2
        have lj := zpnd_lt h.1 hl hjn
        unfold bX0_countOpens_23 zpp
        rw [if_neg (zlt_no hj (by omega)), if_neg (show ¬ zenc (some vi) = -1 from zenc_ne (li vi hfi)), p_pinNode hF h hw hjn, Option.bind_some, p_pinNet h hi, p_pinNet h hjn, Option.bind_some, Option.bind_some, nI_1, nI_1, hfi, if_neg (show ¬ false = true by decide)]
        cases hfj : zpnd lab a j with
        | none =>
          rw [if_pos (show zenc none = (-1 : Int32) from rfl)]
          rfl
        | some vj =>
          rw [if_neg (show ¬ zenc (some vj) = -1 from zenc_ne (lj vj hfj))]
          have bi := li vi hfi
          have bj := lj vj hfj
          by_cases e : vi = vj
          · rw [if_pos (show zenc (some vj) = zenc (some vi) by rw [e]), e, decide_eq_true rfl]
            cases decide (zpnc a i 2 = zpnc a j 2) <;> rfl
          · rw [if_neg (show ¬ zenc (some vj) = zenc (some vi) from fun q => e ((nI_eq bj bi).mp q).symm), decide_eq_false (show ¬ some vi = some vj from fun q => e (Option.some.inj q))]
            by_cases e2 : zpnc a i 2 = zpnc a j 2
            · rw [if_pos (by rw [e2]), decide_eq_true e2]; rfl
            · rw [if_neg (fun q => e2 ((nI_eq (by omega) (by omega)).mp q)), decide_eq_false e2]; rfl) (F := F) (p := (nI w, (0 : Int32))) rfl (by omega)
      rw [e]
      show bX0_countOpens_23 F kc (nI i) (zenc (some vi)) sL sP _ _ (nI i) = _
      unfold bX0_countOpens_23
      rw [if_pos (zle_ok (Nat.le_refl i) (by omega)), nI_1]
  have fin : ∀ (kc : (Int32 × Int32) → Option Int32) (i w : Nat), np ≤ i → i < 100 → bX0_countOpens_4 F sL sP kc (nI w) (nI i) = some (nI w) := fun kc i w hi h100 => by
    unfold bX0_countOpens_4
    rw [h.2.2.1, if_pos (zle_ok hi (by omega))]
  cases np with
  | zero =>
    obtain ⟨K, rfl⟩ : ∃ K, F = K + 1 := ⟨F - 1, by omega⟩
    exact fin _ 1 0 (by omega) (by omega)
  | succ n =>
    obtain ⟨F', p', rfl, -, e⟩ := zfor (B := fun kc9 (p9 : Int32 × Int32) => bX0_countOpens_4 F sL sP kc9 p9.1 p9.2) (fun i p => p = (nI (zps2 false (zpnd lab a) (fun i => zpnc a i 2) (i + 1)), nI (i + 1))) n (by
      rintro kc i p hi rfl
      exact ⟨_, rfl, hit kc (i + 1) _ (by omega)⟩) (F := F) (p := ((0 : Int32), (1 : Int32))) rfl (by omega)
    rw [e]
    exact fin _ (n + 1) _ (by omega) (by omega)
/-- the counts, on both sides -/
theorem zcounted {k : Nat} (hk : k < 9) (hF : 20000000 ≤ F) (h : zRR sX sT sM sL sP sSS sD) : ∃ r sX' sM' sL' sD', fX4_count F (nI k) sX sM sP sL = some (r, sX', sM', sP, sL') ∧ fX5_counted F (nI k) sD = some (r, sD') ∧ zRR sX' sT sM' sL' sP sSS sD' ∧ zqfl sD sD' ∧ fX5_lay F sD = some sD' := by
  obtain ⟨sL', sD', m, N, nG, lab0, lab, labG, nd, np, b1, b2, b3, b4, b5, b6, b7, b8⟩ := zRR_both hF h
  obtain ⟨sD2, c1, c2, c3, c4⟩ := zRR_lay hF h
  rw [b2] at c1
  cases c1
  have hqa := b4.2.2.2.2.2.2.2.2.2.1
  have hcn := zcount_not (p := zqw sD') nG
  unfold fX4_count fX5_counted
  rw [b2, Option.bind_some]
  rcases (show k = 0 ∨ k = 1 ∨ k = 2 ∨ k = 3 ∨ k = 4 ∨ k = 5 ∨ k = 6 ∨ k = 7 ∨ k = 8 by omega) with rfl | rfl | rfl | rfl | rfl | rfl | rfl | rfl | rfl
  · rw [if_pos (show nI 0 = (0 : Int32) from rfl), if_pos (show nI 0 = (0 : Int32) from rfl), b1, Option.bind_some, b5.1.1, b4.2.2.2.2.2.1]
    exact ⟨_, _, _, _, _, rfl, rfl, b3, b7, rfl⟩
  · rw [if_neg (show ¬ nI 1 = (0 : Int32) by decide), if_neg (show ¬ nI 1 = (0 : Int32) by decide), if_pos (show nI 1 = (1 : Int32) from rfl), if_pos (show nI 1 = (1 : Int32) from rfl), b1, Option.bind_some, b5.2.1, b4.2.2.2.2.2.2.2.1]
    exact ⟨_, _, _, _, _, rfl, rfl, b3, b7, rfl⟩
  · rw [if_neg (show ¬ nI 2 = (0 : Int32) by decide), if_neg (show ¬ nI 2 = (0 : Int32) by decide), if_neg (show ¬ nI 2 = (1 : Int32) by decide), if_neg (show ¬ nI 2 = (1 : Int32) by decide), if_pos (show nI 2 = (2 : Int32) from rfl), if_pos (show nI 2 = (2 : Int32) from rfl), b1, Option.bind_some, b5.2.2.2.2.2.2.1, q_wells (by omega) b5.2.2.1 b4.2.2.2.2.2.2.2.1, Option.bind_some, b4.2.2.2.2.2.2.2.1, nI_sub (by omega), show nG - zcount (zqw sD') nG = zcount (fun j => !zqw sD' j) nG by omega]
    exact ⟨_, _, _, _, _, rfl, rfl, b3, b7, rfl⟩
  · rw [if_neg (show ¬ nI 3 = (0 : Int32) by decide), if_neg (show ¬ nI 3 = (0 : Int32) by decide), if_neg (show ¬ nI 3 = (1 : Int32) by decide), if_neg (show ¬ nI 3 = (1 : Int32) by decide), if_neg (show ¬ nI 3 = (2 : Int32) by decide), if_neg (show ¬ nI 3 = (2 : Int32) by decide), if_pos (show nI 3 = (3 : Int32) from rfl), if_pos (show nI 3 = (3 : Int32) from rfl), b1, Option.bind_some, b5.2.2.2.2.2.2.2.2.1, b4.2.2.2.1]
    exact ⟨_, _, _, _, _, rfl, rfl, b3, b7, rfl⟩
  · rw [if_neg (show ¬ nI 4 = (0 : Int32) by decide), if_neg (show ¬ nI 4 = (0 : Int32) by decide), if_neg (show ¬ nI 4 = (1 : Int32) by decide), if_neg (show ¬ nI 4 = (1 : Int32) by decide), if_neg (show ¬ nI 4 = (2 : Int32) by decide), if_neg (show ¬ nI 4 = (2 : Int32) by decide), if_neg (show ¬ nI 4 = (3 : Int32) by decide), if_neg (show ¬ nI 4 = (3 : Int32) by decide), if_pos (show nI 4 = (4 : Int32) from rfl), if_pos (show nI 4 = (4 : Int32) from rfl), zck (j := (8 : Int32)) (n := 46) 8 rfl (by decide) (by decide), show zI sD' 1 (8 : Int32).toNatClampNeg = nI nd from b6.1.2.2.1, b6.2.1]
    exact ⟨_, _, _, _, _, rfl, rfl, c2, b7, rfl⟩
  · rw [if_neg (show ¬ nI 5 = (0 : Int32) by decide), if_neg (show ¬ nI 5 = (0 : Int32) by decide), if_neg (show ¬ nI 5 = (1 : Int32) by decide), if_neg (show ¬ nI 5 = (1 : Int32) by decide), if_neg (show ¬ nI 5 = (2 : Int32) by decide), if_neg (show ¬ nI 5 = (2 : Int32) by decide), if_neg (show ¬ nI 5 = (3 : Int32) by decide), if_neg (show ¬ nI 5 = (3 : Int32) by decide), if_neg (show ¬ nI 5 = (4 : Int32) by decide), if_neg (show ¬ nI 5 = (4 : Int32) by decide), if_pos (show nI 5 = (5 : Int32) from rfl), if_pos (show nI 5 = (5 : Int32) from rfl), zck (j := (27 : Int32)) (n := 46) 27 rfl (by decide) (by decide), show zI sD' 1 (27 : Int32).toNatClampNeg = nI np from b6.1.2.2.2.1, b6.2.2.1]
    exact ⟨_, _, _, _, _, rfl, rfl, c2, b7, rfl⟩
  · rw [if_neg (show ¬ nI 6 = (0 : Int32) by decide), if_neg (show ¬ nI 6 = (0 : Int32) by decide), if_neg (show ¬ nI 6 = (1 : Int32) by decide), if_neg (show ¬ nI 6 = (1 : Int32) by decide), if_neg (show ¬ nI 6 = (2 : Int32) by decide), if_neg (show ¬ nI 6 = (2 : Int32) by decide), if_neg (show ¬ nI 6 = (3 : Int32) by decide), if_neg (show ¬ nI 6 = (3 : Int32) by decide), if_neg (show ¬ nI 6 = (4 : Int32) by decide), if_neg (show ¬ nI 6 = (4 : Int32) by decide), if_neg (show ¬ nI 6 = (5 : Int32) by decide), if_neg (show ¬ nI 6 = (5 : Int32) by decide), if_pos (show nI 6 = (6 : Int32) from rfl), if_pos (show nI 6 = (6 : Int32) from rfl), b1, Option.bind_some, p_shorts (by omega) b6 b5.1 hqa.2.2.1, show fX5_pairs F 1 sD' = _ from q_pairs true (by omega) hqa b6.1, Option.bind_some, Option.bind_some]
    exact ⟨_, _, _, _, _, rfl, rfl, b3, b7, rfl⟩
  · rw [if_neg (show ¬ nI 7 = (0 : Int32) by decide), if_neg (show ¬ nI 7 = (0 : Int32) by decide), if_neg (show ¬ nI 7 = (1 : Int32) by decide), if_neg (show ¬ nI 7 = (1 : Int32) by decide), if_neg (show ¬ nI 7 = (2 : Int32) by decide), if_neg (show ¬ nI 7 = (2 : Int32) by decide), if_neg (show ¬ nI 7 = (3 : Int32) by decide), if_neg (show ¬ nI 7 = (3 : Int32) by decide), if_neg (show ¬ nI 7 = (4 : Int32) by decide), if_neg (show ¬ nI 7 = (4 : Int32) by decide), if_neg (show ¬ nI 7 = (5 : Int32) by decide), if_neg (show ¬ nI 7 = (5 : Int32) by decide), if_neg (show ¬ nI 7 = (6 : Int32) by decide), if_neg (show ¬ nI 7 = (6 : Int32) by decide), if_pos (show nI 7 = (7 : Int32) from rfl), if_pos (show nI 7 = (7 : Int32) from rfl), b1, Option.bind_some, p_opens (by omega) b6 b5.1 hqa.2.2.1, show fX5_pairs F 0 sD' = _ from q_pairs false (by omega) hqa b6.1, Option.bind_some, Option.bind_some]
    exact ⟨_, _, _, _, _, rfl, rfl, b3, b7, rfl⟩
  · obtain ⟨sX2, sM2, sL2, sD2, nd2, np2, W, a1, a2, a3, a4, a5, a6, a7, a8, a9, a10, a11, a12⟩ := zRR_found hF h
    rw [b2] at a2
    cases a2
    rw [if_neg (show ¬ nI 8 = (0 : Int32) by decide), if_neg (show ¬ nI 8 = (0 : Int32) by decide), if_neg (show ¬ nI 8 = (1 : Int32) by decide), if_neg (show ¬ nI 8 = (1 : Int32) by decide), if_neg (show ¬ nI 8 = (2 : Int32) by decide), if_neg (show ¬ nI 8 = (2 : Int32) by decide), if_neg (show ¬ nI 8 = (3 : Int32) by decide), if_neg (show ¬ nI 8 = (3 : Int32) by decide), if_neg (show ¬ nI 8 = (4 : Int32) by decide), if_neg (show ¬ nI 8 = (4 : Int32) by decide), if_neg (show ¬ nI 8 = (5 : Int32) by decide), if_neg (show ¬ nI 8 = (5 : Int32) by decide), if_neg (show ¬ nI 8 = (6 : Int32) by decide), if_neg (show ¬ nI 8 = (6 : Int32) by decide), if_neg (show ¬ nI 8 = (7 : Int32) by decide), if_neg (show ¬ nI 8 = (7 : Int32) by decide), if_pos (show nI 8 = (8 : Int32) from rfl), a1, Option.bind_some, a10 F (by omega), Option.bind_some]
    exact ⟨_, _, _, _, _, rfl, rfl, a4, b7, rfl⟩
theorem zg_count (hF : 20000000 ≤ F) (h : zRR sX sT sM sL sP sSS sD) : ∃ r sX' sM' sL' sD', fX4_count F x1 sX sM sP sL = some (r, sX', sM', sP, sL') ∧ fX5_count F x1 sD = some (r, sD') ∧ zRR sX' sT sM' sL' sP sSS sD' := by
  cases h1 : zin x1 9 with
  | true =>
    obtain ⟨k, hk, rfl⟩ := (zin_iff (n := 9) (by decide)).mp h1
    obtain ⟨r, sX', sM', sL', sD', e1, e2, e3, -⟩ := zcounted hk hF h
    refine ⟨r, sX', sM', sL', sD', e1, ?_, e3⟩
    unfold fX5_count
    rw [show fX5_in (nI k) 0 8 = some (zb (zin (nI k) 9)) from q_in0 _ (n := 8) (by decide), h1, Option.bind_some, if_neg (by decide), e2, Option.bind_some]
  | false =>
    obtain ⟨R, R', e1, e2, e3⟩ := zRR_refuse (r := -2) (Or.inl rfl) h
    refine ⟨-2, _, _, _, _, ?_, ?_, e3⟩
    · have hne : ∀ k, k < 9 → ¬ x1 = nI k := fun k hk q => by
        rw [show zin x1 9 = true from (zin_iff (n := 9) (by decide)).mpr ⟨k, hk, q⟩] at h1; cases h1
      unfold fX4_count
      rw [if_neg (show ¬ x1 = 0 from hne 0 (by decide)), if_neg (show ¬ x1 = 1 from hne 1 (by decide)), if_neg (show ¬ x1 = 2 from hne 2 (by decide)), if_neg (show ¬ x1 = 3 from hne 3 (by decide)), if_neg (show ¬ x1 = 4 from hne 4 (by decide)), if_neg (show ¬ x1 = 5 from hne 5 (by decide)), if_neg (show ¬ x1 = 6 from hne 6 (by decide)), if_neg (show ¬ x1 = 7 from hne 7 (by decide)), if_neg (show ¬ x1 = 8 from hne 8 (by decide)), e1, Option.bind_some]
    · unfold fX5_count
      rw [show fX5_in x1 0 8 = some (zb (zin x1 9)) from q_in0 _ (n := 8) (by decide), h1, Option.bind_some, if_pos (by decide), e2, Option.bind_some]
end ZY
