/-! PURE: the reference's reading is right, with its matches -/
theorem zgn {s : zOS} {m N nG : Nat} {lab0 lab labG : Nat → Option Nat} (h : zqlay s m N nG lab0 lab labG) {j : Nat} (hj : j < nG) (hw : zqw s j = true) {k : Nat} (hk : k < 3) : ∃ v, v < N ∧ zVs s j k = nI v := by
  obtain ⟨y1, y2, y3, y4, y5, y6, y7, y8, y9, y10, y11⟩ := h
  obtain ⟨c, c1, c2, c3⟩ := y3.2.2.2.2.1 j hj
  obtain ⟨a0, a1, a2, -⟩ := y11 j hj
  have a1 : zI s 8 (6 * j + 1) = _ := a1
  have hw : ¬ zI s 8 (6 * j + 1) = -1 := of_decide_eq_true hw
  have hk12 : (zscan (zsdb lab labG j) N).1 = 1 ∨ (zscan (zsdb lab labG j) N).1 = 2 := Classical.byContradiction fun q => by
    rw [a1] at hw
    unfold zwl at hw
    rw [if_neg q] at hw
    exact hw rfl
  obtain ⟨⟨v1, p1, -, e1⟩, v2, p2, -, e2⟩ := zscan_a (zsdb lab labG j) N (by omega)
  rcases (show k = 0 ∨ k = 1 ∨ k = 2 by omega) with rfl | rfl | rfl
  · obtain ⟨v, hv, e⟩ := y2.2.1 (64 + c) (by omega) (zgc_wr c2)
    have := a0 c c1 c3
    rw [e] at this
    exact ⟨v, hv, this⟩
  · refine ⟨v1, p1, ?_⟩
    show zI s 8 (6 * j + 1) = _
    rw [a1, zwl, if_pos hk12, e1]
  · refine ⟨v2, p2, ?_⟩
    show zI s 8 (6 * j + 2) = _
    have a2 : zI s 8 (6 * j + 2) = _ := a2
    rw [a2, zwl, if_pos hk12, e2]
theorem zcount_all {p : Nat → Bool} : ∀ {n : Nat}, zcount p n = n ↔ ∀ i, i < n → p i = true
  | 0 => ⟨fun _ i hi => by omega, fun _ => rfl⟩
  | n + 1 => by
    rw [zcount_next]
    have hle := zcount_le (p := p) (n := n)
    constructor
    · intro h i hi
      have hn : p n = true := by
        cases e : p n with
        | true => rfl
        | false => rw [e] at h; simp at h; omega
      rw [hn, if_pos rfl] at h
      by_cases e : i = n
      · rw [e]; exact hn
      · exact (zcount_all (n := n)).mp (by omega) i (by omega)
    · intro h
      rw [h n (by omega), (zcount_all (n := n)).mpr (fun i hi => h i (by omega))]
      simp
theorem q_wells {s : zOS} {n F : Nat} (hF : 1000 ≤ F) (hn : n ≤ 32) (h10 : zF s 10 = nI n) : fX5_wells F s = some (nI (zcount (zqw s) n)) := by
  unfold fX5_wells
  obtain ⟨F', p', rfl, -, e⟩ := zfor (B := fun kc9 (p9 : Int32 × Int32) => bX5_wells_4 F s kc9 p9.1 p9.2) (fun i p => p = (nI (zcount (zqw s) i), nI i)) n (by
    rintro kc i p hi rfl
    refine ⟨_, rfl, ?_⟩
    show bX5_wells_4 F s kc (nI (zcount (zqw s) i)) (nI i) = _
    unfold bX5_wells_4
    rw [h10, if_neg (zlt_no hi (by omega)), q_isWell (by omega), Option.bind_some, zif_b, zlet_eq, zlet_eq, nI_1, nI_1, Int32.add_zero, zcount_next]
    cases zqw s i <;> rfl) (F := F) (p := ((0 : Int32), (0 : Int32))) rfl (by omega)
  rw [e]
  show bX5_wells_4 F s _ (nI (zcount (zqw s) n)) (nI n) = _
  unfold bX5_wells_4
  rw [h10, if_pos (zle_ok (Nat.le_refl n) (by omega))]
/-- all matches -/
noncomputable def zMs (s : zOS) (lab : Nat → Option Nat) (D np G : Nat) : List (List Nat × List Nat) := @ite _ (G = D ∧ (∀ j, j < G → zqw s j = true) ∧ zcon (zSi lab (zI s 1) np)) (Classical.propDecidable _) (zLR G (zdvc (zI s 1)) (zVs s) (zSi lab (zI s 1) np) D [] []) []
theorem zKb_le : ∀ m, m ≤ 5 → 12 * (1 + zKb m) + 1 ≤ 10000000 := by
  intro m hm
  rcases (show m = 0 ∨ m = 1 ∨ m = 2 ∨ m = 3 ∨ m = 4 ∨ m = 5 by omega) with rfl | rfl | rfl | rfl | rfl | rfl <;> decide
theorem zfm_end {F D K : Nat} {σ : zOS} : zfm F D (K + 1) (-1) σ = some σ := by
  rw [zfm_1]
  unfold bX5_findMatches_46
  rw [if_pos (show (-1 : Int32) < 0 by decide)]
theorem q_findMatches {s : zOS} {m N nG nd np F : Nat} {lab0 lab labG : Nat → Option Nat} (hF : 20000000 ≤ F) (hl : zqlay s m N nG lab0 lab labG) (hv : zpv (zI s 1) nd np) :
    ∃ B C T w, fX5_findMatches F s = some (zms s B C T (nI w)) ∧ w = (zMs s lab nd np nG).length ∧ w ≤ 10000000 ∧ (¬ zMs s lab nd np nG = [] → zmin (zdvc (zI s 1)) (zVs s) (zSi lab (zI s 1) np) nd (zMs s lab nd np nG) B) := by
  obtain ⟨y1, y2, y3, y4, y5, y6, y7, y8, y9, y10, y11⟩ := id hl
  obtain ⟨v1, v2, v3, v4, v5, v6⟩ := id hv
  have none : ∀ B C T, (¬ (nG = nd ∧ (∀ j, j < nG → zqw s j = true) ∧ zcon (zSi lab (zI s 1) np))) → ∃ B' C' T' w, some (zms s B C T 0) = some (zms s B' C' T' (nI w)) ∧ w = (zMs s lab nd np nG).length ∧ w ≤ 10000000 ∧ (¬ zMs s lab nd np nG = [] → zmin (zdvc (zI s 1)) (zVs s) (zSi lab (zI s 1) np) nd (zMs s lab nd np nG) B') := fun B C T hno => by
    have e : zMs s lab nd np nG = [] := if_neg hno
    exact ⟨B, C, T, 0, rfl, by rw [e]; rfl, by omega, fun h => absurd e h⟩
  unfold fX5_findMatches
  rw [zlet_eq, zck (j := (8 : Int32)) (n := 46) 8 rfl (by decide) (by decide), zlet_eq, show zI (zsF s 14 0) 1 (8 : Int32).toNatClampNeg = nI nd from v3, show zF (zsF s 14 0) 10 = nI nG from y8, zms_s]
  by_cases e1 : nG = nd
  · rw [if_pos (show nI nG = nI nd by rw [e1]), show fX5_wells F (zms s (zI s 9) (zI s 10) (zI s 11) 0) = _ from q_wells (by omega) y9 y8, Option.bind_some, show zqw (zms s (zI s 9) (zI s 10) (zI s 11) 0) = zqw s from rfl]
    have hcl := zcount_le (p := zqw s) (n := nG)
    by_cases e2 : zcount (zqw s) nG = nG
    · have hall := zcount_all.mp e2
      rw [if_pos (show nI (zcount (zqw s) nG) = nI nd by rw [e2, e1])]
      obtain ⟨b, T, b1, b2, b3⟩ := q_isBegun (s := s) (B := zI s 9) (C := zI s 10) (T := zI s 11) (W := 0) (F := F) (by omega) y10 hv
      rw [b1, Option.bind_some]
      cases b with
      | false =>
        rw [if_pos (show zb false = 0 from rfl)]
        exact none _ _ _ (fun h => absurd (b2.mpr h.2.2) (by decide))
      | true =>
        have hcon := b2.mp rfl
        have hT := b3 rfl
        have eM : zMs s lab nd np nG = zLR nG (zdvc (zI s 1)) (zVs s) (zSi lab (zI s 1) np) nd [] [] := if_pos ⟨e1, hall, hcon⟩
        rw [if_neg (show ¬ zb true = 0 by decide), zck (j := (0 : Int32)) (n := 7) 0 rfl (by decide) (by decide), zlet_eq, show zI (zms s (zI s 9) (zI s 10) T 0) 10 = zI s 10 from rfl, zms_10, show (0 : Int32).toNatClampNeg = 0 from rfl, eM]
        have hx : zcx s nd nG (zSi lab (zI s 1) np) := ⟨v1, by omega, v3, y8, hall, fun j k hj hk => by
            obtain ⟨v, hv1, hv2⟩ := zgn hl hj (hall j hj) hk
            rw [hv2]; exact nI_ne1 (by omega), fun i k hi hk => zdvc_e hv hi hk, zSi_wf hv y10.2.2.1 (Nat.le_refl np)⟩
        have h8 : zst8 s nG (zSi lab (zI s 1) np) [] [] (upd (zI s 10) 0 (-1)) T := ⟨⟨rfl, fun g hg => (by cases hg), List.Pairwise.nil, fun i g t q => (by cases q), by rw [zSt_nil, zSg_nil]; exact hcon⟩, fun k g t q => (by cases q), by
          rw [zSt_nil, zSg_nil]
          have ez : (fun m => T (10 * ([] : List Nat).length + m)) = T := funext fun m => by rw [show 10 * ([] : List Nat).length + m = m by simp]
          rw [ez]; exact hT⟩
        have hrs : zrs (zdvc (zI s 1)) (zVs s) (zSi lab (zI s 1) np) nd [] (zI s 9) := ⟨fun h => absurd rfl h, fun x hx => (by cases hx)⟩
        show ∃ B C T' w, zfm F nd F (nI 0) (zms s (zI s 9) (upd (zI s 10) 0 (-1)) T (nI 0)) = _ ∧ _
        have hd := q_dfs (F := F) (by omega) hx nd (2 * nG) [] [] 0 (zI s 9) (upd (zI s 10) 0 (-1)) T 0 [] (by simp) h8 rfl hrs
        cases nd with
        | zero =>
          obtain ⟨B', C', T', w', s2, s3, s4, s5, s6, s7⟩ := hd.1 rfl (by omega)
          obtain ⟨K, rfl⟩ : ∃ K, F = K + 1 + 1 := ⟨F - 2, by omega⟩
          have := s2 (K + 1)
          rw [show nI ([] : List Nat).length + (-1) = (-1 : Int32) by decide, zfm_end] at this
          exact ⟨B', C', T', w', this, s5, by omega, fun h => s7.1 h⟩
        | succ d =>
          have hb : 2 * nG * (1 + zKb d) ≤ 12 * (1 + zKb d) := Nat.mul_le_mul_right _ (by omega)
          have hK := zKb_le d (by omega)
          obtain ⟨B', C', T', w', k, s1, s2, s3, s4, s5, s6, s7⟩ := hd.2 d rfl (by omega) (by omega) (zud_s _ _ _) (by omega)
          obtain ⟨K, hFK⟩ : ∃ K, F = K + 1 + k := ⟨F - 1 - k, by omega⟩
          have := s2 (K + 1)
          rw [show nI ([] : List Nat).length + (-1) = (-1 : Int32) by decide, zfm_end, ← hFK] at this
          rw [zLF_0] at s5 s7
          exact ⟨B', C', T', w', this, s5, by omega, fun h => s7.1 h⟩
    · rw [if_neg (show ¬ nI (zcount (zqw s) nG) = nI nd from fun q => by have := (nI_eq (by omega) (by omega)).mp q; omega)]
      exact none _ _ _ (fun h => e2 (zcount_all.mpr h.2.1))
  · rw [if_neg (show ¬ nI nG = nI nd from fun q => by have := (nI_eq (by omega) (by omega)).mp q; omega)]
    exact none _ _ _ (fun h => e1 h.1)
/-- what is remembered of a reading is right -/
def zqok (s : zOS) : Prop := ∃ m N nG lab0 lab labG nd np, zqlay s m N nG lab0 lab labG ∧ zpv (zI s 1) nd np ∧ zF s 14 = nI (zMs s lab nd np nG).length ∧ (zMs s lab nd np nG).length ≤ 10000000 ∧ (¬ zMs s lab nd np nG = [] → zmin (zdvc (zI s 1)) (zVs s) (zSi lab (zI s 1) np) nd (zMs s lab nd np nG) (zI s 9))
/-- what a reading leaves of that which is related -/
def zqfl (s s' : zOS) : Prop := zI s' 1 = zI s 1 ∧ zI s' 3 = zI s 3 ∧ zI s' 4 = zI s 4 ∧ zI s' 12 = zI s 12 ∧ zF s' 3 = zF s 3 ∧ zF s' 19 = zF s 19 ∧ zH s' = zH s
theorem q_lay {s : zOS} {nd np F : Nat} (hF : 20000000 ≤ F) (hv : zpv (zI s 1) nd np) (hc : zF s 5 = 0 ∨ zqok s) : ∃ s', fX5_lay F s = some s' ∧ zqok s' ∧ zqfl s s' ∧ ¬ zF s' 5 = 0 := by
  unfold fX5_lay
  by_cases h5 : zF s 5 = 0
  · rw [if_pos h5, zlet_eq]
    obtain ⟨m, N, nG, lab0, lab, labG, s1, s2, s3, s4, e1, e2, e3, e4, hq, hf, h45⟩ := q_read (s := zsF s 5 1) (F := F) (by omega)
    have h1 : zI s4 1 = zI s 1 := hf.1 1 (by decide) (by decide) (by decide) (by decide)
    obtain ⟨B, C, T, w, f1, f2, f3, f4⟩ := q_findMatches (F := F) (nd := nd) (np := np) hF hq (by rw [h1]; exact hv)
    rw [e1, Option.bind_some, zlet_eq, e2, Option.bind_some, zlet_eq, e3, Option.bind_some, e4, Option.bind_some, f1, Option.bind_some]
    refine ⟨zms s4 B C T (nI w), rfl, ⟨m, N, nG, lab0, lab, labG, nd, np, hq, by show zpv (zI s4 1) nd np; rw [h1]; exact hv, by rw [f2]; rfl, by rw [f2] at f3; exact f3, f4⟩, ⟨h1, hf.1 3 (by decide) (by decide) (by decide) (by decide), hf.1 4 (by decide) (by decide) (by decide) (by decide), hf.1 12 (by decide) (by decide) (by decide) (by decide), hf.2.1 3 (by decide) (by decide) (by decide) (by decide) (by decide), hf.2.1 19 (by decide) (by decide) (by decide) (by decide) (by decide), hf.2.2.1⟩, ?_⟩
    show ¬ zF s4 5 = 0
    rw [h45, show zF (zsF s 5 1) 5 = 1 from rfl]
    decide
  · rw [if_neg h5]
    rcases hc with hc | hc
    · exact absurd hc h5
    · exact ⟨s, rfl, hc, ⟨rfl, rfl, rfl, rfl, rfl, rfl, rfl⟩, h5⟩
