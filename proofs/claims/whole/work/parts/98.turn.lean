/-! PURE: the class turns devices -/
/-- what a step of the class's search leaves -/
def zkp (sM sM' : zOS) (r d : Nat) : Prop := (∀ r', r' ≤ r → zI sM' (6 + r') = zI sM (6 + r')) ∧ zI sM' 1 = zI sM 1 ∧ (∀ k, k < d → zI sM' 2 k = zI sM 2 k) ∧ zF sM' 5 = zF sM 5 ∧ zF sM' 9 = zF sM 9
theorem zkp_refl {sM : zOS} {r d : Nat} : zkp sM sM r d := ⟨fun _ _ => rfl, rfl, fun _ _ => rfl, rfl, rfl⟩
theorem zkp_trans {a b c : zOS} {r d r' d' : Nat} (h : zkp a b r d) (h' : zkp b c r' d') (hr : r ≤ r') (hd : d ≤ d') : zkp a c r d := by
  obtain ⟨h1, h2, h3, h4, h5⟩ := h
  obtain ⟨g1, g2, g3, g4, g5⟩ := h'
  exact ⟨fun x hx => (g1 x (by omega)).trans (h1 x hx), g2.trans h2, fun k hk => (g3 k (by omega)).trans (h3 k hk), g4.trans h4, g5.trans h5⟩
theorem zkp_row {sM : zOS} {r d k : Nat} {T : Nat → Int32} (h : 6 + r < k) : zkp sM (zsI sM k T) r d := ⟨fun r' hr => zI_o (by omega), zI_o (by omega), fun j _ => by rw [zI_o (by omega)], rfl, rfl⟩
theorem ztq_step {dv : Nat → Nat → Nat} {V : Nat → Nat → Int32} {S0 : Nat × Int32 → Prop} {gs ts : List Nat} {g t : Nat} (h : ztq dv V S0 gs ts) (hg : gs[ts.length]? = some g) : ztq dv V S0 gs (ts ++ [t]) ↔ t < 2 ∧ (t = 0 ∨ ¬ V g 1 = V g 2) ∧ zcon (zSt dv V S0 gs (ts ++ [t])) := by
  constructor
  · rintro ⟨k1, k2⟩
    obtain ⟨a1, a2⟩ := k1 ts.length t (zap.mpr (Or.inr ⟨rfl, rfl⟩))
    exact ⟨a1, a2 g hg, k2⟩
  · rintro ⟨k1, k2, k3⟩
    refine ⟨fun i t' ht => ?_, k3⟩
    rcases zap.mp ht with q | ⟨q1, q2⟩
    · exact h.1 i t' q
    · rw [q1, q2]
      refine ⟨k1, fun g' hg' => ?_⟩
      rw [hg] at hg'
      cases hg'
      exact k2
section ZT
variable {sP sL s : zOS} {m0 N nG nd np F : Nat} {lab0 lab labG : Nat → Option Nat} {S0 : Nat × Int32 → Prop}
theorem p_tieSides {sM : zOS} {d : Nat} {va vb : Int32} {S : Nat × Int32 → Prop} (hF : 1000 ≤ F) (h : zpd sP (zI s 1) nd np) (hd : d < nd) (ha : ¬ va = -1) (hb : ¬ vb = -1) (hw : zwf S) (hc : zcon S) (ht : ztel (zI sM (6 + (nd + d))) S) :
    ∃ b T', fX1_tieSides F (nI d) va vb sM sP = some (zb b, zsI sM (6 + (nd + d + 1)) T') ∧ (b = true ↔ zcon (zadp (zadp S (zdvc (zI s 1) d 1, va)) (zdvc (zI s 1) d 2, vb))) ∧ (b = true → ztel T' (zadp (zadp S (zdvc (zI s 1) d 1, va)) (zdvc (zI s 1) d 2, vb))) := by
  have hnd := h.1.1
  have q1 := (zdvc_e h.1 hd (show 1 < 3 by decide)).2
  have q2 := (zdvc_e h.1 hd (show 2 < 3 by decide)).2
  unfold fX1_tieSides
  rw [zlet_eq, h.2.1, nI_add, nI_1, zchk_nI (show nd + d + 1 < 13 by omega) (by decide), zchk_nI (show nd + d < 13 by omega) (by decide), zlet_eq, nI_clamp (show nd + d < 2 ^ 31 by omega), nI_clamp (show nd + d + 1 < 2 ^ 31 by omega), show zbs 1 = 6 from rfl, p_sideA h hd, Option.bind_some]
  generalize hT0 : va_cpy (zI sM (6 + (nd + d))) (zI sM (6 + (nd + d + 1))) (0 : Int32).toNatClampNeg (0 : Int32).toNatClampNeg (10 : Int32).toNatClampNeg = T0
  have ht0 : ztel T0 S := by
    refine ztel_c ht hw (fun n hn => ?_)
    rw [← hT0]
    show (if 0 ≤ n ∧ n < 0 + 10 then zI sM (6 + (nd + d)) (0 + (n - 0)) else _) = _
    rw [if_pos (by omega), show 0 + (n - 0) = n by omega]
  obtain ⟨b1, T1, e1, f1, g1⟩ := p_tie (sM := zsI sM (6 + (nd + d + 1)) T0) (k := 6 + (nd + d + 1)) (n := zdvc (zI s 1) d 1) (v := va) hF q1 ha hw hc (by rw [zI_e]; exact ht0)
  rw [e1, Option.bind_some, zsI_I, zif_b]
  cases b1 with
  | false =>
    rw [if_neg (by decide), zbk_0]
    exact ⟨false, T1, rfl, ⟨fun q => (by cases q), fun q => absurd (f1.mpr (zcon_add q)) (by decide)⟩, fun q => (by cases q)⟩
  | true =>
    rw [if_pos rfl, p_sideB h hd, Option.bind_some]
    obtain ⟨b2, T2, e2, f2, g2⟩ := p_tie (sM := zsI sM (6 + (nd + d + 1)) T1) (k := 6 + (nd + d + 1)) (n := zdvc (zI s 1) d 2) (v := vb) hF q2 hb (zwf_add hw q1 ha) (f1.mp rfl) (by rw [zI_e]; exact g1 rfl)
    rw [e2, Option.bind_some, zsI_I, zif_b]
    cases b2 with
    | false =>
      rw [if_neg (by decide), zbk_0]
      exact ⟨false, T2, rfl, f2, fun q => (by cases q)⟩
    | true =>
      rw [if_pos rfl, zbk_1]
      exact ⟨true, T2, rfl, f2, g2⟩
/-- found and first of the class after the matches Q -/
def zfd (s : zOS) (S0 : Nat × Int32 → Prop) (D : Nat) (sM : zOS) (Q : List (List Nat × List Nat)) : Prop := zF sM 8 = nI (min Q.length 9999) ∧ zrs (zdvc (zI s 1)) (zVs s) S0 D Q (zBf sM D)
theorem zfd_row {sM : zOS} {D k : Nat} {T : Nat → Int32} {Q : List (List Nat × List Nat)} (hk : 6 ≤ k) (h : zfd s S0 D sM Q) : zfd s S0 D (zsI sM k T) Q := by
  obtain ⟨h1, h2⟩ := h
  refine ⟨h1, ?_⟩
  have e : zBf (zsI sM k T) D = zBf sM D := funext fun j => by
    unfold zBf
    rw [zI_o (show 4 ≠ k by omega), zI_o (show 5 ≠ k by omega)]
  rw [e]; exact h2
theorem p_turn (hF : 1000 ≤ F) (h : zpd sP (zI s 1) nd np) (hc : zcc sL s m0 N nG lab labG) (hq : zqlay s m0 N nG lab0 lab labG) (hw0 : zwf S0) {lk : Nat → Nat → Prop} {gs : List Nat} (hgx : zgx nG (zdvc (zI s 1)) (zVs s) S0 lk gs) (hlk : ∀ (i g : Nat), gs[i]? = some g → zqw s g = true) (hgl : gs.length = nd) : ∀ (m fuel : Nat) (ts : List Nat) (sM : zOS) (Q : List (List Nat × List Nat)), ts.length + m = nd → m < fuel → ztq (zdvc (zI s 1)) (zVs s) S0 gs ts → (∀ (k g : Nat), gs[k]? = some g → zI sM 2 k = nI g) → ztel (zI sM (6 + (nd + ts.length))) (zSt (zdvc (zI s 1)) (zVs s) S0 gs ts) → zfd s S0 nd sM Q →
    ∃ sM', fX1_turn F fuel (nI ts.length) sM sP sL = some (sM', sP, sL) ∧ zfd s S0 nd sM' (Q ++ (zLT (zdvc (zI s 1)) (zVs s) S0 gs m ts).map fun x => (gs, x)) ∧ zkp sM sM' (nd + ts.length) nd := by
  have hnd := h.1.1
  have hnG := hc.2.2.1
  have hVne : ∀ j k, j < nG → zqw s j = true → k < 3 → ¬ zVs s j k = -1 := fun j k hj hw hk => by
    obtain ⟨v, v1, v2⟩ := zgn hq hj hw hk
    have := hc.1.2.1
    rw [v2]; exact nI_ne1 (by omega)
  have hwf : ∀ ts : List Nat, ztq (zdvc (zI s 1)) (zVs s) S0 gs ts → zwf (zSt (zdvc (zI s 1)) (zVs s) S0 gs ts) := fun ts hts => by
    rintro p ((h' | ⟨i, g, h1, rfl⟩) | ⟨i, g, t, h1, h2, h3⟩)
    · exact hw0 p h'
    · exact ⟨(zdvc_e h.1 (show i < nd by have := zgtl h1; omega) (show 0 < 3 by decide)).2, hVne g 0 (hgx.1 g (List.mem_of_getElem? h1)) (hlk i g h1) (by decide)⟩
    · have hi : i < nd := by have := zgtl h1; omega
      have ht2 := (hts.1 i t h2).1
      rcases h3 with rfl | rfl
      · exact ⟨(zdvc_e h.1 hi (show 1 < 3 by decide)).2, hVne g (1 + t) (hgx.1 g (List.mem_of_getElem? h1)) (hlk i g h1) (by omega)⟩
      · exact ⟨(zdvc_e h.1 hi (show 2 < 3 by decide)).2, hVne g (2 - t) (hgx.1 g (List.mem_of_getElem? h1)) (hlk i g h1) (by omega)⟩
  intro m
  induction m with
  | zero =>
    intro fuel ts sM Q hm hfu hts hgo hrow hfd
    obtain ⟨n, rfl⟩ : ∃ n, fuel = n + 1 := ⟨fuel - 1, by omega⟩
    have htl : ts.length = nd := by omega
    show ∃ sM', hX1_turn F (fX1_turn F n) (nI ts.length) sM sP sL = _ ∧ _
    unfold hX1_turn jX1_turn_17
    rw [h.2.1, if_pos (zle_ok (by omega) (by omega)), nI_add, zchk_nI (show nd + ts.length < 13 by omega) (by decide), nI_clamp (show nd + ts.length < 2 ^ 31 by omega), show zbs 1 = 6 from rfl]
    obtain ⟨b, A4, A5, e1, e2, e3, e4, e5⟩ := p_record (sM := sM) (sP := sP) (r := 6 + (nd + ts.length)) hF hnd (by omega) h.2.1 hfd.1 (by omega)
    rw [e1, Option.bind_some]
    refine ⟨_, rfl, ⟨?_, ?_⟩, ⟨fun r' hr => ?_, ?_, fun k hk => ?_, rfl, rfl⟩⟩
    · show nI (min (min Q.length 9999 + 1) 9999) = _
      congr 1
      show _ = min (Q ++ [(gs, ts)]).length 9999
      rw [List.length_append]
      show min (min Q.length 9999 + 1) 9999 = min (Q.length + 1) 9999
      omega
    · have hkey : zkey (zdvc (zI s 1)) (zVs s) S0 nd (gs, ts) (zKf sM nd (6 + (nd + ts.length))) := by
        refine ⟨fun k g hg => ?_, ?_⟩
        · have hg : gs[k]? = some g := hg
          unfold zKf
          rw [if_pos (by have := zgtl hg; omega)]
          exact hgo k g hg
        · have e : (fun n => zKf sM nd (6 + (nd + ts.length)) (nd + n)) = zI sM (6 + (nd + ts.length)) := funext fun n => by
            unfold zKf
            rw [if_neg (by omega), Nat.add_sub_cancel_left]
          rw [e]; exact hrow
      have hBf : ∀ k, zBf (zsF (zsI (zsI sM 4 A4) 5 A5) 8 (nI (min (min Q.length 9999 + 1) 9999))) nd k = if k < nd then A4 k else A5 (k - nd) := fun k => rfl
      refine zrs_add (x := (gs, ts)) hfd.2 hgl (hwf ts hts) hkey b (fun hne => e3 (fun q => hne (List.length_eq_zero_iff.mp (by omega)))) (fun hne => e2 (by rw [hne]; rfl)) (fun hb k hk => ?_) (fun hb => ?_)
      · rw [hBf]
        unfold zKf
        by_cases hkd : k < nd
        · rw [if_pos hkd, if_pos hkd]; exact (e4 hb).1 k (by omega)
        · rw [if_neg hkd, if_neg hkd]; exact (e4 hb).2 _ (by omega)
      · funext k
        rw [hBf]
        obtain ⟨a1, a2⟩ := e5 hb
        rw [a1, a2]
        rfl
    · show zI (zsI (zsI sM 4 A4) 5 A5) (6 + r') = _
      rw [zI_o (by omega), zI_o (by omega)]
    · show zI (zsI (zsI sM 4 A4) 5 A5) 1 = _
      rw [zI_o (by omega), zI_o (by omega)]
    · show zI (zsI (zsI sM 4 A4) 5 A5) 2 k = _
      rw [zI_o (by omega), zI_o (by omega)]
  | succ m ih =>
    intro fuel ts sM Q hm hfu hts hgo hrow hfd
    obtain ⟨n, rfl⟩ : ∃ n, fuel = n + 1 := ⟨fuel - 1, by omega⟩
    have htl : ts.length < nd := by omega
    obtain ⟨g, hg⟩ := zgsome (l := gs) (i := ts.length) (by omega)
    have hgG := hgx.1 g (List.mem_of_getElem? hg)
    have hgw := hlk _ g hg
    have cA : zI sL 10 g = zVs s g 1 := hc.2.2.2.1 g hgG 1 (by decide)
    have cB : zI sL 11 g = zVs s g 2 := hc.2.2.2.1 g hgG 2 (by decide)
    have n1 := hVne g 1 hgG hgw (by decide)
    have n2 := hVne g 2 hgG hgw (by decide)
    have one : ∀ (t : Nat) (va vb : Int32) (sM1 : zOS) (Q1 : List (List Nat × List Nat)), t < 2 → va = zVs s g (1 + t) → vb = zVs s g (2 - t) → (t = 0 ∨ ¬ zVs s g 1 = zVs s g 2) → zkp sM sM1 (nd + ts.length) nd → zfd s S0 nd sM1 Q1 →
        ∃ b T', fX1_tieSides F (nI ts.length) va vb sM1 sP = some (zb b, zsI sM1 (6 + (nd + ts.length + 1)) T') ∧ (b = false → zfd s S0 nd (zsI sM1 (6 + (nd + ts.length + 1)) T') (Q1 ++ (@ite _ (ztq (zdvc (zI s 1)) (zVs s) S0 gs (ts ++ [t])) (Classical.propDecidable _) (zLT (zdvc (zI s 1)) (zVs s) S0 gs m (ts ++ [t])) []).map fun x => (gs, x)) ∧ zkp sM (zsI sM1 (6 + (nd + ts.length + 1)) T') (nd + ts.length) nd) ∧ (b = true → ∃ sM2, fX1_turn F n (nI (ts.length + 1)) (zsI sM1 (6 + (nd + ts.length + 1)) T') sP sL = some (sM2, sP, sL) ∧ zfd s S0 nd sM2 (Q1 ++ (@ite _ (ztq (zdvc (zI s 1)) (zVs s) S0 gs (ts ++ [t])) (Classical.propDecidable _) (zLT (zdvc (zI s 1)) (zVs s) S0 gs m (ts ++ [t])) []).map fun x => (gs, x)) ∧ zkp sM sM2 (nd + ts.length) nd) := by
      intro t va vb sM1 Q1 ht hva hvb htt hk1 hf1
      subst hva hvb
      obtain ⟨b, T', e1, e2, e3⟩ := p_tieSides (sM := sM1) (sP := sP) (s := s) hF h htl (hVne g (1 + t) hgG hgw (by omega)) (hVne g (2 - t) hgG hgw (by omega)) (hwf ts hts) hts.2 (by rw [hk1.1 _ (Nat.le_refl _)]; exact hrow)
      have hS := zSt_t (zdvc (zI s 1)) (zVs s) S0 t hg
      rw [← hS] at e2 e3
      have hstep := ztq_step (t := t) hts hg
      have hk2 : zkp sM (zsI sM1 (6 + (nd + ts.length + 1)) T') (nd + ts.length) nd := zkp_trans hk1 (zkp_row (r := nd + ts.length) (d := nd) (by omega)) (Nat.le_refl _) (Nat.le_refl _)
      have hf2 : zfd s S0 nd (zsI sM1 (6 + (nd + ts.length + 1)) T') Q1 := zfd_row (by omega) hf1
      refine ⟨b, T', e1, fun hb => ?_, fun hb => ?_⟩
      · have hno : ¬ ztq (zdvc (zI s 1)) (zVs s) S0 gs (ts ++ [t]) := fun q => by
          have := e2.mpr (hstep.mp q).2.2
          rw [hb] at this; cases this
        rw [if_neg hno, List.map_nil, List.append_nil]
        exact ⟨hf2, hk2⟩
      · have hyes : ztq (zdvc (zI s 1)) (zVs s) S0 gs (ts ++ [t]) := hstep.mpr ⟨ht, htt, e2.mp hb⟩
        rw [if_pos hyes]
        have hl1 : (ts ++ [t]).length = ts.length + 1 := by simp
        obtain ⟨sM2, f1, f2, f3⟩ := ih n (ts ++ [t]) (zsI sM1 (6 + (nd + ts.length + 1)) T') Q1 (by rw [hl1]; omega) (by omega) hyes (fun k g' hg' => by rw [hk2.2.2.1 k (by have := zgtl hg'; omega)]; exact hgo k g' hg') (by rw [hl1, ← Nat.add_assoc nd ts.length 1, zI_e]; exact e3 hb) hf2
        rw [hl1] at f1 f3
        exact ⟨sM2, f1, f2, zkp_trans hk2 f3 (by omega) (Nat.le_refl _)⟩
    show ∃ sM', hX1_turn F (fX1_turn F n) (nI ts.length) sM sP sL = _ ∧ _
    unfold hX1_turn
    rw [h.2.1, if_neg (zlt_no htl (by omega)), if_pos (show nI ts.length < (6 : Int32) from nI_lt (b := 6) (by omega) (by decide)), zchk_nI (show ts.length < 6 by omega) (by decide), nI_clamp (show ts.length < 2 ^ 31 by omega), hgo _ g hg, zchk_nI (show g < 32 by omega) (by decide), zlet_eq, zchk_nI (show ts.length < 6 by omega) (by decide), zchk_nI (show g < 32 by omega) (by decide), zlet_eq, nI_clamp (show g < 2 ^ 31 by omega), cA, cB, nI_1]
    obtain ⟨b0, T0, a1, a2, a3⟩ := one 0 (zVs s g 1) (zVs s g 2) sM Q (by decide) rfl rfl (Or.inl rfl) zkp_refl hfd
    rw [a1, Option.bind_some]
    have fin : ∀ sM1, zfd s S0 nd sM1 (Q ++ (@ite _ (ztq (zdvc (zI s 1)) (zVs s) S0 gs (ts ++ [0])) (Classical.propDecidable _) (zLT (zdvc (zI s 1)) (zVs s) S0 gs m (ts ++ [0])) []).map fun x => (gs, x)) → zkp sM sM1 (nd + ts.length) nd → ∃ sM', jX1_turn_83 F (fX1_turn F n) (nI ts.length) (zVs s g 1) (zVs s g 2) sM1 sP sL = some (sM', sP, sL) ∧ zfd s S0 nd sM' (Q ++ (zLT (zdvc (zI s 1)) (zVs s) S0 gs (m + 1) ts).map fun x => (gs, x)) ∧ zkp sM sM' (nd + ts.length) nd := by
      intro sM1 hf1 hk1
      have hlist : Q ++ (zLT (zdvc (zI s 1)) (zVs s) S0 gs (m + 1) ts).map (fun x => (gs, x)) = (Q ++ (@ite _ (ztq (zdvc (zI s 1)) (zVs s) S0 gs (ts ++ [0])) (Classical.propDecidable _) (zLT (zdvc (zI s 1)) (zVs s) S0 gs m (ts ++ [0])) []).map fun x => (gs, x)) ++ (@ite _ (ztq (zdvc (zI s 1)) (zVs s) S0 gs (ts ++ [1])) (Classical.propDecidable _) (zLT (zdvc (zI s 1)) (zVs s) S0 gs m (ts ++ [1])) []).map fun x => (gs, x) := by
        show Q ++ List.map _ (_ ++ _) = _
        rw [List.map_append, List.append_assoc]
      rw [hlist]
      unfold jX1_turn_83
      by_cases e : zVs s g 1 = zVs s g 2
      · rw [if_pos e, if_neg (show ¬ ztq (zdvc (zI s 1)) (zVs s) S0 gs (ts ++ [1]) from fun q => by
          rcases ((ztq_step hts hg).mp q).2.1 with q | q
          · omega
          · exact q e), List.map_nil, List.append_nil]
        exact ⟨sM1, rfl, hf1, hk1⟩
      · rw [if_neg e]
        obtain ⟨b1, T1, c1, c2, c3⟩ := one 1 (zVs s g 2) (zVs s g 1) sM1 _ (by decide) rfl rfl (Or.inr e) hk1 hf1
        rw [c1, Option.bind_some, zif_b]
        cases b1 with
        | false =>
          rw [if_neg (by decide)]
          obtain ⟨d1, d2⟩ := c2 rfl
          exact ⟨_, rfl, d1, d2⟩
        | true =>
          rw [if_pos rfl, nI_1]
          obtain ⟨sM2, d0, d1, d2⟩ := c3 rfl
          rw [d0, Option.bind_some]
          exact ⟨sM2, rfl, d1, d2⟩
    rw [zif_b]
    cases b0 with
    | false =>
      rw [if_neg (by decide)]
      obtain ⟨d1, d2⟩ := a2 rfl
      exact fin _ d1 d2
    | true =>
      rw [if_pos rfl]
      obtain ⟨sM2, d0, d1, d2⟩ := a3 rfl
      rw [d0, Option.bind_some]
      exact fin sM2 d1 d2
end ZT
