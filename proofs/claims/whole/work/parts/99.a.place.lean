/-! PURE: the class places devices -/
theorem zrest {α : Type} (f : Nat → List α) {g : Nat} : ∀ {n : Nat}, g ≤ n → ∃ rest, (List.range n).flatMap f = (List.range g).flatMap f ++ rest ∧ ∀ r, r ∈ rest → ∃ g', g ≤ g' ∧ g' < n ∧ r ∈ f g'
  | 0, h => ⟨[], by rw [show g = 0 by omega, List.append_nil], fun r hr => (by cases hr)⟩
  | n + 1, h => by
    by_cases e : g = n + 1
    · exact ⟨[], by rw [e, List.append_nil], fun r hr => (by cases hr)⟩
    · obtain ⟨rest, h1, h2⟩ := zrest f (show g ≤ n by omega)
      refine ⟨rest ++ f n, ?_, fun r hr => ?_⟩
      · rw [List.range_succ, List.flatMap_append, h1, List.append_assoc]
        simp
      · rcases List.mem_append.mp hr with q | q
        · obtain ⟨g', k1, k2, k3⟩ := h2 r q
          exact ⟨g', k1, by omega, k3⟩
        · exact ⟨n, by omega, by omega, q⟩
theorem zflat_succ {α : Type} (f : Nat → List α) (n : Nat) : (List.range (n + 1)).flatMap f = (List.range n).flatMap f ++ f n := by
  rw [List.range_succ, List.flatMap_append]
  simp
noncomputable def zLg (G : Nat) (dv : Nat → Nat → Nat) (V : Nat → Nat → Int32) (S0 : Nat × Int32 → Prop) (lk : Nat → Nat → Prop) (D m : Nat) (gs : List Nat) (g : Nat) : List (List Nat × List Nat) := @ite _ (zgx G dv V S0 lk (gs ++ [g])) (Classical.propDecidable _) (zLC G dv V S0 lk D m (gs ++ [g])) []
theorem zLC_succ {G : Nat} {dv : Nat → Nat → Nat} {V : Nat → Nat → Int32} {S0 : Nat × Int32 → Prop} {lk : Nat → Nat → Prop} {D m : Nat} {gs : List Nat} : zLC G dv V S0 lk D (m + 1) gs = (List.range G).flatMap (zLg G dv V S0 lk D m gs) := by
  unfold zLC
  show ((List.range G).flatMap _).flatMap _ = _
  rw [List.flatMap_assoc]
  congr 1
  funext g
  unfold zLg
  by_cases e : zgx G dv V S0 lk (gs ++ [g])
  · rw [if_pos e, if_pos e]; rfl
  · rw [if_neg e, if_neg e]; rfl
theorem zLC_zero {G : Nat} {dv : Nat → Nat → Nat} {V : Nat → Nat → Int32} {S0 : Nat × Int32 → Prop} {lk : Nat → Nat → Prop} {D : Nat} {gs : List Nat} : zLC G dv V S0 lk D 0 gs = (zLT dv V S0 gs D []).map fun x => (gs, x) := by
  unfold zLC
  show List.flatMap _ [gs] = _
  simp
theorem zLg_mem {G : Nat} {dv : Nat → Nat → Nat} {V : Nat → Nat → Int32} {S0 : Nat × Int32 → Prop} {lk : Nat → Nat → Prop} {D m : Nat} {gs : List Nat} {g : Nat} {x : List Nat × List Nat} (h : x ∈ zLg G dv V S0 lk D m gs g) : ∃ a, a.length = m ∧ x.1 = gs ++ [g] ++ a ∧ ∀ y, y ∈ x.1 → y < G := by
  unfold zLg at h
  by_cases e : zgx G dv V S0 lk (gs ++ [g])
  · rw [if_pos e] at h
    obtain ⟨a, a1, a2, a3, -⟩ := (zLC_mem G dv V S0 lk e x).mp h
    exact ⟨a, a1, a2, fun y hy => a3.1 y (by rw [← a2]; exact hy)⟩
  · rw [if_neg e] at h; cases h
section ZH
variable {sP sL s : zOS} {m0 N nG nd np F : Nat} {lab0 lab labG : Nat → Option Nat} {S0 : Nat × Int32 → Prop}
theorem p_place (hF : 1000 ≤ F) (h : zpd sP (zI s 1) nd np) (hc : zcc sL s m0 N nG lab labG) (hq : zqlay s m0 N nG lab0 lab labG) (hw0 : zwf S0) : ∀ (m fuel : Nat) (gs : List Nat) (sM : zOS) (Q : List (List Nat × List Nat)), gs.length + m = nd → m < fuel → zgx nG (zdvc (zI s 1)) (zVs s) S0 (zLk s nd nG) gs → (∀ (k g : Nat), gs[k]? = some g → zI sM 2 k = nI g) → ztel (zI sM (6 + gs.length)) (zSg (zdvc (zI s 1)) (zVs s) S0 gs) → (∀ j, zu (zF sM 5) j = true ↔ j ∈ gs) → (∀ d, d < nd → ∀ g, zu (zI sM 1 d) g = true ↔ g < nG ∧ zLk s nd nG d g) → zfd s S0 nd sM Q → (∀ y, y ∈ Q → ∀ a : List Nat, a.length = m → zltl y.1 (gs ++ a)) →
    ∃ sM', fX1_place F fuel (nI gs.length) sM sP sL = some (sM', sP, sL) ∧ zfd s S0 nd sM' (Q ++ zLC nG (zdvc (zI s 1)) (zVs s) S0 (zLk s nd nG) nd m gs) ∧ zkp sM sM' gs.length gs.length := by
  have hnd := h.1.1
  have hnG := hc.2.2.1
  intro m
  induction m with
  | zero =>
    intro fuel gs sM Q hm hfu hgx hgo hrow htk hlk hfd hor
    obtain ⟨n, rfl⟩ : ∃ n, fuel = n + 1 := ⟨fuel - 1, by omega⟩
    have hgl : gs.length = nd := by omega
    show ∃ sM', hX1_place F (fX1_place F n) (nI gs.length) sM sP sL = _ ∧ _
    unfold hX1_place jX1_place_17
    rw [h.2.1, if_pos (zle_ok (by omega) (by omega))]
    obtain ⟨sM', t1, t2, t3⟩ := p_turn (F := F) (lab0 := lab0) hF h hc hq hw0 hgx (fun i g hg => (hgx.2.2.1 i g hg).1) hgl nd 8 [] sM Q (by simp) (by omega) (ztq_nil nG _ _ _ _ hgx) hgo (by rw [zSt_nil, List.length_nil, Nat.add_zero, ← hgl]; exact hrow) hfd
    rw [show (0 : Int32) = nI ([] : List Nat).length from rfl, t1, Option.bind_some]
    rw [zLC_zero]
    refine ⟨sM', rfl, t2, ?_⟩
    obtain ⟨k1, k2, k3, k4, k5⟩ := t3
    exact ⟨fun r hr => k1 r (by rw [List.length_nil]; omega), k2, fun k hk => k3 k (by omega), k4, k5⟩
  | succ m ih =>
    intro fuel gs sM Q hm hfu hgx hgo hrow htk hlk hfd hor
    obtain ⟨n, rfl⟩ : ∃ n, fuel = n + 1 := ⟨fuel - 1, by omega⟩
    have hgl : gs.length < nd := by omega
    show ∃ sM', hX1_place F (fX1_place F n) (nI gs.length) sM sP sL = _ ∧ _
    unfold hX1_place
    rw [h.2.1, if_neg (zlt_no hgl (by omega)), if_pos (show nI gs.length < (6 : Int32) from nI_lt (b := 6) (by omega) (by decide)), nI_1, zchk_nI (show gs.length + 1 < 13 by omega) (by decide), nI_clamp (show gs.length + 1 < 2 ^ 31 by omega), show zbs 1 = 6 from rfl, zLC_succ]
    generalize hLg : zLg nG (zdvc (zI s 1)) (zVs s) S0 (zLk s nd nG) nd m gs = Lg
    have hmem : ∀ g x, x ∈ Lg g → ∃ a, a.length = m ∧ x.1 = gs ++ [g] ++ a ∧ ∀ y, y ∈ x.1 → y < nG := fun g x hx => zLg_mem (by rw [hLg]; exact hx)
    have hnone : ∀ g, ¬ zgx nG (zdvc (zI s 1)) (zVs s) S0 (zLk s nd nG) (gs ++ [g]) → Lg g = [] := fun g hno => by rw [← hLg]; exact if_neg hno
    have hsome : ∀ g, zgx nG (zdvc (zI s 1)) (zVs s) S0 (zLk s nd nG) (gs ++ [g]) → Lg g = zLC nG (zdvc (zI s 1)) (zVs s) S0 (zLk s nd nG) nd m (gs ++ [g]) := fun g hno => by rw [← hLg]; exact if_pos hno
    have hord : ∀ g g' a, g ≤ g' → a.length = m → ∀ y, y ∈ Q ++ (List.range g).flatMap Lg → zltl y.1 (gs ++ [g'] ++ a) := fun g g' a hgg ha y hy => by
      rcases List.mem_append.mp hy with q | q
      · have := hor y q (g' :: a) (by simp [ha])
        rw [List.append_assoc]
        exact this
      · obtain ⟨k, k1, k2⟩ := List.mem_flatMap.mp q
        obtain ⟨a', -, e, -⟩ := hmem k y k2
        rw [e]
        exact zltl_ext (by have := List.mem_range.mp k1; omega) a' a
    refine zit_wf (fun p => ∃ g sMg, g ≤ nG ∧ p = (nI g, sMg, sP, sL) ∧ zfd s S0 nd sMg (Q ++ (List.range g).flatMap Lg) ∧ zkp sM sMg gs.length gs.length) (fun p => 33 - p.1.toNatClampNeg) (fun o => ∃ sM', o = some (sM', sP, sL) ∧ zfd s S0 nd sM' (Q ++ (List.range nG).flatMap Lg) ∧ zkp sM sM' gs.length gs.length) ?_ F ((0 : Int32), sM, sP, sL) ⟨0, sM, by omega, rfl, by simpa using hfd, zkp_refl⟩ (by show 33 - _ < F; omega)
    rintro kc p ⟨g, sMg, hg, rfl, hfg, hkg⟩
    show (∃ p', _ ∧ _ ∧ bX1_place_34 F (fX1_place F n) (6 + (gs.length + 1)) (nI gs.length) kc (nI g) sMg sP sL = kc p') ∨ (∃ sM', bX1_place_34 F (fX1_place F n) (6 + (gs.length + 1)) (nI gs.length) kc (nI g) sMg sP sL = _ ∧ _)
    unfold bX1_place_34
    rw [hc.2.1]
    by_cases hgn : g = nG
    · right
      rw [if_pos (zle_ok (by omega) (by omega))]
      rw [hgn] at hfg
      exact ⟨sMg, rfl, hfg, hkg⟩
    · have hg' : g < nG := by omega
      have mu : 33 - (nI (g + 1)).toNatClampNeg < 33 - (nI g).toNatClampNeg := by rw [nI_clamp (by omega), nI_clamp (by omega)]; omega
      rw [if_neg (zlt_no hg' (by omega)), hfg.1]
      by_cases hcap : 9999 ≤ (Q ++ (List.range g).flatMap Lg).length
      · right
        rw [if_pos (show (9999 : Int32) ≤ nI (min (Q ++ (List.range g).flatMap Lg).length 9999) from zle_ok (n := 9999) (by omega) (by omega))]
        obtain ⟨rest, r1, r2⟩ := zrest Lg (show g ≤ nG by omega)
        refine ⟨sMg, rfl, ⟨?_, fun _ => ?_, fun x hx => ?_⟩, hkg⟩
        · rw [hfg.1, r1, ← List.append_assoc, List.length_append (bs := rest)]
          congr 1
          omega
        · rw [r1, ← List.append_assoc]
          refine zmin_skip _ _ _ (hfg.2.1 (fun e => by rw [e] at hcap; simp at hcap)) hfg.2.2 (fun r hr => ?_)
          obtain ⟨g', k1, k2, k3⟩ := r2 r hr
          obtain ⟨a, a1, a2, a3⟩ := hmem g' r k3
          refine ⟨fun y hy => by have := a3 y hy; omega, fun y hy => ?_⟩
          rw [a2]
          exact hord g g' a k1 a1 y hy
        · rw [r1, ← List.append_assoc] at hx
          rcases List.mem_append.mp hx with q | q
          · exact hfg.2.2 x q
          · obtain ⟨g', k1, k2, k3⟩ := r2 x q
            obtain ⟨a, a1, a2, a3⟩ := hmem g' x k3
            rw [a2]
            simp [a1]
            omega
      · rw [if_neg (show ¬ (9999 : Int32) ≤ nI (min (Q ++ (List.range g).flatMap Lg).length 9999) from zlt_no (n := 9999) (by omega) (by decide)), zlet_eq, zchk_nI (show gs.length < 6 by omega) (by decide), nI_clamp (show gs.length < 2 ^ 31 by omega), hkg.2.1, hkg.2.2.2.1, nI_1]
        left
        have hbit : ∀ j, zu ((zI sM 1 gs.length &&& (zF sM 5 ^^^ (-1))) &&& ((1 : Int32) <<< (nI g &&& 31))) j = true ↔ ((j < nG ∧ zLk s nd nG gs.length j) ∧ ¬ j ∈ gs) ∧ j = g := fun j => by
          rw [zu_and, zu_andn, zu_bit (by omega), Bool.and_eq_true, Bool.and_eq_true, Bool.not_eq_true', decide_eq_true_iff, hlk _ hgl j]
          have : zu (zF sM 5) j = false ↔ ¬ j ∈ gs := by
            rw [← htk j]
            cases zu (zF sM 5) j <;> simp
          rw [this]
        have stay : ∀ sM2, ¬ zgx nG (zdvc (zI s 1)) (zVs s) S0 (zLk s nd nG) (gs ++ [g]) → zfd s S0 nd sM2 (Q ++ (List.range g).flatMap Lg) → zkp sM sM2 gs.length gs.length → ∃ p', (∃ g sMg, g ≤ nG ∧ p' = (nI g, sMg, sP, sL) ∧ zfd s S0 nd sMg (Q ++ (List.range g).flatMap Lg) ∧ zkp sM sMg gs.length gs.length) ∧ 33 - p'.1.toNatClampNeg < 33 - (nI g).toNatClampNeg ∧ kc (nI (g + 1), sM2, sP, sL) = kc p' := fun sM2 hno h1 h2 =>
          ⟨(nI (g + 1), sM2, sP, sL), ⟨g + 1, sM2, by omega, rfl, by rw [zflat_succ, hnone g hno, List.append_nil]; exact h1, h2⟩, mu, rfl⟩
        by_cases h0 : (zI sM 1 gs.length &&& (zF sM 5 ^^^ (-1))) &&& ((1 : Int32) <<< (nI g &&& 31)) = 0
        · rw [if_pos h0]
          refine stay sMg (fun hz => ?_) hfg hkg
          obtain ⟨z1, z2, z3, -⟩ := (zgx_step _ _ _ _ _ hgx).mp hz
          have := (hbit g).mpr ⟨⟨⟨z1, z3⟩, z2⟩, rfl⟩
          rw [h0, zu_0] at this
          cases this
        · rw [if_neg h0]
          obtain ⟨j, hj1, -⟩ := zu_least h0
          obtain ⟨⟨⟨z1, z2⟩, z3⟩, rfl⟩ := (hbit j).mp hj1
          rw [zchk_nI (show gs.length < 13 by omega) (by decide), zlet_eq, show zbs 1 = 6 from rfl, p_gateNet h hgl, Option.bind_some, zchk_nI (show j < 32 by omega) (by decide), nI_clamp (show j < 2 ^ 31 by omega), show zI sL 9 j = zVs s j 0 from hc.2.2.2.1 j hg' 0 (by decide)]
          generalize hT0 : va_cpy (zI sMg (6 + gs.length)) (zI sMg (6 + (gs.length + 1))) (0 : Int32).toNatClampNeg (0 : Int32).toNatClampNeg (10 : Int32).toNatClampNeg = T0
          have hwf : zwf (zSg (zdvc (zI s 1)) (zVs s) S0 gs) := by
            rintro p (h' | ⟨i, g', h1, rfl⟩)
            · exact hw0 p h'
            · refine ⟨(zdvc_e h.1 (show i < nd by have := zgtl h1; omega) (show 0 < 3 by decide)).2, ?_⟩
              obtain ⟨v, v1, v2⟩ := zgn hq (hgx.1 g' (List.mem_of_getElem? h1)) (hgx.2.2.1 i g' h1).1 (show 0 < 3 by decide)
              have := hc.1.2.1
              show ¬ zVs s g' 0 = -1
              rw [v2]; exact nI_ne1 (by omega)
          have ht0 : ztel T0 (zSg (zdvc (zI s 1)) (zVs s) S0 gs) := by
            refine ztel_c hrow hwf (fun n hn => ?_)
            rw [← hT0]
            show (if 0 ≤ n ∧ n < 0 + 10 then zI sMg (6 + gs.length) (0 + (n - 0)) else _) = _
            rw [if_pos (by omega), show 0 + (n - 0) = n by omega, hkg.1 _ (Nat.le_refl _)]
          have hv0 : ¬ zVs s j 0 = -1 := by
            obtain ⟨v, v1, v2⟩ := zgn hq hg' z2.1 (show 0 < 3 by decide)
            have := hc.1.2.1
            rw [v2]; exact nI_ne1 (by omega)
          obtain ⟨b, T1, e1, e2, e3⟩ := p_tie (sM := zsI sMg (6 + (gs.length + 1)) T0) (k := 6 + (gs.length + 1)) (n := zdvc (zI s 1) gs.length 0) (v := zVs s j 0) hF (zdvc_e h.1 hgl (show 0 < 3 by decide)).2 hv0 hwf hgx.2.2.2 (by rw [zI_e]; exact ht0)
          rw [e1, Option.bind_some, zsI_I, zif_b]
          rw [← zSg_add (zdvc (zI s 1)) (zVs s) S0 gs j] at e2 e3
          have hstep := zgx_step nG (zdvc (zI s 1)) (zVs s) S0 (zLk s nd nG) (g := j) hgx
          have hk1 : zkp sM (zsI sMg (6 + (gs.length + 1)) T1) gs.length gs.length := zkp_trans hkg (zkp_row (r := gs.length) (d := gs.length) (by omega)) (Nat.le_refl _) (Nat.le_refl _)
          cases b with
          | false =>
            rw [if_neg (by decide)]
            have st := stay _ (fun hz => absurd (e2.mpr (hstep.mp hz).2.2.2) (by decide)) (zfd_row (by omega) hfg) hk1
            rw [nI_clamp (show j < 2 ^ 31 by omega)] at st
            exact st
          | true =>
            have hz : zgx nG (zdvc (zI s 1)) (zVs s) S0 (zLk s nd nG) (gs ++ [j]) := hstep.mpr ⟨hg', z3, z2, e2.mp rfl⟩
            rw [if_pos rfl, zchk_nI (show gs.length < 6 by omega) (by decide), zlet_eq, zlet_eq]
            have hl1 : (gs ++ [j]).length = gs.length + 1 := by simp
            generalize hs12 : zsF (zsI (zsI sMg (6 + (gs.length + 1)) T1) 2 (upd (zI (zsI sMg (6 + (gs.length + 1)) T1) 2) gs.length (nI j))) 5 (zF (zsI (zsI sMg (6 + (gs.length + 1)) T1) 2 (upd (zI (zsI sMg (6 + (gs.length + 1)) T1) 2) gs.length (nI j))) 5 ||| ((1 : Int32) <<< (nI j &&& 31))) = s12
            have i2 : ∀ k, zI s12 2 k = if k = gs.length then nI j else zI sMg 2 k := fun k => by
              rw [← hs12]
              show zI (zsI (zsI sMg (6 + (gs.length + 1)) T1) 2 (upd (zI (zsI sMg (6 + (gs.length + 1)) T1) 2) gs.length (nI j))) 2 k = _
              rw [zI_e, zI_o (show 2 ≠ 6 + (gs.length + 1) by omega)]
              rfl
            have io : ∀ k, k ≠ 2 → k ≠ 6 + (gs.length + 1) → zI s12 k = zI sMg k := fun k h1 h2 => by
              rw [← hs12]
              show zI (zsI (zsI sMg (6 + (gs.length + 1)) T1) 2 _) k = _
              rw [zI_o h1, zI_o h2]
            have ir : zI s12 (6 + (gs.length + 1)) = T1 := by
              rw [← hs12]
              show zI (zsI (zsI sMg (6 + (gs.length + 1)) T1) 2 _) (6 + (gs.length + 1)) = _
              rw [zI_o (by omega), zI_e]
            have f5 : zF s12 5 = zF sM 5 ||| ((1 : Int32) <<< (nI j &&& 31)) := by
              rw [← hs12, ← hkg.2.2.2.1]
              rfl
            have fo : ∀ f, f ≠ 5 → zF s12 f = zF sMg f := fun f hf => by
              rw [← hs12]
              exact if_neg hf
            have hf12 : zfd s S0 nd s12 (Q ++ (List.range j).flatMap Lg) := by
              refine ⟨by rw [fo 8 (by decide)]; exact hfg.1, ?_⟩
              have e : zBf s12 nd = zBf sMg nd := funext fun k => by
                unfold zBf
                rw [io 4 (by decide) (by omega), io 5 (by decide) (by omega)]
              rw [e]; exact hfg.2
            have hno : zu (zF sM 5) j = false := by
              cases e : zu (zF sM 5) j with
              | false => rfl
              | true => exact absurd ((htk j).mp e) z3
            obtain ⟨s13, p1, p2, p3⟩ := ih n (gs ++ [j]) s12 (Q ++ (List.range j).flatMap Lg) (by rw [hl1]; omega) (by omega) hz (fun k g' hg2 => by
                rw [i2]
                rcases zap.mp hg2 with q | ⟨q1, q2⟩
                · rw [if_neg (by have := zgtl q; omega), hkg.2.2.1 k (zgtl q)]
                  exact hgo k g' q
                · rw [if_pos q1, q2]) (by rw [hl1, ir]; exact e3 rfl) (fun k => by
                rw [f5, zu_or, zu_bit (by omega), Bool.or_eq_true, decide_eq_true_iff, htk k, List.mem_append, List.mem_singleton]) (fun d hd g' => by
                rw [io 1 (by decide) (by omega), hkg.2.1]
                exact hlk d hd g') hf12 (fun y hy a ha => hord j j a (Nat.le_refl j) ha y hy)
            rw [hl1] at p1 p3
            obtain ⟨k1, k2, k3, k4, k5⟩ := p3
            have mu' : 33 - (nI (j + 1)).toNatClampNeg < 33 - j := by rw [nI_clamp (by omega)]; omega
            rw [nI_1, p1, Option.bind_some, zlet_eq]
            refine ⟨(nI (j + 1), zsF s13 5 (zF s13 5 &&& (((1 : Int32) <<< (nI j &&& 31)) ^^^ (-1))), sP, sL), ⟨j + 1, _, by omega, rfl, ?_, ⟨fun r hr => ?_, ?_, fun k hk => ?_, ?_, ?_⟩⟩, mu', rfl⟩
            · rw [zflat_succ, hsome j hz, ← List.append_assoc]
              exact p2
            · show zI s13 (6 + r) = _
              rw [k1 r (by omega), io _ (by omega) (by omega)]
              exact hkg.1 r hr
            · show zI s13 1 = _
              rw [k2, io 1 (by decide) (by omega)]
              exact hkg.2.1
            · show zI s13 2 k = _
              rw [k3 k (by omega), i2, if_neg (by omega)]
              exact hkg.2.2.1 k hk
            · show zF s13 5 &&& (((1 : Int32) <<< (nI j &&& 31)) ^^^ (-1)) = zF sM 5
              rw [k4, f5]
              apply zu_ext
              intro i hi
              rw [zu_andn, zu_or, zu_bit (by omega)]
              by_cases e : i = j
              · rw [e, hno, decide_eq_true rfl]; rfl
              · rw [decide_eq_false e]; simp
            · show zF s13 9 = _
              rw [k5, fo 9 (by decide)]
              exact hkg.2.2.2.2
end ZH
