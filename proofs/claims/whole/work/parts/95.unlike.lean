/-! PURE: devices and gates that are alike; pairing them one by one -/
def zgrd (L : Nat → Nat → Prop) (nG : Nat) : Nat → (Nat → Bool) → Nat → Prop
  | 0, u, n => (∀ g, u g = false) ∧ n = 0
  | d + 1, u, n => ∃ u' n', zgrd L nG d u' n' ∧ ((∃ g, g < nG ∧ L d g ∧ u' g = false ∧ (∀ g', g' < g → ¬ (L d g' ∧ u' g' = false)) ∧ (∀ j, u j = (u' j || decide (j = g))) ∧ n = n' + 1) ∨ ((∀ g, g < nG → ¬ (L d g ∧ u' g = false)) ∧ (∀ j, u j = u' j) ∧ n = n'))
theorem zgrd_u {L : Nat → Nat → Prop} {nG : Nat} : ∀ {d : Nat} {u v : Nat → Bool} {n m : Nat}, zgrd L nG d u n → zgrd L nG d v m → (∀ j, u j = v j) ∧ n = m
  | 0, u, v, n, m, h, h' => ⟨fun j => by rw [h.1 j, h'.1 j], by rw [h.2, h'.2]⟩
  | d + 1, u, v, n, m, h, h' => by
    obtain ⟨u1, n1, a1, a2⟩ := h
    obtain ⟨v1, m1, b1, b2⟩ := h'
    obtain ⟨e1, e2⟩ := zgrd_u a1 b1
    rcases a2 with ⟨g, g1, g2, g3, g4, g5, g6⟩ | ⟨g1, g2, g3⟩
    · rcases b2 with ⟨k, k1, k2, k3, k4, k5, k6⟩ | ⟨k1, k2, k3⟩
      · have egk : g = k := by
          rcases Nat.lt_trichotomy g k with q | q | q
          · exact absurd ⟨g2, by rw [← e1]; exact g3⟩ (k4 g q)
          · exact q
          · exact absurd ⟨k2, by rw [e1]; exact k3⟩ (g4 k q)
        subst egk
        exact ⟨fun j => by rw [g5 j, k5 j, e1 j], by omega⟩
      · exact absurd ⟨g2, by rw [← e1]; exact g3⟩ (k1 g g1)
    · rcases b2 with ⟨k, k1, k2, k3, k4, k5, k6⟩ | ⟨k1, k2, k3⟩
      · exact absurd ⟨k2, by rw [e1]; exact k3⟩ (g1 k k1)
      · exact ⟨fun j => by rw [g2 j, k2 j, e1 j], by omega⟩
theorem zgrd_le {L : Nat → Nat → Prop} {nG : Nat} : ∀ {d : Nat} {u : Nat → Bool} {n : Nat}, zgrd L nG d u n → n ≤ d
  | 0, u, n, h => by rw [h.2]; exact Nat.le_refl _
  | d + 1, u, n, h => by
    obtain ⟨u1, n1, a1, a2⟩ := h
    have := zgrd_le a1
    rcases a2 with ⟨g, g1, g2, g3, g4, g5, g6⟩ | ⟨g1, g2, g3⟩ <;> omega
/-- if all can be paired, all are -/
theorem zgrd_full {L : Nat → Nat → Prop} {nG D : Nat} (hL : ∀ d d' g g', L d g → L d' g → L d g' → L d' g') (σ0 : Nat → Nat) (h1 : ∀ i, i < D → σ0 i < nG ∧ L i (σ0 i)) (h2 : ∀ i j, i < D → j < D → σ0 i = σ0 j → i = j) : ∀ {d : Nat} {u : Nat → Bool} {n : Nat}, d ≤ D → zgrd L nG d u n → n = d ∧ ∃ σ : Nat → Nat, (∀ i, d ≤ i → i < D → σ i < nG ∧ L i (σ i) ∧ u (σ i) = false) ∧ ∀ i j, d ≤ i → i < D → d ≤ j → j < D → σ i = σ j → i = j
  | 0, u, n, _, h => ⟨h.2, σ0, fun i _ hi => ⟨(h1 i hi).1, (h1 i hi).2, h.1 _⟩, fun i j _ hi _ hj => h2 i j hi hj⟩
  | d + 1, u, n, hd, h => by
    obtain ⟨u1, n1, a1, a2⟩ := h
    obtain ⟨hn, σ, s1, s2⟩ := zgrd_full hL σ0 h1 h2 (by omega) a1
    obtain ⟨d1, d2, d3⟩ := s1 d (Nat.le_refl d) (by omega)
    rcases a2 with ⟨g, g1, g2, g3, g4, g5, g6⟩ | ⟨g1, g2, g3⟩
    · refine ⟨by omega, fun i => if σ i = g then σ d else σ i, fun i hi hiD => ?_, fun i j hi hiD hj hjD he => ?_⟩
      · obtain ⟨i1, i2, i3⟩ := s1 i (by omega) hiD
        show (if σ i = g then σ d else σ i) < nG ∧ L i (if σ i = g then σ d else σ i) ∧ u (if σ i = g then σ d else σ i) = false
        by_cases e : σ i = g
        · rw [if_pos e]
          refine ⟨d1, hL d i g (σ d) g2 (by rw [← e]; exact i2) d2, ?_⟩
          have hne : ¬ σ d = g := fun q => by
            have := s2 d i (by omega) (by omega) (by omega) hiD (by rw [q, e])
            omega
          rw [g5, d3, decide_eq_false hne]; rfl
        · rw [if_neg e]
          refine ⟨i1, i2, ?_⟩
          rw [g5, i3, decide_eq_false e]; rfl
      · have he : (if σ i = g then σ d else σ i) = (if σ j = g then σ d else σ j) := he
        by_cases ei : σ i = g
        · by_cases ej : σ j = g
          · exact s2 i j (by omega) hiD (by omega) hjD (by rw [ei, ej])
          · rw [if_pos ei, if_neg ej] at he
            have := s2 d j (by omega) (by omega) (by omega) hjD he
            omega
        · by_cases ej : σ j = g
          · rw [if_neg ei, if_pos ej] at he
            have := s2 i d (by omega) hiD (by omega) (by omega) he
            omega
          · rw [if_neg ei, if_neg ej] at he
            exact s2 i j (by omega) hiD (by omega) hjD he
    · exact absurd ⟨d2, d3⟩ (g1 (σ d) d1)
theorem zsm_le {f : Nat → Nat} {c : Nat} (h : ∀ i, f i ≤ c) : ∀ n, zsm f n ≤ c * n
  | 0 => Nat.le_refl _
  | n + 1 => by
    have := zsm_le h n
    have := h n
    show zsm f n + f n ≤ c * (n + 1)
    rw [Nat.mul_succ]
    omega
theorem zdt_le (dv : Nat → Nat → Nat) (n i : Nat) : zdt dv n i ≤ 12 := by
  unfold zdt
  split <;> split <;> split <;> omega
/-- alike, and the gate is well -/
def zLk (s : zOS) (nd nG : Nat) (d g : Nat) : Prop := zqw s g = true ∧ zlkx nd nG (zdvc (zI s 1)) (zVs s) (zqw s) d g
theorem zLk_rect {s : zOS} {nd nG : Nat} (d d' g g' : Nat) (h1 : zLk s nd nG d g) (h2 : zLk s nd nG d' g) (h3 : zLk s nd nG d g') : zLk s nd nG d' g' := by
  obtain ⟨w1, a1, a2⟩ := h1
  obtain ⟨w2, b1, b2⟩ := h2
  obtain ⟨w3, c1, c2⟩ := h3
  refine ⟨w3, by rw [b1, ← a1]; exact c1, ?_⟩
  rcases a2 with ⟨p1, p2⟩ | ⟨p1, p2⟩ <;> rcases b2 with ⟨q1, q2⟩ | ⟨q1, q2⟩ <;> rcases c2 with ⟨r1, r2⟩ | ⟨r1, r2⟩
  · exact Or.inl ⟨by omega, by omega⟩
  · exact Or.inr ⟨by omega, by omega⟩
  · exact Or.inr ⟨by omega, by omega⟩
  · exact Or.inl ⟨by omega, by omega⟩
  · exact Or.inr ⟨by omega, by omega⟩
  · exact Or.inl ⟨by omega, by omega⟩
  · exact Or.inl ⟨by omega, by omega⟩
  · exact Or.inr ⟨by omega, by omega⟩
theorem zuu_lt {x : Int32} {i : Nat} (h : zu x i = true) : i < 32 := by
  rcases Nat.lt_or_ge i 32 with q | q
  · exact q
  · rw [zu_ge q] at h; cases h
theorem zuu_m1 {i : Nat} (h : i < 32) : zu (-1) i = true := by
  have : ∀ i, i < 32 → zu (-1) i = true := by decide +kernel
  exact this i h
theorem zu_andn (x y : Int32) (i : Nat) : zu (x &&& (y ^^^ (-1))) i = (zu x i && !zu y i) := by
  rw [zu_and, zu_xor]
  by_cases h : i < 32
  · rw [zuu_m1 h]; cases zu y i <;> rfl
  · rw [zu_ge (x := x) (by omega)]; rfl
theorem zuu_neg (x : Int32) (i : Nat) : zu (-x) i = (zu x i ^^ (decide (i < 32) && decide (∃ j, j < i ∧ zu x j = true))) := by
  unfold zu
  rw [Int32.toBitVec_neg, BitVec.getLsbD_neg]
theorem zu_low (x : Int32) (i : Nat) : zu (x &&& (-x)) i = true ↔ zu x i = true ∧ ∀ j, j < i → zu x j = false := by
  rw [zu_and, zuu_neg, Bool.and_eq_true]
  constructor
  · rintro ⟨h1, h2⟩
    refine ⟨h1, fun j hj => ?_⟩
    rw [h1, decide_eq_true (zuu_lt h1)] at h2
    cases e : zu x j with
    | false => rfl
    | true =>
      rw [decide_eq_true (show ∃ j, j < i ∧ zu x j = true from ⟨j, hj, e⟩)] at h2
      exact absurd h2 (by decide)
  · rintro ⟨h1, h2⟩
    refine ⟨h1, ?_⟩
    rw [h1, decide_eq_false (show ¬ ∃ j, j < i ∧ zu x j = true from fun ⟨j, hj, e⟩ => by rw [h2 j hj] at e; cases e)]
    simp
theorem zu_eq0 {x : Int32} : x = 0 ↔ ∀ i, zu x i = false := by
  constructor
  · rintro rfl i
    exact zu_0 i
  · intro h
    exact zu_ext fun i hi => by rw [h i, zu_0]
theorem zu_least {x : Int32} (h : ¬ x = 0) : ∃ g, zu x g = true ∧ ∀ j, j < g → zu x j = false := by
  have : ∃ i, zu x i = true := Classical.byContradiction fun q => h (zu_eq0.mpr fun i => by
    cases e : zu x i with
    | false => rfl
    | true => exact absurd ⟨i, e⟩ q)
  obtain ⟨i, hi⟩ := this
  obtain ⟨m, m1, m2, m3⟩ := zleast (p := fun c => zu x c = true) (zuu_lt hi) hi
  refine ⟨m, m2, fun j hj => ?_⟩
  cases e : zu x j with
  | false => rfl
  | true => exact absurd e (m3 j hj)
section ZG
variable {sP sL sM s : zOS} {m N nG nd np F : Nat} {lab0 lab labG : Nat → Option Nat}
theorem p_isLike {d g : Nat} (hF : 1000 ≤ F) (h : zpd sP (zI s 1) nd np) (hc : zcc sL s m N nG lab labG) (hq : zqlay s m N nG lab0 lab labG) (hd : d < nd) (hg : g < nG) (hw : zqw s g = true) : ∃ b, fX1_isLike F (nI d) (nI g) sP sL = some (zb b) ∧ (b = true ↔ zlkx nd nG (zdvc (zI s 1)) (zVs s) (zqw s) d g) := by
  have hnG := hc.2.2.1
  have hnd := h.1.1
  obtain ⟨v0, l0, e0⟩ := zgn hq hg hw (show 0 < 3 by decide)
  obtain ⟨v1, l1, e1⟩ := zgn hq hg hw (show 1 < 3 by decide)
  obtain ⟨v2, l2, e2⟩ := zgn hq hg hw (show 2 < 3 by decide)
  have c0 : zI sL 9 g = nI v0 := (hc.2.2.2.1 g hg 0 (by decide)).trans e0
  have c1 : zI sL 10 g = nI v1 := (hc.2.2.2.1 g hg 1 (by decide)).trans e1
  have c2 : zI sL 11 g = nI v2 := (hc.2.2.2.1 g hg 2 (by decide)).trans e2
  have bn : ∀ n, zsm (zdt (zdvc (zI s 1)) n) nd < 2 ^ 31 := fun n => by have := zsm_le (zdt_le (zdvc (zI s 1)) n) nd; omega
  have bv : ∀ x, zhw (zVs s) (zqw s) x nG < 2 ^ 31 := fun x => by have := zhw_le (zVs s) (zqw s) x nG; omega
  have q0 := (zdvc_e h.1 hd (show 0 < 3 by decide)).2
  have q1 := (zdvc_e h.1 hd (show 1 < 3 by decide)).2
  have q2 := (zdvc_e h.1 hd (show 2 < 3 by decide)).2
  unfold fX1_isLike jX1_isLike_118 zlkx
  have zk : ∀ e : Option Int32, zchk (nI g) 32 e = e := fun e => zchk_nI (by omega) (by decide)
  simp only [zk, nI_clamp (show g < 2 ^ 31 by omega), c0, c1, c2, p_nodeHang hc l0, p_nodeHang hc l1, p_nodeHang hc l2, p_gateNet h hd, p_sideA h hd, p_sideB h hd, p_netHang hF h (show zdvc (zI s 1) d 0 < 2 ^ 31 by omega), p_netHang hF h (show zdvc (zI s 1) d 1 < 2 ^ 31 by omega), p_netHang hF h (show zdvc (zI s 1) d 2 < 2 ^ 31 by omega), Option.bind_some, e0, e1, e2]
  generalize ea : zsm (zdt (zdvc (zI s 1)) (zdvc (zI s 1) d 0)) nd = A0
  generalize eb : zsm (zdt (zdvc (zI s 1)) (zdvc (zI s 1) d 1)) nd = A1
  generalize ec : zsm (zdt (zdvc (zI s 1)) (zdvc (zI s 1) d 2)) nd = A2
  generalize ed : zhw (zVs s) (zqw s) (nI v0) nG = B0
  generalize ee : zhw (zVs s) (zqw s) (nI v1) nG = B1
  generalize ef : zhw (zVs s) (zqw s) (nI v2) nG = B2
  have ba0 : A0 < 2 ^ 31 := ea ▸ bn _
  have ba1 : A1 < 2 ^ 31 := eb ▸ bn _
  have ba2 : A2 < 2 ^ 31 := ec ▸ bn _
  have bb0 : B0 < 2 ^ 31 := ed ▸ bv _
  have bb1 : B1 < 2 ^ 31 := ee ▸ bv _
  have bb2 : B2 < 2 ^ 31 := ef ▸ bv _
  simp only [nI_eq ba0 bb0, nI_eq ba1 bb1, nI_eq ba1 bb2, nI_eq ba2 bb1, nI_eq ba2 bb2]
  by_cases h0 : A0 = B0
  · rw [if_pos h0]
    by_cases h11 : A1 = B1
    · rw [if_pos h11]
      by_cases h22 : A2 = B2
      · rw [if_pos h22]
        exact ⟨true, rfl, ⟨fun _ => ⟨h0, Or.inl ⟨h11, h22⟩⟩, fun _ => rfl⟩⟩
      · rw [if_neg h22]
        by_cases h12 : A1 = B2
        · rw [if_pos h12]
          by_cases h21 : A2 = B1
          · rw [if_pos h21]
            exact ⟨true, rfl, ⟨fun _ => ⟨h0, Or.inr ⟨h12, h21⟩⟩, fun _ => rfl⟩⟩
          · rw [if_neg h21]
            exact ⟨false, rfl, ⟨fun q => (by cases q), fun q => by rcases q.2 with w | w <;> omega⟩⟩
        · rw [if_neg h12]
          exact ⟨false, rfl, ⟨fun q => (by cases q), fun q => by rcases q.2 with w | w <;> omega⟩⟩
    · rw [if_neg h11]
      by_cases h12 : A1 = B2
      · rw [if_pos h12]
        by_cases h21 : A2 = B1
        · rw [if_pos h21]
          exact ⟨true, rfl, ⟨fun _ => ⟨h0, Or.inr ⟨h12, h21⟩⟩, fun _ => rfl⟩⟩
        · rw [if_neg h21]
          exact ⟨false, rfl, ⟨fun q => (by cases q), fun q => by rcases q.2 with w | w <;> omega⟩⟩
      · rw [if_neg h12]
        exact ⟨false, rfl, ⟨fun q => (by cases q), fun q => by rcases q.2 with w | w <;> omega⟩⟩
  · rw [if_neg h0]
    exact ⟨false, rfl, ⟨fun q => (by cases q), fun q => absurd q.1 h0⟩⟩
theorem p_findLikes (hF : 1000 ≤ F) (h : zpd sP (zI s 1) nd np) (hc : zcc sL s m N nG lab labG) (hq : zqlay s m N nG lab0 lab labG) : ∃ lk, fX1_findLikes F sM sP sL = some (zsI sM 1 lk) ∧ ∀ d, d < nd → ∀ g, zu (lk d) g = true ↔ g < nG ∧ zLk s nd nG d g := by
  have hnG := hc.2.2.1
  have hnd := h.1.1
  unfold fX1_findLikes
  obtain ⟨F', p', ⟨lk, rfl, hlk⟩, -, e⟩ := zfor (B := fun kc9 (p9 : Int32 × zOS) => bX1_findLikes_2 F sP sL kc9 p9.1 p9.2) (fun i p => ∃ lk, p = (nI i, zsI sM 1 lk) ∧ ∀ d, d < i → ∀ g, zu (lk d) g = true ↔ g < nG ∧ zLk s nd nG d g) nd (by
    rintro kc d p hd ⟨lk, rfl, hlk⟩
    show ∃ p', _ ∧ bX1_findLikes_2 F sP sL kc (nI d) (zsI sM 1 lk) = kc p'
    unfold bX1_findLikes_2
    rw [h.2.1, if_neg (zlt_no hd (by omega)), zchk_nI (show d < 6 by omega) (by decide), zlet_eq, nI_clamp (show d < 2 ^ 31 by omega), show zI (zsI sM 1 lk) 1 = lk from zI_e, zsI_I]
    obtain ⟨F', p', ⟨lk2, rfl, k1, k2⟩, -, e⟩ := zfor (B := fun kc9 (p9 : Int32 × zOS) => bX1_findLikes_22 F kc (nI d) sP sL kc9 p9.1 p9.2) (fun g p => ∃ lk2, p = (nI g, zsI sM 1 lk2) ∧ (∀ d', d' < d → lk2 d' = lk d') ∧ ∀ j, zu (lk2 d) j = true ↔ j < g ∧ zLk s nd nG d j) nG (by
      rintro kc2 g p hg ⟨lk2, rfl, k1, k2⟩
      show ∃ p', _ ∧ bX1_findLikes_22 F kc (nI d) sP sL kc2 (nI g) (zsI sM 1 lk2) = kc2 p'
      unfold bX1_findLikes_22
      rw [hc.2.1, if_neg (zlt_no hg (by omega)), hc.2.2.2.2.1 g hg, Option.bind_some, zif_b, nI_1]
      have stay : ¬ zLk s nd nG d g → ∃ p', (∃ lk2', p' = (nI (g + 1), zsI sM 1 lk2') ∧ (∀ d', d' < d → lk2' d' = lk d') ∧ ∀ j, zu (lk2' d) j = true ↔ j < g + 1 ∧ zLk s nd nG d j) ∧ kc2 (nI (g + 1), zsI sM 1 lk2) = kc2 p' := fun hno => ⟨_, ⟨lk2, rfl, k1, fun j => by
        rw [k2 j]
        constructor
        · rintro ⟨j1, j2⟩; exact ⟨by omega, j2⟩
        · rintro ⟨j1, j2⟩
          refine ⟨?_, j2⟩
          rcases Nat.lt_or_ge j g with q | q
          · exact q
          · rw [show j = g by omega] at j2; exact absurd j2 hno⟩, rfl⟩
      cases hw : zqw s g with
      | false =>
        rw [if_neg (by decide)]
        exact stay (fun q => by have q1 := q.1; rw [hw] at q1; cases q1)
      | true =>
        rw [if_pos rfl]
        obtain ⟨b, b1, b2⟩ := p_isLike (F := F) hF h hc hq hd hg hw
        rw [b1, Option.bind_some, zif_b]
        cases b with
        | false =>
          rw [if_neg (by decide)]
          exact stay (fun q => absurd (b2.mpr q.2) (by decide))
        | true =>
          rw [if_pos rfl, zchk_nI (show d < 6 by omega) (by decide), zchk_nI (show d < 6 by omega) (by decide), zlet_eq, nI_clamp (show d < 2 ^ 31 by omega), show zI (zsI sM 1 lk2) 1 = lk2 from zI_e, zsI_I]
          refine ⟨_, ⟨_, rfl, fun d' hd' => ?_, fun j => ?_⟩, rfl⟩
          · rw [zud_n _ _ (by omega)]; exact k1 d' hd'
          · rw [zud_s, zu_or, zu_bit (by omega), Bool.or_eq_true, k2 j, decide_eq_true_iff]
            constructor
            · rintro (⟨j1, j2⟩ | rfl)
              · exact ⟨by omega, j2⟩
              · exact ⟨by omega, hw, b2.mp rfl⟩
            · rintro ⟨j1, j2⟩
              by_cases ej : j = g
              · exact Or.inr ej
              · exact Or.inl ⟨by omega, j2⟩) (F := F) (p := ((0 : Int32), zsI sM 1 (upd lk d 0))) ⟨_, rfl, fun d' hd' => zud_n _ _ (by omega), fun j => by
        rw [zud_s, zu_0]
        exact ⟨fun q => (by cases q), fun q => by omega⟩⟩ (by omega)
    refine ⟨(nI (d + 1), zsI sM 1 lk2), ⟨lk2, rfl, fun d' hd' g => ?_⟩, e.trans ?_⟩
    · by_cases ed : d' = d
      · subst ed; exact k2 g
      · rw [k1 d' (by omega)]; exact hlk d' (by omega) g
    · show bX1_findLikes_22 F kc (nI d) sP sL _ (nI nG) (zsI sM 1 lk2) = _
      unfold bX1_findLikes_22
      rw [hc.2.1, if_pos (zle_ok (Nat.le_refl nG) (by omega)), nI_1]) (F := F) (p := ((0 : Int32), sM)) ⟨zI sM 1, by rw [zsI_self]; rfl, fun d hd => by omega⟩ (by omega)
  refine ⟨lk, e.trans ?_, hlk⟩
  show bX1_findLikes_2 F sP sL _ (nI nd) (zsI sM 1 lk) = _
  unfold bX1_findLikes_2
  rw [h.2.1, if_pos (zle_ok (Nat.le_refl nd) (by omega))]
theorem zcount_not {p : Nat → Bool} : ∀ n, zcount p n + zcount (fun j => !p j) n = n
  | 0 => rfl
  | n + 1 => by
    have := zcount_not (p := p) n
    rw [zcount_next, zcount_next]
    cases p n with
    | false => simp; omega
    | true => simp; omega
theorem p_countLeftOver (hF : 1000 ≤ F) (h : zpd sP (zI s 1) nd np) (hc : zcc sL s m N nG lab labG) (hlk : ∀ d, d < nd → ∀ g, zu (zI sM 1 d) g = true ↔ g < nG ∧ zLk s nd nG d g) : ∃ u n, fX1_countLeftOver F sM sP sL = some (nI nd + nI (zcount (zqw s) nG) - 2 * nI n) ∧ zgrd (zLk s nd nG) nG nd u n := by
  have hnG := hc.2.2.1
  have hnd := h.1.1
  unfold fX1_countLeftOver
  obtain ⟨F', p', ⟨u, n, rfl, hu⟩, -, e⟩ := zfor (B := fun kc9 (p9 : Int32 × Int32 × Int32) => bX1_countLeftOver_6 F sM sP sL kc9 p9.1 p9.2.1 p9.2.2) (fun i p => ∃ (u : Int32) (n : Nat), p = (u, nI n, nI i) ∧ zgrd (zLk s nd nG) nG i (zu u) n) nd (by
    rintro kc d p hd ⟨u, n, rfl, hu⟩
    show ∃ p', _ ∧ bX1_countLeftOver_6 F sM sP sL kc u (nI n) (nI d) = kc p'
    unfold bX1_countLeftOver_6
    rw [h.2.1, if_neg (zlt_no hd (by omega)), zchk_nI (show d < 6 by omega) (by decide), zlet_eq, nI_clamp (show d < 2 ^ 31 by omega), nI_1, nI_1]
    have hbit : ∀ j, zu (zI sM 1 d &&& (u ^^^ (-1))) j = true ↔ (j < nG ∧ zLk s nd nG d j) ∧ zu u j = false := fun j => by
      rw [zu_andn, Bool.and_eq_true, Bool.not_eq_true', hlk d hd j]
    by_cases h0 : zI sM 1 d &&& (u ^^^ (-1)) = 0
    · rw [if_pos h0]
      refine ⟨_, ⟨u, n, rfl, zu u, n, hu, Or.inr ⟨fun g hg q => ?_, fun _ => rfl, rfl⟩⟩, rfl⟩
      have := (hbit g).mpr ⟨⟨hg, q.1⟩, q.2⟩
      rw [h0, zu_0] at this; cases this
    · rw [if_neg h0, zlet_eq]
      obtain ⟨g, g1, g2⟩ := zu_least h0
      obtain ⟨⟨k1, k2⟩, k3⟩ := (hbit g).mp g1
      refine ⟨_, ⟨_, n + 1, rfl, zu u, n, hu, Or.inl ⟨g, k1, k2, k3, fun g' hg' q => ?_, fun j => ?_, rfl⟩⟩, rfl⟩
      · have h1 := (hbit g').mpr ⟨⟨by omega, q.1⟩, q.2⟩
        rw [g2 g' hg'] at h1; cases h1
      · rw [zu_or]
        congr 1
        rw [Bool.eq_iff_iff, zu_low, decide_eq_true_iff]
        constructor
        · rintro ⟨j1, j2⟩
          rcases Nat.lt_trichotomy j g with q | q | q
          · rw [g2 j q] at j1; cases j1
          · exact q
          · rw [j2 g q] at g1; cases g1
        · rintro rfl
          exact ⟨g1, g2⟩) (F := F) (p := ((0 : Int32), (0 : Int32), (0 : Int32))) ⟨0, 0, rfl, fun g => zu_0 g, rfl⟩ (by omega)
  refine ⟨zu u, n, e.trans ?_, hu⟩
  show bX1_countLeftOver_6 F sM sP sL _ u (nI n) (nI nd) = _
  unfold bX1_countLeftOver_6
  have hcn := zcount_not (p := zqw s) nG
  rw [h.2.1, if_pos (zle_ok (Nat.le_refl nd) (by omega)), zlet_eq, hc.2.1, hc.2.2.2.2.2.2.1, nI_sub (by omega), show nG - zcount (fun j => !zqw s j) nG = zcount (zqw s) nG by omega]
end ZG
