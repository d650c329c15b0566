/-! PURE: the reference's findSides -/
theorem zud_s (f : Nat → Int32) (k : Nat) (x : Int32) : upd f k x k = x := if_pos rfl
theorem zud_n (f : Nat → Int32) {k j : Nat} (x : Int32) (h : j ≠ k) : upd f k x j = f j := if_neg h
theorem zleast {p : Nat → Prop} {n c : Nat} (hc : c < n) (hp : p c) : ∃ m, m < n ∧ p m ∧ ∀ j, j < m → ¬ p j := by
  induction c using Nat.strongRecOn with
  | ind c ih =>
    rcases Classical.em (∃ j, j < c ∧ p j) with ⟨j, h1, h2⟩ | hno
    · exact ih j h1 (by omega) h2
    · exact ⟨c, hc, hp, fun j hj hpj => hno ⟨j, hj, hpj⟩⟩
def zgp (lab labG : Nat → Option Nat) (j c : Nat) (V : Nat → Int32) : Prop :=
  (∀ c', c' < c → labG c' = some j → V 0 = zenc (lab (64 + c'))) ∧ V 3 = nI (zcount (fun c => decide (labG c = some j)) c) ∧ ((∀ c', c' < c → ¬ labG c' = some j) → V 5 = -1) ∧ (∀ c0, c0 < c → labG c0 = some j → (∀ c', c' < c0 → ¬ labG c' = some j) → V 5 = nI c0)
theorem nI63 {j : Nat} : (6 : Int32) * nI j = nI (6 * j) := pk_mul 6 j
theorem zgp_skip {lab labG : Nat → Option Nat} {j c : Nat} {V : Nat → Int32} (h : zgp lab labG j c V) (hg : ¬ labG c = some j) : zgp lab labG j (c + 1) V := by
  obtain ⟨h1, h2, h3, h4⟩ := h
  refine ⟨fun c' hc' hl => ?_, ?_, fun hn => h3 (fun c' hc' => hn c' (by omega)), fun c0 hc0 hl hm => ?_⟩
  · by_cases e : c' = c
    · subst e; exact absurd hl hg
    · exact h1 c' (by omega) hl
  · rw [zcount_next, decide_eq_false hg, h2]; rfl
  · by_cases e : c0 = c
    · subst e; exact absurd hl hg
    · exact h4 c0 (by omega) hl hm
theorem q_findSides {sD : zOS} {lab labG : Nat → Option Nat} {nG N F : Nat} (hF : 1000 ≤ F) (hq : zqa sD lab labG) (hn : nG ≤ 32) (h10 : zF sD 10 = nI nG) (hN : N ≤ 192) (h7 : zF sD 7 = nI N)
    (hsame : ∀ j c c', c < 64 → c' < 64 → labG c = some j → labG c' = some j → lab (64 + c) = lab (64 + c')) :
    ∃ G, fX5_findSides F sD = some (zsI sD 8 G) ∧ ∀ j, j < nG → zgd lab labG N j (fun k => G (6 * j + k)) := by
  unfold fX5_findSides
  rw [show (0 : Int32) = nI 0 from rfl]
  refine zit_wf (fun p => ∃ j G, p = (nI j, zsI sD 8 G) ∧ j ≤ nG ∧ ∀ j', j' < j → zgd lab labG N j' (fun k => G (6 * j' + k))) (fun p => 33 - p.1.toNatClampNeg) (fun o => ∃ G, o = some (zsI sD 8 G) ∧ ∀ j, j < nG → zgd lab labG N j (fun k => G (6 * j + k))) ?_ F (nI 0, sD) ⟨0, zI sD 8, by
      congr 1
      obtain ⟨a, b, c, d⟩ := sD
      show (a, b, c, d) = (va_up a 8 (a 8), b, c, d)
      congr 1
      funext k
      show a k = if k = 8 then a 8 else a k
      by_cases h : k = 8
      · rw [if_pos h, h]
      · rw [if_neg h], by omega, fun j hj => by omega⟩ (by show 33 - _ < F; omega)
  rintro kc ⟨x1, σ⟩ ⟨j, G, he, hj, hG⟩
  obtain ⟨rfl, rfl⟩ := Prod.mk.inj he
  show (∃ p', _ ∧ _ ∧ bX5_findSides_2 F kc (nI j) (zsI sD 8 G) = kc p') ∨ (∃ G', bX5_findSides_2 F kc (nI j) (zsI sD 8 G) = some (zsI sD 8 G') ∧ _)
  unfold bX5_findSides_2
  rw [show zF (zsI sD 8 G) 10 = nI nG from h10]
  by_cases hjn : j = nG
  · right
    subst hjn
    rw [if_pos (show nI j ≤ nI j by rw [zle_nI (by omega) (by omega)]; omega)]
    exact ⟨G, rfl, hG⟩
  · left
    have hj' : j < nG := by omega
    rw [if_neg (show ¬ nI nG ≤ nI j by rw [zle_nI (by omega) (by omega)]; omega), zlet_eq, nI63, show nI (6 * j) + (1 : Int32) = nI (6 * j + 1) from nI_add (6 * j) 1, show nI (6 * j) + (2 : Int32) = nI (6 * j + 2) from nI_add (6 * j) 2, show nI (6 * j) + (3 : Int32) = nI (6 * j + 3) from nI_add (6 * j) 3, show nI (6 * j) + (5 : Int32) = nI (6 * j + 5) from nI_add (6 * j) 5]
    rw [zchk_nI (show 6 * j + 1 < 192 by omega) (by decide), zlet_eq, nI_clamp (show 6 * j + 1 < 2 ^ 31 by omega), show zI (zsI sD 8 G) 8 = G from rfl, zsI_8I (σ := sD) (J := G)]
    rw [zchk_nI (show 6 * j + 2 < 192 by omega) (by decide), zlet_eq, nI_clamp (show 6 * j + 2 < 2 ^ 31 by omega), show zI (zsI sD 8 (upd G (6 * j + 1) (-1))) 8 = upd G (6 * j + 1) (-1) from rfl, zsI_8I (σ := sD) (J := upd G (6 * j + 1) (-1))]
    rw [zchk_nI (show 6 * j + 3 < 192 by omega) (by decide), zlet_eq, nI_clamp (show 6 * j + 3 < 2 ^ 31 by omega), show zI (zsI sD 8 (upd (upd G (6 * j + 1) (-1)) (6 * j + 2) (-1))) 8 = upd (upd G (6 * j + 1) (-1)) (6 * j + 2) (-1) from rfl, zsI_8I (σ := sD) (J := upd (upd G (6 * j + 1) (-1)) (6 * j + 2) (-1))]
    rw [zchk_nI (show 6 * j + 5 < 192 by omega) (by decide), zlet_eq, nI_clamp (show 6 * j + 5 < 2 ^ 31 by omega), show zI (zsI sD 8 (upd (upd (upd G (6 * j + 1) (-1)) (6 * j + 2) (-1)) (6 * j + 3) 0)) 8 = upd (upd (upd G (6 * j + 1) (-1)) (6 * j + 2) (-1)) (6 * j + 3) 0 from rfl, zsI_8I (σ := sD) (J := upd (upd (upd G (6 * j + 1) (-1)) (6 * j + 2) (-1)) (6 * j + 3) 0), show (0 : Int32) = nI 0 from rfl]
    refine zit_wf (fun p => ∃ c H, p = (nI c, zsI sD 8 H) ∧ c ≤ 64 ∧ (∀ i, i < 6 * j → H i = G i) ∧ zgp lab labG j c (fun k => H (6 * j + k))) (fun p => 65 - p.1.toNatClampNeg) (fun o => ∃ p', (∃ j G, p' = (nI j, zsI sD 8 G) ∧ j ≤ nG ∧ ∀ j', j' < j → zgd lab labG N j' (fun k => G (6 * j' + k))) ∧ 33 - p'.1.toNatClampNeg < 33 - (nI j).toNatClampNeg ∧ o = kc p') ?_ F _ ⟨0, _, rfl, by omega, fun i hi => by
      rw [zud_n _ _ (by omega), zud_n _ _ (by omega), zud_n _ _ (by omega), zud_n _ _ (by omega)], fun c' hc' => by omega, by
      show upd _ (6 * j + 5) _ (6 * j + 3) = _
      rw [zud_n _ _ (by omega), zud_s]; rfl, fun _ => zud_s _ _ _, fun c0 hc0 => by omega⟩ (by show 65 - _ < F; omega)
    rintro kc2 ⟨x3, σ⟩ ⟨c, H, he, hc, hH, hp⟩
    obtain ⟨rfl, rfl⟩ := Prod.mk.inj he
    show (∃ p', _ ∧ _ ∧ bX5_findSides_53 F kc (nI j) (nI (6 * j)) kc2 (nI c) (zsI sD 8 H) = kc2 p') ∨ (∃ p', _ ∧ _ ∧ bX5_findSides_53 F kc (nI j) (nI (6 * j)) kc2 (nI c) (zsI sD 8 H) = kc p')
    unfold bX5_findSides_53
    rw [show (64 : Int32) = nI 64 from rfl]
    by_cases hc64 : c = 64
    · right
      subst hc64
      rw [if_pos (show nI 64 ≤ nI 64 by rw [zle_nI (by decide) (by decide)]; omega), q_countSides (lab := lab) (labG := labG) (N := N) hF hq (show j < 32 by omega) hN h7, Option.bind_some, nI_1]
      refine ⟨(nI (j + 1), _), ⟨j + 1, _, rfl, by omega, fun j' hj'' => ?_⟩, by show 33 - (nI (j + 1)).toNatClampNeg < _; rw [nI_clamp (by omega), nI_clamp (by omega)]; omega, rfl⟩
      by_cases e : j' = j
      · subst e
        obtain ⟨p1, p2, p3, p4⟩ := hp
        refine ⟨fun c hc hl => ?_, ?_, ?_, ?_, ?_, fun c hc hl hm => ?_⟩
        · show upd _ _ _ (6 * j' + 0) = _
          rw [zud_n _ _ (by omega), zud_n _ _ (by omega), zud_n _ _ (by omega)]
          exact p1 c hc hl
        · show upd _ _ _ (6 * j' + 1) = _
          rw [zud_n _ _ (by omega), zud_s]
        · exact zud_s _ _ _
        · show upd _ _ _ (6 * j' + 3) = _
          rw [zud_n _ _ (by omega), zud_n _ _ (by omega), zud_n _ _ (by omega)]
          exact p2
        · show upd _ _ _ (6 * j' + 4) = _
          rw [zud_n _ _ (by omega), zud_n _ _ (by omega), zud_s]
        · show upd _ _ _ (6 * j' + 5) = _
          rw [zud_n _ _ (by omega), zud_n _ _ (by omega), zud_n _ _ (by omega)]
          exact p4 c hc hl hm
      · have g := hG j' (by omega)
        have ev : ∀ k, k < 6 → upd (upd (upd H (6 * j + 4) (nI (zscan (zsdb lab labG j) N).1)) (6 * j + 1) (zwl (zscan (zsdb lab labG j) N).1 (zscan (zsdb lab labG j) N).2.1)) (6 * j + 2) (zwl (zscan (zsdb lab labG j) N).1 (zscan (zsdb lab labG j) N).2.2) (6 * j' + k) = G (6 * j' + k) := fun k hk => by
          rw [zud_n _ _ (by omega), zud_n _ _ (by omega), zud_n _ _ (by omega)]
          exact hH _ (by omega)
        obtain ⟨g0, g1, g2, g3, g4, g5⟩ := g
        exact ⟨fun c hc hl => (ev 0 (by omega)).trans (g0 c hc hl), (ev 1 (by omega)).trans g1, (ev 2 (by omega)).trans g2, (ev 3 (by omega)).trans g3, (ev 4 (by omega)).trans g4, fun c hc hl hm => (ev 5 (by omega)).trans (g5 c hc hl hm)⟩
    · left
      have hc' : c < 64 := by omega
      rw [if_neg (show ¬ nI 64 ≤ nI c by rw [zle_nI (by decide) (by omega)]; omega), zchk_nI hc' (by decide), nI_clamp (show c < 2 ^ 31 by omega), show zI (zsI sD 8 H) 6 = zI sD 6 from rfl, hq.2.1 c hc']
      by_cases hg : labG c = some j
      · rw [if_pos (show zenc (labG c) = nI j by rw [hg]; rfl), nI_add, zchk_nI (show 64 + c < 192 by omega) (by decide), zchk_nI (show 6 * j < 192 by omega) (by decide), zlet_eq, nI_clamp (show 64 + c < 2 ^ 31 by omega), nI_clamp (show 6 * j < 2 ^ 31 by omega), show zI (zsI sD 8 H) 8 = H from rfl, zsI_8I (σ := sD) (J := H), show zI (zsI sD 8 H) 5 = zI sD 5 from rfl, hq.1 (64 + c) (by omega)]
        rw [show nI (6 * j) + (3 : Int32) = nI (6 * j + 3) from nI_add (6 * j) 3, show nI (6 * j) + (5 : Int32) = nI (6 * j + 5) from nI_add (6 * j) 5, zchk_nI (show 6 * j + 3 < 192 by omega) (by decide), zchk_nI (show 6 * j + 3 < 192 by omega) (by decide), zlet_eq, nI_clamp (show 6 * j + 3 < 2 ^ 31 by omega), show zI (zsI sD 8 (upd H (6 * j) (zenc (lab (64 + c))))) 8 = upd H (6 * j) (zenc (lab (64 + c))) from rfl, zsI_8I (σ := sD) (J := upd H (6 * j) (zenc (lab (64 + c)))), zud_n _ _ (show 6 * j + 3 ≠ 6 * j by omega), zchk_nI (show 6 * j + 5 < 192 by omega) (by decide), zchk_nI (show 6 * j + 5 < 192 by omega) (by decide), nI_clamp (show 6 * j + 5 < 2 ^ 31 by omega)]
        obtain ⟨p1, p2, p3, p4⟩ := hp
        have p2 : H (6 * j + 3) = nI (zcount (fun c => decide (labG c = some j)) c) := p2
        rw [p2, nI_1]
        rw [show zI (zsI sD 8 (upd (upd H (6 * j) (zenc (lab (64 + c)))) (6 * j + 3) (nI (zcount (fun c => decide (labG c = some j)) c + 1)))) 8 (6 * j + 5) = H (6 * j + 5) by
          show upd (upd H (6 * j) (zenc (lab (64 + c)))) (6 * j + 3) (nI (zcount (fun c => decide (labG c = some j)) c + 1)) (6 * j + 5) = H (6 * j + 5)
          rw [zud_n _ _ (by omega), zud_n _ _ (by omega)]]
        have c127 : ∀ (x : Int32) (K : Nat → Int32), jX5_findSides_127 F kc kc2 (nI c) x (nI (6 * j + 5)) (zsI sD 8 K) = kc2 (nI (c + 1), zsI sD 8 (upd K (6 * j + 5) x)) := fun x K => by
          unfold jX5_findSides_127
          rw [zchk_nI (show 6 * j + 5 < 192 by omega) (by decide), zlet_eq, nI_clamp (show 6 * j + 5 < 2 ^ 31 by omega), show zI (zsI sD 8 K) 8 = K from rfl, zsI_8I, nI_1]
        rw [c127, c127]
        have fin : ∀ x : Int32, (∀ c0, c0 < c + 1 → labG c0 = some j → (∀ c', c' < c0 → ¬ labG c' = some j) → x = nI c0) → ∃ p', (∃ c H, p' = (nI c, zsI sD 8 H) ∧ c ≤ 64 ∧ (∀ i, i < 6 * j → H i = G i) ∧ zgp lab labG j c (fun k => H (6 * j + k))) ∧ 65 - p'.1.toNatClampNeg < 65 - c ∧ kc2 (nI (c + 1), zsI sD 8 (upd (upd (upd H (6 * j) (zenc (lab (64 + c)))) (6 * j + 3) (nI (zcount (fun c => decide (labG c = some j)) c + 1))) (6 * j + 5) x)) = kc2 p' := fun x hx => by
          refine ⟨(nI (c + 1), _), ⟨c + 1, _, rfl, by omega, fun i hi => ?_, fun c' hc1 hl => ?_, ?_, fun hno => absurd hg (hno c (by omega)), fun c0 hc0 hl hm => ?_⟩, by show 65 - (nI (c + 1)).toNatClampNeg < _; rw [nI_clamp (by omega)]; omega, rfl⟩
          · rw [zud_n _ _ (by omega), zud_n _ _ (by omega), zud_n _ _ (by omega)]
            exact hH i hi
          · show upd _ _ _ (6 * j + 0) = _
            rw [zud_n _ _ (by omega), zud_n _ _ (by omega)]
            show upd H (6 * j) _ (6 * j) = _
            rw [zud_s, hsame j c c' hc' (by omega) hg hl]
          · show upd _ _ _ (6 * j + 3) = _
            rw [zud_n _ _ (by omega), zud_s, zcount_next, decide_eq_true hg]; rfl
          · show upd _ _ _ (6 * j + 5) = _
            rw [zud_s]
            exact hx c0 hc0 hl hm
        rcases Classical.em (∃ c', c' < c ∧ labG c' = some j) with ⟨c1, k1, k2⟩ | hno
        · obtain ⟨m, m1, m2, m3⟩ := zleast (p := fun c => labG c = some j) k1 k2
          have h5 : H (6 * j + 5) = nI m := p4 m m1 m2 m3
          rw [h5, if_neg (zenc_ne (show m < 2 ^ 31 by omega))]
          refine fin (nI m) (fun c0 hc0 hl hm => ?_)
          rcases Nat.lt_trichotomy m c0 with q | q | q
          · exact absurd m2 (hm m q)
          · rw [q]
          · exact absurd hl (m3 c0 q)
        · have h5 : H (6 * j + 5) = -1 := p3 (fun c' hc1 hl => hno ⟨c', hc1, hl⟩)
          rw [h5, if_pos rfl]
          refine fin (nI c) (fun c0 hc0 hl hm => ?_)
          by_cases e : c0 = c
          · rw [e]
          · exact absurd ⟨c0, by omega, hl⟩ hno
      · rw [if_neg (show ¬ zenc (labG c) = nI j by rw [zenc_eq (fun i hi => by have := hq.2.2.2 c i hc' hi; omega) (by omega)]; exact hg), nI_1]
        exact ⟨(nI (c + 1), zsI sD 8 H), ⟨c + 1, H, rfl, by omega, hH, zgp_skip hp hg⟩, by show 65 - (nI (c + 1)).toNatClampNeg < _; rw [nI_clamp (by omega)]; omega, rfl⟩
