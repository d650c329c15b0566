/-! PURE: the reference's loop that moves a layer -/
theorem q_movesLoop {sD : zOS} {l kx ky F : Nat} (hF : 1000 ≤ F) (hl : l < 4) (hx : kx < 15) (hy : ky < 15) :
    ∃ p q, zit (P := Int32 × Int32 × Int32 × Int32) (R := Int32 × zOS) (fun kc9 p9 => bX5_doMoves_46 F (nI l) (nI kx - 7) (nI ky - 7) sD kc9 p9.1 p9.2.1 p9.2.2.1 p9.2.2.2) F ((0 : Int32), (0 : Int32), (0 : Int32), (0 : Int32)) = some (nI (zcount (zmk (zmb (zI sD 1) l) ((kx : Int) - 7) ((ky : Int) - 7) 64) 64), zsI sD 1 (upd (upd (zI sD 1) (2 * l) p) (2 * l + 1) q)) ∧ ∀ i, i < 64 → zlh p q i = zmk (zmb (zI sD 1) l) ((kx : Int) - 7) ((ky : Int) - 7) 64 i := by
  refine zit_wf (fun P => ∃ k p q, P = (p, q, nI (zcount (zmk (zmb (zI sD 1) l) ((kx : Int) - 7) ((ky : Int) - 7) k) 64), nI k) ∧ k ≤ 64 ∧ ∀ i, i < 64 → zlh p q i = zmk (zmb (zI sD 1) l) ((kx : Int) - 7) ((ky : Int) - 7) k i) (fun P => 65 - P.2.2.2.toNatClampNeg) (fun o => ∃ p q, o = some (nI (zcount (zmk (zmb (zI sD 1) l) ((kx : Int) - 7) ((ky : Int) - 7) 64) 64), zsI sD 1 (upd (upd (zI sD 1) (2 * l) p) (2 * l + 1) q)) ∧ ∀ i, i < 64 → zlh p q i = zmk (zmb (zI sD 1) l) ((kx : Int) - 7) ((ky : Int) - 7) 64 i) ?_ F _ ⟨0, 0, 0, by rw [zcount_0 (fun i _ => zmk_0)]; rfl, by omega, fun i hi => by rw [zmk_0]; unfold zlh; split <;> exact zu_0 _⟩ (by show 65 - _ < F; omega)
  rintro kc ⟨x4, x5, x6, x7⟩ ⟨k, p, q, he, hk, hm⟩
  obtain ⟨rfl, he2⟩ := Prod.mk.inj he
  obtain ⟨rfl, he3⟩ := Prod.mk.inj he2
  obtain ⟨rfl, rfl⟩ := Prod.mk.inj he3
  clear he he2 he3
  generalize hc : zcount (zmk (zmb (zI sD 1) l) ((kx : Int) - 7) ((ky : Int) - 7) k) 64 = c
  show (∃ p', _ ∧ _ ∧ bX5_doMoves_46 F (nI l) (nI kx - 7) (nI ky - 7) sD kc x4 x5 (nI c) (nI k) = kc p') ∨ (∃ p q, bX5_doMoves_46 F (nI l) (nI kx - 7) (nI ky - 7) sD kc x4 x5 (nI c) (nI k) = some (_, zsI sD 1 (upd (upd (zI sD 1) (2 * l) p) (2 * l + 1) q)) ∧ _)
  unfold bX5_doMoves_46
  rw [show (64 : Int32) = nI 64 from rfl]
  by_cases h64 : k = 64
  · right
    subst h64
    rw [if_pos (show nI 64 ≤ nI 64 by rw [zle_nI (by decide) (by decide)]; omega), show (2 : Int32) * nI l = nI (2 * l) from pk_mul 2 l, show nI (2 * l) + (1 : Int32) = nI (2 * l + 1) from nI_add (2 * l) 1, zchk_nI (show 2 * l < 46 by omega) (by decide), zlet_eq, zchk_nI (show 2 * l + 1 < 46 by omega) (by decide), zlet_eq, nI_clamp (show 2 * l < 2 ^ 31 by omega), nI_clamp (show 2 * l + 1 < 2 ^ 31 by omega), show ∀ f : Nat → Int32, zI (zsI sD 1 f) 1 = f from fun _ => rfl, zsI_I, hc]
    exact ⟨x4, x5, rfl, hm⟩
  · left
    have hk' : k < 64 := by omega
    obtain ⟨sx1, sx2⟩ := zstep_all (k % 8) (by omega) kx hx
    obtain ⟨sy1, sy2⟩ := zstep_all (k / 8) (by omega) ky hy
    have zat := zmt_at (kx := kx) (ky := ky) (x := k % 8) (y := k / 8) (by omega) (by omega)
    rw [show 8 * (k / 8) + k % 8 = k by omega] at zat
    have mu : ∀ (a9 b9 c9 : Int32), 65 - ((a9, b9, c9, nI (k + 1)) : Int32 × Int32 × Int32 × Int32).2.2.2.toNatClampNeg < 65 - ((x4, x5, nI c, nI k) : Int32 × Int32 × Int32 × Int32).2.2.2.toNatClampNeg := fun a9 b9 c9 => by
      show 65 - (nI (k + 1)).toNatClampNeg < 65 - (nI k).toNatClampNeg
      rw [nI_clamp (by omega), nI_clamp (by omega)]; omega
    have skip : (zmb (zI sD 1) l k = false ∨ zmt ((kx : Int) - 7) ((ky : Int) - 7) k = none) → ∃ p' : Int32 × Int32 × Int32 × Int32, (∃ k p q, p' = (p, q, nI (zcount (zmk (zmb (zI sD 1) l) ((kx : Int) - 7) ((ky : Int) - 7) k) 64), nI k) ∧ k ≤ 64 ∧ ∀ i, i < 64 → zlh p q i = zmk (zmb (zI sD 1) l) ((kx : Int) - 7) ((ky : Int) - 7) k i) ∧ 65 - p'.2.2.2.toNatClampNeg < 65 - ((x4, x5, nI c, nI k) : Int32 × Int32 × Int32 × Int32).2.2.2.toNatClampNeg ∧ kc (x4, x5, nI c, nI (k + 1)) = kc p' := fun hs =>
      ⟨(x4, x5, nI c, nI (k + 1)), ⟨k + 1, x4, x5, by rw [zcount_congr (fun i _ => zmk_skip hs i), hc], by omega, fun i hi => by rw [zmk_skip hs]; exact hm i hi⟩, mu _ _ _, rfl⟩
    rw [if_neg (show ¬ nI 64 ≤ nI k by rw [zle_nI (by decide) (by omega)]; omega), zdvk_ok (by decide), zlet_eq, zdvk_ok (by decide), zlet_eq, show (8 : Int32) = nI 8 from rfl, zrm (by omega) (by decide) (by decide), pk_div (by omega) (by decide) (by decide), q_isDrawn hl hk', Option.bind_some, zif_b, nI_1]
    cases hb : zmb (zI sD 1) l k with
    | false => exact skip (Or.inl hb)
    | true =>
      rw [if_pos rfl, q_isCell, Option.bind_some, zif_b, sx1, sy1]
      by_cases hin : (7 ≤ k % 8 + kx ∧ k % 8 + kx < 15) ∧ 7 ≤ k / 8 + ky ∧ k / 8 + ky < 15
      · rw [if_pos hin] at zat
        rw [decide_eq_true hin.1, decide_eq_true hin.2, if_pos (show (true && true) = true from rfl), sx2 hin.1, sy2 hin.2, zlet_eq, show nI 8 * nI (k / 8 + ky - 7) = nI (8 * (k / 8 + ky - 7)) from pk_mul 8 _, nI_add]
        generalize 8 * (k / 8 + ky - 7) + (k % 8 + kx - 7) = t at *
        have ht := zmt_lt zat
        have orr := fun i hi => zlh_or (p := x4) (q := x5) (i := i) ht hi
        unfold jX5_doMoves_118
        rw [show (32 : Int32) = nI 32 from rfl, zlet_eq, zlet_eq, zlet_eq, zlet_eq, nI_1, nI_1]
        by_cases h32 : t < 32
        · rw [if_neg (show ¬ nI 32 ≤ nI t by rw [zle_nI (by decide) (by omega)]; omega), if_neg (show ¬ nI 32 ≤ nI t by rw [zle_nI (by decide) (by omega)]; omega)]
          refine ⟨(_, _, nI (c + 1), nI (k + 1)), ⟨k + 1, _, _, by rw [zmk_count hb zat, hc], by omega, fun i hi => ?_⟩, mu _ _ _, rfl⟩
          have o := orr i hi
          rw [if_pos h32] at o
          rw [zmk_next hb zat, ← hm i hi]
          exact o
        · rw [if_pos (show nI 32 ≤ nI t by rw [zle_nI (by decide) (by omega)]; omega), if_pos (show nI 32 ≤ nI t by rw [zle_nI (by decide) (by omega)]; omega), show nI t - nI 32 = nI (t - 32) from pk_sub (by omega)]
          refine ⟨(_, _, nI (c + 1), nI (k + 1)), ⟨k + 1, _, _, by rw [zmk_count hb zat, hc], by omega, fun i hi => ?_⟩, mu _ _ _, rfl⟩
          have o := orr i hi
          rw [if_neg h32] at o
          rw [zmk_next hb zat, ← hm i hi]
          exact o
      · rw [if_neg (fun q => hin (by rw [Bool.and_eq_true, decide_eq_true_iff, decide_eq_true_iff] at q; exact q))]
        exact skip (Or.inr (by rw [zat, if_neg hin]))
