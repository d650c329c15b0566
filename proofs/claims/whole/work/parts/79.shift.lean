/-! PURE: moving a layer is the same on both sides -/
theorem zpl_shift {sP sD : zOS} {x1 x y : Int32} {F : Nat} (hF : 1000 ≤ F) (hp : zpl sP (zI sD 1)) : ∃ r sP' a', fX2_shift F x1 x y sP = some (r, sP') ∧ fX5_doMoves F x1 x y sD = some (r, zsI sD 1 a') ∧ zpl sP' a' ∧ zrf r sP sP' (zI sD 1) a' := by
  have same := zs_same sD
  unfold fX2_shift fX5_doMoves
  rw [p_isWithin, p_isStep, p_isStep, show fX5_in x1 0 3 = some (zb (zin x1 4)) from q_in0 x1 (n := 3) (by decide), show fX5_in x (-7) 7 = some (zb (zst x)) from q_in x (-7) 7, show fX5_in y (-7) 7 = some (zb (zst y)) from q_in y (-7) 7]
  simp only [Option.bind_some, zif_b]
  cases h1 : zin x1 4 with
  | false => exact ⟨_, sP, zI sD 1, rfl, same _, hp, Or.inl ⟨Or.inl rfl, rfl, rfl⟩⟩
  | true =>
    cases h2 : zst x with
    | false => exact ⟨_, sP, zI sD 1, rfl, same _, hp, Or.inl ⟨Or.inl rfl, rfl, rfl⟩⟩
    | true =>
      cases h3 : zst y with
      | false => exact ⟨_, sP, zI sD 1, rfl, same _, hp, Or.inl ⟨Or.inl rfl, rfl, rfl⟩⟩
      | true =>
        obtain ⟨l, hl, rfl⟩ := (zin_iff (n := 4) (by decide)).mp h1
        obtain ⟨kx, hx, rfl⟩ := zst_of h2
        obtain ⟨ky, hy, rfl⟩ := zst_of h3
        obtain ⟨m, m1, m2⟩ := p_shiftLoop (sP := sP) hF hl hx hy
        obtain ⟨p, q, b1, b2⟩ := q_movesLoop (sD := sD) hF hl hx hy
        simp only [if_true]
        rw [m1, b1]
        have hbit := hp.1 l hl
        have hz : ∀ i, zmk (zt (zL sP 1 l)) ((kx : Int) - 7) ((ky : Int) - 7) 64 i = zmk (zmb (zI sD 1) l) ((kx : Int) - 7) ((ky : Int) - 7) 64 i := fun i => decide_eq_decide.mpr ⟨fun ⟨s, g1, g2, g3⟩ => ⟨s, g1, by rw [← hbit s g1]; exact g2, g3⟩, fun ⟨s, g1, g2, g3⟩ => ⟨s, g1, by rw [hbit s g1]; exact g2, g3⟩⟩
        refine ⟨_, _, upd (upd (zI sD 1) (2 * l) p) (2 * l + 1) q, rfl, ?_, zpl_put hp hl (fun i hi => ?_) (fun l' hl' hne i hi => ?_) (fun k hk => ?_), Or.inr zcnt_pos⟩
        · rw [zcount_congr (p := zt m) (q := zmk (zmb (zI sD 1) l) ((kx : Int) - 7) ((ky : Int) - 7) 64) (fun i hi => by rw [m2 i hi, hz])]
        · rw [m2 i hi, hz, ← b2 i hi]
          unfold zmb zlh
          by_cases h32 : i < 32
          · rw [if_pos h32, show 2 * l + i / 32 = 2 * l by omega, zud_n _ _ (by omega), zud_s, show i % 32 = i by omega]
          · rw [if_neg h32, show 2 * l + i / 32 = 2 * l + 1 by omega, zud_s, show i % 32 = i - 32 by omega]
        · unfold zmb
          rw [zud_n _ _ (by omega), zud_n _ _ (by omega)]
        · rw [zud_n _ _ (by omega), zud_n _ _ (by omega)]
