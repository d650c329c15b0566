/-! PURE: drawing and rubbing are the same on both sides -/
theorem q_paint {sD : zOS} {x1 x y w h : Int32} {d : Bool} {F : Nat} : fX5_paint F x1 x y w h (zb d) sD = if zin x1 4 && zisb x y w h then zit (P := Int32 × Int32 × zOS) (R := Int32 × zOS) (fun kc9 p9 => bX5_paint_52 F x1 x y w h (zb d) kc9 p9.1 p9.2.1 p9.2.2) F ((0 : Int32), (0 : Int32), sD) else some (-2, sD) := by
  unfold fX5_paint zisb
  rw [show fX5_in x1 0 3 = some (zb (zin x1 4)) from q_in0 x1 (n := 3) (by decide), q_isCell, q_in, q_in]
  simp only [Option.bind_some, zif_b]
  cases zin x1 4 <;> cases zin x 8 && zin y 8 <;> cases decide (1 ≤ w) && decide (w ≤ 8 - x) <;> cases decide (1 ≤ h) && decide (h ≤ 8 - y) <;> rfl
theorem zpl_paint {sP sD : zOS} {x1 x y w h : Int32} {F : Nat} (hF : 1000 ≤ F) (hp : zpl sP (zI sD 1)) : ∃ r sP' a', fX2_paint F x1 x y w h sP = some (r, sP') ∧ fX5_paint F x1 x y w h 1 sD = some (r, zsI sD 1 a') ∧ zpl sP' a' ∧ zrf r sP sP' (zI sD 1) a' := by
  have same := zs_same sD
  rw [show fX5_paint F x1 x y w h 1 sD = _ from q_paint (d := true)]
  unfold fX2_paint
  rw [p_isWithin, p_isBox]
  simp only [Option.bind_some, zif_b]
  cases h1 : zin x1 4 with
  | false => exact ⟨_, sP, zI sD 1, rfl, same _, hp, Or.inl ⟨Or.inl rfl, rfl, rfl⟩⟩
  | true =>
    cases h2 : zisb x y w h with
    | false => exact ⟨_, sP, zI sD 1, rfl, same _, hp, Or.inl ⟨Or.inl rfl, rfl, rfl⟩⟩
    | true =>
      obtain ⟨l, hl, rfl⟩ := (zin_iff (n := 4) (by decide)).mp h1
      obtain ⟨x', y', w', h', rfl, rfl, rfl, rfl, k1, k2, k3, k4⟩ := zisb_nat h2
      obtain ⟨m, m1, m2⟩ := p_boxBits hF k1 k2 k3 k4
      obtain ⟨a', b1, b2, b3, b4⟩ := q_box (sD := sD) (d := true) hF hl k1 k2 k3 k4
      rw [if_pos rfl, if_pos rfl, if_pos (show (true && true) = true from rfl), m1, Option.bind_some, zchk_nI hl (by decide), zlet_eq, zchk_nI hl (by decide), zchk_nI hl (by decide), zlet_eq, p_bitCount, Option.bind_some, nI_clamp (show l < 2 ^ 31 by omega), b1]
      have hbit := hp.1 l hl
      refine ⟨_, _, a', rfl, ?_, zpl_put hp hl (fun i hi => ?_) b3 b4, Or.inr zcnt_pos⟩
      · rw [zcount_congr (p := zt (m &&& (zL sP 1 l ^^^ (-1)))) (q := fun i => zbx x' y' w' h' i && (zmb (zI sD 1) l i ^^ true)) (fun i hi => by
          rw [zt_andn, m2 i hi, hbit i hi, Bool.xor_true])]
      · rw [zt_or, zt_andn, m2 i hi, hbit i hi, b2 i hi]
        cases zbx x' y' w' h' i <;> cases zmb (zI sD 1) l i <;> rfl
theorem zpl_erase {sP sD : zOS} {x1 x y w h : Int32} {F : Nat} (hF : 1000 ≤ F) (hp : zpl sP (zI sD 1)) : ∃ r sP' a', fX2_erase F x1 x y w h sP = some (r, sP') ∧ fX5_paint F x1 x y w h 0 sD = some (r, zsI sD 1 a') ∧ zpl sP' a' ∧ zrf r sP sP' (zI sD 1) a' := by
  have same := zs_same sD
  rw [show fX5_paint F x1 x y w h 0 sD = _ from q_paint (d := false)]
  unfold fX2_erase
  rw [p_isWithin, p_isBox]
  simp only [Option.bind_some, zif_b]
  cases h1 : zin x1 4 with
  | false => exact ⟨_, sP, zI sD 1, rfl, same _, hp, Or.inl ⟨Or.inl rfl, rfl, rfl⟩⟩
  | true =>
    cases h2 : zisb x y w h with
    | false => exact ⟨_, sP, zI sD 1, rfl, same _, hp, Or.inl ⟨Or.inl rfl, rfl, rfl⟩⟩
    | true =>
      obtain ⟨l, hl, rfl⟩ := (zin_iff (n := 4) (by decide)).mp h1
      obtain ⟨x', y', w', h', rfl, rfl, rfl, rfl, k1, k2, k3, k4⟩ := zisb_nat h2
      obtain ⟨m, m1, m2⟩ := p_boxBits hF k1 k2 k3 k4
      obtain ⟨a', b1, b2, b3, b4⟩ := q_box (sD := sD) (d := false) hF hl k1 k2 k3 k4
      rw [if_pos rfl, if_pos rfl, if_pos (show (true && true) = true from rfl), m1, Option.bind_some, zchk_nI hl (by decide), zlet_eq, zchk_nI hl (by decide), zchk_nI hl (by decide), zlet_eq, p_bitCount, Option.bind_some, nI_clamp (show l < 2 ^ 31 by omega), b1]
      have hbit := hp.1 l hl
      refine ⟨_, _, a', rfl, ?_, zpl_put hp hl (fun i hi => ?_) b3 b4, Or.inr zcnt_pos⟩
      · rw [zcount_congr (p := zt (m &&& zL sP 1 l)) (q := fun i => zbx x' y' w' h' i && (zmb (zI sD 1) l i ^^ false)) (fun i hi => by
          rw [zt_and, m2 i hi, hbit i hi, Bool.xor_false])]
      · rw [zt_andn, zt_and, m2 i hi, hbit i hi, b2 i hi]
        cases zbx x' y' w' h' i <;> cases zmb (zI sD 1) l i <;> rfl
