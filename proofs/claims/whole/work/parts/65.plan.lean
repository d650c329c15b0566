/-! PURE: means and pins on both sides -/
theorem q_add {sD : zOS} {b n : Nat} {x y z : Int32} (hb : b = 8 ∨ b = 27) (hn : n < 6) (ha : zI sD 1 b = nI n) : fX5_add (nI b) x y z sD = some (nI n, zsI sD 1 (upd (upd (upd (upd (zI sD 1) (b + 1 + 3 * n) x) (b + 1 + 3 * n + 1) y) (b + 1 + 3 * n + 2) z) b (nI (n + 1)))) := by
  unfold fX5_add
  have gs : ∀ (σ : zOS) (f : Nat → Int32), zI (zsI σ 1 f) 1 = f := fun σ f => rfl
  have hb46 : b + 1 + 3 * n + 2 < 46 := by omega
  rw [zchk_nI (show b < 46 by omega) (by decide), zlet_eq, nI_clamp (show b < 2 ^ 31 by omega), ha, nI31, show nI b + (1 : Int32) = nI (b + 1) from nI_add b 1, nI_add, show nI (b + 1 + 3 * n) + (1 : Int32) = nI (b + 1 + 3 * n + 1) from nI_add _ 1, show nI (b + 1 + 3 * n) + (2 : Int32) = nI (b + 1 + 3 * n + 2) from nI_add _ 2, zchk_nI (show b + 1 + 3 * n < 46 by omega) (by decide), zlet_eq, zchk_nI (show b + 1 + 3 * n + 1 < 46 by omega) (by decide), zlet_eq, zchk_nI hb46 (by decide), zlet_eq, zchk_nI (show b < 46 by omega) (by decide), zchk_nI (show b < 46 by omega) (by decide), zlet_eq, zchk_nI (show b < 46 by omega) (by decide), nI_clamp (show b + 1 + 3 * n < 2 ^ 31 by omega), nI_clamp (show b + 1 + 3 * n + 1 < 2 ^ 31 by omega), nI_clamp (show b + 1 + 3 * n + 2 < 2 ^ 31 by omega)]
  simp only [gs]
  rw [zud_s, zud_n _ _ (show b ≠ b + 1 + 3 * n + 2 by omega), zud_n _ _ (show b ≠ b + 1 + 3 * n + 1 by omega), zud_n _ _ (show b ≠ b + 1 + 3 * n by omega), ha, show nI n + (1 : Int32) = nI (n + 1) from nI_add n 1, nI_pred, zsI_I (σ := sD), zsI_I (σ := sD), zsI_I (σ := sD)]
theorem p_addThree {s : zOS} {k f n : Nat} {x y z : Int32} (hn : n < 6) (hf : zF s f = nI n) : (Option.bind (fX2_putThree k (nI n) x y z s) (fun r_7 : zOS => (zlet (zsF r_7 f ((zF r_7 f) + (1 : Int32))) (fun sP_9 : zOS => (some ((zF sP_9 f) - (1 : Int32), sP_9)))))) = some (nI n, zsF (zsI s k (upd (upd (upd (zI s k) (3 * n) x) (3 * n + 1) y) (3 * n + 2) z)) f (nI (n + 1))) := by
  rw [p_putThree hn, Option.bind_some, zlet_eq, show ∀ g : Nat → Int32, zF (zsI s k g) f = nI n from fun g => hf, show nI n + (1 : Int32) = nI (n + 1) from nI_add n 1, show ∀ (σ : zOS) (v : Int32), zF (zsF σ f v) f = v from fun σ v => va_up_self _ _ _, nI_pred]
theorem zud3 {g h : Nat → Int32} {o n : Nat} {x y z : Int32} (he : ∀ i, i < 3 * n → g i = h (o + i)) : ∀ i, i < 3 * (n + 1) → upd (upd (upd g (3 * n) x) (3 * n + 1) y) (3 * n + 2) z i = upd (upd (upd h (o + 3 * n) x) (o + 3 * n + 1) y) (o + 3 * n + 2) z (o + i) := by
  intro i hi
  rcases (show i < 3 * n ∨ i = 3 * n ∨ i = 3 * n + 1 ∨ i = 3 * n + 2 by omega) with e | e | e | e
  · rw [zud_n _ _ (by omega), zud_n _ _ (by omega), zud_n _ _ (by omega), zud_n _ _ (by omega), zud_n _ _ (by omega), zud_n _ _ (by omega)]
    exact he i e
  · subst e
    rw [zud_n _ _ (by omega), zud_n _ _ (by omega), zud_s, zud_n _ _ (by omega), zud_n _ _ (by omega), zud_s]
  · subst e
    rw [zud_n _ _ (by omega), zud_s, zud_n _ _ (by omega), show o + (3 * n + 1) = o + 3 * n + 1 by omega, zud_s]
  · subst e
    rw [zud_s, show o + (3 * n + 2) = o + 3 * n + 2 by omega, zud_s]
theorem zs_same (sD : zOS) (r : Int32) : (some (r, sD) : Option (Int32 × zOS)) = some (r, zsI sD 1 (zI sD 1)) := by
  obtain ⟨a, b, c, d⟩ := sD
  show some (r, (a, b, c, d)) = some (r, (va_up a 1 (a 1), b, c, d))
  rw [va_id]
theorem zpl_means {sP sD : zOS} {x y z : Int32} (h : zpl sP (zI sD 1)) : ∃ r sP' a', fX2_addDevice x y z sP = some (r, sP') ∧ fX5_doMeans x y z sD = some (r, zsI sD 1 a') ∧ zpl sP' a' ∧ zrf r sP sP' (zI sD 1) a' := by
  have same := zs_same sD
  unfold fX2_addDevice fX5_doMeans
  rw [p_isWithin, p_isWithin, p_isWithin, q_isNet, q_isNet, q_isNet]
  simp only [Option.bind_some, zif_b]
  cases hx : zin x 10 with
  | false => exact ⟨_, sP, zI sD 1, rfl, same _, h, Or.inl ⟨Or.inl rfl, rfl, rfl⟩⟩
  | true =>
    rw [if_pos rfl, if_pos rfl]
    cases hy : zin y 10 with
    | false => exact ⟨_, sP, zI sD 1, rfl, same _, h, Or.inl ⟨Or.inl rfl, rfl, rfl⟩⟩
    | true =>
      rw [if_pos rfl, if_pos rfl]
      cases hz : zin z 10 with
      | false => exact ⟨_, sP, zI sD 1, rfl, same _, h, Or.inl ⟨Or.inl rfl, rfl, rfl⟩⟩
      | true =>
        obtain ⟨h1, nd, np, h2, h3, h4, h5, h6, h7, h8, h9⟩ := id h
        rw [if_pos rfl, if_pos rfl, zchk_ok (j := (8 : Int32)) (n := 46) (vp_in_nI (show 8 < 46 by decide) (by decide)), show (8 : Int32).toNatClampNeg = 8 from rfl, h5, h4]
        by_cases h6' : nd = 6
        · subst h6'
          rw [if_neg (show ¬ nI 6 < (6 : Int32) by decide), if_pos (show nI 6 = (6 : Int32) from rfl)]
          exact ⟨_, sP, zI sD 1, rfl, same _, h, Or.inl ⟨Or.inr rfl, rfl, rfl⟩⟩
        · have hnd : nd < 6 := by omega
          rw [if_pos (show nI nd < (6 : Int32) from nI_lt (b := 6) hnd (by decide)), if_neg (show ¬ nI nd = (6 : Int32) from fun q => h6' ((nI_eq (a := nd) (b := 6) (by omega) (by decide)).mp q)), p_addThree hnd h4, show fX5_add (8 : Int32) x y z sD = _ from q_add (b := 8) (Or.inl rfl) hnd h5, Option.bind_some]
          refine ⟨_, _, _, rfl, rfl, ⟨fun l hl i hi => ?_, nd + 1, np, by omega, h3, rfl, zud_s _ _ _, h6, ?_, fun i hi => ?_, fun i hi => ?_⟩, Or.inr (nI_pos' (by omega))⟩
          · rw [zmb_upd (by omega) hl hi, zmb_upd (by omega) hl hi, zmb_upd (by omega) hl hi, zmb_upd (by omega) hl hi]
            exact h1 l hl i hi
          · rw [zud_n _ _ (by omega), zud_n _ _ (by omega), zud_n _ _ (by omega), zud_n _ _ (by omega)]
            exact h7
          · have e := zud3 (g := zI sP 2) (h := zI sD 1) (o := 9) (n := nd) (x := x) (y := y) (z := z) (fun i hi => (h8 i hi).1) i hi
            rw [zud_n _ _ (show 9 + i ≠ 8 by omega)]
            refine ⟨e, ?_⟩
            rcases (show i < 3 * nd ∨ i = 3 * nd ∨ i = 3 * nd + 1 ∨ i = 3 * nd + 2 by omega) with q | q | q | q
            · rw [zud_n _ _ (by omega), zud_n _ _ (by omega), zud_n _ _ (by omega)]
              exact (h8 i q).2
            · subst q; rw [zud_n _ _ (by omega), zud_n _ _ (by omega), show 9 + 3 * nd = 8 + 1 + 3 * nd by omega, zud_s]; exact hx
            · subst q; rw [zud_n _ _ (by omega), show 9 + (3 * nd + 1) = 8 + 1 + 3 * nd + 1 by omega, zud_s]; exact hy
            · subst q; rw [show 9 + (3 * nd + 2) = 8 + 1 + 3 * nd + 2 by omega, zud_s]; exact hz
          · rw [zud_n _ _ (by omega), zud_n _ _ (by omega), zud_n _ _ (by omega), zud_n _ _ (by omega)]
            exact h9 i hi
theorem zpl_pins {sP sD : zOS} {x y z : Int32} (h : zpl sP (zI sD 1)) : ∃ r sP' a', fX2_addPin x y z sP = some (r, sP') ∧ fX5_doPins x y z sD = some (r, zsI sD 1 a') ∧ zpl sP' a' ∧ zrf r sP sP' (zI sD 1) a' := by
  have same := zs_same sD
  unfold fX2_addPin fX5_doPins
  rw [p_isWithin, p_isCell, q_isCell, q_isNet]
  simp only [Option.bind_some, zif_b]
  cases hxy : zin x 8 && zin y 8 with
  | false => exact ⟨_, sP, zI sD 1, rfl, same _, h, Or.inl ⟨Or.inl rfl, rfl, rfl⟩⟩
  | true =>
      obtain ⟨hx, hy⟩ := (Bool.and_eq_true _ _).mp hxy
      rw [if_pos rfl, if_pos rfl]
      cases hz : zin z 10 with
      | false => exact ⟨_, sP, zI sD 1, rfl, same _, h, Or.inl ⟨Or.inl rfl, rfl, rfl⟩⟩
      | true =>
        obtain ⟨h1, nd, np, h2, h3, h4, h5, h6, h7, h8, h9⟩ := id h
        rw [if_pos rfl, if_pos rfl, zchk_ok (j := (27 : Int32)) (n := 46) (vp_in_nI (show 27 < 46 by decide) (by decide)), show (27 : Int32).toNatClampNeg = 27 from rfl, h7, h6]
        by_cases h6' : np = 6
        · subst h6'
          rw [if_neg (show ¬ nI 6 < (6 : Int32) by decide), if_pos (show nI 6 = (6 : Int32) from rfl)]
          exact ⟨_, sP, zI sD 1, rfl, same _, h, Or.inl ⟨Or.inr rfl, rfl, rfl⟩⟩
        · have hnp : np < 6 := by omega
          rw [if_pos (show nI np < (6 : Int32) from nI_lt (b := 6) hnp (by decide)), if_neg (show ¬ nI np = (6 : Int32) from fun q => h6' ((nI_eq (a := np) (b := 6) (by omega) (by decide)).mp q)), p_addThree hnp h6, show fX5_add (27 : Int32) x y z sD = _ from q_add (b := 27) (Or.inr rfl) hnp h7, Option.bind_some]
          refine ⟨_, _, _, rfl, rfl, ⟨fun l hl i hi => ?_, nd, np + 1, h2, by omega, h4, ?_, rfl, zud_s _ _ _, fun i hi => ?_, fun i hi => ?_⟩, Or.inr (nI_pos' (by omega))⟩
          · rw [zmb_upd (by omega) hl hi, zmb_upd (by omega) hl hi, zmb_upd (by omega) hl hi, zmb_upd (by omega) hl hi]
            exact h1 l hl i hi
          · rw [zud_n _ _ (by omega), zud_n _ _ (by omega), zud_n _ _ (by omega), zud_n _ _ (by omega)]
            exact h5
          · rw [zud_n _ _ (by omega), zud_n _ _ (by omega), zud_n _ _ (by omega), zud_n _ _ (by omega)]
            exact h8 i hi
          · have e := zud3 (g := zI sP 3) (h := zI sD 1) (o := 28) (n := np) (x := x) (y := y) (z := z) (fun i hi => (h9 i hi).1) i hi
            rw [zud_n _ _ (show 28 + i ≠ 27 by omega)]
            refine ⟨e, ?_⟩
            rcases (show i < 3 * np ∨ i = 3 * np ∨ i = 3 * np + 1 ∨ i = 3 * np + 2 by omega) with q | q | q | q
            · rw [zud_n _ _ (by omega), zud_n _ _ (by omega), zud_n _ _ (by omega)]
              exact (h9 i q).2
            · subst q; rw [zud_n _ _ (by omega), zud_n _ _ (by omega), show 28 + 3 * np = 27 + 1 + 3 * np by omega, zud_s, if_neg (by omega)]; exact hx
            · subst q; rw [zud_n _ _ (by omega), show 28 + (3 * np + 1) = 27 + 1 + 3 * np + 1 by omega, zud_s, if_neg (by omega)]; exact hy
            · subst q; rw [show 28 + (3 * np + 2) = 27 + 1 + 3 * np + 2 by omega, zud_s, if_pos (by omega)]; exact hz
