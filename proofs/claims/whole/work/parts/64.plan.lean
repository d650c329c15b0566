/-! PURE: one plan, told by the class's Plan and by the reference's 46 numbers -/
def zpl (sP : zOS) (a : Nat → Int32) : Prop := (∀ l, l < 4 → ∀ i, i < 64 → zt (zL sP 1 l) i = zmb a l i) ∧ ∃ nd np, nd ≤ 6 ∧ np ≤ 6 ∧ zF sP 3 = nI nd ∧ a 8 = nI nd ∧ zF sP 4 = nI np ∧ a 27 = nI np ∧
  (∀ i, i < 3 * nd → zI sP 2 i = a (9 + i) ∧ zin (a (9 + i)) 10 = true) ∧ (∀ i, i < 3 * np → zI sP 3 i = a (28 + i) ∧ zin (a (28 + i)) (if i % 3 = 2 then 10 else 8) = true)
theorem zmb_upd {a : Nat → Int32} {k : Nat} {x : Int32} (hk : 8 ≤ k) {l i : Nat} (hl : l < 4) (hi : i < 64) : zmb (upd a k x) l i = zmb a l i := by
  unfold zmb
  rw [zud_n _ _ (by omega)]
/-- refused, and nothing is changed; or an answer -/
def zrf (r : Int32) (sP sP' : zOS) (a a' : Nat → Int32) : Prop := ((r = -2 ∨ r = -4) ∧ sP' = sP ∧ a' = a) ∨ 0 ≤ r
theorem zcnt_pos {p : Nat → Bool} : 0 ≤ nI (zcount p 64) := nI_pos' (by have := zcount_le (p := p) (n := 64); omega)
theorem zpl_forgets {sP sD : zOS} (h : zpl sP (zI sD 1)) : ∃ r sP' a', fX2_dropMeant sP = some (r, sP') ∧ fX5_doForgets sD = some (r, zsI sD 1 a') ∧ zpl sP' a' ∧ zrf r sP sP' (zI sD 1) a' := by
  obtain ⟨h1, nd, np, h2, h3, h4, h5, h6, h7, h8, h9⟩ := h
  unfold fX2_dropMeant fX5_doForgets
  rw [zlet_eq, zlet_eq, zlet_eq, h4, h6]
  rw [zchk_ok (j := (8 : Int32)) (n := 46) (vp_in_nI (show 8 < 46 by decide) (by decide)), zchk_ok (j := (27 : Int32)) (n := 46) (vp_in_nI (show 27 < 46 by decide) (by decide)), zlet_eq, show (8 : Int32).toNatClampNeg = 8 from rfl, show (27 : Int32).toNatClampNeg = 27 from rfl, h5, h7, zchk_ok (j := (8 : Int32)) (n := 46) (vp_in_nI (show 8 < 46 by decide) (by decide)), zlet_eq, zchk_ok (j := (27 : Int32)) (n := 46) (vp_in_nI (show 27 < 46 by decide) (by decide)), zlet_eq, show zI (zsI sD 1 (upd (zI sD 1) 8 0)) 1 = upd (zI sD 1) 8 0 from rfl, zsI_I]
  refine ⟨_, _, _, rfl, rfl, ⟨fun l hl i hi => ?_, 0, 0, by omega, by omega, rfl, ?_, rfl, zud_s _ _ _, fun i hi => by omega, fun i hi => by omega⟩, Or.inr (by rw [nI_add]; exact nI_pos' (by omega))⟩
  · rw [zmb_upd (by decide) hl hi, zmb_upd (by decide) hl hi]
    exact h1 l hl i hi
  · rw [zud_n _ _ (by decide), zud_s]; rfl
theorem q_isNet (x : Int32) : fX5_isNet x = some (zb (zin x 10)) := by
  unfold fX5_isNet fX5_in zin
  by_cases h1 : x < 0
  · rw [if_pos h1, zbk_0, Option.bind_some, decide_eq_false (by rw [Int32.not_le]; exact h1)]; rfl
  · have h2 : 0 ≤ x := Int32.not_lt.mp h1
    rw [if_neg h1, decide_eq_true h2]
    by_cases h3 : (9 : Int32) < x
    · rw [if_pos h3, zbk_0, Option.bind_some, decide_eq_false (fun h => by
        rw [Int32.lt_iff_toInt_lt] at h3 h
        have e1 : (9 : Int32).toInt = 9 := by decide
        have e2 : (10 : Int32).toInt = 10 := by decide
        omega)]; rfl
    · rw [if_neg h3, zbk_1, Option.bind_some, decide_eq_true (by
        rw [Int32.lt_iff_toInt_lt] at h3 ⊢
        have e1 : (9 : Int32).toInt = 9 := by decide
        have e2 : (10 : Int32).toInt = 10 := by decide
        omega)]; rfl
theorem nI31 {n : Nat} : (3 : Int32) * nI n = nI (3 * n) := pk_mul 3 n
theorem p_putThree {s : zOS} {k n : Nat} {x y z : Int32} (hn : n < 6) : fX2_putThree k (nI n) x y z s = some (zsI s k (upd (upd (upd (zI s k) (3 * n) x) (3 * n + 1) y) (3 * n + 2) z)) := by
  unfold fX2_putThree
  have gs : ∀ (σ : zOS) (f : Nat → Int32), zI (zsI σ k f) k = f := fun σ f => va_up_self _ _ _
  rw [nI31, show nI (3 * n) + (1 : Int32) = nI (3 * n + 1) from nI_add (3 * n) 1, show nI (3 * n) + (2 : Int32) = nI (3 * n + 2) from nI_add (3 * n) 2, zchk_nI (show 3 * n < 18 by omega) (by decide), zlet_eq, zchk_nI (show 3 * n + 1 < 18 by omega) (by decide), zlet_eq, zchk_nI (show 3 * n + 2 < 18 by omega) (by decide), zlet_eq, nI_clamp (show 3 * n < 2 ^ 31 by omega), nI_clamp (show 3 * n + 1 < 2 ^ 31 by omega), nI_clamp (show 3 * n + 2 < 2 ^ 31 by omega), gs, gs, zsI_I (σ := s), zsI_I (σ := s)]
