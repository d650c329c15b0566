/-! PURE: the reference's loop over a box -/
theorem zfirst_0 {x y w h i : Nat} : zfirst x y w h 0 i = false := by
  unfold zfirst
  rw [decide_eq_false (Nat.not_lt_zero _), Bool.and_false]
theorem zfirst_all {x y w h i : Nat} : zfirst x y w h (w * h) i = zbx x y w h i := by
  unfold zfirst
  cases e : zbx x y w h i with
  | false => rfl
  | true => rw [decide_eq_true (zx2_lt e)]; rfl
theorem zfirst_next {x y w h k i : Nat} (hx : x + w ≤ 8) (hw : 1 ≤ w) (hy : y + h ≤ 8) (hk : k < w * h) : zfirst x y w h (k + 1) i = (zfirst x y w h k i || decide (i = 8 * (y + k / w) + x + k % w)) := by
  obtain ⟨c1, c2, c3, c4⟩ := zcell hx hw hy hk
  unfold zfirst
  by_cases e : i = 8 * (y + k / w) + x + k % w
  · rw [decide_eq_true e, e, c2, c3, decide_eq_true (Nat.lt_succ_self k)]
    simp
  · rw [decide_eq_false e, Bool.or_false]
    cases eb : zbx x y w h i with
    | false => rfl
    | true =>
      have : ¬ zx2 x y w i = k := fun q => e (c4 i eb q)
      rw [Bool.true_and, Bool.true_and]
      exact decide_eq_decide.mpr (by omega)
theorem q_box {sD : zOS} {l x y w h F : Nat} {d : Bool} (hF : 1000 ≤ F) (hl : l < 4) (hx : x + w ≤ 8) (hw : 1 ≤ w) (hy : y + h ≤ 8) (hh : 1 ≤ h) :
    ∃ a', zit (P := Int32 × Int32 × zOS) (R := Int32 × zOS) (fun kc9 p9 => bX5_paint_52 F (nI l) (nI x) (nI y) (nI w) (nI h) (zb d) kc9 p9.1 p9.2.1 p9.2.2) F ((0 : Int32), (0 : Int32), sD) = some (nI (zcount (fun i => zbx x y w h i && (zmb (zI sD 1) l i ^^ d)) 64), zsI sD 1 a') ∧ (∀ i, i < 64 → zmb a' l i = if zbx x y w h i then d else zmb (zI sD 1) l i) ∧ (∀ l', l' < 4 → l' ≠ l → ∀ i, i < 64 → zmb a' l' i = zmb (zI sD 1) l' i) ∧ ∀ k, 8 ≤ k → a' k = zI sD 1 k := by
  have hwh : w * h ≤ 64 := Nat.mul_le_mul (show w ≤ 8 by omega) (show h ≤ 8 by omega)
  refine zit_wf (fun p => ∃ k a', p = (nI (zcount (fun i => zfirst x y w h k i && (zmb (zI sD 1) l i ^^ d)) 64), nI k, zsI sD 1 a') ∧ k ≤ w * h ∧ (∀ i, i < 64 → zmb a' l i = if zfirst x y w h k i then d else zmb (zI sD 1) l i) ∧ (∀ l', l' < 4 → l' ≠ l → ∀ i, i < 64 → zmb a' l' i = zmb (zI sD 1) l' i) ∧ ∀ k, 8 ≤ k → a' k = zI sD 1 k) (fun p => 65 - p.2.1.toNatClampNeg) (fun o => ∃ a', o = some (nI (zcount (fun i => zbx x y w h i && (zmb (zI sD 1) l i ^^ d)) 64), zsI sD 1 a') ∧ (∀ i, i < 64 → zmb a' l i = if zbx x y w h i then d else zmb (zI sD 1) l i) ∧ (∀ l', l' < 4 → l' ≠ l → ∀ i, i < 64 → zmb a' l' i = zmb (zI sD 1) l' i) ∧ ∀ k, 8 ≤ k → a' k = zI sD 1 k) ?_ F _ ⟨0, zI sD 1, by
      rw [zcount_0 (fun i _ => by rw [zfirst_0, Bool.false_and])]
      obtain ⟨a, b, c, e⟩ := sD
      show (nI 0, nI 0, (a, b, c, e)) = (nI 0, nI 0, (va_up a 1 (a 1), b, c, e))
      rw [va_id], by omega, fun i hi => by rw [zfirst_0]; rfl, fun _ _ _ _ _ => rfl, fun _ _ => rfl⟩ (by show 65 - _ < F; omega)
  rintro kc ⟨x7, x8, σ⟩ ⟨k, a', he, hk, h1, h2, h3⟩
  obtain ⟨rfl, he2⟩ := Prod.mk.inj he
  obtain ⟨rfl, rfl⟩ := Prod.mk.inj he2
  clear he he2
  generalize hc : zcount (fun i => zfirst x y w h k i && (zmb (zI sD 1) l i ^^ d)) 64 = c
  show (∃ p', _ ∧ _ ∧ bX5_paint_52 F (nI l) (nI x) (nI y) (nI w) (nI h) (zb d) kc (nI c) (nI k) (zsI sD 1 a') = kc p') ∨ (∃ a'', bX5_paint_52 F (nI l) (nI x) (nI y) (nI w) (nI h) (zb d) kc (nI c) (nI k) (zsI sD 1 a') = some (_, zsI sD 1 a'') ∧ _)
  unfold bX5_paint_52
  rw [show nI w * nI h = nI (w * h) from pk_mul w h]
  by_cases hkk : k = w * h
  · right
    rw [if_pos (show nI (w * h) ≤ nI k by rw [zle_nI (by omega) (by omega)]; omega)]
    subst hkk
    refine ⟨a', ?_, fun i hi => by rw [h1 i hi, zfirst_all], h2, h3⟩
    rw [← hc]
    congr 3
    congr 1
    funext i
    rw [zfirst_all]
  · left
    have hk' : k < w * h := by omega
    obtain ⟨c1, c2, c3, c4⟩ := zcell hx hw hy hk'
    have nx := fun i => zfirst_next (i := i) hx hw hy hk'
    have hcell : (8 : Int32) * (nI y + nI k / nI w) + nI x + (nI k - nI k / nI w * nI w) = nI (8 * (y + k / w) + x + k % w) := by
      rw [zrm (by omega) (by omega) (by omega), pk_div (by omega) (by omega) (by omega), nI_add, show (8 : Int32) * nI (y + k / w) = nI (8 * (y + k / w)) from pk_mul 8 _, nI_add, nI_add]
    rw [if_neg (show ¬ nI (w * h) ≤ nI k by rw [zle_nI (by omega) (by omega)]; omega), zdvk_ok (nI_ne0 (by omega) (by omega)), zdvk_ok (nI_ne0 (by omega) (by omega)), zlet_eq, hcell]
    generalize 8 * (y + k / w) + x + k % w = i0 at *
    have hf0 : zfirst x y w h k i0 = false := by unfold zfirst; rw [c3, decide_eq_false (Nat.lt_irrefl k), Bool.and_false]
    have hb0 : zmb a' l i0 = zmb (zI sD 1) l i0 := by rw [h1 i0 c1, hf0]; rfl
    rw [q_isDrawn hl c1, Option.bind_some, show zI (zsI sD 1 a') 1 = a' from rfl, hb0, nI_1]
    have mu : ∀ s9 c9, 65 - ((nI c9, nI (k + 1), s9) : Int32 × Int32 × zOS).2.1.toNatClampNeg < 65 - ((nI c, nI k, zsI sD 1 a') : Int32 × Int32 × zOS).2.1.toNatClampNeg := fun s9 c9 => by
      show 65 - (nI (k + 1)).toNatClampNeg < 65 - (nI k).toNatClampNeg
      rw [nI_clamp (by omega), nI_clamp (by omega)]; omega
    by_cases hd : zmb (zI sD 1) l i0 = d
    · rw [if_pos (by rw [hd])]
      refine ⟨(nI c, nI (k + 1), zsI sD 1 a'), ⟨k + 1, a', ?_, by omega, fun i hi => ?_, h2, h3⟩, mu _ _, rfl⟩
      · rw [← hc, zcount_congr (p := fun i => zfirst x y w h (k + 1) i && (zmb (zI sD 1) l i ^^ d)) (q := fun i => zfirst x y w h k i && (zmb (zI sD 1) l i ^^ d)) (fun i hi => by
          show (zfirst x y w h (k + 1) i && (zmb (zI sD 1) l i ^^ d)) = (zfirst x y w h k i && (zmb (zI sD 1) l i ^^ d))
          rw [nx i]
          by_cases e : i = i0
          · subst e; rw [hd, Bool.xor_self, Bool.and_false, Bool.and_false]
          · rw [decide_eq_false e, Bool.or_false])]
      · rw [h1 i hi, nx i]
        by_cases e : i = i0
        · subst e; rw [hf0, decide_eq_true rfl, hd]; simp
        · rw [decide_eq_false e, Bool.or_false]
    · have hnd : (!zmb (zI sD 1) l i0) = d := by cases e1 : zmb (zI sD 1) l i0 <;> cases e2 : d <;> simp_all
      rw [if_neg (show ¬ zb (zmb (zI sD 1) l i0) = zb d from fun q => hd (by cases e1 : zmb (zI sD 1) l i0 <;> cases e2 : d <;> simp_all [zb])), q_flip hl c1, Option.bind_some, show zI (zsI sD 1 a') 1 = a' from rfl, zsI_I, nI_1]
      refine ⟨(nI (c + 1), nI (k + 1), zsI sD 1 (zfp a' l i0)), ⟨k + 1, zfp a' l i0, ?_, by omega, fun i hi => ?_, fun l' hl' hne i hi => ?_, fun k8 hk8 => ?_⟩, mu _ _, rfl⟩
      · rw [zcount_set (p := fun i => zfirst x y w h k i && (zmb (zI sD 1) l i ^^ d)) (q := fun i => zfirst x y w h (k + 1) i && (zmb (zI sD 1) l i ^^ d)) (c := i0) (by show (zfirst x y w h k i0 && _) = false; rw [hf0, Bool.false_and]) (by
          show (zfirst x y w h (k + 1) i0 && (zmb (zI sD 1) l i0 ^^ d)) = true
          rw [nx i0, hf0, decide_eq_true rfl, ← hnd]
          cases zmb (zI sD 1) l i0 <;> rfl) (fun i hne => by
          show (zfirst x y w h (k + 1) i && (zmb (zI sD 1) l i ^^ d)) = (zfirst x y w h k i && (zmb (zI sD 1) l i ^^ d))
          rw [nx i, decide_eq_false hne, Bool.or_false]), hc, if_pos c1]
      · rw [zfp_bit c1 hi, nx i]
        by_cases e : i = i0
        · subst e; rw [if_pos ⟨rfl, rfl⟩, hb0, hnd, decide_eq_true rfl]; simp
        · rw [if_neg (fun q => e q.2), h1 i hi, decide_eq_false e, Bool.or_false]
      · rw [zfp_bit c1 hi, if_neg (fun q => hne q.1)]; exact h2 l' hl' hne i hi
      · rw [zfp_ge hl c1 hk8]; exact h3 k8 hk8
