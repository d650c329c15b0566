/-! PURE: the class's floods on boards of bits -/
theorem zcount_lt {p q : Nat → Bool} {n i : Nat} (h : ∀ j, j < n → p j = true → q j = true) (hi : i < n) (hp : p i = false) (hq : q i = true) : zcount p n < zcount q n := by
  have h1 := zcount_set (p := p) (q := fun j => p j || decide (j = i)) (c := i) hp (by simp) (fun j hj => by simp [hj]) (n := n)
  rw [if_pos hi] at h1
  have h2 := zcount_mono (p := fun j => p j || decide (j = i)) (q := q) (n := n) (fun j hj hjt => by
    simp only [Bool.or_eq_true, decide_eq_true_eq] at hjt
    rcases hjt with e | e
    · exact h j hj e
    · rw [e]; exact hq)
  omega
def zbo (x : Int64) : Int64 := (((x &&& (9187201950435737471 : Int64)) <<< ((1 : Int32).toInt64 &&& 63) ||| ((x &&& (-72340172838076674 : Int64)).toUInt64 >>> ((1 : Int32).toInt64.toUInt64 &&& Int64.toUInt64 63)).toInt64) ||| (x <<< ((8 : Int32).toInt64 &&& 63))) ||| ((x.toUInt64 >>> ((8 : Int32).toInt64.toUInt64 &&& Int64.toUInt64 63)).toInt64)
theorem p_besideOf (x : Int64) : fX0_besideOf x = some (zbo x) := rfl
theorem zM1 : ∀ c, c < 64 → zt (9187201950435737471 : Int64) c = !decide (c % 8 = 7) := by decide +kernel
theorem zM2 : ∀ c, c < 64 → zt (-72340172838076674 : Int64) c = !decide (c % 8 = 0) := by decide +kernel
def znb (c d : Nat) : Prop := ∃ s, s < 4 ∧ zbd c s = some d
theorem zbo_iff (x : Int64) {d : Nat} (hd : d < 64) : zt (zbo x) d = true ↔ ∃ c, zt x c = true ∧ znb c d := by
  unfold zbo
  rw [zt_or, zt_or, zt_or, show (1 : Int32) = nI 1 from rfl, show (8 : Int32) = nI 8 from rfl, zt_shl _ (by decide), zt_shr _ (by decide), zt_shl _ (by decide), zt_shr _ (by decide), zt_and, zt_and]
  simp only [Bool.or_eq_true, Bool.and_eq_true, decide_eq_true_eq, Bool.not_eq_true', decide_eq_false_iff_not]
  constructor
  · rintro (((⟨-, h1, h2, h3⟩ | ⟨h2, h3⟩) | ⟨-, h1, h2⟩) | h2)
    · have h4 := zt_lt h2
      rw [zM1 _ h4] at h3
      simp only [Bool.not_eq_true', decide_eq_false_iff_not] at h3
      refine ⟨d - 1, h2, 3, by decide, ?_⟩
      unfold zbd
      rw [if_neg (by decide), if_neg (by decide), if_neg (by decide), if_neg h3]
      congr 1
      omega
    · have h4 := zt_lt h2
      rw [zM2 _ h4] at h3
      simp only [Bool.not_eq_true', decide_eq_false_iff_not] at h3
      refine ⟨1 + d, h2, 2, by decide, ?_⟩
      unfold zbd
      rw [if_neg (by decide), if_neg (by decide), if_pos rfl, if_neg h3]
      congr 1
      omega
    · refine ⟨d - 8, h2, 1, by decide, ?_⟩
      unfold zbd
      rw [if_neg (by decide), if_pos rfl, if_pos (by omega)]
      congr 1
      omega
    · have h4 := zt_lt h2
      refine ⟨8 + d, h2, 0, by decide, ?_⟩
      unfold zbd
      rw [if_pos rfl, if_pos (by omega)]
      congr 1
      omega
  · rintro ⟨c, hc, s, hs, h⟩
    have hc64 := zt_lt hc
    unfold zbd at h
    rcases (show s = 0 ∨ s = 1 ∨ s = 2 ∨ s = 3 by omega) with rfl | rfl | rfl | rfl
    · rw [if_pos rfl] at h
      split at h
      · have e := Option.some.inj h
        exact Or.inr (by rw [show 8 + d = c by omega]; exact hc)
      · cases h
    · rw [if_neg (by decide), if_pos rfl] at h
      split at h
      · have e := Option.some.inj h
        exact Or.inl (Or.inr ⟨hd, by omega, by rw [show d - 8 = c by omega]; exact hc⟩)
      · cases h
    · rw [if_neg (by decide), if_neg (by decide), if_pos rfl] at h
      split at h
      · cases h
      · next h9 =>
        have e := Option.some.inj h
        refine Or.inl (Or.inl (Or.inr ⟨by rw [show 1 + d = c by omega]; exact hc, ?_⟩))
        rw [show 1 + d = c by omega, zM2 c hc64]
        simp [h9]
    · rw [if_neg (by decide), if_neg (by decide), if_neg (by decide)] at h
      split at h
      · cases h
      · next h9 =>
        have e := Option.some.inj h
        refine Or.inl (Or.inl (Or.inl ⟨hd, by omega, by rw [show d - 1 = c by omega]; exact hc, ?_⟩))
        rw [show d - 1 = c by omega, zM1 c hc64]
        simp [h9]
/-- those of the cells that hang together with the least of them -/
theorem p_hangingTogether {x : Int64} {m F : Nat} (hF : 100 ≤ F) (hm : zt x m = true) (hl : ∀ j, j < m → zt x j = false) : ∃ r, fX0_hangingTogether F x = some r ∧ ∀ d, zt r d = true ↔ zt x d = true ∧ zcn (zt x) znb m d := by
  unfold fX0_hangingTogether
  rw [zlet_eq]
  have hm64 := zt_lt hm
  have hlow : ∀ d, zt (x &&& (-x)) d = true ↔ d = m := fun d => by
    rw [zt_low]
    constructor
    · rintro ⟨h1, h2⟩
      rcases Nat.lt_trichotomy d m with h | h | h
      · rw [hl d h] at h1; cases h1
      · exact h
      · rw [h2 m h] at hm; cases hm
    · rintro rfl
      exact ⟨hm, hl⟩
  refine zit_wf (fun P => ∃ t, P.2 = nI t ∧ t ≤ 64 ∧ t < zcount (zt P.1) 64 ∧ zt P.1 m = true ∧ ∀ d, zt P.1 d = true → zt x d = true ∧ zcn (zt x) znb m d) (fun P => 65 - P.2.toNatClampNeg) (fun o => ∃ r, o = some r ∧ ∀ d, zt r d = true ↔ zt x d = true ∧ zcn (zt x) znb m d) ?_ F (x &&& (-x), 0) ⟨0, rfl, by omega, zcount_pos hm64 ((hlow m).mpr rfl), (hlow m).mpr rfl, fun d hd => by rw [(hlow d).mp hd]; exact ⟨hm, zcn_refl⟩⟩ (by show 65 - _ < F; omega)
  rintro kc ⟨y, x4⟩ ⟨t, he, ht, hc, hym, hy⟩
  have he : x4 = nI t := he
  subst he
  have hc : t < zcount (zt y) 64 := hc
  have ht64 : t < 64 := by have := zcount_le (p := zt y) (n := 64); omega
  show (∃ p', _ ∧ _ ∧ bX0_hangingTogether_8 F x kc y (nI t) = kc p') ∨ (∃ r, bX0_hangingTogether_8 F x kc y (nI t) = some r ∧ _)
  unfold bX0_hangingTogether_8
  rw [if_neg (show ¬ (64 : Int32) ≤ nI t by rw [show (64 : Int32) = nI 64 from rfl, zle_nI (by decide) (by omega)]; omega), p_besideOf, Option.bind_some, zlet_eq]
  have hy' : ∀ d, zt ((y ||| zbo y) &&& x) d = true ↔ (zt y d = true ∨ zt (zbo y) d = true) ∧ zt x d = true := fun d => by rw [zt_and, zt_or, Bool.and_eq_true, Bool.or_eq_true]
  by_cases hfix : (y ||| zbo y) &&& x = y
  · right
    rw [if_pos ((zc_eq0 _ _).mpr hfix)]
    refine ⟨y, rfl, fun d => ⟨hy d, fun ⟨h1, h2⟩ => ?_⟩⟩
    refine h2 (fun z => zt y z = true) hym (fun a b ha wa wb hab => ?_)
    rw [← hfix, hy']
    exact ⟨Or.inr ((zbo_iff y (zt_lt wb)).mpr ⟨a, ha, hab⟩), wb⟩
  · left
    rw [if_neg (fun h => hfix ((zc_eq0 _ _).mp h)), nI_1]
    have hsub : ∀ d, zt y d = true → zt ((y ||| zbo y) &&& x) d = true := fun d hd => (hy' d).mpr ⟨Or.inl hd, (hy d hd).1⟩
    obtain ⟨i, hi, h1, h2⟩ : ∃ i, i < 64 ∧ zt y i = false ∧ zt ((y ||| zbo y) &&& x) i = true := by
      rcases Classical.em (∃ i, i < 64 ∧ zt y i = false ∧ zt ((y ||| zbo y) &&& x) i = true) with q | q
      · exact q
      · exact absurd (zt_ext fun i hi => by
          cases e1 : zt y i with
          | true => exact hsub i e1
          | false =>
            cases e2 : zt ((y ||| zbo y) &&& x) i with
            | false => rfl
            | true => exact absurd ⟨i, hi, e1, e2⟩ q) hfix
    refine ⟨((y ||| zbo y) &&& x, nI (t + 1)), ⟨t + 1, rfl, by omega, ?_, hsub m hym, fun d hd => ?_⟩, ?_, rfl⟩
    · have := zcount_lt (fun j _ h => hsub j h) hi h1 h2
      show t + 1 < zcount (zt ((y ||| zbo y) &&& x)) 64
      omega
    · obtain ⟨h3, h4⟩ := (hy' d).mp hd
      refine ⟨h4, ?_⟩
      rcases h3 with h3 | h3
      · exact (hy d h3).2
      · obtain ⟨c, hc1, hc2⟩ := (zbo_iff y (zt_lt h4)).mp h3
        exact zcn_step (hy c hc1).2 (hy c hc1).1 h4 hc2
    · show 65 - (nI (t + 1)).toNatClampNeg < 65 - (nI t).toNatClampNeg
      rw [nI_clamp (by omega), nI_clamp (by omega)]; omega
