/-! PURE: the reference's matches, counted, and the first of them -/
theorem nI_sub {a b : Nat} (h : b ≤ a) : nI a - nI b = nI (a - b) := by
  obtain ⟨c, rfl⟩ := Nat.exists_eq_add_of_le h
  rw [Nat.add_sub_cancel_left, Nat.add_comm b c, ← nI_add, Int32.add_sub_cancel]
theorem zkey_c {dv : Nat → Nat → Nat} {V : Nat → Nat → Int32} {S0 : Nat × Int32 → Prop} {D : Nat} {x : List Nat × List Nat} {B B' : Nat → Int32} (hl : x.1.length = D) (hw : zwf (zSt dv V S0 x.1 x.2)) (h : zkey dv V S0 D x B) (he : ∀ k, k < D + 10 → B' k = B k) : zkey dv V S0 D x B' :=
  ⟨fun k g hg => by rw [he k (by have := zgtl hg; omega)]; exact h.1 k g hg, ztel_c h.2 hw (fun n hn => he (D + n) (by omega))⟩
/-- of the matches Q the first is B -/
def zrs (dv : Nat → Nat → Nat) (V : Nat → Nat → Int32) (S0 : Nat × Int32 → Prop) (D : Nat) (Q : List (List Nat × List Nat)) (B : Nat → Int32) : Prop := (¬ Q = [] → zmin dv V S0 D Q B) ∧ ∀ x, x ∈ Q → x.1.length = D
theorem zrs_add {dv : Nat → Nat → Nat} {V : Nat → Nat → Int32} {S0 : Nat × Int32 → Prop} {D : Nat} {Q : List (List Nat × List Nat)} {B Kx B' : Nat → Int32} {x : List Nat × List Nat} (h : zrs dv V S0 D Q B) (hl : x.1.length = D) (hw : zwf (zSt dv V S0 x.1 x.2)) (hk : zkey dv V S0 D x Kx) (f : Bool) (hf : ¬ Q = [] → (f = true ↔ zltK (D + 10) Kx B)) (hf0 : Q = [] → f = true) (h1 : f = true → ∀ k, k < D + 10 → B' k = Kx k) (h2 : f = false → B' = B) : zrs dv V S0 D (Q ++ [x]) B' := by
  refine ⟨fun _ => ?_, fun y hy => ?_⟩
  · by_cases e : Q = []
    · rw [e]
      exact zmin_one dv V S0 hl (zkey_c hl hw hk (h1 (hf0 e)))
    · cases ef : f with
      | false =>
        rw [h2 ef]
        refine zmin_ge dv V S0 hl (h.1 e) hk (fun q => ?_)
        have := (hf e).mpr q
        rw [ef] at this; cases this
      | true =>
        refine zmin_lt dv V S0 hl (h.1 e) (zkey_c hl hw hk (h1 ef)) ?_
        exact zltK_congr (fun k hk => (h1 ef k hk).symm) (fun _ _ => rfl) ((hf e).mp ef)
  · rcases List.mem_append.mp hy with q | q
    · exact h.2 y q
    · rw [List.mem_singleton.mp q]; exact hl
section ZE
variable {s : zOS} {D G : Nat} {S0 : Nat × Int32 → Prop} {B C T : Nat → Int32} {F : Nat}
def zKx (D : Nat) (C T : Nat → Int32) (k : Nat) : Int32 := if k < D then C k / 2 else T (10 * D + k - D)
theorem q_found123 {w : Nat} {f : Bool} (hF : 1000 ≤ F) (hD : D ≤ 6) : ∃ B', jX5_found_123 F (nI D) (zb f) (zms s B C T (nI w)) = some (zms s B' C T (nI (w + 1))) ∧ (f = true → ∀ k, k < D + 10 → B' k = zKx D C T k) ∧ (f = false → B' = B) := by
  unfold jX5_found_123
  cases f with
  | false =>
    refine ⟨B, ?_, fun h => (by cases h), fun _ => rfl⟩
    obtain ⟨K, rfl⟩ : ∃ K, F = K + 1 := ⟨F - 1, by omega⟩
    show bX5_found_126 (K + 1) (nI D) (zb false) _ (0 : Int32) (zms s B C T (nI w)) = _
    unfold bX5_found_126 jX5_found_184
    rw [show zF (zms s B C T (nI w)) 14 = nI w from rfl, zlet_eq, nI_1, zms_14, if_pos (show zb false = 0 from rfl), ite_self]
  | true =>
    obtain ⟨F', p', ⟨B', rfl, h1⟩, -, e⟩ := zfor (B := fun kc9 (p9 : Int32 × zOS) => bX5_found_126 F (nI D) (zb true) kc9 p9.1 p9.2) (fun i p => ∃ B', p = (nI i, zms s B' C T (nI w)) ∧ ∀ k, k < i → B' k = zKx D C T k) (D + 10) (by
      rintro kc i p hi ⟨B', rfl, h1⟩
      refine ⟨(nI (i + 1), zms s (upd B' i (zKx D C T i)) C T (nI w)), ⟨_, rfl, fun k hk => ?_⟩, ?_⟩
      · by_cases e : k = i
        · subst e; exact zud_s _ _ _
        · rw [zud_n _ _ e]; exact h1 k (by omega)
      · show bX5_found_126 F (nI D) (zb true) kc (nI i) (zms s B' C T (nI w)) = _
        unfold bX5_found_126 jX5_found_177
        rw [show nI D + (10 : Int32) = nI (D + 10) from nI_add D 10, if_neg (zlt_no hi (by omega)), if_neg (show ¬ zb true = 0 by decide), zchk_nI (show i < 16 by omega) (by decide), zchk_nI (show i < 16 by omega) (by decide), zlet_eq, zlet_eq, nI_clamp (show i < 2 ^ 31 by omega), nI_1, show zI (zms s B' C T (nI w)) 9 = B' from rfl, zms_9, zms_9, zmu (m := (10 : Int32)) (c := 10) rfl]
        unfold zKx
        by_cases hd : D ≤ i
        · rw [if_pos (zle_ok hd (by omega)), nI_sub (show D ≤ 10 * D + i by omega), zchk_nI (show 10 * D + i - D < 70 by omega) (by decide), nI_clamp (show 10 * D + i - D < 2 ^ 31 by omega), if_neg (show ¬ i < D by omega)]
          rfl
        · rw [if_neg (zlt_no (show i < D by omega) (by omega)), zchk_nI (show i < 7 by omega) (by decide), zdvk_ok (show ¬ (2 : Int32) = 0 by decide), if_pos (show i < D by omega)]
          rfl) (F := F) (p := ((0 : Int32), zms s B C T (nI w))) ⟨B, rfl, fun k hk => by omega⟩ (by omega)
    refine ⟨B', e.trans ?_, fun _ => h1, fun h => (by cases h)⟩
    show bX5_found_126 F (nI D) (zb true) _ (nI (D + 10)) (zms s B' C T (nI w)) = _
    unfold bX5_found_126 jX5_found_184
    rw [show nI D + (10 : Int32) = nI (D + 10) from nI_add D 10, if_pos (zle_ok (Nat.le_refl _) (by omega)), show zF (zms s B' C T (nI w)) 14 = nI w from rfl, zlet_eq, nI_1, zms_14]
theorem q_found34 {w : Nat} (hF : 1000 ≤ F) (hD : D ≤ 6) : ∃ f, jX5_found_30 F (nI D) (0 : Int32) (1 : Int32) (zms s B C T (nI w)) = jX5_found_123 F (nI D) (zb f) (zms s B C T (nI w)) ∧ (f = true ↔ zltK (D + 10) (zKx D C T) B) := by
  unfold jX5_found_30
  refine zit_wf (fun p => ∃ f g k, p = (zb f, zb g, nI k) ∧ k ≤ D + 10 ∧ (g = true → f = false ∧ ∀ j, j < k → zKx D C T j = B j) ∧ (g = false → (f = true ↔ zltK (D + 10) (zKx D C T) B))) (fun p => 20 - p.2.2.toNatClampNeg) (fun o => ∃ f, o = jX5_found_123 F (nI D) (zb f) (zms s B C T (nI w)) ∧ (f = true ↔ zltK (D + 10) (zKx D C T) B)) ?_ F ((0 : Int32), (1 : Int32), (0 : Int32)) ⟨false, true, 0, rfl, by omega, fun _ => ⟨rfl, fun j hj => by omega⟩, fun h => (by cases h)⟩ (by show 20 - _ < F; omega)
  rintro kc p ⟨f, g, k, rfl, hk, hg1, hg0⟩
  show (∃ p', _ ∧ _ ∧ bX5_found_34 F (nI D) (zms s B C T (nI w)) kc (zb f) (zb g) (nI k) = kc p') ∨ (∃ f', bX5_found_34 F (nI D) (zms s B C T (nI w)) kc (zb f) (zb g) (nI k) = _ ∧ _)
  unfold bX5_found_34
  rw [show nI D + (10 : Int32) = nI (D + 10) from nI_add D 10, zif_b]
  by_cases hkD : k = D + 10
  · right
    rw [if_pos (zle_ok (by omega) (by omega))]
    refine ⟨f, rfl, ?_⟩
    cases g with
    | false => exact hg0 rfl
    | true =>
      obtain ⟨h1, h2⟩ := hg1 rfl
      rw [h1]
      refine ⟨fun h => (by cases h), fun h => ?_⟩
      obtain ⟨j, hj, hlt, -⟩ := h
      rw [h2 j (by omega)] at hlt
      exact absurd hlt Int32.lt_irrefl
  · rw [if_neg (zlt_no (show k < D + 10 by omega) (by omega))]
    cases g with
    | false =>
      right
      exact ⟨f, rfl, hg0 rfl⟩
    | true =>
      left
      obtain ⟨h1, h2⟩ := hg1 rfl
      rw [if_pos rfl]
      have h79 : (if nI D ≤ nI k then (zchk ((((10 : Int32) * nI D) + nI k) - nI D) 70 (jX5_found_79 F kc (nI k) (zI (zms s B C T (nI w)) 11 ((((10 : Int32) * nI D) + nI k) - nI D).toNatClampNeg) (zms s B C T (nI w)))) else (zchk (nI k) 7 (zdvk (2 : Int32) (jX5_found_79 F kc (nI k) ((zI (zms s B C T (nI w)) 10 (nI k).toNatClampNeg) / (2 : Int32)) (zms s B C T (nI w)))))) = jX5_found_79 F kc (nI k) (zKx D C T k) (zms s B C T (nI w)) := by
        unfold zKx
        rw [zmu (m := (10 : Int32)) (c := 10) rfl]
        by_cases hd : D ≤ k
        · rw [if_pos (zle_ok hd (by omega)), nI_sub (show D ≤ 10 * D + k by omega), zchk_nI (show 10 * D + k - D < 70 by omega) (by decide), nI_clamp (show 10 * D + k - D < 2 ^ 31 by omega), if_neg (show ¬ k < D by omega)]
          rfl
        · rw [if_neg (zlt_no (show k < D by omega) (by omega)), zchk_nI (show k < 7 by omega) (by decide), zdvk_ok (show ¬ (2 : Int32) = 0 by decide), if_pos (show k < D by omega), nI_clamp (show k < 2 ^ 31 by omega)]
          rfl
      rw [h79]
      unfold jX5_found_79 jX5_found_98
      rw [zchk_nI (show k < 16 by omega) (by decide), zchk_nI (show k < 16 by omega) (by decide), zchk_nI (show k < 16 by omega) (by decide), nI_clamp (show k < 2 ^ 31 by omega), show zI (zms s B C T (nI w)) 9 = B from rfl, nI_1]
      have mu : 20 - (nI (k + 1)).toNatClampNeg < 20 - k := by rw [nI_clamp (by omega)]; omega
      by_cases e : zKx D C T k = B k
      · rw [if_pos (by rw [e]; exact Int32.le_refl _), if_pos e]
        refine ⟨(0, 1, nI (k + 1)), ⟨false, true, k + 1, rfl, by omega, fun _ => ⟨rfl, fun j hj => ?_⟩, fun h => (by cases h)⟩, mu, rfl⟩
        by_cases ej : j = k
        · rw [ej]; exact e
        · exact h2 j (by omega)
      · rw [if_neg e, if_neg e]
        by_cases hle : B k ≤ zKx D C T k
        · rw [if_pos hle]
          refine ⟨(0, 0, nI (k + 1)), ⟨false, false, k + 1, rfl, by omega, fun h => (by cases h), fun _ => ⟨fun h => (by cases h), fun h => ?_⟩⟩, mu, rfl⟩
          obtain ⟨j, hj, hlt, hjj⟩ := h
          rcases Nat.lt_trichotomy j k with q | q | q
          · rw [h2 j q] at hlt; exact absurd hlt Int32.lt_irrefl
          · rw [q] at hlt; exact absurd hle (Int32.not_le.mpr hlt)
          · exact absurd (hjj k q) e
        · rw [if_neg hle]
          exact ⟨(1, 0, nI (k + 1)), ⟨true, false, k + 1, rfl, by omega, fun h => (by cases h), fun _ => ⟨fun _ => ⟨k, by omega, Int32.not_le.mp hle, h2⟩, fun _ => rfl⟩⟩, mu, rfl⟩
theorem q_found {w : Nat} {gs ts : List Nat} {Q : List (List Nat × List Nat)} (hF : 1000 ≤ F) (hx : zcx s D G S0) (hw : w < 2 ^ 30) (hl : gs.length = D) (hp : zpx G (zdvc (zI s 1)) (zVs s) S0 gs ts) (hC : ∀ (k g t : Nat), gs[k]? = some g → ts[k]? = some t → C k = nI (2 * g + t)) (hT : ztel (fun m => T (10 * D + m)) (zSt (zdvc (zI s 1)) (zVs s) S0 gs ts)) (hQ : w = Q.length) (hr : zrs (zdvc (zI s 1)) (zVs s) S0 D Q B) :
    ∃ B', fX5_found F (zms s B C T (nI w)) = some (zms s B' C T (nI (w + 1))) ∧ zrs (zdvc (zI s 1)) (zVs s) S0 D (Q ++ [(gs, ts)]) B' := by
  obtain ⟨x1, x2, x3, x4, x5, x6, x7, x8⟩ := id hx
  have hkey : zkey (zdvc (zI s 1)) (zVs s) S0 D (gs, ts) (zKx D C T) := by
    refine ⟨fun k g hg => ?_, ?_⟩
    · have hg : gs[k]? = some g := hg
      have hk := zgtl hg
      obtain ⟨t, ht⟩ := zgsome (l := ts) (i := k) (by have := hp.1; omega)
      have ht2 := (hp.2.2.2.1 k g t hg ht).1
      have hgG := hp.2.1 g (List.mem_of_getElem? hg)
      unfold zKx
      rw [if_pos (by omega), hC k g t hg ht, nI_2 (by omega), show (2 * g + t) / 2 = g by omega]
    · have e : (fun n => zKx D C T (D + n)) = fun m => T (10 * D + m) := funext fun n => by
        unfold zKx
        rw [if_neg (by omega), show 10 * D + (D + n) - D = 10 * D + n by omega]
      rw [e]; exact hT
  have hwf := zpx_wf hx hp (by omega)
  unfold fX5_found jX5_found_20
  rw [zck (j := (8 : Int32)) (n := 46) 8 rfl (by decide) (by decide), zlet_eq, show zI (zms s B C T (nI w)) 1 (8 : Int32).toNatClampNeg = nI D from x3, show zF (zms s B C T (nI w)) 14 = nI w from rfl, if_neg (show ¬ (1 : Int32) = 0 by decide), if_pos (show (0 : Int32) = 0 from rfl)]
  by_cases h0 : w = 0
  · rw [if_pos (show nI w = 0 by rw [h0]; rfl)]
    obtain ⟨B', b1, b2, b3⟩ := q_found123 (s := s) (B := B) (C := C) (T := T) (w := w) (f := true) hF x1
    have e30 : jX5_found_30 F (nI D) (1 : Int32) (0 : Int32) (zms s B C T (nI w)) = jX5_found_123 F (nI D) (zb true) (zms s B C T (nI w)) := by
      unfold jX5_found_30
      obtain ⟨K, rfl⟩ : ∃ K, F = K + 1 := ⟨F - 1, by omega⟩
      show bX5_found_34 (K + 1) (nI D) (zms s B C T (nI w)) _ (1 : Int32) (0 : Int32) (0 : Int32) = _
      unfold bX5_found_34
      rw [if_pos (show (0 : Int32) = 0 from rfl), ite_self]
      rfl
    rw [e30, b1]
    have hQ0 : Q = [] := List.length_eq_zero_iff.mp (by omega)
    exact ⟨B', rfl, zrs_add hr hl hwf hkey true (fun h => absurd hQ0 h) (fun _ => rfl) b2 b3⟩
  · rw [if_neg (show ¬ nI w = 0 from fun q => h0 ((nI_eq (a := w) (b := 0) (by omega) (by omega)).mp q))]
    obtain ⟨f, f1, f2⟩ := q_found34 (s := s) (B := B) (C := C) (T := T) (w := w) hF x1
    obtain ⟨B', b1, b2, b3⟩ := q_found123 (s := s) (B := B) (C := C) (T := T) (w := w) (f := f) hF x1
    rw [f1, b1]
    have hQ0 : ¬ Q = [] := fun q => h0 (by rw [hQ, q]; rfl)
    exact ⟨B', rfl, zrs_add hr hl hwf hkey f (fun _ => f2) (fun h => absurd h hQ0) b2 b3⟩
end ZE
