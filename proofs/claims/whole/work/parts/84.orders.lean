/-! PURE: both readings of THE TEXT side by side -/
def zpos (t : Nat → Int32) (n : Nat) : Nat → Nat
  | 0 => 0
  | k + 1 => (zor t n (zpos t n k)).2
/-- order j as it stands, and as the reference keeps it -/
def zrec (t : Nat → Int32) (n j : Nat) (L N : Nat → Int32) : Prop := zsk t n (zpos t n j) < n ∧ zpos t n j ≤ n ∧ (zor t n (zpos t n j)).1 = true ∧ L j = t (zsk t n (zpos t n j)) ∧ ∀ y w, zfg (t (zsk t n (zpos t n j))) = some w → y < w → N (5 * j + y) = zdv t n (zsk t n (zpos t n j) + 1) y
theorem zor_sk {t : Nat → Int32} {n i i' : Nat} (h : zsk t n i = zsk t n i') : zor t n i = zor t n i' := by
  unfold zor
  rw [h]
theorem zread_all {s sT : zOS} {n F : Nat} (hF : 1000 ≤ F) (hn : n ≤ 150) (h19 : zF s 19 = nI n) (hT : zF sT 2 = nI n) (ht : ∀ i, i < n → zI sT 1 i = zI s 12 i) (hz : ∀ i, i < n → zin (zI s 12 i) 128 = true) (KC : Nat) : ∀ (d k : Nat) (L N : Nat → Int32) (K i : Nat), n - zpos (zI s 12) n k ≤ d → zpos (zI s 12) n k ≤ n → 2 * k ≤ zpos (zI s 12) n k → (∀ j, j < k → zrec (zI s 12) n j L N) → d < K → i ≤ n → zsk (zI s 12) n i = zsk (zI s 12) n (zpos (zI s 12) n k) →
    (∃ f a o L' N', f ≤ n ∧ zff F sT (KC + (n + 1 - zpos (zI s 12) n k)) (-1) (nI k) (zpos (zI s 12) n k) = some (nI f) ∧ zit (P := zOS) (R := Int32 × zOS) (fun kc9 p9 => bX5_does_31 F kc9 p9) K (zrd s (nI i) (-1) (nI k) L N) = some (-10 - nI f, zrd s a (nI f) o L' N')) ∨
    (∃ m L' N', k ≤ m ∧ m ≤ 75 ∧ zsk (zI s 12) n (zpos (zI s 12) n m) = n ∧ zpos (zI s 12) n m ≤ n ∧ (∀ j, j < m → zrec (zI s 12) n j L' N') ∧ zff F sT (KC + (n + 1 - zpos (zI s 12) n k)) (-1) (nI k) (zpos (zI s 12) n k) = (if m = 0 then some (nI n) else some (-1)) ∧ zit (P := zOS) (R := Int32 × zOS) (fun kc9 p9 => bX5_does_31 F kc9 p9) K (zrd s (nI i) (-1) (nI k) L N) = jX5_does_54 F (zrd s (nI n) (-1) (nI m) L' N'))
  | d, k, L, N, 0, i, _, _, _, _, hK, _, _ => absurd hK (Nat.not_lt_zero _)
  | d, k, L, N, K + 1, i, hd, hp, h2, hrec, hK, hi, his => by
    have hit : zit (P := zOS) (R := Int32 × zOS) (fun kc9 p9 => bX5_does_31 F kc9 p9) (K + 1) (zrd s (nI i) (-1) (nI k) L N) = if zcr (zI s 12) n i = -1 then jX5_does_54 F (zrd s (nI (zsk (zI s 12) n i)) (-1) (nI k) L N) else Option.bind (fX5_readOrder F (zrd s (nI (zsk (zI s 12) n i)) (-1) (nI k) L N)) (fun r_15 : zOS => (zit (P := zOS) (R := Int32 × zOS) (fun kc9 p9 => bX5_does_31 F kc9 p9) K r_15)) := by
      show bX5_does_31 F _ (zrd s (nI i) (-1) (nI k) L N) = _
      unfold bX5_does_31
      rw [show zF (zrd s (nI i) (-1) (nI k) L N) 21 = -1 from rfl, if_pos rfl, q_here hF hn h19 hi, Option.bind_some]
    obtain ⟨h3, h4, h5⟩ := zsk_p (t := zI s 12) hp
    rw [hit]
    rcases Nat.lt_or_ge (zsk (zI s 12) n (zpos (zI s 12) n k)) n with q | q
    · have ec : zcr (zI s 12) n i = zI s 12 (zsk (zI s 12) n (zpos (zI s 12) n k)) := by unfold zcr; rw [his, if_pos q]
      obtain ⟨c, hc, e⟩ := (zin_iff (n := 128) (by decide)).mp (hz _ q)
      have hne : ¬ zcr (zI s 12) n i = -1 := by rw [ec, e]; exact nI_ne1 (by omega)
      rw [if_neg hne, his]
      have hii : zsk (zI s 12) n (zsk (zI s 12) n (zpos (zI s 12) n k)) = zsk (zI s 12) n (zpos (zI s 12) n k) := zsk_i hp
      have hor : zor (zI s 12) n (zsk (zI s 12) n (zpos (zI s 12) n k)) = zor (zI s 12) n (zpos (zI s 12) n k) := zor_sk hii
      obtain ⟨g1, g2⟩ := q_readOrder (L := L) (N := N) (k := k) hF hn h19 hz (by omega) h4 (show zsk (zI s 12) n (zsk (zI s 12) n (zpos (zI s 12) n k)) < n by omega)
      rw [hor, hii] at g1
      rw [hor] at g2
      rw [zff_order hn hT ht KC hp q]
      obtain ⟨o1, o2, o3⟩ := zor_p q hp
      have hd1 : ∃ d', d = d' + 1 := ⟨d - 1, by omega⟩
      obtain ⟨d', rfl⟩ := hd1
      by_cases eo : (zor (zI s 12) n (zpos (zI s 12) n k)).1 = true
      · obtain ⟨L', N', k1, k2, k3, k4, k5⟩ := g1 eo
        rw [k1, Option.bind_some, if_pos eo]
        have hrec' : ∀ j, j < k + 1 → zrec (zI s 12) n j L' N' := fun j hj => by
          by_cases ej : j = k
          · subst ej
            exact ⟨q, hp, eo, k2, fun y w hw hy => k4 y w hw hy⟩
          · obtain ⟨r1, r2, r3, r4, r5⟩ := hrec j (by omega)
            refine ⟨r1, r2, r3, by rw [k3 j (by omega)]; exact r4, fun y w hw hy => ?_⟩
            have := zfg_le hw
            rw [k5 _ (by omega)]
            exact r5 y w hw hy
        have := o3 eo
        have ih := zread_all hF hn h19 hT ht hz KC d' (k + 1) L' N' K (zor (zI s 12) n (zpos (zI s 12) n k)).2 (by show n - (zor (zI s 12) n (zpos (zI s 12) n k)).2 ≤ d'; omega) o2 (by show 2 * (k + 1) ≤ (zor (zI s 12) n (zpos (zI s 12) n k)).2; omega) hrec' (by omega) o2 rfl
        rcases ih with ih | ⟨m, L2, N2, m1, m2⟩
        · exact Or.inl ih
        · exact Or.inr ⟨m, L2, N2, by omega, m2⟩
      · left
        obtain ⟨a, o, L', N', k1⟩ := g2 eo
        rw [k1, Option.bind_some, if_neg eo]
        refine ⟨_, a, o, L', N', o2, rfl, ?_⟩
        cases K with
        | zero => omega
        | succ K =>
          show bX5_does_31 F _ (zrd s a _ o L' N') = _
          unfold bX5_does_31 jX5_does_54
          rw [show ∀ x, zF (zrd s a x o L' N') 21 = x from fun _ => rfl, if_neg (show ¬ nI (zor (zI s 12) n (zpos (zI s 12) n k)).2 = (-1 : Int32) from nI_ne1 (by omega)), if_neg (show ¬ nI (zor (zI s 12) n (zpos (zI s 12) n k)).2 = (-1 : Int32) from nI_ne1 (by omega))]
    · right
      have e : zsk (zI s 12) n (zpos (zI s 12) n k) = n := by omega
      rw [if_pos (show zcr (zI s 12) n i = -1 from if_neg (by omega)), his, e, zff_skip hn hT ht KC _ _ (Nat.le_refl _) hp, e, show KC + (n + 1 - n) = KC + 1 by omega, zff_end hn hT, if_pos rfl]
      refine ⟨k, L, N, Nat.le_refl _, by omega, e, hp, hrec, ?_, rfl⟩
      cases k with
      | zero => rw [if_pos (show nI 0 ≤ 0 by decide), if_pos rfl]
      | succ k => rw [if_neg (show ¬ nI (k + 1) ≤ 0 from zlt_no (n := k + 1) (i := 0) (by omega) (by omega)), if_neg (by omega)]
/-! the class's performing -/
def zpf (F : Nat) (K : Nat) (x g l : Int32) (i : Nat) (sT sP : zOS) : Option (Int32 × zOS × zOS) := zit (P := Int32 × Int32 × Int32 × Int32 × zOS × zOS) (R := Int32 × zOS × zOS) (fun kc9 p9 => bX3_perform_11 F kc9 p9.1 p9.2.1 p9.2.2.1 p9.2.2.2.1 p9.2.2.2.2.1 p9.2.2.2.2.2) K (x, g, l, nI i, sT, sP)
theorem zpf_1 {F K i : Nat} {x g l : Int32} {sT sP : zOS} : zpf F (K + 1) x g l i sT sP = bX3_perform_11 F (fun p => zit (P := Int32 × Int32 × Int32 × Int32 × zOS × zOS) (R := Int32 × zOS × zOS) (fun kc9 p9 => bX3_perform_11 F kc9 p9.1 p9.2.1 p9.2.2.1 p9.2.2.2.1 p9.2.2.2.2.1 p9.2.2.2.2.2) K p) x g l (nI i) sT sP := rfl
theorem zfg_ch {c : Int32} {w : Nat} (h : zfg c = some w) : ¬ c = 59 ∧ ¬ c < 48 ∧ 57 < c ∧ ¬ c = 32 := by
  unfold zfg at h
  split at h
  · next e => rw [e]; decide
  · split at h
    · next e => rw [e]; decide
    · split at h
      · next e => rw [e]; decide
      · split at h
        · next e => rw [e]; decide
        · split at h
          · next e => rw [e]; decide
          · cases h
section ZP
variable {F n : Nat} {sT sP : zOS} {t : Nat → Int32} {x g l : Int32}
theorem zpf_end {K : Nat} (hn : n ≤ 150) (hT : zF sT 2 = nI n) : zpf F (K + 1) x g l n sT sP = some (x, sT, sP) := by
  rw [zpf_1]
  unfold bX3_perform_11
  rw [hT, if_pos (zle_ok (Nat.le_refl n) (by omega))]
theorem bpf_at {i : Nat} (kc : (Int32 × Int32 × Int32 × Int32 × zOS × zOS) → Option (Int32 × zOS × zOS)) (hn : n ≤ 150) (hT : zF sT 2 = nI n) (hi : i < n) : bX3_perform_11 F kc x g l (nI i) sT sP = (if zI sT 1 i = (59 : Int32) then (Option.bind (fX3_performOne F l sT sP) (fun r_2 : Int32 × zOS => (if 0 ≤ r_2.1 then kc (x + 1, g, l, nI (i + 1), sT, r_2.2) else (some ((-1000 : Int32) - x, sT, r_2.2))))) else (if zI sT 1 i < (48 : Int32) then (if zI sT 1 i = 32 then kc (x, g, l, nI (i + 1), sT, sP) else kc (x, 0, zI sT 1 i, nI (i + 1), sT, sP)) else (if (57 : Int32) < zI sT 1 i then (if zI sT 1 i = 32 then kc (x, g, l, nI (i + 1), sT, sP) else kc (x, 0, zI sT 1 i, nI (i + 1), sT, sP)) else (if (5 : Int32) ≤ g then (if zI sT 1 i = 32 then kc (x, g, l, nI (i + 1), sT, sP) else kc (x, 0, zI sT 1 i, nI (i + 1), sT, sP)) else (zchk g 5 (kc (x, g + 1, l, nI (i + 1), zsI sT 2 (upd (zI sT 2) g.toNatClampNeg (zI sT 1 i - 48)), sP))))))) := by
  unfold bX3_perform_11 jX3_perform_94
  rw [hT, if_neg (zlt_no hi (by omega)), zchk_nI (show i < 150 by omega) (by decide), zlet_eq, nI_clamp (show i < 2 ^ 31 by omega), nI_1]
  rfl
theorem zpf_at {K i : Nat} (hn : n ≤ 150) (hT : zF sT 2 = nI n) (hi : i < n) : zpf F (K + 1) x g l i sT sP = (if zI sT 1 i = (59 : Int32) then (Option.bind (fX3_performOne F l sT sP) (fun r_2 : Int32 × zOS => (if 0 ≤ r_2.1 then zpf F K (x + 1) g l (i + 1) sT r_2.2 else (some ((-1000 : Int32) - x, sT, r_2.2))))) else (if zI sT 1 i < (48 : Int32) then (if zI sT 1 i = 32 then zpf F K x g l (i + 1) sT sP else zpf F K x 0 (zI sT 1 i) (i + 1) sT sP) else (if (57 : Int32) < zI sT 1 i then (if zI sT 1 i = 32 then zpf F K x g l (i + 1) sT sP else zpf F K x 0 (zI sT 1 i) (i + 1) sT sP) else (if (5 : Int32) ≤ g then (if zI sT 1 i = 32 then zpf F K x g l (i + 1) sT sP else zpf F K x 0 (zI sT 1 i) (i + 1) sT sP) else (zchk g 5 (zpf F K x (g + 1) l (i + 1) (zsI sT 2 (upd (zI sT 2) g.toNatClampNeg (zI sT 1 i - 48))) sP)))))) := zpf_1.trans (bpf_at _ hn hT hi)
theorem zpf_skip (hn : n ≤ 150) (hT : zF sT 2 = nI n) (ht : ∀ i, i < n → zI sT 1 i = t i) (K : Nat) : ∀ d i, n - i ≤ d → i ≤ n → zpf F (K + (n + 1 - i)) x g l i sT sP = zpf F (K + (n + 1 - zsk t n i)) x g l (zsk t n i) sT sP
  | 0, i, hd, hi => by rw [show i = n by omega, zsk_n]
  | d + 1, i, hd, hi => by
    rcases Nat.lt_or_ge i n with q | q
    · by_cases hb : t i = 32
      · rw [show K + (n + 1 - i) = K + (n + 1 - (i + 1)) + 1 by omega, zpf_at hn hT q, ht i q, hb, if_neg (by decide), if_pos (by decide), if_pos rfl, zsk_b q hb]
        exact zpf_skip hn hT ht K d (i + 1) (by omega) (by omega)
      · rw [zsk_c q hb]
    · rw [show i = n by omega, zsk_n]
theorem zpf_letter {K i w : Nat} (hn : n ≤ 150) (hT : zF sT 2 = nI n) (hi : i < n) (hc : zfg (zI sT 1 i) = some w) : zpf F (K + 1) x g l i sT sP = zpf F K x 0 (zI sT 1 i) (i + 1) sT sP := by
  obtain ⟨h1, h2, h3, h4⟩ := zfg_ch hc
  rw [zpf_at hn hT hi, if_neg h1, if_neg h2, if_pos h3, if_neg h4]
theorem zpf_digit {K i y : Nat} (hn : n ≤ 150) (hT : zF sT 2 = nI n) (hi : i < n) (hy : y < 5) (hc : zdig (zI sT 1 i) = true) : zpf F (K + 1) x (nI y) l i sT sP = zpf F K x (nI (y + 1)) l (i + 1) (zsI sT 2 (upd (zI sT 2) y (zI sT 1 i - 48))) sP := by
  unfold zdig at hc
  rw [Bool.and_eq_true, decide_eq_true_iff, decide_eq_true_iff] at hc
  rw [zpf_at hn hT hi, if_neg (show ¬ zI sT 1 i = 59 from fun h => by rw [h] at hc; exact absurd hc.2 (by decide)), if_neg (Int32.not_lt.mpr hc.1), if_neg (Int32.not_lt.mpr hc.2), if_neg (show ¬ (5 : Int32) ≤ nI y from zlt_no (n := 5) hy (by decide)), zchk_nI hy (by decide), nI_clamp (show y < 2 ^ 31 by omega), nI_1]
theorem zpf_digits (hn : n ≤ 150) (hT : zF sT 2 = nI n) (ht : ∀ i, i < n → zI sT 1 i = t i) (K : Nat) : ∀ (r y i : Nat) (fig : Nat → Int32), y + r ≤ 5 → i ≤ n → (zdgs t n r i).1 = true → ∃ fig', zpf F (K + (n + 1 - i)) x (nI y) l i (zsI sT 2 fig) sP = zpf F (K + (n + 1 - (zdgs t n r i).2)) x (nI (y + r)) l (zdgs t n r i).2 (zsI sT 2 fig') sP ∧ (∀ z, z < r → fig' (y + z) = zdv t n i z) ∧ ∀ z, z < y → fig' z = fig z
  | 0, y, i, fig, _, _, _ => ⟨fig, rfl, fun z hz => by omega, fun _ _ => rfl⟩
  | r + 1, y, i, fig, hy, hi, hd => by
    obtain ⟨h1, h2, h3⟩ := zsk_p (t := t) hi
    by_cases e : zsk t n i < n ∧ zdig (t (zsk t n i)) = true
    · rw [show zdgs t n (r + 1) i = zdgs t n r (zsk t n i + 1) from if_pos e] at hd ⊢
      obtain ⟨fig', k1, k2, k3⟩ := zpf_digits hn hT ht K r (y + 1) (zsk t n i + 1) (upd fig y (t (zsk t n i) - 48)) (by omega) (by omega) hd
      refine ⟨fig', ?_, fun z hz => ?_, fun z hz => by rw [k3 z (by omega), zud_n _ _ (by omega)]⟩
      · rw [zpf_skip (sT := zsI sT 2 fig) hn hT ht K _ i (Nat.le_refl _) hi, show K + (n + 1 - zsk t n i) = K + (n + 1 - (zsk t n i + 1)) + 1 by omega, zpf_digit (sT := zsI sT 2 fig) hn hT e.1 (by omega) (by rw [show zI (zsI sT 2 fig) 1 = zI sT 1 from rfl, ht _ e.1]; exact e.2), show zI (zsI sT 2 fig) 1 = zI sT 1 from rfl, ht _ e.1, show zI (zsI sT 2 fig) 2 = fig from rfl, zsI_I, k1, show y + 1 + r = y + (r + 1) by omega]
      · cases z with
        | zero =>
          rw [Nat.add_zero, k3 y (by omega)]
          exact zud_s _ _ _
        | succ z =>
          have := k2 z (by omega)
          rw [show y + 1 + z = y + (z + 1) by omega] at this
          exact this
    · rw [show zdgs t n (r + 1) i = (false, zsk t n i) from if_neg e] at hd
      cases hd
theorem zpf_order (hn : n ≤ 150) (hT : zF sT 2 = nI n) (ht : ∀ i, i < n → zI sT 1 i = t i) (K : Nat) {i : Nat} {fig : Nat → Int32} (hi : i ≤ n) (hs : zsk t n i < n) (ho : (zor t n i).1 = true) : ∃ w fig' g', zfg (t (zsk t n i)) = some w ∧ (∀ y, y < w → fig' y = zdv t n (zsk t n i + 1) y) ∧
    zpf F (K + (n + 1 - i)) x g l i (zsI sT 2 fig) sP = Option.bind (fX3_performOne F (t (zsk t n i)) (zsI sT 2 fig') sP) (fun r_2 : Int32 × zOS => (if 0 ≤ r_2.1 then zpf F (K + (n + 1 - (zor t n i).2)) (x + 1) g' (t (zsk t n i)) (zor t n i).2 (zsI sT 2 fig') r_2.2 else (some ((-1000 : Int32) - x, zsI sT 2 fig', r_2.2)))) := by
  obtain ⟨h1, h2, h3⟩ := zsk_p (t := t) hi
  cases e : zfg (t (zsk t n i)) with
  | none => rw [zor_0 e] at ho; cases ho
  | some w =>
    have hw := zfg_le e
    rw [zor_s e] at ho ⊢
    by_cases e1 : (zdgs t n w (zsk t n i + 1)).1 = true
    · rw [if_pos e1] at ho ⊢
      obtain ⟨b1, b2⟩ := zdg_p (t := t) (w := w) (show zsk t n i + 1 ≤ n by omega)
      obtain ⟨c1, c2, c3⟩ := zsk_p (t := t) b2
      obtain ⟨fig', k1, k2, k3⟩ := zpf_digits (F := F) (sP := sP) (x := x) (l := t (zsk t n i)) hn hT ht K w 0 (zsk t n i + 1) fig (by omega) (by omega) e1
      generalize zdgs t n w (zsk t n i + 1) = z at *
      by_cases q : zsk t n z.2 < n ∧ t (zsk t n z.2) = 59
      · rw [if_pos q]
        refine ⟨w, fig', nI (0 + w), rfl, fun y hy => by have := k2 y hy; rw [Nat.zero_add] at this; exact this, ?_⟩
        rw [zpf_skip (sT := zsI sT 2 fig) hn hT ht K _ i (Nat.le_refl _) hi, show K + (n + 1 - zsk t n i) = K + (n + 1 - (zsk t n i + 1)) + 1 by omega, zpf_letter (sT := zsI sT 2 fig) (w := w) hn hT hs (by rw [show zI (zsI sT 2 fig) 1 = zI sT 1 from rfl, ht _ hs]; exact e), show zI (zsI sT 2 fig) 1 = zI sT 1 from rfl, ht _ hs, show (0 : Int32) = nI 0 from rfl, k1]
        rw [zpf_skip (sT := zsI sT 2 fig') hn hT ht K _ z.2 (Nat.le_refl _) b2, show K + (n + 1 - zsk t n z.2) = K + (n + 1 - (zsk t n z.2 + 1)) + 1 by omega, zpf_at (sT := zsI sT 2 fig') hn hT q.1, show zI (zsI sT 2 fig') 1 = zI sT 1 from rfl, ht _ q.1, if_pos q.2]
        rfl
      · rw [if_neg q] at ho; cases ho
    · rw [if_neg e1] at ho; cases ho
end ZP
