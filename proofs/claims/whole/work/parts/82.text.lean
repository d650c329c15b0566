/-! PURE: THE TEXT, read as orders; the class's reading -/
def zfg (c : Int32) : Option Nat := if c = 100 then some 5 else if c = 102 then some 0 else if c = 109 then some 3 else if c = 112 then some 3 else if c = 114 then some 5 else none
theorem p_figuresOf (c : Int32) : fX3_figuresOf c = some (zenc (zfg c)) := by
  unfold fX3_figuresOf zfg
  by_cases h1 : c = 100
  · rw [if_pos h1, if_pos h1]; rfl
  · rw [if_neg h1, if_neg h1]
    by_cases h2 : c = 102
    · rw [if_pos h2, if_pos h2]; rfl
    · rw [if_neg h2, if_neg h2]
      by_cases h3 : c = 109
      · rw [if_pos h3, if_pos h3]; rfl
      · rw [if_neg h3, if_neg h3]
        by_cases h4 : c = 112
        · rw [if_pos h4, if_pos h4]; rfl
        · rw [if_neg h4, if_neg h4]
          by_cases h5 : c = 114
          · rw [if_pos h5, if_pos h5]; rfl
          · rw [if_neg h5, if_neg h5]; rfl
theorem q_numbersOf (c : Int32) : fX5_numbersOf c = some (zenc (zfg c)) := p_figuresOf c
theorem zfg_le {c : Int32} {w : Nat} (h : zfg c = some w) : w ≤ 5 := by
  unfold zfg at h
  split at h
  · cases h; omega
  · split at h
    · cases h; omega
    · split at h
      · cases h; omega
      · split at h
        · cases h; omega
        · split at h
          · cases h; omega
          · cases h
def zdig (c : Int32) : Bool := decide (48 ≤ c) && decide (c ≤ 57)
/-- the first place from i on that is no blank -/
def zskp (t : Nat → Int32) : Nat → Nat → Nat
  | 0, i => i
  | d + 1, i => if t i = 32 then zskp t d (i + 1) else i
def zsk (t : Nat → Int32) (n i : Nat) : Nat := zskp t (n - i) i
theorem zskp_b (t : Nat → Int32) : ∀ d i, i ≤ zskp t d i ∧ zskp t d i ≤ i + d ∧ (zskp t d i < i + d → ¬ t (zskp t d i) = 32)
  | 0, i => ⟨Nat.le_refl _, Nat.le_refl _, fun h => by have : zskp t 0 i = i := rfl; omega⟩
  | d + 1, i => by
    by_cases h : t i = 32
    · rw [show zskp t (d + 1) i = zskp t d (i + 1) from if_pos h]
      obtain ⟨h1, h2, h3⟩ := zskp_b t d (i + 1)
      exact ⟨by omega, by omega, fun q => h3 (by omega)⟩
    · rw [show zskp t (d + 1) i = i from if_neg h]
      exact ⟨by omega, by omega, fun _ => h⟩
theorem zsk_n {t : Nat → Int32} {n : Nat} : zsk t n n = n := by unfold zsk; rw [Nat.sub_self]; rfl
theorem zsk_b {t : Nat → Int32} {n i : Nat} (h : i < n) (hb : t i = 32) : zsk t n i = zsk t n (i + 1) := by
  unfold zsk
  rw [show n - i = (n - (i + 1)) + 1 by omega]
  exact if_pos hb
theorem zsk_c {t : Nat → Int32} {n i : Nat} (h : i < n) (hb : ¬ t i = 32) : zsk t n i = i := by
  unfold zsk
  rw [show n - i = (n - (i + 1)) + 1 by omega]
  exact if_neg hb
theorem zsk_p {t : Nat → Int32} {n i : Nat} (h : i ≤ n) : i ≤ zsk t n i ∧ zsk t n i ≤ n ∧ (zsk t n i < n → ¬ t (zsk t n i) = 32) := by
  obtain ⟨h1, h2, h3⟩ := zskp_b t (n - i) i
  exact ⟨h1, by unfold zsk; omega, fun q => h3 (by unfold zsk at q; omega)⟩
theorem zsk_i {t : Nat → Int32} {n i : Nat} (h : i ≤ n) : zsk t n (zsk t n i) = zsk t n i := by
  obtain ⟨h1, h2, h3⟩ := zsk_p (t := t) h
  rcases Nat.lt_or_ge (zsk t n i) n with q | q
  · exact zsk_c q (h3 q)
  · rw [show zsk t n i = n by omega]; exact zsk_n
/-- w figures from i on: whether they stand, and behind them, or where not -/
def zdgs (t : Nat → Int32) (n : Nat) : Nat → Nat → Bool × Nat
  | 0, i => (true, i)
  | w + 1, i => if zsk t n i < n ∧ zdig (t (zsk t n i)) = true then zdgs t n w (zsk t n i + 1) else (false, zsk t n i)
theorem zdg_p {t : Nat → Int32} {n : Nat} : ∀ {w i : Nat}, i ≤ n → i ≤ (zdgs t n w i).2 ∧ (zdgs t n w i).2 ≤ n
  | 0, i, h => ⟨Nat.le_refl _, h⟩
  | w + 1, i, h => by
    obtain ⟨h1, h2, h3⟩ := zsk_p (t := t) h
    by_cases e : zsk t n i < n ∧ zdig (t (zsk t n i)) = true
    · rw [show zdgs t n (w + 1) i = zdgs t n w (zsk t n i + 1) from if_pos e]
      have := zdg_p (t := t) (w := w) (show zsk t n i + 1 ≤ n by omega)
      omega
    · rw [show zdgs t n (w + 1) i = (false, zsk t n i) from if_neg e]
      exact ⟨h1, h2⟩
/-- an order from i on -/
def zor (t : Nat → Int32) (n i : Nat) : Bool × Nat := match zfg (t (zsk t n i)) with
  | none => (false, zsk t n i)
  | some w => if (zdgs t n w (zsk t n i + 1)).1 = true then (if zsk t n (zdgs t n w (zsk t n i + 1)).2 < n ∧ t (zsk t n (zdgs t n w (zsk t n i + 1)).2) = 59 then (true, zsk t n (zdgs t n w (zsk t n i + 1)).2 + 1) else (false, zsk t n (zdgs t n w (zsk t n i + 1)).2)) else (false, (zdgs t n w (zsk t n i + 1)).2)
theorem zor_0 {t : Nat → Int32} {n i : Nat} (h : zfg (t (zsk t n i)) = none) : zor t n i = (false, zsk t n i) := by unfold zor; rw [h]
theorem zor_s {t : Nat → Int32} {n i w : Nat} (h : zfg (t (zsk t n i)) = some w) : zor t n i = if (zdgs t n w (zsk t n i + 1)).1 = true then (if zsk t n (zdgs t n w (zsk t n i + 1)).2 < n ∧ t (zsk t n (zdgs t n w (zsk t n i + 1)).2) = 59 then (true, zsk t n (zdgs t n w (zsk t n i + 1)).2 + 1) else (false, zsk t n (zdgs t n w (zsk t n i + 1)).2)) else (false, (zdgs t n w (zsk t n i + 1)).2) := by unfold zor; rw [h]
theorem zor_p {t : Nat → Int32} {n i : Nat} (h : zsk t n i < n) (hi : i ≤ n) : i ≤ (zor t n i).2 ∧ (zor t n i).2 ≤ n ∧ ((zor t n i).1 = true → i + 2 ≤ (zor t n i).2) := by
  obtain ⟨h1, h2, h3⟩ := zsk_p (t := t) hi
  cases e : zfg (t (zsk t n i)) with
  | none => rw [zor_0 e]; exact ⟨h1, h2, fun q => by cases q⟩
  | some w =>
    rw [zor_s e]
    obtain ⟨g1, g2⟩ := zdg_p (t := t) (w := w) (show zsk t n i + 1 ≤ n by omega)
    obtain ⟨k1, k2, k3⟩ := zsk_p (t := t) g2
    split
    · split
      · next hh => exact ⟨by show i ≤ zsk t n _ + 1; omega, by show zsk t n _ + 1 ≤ n; omega, fun _ => by show i + 2 ≤ zsk t n _ + 1; omega⟩
      · exact ⟨by show i ≤ zsk t n _; omega, k2, fun q => by cases q⟩
    · exact ⟨by show i ≤ (zdgs t n w _).2; omega, g2, fun q => by cases q⟩
/-! the class's findFault -/
def zff (F : Nat) (sT : zOS) (K : Nat) (m o : Int32) (i : Nat) : Option Int32 := zit (P := Int32 × Int32 × Int32) (R := Int32) (fun kc9 p9 => bX3_findFault_6 F sT kc9 p9.1 p9.2.1 p9.2.2) K (m, o, nI i)
theorem zff_1 {F : Nat} {sT : zOS} {K : Nat} {m o : Int32} {i : Nat} : zff F sT (K + 1) m o i = bX3_findFault_6 F sT (fun p => zit (P := Int32 × Int32 × Int32) (R := Int32) (fun kc9 p9 => bX3_findFault_6 F sT kc9 p9.1 p9.2.1 p9.2.2) K p) m o (nI i) := rfl
section ZF
variable {F : Nat} {sT : zOS} {n : Nat}
theorem zff_end {K : Nat} {m o : Int32} (hn : n ≤ 150) (hT : zF sT 2 = nI n) : zff F sT (K + 1) m o n = if m = -1 then (if o ≤ 0 then some (nI n) else some (-1)) else some (nI n) := by
  rw [zff_1]
  unfold bX3_findFault_6
  rw [hT, if_pos (zle_ok (Nat.le_refl n) (by omega))]
theorem bff_skip {i : Nat} {m o : Int32} (kc : (Int32 × Int32 × Int32) → Option Int32) (hn : n ≤ 150) (hT : zF sT 2 = nI n) (hi : i < n) (hb : zI sT 1 i = 32) : bX3_findFault_6 F sT kc m o (nI i) = kc (m, o, nI (i + 1)) := by
  unfold bX3_findFault_6
  rw [hT, if_neg (zlt_no hi (by omega)), zchk_nI (show i < 150 by omega) (by decide), zlet_eq, nI_clamp (show i < 2 ^ 31 by omega), if_pos hb, nI_1]
theorem zff_skip1 {K i : Nat} {m o : Int32} (hn : n ≤ 150) (hT : zF sT 2 = nI n) (hi : i < n) (hb : zI sT 1 i = 32) : zff F sT (K + 1) m o i = zff F sT K m o (i + 1) := zff_1.trans (bff_skip _ hn hT hi hb)
theorem zff_skip {m o : Int32} (hn : n ≤ 150) (hT : zF sT 2 = nI n) {t : Nat → Int32} (ht : ∀ i, i < n → zI sT 1 i = t i) (K : Nat) : ∀ d i, n - i ≤ d → i ≤ n → zff F sT (K + (n + 1 - i)) m o i = zff F sT (K + (n + 1 - zsk t n i)) m o (zsk t n i)
  | 0, i, hd, hi => by rw [show i = n by omega, zsk_n]
  | d + 1, i, hd, hi => by
    rcases Nat.lt_or_ge i n with q | q
    · by_cases hb : t i = 32
      · rw [show K + (n + 1 - i) = K + (n + 1 - (i + 1)) + 1 by omega, zff_skip1 hn hT q ((ht i q).trans hb), zsk_b q hb]
        exact zff_skip hn hT ht K d (i + 1) (by omega) (by omega)
      · rw [zsk_c q hb]
    · rw [show i = n by omega, zsk_n]
theorem bff_at {i : Nat} {m o : Int32} (kc : (Int32 × Int32 × Int32) → Option Int32) (hn : n ≤ 150) (hT : zF sT 2 = nI n) (hi : i < n) (hb : ¬ zI sT 1 i = 32) : bX3_findFault_6 F sT kc m o (nI i) = Option.bind (fX3_canStand (zI sT 1 i) m) (fun r_2 : Int32 => (if r_2 = 0 then (some (nI i)) else (if m = (-1 : Int32) then (Option.bind (fX3_figuresOf (zI sT 1 i)) (fun r_4 : Int32 => kc (r_4, o, nI (i + 1)))) else (if m = 0 then kc (m + (-1), o + 1, nI (i + 1)) else kc (m + (-1), o + 0, nI (i + 1)))))) := by
  unfold bX3_findFault_6
  rw [hT, if_neg (zlt_no hi (by omega)), zchk_nI (show i < 150 by omega) (by decide), zlet_eq, nI_clamp (show i < 2 ^ 31 by omega), if_neg hb, nI_1]
  rfl
theorem zff_at {K i : Nat} {m o : Int32} (hn : n ≤ 150) (hT : zF sT 2 = nI n) (hi : i < n) (hb : ¬ zI sT 1 i = 32) : zff F sT (K + 1) m o i = Option.bind (fX3_canStand (zI sT 1 i) m) (fun r_2 : Int32 => (if r_2 = 0 then (some (nI i)) else (if m = (-1 : Int32) then (Option.bind (fX3_figuresOf (zI sT 1 i)) (fun r_4 : Int32 => zff F sT K r_4 o (i + 1))) else (if m = 0 then zff F sT K (m + (-1)) (o + 1) (i + 1) else zff F sT K (m + (-1)) (o + 0) (i + 1))))) := zff_1.trans (bff_at _ hn hT hi hb)
theorem zff_letter {K i : Nat} {o : Int32} (hn : n ≤ 150) (hT : zF sT 2 = nI n) (hi : i < n) (hb : ¬ zI sT 1 i = 32) : zff F sT (K + 1) (-1) o i = match zfg (zI sT 1 i) with
    | none => some (nI i)
    | some w => zff F sT K (nI w) o (i + 1) := by
  rw [zff_at hn hT hi hb]
  unfold fX3_canStand
  rw [if_pos rfl, p_figuresOf, Option.bind_some, Option.bind_some, if_pos rfl]
  cases e : zfg (zI sT 1 i) with
  | none => rfl
  | some w =>
    have := zfg_le e
    rw [if_neg (show ¬ zenc (some w) = -1 from zenc_ne (by omega))]
    rfl
theorem zdig_s (c : Int32) : (if c < (48 : Int32) then (zbk (0 : Int32) (some ((0 : Int32)))) else (if (57 : Int32) < c then (zbk (0 : Int32) (some ((0 : Int32)))) else (zbk (1 : Int32) (some ((1 : Int32)))))) = some (zb (zdig c)) := by
  unfold zdig
  by_cases h1 : c < 48
  · rw [if_pos h1, decide_eq_false (Int32.not_le.mpr h1)]; rfl
  · rw [if_neg h1, decide_eq_true (Int32.not_lt.mp h1)]
    by_cases h2 : 57 < c
    · rw [if_pos h2, decide_eq_false (Int32.not_le.mpr h2)]; rfl
    · rw [if_neg h2, decide_eq_true (Int32.not_lt.mp h2)]; rfl
theorem nI_pr (w : Nat) : nI (w + 1) + (-1) = nI w := by
  rw [← nI_add, show nI 1 = (1 : Int32) from rfl, Int32.add_assoc, show (1 : Int32) + (-1) = 0 by decide, Int32.add_zero]
theorem nI_ne1 {w : Nat} (h : w < 2 ^ 31) : ¬ nI w = (-1 : Int32) := zenc_ne h
theorem nI_s0 {w : Nat} (h : w + 1 < 2 ^ 31) : ¬ nI (w + 1) = 0 := fun q => by have := (nI_eq (a := w + 1) (b := 0) h (by omega)).mp q; omega
theorem zff_digit {K i w : Nat} {o : Int32} (hn : n ≤ 150) (hT : zF sT 2 = nI n) (hi : i < n) (hb : ¬ zI sT 1 i = 32) (hw : w < 10) : zff F sT (K + 1) (nI (w + 1)) o i = if zdig (zI sT 1 i) = true then zff F sT K (nI w) o (i + 1) else some (nI i) := by
  rw [zff_at hn hT hi hb]
  unfold fX3_canStand
  rw [if_neg (nI_ne1 (by omega)), if_neg (nI_s0 (by omega)), zdig_s, Option.bind_some, zif_b, if_neg (nI_ne1 (by omega)), if_neg (nI_s0 (by omega)), nI_pr, Int32.add_zero]
theorem zff_semi {K i o : Nat} (hn : n ≤ 150) (hT : zF sT 2 = nI n) (hi : i < n) (hb : ¬ zI sT 1 i = 32) : zff F sT (K + 1) (nI 0) (nI o) i = if zI sT 1 i = 59 then zff F sT K (-1) (nI (o + 1)) (i + 1) else some (nI i) := by
  rw [zff_at hn hT hi hb]
  unfold fX3_canStand
  rw [if_neg (nI_ne1 (by omega)), if_pos (show nI 0 = 0 from rfl)]
  by_cases e : zI sT 1 i = 59
  · rw [if_pos e, if_pos e, zbk_1, Option.bind_some, if_neg (by decide), if_neg (nI_ne1 (by omega)), if_pos (show nI 0 = 0 from rfl), nI_1]
    rfl
  · rw [if_neg e, if_neg e, zbk_0]
    rfl
theorem zif_f {α : Type} {x : Nat} {a b : α} : (if (false, x).1 = true then a else b) = b := if_neg Bool.false_ne_true
theorem zif_t {α : Type} {x : Nat} {a b : α} : (if (true, x).1 = true then a else b) = a := if_pos rfl
theorem zff_digits (hn : n ≤ 150) (hT : zF sT 2 = nI n) {t : Nat → Int32} (ht : ∀ i, i < n → zI sT 1 i = t i) {o : Int32} (K : Nat) : ∀ w i, w < 10 → i ≤ n → zff F sT (K + (n + 1 - i)) (nI w) o i = if (zdgs t n w i).1 = true then zff F sT (K + (n + 1 - (zdgs t n w i).2)) (nI 0) o (zdgs t n w i).2 else some (nI (zdgs t n w i).2)
  | 0, i, _, _ => (if_pos rfl).symm
  | w + 1, i, hw, hi => by
    obtain ⟨h1, h2, h3⟩ := zsk_p (t := t) hi
    rw [zff_skip hn hT ht K _ i (Nat.le_refl _) hi]
    rcases Nat.lt_or_ge (zsk t n i) n with q | q
    · rw [show K + (n + 1 - zsk t n i) = K + (n + 1 - (zsk t n i + 1)) + 1 by omega, zff_digit hn hT q (by rw [ht _ q]; exact h3 q) (by omega), ht _ q]
      by_cases e : zdig (t (zsk t n i)) = true
      · rw [if_pos e, show zdgs t n (w + 1) i = zdgs t n w (zsk t n i + 1) from if_pos ⟨q, e⟩]
        exact zff_digits hn hT ht K w _ (by omega) (by omega)
      · rw [if_neg e, show zdgs t n (w + 1) i = (false, zsk t n i) from if_neg (fun h => e h.2), zif_f]
    · have e : zsk t n i = n := by omega
      rw [show zdgs t n (w + 1) i = (false, zsk t n i) from if_neg (fun h => by omega), zif_f, e, show K + (n + 1 - n) = K + 1 by omega, zff_end hn hT, if_neg (nI_ne1 (by omega))]
theorem zff_order (hn : n ≤ 150) (hT : zF sT 2 = nI n) {t : Nat → Int32} (ht : ∀ i, i < n → zI sT 1 i = t i) {o : Nat} (K : Nat) {i : Nat} (hi : i ≤ n) (hs : zsk t n i < n) : zff F sT (K + (n + 1 - i)) (-1) (nI o) i = if (zor t n i).1 = true then zff F sT (K + (n + 1 - (zor t n i).2)) (-1) (nI (o + 1)) (zor t n i).2 else some (nI (zor t n i).2) := by
  obtain ⟨h1, h2, h3⟩ := zsk_p (t := t) hi
  rw [zff_skip hn hT ht K _ i (Nat.le_refl _) hi, show K + (n + 1 - zsk t n i) = K + (n + 1 - (zsk t n i + 1)) + 1 by omega, zff_letter hn hT hs (by rw [ht _ hs]; exact h3 hs), ht _ hs]
  cases e : zfg (t (zsk t n i)) with
  | none => rw [zor_0 e, zif_f]
  | some w =>
    have hw := zfg_le e
    show zff F sT _ (nI w) (nI o) _ = _
    rw [zor_s e, zff_digits hn hT ht K w _ (by omega) (by omega)]
    obtain ⟨g1, g2⟩ := zdg_p (t := t) (w := w) (show zsk t n i + 1 ≤ n by omega)
    generalize zdgs t n w (zsk t n i + 1) = z at *
    by_cases ez : z.1 = true
    · rw [if_pos ez, if_pos ez]
      obtain ⟨k1, k2, k3⟩ := zsk_p (t := t) g2
      rw [zff_skip hn hT ht K _ z.2 (Nat.le_refl _) g2]
      rcases Nat.lt_or_ge (zsk t n z.2) n with q | q
      · rw [show K + (n + 1 - zsk t n z.2) = K + (n + 1 - (zsk t n z.2 + 1)) + 1 by omega, zff_semi hn hT q (by rw [ht _ q]; exact k3 q), ht _ q]
        by_cases e9 : t (zsk t n z.2) = 59
        · rw [if_pos e9, if_pos (show zsk t n z.2 < n ∧ t (zsk t n z.2) = 59 from ⟨q, e9⟩), zif_t]
        · rw [if_neg e9, if_neg (show ¬ (zsk t n z.2 < n ∧ t (zsk t n z.2) = 59) from fun h => e9 h.2), zif_f]
      · have e : zsk t n z.2 = n := by omega
        rw [if_neg (show ¬ (zsk t n z.2 < n ∧ t (zsk t n z.2) = 59) from fun h => by omega), zif_f, e, show K + (n + 1 - n) = K + 1 by omega, zff_end hn hT, if_neg (nI_ne1 (by omega))]
    · rw [if_neg ez, if_neg ez, zif_f]
end ZF
