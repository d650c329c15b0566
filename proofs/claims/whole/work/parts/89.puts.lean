/-! PURE: the reference ties nets to nodes -/
def zms (s : zOS) (B C T : Nat → Int32) (W : Int32) : zOS := (va_up (va_up (va_up s.1 9 B) 10 C) 11 T, s.2.1, va_up s.2.2.1 14 W, s.2.2.2)
theorem upd_id (f : Nat → Int32) (k : Nat) : upd f k (f k) = f := funext fun j => by
  show (if j = k then f k else f j) = f j
  by_cases e : j = k
  · rw [if_pos e, e]
  · rw [if_neg e]
section ZQ
variable {s : zOS} {B C T : Nat → Int32} {W : Int32}
theorem zms_9 {X : Nat → Int32} : zsI (zms s B C T W) 9 X = zms s X C T W := by
  show (va_up (va_up (va_up (va_up s.1 9 B) 10 C) 11 T) 9 X, _) = _
  rw [va_cm _ (show 11 ≠ 9 by decide), va_cm _ (show 10 ≠ 9 by decide), bx_uu]; rfl
theorem zms_10 {X : Nat → Int32} : zsI (zms s B C T W) 10 X = zms s B X T W := by
  show (va_up (va_up (va_up (va_up s.1 9 B) 10 C) 11 T) 10 X, _) = _
  rw [va_cm _ (show 11 ≠ 10 by decide), bx_uu]; rfl
theorem zms_11 {X : Nat → Int32} : zsI (zms s B C T W) 11 X = zms s B C X W := by
  show (va_up (va_up (va_up (va_up s.1 9 B) 10 C) 11 T) 11 X, _) = _
  rw [bx_uu]; rfl
theorem zms_14 {X : Int32} : zsF (zms s B C T W) 14 X = zms s B C T X := by
  show (_, _, va_up (va_up s.2.2.1 14 W) 14 X, _) = _
  rw [bx_uu]; rfl
theorem zms_s : zsF s 14 W = zms s (zI s 9) (zI s 10) (zI s 11) W := by
  obtain ⟨x, y, z, w⟩ := s
  show (x, y, va_up z 14 W, w) = (va_up (va_up (va_up x 9 (x 9)) 10 (x 10)) 11 (x 11), y, va_up z 14 W, w)
  rw [va_id, va_id, va_id]
theorem q_isPut {st n F : Nat} {v : Int32} (hF : 1000 ≤ F) (hst : st < 7) (hn : n < 10) : ∃ b T', fX5_isPut F (nI st) (nI n) v (zms s B C T W) = some (zb b, zms s B C T' W) ∧ (b = true ↔ ∀ m, m < 10 → if m = n then (T (10 * st + m) = -1 ∨ T (10 * st + m) = v) else ¬ T (10 * st + m) = v) ∧ (b = true → T' = upd T (10 * st + n) v) ∧ (b = false → T' = T) := by
  unfold fX5_isPut
  rw [zlet_eq, show (10 : Int32) * nI st = nI (10 * st) from pk_mul 10 st]
  obtain ⟨F', p', ⟨b, rfl, hb⟩, -, e⟩ := zfor (B := fun kc9 (p9 : Int32 × Int32) => bX5_isPut_12 F (nI n) v (nI (10 * st)) (zms s B C T W) kc9 p9.1 p9.2) (fun i p => ∃ b, p = (zb b, nI i) ∧ (b = true ↔ ∀ m, m < i → if m = n then (T (10 * st + m) = -1 ∨ T (10 * st + m) = v) else ¬ T (10 * st + m) = v)) 10 (by
    rintro kc i p hi ⟨b, rfl, hb⟩
    have next : ∀ b' : Bool, (b' = true ↔ b = true ∧ if i = n then (T (10 * st + i) = -1 ∨ T (10 * st + i) = v) else ¬ T (10 * st + i) = v) → (b' = true ↔ ∀ m, m < i + 1 → if m = n then (T (10 * st + m) = -1 ∨ T (10 * st + m) = v) else ¬ T (10 * st + m) = v) := fun b' h => by
      rw [h, hb]
      constructor
      · rintro ⟨h1, h2⟩ m hm
        by_cases q : m = i
        · subst q; exact h2
        · exact h1 m (by omega)
      · intro h1
        exact ⟨fun m hm => h1 m (by omega), h1 i (by omega)⟩
    show ∃ p', _ ∧ bX5_isPut_12 F (nI n) v (nI (10 * st)) (zms s B C T W) kc (zb b) (nI i) = kc p'
    unfold bX5_isPut_12
    rw [if_neg (show ¬ (10 : Int32) ≤ nI i from zlt_no (n := 10) hi (by decide)), zif_b, nI_1, nI_add, zchk_nI (show 10 * st + i < 70 by omega) (by decide), zchk_nI (show 10 * st + i < 70 by omega) (by decide), zchk_nI (show 10 * st + i < 70 by omega) (by decide), nI_clamp (show 10 * st + i < 2 ^ 31 by omega), show zI (zms s B C T W) 11 = T from rfl]
    cases b with
    | false => exact ⟨_, ⟨false, rfl, next false ⟨fun h => (by cases h), fun h => (by cases h.1)⟩⟩, rfl⟩
    | true =>
      rw [if_pos rfl]
      by_cases ei : i = n
      · rw [if_pos (show nI i = nI n by rw [ei])]
        by_cases e1 : T (10 * st + i) = -1
        · rw [if_pos e1]
          exact ⟨_, ⟨true, rfl, next true ⟨fun _ => ⟨rfl, by rw [if_pos ei]; exact Or.inl e1⟩, fun _ => rfl⟩⟩, rfl⟩
        · rw [if_neg e1]
          by_cases e2 : T (10 * st + i) = v
          · rw [if_pos e2]
            exact ⟨_, ⟨true, rfl, next true ⟨fun _ => ⟨rfl, by rw [if_pos ei]; exact Or.inr e2⟩, fun _ => rfl⟩⟩, rfl⟩
          · rw [if_neg e2]
            exact ⟨_, ⟨false, rfl, next false ⟨fun h => (by cases h), fun h => by
              have h2 := h.2
              rw [if_pos ei] at h2
              rcases h2 with h2 | h2
              · exact absurd h2 e1
              · exact absurd h2 e2⟩⟩, rfl⟩
      · rw [if_neg (show ¬ nI i = nI n from fun q => ei ((nI_eq (by omega) (by omega)).mp q))]
        by_cases e2 : T (10 * st + i) = v
        · rw [if_pos e2]
          exact ⟨_, ⟨false, rfl, next false ⟨fun h => (by cases h), fun h => by
            have h2 := h.2
            rw [if_neg ei] at h2
            exact absurd e2 h2⟩⟩, rfl⟩
        · rw [if_neg e2]
          exact ⟨_, ⟨true, rfl, next true ⟨fun _ => ⟨rfl, by rw [if_neg ei]; exact e2⟩, fun _ => rfl⟩⟩, rfl⟩) (F := F) (p := ((1 : Int32), (0 : Int32))) ⟨true, rfl, ⟨fun _ m hm => by omega, fun _ => rfl⟩⟩ (by omega)
  rw [e]
  show ∃ b' T', bX5_isPut_12 F (nI n) v (nI (10 * st)) (zms s B C T W) _ (zb b) (nI 10) = _ ∧ _
  unfold bX5_isPut_12 jX5_isPut_114
  rw [if_pos (show (10 : Int32) ≤ nI 10 from zle_ok (Nat.le_refl 10) (by decide)), zif_b, nI_add, zchk_nI (show 10 * st + n < 70 by omega) (by decide), zchk_nI (show 10 * st + n < 70 by omega) (by decide), zchk_nI (show 10 * st + n < 70 by omega) (by decide), zlet_eq, zlet_eq, nI_clamp (show 10 * st + n < 2 ^ 31 by omega), show zI (zms s B C T W) 11 = T from rfl, zbk_b, zbk_b, zms_11, zms_11, upd_id]
  cases b with
  | false => exact ⟨false, T, rfl, hb, fun h => (by cases h), fun _ => rfl⟩
  | true => exact ⟨true, _, rfl, hb, fun _ => rfl, fun h => (by cases h)⟩
theorem q_put {st n F : Nat} {v : Int32} {S : Nat × Int32 → Prop} (hF : 1000 ≤ F) (hst : st < 7) (hn : n < 10) (hv : ¬ v = -1) (hw : zwf S) (hc : zcon S) (ht : ztel (fun m => T (10 * st + m)) S) : ∃ b T', fX5_isPut F (nI st) (nI n) v (zms s B C T W) = some (zb b, zms s B C T' W) ∧ (b = true ↔ zcon (zadp S (n, v))) ∧ (b = true → ztel (fun m => T' (10 * st + m)) (zadp S (n, v))) ∧ ∀ k, ¬ (10 * st ≤ k ∧ k < 10 * st + 10) → T' k = T k := by
  obtain ⟨b, T', h1, h2, h3, h4⟩ := q_isPut (s := s) (B := B) (C := C) (T := T) (W := W) (v := v) hF hst hn
  have hiff : b = true ↔ zcon (zadp S (n, v)) := by
    rw [h2, ztie hw hc ht hn hv]
    constructor
    · intro h
      have hnn := h n hn
      rw [if_pos rfl] at hnn
      rcases hnn with q | q
      · refine Or.inr ⟨q, fun m hm hmv => ?_⟩
        by_cases e : m = n
        · subst e
          exact hv (hmv.symm.trans q)
        · have := h m hm
          rw [if_neg e] at this
          exact this hmv
      · exact Or.inl q
    · intro h m hm
      by_cases e : m = n
      · rw [if_pos e, e]
        rcases h with h | h
        · exact Or.inr h
        · exact Or.inl h.1
      · rw [if_neg e]
        intro hmv
        rcases h with h | h
        · have a1 : S (m, v) := by
            have := zsome (n := m) ht hm (by show ¬ T (10 * st + m) = -1; rw [hmv]; exact hv)
            have this : S (m, T (10 * st + m)) := this
            rw [hmv] at this; exact this
          have a2 : S (n, v) := by
            have h : T (10 * st + n) = v := h
            have := zsome (n := n) ht hn (by show ¬ T (10 * st + n) = -1; rw [h]; exact hv)
            have this : S (n, T (10 * st + n)) := this
            rw [h] at this; exact this
          exact e ((hc (m, v) (n, v) a1 a2).mpr rfl)
        · exact h.2 m hm hmv
  refine ⟨b, T', h1, hiff, fun hb => ?_, fun k hk => ?_⟩
  · rw [h3 hb]
    have := ztie_t ht (hiff.mp hb)
    have e : (fun m => upd T (10 * st + n) v (10 * st + m)) = upd (fun m => T (10 * st + m)) n v := funext fun m => by
      by_cases q : m = n
      · rw [q, zud_s, zud_s]
      · rw [zud_n _ _ q, zud_n _ _ (by omega)]
    rw [e]; exact this
  · cases b with
    | false => rw [h4 rfl]
    | true => rw [h3 rfl, zud_n _ _ (by omega)]
end ZQ
/-! the plan as numbers: devices and pins -/
def zpv (a : Nat → Int32) (nd np : Nat) : Prop := nd ≤ 6 ∧ np ≤ 6 ∧ a 8 = nI nd ∧ a 27 = nI np ∧ (∀ i, i < 3 * nd → zin (a (9 + i)) 10 = true) ∧ ∀ i, i < 3 * np → zin (a (28 + i)) (if i % 3 = 2 then 10 else 8) = true
theorem zpl_pv {sP : zOS} {a : Nat → Int32} (h : zpl sP a) : ∃ nd np, zpv a nd np ∧ zF sP 3 = nI nd ∧ zF sP 4 = nI np ∧ (∀ i, i < 3 * nd → zI sP 2 i = a (9 + i)) ∧ ∀ i, i < 3 * np → zI sP 3 i = a (28 + i) := by
  obtain ⟨h1, nd, np, h2, h3, h4, h5, h6, h7, h8, h9⟩ := h
  exact ⟨nd, np, ⟨h2, h3, h5, h7, fun i hi => (h8 i hi).2, fun i hi => (h9 i hi).2⟩, h4, h6, fun i hi => (h8 i hi).1, fun i hi => (h9 i hi).1⟩
def zdvc (a : Nat → Int32) (i k : Nat) : Nat := if 9 + 3 * i + k < 46 then (a (9 + 3 * i + k)).toNatClampNeg else 0
def zpnc (a : Nat → Int32) (i k : Nat) : Nat := if 28 + 3 * i + k < 46 then (a (28 + 3 * i + k)).toNatClampNeg else 0
theorem zdvc_e {a : Nat → Int32} {nd np i k : Nat} (h : zpv a nd np) (hi : i < nd) (hk : k < 3) : a (9 + 3 * i + k) = nI (zdvc a i k) ∧ zdvc a i k < 10 := by
  have := h.2.2.2.2.1 (3 * i + k) (by omega)
  obtain ⟨j, hj, e⟩ := (zin_iff (n := 10) (by decide)).mp this
  rw [show 9 + (3 * i + k) = 9 + 3 * i + k by omega] at e
  have hnd := h.1
  unfold zdvc
  rw [if_pos (by omega), e, nI_clamp (by omega)]
  exact ⟨rfl, hj⟩
theorem zpnc_e {a : Nat → Int32} {nd np i k : Nat} (h : zpv a nd np) (hi : i < np) (hk : k < 3) : a (28 + 3 * i + k) = nI (zpnc a i k) ∧ zpnc a i k < (if k = 2 then 10 else 8) := by
  have := h.2.2.2.2.2 (3 * i + k) (by omega)
  have hm : (3 * i + k) % 3 = k := by omega
  rw [hm, show 28 + (3 * i + k) = 28 + 3 * i + k by omega] at this
  have hnp := h.2.1
  unfold zpnc
  rw [if_pos (show 28 + 3 * i + k < 46 by omega)]
  by_cases e : k = 2
  · rw [if_pos e] at this ⊢
    obtain ⟨j, hj, e⟩ := (zin_iff (n := 10) (by decide)).mp this
    rw [e, nI_clamp (by omega)]
    exact ⟨rfl, hj⟩
  · rw [if_neg e] at this ⊢
    obtain ⟨j, hj, e⟩ := (zin_iff (n := 8) (by decide)).mp this
    rw [e, nI_clamp (by omega)]
    exact ⟨rfl, hj⟩
theorem q_ofDevice {s : zOS} {i k : Nat} (hi : i < 6) (hk : k < 3) : fX5_ofDevice (nI i) (nI k) s = some (zI s 1 (9 + 3 * i + k)) := by
  unfold fX5_ofDevice
  rw [show (9 : Int32) + (3 : Int32) * nI i + nI k = nI (9 + 3 * i + k) by rw [show (3 : Int32) * nI i = nI (3 * i) from pk_mul 3 i, show (9 : Int32) + nI (3 * i) = nI (9 + 3 * i) from nI_add 9 _, nI_add], zchk_nI (show 9 + 3 * i + k < 46 by omega) (by decide), nI_clamp (show 9 + 3 * i + k < 2 ^ 31 by omega)]
theorem q_ofPin {s : zOS} {i k : Nat} (hi : i < 6) (hk : k < 3) : fX5_ofPin (nI i) (nI k) s = some (zI s 1 (28 + 3 * i + k)) := by
  unfold fX5_ofPin
  rw [show (28 : Int32) + (3 : Int32) * nI i + nI k = nI (28 + 3 * i + k) by rw [show (3 : Int32) * nI i = nI (3 * i) from pk_mul 3 i, show (28 : Int32) + nI (3 * i) = nI (28 + 3 * i) from nI_add 28 _, nI_add], zchk_nI (show 28 + 3 * i + k < 46 by omega) (by decide), nI_clamp (show 28 + 3 * i + k < 2 ^ 31 by omega)]
/-- the node of a pin -/
def zpnd (lab : Nat → Option Nat) (a : Nat → Int32) (i : Nat) : Option Nat := lab (128 + 8 * zpnc a i 1 + zpnc a i 0)
theorem q_pinNode {s : zOS} {lab labG : Nat → Option Nat} {nd np i : Nat} (hq : zqa s lab labG) (hv : zpv (zI s 1) nd np) (hi : i < np) : fX5_pinNode (nI i) s = some (zenc (zpnd lab (zI s 1) i)) := by
  have hnp := hv.2.1
  obtain ⟨e1, b1⟩ := zpnc_e hv hi (show 1 < 3 by decide)
  obtain ⟨e0, b0⟩ := zpnc_e hv hi (show 0 < 3 by decide)
  rw [if_neg (by decide)] at b1 b0
  unfold fX5_pinNode
  rw [show fX5_ofPin (nI i) 1 s = _ from q_ofPin (k := 1) (by omega) (by decide), show fX5_ofPin (nI i) 0 s = _ from q_ofPin (k := 0) (by omega) (by decide), Option.bind_some, Option.bind_some, e1, e0, show (128 : Int32) + (8 : Int32) * nI (zpnc (zI s 1) i 1) + nI (zpnc (zI s 1) i 0) = nI (128 + 8 * zpnc (zI s 1) i 1 + zpnc (zI s 1) i 0) by rw [show (8 : Int32) * nI (zpnc (zI s 1) i 1) = nI (8 * zpnc (zI s 1) i 1) from pk_mul 8 _, show (128 : Int32) + nI (8 * zpnc (zI s 1) i 1) = nI (128 + 8 * zpnc (zI s 1) i 1) from nI_add 128 _, nI_add], zchk_nI (show 128 + 8 * zpnc (zI s 1) i 1 + zpnc (zI s 1) i 0 < 192 by omega) (by decide), nI_clamp (show 128 + 8 * zpnc (zI s 1) i 1 + zpnc (zI s 1) i 0 < 2 ^ 31 by omega), hq.1 _ (by omega)]
  rfl
/-- what pins at nodes tie -/
def zSi (lab : Nat → Option Nat) (a : Nat → Int32) (i : Nat) : Nat × Int32 → Prop := fun p => ∃ k v, k < i ∧ zpnd lab a k = some v ∧ p = (zpnc a k 2, nI v)
theorem zSi_wf {lab : Nat → Option Nat} {a : Nat → Int32} {nd np i : Nat} (hv : zpv a nd np) (hl : ∀ p j, p < 192 → lab p = some j → j < 192) (hi : i ≤ np) : zwf (zSi lab a i) := by
  rintro p ⟨k, v, hk, h1, rfl⟩
  obtain ⟨-, b2⟩ := zpnc_e hv (show k < np by omega) (show 2 < 3 by decide)
  obtain ⟨-, b1⟩ := zpnc_e hv (show k < np by omega) (show 1 < 3 by decide)
  obtain ⟨-, b0⟩ := zpnc_e hv (show k < np by omega) (show 0 < 3 by decide)
  rw [if_pos rfl] at b2
  rw [if_neg (by decide)] at b1 b0
  have := hl _ v (by omega) h1
  exact ⟨b2, nI_ne1 (by omega)⟩
theorem zSi_0 {lab : Nat → Option Nat} {a : Nat → Int32} {T : Nat → Int32} (hT : ∀ n, n < 10 → T n = -1) : ztel T (zSi lab a 0) := ⟨fun p hp => by obtain ⟨k, v, hk, -⟩ := hp; omega, fun n hn _ => hT n hn⟩
theorem zSi_c0 {lab : Nat → Option Nat} {a : Nat → Int32} : zcon (zSi lab a 0) := fun p q hp => by obtain ⟨k, v, hk, -⟩ := hp; omega
theorem zSi_n {lab : Nat → Option Nat} {a : Nat → Int32} {i : Nat} (h : zpnd lab a i = none) : zSi lab a (i + 1) = zSi lab a i := by
  funext p
  apply propext
  constructor
  · rintro ⟨k, v, hk, h1, h2⟩
    by_cases e : k = i
    · subst e; rw [h] at h1; cases h1
    · exact ⟨k, v, by omega, h1, h2⟩
  · rintro ⟨k, v, hk, h1, h2⟩
    exact ⟨k, v, by omega, h1, h2⟩
theorem zSi_s {lab : Nat → Option Nat} {a : Nat → Int32} {i v : Nat} (h : zpnd lab a i = some v) : zSi lab a (i + 1) = zadp (zSi lab a i) (zpnc a i 2, nI v) := by
  funext p
  apply propext
  constructor
  · rintro ⟨k, w, hk, h1, h2⟩
    by_cases e : k = i
    · subst e; rw [h] at h1; cases h1; exact Or.inr h2
    · exact Or.inl ⟨k, w, by omega, h1, h2⟩
  · rintro (⟨k, w, hk, h1, h2⟩ | h2)
    · exact ⟨k, w, by omega, h1, h2⟩
    · exact ⟨i, v, by omega, h, h2⟩
theorem zSi_mono {lab : Nat → Option Nat} {a : Nat → Int32} {i j : Nat} (h : i ≤ j) (hc : zcon (zSi lab a j)) : zcon (zSi lab a i) := zcon_sub (fun p ⟨k, v, hk, h1⟩ => ⟨k, v, by omega, h1⟩) hc
theorem q_isBegun {s : zOS} {B C T : Nat → Int32} {W : Int32} {lab labG : Nat → Option Nat} {nd np F : Nat} (hF : 1000 ≤ F) (hq : zqa s lab labG) (hv : zpv (zI s 1) nd np) : ∃ b T', fX5_isBegun F (zms s B C T W) = some (zb b, zms s B C T' W) ∧ (b = true ↔ zcon (zSi lab (zI s 1) np)) ∧ (b = true → ztel T' (zSi lab (zI s 1) np)) := by
  unfold fX5_isBegun
  obtain ⟨F', p', ⟨T1, rfl, hT1⟩, -, e⟩ := zfor (B := fun kc9 (p9 : Int32 × zOS) => bX5_isBegun_2 F kc9 p9.1 p9.2) (fun i p => ∃ T1, p = (nI i, zms s B C T1 W) ∧ ∀ n, n < i → T1 n = -1) 10 (by
    rintro kc i p hi ⟨T1, rfl, hT1⟩
    refine ⟨(nI (i + 1), zms s B C (upd T1 i (-1)) W), ⟨_, rfl, fun n hn => ?_⟩, ?_⟩
    · by_cases e : n = i
      · subst e; exact zud_s _ _ _
      · rw [zud_n _ _ e]; exact hT1 n (by omega)
    · show bX5_isBegun_2 F kc (nI i) (zms s B C T1 W) = _
      unfold bX5_isBegun_2
      rw [if_neg (show ¬ (10 : Int32) ≤ nI i from zlt_no (n := 10) hi (by decide)), zchk_nI (show i < 70 by omega) (by decide), zlet_eq, nI_clamp (show i < 2 ^ 31 by omega), nI_1, show zI (zms s B C T1 W) 11 = T1 from rfl, zms_11]) (F := F) (p := ((0 : Int32), zms s B C T W)) ⟨T, rfl, fun k hk => by omega⟩ (by omega)
  rw [e]
  show ∃ b T', bX5_isBegun_2 F _ (nI 10) (zms s B C T1 W) = _ ∧ _
  unfold bX5_isBegun_2
  rw [if_pos (show (10 : Int32) ≤ nI 10 from zle_ok (Nat.le_refl 10) (by decide))]
  clear e
  have hnp := hv.2.1
  obtain ⟨F', p', ⟨b, T2, rfl, hb, hT2⟩, -, e⟩ := zfor (B := fun kc9 (p9 : Int32 × Int32 × zOS) => bX5_isBegun_25 F kc9 p9.1 p9.2.1 p9.2.2) (fun i p => ∃ b T2, p = (zb b, nI i, zms s B C T2 W) ∧ (b = true ↔ zcon (zSi lab (zI s 1) i)) ∧ (b = true → ztel T2 (zSi lab (zI s 1) i))) np (by
    rintro kc i p hi ⟨b, T2, rfl, hb, hT2⟩
    show ∃ p', _ ∧ bX5_isBegun_25 F kc (zb b) (nI i) (zms s B C T2 W) = kc p'
    unfold bX5_isBegun_25
    rw [zck (j := (27 : Int32)) (n := 46) 27 rfl (by decide) (by decide), show zI (zms s B C T2 W) 1 (27 : Int32).toNatClampNeg = nI np from hv.2.2.2.1, if_neg (zlt_no hi (by omega)), show fX5_pinNode (nI i) (zms s B C T2 W) = _ from q_pinNode (s := zms s B C T2 W) (lab := lab) (labG := labG) hq hv hi, Option.bind_some, zif_b, nI_1]
    cases b with
    | false => exact ⟨_, ⟨false, T2, rfl, ⟨fun h => (by cases h), fun h => absurd (hb.mpr (zSi_mono (Nat.le_succ i) h)) (by decide)⟩, fun h => (by cases h)⟩, rfl⟩
    | true =>
      rw [if_pos rfl, show zI (zms s B C T2 W) 1 = zI s 1 from rfl]
      cases en : zpnd lab (zI s 1) i with
      | none =>
        rw [show zenc none = (-1 : Int32) from rfl, if_pos rfl]
        exact ⟨_, ⟨true, T2, rfl, by rw [zSi_n en]; exact hb, by rw [zSi_n en]; exact hT2⟩, rfl⟩
      | some v =>
        obtain ⟨e2, b2⟩ := zpnc_e hv hi (show 2 < 3 by decide)
        obtain ⟨e1, b1⟩ := zpnc_e hv hi (show 1 < 3 by decide)
        obtain ⟨e0, b0⟩ := zpnc_e hv hi (show 0 < 3 by decide)
        rw [if_pos rfl] at b2
        rw [if_neg (by decide)] at b1 b0
        have hv192 := hq.2.2.1 _ v (by omega) en
        obtain ⟨b', T', p1, p2, p3, -⟩ := q_put (s := s) (B := B) (C := C) (T := T2) (W := W) (st := 0) (n := zpnc (zI s 1) i 2) (v := nI v) (S := zSi lab (zI s 1) i) hF (by decide) b2 (nI_ne1 (by omega)) (zSi_wf hv hq.2.2.1 (by omega)) (hb.mp rfl) (by
          have := hT2 rfl
          have ez : (fun m => T2 (10 * 0 + m)) = T2 := funext fun m => by rw [show 10 * 0 + m = m by omega]
          rw [ez]; exact this)
        have ez : (fun m => T' (10 * 0 + m)) = T' := funext fun m => by rw [show 10 * 0 + m = m by omega]
        rw [ez] at p3
        rw [show zenc (some v) = nI v from rfl, if_neg (nI_ne1 (by omega)), show fX5_ofPin (nI i) 2 (zms s B C T2 W) = some (zI s 1 (28 + 3 * i + 2)) from q_ofPin (k := 2) (by omega) (by decide), Option.bind_some, e2, show (0 : Int32) = nI 0 from rfl, p1, Option.bind_some]
        cases b' with
        | false =>
          rw [if_pos (show zb false = nI 0 from rfl)]
          exact ⟨_, ⟨false, T', rfl, by rw [zSi_s en]; exact p2, fun h => (by cases h)⟩, rfl⟩
        | true =>
          rw [if_neg (show ¬ zb true = nI 0 by decide)]
          exact ⟨_, ⟨true, T', rfl, by rw [zSi_s en]; exact p2, by rw [zSi_s en]; exact p3⟩, rfl⟩) (F := F) (p := ((1 : Int32), (0 : Int32), zms s B C T1 W)) ⟨true, T1, rfl, ⟨fun _ => zSi_c0, fun _ => rfl⟩, fun _ => zSi_0 hT1⟩ (by omega)
  rw [e]
  show ∃ b' T', bX5_isBegun_25 F _ (zb b) (nI np) (zms s B C T2 W) = _ ∧ _
  unfold bX5_isBegun_25
  rw [zck (j := (27 : Int32)) (n := 46) 27 rfl (by decide) (by decide), show zI (zms s B C T2 W) 1 (27 : Int32).toNatClampNeg = nI np from hv.2.2.2.1, if_pos (zle_ok (Nat.le_refl np) (by omega)), zbk_b]
  exact ⟨b, T2, rfl, hb, hT2⟩
