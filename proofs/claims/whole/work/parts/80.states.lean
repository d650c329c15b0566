/-! PURE: loops with a counter; holding, keeping, taking back, refusing -/
theorem zfor {P R : Type} {B : (P → Option R) → P → Option R} (Inv : Nat → P → Prop) (n : Nat) (h : ∀ (kc : P → Option R) (i : Nat) (p : P), i < n → Inv i p → ∃ p', Inv (i + 1) p' ∧ B kc p = kc p') {F : Nat} {p : P} (hp : Inv 0 p) (hF : n < F) :
    ∃ F' p', Inv n p' ∧ F' + n + 1 = F ∧ zit B F p = B (zit B F') p' := by
  have key : ∀ m, m ≤ n → ∀ (F : Nat) (p : P), Inv (n - m) p → m < F → ∃ F' p', Inv n p' ∧ F' + m + 1 = F ∧ zit B F p = B (zit B F') p' := by
    intro m
    induction m with
    | zero =>
      intro _ F p hp hF
      cases F with
      | zero => omega
      | succ F => exact ⟨F, p, hp, rfl, rfl⟩
    | succ m ih =>
      intro hm F p hp hF
      cases F with
      | zero => omega
      | succ F =>
        obtain ⟨p', h1, h2⟩ := h (zit B F) (n - (m + 1)) p (by omega) hp
        rw [show n - (m + 1) + 1 = n - m by omega] at h1
        obtain ⟨F', p'', g1, g2, g3⟩ := ih (by omega) F p' h1 (by omega)
        exact ⟨F', p'', g1, by omega, by show B (zit B F) p = _; rw [h2, g3]⟩
  exact key n (Nat.le_refl n) F p (by rw [Nat.sub_self]; exact hp) hF
theorem zsI_self (s : zOS) (k : Nat) : zsI s k (zI s k) = s := by
  obtain ⟨a, b, c, d⟩ := s
  show (va_up a k (a k), b, c, d) = _
  rw [va_id]
theorem zsF_self (s : zOS) (k : Nat) : zsF s k (zF s k) = s := by
  obtain ⟨a, b, c, d⟩ := s
  show (a, b, va_up c k (c k), d) = _
  rw [va_id]
theorem zlt_no {n i : Nat} (h : i < n) (hn : n < 2 ^ 31) : ¬ nI n ≤ nI i := by rw [zle_nI hn (by omega)]; omega
theorem zle_ok {n i : Nat} (h : n ≤ i) (hi : i < 2 ^ 31) : nI n ≤ nI i := by rw [zle_nI (by omega) hi]; exact h
theorem zck {β : Type} {j : Int32} {n : Nat} {e : Option β} (i : Nat) (hj : j = nI i) (h : i < n) (hn : n < 2 ^ 31) : zchk j n e = e := by subst hj; exact zchk_nI h hn
theorem zmu {n i : Nat} {m : Int32} {c : Nat} (hm : m = nI c) : m * nI n + nI i = nI (c * n + i) := by rw [hm, pk_mul, nI_add]
theorem zpl_congr {s : zOS} {a a' : Nat → Int32} (h : ∀ k, k < 46 → a k = a' k) (hp : zpl s a) : zpl s a' := by
  obtain ⟨h1, nd, np, h2, h3, h4, h5, h6, h7, h8, h9⟩ := hp
  refine ⟨fun l hl i hi => ?_, nd, np, h2, h3, h4, ?_, h6, ?_, fun i hi => ?_, fun i hi => ?_⟩
  · rw [h1 l hl i hi]
    unfold zmb
    rw [h _ (by omega)]
  · rw [← h 8 (by omega)]; exact h5
  · rw [← h 27 (by omega)]; exact h7
  · rw [← h (9 + i) (by omega)]; exact h8 i hi
  · rw [← h (28 + i) (by omega)]; exact h9 i hi
theorem q_hold {sD : zOS} {F : Nat} (hF : 1000 ≤ F) : ∃ h, fX5_hold F sD = some (zsI sD 2 h) ∧ ∀ k, k < 46 → h k = zI sD 1 k := by
  unfold fX5_hold
  obtain ⟨F', p', ⟨h, rfl, hh⟩, -, e⟩ := zfor (B := fun kc9 (p9 : Int32 × zOS) => bX5_hold_2 F kc9 p9.1 p9.2) (fun i p => ∃ h, p = (nI i, zsI sD 2 h) ∧ ∀ k, k < i → h k = zI sD 1 k) 46 (by
    rintro kc i p hi ⟨h, rfl, hh⟩
    refine ⟨(nI (i + 1), zsI sD 2 (upd h i (zI sD 1 i))), ⟨_, rfl, fun k hk => ?_⟩, ?_⟩
    · by_cases e : k = i
      · subst e; exact zud_s _ _ _
      · rw [zud_n _ _ e]; exact hh k (by omega)
    · show bX5_hold_2 F kc (nI i) (zsI sD 2 h) = _
      unfold bX5_hold_2
      rw [if_neg (show ¬ (46 : Int32) ≤ nI i from zlt_no (n := 46) hi (by decide)), zchk_nI hi (by decide), zchk_nI hi (by decide), zlet_eq, nI_clamp (show i < 2 ^ 31 by omega), nI_1]
      show kc (nI (i + 1), zsI (zsI sD 2 h) 2 (upd h i (zI sD 1 i))) = _
      rw [zsI_I]) (F := F) (p := ((0 : Int32), sD)) ⟨zI sD 2, by rw [zsI_self]; rfl, fun k hk => by omega⟩ (by omega)
  refine ⟨h, e.trans ?_, hh⟩
  show bX5_hold_2 F _ (nI 46) (zsI sD 2 h) = _
  unfold bX5_hold_2
  rw [if_pos (show (46 : Int32) ≤ nI 46 from zle_ok (Nat.le_refl 46) (by decide))]
theorem q_push48 {sD : zOS} {n F : Nat} (hF : 1000 ≤ F) (hn : n < 5) (h3 : zF sD 3 = nI n) : ∃ P, jX5_push_48 F sD = some (zsF (zsF (zsI sD 3 P) 3 (nI (n + 1))) 5 0) ∧ (∀ k, k < 46 → P (46 * n + k) = zI sD 2 k) ∧ ∀ j, j < 46 * n → P j = zI sD 3 j := by
  unfold jX5_push_48
  obtain ⟨F', p', ⟨P, rfl, hP, hQ⟩, -, e⟩ := zfor (B := fun kc9 (p9 : Int32 × zOS) => bX5_push_50 F kc9 p9.1 p9.2) (fun i p => ∃ P, p = (nI i, zsI sD 3 P) ∧ (∀ k, k < i → P (46 * n + k) = zI sD 2 k) ∧ ∀ j, j < 46 * n → P j = zI sD 3 j) 46 (by
    rintro kc i p hi ⟨P, rfl, hP, hQ⟩
    refine ⟨(nI (i + 1), zsI sD 3 (upd P (46 * n + i) (zI sD 2 i))), ⟨_, rfl, fun k hk => ?_, fun j hj => ?_⟩, ?_⟩
    · by_cases e : k = i
      · subst e; exact zud_s _ _ _
      · rw [zud_n _ _ (by omega)]; exact hP k (by omega)
    · rw [zud_n _ _ (by omega)]; exact hQ j hj
    · show bX5_push_50 F kc (nI i) (zsI sD 3 P) = _
      unfold bX5_push_50
      rw [if_neg (show ¬ (46 : Int32) ≤ nI i from zlt_no (n := 46) hi (by decide)), show zF (zsI sD 3 P) 3 = nI n from h3, zmu (m := (46 : Int32)) (c := 46) rfl, zchk_nI hi (by decide), zchk_nI (show 46 * n + i < 230 by omega) (by decide), zlet_eq, nI_clamp (show i < 2 ^ 31 by omega), nI_clamp (show 46 * n + i < 2 ^ 31 by omega), nI_1]
      show kc (nI (i + 1), zsI (zsI sD 3 P) 3 (upd P (46 * n + i) (zI sD 2 i))) = _
      rw [zsI_I]) (F := F) (p := ((0 : Int32), sD)) ⟨zI sD 3, by rw [zsI_self]; rfl, fun k hk => by omega, fun _ _ => rfl⟩ (by omega)
  refine ⟨P, e.trans ?_, hP, hQ⟩
  show bX5_push_50 F _ (nI 46) (zsI sD 3 P) = _
  unfold bX5_push_50
  rw [if_pos (show (46 : Int32) ≤ nI 46 from zle_ok (Nat.le_refl 46) (by decide)), zlet_eq, zlet_eq, show zF (zsI sD 3 P) 3 = nI n from h3, nI_1]
theorem q_push {sD : zOS} {n F : Nat} (hF : 1000 ≤ F) (hn : n ≤ 5) (h3 : zF sD 3 = nI n) : ∃ P n', fX5_push F sD = some (zsF (zsF (zsI sD 3 P) 3 (nI n')) 5 0) ∧ (n < 5 → n' = n + 1 ∧ (∀ k, k < 46 → P (46 * n + k) = zI sD 2 k) ∧ ∀ j, j < 46 * n → P j = zI sD 3 j) ∧ (n = 5 → n' = 5 ∧ (∀ k, k < 46 → P (46 * 4 + k) = zI sD 2 k) ∧ ∀ j, j < 184 → P j = zI sD 3 (j + 46)) := by
  unfold fX5_push
  rw [h3]
  by_cases h5 : n = 5
  · subst h5
    rw [if_pos (show nI 5 = (5 : Int32) from rfl)]
    obtain ⟨F', p', ⟨P, rfl, hP, hQ⟩, -, e⟩ := zfor (B := fun kc9 (p9 : Int32 × zOS) => bX5_push_10 F kc9 p9.1 p9.2) (fun i p => ∃ P, p = (nI i, zsI sD 3 P) ∧ (∀ k, k < i → P k = zI sD 3 (k + 46)) ∧ ∀ j, i ≤ j → P j = zI sD 3 j) 184 (by
      rintro kc i p hi ⟨P, rfl, hP, hQ⟩
      refine ⟨(nI (i + 1), zsI sD 3 (upd P i (P (i + 46)))), ⟨_, rfl, fun k hk => ?_, fun j hj => ?_⟩, ?_⟩
      · by_cases e : k = i
        · subst e; rw [zud_s]; exact hQ _ (by omega)
        · rw [zud_n _ _ e]; exact hP k (by omega)
      · rw [zud_n _ _ (by omega)]; exact hQ j (by omega)
      · show bX5_push_10 F kc (nI i) (zsI sD 3 P) = _
        unfold bX5_push_10
        rw [if_neg (show ¬ (184 : Int32) ≤ nI i from zlt_no (n := 184) hi (by decide)), show nI i + (46 : Int32) = nI (i + 46) from nI_add i 46, zchk_nI (show i + 46 < 230 by omega) (by decide), zchk_nI (show i < 230 by omega) (by decide), zlet_eq, nI_clamp (show i < 2 ^ 31 by omega), nI_clamp (show i + 46 < 2 ^ 31 by omega), nI_1]
        show kc (nI (i + 1), zsI (zsI sD 3 P) 3 (upd P i (P (i + 46)))) = _
        rw [zsI_I]) (F := F) (p := ((0 : Int32), sD)) ⟨zI sD 3, by rw [zsI_self]; rfl, fun k hk => by omega, fun _ _ => rfl⟩ (by omega)
    obtain ⟨P', f1, f2, f3⟩ := q_push48 (sD := zsF (zsI sD 3 P) 3 (nI 4)) (n := 4) (F := F) hF (by decide) rfl
    refine ⟨P', 5, e.trans ?_, fun h => by omega, fun _ => ⟨rfl, f2, fun j hj => ?_⟩⟩
    · show bX5_push_10 F _ (nI 184) (zsI sD 3 P) = _
      unfold bX5_push_10
      rw [if_pos (show (184 : Int32) ≤ nI 184 from zle_ok (Nat.le_refl 184) (by decide)), zlet_eq, show zF (zsI sD 3 P) 3 = nI 5 from h3, show nI 5 - (1 : Int32) = nI 4 from rfl, f1]
      rw [show zsI (zsF (zsI sD 3 P) 3 (nI 4)) 3 P' = zsF (zsI (zsI sD 3 P) 3 P') 3 (nI 4) from rfl, zsI_I, zsF_F]
    · rw [f3 j hj]; exact hP j hj
  · rw [if_neg (show ¬ nI n = (5 : Int32) from fun q => h5 ((nI_eq (a := n) (b := 5) (by omega) (by decide)).mp q))]
    obtain ⟨P, f1, f2, f3⟩ := q_push48 (F := F) hF (show n < 5 by omega) h3
    exact ⟨P, n + 1, f1, fun _ => ⟨rfl, f2, f3⟩, fun h => absurd h h5⟩
theorem p_take {sP sO : zOS} : ∃ r, fX2_take sP sO = some r ∧ ∀ a, zpl sO a → zpl r a := by
  unfold fX2_take
  simp only [zlet_eq]
  refine ⟨_, rfl, ?_⟩
  rintro a ⟨h1, nd, np, h2, h3, h4, h5, h6, h7, h8, h9⟩
  refine ⟨fun l hl i hi => ?_, nd, np, h2, h3, h4, h5, h6, h7, fun i hi => ?_, fun i hi => ?_⟩
  · show zt (if 0 ≤ l ∧ l < 0 + 4 then zL sO 1 (0 + (l - 0)) else zL sP 1 l) i = _
    rw [if_pos (by omega), show 0 + (l - 0) = l by omega]
    exact h1 l hl i hi
  · show (if 0 ≤ i ∧ i < 0 + 18 then zI sO 2 (0 + (i - 0)) else zI sP 2 i) = _ ∧ _
    rw [if_pos (by omega), show 0 + (i - 0) = i by omega]
    exact h8 i hi
  · show (if 0 ≤ i ∧ i < 0 + 18 then zI sO 3 (0 + (i - 0)) else zI sP 3 i) = _ ∧ _
    rw [if_pos (by omega), show 0 + (i - 0) = i by omega]
    exact h9 i hi
theorem p_keep12 {sX sB : zOS} {sSS : zSS} {n : Nat} (hn : n < 5) (h7 : zF sX 7 = nI n) : ∃ r, jX4_keepBefore_12 sX sB sSS = some (zsF sX 7 (nI (n + 1)), (sSS.1, va_up sSS.2 n r)) ∧ ∀ a, zpl sB a → zpl r a := by
  obtain ⟨r, hr, hz⟩ := p_take (sP := sSS.2 n) (sO := sB)
  refine ⟨r, ?_, hz⟩
  unfold jX4_keepBefore_12
  rw [h7, zchk_nI hn (by decide), nI_1]
  rcases (show n = 0 ∨ n = 1 ∨ n = 2 ∨ n = 3 ∨ n = 4 by omega) with rfl | rfl | rfl | rfl | rfl
  · rw [if_pos (show nI 0 = (0 : Int32) from rfl), hr]; rfl
  · rw [if_neg (show ¬ nI 1 = (0 : Int32) by decide), if_pos (show nI 1 = (1 : Int32) from rfl), hr]; rfl
  · rw [if_neg (show ¬ nI 2 = (0 : Int32) by decide), if_neg (show ¬ nI 2 = (1 : Int32) by decide), if_pos (show nI 2 = (2 : Int32) from rfl), hr]; rfl
  · rw [if_neg (show ¬ nI 3 = (0 : Int32) by decide), if_neg (show ¬ nI 3 = (1 : Int32) by decide), if_neg (show ¬ nI 3 = (2 : Int32) by decide), if_pos (show nI 3 = (3 : Int32) from rfl), hr]; rfl
  · rw [if_neg (show ¬ nI 4 = (0 : Int32) by decide), if_neg (show ¬ nI 4 = (1 : Int32) by decide), if_neg (show ¬ nI 4 = (2 : Int32) by decide), if_neg (show ¬ nI 4 = (3 : Int32) by decide), if_pos (show nI 4 = (4 : Int32) from rfl), hr]; rfl
theorem p_drop {sX : zOS} {sSS : zSS} : fX4_dropOldestState sX sSS = some (zsF sX 7 4, zrot sSS) := by
  unfold fX4_dropOldestState
  rw [zck (j := (0 : Int32)) (n := 5) 0 rfl (by decide) (by decide), if_neg (show ¬ (5 : Int32) ≤ 1 by decide), zck (j := (1 : Int32)) (n := 5) 1 rfl (by decide) (by decide), zck (j := (1 : Int32) - 1) (n := 5) 0 rfl (by decide) (by decide), if_neg (show ¬ (5 : Int32) ≤ 2 by decide), zck (j := (2 : Int32)) (n := 5) 2 rfl (by decide) (by decide), zck (j := (2 : Int32) - 1) (n := 5) 1 rfl (by decide) (by decide), if_neg (show ¬ (5 : Int32) ≤ 3 by decide), zck (j := (3 : Int32)) (n := 5) 3 rfl (by decide) (by decide), zck (j := (3 : Int32) - 1) (n := 5) 2 rfl (by decide) (by decide), if_neg (show ¬ (5 : Int32) ≤ 4 by decide), zck (j := (4 : Int32)) (n := 5) 4 rfl (by decide) (by decide), zck (j := (4 : Int32) - 1) (n := 5) 3 rfl (by decide) (by decide), if_pos (show (5 : Int32) ≤ 5 by decide)]
  rw [zck (j := (4 : Int32)) (n := 5) 4 rfl (by decide) (by decide), zlet_eq]
/-- the states to go back to, on both sides -/
def zsts (sX : zOS) (sSS : zSS) (sD : zOS) : Prop := ∃ n, n ≤ 5 ∧ zF sX 7 = nI n ∧ zF sD 3 = nI n ∧ ∀ i, i < n → zpl (sSS.2 i) (fun k => zI sD 3 (46 * i + k))
theorem zpushq {sX sB : zOS} {sSS : zSS} {sD : zOS} {F : Nat} (hF : 1000 ≤ F) (hs : zsts sX sSS sD) (hB : zpl sB (zI sD 2)) : ∃ n' S' P, n' ≤ 5 ∧ fX4_keepBefore sX sB sSS = some (zsF sX 7 (nI n'), S') ∧ fX5_push F sD = some (zsF (zsF (zsI sD 3 P) 3 (nI n')) 5 0) ∧ ∀ i, i < n' → zpl (S'.2 i) (fun k => P (46 * i + k)) := by
  obtain ⟨n, hn, h7, h3, hz⟩ := hs
  obtain ⟨P, n', e, c1, c2⟩ := q_push (F := F) hF hn h3
  unfold fX4_keepBefore
  rw [h7]
  by_cases h5 : n = 5
  · subst h5
    obtain ⟨rfl, g1, g2⟩ := c2 rfl
    obtain ⟨r, k1, k2⟩ := p_keep12 (sX := zsF sX 7 4) (sB := sB) (sSS := zrot sSS) (n := 4) (by decide) rfl
    rw [if_neg (show ¬ nI 5 < (5 : Int32) by decide), p_drop, Option.bind_some, k1]
    refine ⟨5, _, P, by omega, by rw [zsF_F], e, fun i hi => ?_⟩
    show zpl (if i = 4 then r else sSS.2 ((i + 1) % 5)) _
    by_cases h4 : i = 4
    · subst h4
      rw [if_pos rfl]
      exact zpl_congr (fun k hk => (g1 k hk).symm) (k2 _ hB)
    · rw [if_neg h4, show (i + 1) % 5 = i + 1 by omega]
      refine zpl_congr (fun k hk => ?_) (hz (i + 1) (by omega))
      show zI sD 3 (46 * (i + 1) + k) = P (46 * i + k)
      rw [g2 _ (by omega)]
      congr 1
      omega
  · obtain ⟨rfl, g1, g2⟩ := c1 (by omega)
    obtain ⟨r, k1, k2⟩ := p_keep12 (sX := sX) (sB := sB) (sSS := sSS) (n := n) (by omega) h7
    rw [if_pos (show nI n < (5 : Int32) from nI_lt (b := 5) (by omega) (by decide)), k1]
    refine ⟨n + 1, _, P, by omega, rfl, e, fun i hi => ?_⟩
    show zpl (if i = n then r else sSS.2 i) _
    by_cases h4 : i = n
    · subst h4
      rw [if_pos rfl]
      exact zpl_congr (fun k hk => (g1 k hk).symm) (k2 _ hB)
    · rw [if_neg h4]
      exact zpl_congr (fun k hk => (g2 _ (by omega)).symm) (hz i (by omega))
/-! refusing -/
theorem zrefuse {r : Int32} (hr : r = -2 ∨ r = -3 ∨ r = -4) : ∃ k, k < 3 ∧ (-2 : Int32) - r = nI k := by
  rcases hr with rfl | rfl | rfl
  · exact ⟨0, by decide, by decide⟩
  · exact ⟨1, by decide, by decide⟩
  · exact ⟨2, by decide, by decide⟩
theorem p_refuse {sX : zOS} {r : Int32} {k : Nat} (hk : k < 3) (e : (-2 : Int32) - r = nI k) : fX4_refuse r sX = some (r, zsI sX 2 (upd (zI sX 2) k (zI sX 2 k + 1))) := by
  unfold fX4_refuse
  rw [zlet_eq, e, p_isWithin, show zin (nI k) 3 = true from (zin_iff (n := 3) (by decide)).mpr ⟨k, hk, rfl⟩, Option.bind_some, zif_b, if_pos rfl, zchk_nI hk (by decide), zchk_nI hk (by decide), zlet_eq, nI_clamp (show k < 2 ^ 31 by omega)]
theorem q_refuse {sD : zOS} {r : Int32} {k : Nat} (hk : k < 3) (e : (-2 : Int32) - r = nI k) : fX5_refuses r sD = some (r, zsI sD 4 (upd (zI sD 4) k (zI sD 4 k + 1))) := by
  unfold fX5_refuses
  rw [e, zchk_nI hk (by decide), zchk_nI hk (by decide), zlet_eq, nI_clamp (show k < 2 ^ 31 by omega)]
/-- how often refused -/
def zrq (sX sD : zOS) : Prop := ∀ k, k < 3 → zI sX 2 k = zI sD 4 k
theorem zrefused {sX sD : zOS} {r : Int32} (hr : r = -2 ∨ r = -3 ∨ r = -4) (h : zrq sX sD) : ∃ R R', fX4_refuse r sX = some (r, zsI sX 2 R) ∧ fX5_refuses r sD = some (r, zsI sD 4 R') ∧ ∀ k, k < 3 → R k = R' k := by
  obtain ⟨k, hk, e⟩ := zrefuse hr
  refine ⟨_, _, p_refuse hk e, q_refuse hk e, fun j hj => ?_⟩
  by_cases ej : j = k
  · subst ej; rw [zud_s, zud_s, h j hj]
  · rw [zud_n _ _ ej, zud_n _ _ ej]; exact h j hj
/-! back -/
theorem zbackq {sX sP : zOS} {sSS : zSS} {sD : zOS} {F : Nat} (hF : 1000 ≤ F) (hs : zsts sX sSS sD) (hq : zrq sX sD) :
    (∃ R R', fX4_back sX sP sSS = some (-3, zsI sX 2 R, sP) ∧ fX5_back F sD = some (-3, zsI sD 4 R') ∧ ∀ k, k < 3 → R k = R' k) ∨
    ∃ n sP' a, n < 5 ∧ fX4_back sX sP sSS = some (nI n, zsF (zsF sX 7 (nI n)) 8 0, sP') ∧ fX5_back F sD = some (nI n, zsF (zsI (zsF sD 3 (nI n)) 1 a) 5 0) ∧ zpl sP' a ∧ ∀ i, i < n → zpl (sSS.2 i) (fun k => zI sD 3 (46 * i + k)) := by
  obtain ⟨n, hn, h7, h3, hz⟩ := hs
  unfold fX4_back fX5_back
  cases n with
  | zero =>
    left
    obtain ⟨R, R', e1, e2, e3⟩ := zrefused (r := -3) (by decide) hq
    rw [h7, h3, if_neg (show ¬ 0 < nI 0 by decide), if_pos (show nI 0 = 0 from rfl), e1, e2]
    exact ⟨R, R', rfl, rfl, e3⟩
  | succ n =>
    right
    obtain ⟨r, hr, hz2⟩ := p_take (sP := sP) (sO := sSS.2 n)
    obtain ⟨F', p', ⟨A, rfl, hA⟩, -, e⟩ := zfor (B := fun kc9 (p9 : Int32 × zOS) => bX5_back_26 F kc9 p9.1 p9.2) (fun i p => ∃ A, p = (nI i, zsI (zsF sD 3 (nI n)) 1 A) ∧ (∀ k, k < i → A k = zI sD 3 (46 * n + k))) 46 (by
      rintro kc i p hi ⟨A, rfl, hA⟩
      refine ⟨(nI (i + 1), zsI (zsF sD 3 (nI n)) 1 (upd A i (zI sD 3 (46 * n + i)))), ⟨_, rfl, fun k hk => ?_⟩, ?_⟩
      · by_cases e : k = i
        · subst e; exact zud_s _ _ _
        · rw [zud_n _ _ e]; exact hA k (by omega)
      · show bX5_back_26 F kc (nI i) (zsI (zsF sD 3 (nI n)) 1 A) = _
        unfold bX5_back_26
        rw [if_neg (show ¬ (46 : Int32) ≤ nI i from zlt_no (n := 46) hi (by decide)), show zF (zsI (zsF sD 3 (nI n)) 1 A) 3 = nI n from rfl, zmu (m := (46 : Int32)) (c := 46) rfl, zchk_nI (show 46 * n + i < 230 by omega) (by decide), zchk_nI hi (by decide), zlet_eq, nI_clamp (show i < 2 ^ 31 by omega), nI_clamp (show 46 * n + i < 2 ^ 31 by omega), nI_1]
        show kc (nI (i + 1), zsI (zsI (zsF sD 3 (nI n)) 1 A) 1 (upd A i (zI sD 3 (46 * n + i)))) = _
        rw [zsI_I]) (F := F) (p := ((0 : Int32), zsF sD 3 (nI n))) ⟨zI (zsF sD 3 (nI n)) 1, by rw [zsI_self]; rfl, fun k hk => by omega⟩ (by omega)
    rw [h7, h3, if_pos (show 0 < nI (n + 1) from nI_lt (a := 0) (by omega) (by omega)), if_neg (show ¬ nI (n + 1) = 0 from fun q => by have := (nI_eq (a := n + 1) (b := 0) (by omega) (by omega)).mp q; omega), zlet_eq, zlet_eq, nI_pred]
    refine ⟨n, r, A, by omega, ?_, e.trans ?_, zpl_congr (fun k hk => (hA k hk).symm) (hz2 _ (hz n (by omega))), fun i hi => hz i (by omega)⟩
    · rw [show zF (zsF sX 7 (nI n)) 7 = nI n from rfl, zchk_nI (show n < 5 by omega) (by decide)]
      rcases (show n = 0 ∨ n = 1 ∨ n = 2 ∨ n = 3 ∨ n = 4 by omega) with rfl | rfl | rfl | rfl | rfl
      · rw [if_pos (show nI 0 = (0 : Int32) from rfl), hr]; rfl
      · rw [if_neg (show ¬ nI 1 = (0 : Int32) by decide), if_pos (show nI 1 = (1 : Int32) from rfl), hr]; rfl
      · rw [if_neg (show ¬ nI 2 = (0 : Int32) by decide), if_neg (show ¬ nI 2 = (1 : Int32) by decide), if_pos (show nI 2 = (2 : Int32) from rfl), hr]; rfl
      · rw [if_neg (show ¬ nI 3 = (0 : Int32) by decide), if_neg (show ¬ nI 3 = (1 : Int32) by decide), if_neg (show ¬ nI 3 = (2 : Int32) by decide), if_pos (show nI 3 = (3 : Int32) from rfl), hr]; rfl
      · rw [if_neg (show ¬ nI 4 = (0 : Int32) by decide), if_neg (show ¬ nI 4 = (1 : Int32) by decide), if_neg (show ¬ nI 4 = (2 : Int32) by decide), if_neg (show ¬ nI 4 = (3 : Int32) by decide), if_pos (show nI 4 = (4 : Int32) from rfl), hr]; rfl
    · show bX5_back_26 F _ (nI 46) (zsI (zsF sD 3 (nI n)) 1 A) = _
      unfold bX5_back_26
      rw [if_pos (show (46 : Int32) ≤ nI 46 from zle_ok (Nat.le_refl 46) (by decide)), zlet_eq]
      rfl
