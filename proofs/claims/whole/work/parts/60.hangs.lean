/-! PURE: how much hangs on a node -/
def zhw (V : Nat → Nat → Int32) (wl : Nat → Bool) (x : Int32) : Nat → Nat
  | 0 => 0
  | j + 1 => zhw V wl x j + (if wl j then ((if V j 0 = x then 10 else 0) + (if V j 1 = x then 1 else 0)) + (if V j 2 = x then 1 else 0) else 0)
theorem zhw_le (V : Nat → Nat → Int32) (wl : Nat → Bool) (x : Int32) : ∀ n, zhw V wl x n ≤ 12 * n
  | 0 => Nat.le_refl _
  | n + 1 => by
    have := zhw_le V wl x n
    show zhw V wl x n + _ ≤ 12 * (n + 1)
    have h : (if wl n then ((if V n 0 = x then 10 else 0) + (if V n 1 = x then 1 else 0)) + (if V n 2 = x then 1 else 0) else 0) ≤ 12 := by
      split
      · split <;> split <;> split <;> omega
      · omega
    omega
theorem zhw_congr {V V' : Nat → Nat → Int32} {wl wl' : Nat → Bool} {x : Int32} : ∀ {n : Nat}, (∀ j, j < n → wl j = wl' j ∧ V j 0 = V' j 0 ∧ V j 1 = V' j 1 ∧ V j 2 = V' j 2) → zhw V wl x n = zhw V' wl' x n
  | 0, _ => rfl
  | n + 1, h => by
    show zhw V wl x n + _ = zhw V' wl' x n + _
    obtain ⟨h1, h2, h3, h4⟩ := h n (by omega)
    rw [zhw_congr (fun j hj => h j (by omega)), h1, h2, h3, h4]
/-- a gate is well if its first side is told -/
def zqw (sD : zOS) (j : Nat) : Bool := decide (¬ zI sD 8 (6 * j + 1) = -1)
theorem q_isWell {sD : zOS} {j : Nat} (hj : j < 32) : fX5_isWell (nI j) sD = some (zb (zqw sD j)) := by
  unfold fX5_isWell zqw
  rw [show fX5_ofGate (nI j) 1 sD = some (zI sD 8 (6 * j + 1)) from q_ofGate hj (by decide), Option.bind_some]
  by_cases e : zI sD 8 (6 * j + 1) = -1
  · rw [if_pos e, decide_eq_false (fun h => h e)]; rfl
  · rw [if_neg e, decide_eq_true e]; rfl
theorem q_nodeHangs {sD : zOS} {x : Int32} {n F : Nat} (hF : 1000 ≤ F) (hn : n ≤ 32) (h10 : zF sD 10 = nI n) : fX5_nodeHangs F x sD = some (nI (zhw (fun j k => zI sD 8 (6 * j + k)) (zqw sD) x n)) := by
  unfold fX5_nodeHangs
  rw [show (0 : Int32) = nI 0 from rfl]
  refine zit_wf (fun p => ∃ j, p = (nI (zhw (fun j k => zI sD 8 (6 * j + k)) (zqw sD) x j), nI j) ∧ j ≤ n) (fun p => 33 - p.2.toNatClampNeg) (fun o => o = some (nI (zhw (fun j k => zI sD 8 (6 * j + k)) (zqw sD) x n))) ?_ F (nI 0, nI 0) ⟨0, rfl, by omega⟩ (by show 33 - _ < F; omega)
  rintro kc ⟨x2, x3⟩ ⟨j, he, hj⟩
  obtain ⟨rfl, rfl⟩ := Prod.mk.inj he
  clear he
  show (∃ p', _ ∧ _ ∧ bX5_nodeHangs_4 F x sD kc (nI (zhw (fun j k => zI sD 8 (6 * j + k)) (zqw sD) x j)) (nI j) = kc p') ∨ bX5_nodeHangs_4 F x sD kc (nI (zhw (fun j k => zI sD 8 (6 * j + k)) (zqw sD) x j)) (nI j) = _
  unfold bX5_nodeHangs_4
  rw [h10]
  by_cases hjn : j = n
  · right
    subst hjn
    rw [if_pos (show nI j ≤ nI j by rw [zle_nI (by omega) (by omega)]; omega)]
  · left
    have hj' : j < 32 := by omega
    rw [if_neg (show ¬ nI n ≤ nI j by rw [zle_nI (by omega) (by omega)]; omega), q_isWell hj', Option.bind_some, zif_b]
    refine ⟨(nI (zhw (fun j k => zI sD 8 (6 * j + k)) (zqw sD) x (j + 1)), nI (j + 1)), ⟨j + 1, rfl, by omega⟩, by show 33 - (nI (j + 1)).toNatClampNeg < 33 - (nI j).toNatClampNeg; rw [nI_clamp (by omega), nI_clamp (by omega)]; omega, ?_⟩
    show _ = kc (nI (zhw (fun j k => zI sD 8 (6 * j + k)) (zqw sD) x j + (if zqw sD j then ((if zI sD 8 (6 * j + 0) = x then 10 else 0) + (if zI sD 8 (6 * j + 1) = x then 1 else 0)) + (if zI sD 8 (6 * j + 2) = x then 1 else 0) else 0)), nI (j + 1))
    generalize zhw (fun j k => zI sD 8 (6 * j + k)) (zqw sD) x j = h
    cases zqw sD j with
    | false =>
      rw [if_neg (by decide), if_neg (by decide), nI_1]
      rfl
    | true =>
      rw [if_pos rfl, if_pos rfl, show fX5_ofGate (nI j) 0 sD = some (zI sD 8 (6 * j + 0)) from q_ofGate hj' (by decide), Option.bind_some]
      have j52 : ∀ a b c : Nat, jX5_nodeHangs_52 F kc x (nI j) (nI a) (nI b) (nI c) sD = kc (nI (c + ((b + a) + (if zI sD 8 (6 * j + 2) = x then 1 else 0))), nI (j + 1)) := fun a b c => by
        unfold jX5_nodeHangs_52
        rw [show fX5_ofGate (nI j) 2 sD = some (zI sD 8 (6 * j + 2)) from q_ofGate hj' (by decide), Option.bind_some, zlet_eq, zlet_eq, show nI j + (1 : Int32) = nI (j + 1) from nI_add j 1, nI_add b a, show nI (b + a) + (1 : Int32) = nI (b + a + 1) from nI_add (b + a) 1, show nI (b + a) + (0 : Int32) = nI (b + a + 0) from nI_add (b + a) 0, nI_add, nI_add]
        split <;> rfl
      have j37 : ∀ b c : Nat, jX5_nodeHangs_37 F kc x (nI j) (nI b) (nI c) sD = kc (nI (c + ((b + (if zI sD 8 (6 * j + 1) = x then 1 else 0)) + (if zI sD 8 (6 * j + 2) = x then 1 else 0))), nI (j + 1)) := fun b c => by
        unfold jX5_nodeHangs_37
        rw [show fX5_ofGate (nI j) 1 sD = some (zI sD 8 (6 * j + 1)) from q_ofGate hj' (by decide), Option.bind_some]
        by_cases e : zI sD 8 (6 * j + 1) = x
        · rw [if_pos e, if_pos e]; exact j52 1 b c
        · rw [if_neg e, if_neg e]; exact j52 0 b c
      by_cases e : zI sD 8 (6 * j + 0) = x
      · rw [if_pos e, if_pos e]; exact j37 10 h
      · rw [if_neg e, if_neg e]; exact j37 0 h
/-- the class's addHang -/
theorem zsI_7I {σ : zOS} {J K : Nat → Int32} : zsI (zsI σ 7 J) 7 K = zsI σ 7 K := zsI_I
theorem p_addHang {s : zOS} {N d : Nat} {x : Int32} {H : Nat → Int32} {h : Nat → Nat} (hN : zF s 13 = nI N) (hN96 : N ≤ 96) (hH : ∀ v, v < N → H v = nI (h v)) : ∃ H', fX0_addHang x (nI d) (zsI s 7 H) = some (zsI s 7 H') ∧ ∀ v, v < N → H' v = nI (h v + if x = nI v then d else 0) := by
  unfold fX0_addHang
  rw [show zF (zsI s 7 H) 13 = nI N from hN, p_isWithin, Option.bind_some, zif_b]
  cases e : zin x (nI N) with
  | false =>
    refine ⟨H, rfl, fun v hv => ?_⟩
    rw [hH v hv, if_neg (fun hx => by rw [(zin_iff (by omega)).mpr ⟨v, hv, hx⟩] at e; cases e)]
    rfl
  | true =>
    obtain ⟨i, hi, rfl⟩ := (zin_iff (by omega)).mp e
    rw [if_pos rfl, zchk_nI (show i < 96 by omega) (by decide), zchk_nI (show i < 96 by omega) (by decide), zlet_eq, nI_clamp (show i < 2 ^ 31 by omega), show zI (zsI s 7 H) 7 = H from rfl, zsI_7I, hH i hi, nI_add]
    refine ⟨_, rfl, fun v hv => ?_⟩
    by_cases ev : v = i
    · subst ev; rw [zud_s, if_pos rfl]
    · rw [zud_n _ _ ev, hH v hv, if_neg (fun hx => ev ((nI_eq (by omega) (by omega)).mp hx).symm)]
      rfl
theorem p_fill7 {s : zOS} {F : Nat} (hF : 1000 ≤ F) : ∃ H, fJ7_fill_53178 F 96 7 0 s = some (zsI s 7 H) ∧ ∀ v, v < 96 → H v = 0 := by
  unfold fJ7_fill_53178
  rw [zlet_eq]
  refine zit_wf (fun p => ∃ v H, p = (nI v, zsI s 7 H) ∧ v ≤ 96 ∧ ∀ v', v' < v → H v' = 0) (fun p => 97 - p.1.toNatClampNeg) (fun o => ∃ H, o = some (zsI s 7 H) ∧ ∀ v, v < 96 → H v = 0) ?_ F (0, s) ⟨0, zI s 7, by
      show (nI 0, s) = _
      congr 1
      obtain ⟨a, b, c, d⟩ := s
      show (a, b, c, d) = (va_up a 7 (a 7), b, c, d)
      rw [va_id], by omega, fun v' hv => by omega⟩ (by show 97 - _ < F; omega)
  rintro kc ⟨x2, σ⟩ ⟨v, H, he, hv, hH⟩
  obtain ⟨rfl, rfl⟩ := Prod.mk.inj he
  show (∃ p', _ ∧ _ ∧ bJ7_fill_53178_5 F 96 7 0 (nI 96) kc (nI v) (zsI s 7 H) = kc p') ∨ (∃ H', bJ7_fill_53178_5 F 96 7 0 (nI 96) kc (nI v) (zsI s 7 H) = some (zsI s 7 H') ∧ _)
  unfold bJ7_fill_53178_5
  by_cases h96 : v = 96
  · right
    subst h96
    rw [if_pos (show nI 96 ≤ nI 96 by rw [zle_nI (by decide) (by decide)]; omega)]
    exact ⟨H, rfl, hH⟩
  · left
    rw [if_neg (show ¬ nI 96 ≤ nI v by rw [zle_nI (by decide) (by omega)]; omega), zchk_nI (show v < 96 by omega) (by decide), zlet_eq, nI_clamp (show v < 2 ^ 31 by omega), show zI (zsI s 7 H) 7 = H from rfl, zsI_7I, nI_1]
    refine ⟨(nI (v + 1), zsI s 7 (upd H v 0)), ⟨v + 1, _, rfl, by omega, fun v' hv' => ?_⟩, by show 97 - (nI (v + 1)).toNatClampNeg < _; rw [nI_clamp (by omega)]; omega, rfl⟩
    by_cases e : v' = v
    · subst e; exact zud_s _ _ _
    · rw [zud_n _ _ e]; exact hH v' (by omega)
theorem p_weighNodes {s : zOS} {N n F : Nat} {kk : Nat → Nat} (hF : 1000 ≤ F) (hN : zF s 13 = nI N) (hN96 : N ≤ 96) (hn : zF s 14 = nI n) (hn32 : n ≤ 32) (hk : ∀ j, j < n → zI s 12 j = nI (kk j) ∧ kk j < 2 ^ 31) :
    ∃ H, fX0_weighNodes F s = some (zsI s 7 H) ∧ ∀ v, v < N → H v = nI (zhw (zcv s) (fun j => zwb (kk j)) (nI v) n) := by
  unfold fX0_weighNodes
  obtain ⟨H0, f1, f2⟩ := p_fill7 (s := s) hF
  rw [f1, Option.bind_some, show (0 : Int32) = nI 0 from rfl]
  refine zit_wf (fun p => ∃ j H, p = (nI j, zsI s 7 H) ∧ j ≤ n ∧ ∀ v, v < N → H v = nI (zhw (zcv s) (fun j => zwb (kk j)) (nI v) j)) (fun p => 33 - p.1.toNatClampNeg) (fun o => ∃ H, o = some (zsI s 7 H) ∧ ∀ v, v < N → H v = nI (zhw (zcv s) (fun j => zwb (kk j)) (nI v) n)) ?_ F (nI 0, zsI s 7 H0) ⟨0, H0, rfl, by omega, fun v hv => f2 v (by omega)⟩ (by show 33 - _ < F; omega)
  rintro kc ⟨x1, σ⟩ ⟨j, H, he, hj, hH⟩
  obtain ⟨rfl, rfl⟩ := Prod.mk.inj he
  show (∃ p', _ ∧ _ ∧ bX0_weighNodes_10 F kc (nI j) (zsI s 7 H) = kc p') ∨ (∃ H', bX0_weighNodes_10 F kc (nI j) (zsI s 7 H) = some (zsI s 7 H') ∧ _)
  unfold bX0_weighNodes_10
  rw [show zF (zsI s 7 H) 14 = nI n from hn]
  by_cases hjn : j = n
  · right
    subst hjn
    rw [if_pos (show nI j ≤ nI j by rw [zle_nI (by omega) (by omega)]; omega)]
    exact ⟨H, rfl, hH⟩
  · left
    have hj' : j < n := by omega
    have hj32 : j < 32 := by omega
    obtain ⟨k1, k2⟩ := hk j hj'
    have mu : 33 - (nI (j + 1)).toNatClampNeg < 33 - (nI j).toNatClampNeg := by rw [nI_clamp (by omega), nI_clamp (by omega)]; omega
    rw [if_neg (show ¬ nI n ≤ nI j by rw [zle_nI (by omega) (by omega)]; omega), p_isWell (s := zsI s 7 H) (k := kk j) hj32 k2 k1, Option.bind_some, zif_b, zchk_nI hj32 (by decide), nI_1]
    cases hwb : zwb (kk j) with
    | false =>
      refine ⟨(nI (j + 1), zsI s 7 H), ⟨j + 1, H, rfl, by omega, fun v hv => ?_⟩, mu, rfl⟩
      rw [hH v hv]
      show _ = nI (_ + (if zwb (kk j) = true then _ else 0))
      rw [hwb]; rfl
    | true =>
      rw [if_pos rfl]
      obtain ⟨H1, a1, a2⟩ := p_addHang (d := 10) (x := zI s 9 j) hN hN96 hH
      rw [nI_clamp (show j < 2 ^ 31 by omega), show zI (zsI s 7 H) 9 = zI s 9 from rfl, show (10 : Int32) = nI 10 from rfl, a1, Option.bind_some, zchk_nI hj32 (by decide), show zI (zsI s 7 H1) 10 = zI s 10 from rfl]
      obtain ⟨H2, b1, b2⟩ := p_addHang (d := 1) (x := zI s 10 j) hN hN96 a2
      rw [show (1 : Int32) = nI 1 from rfl, b1, Option.bind_some, zchk_nI hj32 (by decide), show zI (zsI s 7 H2) 11 = zI s 11 from rfl]
      obtain ⟨H3, c1, c2⟩ := p_addHang (d := 1) (x := zI s 11 j) hN hN96 b2
      rw [c1, Option.bind_some]
      refine ⟨(nI (j + 1), zsI s 7 H3), ⟨j + 1, H3, rfl, by omega, fun v hv => ?_⟩, by rw [nI_clamp (by omega)] at mu; rw [nI_clamp (by omega)] at mu; show 33 - (nI (j + 1)).toNatClampNeg < _; rw [nI_clamp (by omega)]; omega, rfl⟩
      rw [c2 v hv]
      show _ = nI (_ + (if zwb (kk j) = true then _ else 0))
      rw [hwb, if_pos rfl]
      show nI (((zhw (zcv s) (fun j => zwb (kk j)) (nI v) j + (if zI s 9 j = nI v then 10 else 0)) + (if zI s 10 j = nI v then 1 else 0)) + (if zI s 11 j = nI v then 1 else 0)) = nI (zhw (zcv s) (fun j => zwb (kk j)) (nI v) j + (((if zI s 9 j = nI v then 10 else 0) + (if zI s 10 j = nI v then 1 else 0)) + (if zI s 11 j = nI v then 1 else 0)))
      congr 1
      omega
