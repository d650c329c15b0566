/-! PURE: what the class reads of plan and layout, in the reference's numbers -/
theorem zcw_same {sL : zOS} {N : Nat} {lab lab' : Nat → Option Nat} (h : zcw sL N lab) (he : ∀ p, p < 192 → lab p = lab' p) : zcw sL N lab' := by
  obtain ⟨h1, h2, h3, h4⟩ := h
  refine ⟨h1, h2, fun l hl v hv c => ?_, fun p v hp hv => h4 p v hp (by rw [he p hp]; exact hv)⟩
  rw [h3 l hl v hv c]
  constructor
  · rintro ⟨c1, c2⟩; exact ⟨c1, by rw [← he _ (by omega)]; exact c2⟩
  · rintro ⟨c1, c2⟩; exact ⟨c1, by rw [he _ (by omega)]; exact c2⟩
/-- the class's layout beside a reading of the reference's -/
def zcc (sL s : zOS) (m N nG : Nat) (lab labG : Nat → Option Nat) : Prop :=
  zcw sL N lab ∧ zF sL 14 = nI nG ∧ nG ≤ 32 ∧ (∀ j, j < nG → ∀ k, k < 6 → zcv sL j k = zVs s j k) ∧ (∀ j, j < nG → fX0_isWell (nI j) sL = some (zb (zqw s j))) ∧ (∀ v, v < N → zI sL 7 v = nI (zhw (zVs s) (zqw s) (nI v) nG)) ∧ zF sL 15 = nI (zcount (fun j => !zqw s j) nG) ∧ (∀ j, j < nG → ∀ c, zt (zL sL 8 j) c = true ↔ c < 64 ∧ labG c = some j) ∧ zF sL 12 = nI m ∧ m ≤ 96
theorem zcc_of {sL sP s : zOS} {m N nG : Nat} {lab0 lab labG : Nat → Option Nat} (h : zlok sL) (hL : ∀ l, l < 4 → zL sL 1 l = zL sP 1 l) (hp : zpl sP (zI s 1)) (hq : zqlay s m N nG lab0 lab labG) : zcc sL s m N nG lab labG := by
  obtain ⟨m', N', nG', lab0', lab', labG', hy⟩ := h
  have hb : ∀ l, l < 4 → ∀ i, i < 64 → zlb sL l i = zmb (zI s 1) l i := fun l hl i hi => by
    unfold zlb
    rw [hL l hl]
    exact hp.1 l hl i hi
  obtain ⟨e1, e2, e3, e4, e5, e6⟩ := zlay_same hy hq hb
  obtain ⟨t1, t2, t3⟩ := ztold_same hy hq hb
  subst e1 e2 e3
  obtain ⟨x1, x2, x3, x4, x5, x6, x7, x8, x9, x10, x11⟩ := hy
  refine ⟨zcw_same x6 e5, x7, x8, fun j hj k hk => (t1 j hj).2.1 k hk, fun j hj => ?_, t2, t3, fun j hj c => ?_, x4, x5⟩
  · have h4 := (x9 j hj).2.2.2.2.2.1
    have h4 : zI sL 12 j = nI (zscan (zsdb lab' labG' j) N').1 := h4
    have hle := zscan_le (zsdb lab' labG' j) N'
    have hN := x6.2.1
    rw [p_isWell (by omega) (by omega) h4, (t1 j hj).2.2]
  · rw [(x9 j hj).1 c]
    constructor
    · rintro ⟨c1, c2⟩; exact ⟨c1, by rw [← e6 c c1]; exact c2⟩
    · rintro ⟨c1, c2⟩; exact ⟨c1, by rw [e6 c c1]; exact c2⟩
/-- the class's plan in numbers -/
def zpd (sP : zOS) (a : Nat → Int32) (nd np : Nat) : Prop := zpv a nd np ∧ zF sP 3 = nI nd ∧ zF sP 4 = nI np ∧ (∀ i, i < 3 * nd → zI sP 2 i = a (9 + i)) ∧ ∀ i, i < 3 * np → zI sP 3 i = a (28 + i)
section ZB
variable {sP sL sM s : zOS} {a : Nat → Int32} {nd np F : Nat}
theorem p_dev {i k : Nat} (h : zpd sP a nd np) (hi : i < nd) (hk : k < 3) : zI sP 2 (3 * i + k) = nI (zdvc a i k) := by
  rw [h.2.2.2.1 _ (by omega), show 9 + (3 * i + k) = 9 + 3 * i + k by omega]
  exact (zdvc_e h.1 hi hk).1
theorem p_tie3 {i k : Nat} (h : zpd sP a nd np) (hi : i < np) (hk : k < 3) : zI sP 3 (3 * i + k) = nI (zpnc a i k) := by
  rw [h.2.2.2.2 _ (by omega), show 28 + (3 * i + k) = 28 + 3 * i + k by omega]
  exact (zpnc_e h.1 hi hk).1
theorem p_gateNet {i : Nat} (h : zpd sP a nd np) (hi : i < nd) : fX2_gateNet (nI i) sP = some (nI (zdvc a i 0)) := by
  have := h.1.1
  unfold fX2_gateNet
  rw [nI31, zchk_nI (show 3 * i < 18 by omega) (by decide), nI_clamp (show 3 * i < 2 ^ 31 by omega), show zI sP 2 (3 * i) = nI (zdvc a i 0) from p_dev (k := 0) h hi (by decide)]
theorem p_sideA {i : Nat} (h : zpd sP a nd np) (hi : i < nd) : fX2_sideA (nI i) sP = some (nI (zdvc a i 1)) := by
  have := h.1.1
  unfold fX2_sideA
  rw [nI31, nI_1, zchk_nI (show 3 * i + 1 < 18 by omega) (by decide), nI_clamp (show 3 * i + 1 < 2 ^ 31 by omega), p_dev (k := 1) h hi (by decide)]
theorem p_sideB {i : Nat} (h : zpd sP a nd np) (hi : i < nd) : fX2_sideB (nI i) sP = some (nI (zdvc a i 2)) := by
  have := h.1.1
  unfold fX2_sideB
  rw [nI31, show nI (3 * i) + (2 : Int32) = nI (3 * i + 2) from nI_add _ 2, zchk_nI (show 3 * i + 2 < 18 by omega) (by decide), nI_clamp (show 3 * i + 2 < 2 ^ 31 by omega), p_dev (k := 2) h hi (by decide)]
theorem p_pinNet {i : Nat} (h : zpd sP a nd np) (hi : i < np) : fX2_pinNet (nI i) sP = some (nI (zpnc a i 2)) := by
  have := h.1.2.1
  unfold fX2_pinNet
  rw [nI31, show nI (3 * i) + (2 : Int32) = nI (3 * i + 2) from nI_add _ 2, zchk_nI (show 3 * i + 2 < 18 by omega) (by decide), nI_clamp (show 3 * i + 2 < 2 ^ 31 by omega), p_tie3 (k := 2) h hi (by decide)]
theorem p_nodeAt {l x y N : Nat} {lab : Nat → Option Nat} (hF : 1000 ≤ F) (hw : zcw sL N lab) (hl : l < 3) (hx : x < 8) (hy : y < 8) : Option.bind (fX4_cellBit (nI x) (nI y)) (fun r : Int64 => fX0_nodeWith F (nI l) r sL) = some (zenc (lab (64 * l + (8 * y + x)))) := by
  rw [p_cellBit hx hy, Option.bind_some]
  exact p_nodeWith hF hw hl (fun c hc => by
    rw [zt_bit (by omega), decide_eq_true_iff] at hc
    rw [hc]) (Or.inr ⟨8 * y + x, by rw [zt_bit (by omega)]; exact decide_eq_true rfl⟩)
theorem p_pinNode {i N : Nat} {lab : Nat → Option Nat} (hF : 1000 ≤ F) (h : zpd sP a nd np) (hw : zcw sL N lab) (hi : i < np) : fX0_pinNode F (nI i) sL sP = some (zenc (zpnd lab a i)) := by
  have := h.1.2.1
  obtain ⟨-, b1⟩ := zpnc_e h.1 hi (show 1 < 3 by decide)
  obtain ⟨-, b0⟩ := zpnc_e h.1 hi (show 0 < 3 by decide)
  rw [if_neg (by decide)] at b1 b0
  have hn := p_nodeAt (F := F) (l := 2) hF hw (by decide) b0 b1
  rw [p_cellBit b0 b1, Option.bind_some] at hn
  unfold fX0_pinNode fX2_pinBit
  rw [nI31, nI_1, zchk_nI (show 3 * i < 18 by omega) (by decide), zchk_nI (show 3 * i + 1 < 18 by omega) (by decide), nI_clamp (show 3 * i < 2 ^ 31 by omega), nI_clamp (show 3 * i + 1 < 2 ^ 31 by omega), show zI sP 3 (3 * i) = nI (zpnc a i 0) from p_tie3 (k := 0) h hi (by decide), p_tie3 (k := 1) h hi (by decide), p_cellBit b0 b1, Option.bind_some, Option.bind_some, show (2 : Int32) = nI 2 from rfl, hn, Option.bind_some]
  unfold zpnd
  rw [show 64 * 2 + (8 * zpnc a i 1 + zpnc a i 0) = 128 + 8 * zpnc a i 1 + zpnc a i 0 by omega]
theorem zdt_I {i n : Nat} (h : zpv a nd np) (hi : i < nd) (hn : n < 2 ^ 31) (k : Nat) (hk : k < 3) : (nI (zdvc a i k) = nI n) ↔ zdvc a i k = n := nI_eq (by have := (zdvc_e h hi hk).2; omega) hn
theorem p_netHang {n : Nat} (hF : 1000 ≤ F) (h : zpd sP a nd np) (hn : n < 2 ^ 31) : fX2_hangOf F (nI n) sP = some (nI (zsm (zdt (zdvc a) n) nd)) := by
  have hnd := h.1.1
  unfold fX2_hangOf
  obtain ⟨F', p', rfl, -, e⟩ := zfor (B := fun kc9 (p9 : Int32 × Int32) => bX2_hangOf_4 F (nI n) sP kc9 p9.1 p9.2) (fun i p => p = (nI (zsm (zdt (zdvc a) n) i), nI i)) nd (by
    rintro kc i p hi rfl
    refine ⟨_, rfl, ?_⟩
    show bX2_hangOf_4 F (nI n) sP kc (nI (zsm (zdt (zdvc a) n) i)) (nI i) = kc (nI (zsm (zdt (zdvc a) n) i + zdt (zdvc a) n i), nI (i + 1))
    generalize zsm (zdt (zdvc a) n) i = w
    have j45 : ∀ x y : Nat, jX2_hangOf_45 F kc (nI n) (nI i) (nI x) (nI y) sP = kc (nI (y + x + (if zdvc a i 2 = n then 1 else 0)), nI (i + 1)) := fun x y => by
      unfold jX2_hangOf_45
      rw [zlet_eq, nI_add, p_sideB h hi, Option.bind_some, zlet_eq, zlet_eq, nI_1, nI_1, Int32.add_zero]
      by_cases e : zdvc a i 2 = n
      · rw [if_pos ((zdt_I h.1 hi hn 2 (by decide)).mpr e), if_pos e]
      · rw [if_neg (fun q => e ((zdt_I h.1 hi hn 2 (by decide)).mp q)), if_neg e]; rfl
    have j28 : ∀ x y : Nat, jX2_hangOf_28 F kc (nI n) (nI i) (nI x) (nI y) sP = kc (nI (y + x + (if zdvc a i 1 = n then 1 else 0) + (if zdvc a i 2 = n then 1 else 0)), nI (i + 1)) := fun x y => by
      unfold jX2_hangOf_28
      rw [zlet_eq, nI_add, p_sideA h hi, Option.bind_some, show (1 : Int32) = nI 1 from rfl, show (0 : Int32) = nI 0 from rfl, j45, j45]
      by_cases e : zdvc a i 1 = n
      · rw [if_pos ((zdt_I h.1 hi hn 1 (by decide)).mpr e), if_pos e]
      · rw [if_neg (fun q => e ((zdt_I h.1 hi hn 1 (by decide)).mp q)), if_neg e]
    unfold bX2_hangOf_4 zdt
    rw [h.2.1, if_neg (zlt_no hi (by omega)), p_gateNet h hi, Option.bind_some, show (10 : Int32) = nI 10 from rfl, show (0 : Int32) = nI 0 from rfl, j28, j28]
    by_cases e : zdvc a i 0 = n
    · rw [if_pos ((zdt_I h.1 hi hn 0 (by decide)).mpr e), if_pos e]
      congr 3
      omega
    · rw [if_neg (fun q => e ((zdt_I h.1 hi hn 0 (by decide)).mp q)), if_neg e]
      congr 3
      omega) (F := F) (p := ((0 : Int32), (0 : Int32))) rfl (by omega)
  rw [e]
  show bX2_hangOf_4 F (nI n) sP _ (nI (zsm (zdt (zdvc a) n) nd)) (nI nd) = _
  unfold bX2_hangOf_4
  rw [h.2.1, if_pos (zle_ok (Nat.le_refl nd) (by omega))]
theorem q_netHangs {n : Nat} (hF : 1000 ≤ F) (h : zpv (zI s 1) nd np) (hn : n < 2 ^ 31) : fX5_netHangs F (nI n) s = some (nI (zsm (zdt (zdvc (zI s 1)) n) nd)) := by
  have hnd := h.1
  unfold fX5_netHangs
  obtain ⟨F', p', rfl, -, e⟩ := zfor (B := fun kc9 (p9 : Int32 × Int32) => bX5_netHangs_4 F (nI n) s kc9 p9.1 p9.2) (fun i p => p = (nI (zsm (zdt (zdvc (zI s 1)) n) i), nI i)) nd (by
    rintro kc i p hi rfl
    refine ⟨_, rfl, ?_⟩
    show bX5_netHangs_4 F (nI n) s kc (nI (zsm (zdt (zdvc (zI s 1)) n) i)) (nI i) = kc (nI (zsm (zdt (zdvc (zI s 1)) n) i + zdt (zdvc (zI s 1)) n i), nI (i + 1))
    generalize zsm (zdt (zdvc (zI s 1)) n) i = w
    have j47 : ∀ x y z : Nat, jX5_netHangs_47 F kc (nI n) (nI i) (nI x) (nI y) (nI z) s = kc (nI (z + (y + x + (if zdvc (zI s 1) i 2 = n then 1 else 0))), nI (i + 1)) := fun x y z => by
      unfold jX5_netHangs_47
      rw [nI_add, show fX5_ofDevice (nI i) 2 s = some (zI s 1 (9 + 3 * i + 2)) from q_ofDevice (k := 2) (by omega) (by decide), Option.bind_some, (zdvc_e h hi (show 2 < 3 by decide)).1, zlet_eq, zlet_eq, nI_1, nI_1, Int32.add_zero, nI_add, nI_add]
      by_cases e : zdvc (zI s 1) i 2 = n
      · rw [if_pos ((zdt_I h hi hn 2 (by decide)).mpr e), if_pos e]
      · rw [if_neg (fun q => e ((zdt_I h hi hn 2 (by decide)).mp q)), if_neg e]; rfl
    have j32 : ∀ x y : Nat, jX5_netHangs_32 F kc (nI n) (nI i) (nI x) (nI y) s = kc (nI (y + (x + (if zdvc (zI s 1) i 1 = n then 1 else 0) + (if zdvc (zI s 1) i 2 = n then 1 else 0))), nI (i + 1)) := fun x y => by
      unfold jX5_netHangs_32
      rw [show fX5_ofDevice (nI i) 1 s = some (zI s 1 (9 + 3 * i + 1)) from q_ofDevice (k := 1) (by omega) (by decide), Option.bind_some, (zdvc_e h hi (show 1 < 3 by decide)).1, show (1 : Int32) = nI 1 from rfl, show (0 : Int32) = nI 0 from rfl, j47, j47]
      by_cases e : zdvc (zI s 1) i 1 = n
      · rw [if_pos ((zdt_I h hi hn 1 (by decide)).mpr e), if_pos e]
      · rw [if_neg (fun q => e ((zdt_I h hi hn 1 (by decide)).mp q)), if_neg e]
    unfold bX5_netHangs_4 zdt
    rw [zck (j := (8 : Int32)) (n := 46) 8 rfl (by decide) (by decide), show zI s 1 (8 : Int32).toNatClampNeg = nI nd from h.2.2.1, if_neg (zlt_no hi (by omega)), show fX5_ofDevice (nI i) 0 s = some (zI s 1 (9 + 3 * i + 0)) from q_ofDevice (k := 0) (by omega) (by decide), Option.bind_some, (zdvc_e h hi (show 0 < 3 by decide)).1, show (10 : Int32) = nI 10 from rfl, show (0 : Int32) = nI 0 from rfl, j32, j32]
    by_cases e : zdvc (zI s 1) i 0 = n
    · rw [if_pos ((zdt_I h hi hn 0 (by decide)).mpr e), if_pos e]
    · rw [if_neg (fun q => e ((zdt_I h hi hn 0 (by decide)).mp q)), if_neg e]) (F := F) (p := ((0 : Int32), (0 : Int32))) rfl (by omega)
  rw [e]
  show bX5_netHangs_4 F (nI n) s _ (nI (zsm (zdt (zdvc (zI s 1)) n) nd)) (nI nd) = _
  unfold bX5_netHangs_4
  rw [zck (j := (8 : Int32)) (n := 46) 8 rfl (by decide) (by decide), show zI s 1 (8 : Int32).toNatClampNeg = nI nd from h.2.2.1, if_pos (zle_ok (Nat.le_refl nd) (by omega))]
theorem p_nodeHang {m N nG v : Nat} {lab labG : Nat → Option Nat} (hc : zcc sL s m N nG lab labG) (hv : v < N) : fX0_hangOf (nI v) sL = some (nI (zhw (zVs s) (zqw s) (nI v) nG)) := by
  have hN := hc.1.2.1
  unfold fX0_hangOf
  rw [hc.1.1, p_isWithin, show zin (nI v) (nI N) = true from (zin_iff (by omega)).mpr ⟨v, hv, rfl⟩, Option.bind_some, zif_b, if_pos rfl, zchk_nI (show v < 96 by omega) (by decide), nI_clamp (show v < 2 ^ 31 by omega), hc.2.2.2.2.2.1 v hv]
end ZB
