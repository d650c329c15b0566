/-! PURE: the reference's small functions -/
theorem zI_F {σ : zOS} {k : Nat} {v : Int32} : zI (zsF σ k v) = zI σ := rfl
theorem zI_L {σ : zOS} {k : Nat} {v : Nat → Int64} : zI (zsL σ k v) = zI σ := rfl
theorem zI_H {σ : zOS} {v : Int64} : zI (zsH σ v) = zI σ := rfl
theorem zF_I {σ : zOS} {k : Nat} {v : Nat → Int32} : zF (zsI σ k v) = zF σ := rfl
theorem zF_L {σ : zOS} {k : Nat} {v : Nat → Int64} : zF (zsL σ k v) = zF σ := rfl
theorem zF_H {σ : zOS} {v : Int64} : zF (zsH σ v) = zF σ := rfl
theorem zL_I {σ : zOS} {k : Nat} {v : Nat → Int32} : zL (zsI σ k v) = zL σ := rfl
theorem zL_F {σ : zOS} {k : Nat} {v : Int32} : zL (zsF σ k v) = zL σ := rfl
theorem zL_H {σ : zOS} {v : Int64} : zL (zsH σ v) = zL σ := rfl
theorem zsI_I {σ : zOS} {k : Nat} {v w : Nat → Int32} : zsI (zsI σ k v) k w = zsI σ k w := by
  unfold zsI
  rw [bx_uu]
theorem zsF_F {σ : zOS} {k : Nat} {v w : Int32} : zsF (zsF σ k v) k w = zsF σ k w := by
  unfold zsF
  rw [bx_uu]
theorem q_in (x a b : Int32) : fX5_in x a b = some (zb (decide (a ≤ x) && decide (x ≤ b))) := by
  unfold fX5_in
  by_cases h1 : x < a
  · rw [if_pos h1, zbk_0, decide_eq_false (by rw [Int32.not_le]; exact h1)]; rfl
  · rw [if_neg h1, decide_eq_true (Int32.not_lt.mp h1)]
    by_cases h3 : b < x
    · rw [if_pos h3, zbk_0, decide_eq_false (by rw [Int32.not_le]; exact h3)]; rfl
    · rw [if_neg h3, zbk_1, decide_eq_true (Int32.not_lt.mp h3)]; rfl
theorem zle_lt {x : Int32} {n : Nat} (hn : n + 1 < 2 ^ 31) : decide (x ≤ nI n) = decide (x < nI (n + 1)) := by
  rw [decide_eq_decide, Int32.le_iff_toInt_le, Int32.lt_iff_toInt_lt, nI_toInt (by omega), nI_toInt (by omega)]
  omega
theorem q_in0 (x : Int32) {n : Nat} (hn : n + 1 < 2 ^ 31) : fX5_in x 0 (nI n) = some (zb (zin x (nI (n + 1)))) := by
  rw [q_in, zle_lt hn]; rfl
theorem q_isCell (x y : Int32) : fX5_isCell x y = some (zb (zin x 8 && zin y 8)) := by
  unfold fX5_isCell
  rw [show (7 : Int32) = nI 7 from rfl, q_in0 x (by decide), Option.bind_some, zif_b, q_in0 y (by decide), Option.bind_some, zif_b, zbk_0, zbk_1]
  show (if zin x 8 = true then (if zin y 8 = true then _ else _) else _) = _
  cases zin x 8 <;> cases zin y 8 <;> rfl
theorem zs_l : ∀ n, n < 32 → ((nI n &&& 31).toBitVec.smod 32).toNat = n := by decide +kernel
theorem zu_and (x y : Int32) (i : Nat) : zu (x &&& y) i = (zu x i && zu y i) := by
  unfold zu; rw [Int32.toBitVec_and, BitVec.getLsbD_and]
theorem zu_or (x y : Int32) (i : Nat) : zu (x ||| y) i = (zu x i || zu y i) := by
  unfold zu; rw [Int32.toBitVec_or, BitVec.getLsbD_or]
theorem zu_xor (x y : Int32) (i : Nat) : zu (x ^^^ y) i = (zu x i ^^ zu y i) := by
  unfold zu; rw [Int32.toBitVec_xor, BitVec.getLsbD_xor]
theorem zu_1 (i : Nat) : zu 1 i = decide (i = 0) := by
  by_cases h : i < 32
  · have : ∀ i, i < 32 → zu 1 i = decide (i = 0) := by decide +kernel
    exact this i h
  · rw [zu_ge (by omega), decide_eq_false (by omega)]
theorem zu_sar (x : Int32) {k : Nat} (hk : k < 32) : ((x >>> (nI k &&& 31)) &&& 1) = zb (zu x k) := by
  apply zu_ext
  intro i hi
  rw [zu_and, zu_1]
  by_cases h : i = 0
  · subst h
    have e1 : zu (x >>> (nI k &&& 31)) 0 = zu x k := by
      unfold zu
      rw [Int32.toBitVec_shiftRight, BitVec.sshiftRight_eq', BitVec.getLsbD_sshiftRight, zs_l k hk]
      simp [hk]
    rw [e1]
    cases zu x k <;> rfl
  · rw [decide_eq_false h]
    cases zu x k with
    | false => rw [zb_f, zu_0]; simp
    | true => rw [zb_t, zu_1, decide_eq_false h]; simp
theorem zu_bit {k : Nat} (hk : k < 32) (i : Nat) : zu ((1 : Int32) <<< (nI k &&& 31)) i = decide (i = k) := by
  by_cases hi : i < 32
  · have : ∀ k, k < 32 → ∀ i, i < 32 → zu ((1 : Int32) <<< (nI k &&& 31)) i = decide (i = k) := by decide +kernel
    exact this k hk i hi
  · rw [zu_ge (by omega), decide_eq_false (by omega)]
/-- the reference's bit of a layer's cell -/
def zmb (a : Nat → Int32) (l i : Nat) : Bool := zu (a (2 * l + i / 32)) (i % 32)
theorem zix {l i : Nat} (hl : l < 4) (hi : i < 64) : (2 : Int32) * nI l + nI i / 32 = nI (2 * l + i / 32) := by
  rw [show (2 : Int32) = nI 2 from rfl, show (32 : Int32) = nI 32 from rfl, pk_mul, pk_div (by omega) (by decide) (by decide), nI_add]
theorem zrm {i d : Nat} (hi : i < 2 ^ 31) (h0 : 0 < d) (hd : d < 2 ^ 31) : nI i - nI i / nI d * nI d = nI (i % d) := pk_rem hi h0 hd
theorem q_isDrawn {sD : zOS} {l i : Nat} (hl : l < 4) (hi : i < 64) : fX5_isDrawn (nI l) (nI i) sD = some (zb (zmb (zI sD 1) l i)) := by
  unfold fX5_isDrawn
  rw [zdvk_ok (by decide), zix hl hi, zchk_nI (by omega) (by decide), zdvk_ok (by decide), nI_clamp (by omega), show (32 : Int32) = nI 32 from rfl, zrm (by omega) (by decide) (by decide), zu_sar _ (by omega), zbk_0, zbk_1]
  unfold zmb
  cases zu (zI sD 1 (2 * l + i / 32)) (i % 32) <;> rfl
theorem q_isGateCell {sD : zOS} {i : Nat} (hi : i < 64) : fX5_isGateCell (nI i) sD = some (zb (zmb (zI sD 1) 0 i && zmb (zI sD 1) 1 i)) := by
  unfold fX5_isGateCell
  rw [show (0 : Int32) = nI 0 from rfl, show (1 : Int32) = nI 1 from rfl, q_isDrawn (by decide) hi, q_isDrawn (by decide) hi]
  cases zmb (zI sD 1) 0 i <;> cases zmb (zI sD 1) 1 i <;> rfl
/-- wires: plain diffusion, poly, metal, as places 64 l + cell -/
def zwr (b : Nat → Nat → Bool) (p : Nat) : Bool := if p < 64 then b 0 p && !b 1 p else if p < 128 then b 1 (p - 64) else if p < 192 then b 2 (p - 128) else false
theorem zwr_lt {b : Nat → Nat → Bool} {p : Nat} (h : zwr b p = true) : p < 192 := by
  unfold zwr at h
  by_cases h1 : p < 64
  · omega
  · rw [if_neg h1] at h
    by_cases h2 : p < 128
    · omega
    · rw [if_neg h2] at h
      by_cases h3 : p < 192
      · exact h3
      · rw [if_neg h3] at h; cases h
theorem q_isWire {sD : zOS} {p : Nat} (hp : p < 192) : fX5_isWire (nI p) sD = some (zb (zwr (zmb (zI sD 1)) p)) := by
  unfold fX5_isWire
  rw [zdvk_ok (by decide), zlet_eq, zdvk_ok (by decide), show (64 : Int32) = nI 64 from rfl, zrm (by omega) (by decide) (by decide), pk_div (by omega) (by decide) (by decide), q_isDrawn (by omega) (by omega), Option.bind_some, zif_b, show (1 : Int32) = nI 1 from rfl, q_isDrawn (by decide) (by omega), Option.bind_some, zif_b]
  have hle : (nI 64 ≤ nI p) ↔ 64 ≤ p := nI_leI (by decide) (by omega)
  unfold zwr
  by_cases h1 : p < 64
  · rw [if_neg (show ¬ nI 64 ≤ nI p by rw [hle]; omega), if_pos h1, show p % 64 = p by omega, show p / 64 = 0 by omega]
    cases zmb (zI sD 1) 0 p <;> cases zmb (zI sD 1) 1 p <;> rfl
  · rw [if_pos (show nI 64 ≤ nI p by rw [hle]; omega), if_neg h1]
    by_cases h2 : p < 128
    · rw [if_pos h2, show p % 64 = p - 64 by omega, show p / 64 = 1 by omega]
      cases zmb (zI sD 1) 1 (p - 64) <;> rfl
    · rw [if_neg h2, if_pos hp, show p % 64 = p - 128 by omega, show p / 64 = 2 by omega]
      cases zmb (zI sD 1) 2 (p - 128) <;> rfl
/-- the cell beside one: above, below, left, right -/
def zbd (c s : Nat) : Option Nat := if s = 0 then (if 8 ≤ c then some (c - 8) else none) else if s = 1 then (if c + 8 < 64 then some (c + 8) else none) else if s = 2 then (if c % 8 = 0 then none else some (c - 1)) else if c % 8 = 7 then none else some (c + 1)
def zenc (o : Option Nat) : Int32 := match o with
  | none => -1
  | some k => nI k
set_option maxRecDepth 100000 in
theorem q_beside_all : ∀ c, c < 64 → ∀ s, s < 4 → fX5_beside (nI c) (nI s) = some (zenc (zbd c s)) := by decide +kernel
