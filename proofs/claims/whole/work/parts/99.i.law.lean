/-! PURE: the law answers 1 on every script -/
section ZLL
variable {sX sT sM sL sP sB : zOS} {sSS : zSS} {sD : zOS} {F L k : Nat} {xs : Nat → Int32}
def zLs (o : Option Int32) (kc : (Int32 × zOS × zOS × zOS × zOS × zOS × zOS × zSS × zOS) → Option Int32) (k : Nat) : Prop := ∃ sX' sT' sM' sL' sP' sB' S' sD', o = kc (nI (6 * (k + 1)), sX', sT', sM', sL', sP', sB', S', sD') ∧ zRR sX' sT' sM' sL' sP' S' sD'
theorem zlk (c : Nat) (hc : c < 6) (hk : 6 * k + 6 ≤ L) (hL : L ≤ 3072) (e : Option Int32) : zchk (nI (6 * k) + nI c) L e = e := by
  rw [nI_add]
  exact zchk_nI (by omega) (by omega)
theorem zl6 : nI (6 * k) + 6 = nI (6 * (k + 1)) := by
  rw [show (6 : Int32) = nI 6 from rfl, nI_add, show 6 * k + 6 = 6 * (k + 1) by omega]
theorem zl_144 (hF : 20000000 ≤ F) (hL : L ≤ 3072) (hk : 6 * k + 6 ≤ L) (h : zRR sX sT sM sL sP sSS sD) (kc : (Int32 × zOS × zOS × zOS × zOS × zOS × zOS × zSS × zOS) → Option Int32) : zLs (jL_law_144 F L xs kc (nI (6 * k)) sX sT sM sL sP sB sSS sD) kc k := by
  have hF1 : 1000 ≤ F := by omega
  have z1 : ∀ e : Option Int32, zchk (nI (6 * k) + (1 : Int32)) L e = e := fun e => zlk 1 (by decide) hk hL e
  have z2 : ∀ e : Option Int32, zchk (nI (6 * k) + (2 : Int32)) L e = e := fun e => zlk 2 (by decide) hk hL e
  have z3 : ∀ e : Option Int32, zchk (nI (6 * k) + (3 : Int32)) L e = e := fun e => zlk 3 (by decide) hk hL e
  have z4 : ∀ e : Option Int32, zchk (nI (6 * k) + (4 : Int32)) L e = e := fun e => zlk 4 (by decide) hk hL e
  have z5 : ∀ e : Option Int32, zchk (nI (6 * k) + (5 : Int32)) L e = e := fun e => zlk 5 (by decide) hk hL e
  unfold jL_law_144
  simp only [z1, z2, z3, z4, z5, zl6]
  obtain ⟨r, sX', sP', sB', S', sD', e1, e2, e3, e4⟩ := zo_draws (sB := sB) (x1 := xs (nI (6 * k) + (1 : Int32)).toNatClampNeg) (x2 := xs (nI (6 * k) + (2 : Int32)).toNatClampNeg) (x3 := xs (nI (6 * k) + (3 : Int32)).toNatClampNeg) (x4 := xs (nI (6 * k) + (4 : Int32)).toNatClampNeg) (x5 := xs (nI (6 * k) + (5 : Int32)).toNatClampNeg) hF1 h.1
  rw [e1, Option.bind_some, e2, Option.bind_some, if_pos rfl]
  exact ⟨_, _, _, _, _, _, _, _, rfl, zRR_cs h e3 e4⟩
theorem zl_207 (hF : 20000000 ≤ F) (hL : L ≤ 3072) (hk : 6 * k + 6 ≤ L) (h : zRR sX sT sM sL sP sSS sD) (kc : (Int32 × zOS × zOS × zOS × zOS × zOS × zOS × zSS × zOS) → Option Int32) : zLs (jL_law_207 F L xs kc (nI (6 * k)) sX sT sM sL sP sB sSS sD) kc k := by
  have hF1 : 1000 ≤ F := by omega
  have z1 : ∀ e : Option Int32, zchk (nI (6 * k) + (1 : Int32)) L e = e := fun e => zlk 1 (by decide) hk hL e
  have z2 : ∀ e : Option Int32, zchk (nI (6 * k) + (2 : Int32)) L e = e := fun e => zlk 2 (by decide) hk hL e
  have z3 : ∀ e : Option Int32, zchk (nI (6 * k) + (3 : Int32)) L e = e := fun e => zlk 3 (by decide) hk hL e
  have z4 : ∀ e : Option Int32, zchk (nI (6 * k) + (4 : Int32)) L e = e := fun e => zlk 4 (by decide) hk hL e
  have z5 : ∀ e : Option Int32, zchk (nI (6 * k) + (5 : Int32)) L e = e := fun e => zlk 5 (by decide) hk hL e
  unfold jL_law_207
  simp only [z1, z2, z3, z4, z5, zl6]
  obtain ⟨r, sX', sP', sB', S', sD', e1, e2, e3, e4⟩ := zo_rubs (sB := sB) (x1 := xs (nI (6 * k) + (1 : Int32)).toNatClampNeg) (x2 := xs (nI (6 * k) + (2 : Int32)).toNatClampNeg) (x3 := xs (nI (6 * k) + (3 : Int32)).toNatClampNeg) (x4 := xs (nI (6 * k) + (4 : Int32)).toNatClampNeg) (x5 := xs (nI (6 * k) + (5 : Int32)).toNatClampNeg) hF1 h.1
  rw [e1, Option.bind_some, e2, Option.bind_some, if_pos rfl]
  exact ⟨_, _, _, _, _, _, _, _, rfl, zRR_cs h e3 e4⟩
theorem zl_270 (hF : 20000000 ≤ F) (hL : L ≤ 3072) (hk : 6 * k + 6 ≤ L) (h : zRR sX sT sM sL sP sSS sD) (kc : (Int32 × zOS × zOS × zOS × zOS × zOS × zOS × zSS × zOS) → Option Int32) : zLs (jL_law_270 F L xs kc (nI (6 * k)) sX sT sM sL sP sB sSS sD) kc k := by
  have hF1 : 1000 ≤ F := by omega
  have z1 : ∀ e : Option Int32, zchk (nI (6 * k) + (1 : Int32)) L e = e := fun e => zlk 1 (by decide) hk hL e
  have z2 : ∀ e : Option Int32, zchk (nI (6 * k) + (2 : Int32)) L e = e := fun e => zlk 2 (by decide) hk hL e
  have z3 : ∀ e : Option Int32, zchk (nI (6 * k) + (3 : Int32)) L e = e := fun e => zlk 3 (by decide) hk hL e
  unfold jL_law_270
  simp only [z1, z2, z3, zl6]
  obtain ⟨r, sX', sP', sB', S', sD', e1, e2, e3, e4⟩ := zo_moves (sB := sB) (x1 := xs (nI (6 * k) + (1 : Int32)).toNatClampNeg) (x2 := xs (nI (6 * k) + (2 : Int32)).toNatClampNeg) (x3 := xs (nI (6 * k) + (3 : Int32)).toNatClampNeg) hF1 h.1
  rw [e1, Option.bind_some, e2, Option.bind_some, if_pos rfl]
  exact ⟨_, _, _, _, _, _, _, _, rfl, zRR_cs h e3 e4⟩
theorem zl_313 (hF : 20000000 ≤ F) (hL : L ≤ 3072) (hk : 6 * k + 6 ≤ L) (h : zRR sX sT sM sL sP sSS sD) (kc : (Int32 × zOS × zOS × zOS × zOS × zOS × zOS × zSS × zOS) → Option Int32) : zLs (jL_law_313 F L xs kc (nI (6 * k)) sX sT sM sL sP sB sSS sD) kc k := by
  have hF1 : 1000 ≤ F := by omega
  have z1 : ∀ e : Option Int32, zchk (nI (6 * k) + (1 : Int32)) L e = e := fun e => zlk 1 (by decide) hk hL e
  have z2 : ∀ e : Option Int32, zchk (nI (6 * k) + (2 : Int32)) L e = e := fun e => zlk 2 (by decide) hk hL e
  have z3 : ∀ e : Option Int32, zchk (nI (6 * k) + (3 : Int32)) L e = e := fun e => zlk 3 (by decide) hk hL e
  unfold jL_law_313
  simp only [z1, z2, z3, zl6]
  obtain ⟨r, sX', sP', sB', S', sD', e1, e2, e3, e4⟩ := zo_means (sB := sB) (x1 := xs (nI (6 * k) + (1 : Int32)).toNatClampNeg) (x2 := xs (nI (6 * k) + (2 : Int32)).toNatClampNeg) (x3 := xs (nI (6 * k) + (3 : Int32)).toNatClampNeg) hF1 h.1
  rw [e1, Option.bind_some, e2, Option.bind_some, if_pos rfl]
  exact ⟨_, _, _, _, _, _, _, _, rfl, zRR_cs h e3 e4⟩
theorem zl_356 (hF : 20000000 ≤ F) (hL : L ≤ 3072) (hk : 6 * k + 6 ≤ L) (h : zRR sX sT sM sL sP sSS sD) (kc : (Int32 × zOS × zOS × zOS × zOS × zOS × zOS × zSS × zOS) → Option Int32) : zLs (jL_law_356 F L xs kc (nI (6 * k)) sX sT sM sL sP sB sSS sD) kc k := by
  have hF1 : 1000 ≤ F := by omega
  have z1 : ∀ e : Option Int32, zchk (nI (6 * k) + (1 : Int32)) L e = e := fun e => zlk 1 (by decide) hk hL e
  have z2 : ∀ e : Option Int32, zchk (nI (6 * k) + (2 : Int32)) L e = e := fun e => zlk 2 (by decide) hk hL e
  have z3 : ∀ e : Option Int32, zchk (nI (6 * k) + (3 : Int32)) L e = e := fun e => zlk 3 (by decide) hk hL e
  unfold jL_law_356
  simp only [z1, z2, z3, zl6]
  obtain ⟨r, sX', sP', sB', S', sD', e1, e2, e3, e4⟩ := zo_pins (sB := sB) (x1 := xs (nI (6 * k) + (1 : Int32)).toNatClampNeg) (x2 := xs (nI (6 * k) + (2 : Int32)).toNatClampNeg) (x3 := xs (nI (6 * k) + (3 : Int32)).toNatClampNeg) hF1 h.1
  rw [e1, Option.bind_some, e2, Option.bind_some, if_pos rfl]
  exact ⟨_, _, _, _, _, _, _, _, rfl, zRR_cs h e3 e4⟩
theorem zl_399 (hF : 20000000 ≤ F) (hL : L ≤ 3072) (hk : 6 * k + 6 ≤ L) (h : zRR sX sT sM sL sP sSS sD) (kc : (Int32 × zOS × zOS × zOS × zOS × zOS × zOS × zSS × zOS) → Option Int32) : zLs (jL_law_399 F L xs kc (nI (6 * k)) sX sT sM sL sP sB sSS sD) kc k := by
  have hF1 : 1000 ≤ F := by omega
  unfold jL_law_399
  simp only [zl6]
  obtain ⟨r, sX', sP', sB', S', sD', e1, e2, e3, e4⟩ := zo_forgets (sB := sB) hF1 h.1
  rw [e1, Option.bind_some, e2, Option.bind_some, if_pos rfl]
  exact ⟨_, _, _, _, _, _, _, _, rfl, zRR_cs h e3 e4⟩
theorem zl_412 (hF : 20000000 ≤ F) (hL : L ≤ 3072) (hk : 6 * k + 6 ≤ L) (h : zRR sX sT sM sL sP sSS sD) (kc : (Int32 × zOS × zOS × zOS × zOS × zOS × zOS × zSS × zOS) → Option Int32) : zLs (jL_law_412 F L xs kc (nI (6 * k)) sX sT sM sL sP sB sSS sD) kc k := by
  have hF1 : 1000 ≤ F := by omega
  have z1 : ∀ e : Option Int32, zchk (nI (6 * k) + (1 : Int32)) L e = e := fun e => zlk 1 (by decide) hk hL e
  have z2 : ∀ e : Option Int32, zchk (nI (6 * k) + (2 : Int32)) L e = e := fun e => zlk 2 (by decide) hk hL e
  have z3 : ∀ e : Option Int32, zchk (nI (6 * k) + (3 : Int32)) L e = e := fun e => zlk 3 (by decide) hk hL e
  unfold jL_law_412
  simp only [z1, z2, z3, zl6]
  obtain ⟨r, sX', sD', e1, e2, e3⟩ := zg_at (x1 := xs (nI (6 * k) + (1 : Int32)).toNatClampNeg) (x2 := xs (nI (6 * k) + (2 : Int32)).toNatClampNeg) (x3 := xs (nI (6 * k) + (3 : Int32)).toNatClampNeg)  h
  rw [e1, Option.bind_some, e2, Option.bind_some, if_pos rfl]
  exact ⟨_, _, _, _, _, _, _, _, rfl, e3⟩
theorem zl_455 (hF : 20000000 ≤ F) (hL : L ≤ 3072) (hk : 6 * k + 6 ≤ L) (h : zRR sX sT sM sL sP sSS sD) (kc : (Int32 × zOS × zOS × zOS × zOS × zOS × zOS × zSS × zOS) → Option Int32) : zLs (jL_law_455 F L xs kc (nI (6 * k)) sX sT sM sL sP sB sSS sD) kc k := by
  have hF1 : 1000 ≤ F := by omega
  have z1 : ∀ e : Option Int32, zchk (nI (6 * k) + (1 : Int32)) L e = e := fun e => zlk 1 (by decide) hk hL e
  have z2 : ∀ e : Option Int32, zchk (nI (6 * k) + (2 : Int32)) L e = e := fun e => zlk 2 (by decide) hk hL e
  have z3 : ∀ e : Option Int32, zchk (nI (6 * k) + (3 : Int32)) L e = e := fun e => zlk 3 (by decide) hk hL e
  unfold jL_law_455
  simp only [z1, z2, z3, zl6]
  obtain ⟨r, sX', sL', sD', e1, e2, e3⟩ := zg_node (x1 := xs (nI (6 * k) + (1 : Int32)).toNatClampNeg) (x2 := xs (nI (6 * k) + (2 : Int32)).toNatClampNeg) (x3 := xs (nI (6 * k) + (3 : Int32)).toNatClampNeg) hF h
  rw [e1, Option.bind_some, e2, Option.bind_some, if_pos rfl]
  exact ⟨_, _, _, _, _, _, _, _, rfl, e3⟩
theorem zl_498 (hF : 20000000 ≤ F) (hL : L ≤ 3072) (hk : 6 * k + 6 ≤ L) (h : zRR sX sT sM sL sP sSS sD) (kc : (Int32 × zOS × zOS × zOS × zOS × zOS × zOS × zSS × zOS) → Option Int32) : zLs (jL_law_498 F L xs kc (nI (6 * k)) sX sT sM sL sP sB sSS sD) kc k := by
  have hF1 : 1000 ≤ F := by omega
  have z1 : ∀ e : Option Int32, zchk (nI (6 * k) + (1 : Int32)) L e = e := fun e => zlk 1 (by decide) hk hL e
  unfold jL_law_498
  simp only [z1, zl6]
  obtain ⟨r, sX', sM', sL', sD', e1, e2, e3⟩ := zg_count (x1 := xs (nI (6 * k) + (1 : Int32)).toNatClampNeg) hF h
  rw [e1, Option.bind_some, e2, Option.bind_some, if_pos rfl]
  exact ⟨_, _, _, _, _, _, _, _, rfl, e3⟩
theorem zl_521 (hF : 20000000 ≤ F) (hL : L ≤ 3072) (hk : 6 * k + 6 ≤ L) (h : zRR sX sT sM sL sP sSS sD) (kc : (Int32 × zOS × zOS × zOS × zOS × zOS × zOS × zSS × zOS) → Option Int32) : zLs (jL_law_521 F L xs kc (nI (6 * k)) sX sT sM sL sP sB sSS sD) kc k := by
  have hF1 : 1000 ≤ F := by omega
  have z1 : ∀ e : Option Int32, zchk (nI (6 * k) + (1 : Int32)) L e = e := fun e => zlk 1 (by decide) hk hL e
  have z2 : ∀ e : Option Int32, zchk (nI (6 * k) + (2 : Int32)) L e = e := fun e => zlk 2 (by decide) hk hL e
  unfold jL_law_521
  simp only [z1, z2, zl6]
  obtain ⟨r, sX', sL', sD', e1, e2, e3⟩ := zg_gateAt (x1 := xs (nI (6 * k) + (1 : Int32)).toNatClampNeg) (x2 := xs (nI (6 * k) + (2 : Int32)).toNatClampNeg) hF h
  rw [e1, Option.bind_some, e2, Option.bind_some, if_pos rfl]
  exact ⟨_, _, _, _, _, _, _, _, rfl, e3⟩
theorem zl_554 (hF : 20000000 ≤ F) (hL : L ≤ 3072) (hk : 6 * k + 6 ≤ L) (h : zRR sX sT sM sL sP sSS sD) (kc : (Int32 × zOS × zOS × zOS × zOS × zOS × zOS × zSS × zOS) → Option Int32) : zLs (jL_law_554 F L xs kc (nI (6 * k)) sX sT sM sL sP sB sSS sD) kc k := by
  have hF1 : 1000 ≤ F := by omega
  have z1 : ∀ e : Option Int32, zchk (nI (6 * k) + (1 : Int32)) L e = e := fun e => zlk 1 (by decide) hk hL e
  have z2 : ∀ e : Option Int32, zchk (nI (6 * k) + (2 : Int32)) L e = e := fun e => zlk 2 (by decide) hk hL e
  unfold jL_law_554
  simp only [z1, z2, zl6]
  obtain ⟨r, sX', sL', sD', e1, e2, e3⟩ := zg_gate (x1 := xs (nI (6 * k) + (1 : Int32)).toNatClampNeg) (x2 := xs (nI (6 * k) + (2 : Int32)).toNatClampNeg) hF h
  rw [e1, Option.bind_some, e2, Option.bind_some, if_pos rfl]
  exact ⟨_, _, _, _, _, _, _, _, rfl, e3⟩
theorem zl_587 (hF : 20000000 ≤ F) (hL : L ≤ 3072) (hk : 6 * k + 6 ≤ L) (h : zRR sX sT sM sL sP sSS sD) (kc : (Int32 × zOS × zOS × zOS × zOS × zOS × zOS × zSS × zOS) → Option Int32) : zLs (jL_law_587 F L xs kc (nI (6 * k)) sX sT sM sL sP sB sSS sD) kc k := by
  have hF1 : 1000 ≤ F := by omega
  have z1 : ∀ e : Option Int32, zchk (nI (6 * k) + (1 : Int32)) L e = e := fun e => zlk 1 (by decide) hk hL e
  have z2 : ∀ e : Option Int32, zchk (nI (6 * k) + (2 : Int32)) L e = e := fun e => zlk 2 (by decide) hk hL e
  unfold jL_law_587
  simp only [z1, z2, zl6]
  obtain ⟨r, sX', sL', sD', e1, e2, e3⟩ := zg_wire (x1 := xs (nI (6 * k) + (1 : Int32)).toNatClampNeg) (x2 := xs (nI (6 * k) + (2 : Int32)).toNatClampNeg) hF h
  rw [e1, Option.bind_some, e2, Option.bind_some, if_pos rfl]
  exact ⟨_, _, _, _, _, _, _, _, rfl, e3⟩
theorem zl_620 (hF : 20000000 ≤ F) (hL : L ≤ 3072) (hk : 6 * k + 6 ≤ L) (h : zRR sX sT sM sL sP sSS sD) (kc : (Int32 × zOS × zOS × zOS × zOS × zOS × zOS × zSS × zOS) → Option Int32) : zLs (jL_law_620 F L xs kc (nI (6 * k)) sX sT sM sL sP sB sSS sD) kc k := by
  have hF1 : 1000 ≤ F := by omega
  unfold jL_law_620
  simp only [zl6]
  obtain ⟨r, sX', sM', sL', sD', e1, e2, e3⟩ := zg_ways hF h
  rw [e1, Option.bind_some, e2, Option.bind_some, if_pos rfl]
  exact ⟨_, _, _, _, _, _, _, _, rfl, e3⟩
theorem zl_633 (hF : 20000000 ≤ F) (hL : L ≤ 3072) (hk : 6 * k + 6 ≤ L) (h : zRR sX sT sM sL sP sSS sD) (kc : (Int32 × zOS × zOS × zOS × zOS × zOS × zOS × zSS × zOS) → Option Int32) : zLs (jL_law_633 F L xs kc (nI (6 * k)) sX sT sM sL sP sB sSS sD) kc k := by
  have hF1 : 1000 ≤ F := by omega
  have z1 : ∀ e : Option Int32, zchk (nI (6 * k) + (1 : Int32)) L e = e := fun e => zlk 1 (by decide) hk hL e
  unfold jL_law_633
  simp only [z1, zl6]
  obtain ⟨r, sX', sM', sL', sD', e1, e2, e3⟩ := zg_matched (x1 := xs (nI (6 * k) + (1 : Int32)).toNatClampNeg) hF h
  rw [e1, Option.bind_some, e2, Option.bind_some, if_pos rfl]
  exact ⟨_, _, _, _, _, _, _, _, rfl, e3⟩
theorem zl_656 (hF : 20000000 ≤ F) (hL : L ≤ 3072) (hk : 6 * k + 6 ≤ L) (h : zRR sX sT sM sL sP sSS sD) (kc : (Int32 × zOS × zOS × zOS × zOS × zOS × zOS × zSS × zOS) → Option Int32) : zLs (jL_law_656 F L xs kc (nI (6 * k)) sX sT sM sL sP sB sSS sD) kc k := by
  have hF1 : 1000 ≤ F := by omega
  have z1 : ∀ e : Option Int32, zchk (nI (6 * k) + (1 : Int32)) L e = e := fun e => zlk 1 (by decide) hk hL e
  unfold jL_law_656
  simp only [z1, zl6]
  obtain ⟨r, sX', sM', sL', sD', e1, e2, e3⟩ := zg_net (x1 := xs (nI (6 * k) + (1 : Int32)).toNatClampNeg) hF h
  rw [e1, Option.bind_some, e2, Option.bind_some, if_pos rfl]
  exact ⟨_, _, _, _, _, _, _, _, rfl, e3⟩
theorem zl_679 (hF : 20000000 ≤ F) (hL : L ≤ 3072) (hk : 6 * k + 6 ≤ L) (h : zRR sX sT sM sL sP sSS sD) (kc : (Int32 × zOS × zOS × zOS × zOS × zOS × zOS × zSS × zOS) → Option Int32) : zLs (jL_law_679 F L xs kc (nI (6 * k)) sX sT sM sL sP sB sSS sD) kc k := by
  have hF1 : 1000 ≤ F := by omega
  have z1 : ∀ e : Option Int32, zchk (nI (6 * k) + (1 : Int32)) L e = e := fun e => zlk 1 (by decide) hk hL e
  have z2 : ∀ e : Option Int32, zchk (nI (6 * k) + (2 : Int32)) L e = e := fun e => zlk 2 (by decide) hk hL e
  unfold jL_law_679
  simp only [z1, z2, zl6]
  obtain ⟨r, sX', sD', e1, e2, e3⟩ := zg_device (x1 := xs (nI (6 * k) + (1 : Int32)).toNatClampNeg) (x2 := xs (nI (6 * k) + (2 : Int32)).toNatClampNeg)  h
  rw [e1, Option.bind_some, e2, Option.bind_some, if_pos rfl]
  exact ⟨_, _, _, _, _, _, _, _, rfl, e3⟩
theorem zl_712 (hF : 20000000 ≤ F) (hL : L ≤ 3072) (hk : 6 * k + 6 ≤ L) (h : zRR sX sT sM sL sP sSS sD) (kc : (Int32 × zOS × zOS × zOS × zOS × zOS × zOS × zSS × zOS) → Option Int32) : zLs (jL_law_712 F L xs kc (nI (6 * k)) sX sT sM sL sP sB sSS sD) kc k := by
  have hF1 : 1000 ≤ F := by omega
  have z1 : ∀ e : Option Int32, zchk (nI (6 * k) + (1 : Int32)) L e = e := fun e => zlk 1 (by decide) hk hL e
  have z2 : ∀ e : Option Int32, zchk (nI (6 * k) + (2 : Int32)) L e = e := fun e => zlk 2 (by decide) hk hL e
  unfold jL_law_712
  simp only [z1, z2, zl6]
  obtain ⟨r, sX', sL', sD', e1, e2, e3⟩ := zg_pin (x1 := xs (nI (6 * k) + (1 : Int32)).toNatClampNeg) (x2 := xs (nI (6 * k) + (2 : Int32)).toNatClampNeg) hF h
  rw [e1, Option.bind_some, e2, Option.bind_some, if_pos rfl]
  exact ⟨_, _, _, _, _, _, _, _, rfl, e3⟩
theorem zl_745 (hF : 20000000 ≤ F) (hL : L ≤ 3072) (hk : 6 * k + 6 ≤ L) (h : zRR sX sT sM sL sP sSS sD) (kc : (Int32 × zOS × zOS × zOS × zOS × zOS × zOS × zSS × zOS) → Option Int32) : zLs (jL_law_745 F L xs kc (nI (6 * k)) sX sT sM sL sP sB sSS sD) kc k := by
  have hF1 : 1000 ≤ F := by omega
  have z1 : ∀ e : Option Int32, zchk (nI (6 * k) + (1 : Int32)) L e = e := fun e => zlk 1 (by decide) hk hL e
  unfold jL_law_745
  simp only [z1, zl6]
  obtain ⟨r, sX', sD', e1, e2, e3⟩ := zg_hangs (x1 := xs (nI (6 * k) + (1 : Int32)).toNatClampNeg) hF1 h
  rw [e1, Option.bind_some, e2, Option.bind_some, if_pos rfl]
  exact ⟨_, _, _, _, _, _, _, _, rfl, e3⟩
theorem zl_768 (hF : 20000000 ≤ F) (hL : L ≤ 3072) (hk : 6 * k + 6 ≤ L) (h : zRR sX sT sM sL sP sSS sD) (kc : (Int32 × zOS × zOS × zOS × zOS × zOS × zOS × zSS × zOS) → Option Int32) : zLs (jL_law_768 F L xs kc (nI (6 * k)) sX sT sM sL sP sB sSS sD) kc k := by
  have hF1 : 1000 ≤ F := by omega
  have z1 : ∀ e : Option Int32, zchk (nI (6 * k) + (1 : Int32)) L e = e := fun e => zlk 1 (by decide) hk hL e
  unfold jL_law_768
  simp only [z1, zl6]
  obtain ⟨r, sX', sT', sD', e1, e2, e3⟩ := zg_type (x1 := xs (nI (6 * k) + (1 : Int32)).toNatClampNeg)  h
  rw [e1, Option.bind_some, e2, Option.bind_some, if_pos rfl]
  exact ⟨_, _, _, _, _, _, _, _, rfl, e3⟩
theorem zl_791 (hF : 20000000 ≤ F) (hL : L ≤ 3072) (hk : 6 * k + 6 ≤ L) (h : zRR sX sT sM sL sP sSS sD) (kc : (Int32 × zOS × zOS × zOS × zOS × zOS × zOS × zSS × zOS) → Option Int32) : zLs (jL_law_791 F L xs kc (nI (6 * k)) sX sT sM sL sP sB sSS sD) kc k := by
  have hF1 : 1000 ≤ F := by omega
  unfold jL_law_791
  simp only [zl6]
  obtain ⟨r, sT', sD', e1, e2, e3⟩ := zg_clear  h
  rw [e1, Option.bind_some, e2, Option.bind_some, if_pos rfl]
  exact ⟨_, _, _, _, _, _, _, _, rfl, e3⟩
theorem zl_804 (hF : 20000000 ≤ F) (hL : L ≤ 3072) (hk : 6 * k + 6 ≤ L) (h : zRR sX sT sM sL sP sSS sD) (kc : (Int32 × zOS × zOS × zOS × zOS × zOS × zOS × zSS × zOS) → Option Int32) : zLs (jL_law_804 F L xs kc (nI (6 * k)) sX sT sM sL sP sB sSS sD) kc k := by
  have hF1 : 1000 ≤ F := by omega
  unfold jL_law_804
  simp only [zl6]
  obtain ⟨r, sX', sT', sP', sB', S', sD', e1, e2, e3, e4⟩ := zo_does (sB := sB) hF1 h.1
  rw [e1, Option.bind_some, e2, Option.bind_some, if_pos rfl]
  exact ⟨_, _, _, _, _, _, _, _, rfl, zRR_cs h e3 e4⟩
theorem zl_817 (hF : 20000000 ≤ F) (hL : L ≤ 3072) (hk : 6 * k + 6 ≤ L) (h : zRR sX sT sM sL sP sSS sD) (kc : (Int32 × zOS × zOS × zOS × zOS × zOS × zOS × zSS × zOS) → Option Int32) : zLs (jL_law_817 F L xs kc (nI (6 * k)) sX sT sM sL sP sB sSS sD) kc k := by
  have hF1 : 1000 ≤ F := by omega
  unfold jL_law_817
  simp only [zl6]
  obtain ⟨r, sX', sP', sD', e1, e2, e3⟩ := zg_back hF1 h
  rw [e1, Option.bind_some, e2, Option.bind_some, if_pos rfl]
  exact ⟨_, _, _, _, _, _, _, _, rfl, e3⟩
theorem zl_830 (hF : 20000000 ≤ F) (hL : L ≤ 3072) (hk : 6 * k + 6 ≤ L) (h : zRR sX sT sM sL sP sSS sD) (kc : (Int32 × zOS × zOS × zOS × zOS × zOS × zOS × zSS × zOS) → Option Int32) : zLs (jL_law_830 F L xs kc (nI (6 * k)) sX sT sM sL sP sB sSS sD) kc k := by
  have hF1 : 1000 ≤ F := by omega
  have z1 : ∀ e : Option Int32, zchk (nI (6 * k) + (1 : Int32)) L e = e := fun e => zlk 1 (by decide) hk hL e
  unfold jL_law_830
  simp only [z1, zl6]
  obtain ⟨r, sX', sD', e1, e2, e3⟩ := zg_told (x1 := xs (nI (6 * k) + (1 : Int32)).toNatClampNeg)  h
  rw [e1, Option.bind_some, e2, Option.bind_some, if_pos rfl]
  exact ⟨_, _, _, _, _, _, _, _, rfl, e3⟩
theorem zl_853 (hF : 20000000 ≤ F) (hL : L ≤ 3072) (hk : 6 * k + 6 ≤ L) (h : zRR sX sT sM sL sP sSS sD) (kc : (Int32 × zOS × zOS × zOS × zOS × zOS × zOS × zSS × zOS) → Option Int32) : zLs (jL_law_853 F L xs kc (nI (6 * k)) sX sT sM sL sP sB sSS sD) kc k := by
  have hF1 : 1000 ≤ F := by omega
  unfold jL_law_853
  simp only [zl6]
  obtain ⟨r, sX', sM', sL', sD', e1, e2, e3⟩ := zg_digest hF h
  rw [e1, Option.bind_some, e2, Option.bind_some, if_pos ((zc_eq0 _ _).mpr rfl)]
  exact ⟨_, _, _, _, _, _, _, _, rfl, e3⟩
theorem zLs_step (hF : 20000000 ≤ F) (hL : L ≤ 3072) (hk : 6 * k + 6 ≤ L) (h : zRR sX sT sM sL sP sSS sD) (kc : (Int32 × zOS × zOS × zOS × zOS × zOS × zOS × zSS × zOS) → Option Int32) (hng : ¬ (nI L) - (6 : Int32) < nI (6 * k)) : zLs (bL_law_18 F L xs kc (nI (6 * k)) sX sT sM sL sP sB sSS sD) kc k := by
  unfold bL_law_18
  rw [if_neg hng, zchk_nI (show 6 * k < L by omega) (by omega)]
  generalize xs (nI (6 * k)).toNatClampNeg &&& 31 = c
  by_cases h0 : c = 0
  · rw [if_pos h0]
    exact zl_144 hF hL hk h kc
  rw [if_neg h0]
  by_cases h1 : c = 1
  · rw [if_pos h1]
    exact zl_207 hF hL hk h kc
  rw [if_neg h1]
  by_cases h2 : c = 2
  · rw [if_pos h2]
    exact zl_270 hF hL hk h kc
  rw [if_neg h2]
  by_cases h3 : c = 3
  · rw [if_pos h3]
    exact zl_313 hF hL hk h kc
  rw [if_neg h3]
  by_cases h4 : c = 4
  · rw [if_pos h4]
    exact zl_356 hF hL hk h kc
  rw [if_neg h4]
  by_cases h5 : c = 5
  · rw [if_pos h5]
    exact zl_399 hF hL hk h kc
  rw [if_neg h5]
  by_cases h6 : c = 6
  · rw [if_pos h6]
    exact zl_412 hF hL hk h kc
  rw [if_neg h6]
  by_cases h7 : c = 7
  · rw [if_pos h7]
    exact zl_455 hF hL hk h kc
  rw [if_neg h7]
  by_cases h8 : c = 8
  · rw [if_pos h8]
    exact zl_498 hF hL hk h kc
  rw [if_neg h8]
  by_cases h9 : c = 9
  · rw [if_pos h9]
    exact zl_521 hF hL hk h kc
  rw [if_neg h9]
  by_cases h10 : c = 10
  · rw [if_pos h10]
    exact zl_554 hF hL hk h kc
  rw [if_neg h10]
  by_cases h11 : c = 11
  · rw [if_pos h11]
    exact zl_587 hF hL hk h kc
  rw [if_neg h11]
  by_cases h12 : c = 12
  · rw [if_pos h12]
    exact zl_620 hF hL hk h kc
  rw [if_neg h12]
  by_cases h13 : c = 13
  · rw [if_pos h13]
    exact zl_633 hF hL hk h kc
  rw [if_neg h13]
  by_cases h14 : c = 14
  · rw [if_pos h14]
    exact zl_656 hF hL hk h kc
  rw [if_neg h14]
  by_cases h15 : c = 15
  · rw [if_pos h15]
    exact zl_679 hF hL hk h kc
  rw [if_neg h15]
  by_cases h16 : c = 16
  · rw [if_pos h16]
    exact zl_712 hF hL hk h kc
  rw [if_neg h16]
  by_cases h17 : c = 17
  · rw [if_pos h17]
    exact zl_745 hF hL hk h kc
  rw [if_neg h17]
  by_cases h18 : c = 18
  · rw [if_pos h18]
    exact zl_768 hF hL hk h kc
  rw [if_neg h18]
  by_cases h19 : c = 19
  · rw [if_pos h19]
    exact zl_791 hF hL hk h kc
  rw [if_neg h19]
  by_cases h20 : c = 20
  · rw [if_pos h20]
    exact zl_804 hF hL hk h kc
  rw [if_neg h20]
  by_cases h21 : c = 21
  · rw [if_pos h21]
    exact zl_817 hF hL hk h kc
  rw [if_neg h21]
  by_cases h22 : c = 22
  · rw [if_pos h22]
    exact zl_830 hF hL hk h kc
  rw [if_neg h22]
  by_cases h23 : c = 23
  · rw [if_pos h23]
    exact zl_853 hF hL hk h kc
  rw [if_neg h23]
  rw [zl6]
  exact ⟨_, _, _, _, _, _, _, _, rfl, h⟩
end ZLL
theorem zneg6 : ∀ L, L < 6 → (nI L) - (6 : Int32) < 0 := by decide
theorem zhead {L k : Nat} (hL : L ≤ 3072) (hk : 6 * k ≤ 4000) : (nI L) - (6 : Int32) < nI (6 * k) ↔ L < 6 * k + 6 := by
  by_cases h : L < 6
  · refine ⟨fun _ => by omega, fun _ => ?_⟩
    exact Int32.lt_of_lt_of_le (zneg6 L h) (nI_pos' (by omega))
  · rw [show (6 : Int32) = nI 6 from rfl, nI_sub (by omega), nI_ltI (by omega) (by omega)]
    omega
theorem zlok_Z : zlok zZ := by
  have hw : ∀ p, zwr (zlb zZ) p = false := fun p => by
    have hb : ∀ l i, zlb zZ l i = false := fun l i => zt_0 i
    unfold zwr
    rw [hb, hb, hb, hb]
    split
    · rfl
    · split
      · rfl
      · split <;> rfl
  have hg : ∀ c, zgc (zlb zZ) c = false := fun c => by
    have hb : ∀ l i, zlb zZ l i = false := fun l i => zt_0 i
    by_cases hc : c < 64
    · rw [zgc_eq hc, hb, hb]; rfl
    · unfold zgc; rw [decide_eq_false hc, Bool.false_and]
  have lab : ∀ (N : Nat) (w : Nat → Bool) (adj : Nat → Nat → Prop), (∀ p, w p = false) → zlab N w adj (fun _ => none) 0 := fun N w adj h => by
    have no : ∀ p, ¬ w p = true := fun p q => by rw [h p] at q; cases q
    exact ⟨fun _ _ _ => rfl, fun p _ q => absurd q (no p), fun p q _ _ a => absurd a (no p), fun p q _ _ a => absurd a (no p), fun k hk => absurd hk (Nat.not_lt_zero k), fun p k _ a => absurd a (no p)⟩
  exact ⟨0, 0, 0, fun _ => none, fun _ => none, fun _ => none, lab _ _ _ hw, lab _ _ _ hw, lab _ _ _ hg, rfl, by omega, ⟨rfl, by omega, fun l hl v hv => by omega, fun p v hp hv => by cases hv⟩, rfl, by omega, fun j hj => by omega, rfl, fun v hv => by omega⟩
theorem zRR_Z : zRR zZ zZ zZ zZ zZ (0, fun _ => zZ) zZ := by
  refine ⟨⟨⟨fun l hl i hi => ?_, 0, 0, by omega, by omega, rfl, rfl, rfl, rfl, fun i hi => by omega, fun i hi => by omega⟩, ⟨0, by omega, rfl, rfl, fun i hi => by omega⟩, fun k hk => rfl, ⟨0, by omega, rfl, rfl, fun i hi => by omega⟩, zlok_Z⟩, Or.inl rfl, Or.inl rfl⟩
  show zt 0 i = zu 0 (i % 32)
  rw [zt_0, zu_0]
theorem zpure {F L : Nat} {xs : Nat → Int32} (hF : 20000000 ≤ F) (hL : L ≤ 3072) : fL_law F L xs zZ zZ zZ zZ zZ zZ (0, fun _ => zZ) zZ = some 1 := by
  unfold fL_law
  refine zit_wf (fun p => ∃ k sX sT sM sL sP sB sSS sD, 6 * k ≤ 4000 ∧ p = (nI (6 * k), sX, sT, sM, sL, sP, sB, sSS, sD) ∧ zRR sX sT sM sL sP sSS sD) (fun p => 5000 - p.1.toNatClampNeg) (fun o => o = some 1) ?_ F _ ⟨0, zZ, zZ, zZ, zZ, zZ, zZ, (0, fun _ => zZ), zZ, by omega, rfl, zRR_Z⟩ (by show 5000 - _ < F; omega)
  rintro kc p ⟨k, sX, sT, sM, sL, sP, sB, sSS, sD, hk, rfl, h⟩
  show (∃ p', _ ∧ _ ∧ bL_law_18 F L xs kc (nI (6 * k)) sX sT sM sL sP sB sSS sD = kc p') ∨ bL_law_18 F L xs kc (nI (6 * k)) sX sT sM sL sP sB sSS sD = some 1
  by_cases hh : (nI L) - (6 : Int32) < nI (6 * k)
  · right
    unfold bL_law_18
    rw [if_pos hh, zbk_1]
  · left
    have hk6 : 6 * k + 6 ≤ L := by
      have := (zhead hL hk).mpr
      rcases Nat.lt_or_ge L (6 * k + 6) with q | q
      · exact absurd (this q) hh
      · exact q
    obtain ⟨sX', sT', sM', sL', sP', sB', S', sD', e, hz⟩ := zLs_step (xs := xs) (sB := sB) hF hL hk6 h kc hh
    exact ⟨_, ⟨k + 1, sX', sT', sM', sL', sP', sB', S', sD', by omega, rfl, hz⟩, by show 5000 - (nI (6 * (k + 1))).toNatClampNeg < 5000 - (nI (6 * k)).toNatClampNeg; rw [nI_clamp (by omega), nI_clamp (by omega)]; omega, e⟩
