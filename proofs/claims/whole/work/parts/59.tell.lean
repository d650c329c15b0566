/-! PURE: what both tell of a gate -/
theorem zsdb_congr {lab labG : Nat → Option Nat} {m : Int64} {j : Nat} (h : ∀ c, zt m c = true ↔ c < 64 ∧ labG c = some j) : zsdb lab (zgm m j) j = zsdb lab labG j := by
  funext v
  rw [Bool.eq_iff_iff, zsdb_iff, zsdb_iff]
  constructor
  · rintro ⟨c, hc, h1, h2⟩
    exact ⟨c, hc, ((h c).mp (zgm_iff.mp h1)).2, h2⟩
  · rintro ⟨c, hc, h1, h2⟩
    exact ⟨c, hc, zgm_iff.mpr ((h c).mpr ⟨hc, h1⟩), h2⟩
/-- two tellings of one gate are the same -/
theorem zgd_unique {lab labG : Nat → Option Nat} {N j : Nat} {V V' : Nat → Int32} (h : zgd lab labG N j V) (h' : zgd lab labG N j V') (hc : ∃ c, c < 64 ∧ labG c = some j) : ∀ k, k < 6 → V k = V' k := by
  obtain ⟨c, c1, c2⟩ := hc
  obtain ⟨m, m1, m2, m3⟩ := zleast (p := fun c => labG c = some j) c1 c2
  obtain ⟨a0, a1, a2, a3, a4, a5⟩ := h
  obtain ⟨b0, b1, b2, b3, b4, b5⟩ := h'
  intro k hk
  rcases (show k = 0 ∨ k = 1 ∨ k = 2 ∨ k = 3 ∨ k = 4 ∨ k = 5 by omega) with rfl | rfl | rfl | rfl | rfl | rfl
  · rw [a0 c c1 c2, b0 c c1 c2]
  · rw [a1, b1]
  · rw [a2, b2]
  · rw [a3, b3]
  · rw [a4, b4]
  · rw [a5 m m1 m2 m3, b5 m m1 m2 m3]
/-- what the class tells of gate j -/
def zcv (s : zOS) (j k : Nat) : Int32 := if k = 0 then zI s 9 j else if k = 1 then zI s 10 j else if k = 2 then zI s 11 j else if k = 3 then nI (zcount (zt (zL s 8 j)) 64) else if k = 4 then zI s 12 j else nI (zcount (fun c => decide (∀ c', c' ≤ c → zt (zL s 8 j) c' = false)) 64)
theorem zcount_first {p : Nat → Bool} {m : Nat} (hm : p m = true) (hl : ∀ j, j < m → p j = false) : ∀ n, m < n → zcount (fun c => decide (∀ c', c' ≤ c → p c' = false)) n = m := by
  intro n hn
  have h1 : ∀ k, k ≤ m → zcount (fun c => decide (∀ c', c' ≤ c → p c' = false)) k = k := by
    intro k
    induction k with
    | zero => intro _; rfl
    | succ k ih =>
      intro hk
      rw [zcount_next, ih (by omega), decide_eq_true (fun c' hc' => hl c' (by omega))]; rfl
  obtain ⟨d, rfl⟩ := Nat.exists_eq_add_of_le (show m ≤ n by omega)
  clear hn
  induction d with
  | zero => exact h1 m (Nat.le_refl m)
  | succ d ih =>
    rw [← Nat.add_assoc, zcount_next, ih, decide_eq_false (fun h => by rw [h m (by omega)] at hm; cases hm)]; rfl
theorem p_tellGate {s : zOS} {j k : Nat} (hj : j < 32) (hk : k < 6) (hne : ∃ c, zt (zL s 8 j) c = true) : fX0_tellGate (nI j) (nI k) s = some (zcv s j k) := by
  obtain ⟨c, hc⟩ := hne
  obtain ⟨m, m1, m2, m3⟩ := zt_least (x := zL s 8 j) (fun h => by rw [h, zt_0] at hc; cases hc)
  unfold fX0_tellGate zcv
  rw [zchk_nI hj (by decide), zchk_nI hj (by decide), zchk_nI hj (by decide), zchk_nI hj (by decide), zchk_nI hj (by decide), zchk_nI hj (by decide), nI_clamp (show j < 2 ^ 31 by omega), p_bitCount, p_ntz m2 m3, Option.bind_some, Option.bind_some, zcount_first m2 m3 64 m1]
  rcases (show k = 0 ∨ k = 1 ∨ k = 2 ∨ k = 3 ∨ k = 4 ∨ k = 5 by omega) with rfl | rfl | rfl | rfl | rfl | rfl <;> rfl
theorem zgd_cv {s : zOS} {lab labG : Nat → Option Nat} {N j : Nat} (hm : ∀ c, zt (zL s 8 j) c = true ↔ c < 64 ∧ labG c = some j) (hk : zgk lab N j (zL s 8 j) (zI s 9 j) (zI s 10 j) (zI s 11 j) (zI s 12 j)) : zgd lab labG N j (zcv s j) := by
  obtain ⟨k1, k2, k3, k4⟩ := hk
  rw [zsdb_congr hm] at k2 k3 k4
  refine ⟨fun c hc hl => k1 c ((hm c).mpr ⟨hc, hl⟩), k2, k3, ?_, k4, fun c hc hl hmin => ?_⟩
  · show nI (zcount (zt (zL s 8 j)) 64) = _
    rw [zcount_congr (p := zt (zL s 8 j)) (q := fun c => decide (labG c = some j)) (fun i hi => by
      rw [Bool.eq_iff_iff, decide_eq_true_iff, hm i]
      exact ⟨fun h => h.2, fun h => ⟨hi, h⟩⟩)]
  · show nI (zcount (fun c => decide (∀ c', c' ≤ c → zt (zL s 8 j) c' = false)) 64) = nI c
    rw [zcount_first (p := zt (zL s 8 j)) (m := c) ((hm c).mpr ⟨hc, hl⟩) (fun i hi => by
      cases e : zt (zL s 8 j) i with
      | false => rfl
      | true => exact absurd ((hm i).mp e).2 (hmin i hi)) 64 hc]
theorem q_ofGate {sD : zOS} {j k : Nat} (hj : j < 32) (hk : k < 6) : fX5_ofGate (nI j) (nI k) sD = some (zI sD 8 (6 * j + k)) := by
  unfold fX5_ofGate
  rw [nI6, zchk_nI (show 6 * j + k < 192 by omega) (by decide), nI_clamp (show 6 * j + k < 2 ^ 31 by omega)]
