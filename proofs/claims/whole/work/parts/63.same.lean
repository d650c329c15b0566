/-! PURE: both tell the same of gates and of what hangs on a node -/
theorem zsdb_same {lab labG lab' labG' : Nat → Option Nat} (h1 : ∀ p, p < 192 → lab p = lab' p) (h2 : ∀ c, c < 64 → labG c = labG' c) (j : Nat) : zsdb lab labG j = zsdb lab' labG' j := by
  funext v
  rw [Bool.eq_iff_iff, zsdb_iff, zsdb_iff]
  constructor
  · rintro ⟨c, hc, k1, s, k2, d, k3, k4⟩
    exact ⟨c, hc, by rw [← h2 c hc]; exact k1, s, k2, d, k3, by rw [← h1 d (by have := zbd_lt hc k3; omega)]; exact k4⟩
  · rintro ⟨c, hc, k1, s, k2, d, k3, k4⟩
    exact ⟨c, hc, by rw [h2 c hc]; exact k1, s, k2, d, k3, by rw [h1 d (by have := zbd_lt hc k3; omega)]; exact k4⟩
theorem zgd_same {lab labG lab' labG' : Nat → Option Nat} {N j : Nat} {V : Nat → Int32} (h1 : ∀ p, p < 192 → lab p = lab' p) (h2 : ∀ c, c < 64 → labG c = labG' c) (h : zgd lab' labG' N j V) : zgd lab labG N j V := by
  obtain ⟨a0, a1, a2, a3, a4, a5⟩ := h
  unfold zgd
  rw [zsdb_same h1 h2 j]
  refine ⟨fun c hc hl => ?_, a1, a2, ?_, a4, fun c hc hl hm => ?_⟩
  · rw [h1 (64 + c) (by omega)]
    exact a0 c hc (by rw [← h2 c hc]; exact hl)
  · rw [a3, zcount_congr (p := fun c => decide (labG' c = some j)) (q := fun c => decide (labG c = some j)) (fun i hi => by
      show decide (labG' i = some j) = decide (labG i = some j)
      rw [h2 i hi])]
  · exact a5 c hc (by rw [← h2 c hc]; exact hl) (fun c' hc' e => hm c' hc' (by rw [h2 c' (by omega)]; exact e))
theorem zscan_a (S : Nat → Bool) : ∀ n, ¬ (zscan S n).1 = 0 → (∃ v, v < n ∧ S v = true ∧ (zscan S n).2.1 = nI v) ∧ ∃ v, v < n ∧ S v = true ∧ (zscan S n).2.2 = nI v
  | 0 => fun h => absurd rfl h
  | n + 1 => fun h => by
    have ih := zscan_a S n
    cases e : S n with
    | false =>
      have e0 : zscan S (n + 1) = zscan S n := by show (if S n then _ else _) = _; rw [e]; rfl
      rw [e0] at h ⊢
      obtain ⟨⟨v, h1, h2⟩, w, h3, h4⟩ := ih h
      exact ⟨⟨v, by omega, h2⟩, w, by omega, h4⟩
    | true =>
      have e0 : zscan S (n + 1) = ((zscan S n).1 + 1, if (zscan S n).1 = 0 then nI n else (zscan S n).2.1, nI n) := by show (if S n then _ else _) = _; rw [e]; rfl
      rw [e0]
      refine ⟨?_, n, by omega, e, rfl⟩
      by_cases h0 : (zscan S n).1 = 0
      · exact ⟨n, by omega, e, if_pos h0⟩
      · obtain ⟨⟨v, h1, h2, h3⟩, -⟩ := ih h0
        exact ⟨v, by omega, h2, (if_neg h0).trans h3⟩
theorem zwl_well {S : Nat → Bool} {N : Nat} (hN : N ≤ 192) : decide (¬ zwl (zscan S N).1 (zscan S N).2.1 = -1) = zwb (zscan S N).1 := by
  unfold zwl zwb
  by_cases e : (zscan S N).1 = 1 ∨ (zscan S N).1 = 2
  · rw [if_pos e, decide_eq_true e]
    obtain ⟨⟨v, h1, -, h3⟩, -⟩ := zscan_a S N (by omega)
    rw [h3]
    exact decide_eq_true (zenc_ne (by omega))
  · rw [if_neg e, decide_eq_false e]
    exact decide_eq_false (fun h => h rfl)
/-- one reading beside the other: all that is told -/
theorem ztold_same {sL sD : zOS} {m N nG m' N' nG' : Nat} {lab0 lab labG lab0' lab' labG' : Nat → Option Nat} (h : zlay sL m N nG lab0 lab labG) (h' : zqlay sD m' N' nG' lab0' lab' labG') (hb : ∀ l, l < 4 → ∀ i, i < 64 → zlb sL l i = zmb (zI sD 1) l i) :
    (∀ j, j < nG → (∃ c, c < 64 ∧ labG c = some j) ∧ (∀ k, k < 6 → zcv sL j k = zI sD 8 (6 * j + k)) ∧ zwb (zscan (zsdb lab labG j) N).1 = zqw sD j) ∧ (∀ v, v < N → zI sL 7 v = nI (zhw (fun j k => zI sD 8 (6 * j + k)) (zqw sD) (nI v) nG)) ∧ zF sL 15 = nI (zcount (fun j => !zqw sD j) nG) := by
  obtain ⟨e1, e2, e3, e4, e5, e6⟩ := zlay_same h h' hb
  subst e1 e2 e3
  obtain ⟨x1, x2, x3, x4, x5, x6, x7, x8, x9, x10, x11⟩ := h
  obtain ⟨y1, y2, y3, y4, y5, y6, y7, y8, y9, y10, y11⟩ := h'
  have cell : ∀ j, j < nG → ∃ c, c < 64 ∧ labG c = some j := fun j hj => by
    obtain ⟨c, c1, -, c3⟩ := x3.2.2.2.2.1 j hj
    exact ⟨c, c1, c3⟩
  have tell : ∀ j, j < nG → ∀ k, k < 6 → zcv sL j k = zI sD 8 (6 * j + k) := fun j hj => zgd_unique (x9 j hj).2 (zgd_same e5 e6 (y11 j hj)) (cell j hj)
  have well : ∀ j, j < nG → zwb (zscan (zsdb lab labG j) N).1 = zqw sD j := fun j hj => by
    have h1 := (zgd_same e5 e6 (y11 j hj)).2.1
    have h1 : zI sD 8 (6 * j + 1) = _ := h1
    unfold zqw
    rw [h1, zwl_well y7]
  refine ⟨fun j hj => ⟨cell j hj, tell j hj, well j hj⟩, fun v hv => ?_, ?_⟩
  · rw [x11 v hv]
    congr 1
    exact zhw_congr (fun j hj => ⟨well j hj, tell j hj 0 (by decide), tell j hj 1 (by decide), tell j hj 2 (by decide)⟩)
  · rw [x10]
    congr 1
    exact zcount_congr (fun i hi => by
      show (!zwb (zscan (zsdb lab labG i) N).1) = !zqw sD i
      rw [well i hi])
