/-! PURE: the reference's reading, but for its matches -/
def zqlay (s : zOS) (m N nG : Nat) (lab0 lab labG : Nat → Option Nat) : Prop :=
  zlab 192 (zwr (zmb (zI s 1))) (zadj (zmb (zI s 1)) false) lab0 m ∧ zlab 192 (zwr (zmb (zI s 1))) (zadj (zmb (zI s 1)) true) lab N ∧ zlab 64 (zgc (zmb (zI s 1))) zga labG nG ∧ zF s 8 = nI m ∧ m ≤ 192 ∧ zF s 7 = nI N ∧ N ≤ 192 ∧ zF s 10 = nI nG ∧ nG ≤ 32 ∧ zqa s lab labG ∧
  ∀ j, j < nG → zgd lab labG N j (fun k => zI s 8 (6 * j + k))
/-- what a reading leaves as it was -/
def zqfr (s s' : zOS) : Prop := (∀ k, k ≠ 5 → k ≠ 6 → k ≠ 7 → k ≠ 8 → zI s' k = zI s k) ∧ (∀ k, k ≠ 5 → k ≠ 7 → k ≠ 8 → k ≠ 10 → k ≠ 12 → zF s' k = zF s k) ∧ zH s' = zH s ∧ s'.2.1 = s.2.1
theorem zqfr_refl {s : zOS} : zqfr s s := ⟨fun _ _ _ _ _ => rfl, fun _ _ _ _ _ _ => rfl, rfl, rfl⟩
theorem zqfr_trans {a b c : zOS} (h : zqfr a b) (h' : zqfr b c) : zqfr a c := ⟨fun k h1 h2 h3 h4 => (h'.1 k h1 h2 h3 h4).trans (h.1 k h1 h2 h3 h4), fun k h1 h2 h3 h4 h5 => (h'.2.1 k h1 h2 h3 h4 h5).trans (h.2.1 k h1 h2 h3 h4 h5), h'.2.2.1.trans h.2.2.1, h'.2.2.2.trans h.2.2.2⟩
theorem zqfr_h {s : zOS} {f r : Nat → Int32} {m : Int32} : zqfr s (zh s f r m) := ⟨fun k h5 h6 h7 h8 => by
    show va_up (va_up s.1 5 f) 7 r k = s.1 k
    rw [va_up_ne _ _ h7, va_up_ne _ _ h5], fun k h5 h7 h8 h10 h12 => by
    show va_up s.2.2.1 12 m k = s.2.2.1 k
    rw [va_up_ne _ _ h12], rfl, rfl⟩
theorem zqfr_hg {s : zOS} {f r : Nat → Int32} {m n : Int32} : zqfr s (zhg s f r m n) := ⟨fun k h5 h6 h7 h8 => by
    show va_up (va_up s.1 6 f) 7 r k = s.1 k
    rw [va_up_ne _ _ h7, va_up_ne _ _ h6], fun k h5 h7 h8 h10 h12 => by
    show va_up (va_up s.2.2.1 10 n) 12 m k = s.2.2.1 k
    rw [va_up_ne _ _ h12, va_up_ne _ _ h10], rfl, rfl⟩
theorem zqfr_F {s : zOS} {i : Nat} {v : Int32} (hi : i = 5 ∨ i = 7 ∨ i = 8) : zqfr s (zsF s i v) := ⟨fun _ _ _ _ _ => rfl, fun k h5 h7 h8 _ _ => by
    show va_up s.2.2.1 i v k = s.2.2.1 k
    exact va_up_ne _ _ (by omega), rfl, rfl⟩
theorem zqfr_8 {s : zOS} {G : Nat → Int32} : zqfr s (zsI s 8 G) := ⟨fun k _ _ _ h8 => by
    show va_up s.1 8 G k = s.1 k
    exact va_up_ne _ _ h8, fun _ _ _ _ _ _ => rfl, rfl, rfl⟩
theorem zgate_same {b : Nat → Nat → Bool} {lab labG : Nat → Option Nat} {N nG : Nat} (hl : zlab 192 (zwr b) (zadj b true) lab N) (hG : zlab 64 (zgc b) zga labG nG) {j c c' : Nat} (hc : c < 64) (hc' : c' < 64) (h : labG c = some j) (h' : labG c' = some j) : lab (64 + c) = lab (64 + c') := by
  have w : ∀ d, d < 64 → labG d = some j → zgc b d = true := fun d hd e => by
    cases ew : zgc b d with
    | false => rw [hG.1 d hd ew] at e; cases e
    | true => rfl
  exact hG.2.2.2.1 c c' hc hc' (w c hc h) (w c' hc' h') (by rw [h, h']) (fun z => lab (64 + c) = lab (64 + z)) rfl (fun x y hS wx wy hxy => hS.trans (zgc_node hl wx wy hxy.2.2))
theorem zlab_lt {N : Nat} {w : Nat → Bool} {adj : Nat → Nat → Prop} {f : Nat → Option Nat} {n p j : Nat} (h : zlab N w adj f n) (hp : p < N) (hj : f p = some j) : j < n := by
  cases ew : w p with
  | false => rw [h.1 p hp ew] at hj; cases hj
  | true =>
    obtain ⟨k, hk, hk2⟩ := h.2.1 p hp ew
    rw [hj] at hk2
    have := Option.some.inj hk2
    omega
theorem q_read {s : zOS} {F : Nat} (hF : 1000 ≤ F) : ∃ m N nG lab0 lab labG s1 s2 s3 s4, fX5_hang F 0 s = some (nI m, s1) ∧ fX5_hang F 1 (zsF s1 8 (nI m)) = some (nI N, s2) ∧ fX5_findGates F (zsF s2 7 (nI N)) = some s3 ∧ fX5_findSides F s3 = some s4 ∧ zqlay s4 m N nG lab0 lab labG ∧ zqfr s s4 ∧ zF s4 5 = zF s 5 := by
  obtain ⟨m, lab0, f0, r0, m0, a1, a2, a3, a4⟩ := q_hang (sD := s) (jn := false) hF
  obtain ⟨N, lab, f1, r1, m1, b1, b2, b3, b4⟩ := q_hang (sD := zsF (zh s f0 r0 m0) 8 (nI m)) (jn := true) hF
  have b2 : zlab 192 (zwr (zmb (zI s 1))) (zadj (zmb (zI s 1)) true) lab N := b2
  obtain ⟨nG, labG, f2, r2, m2, c1, c2, c3, c4⟩ := q_findGates (sD := zsF (zh (zsF (zh s f0 r0 m0) 8 (nI m)) f1 r1 m1) 7 (nI N)) hF
  have c2 : zlab 64 (zgc (zmb (zI s 1))) zga labG nG := c2
  have hqa : zqa (zhg (zsF (zh (zsF (zh s f0 r0 m0) 8 (nI m)) f1 r1 m1) 7 (nI N)) f2 r2 m2 (nI nG)) lab labG := ⟨fun p hp => b3 p hp, fun c hc => c3 c hc, fun p j hp hj => by have := zlab_lt b2 hp hj; omega, fun c j hc hj => by have := zlab_lt c2 hc hj; omega⟩
  obtain ⟨G, d1, d2⟩ := q_findSides (sD := zhg (zsF (zh (zsF (zh s f0 r0 m0) 8 (nI m)) f1 r1 m1) 7 (nI N)) f2 r2 m2 (nI nG)) (nG := nG) (N := N) hF hqa c4 rfl b4 rfl (fun j c c' hc hc' h h' => zgate_same b2 c2 hc hc' h h')
  refine ⟨m, N, nG, lab0, lab, labG, _, _, _, _, a1, b1, c1, d1, ⟨a2, b2, c2, rfl, a4, rfl, b4, rfl, c4, hqa, d2⟩, ?_, rfl⟩
  exact zqfr_trans zqfr_h (zqfr_trans (zqfr_F (Or.inr (Or.inr rfl))) (zqfr_trans zqfr_h (zqfr_trans (zqfr_F (Or.inr (Or.inl rfl))) (zqfr_trans zqfr_hg zqfr_8))))
/-- both readings of the same bits are the same -/
theorem zlay_same {sL sD : zOS} {m N nG m' N' nG' : Nat} {lab0 lab labG lab0' lab' labG' : Nat → Option Nat} (h : zlay sL m N nG lab0 lab labG) (h' : zqlay sD m' N' nG' lab0' lab' labG') (hb : ∀ l, l < 4 → ∀ i, i < 64 → zlb sL l i = zmb (zI sD 1) l i) :
    m = m' ∧ N = N' ∧ nG = nG' ∧ (∀ p, p < 192 → lab0 p = lab0' p) ∧ (∀ p, p < 192 → lab p = lab' p) ∧ (∀ c, c < 64 → labG c = labG' c) := by
  have ew : zwr (zlb sL) = zwr (zmb (zI sD 1)) := funext fun p => by
    unfold zwr
    by_cases h1 : p < 64
    · rw [if_pos h1, if_pos h1, hb 0 (by decide) p h1, hb 1 (by decide) p h1]
    · rw [if_neg h1, if_neg h1]
      by_cases h2 : p < 128
      · rw [if_pos h2, if_pos h2, hb 1 (by decide) _ (by omega)]
      · rw [if_neg h2, if_neg h2]
        by_cases h3 : p < 192
        · rw [if_pos h3, if_pos h3, hb 2 (by decide) _ (by omega)]
        · rw [if_neg h3, if_neg h3]
  have ea : ∀ jn, zadj (zlb sL) jn = zadj (zmb (zI sD 1)) jn := fun jn => funext fun p => funext fun q => by
    unfold zadj
    rw [hb 3 (by decide) _ (show p % 64 < 64 by omega), hb 2 (by decide) _ (show p % 64 < 64 by omega)]
  have eg : zgc (zlb sL) = zgc (zmb (zI sD 1)) := funext fun c => by
    by_cases h1 : c < 64
    · rw [zgc_eq h1, zgc_eq h1, hb 0 (by decide) c h1, hb 1 (by decide) c h1]
    · unfold zgc; rw [decide_eq_false h1, Bool.false_and, Bool.false_and]
  obtain ⟨x1, x2, x3, -⟩ := h
  obtain ⟨y1, y2, y3, -⟩ := h'
  rw [ew, ea] at x1 x2
  rw [eg] at x3
  obtain ⟨u1, u2⟩ := zlab_unique (fun p hp => zwr_lt hp) x1 y1
  obtain ⟨v1, v2⟩ := zlab_unique (fun p hp => zwr_lt hp) x2 y2
  obtain ⟨w1, w2⟩ := zlab_unique (fun p hp => zgc_lt hp) x3 y3
  exact ⟨u2, v2, w2, u1, v1, w1⟩
