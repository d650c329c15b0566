/-! PURE: the first of the matches -/
def zltK (K : Nat) (a b : Nat → Int32) : Prop := ∃ k, k < K ∧ a k < b k ∧ ∀ j, j < k → a j = b j
theorem zltK_tri {K : Nat} {a b : Nat → Int32} (h1 : ¬ zltK K a b) (h2 : ¬ zltK K b a) : ∀ k, k < K → a k = b k := by
  intro k
  induction k using Nat.strongRecOn with
  | ind k ih =>
    intro hk
    have hj : ∀ j, j < k → a j = b j := fun j hj => ih j hj (by omega)
    rcases Classical.em (a k = b k) with e | e
    · exact e
    · rcases Int32.lt_or_lt_of_ne e with q | q
      · exact absurd ⟨k, hk, q, hj⟩ h1
      · exact absurd ⟨k, hk, q, fun j h => (hj j h).symm⟩ h2
theorem zltK_congr {K : Nat} {a b a' b' : Nat → Int32} (ha : ∀ k, k < K → a k = a' k) (hb : ∀ k, k < K → b k = b' k) (h : zltK K a b) : zltK K a' b' := by
  obtain ⟨k, hk, h1, h2⟩ := h
  exact ⟨k, hk, by rw [← ha k hk, ← hb k hk]; exact h1, fun j hj => by rw [← ha j (by omega), ← hb j (by omega)]; exact h2 j hj⟩
theorem zltK_irr {K : Nat} {a : Nat → Int32} (h : zltK K a a) : False := by
  obtain ⟨k, -, h1, -⟩ := h
  exact Int32.lt_irrefl h1
theorem zltK_trans {K : Nat} {a b c : Nat → Int32} (h : zltK K a b) (h' : zltK K b c) : zltK K a c := by
  obtain ⟨k, hk, h1, h2⟩ := h
  obtain ⟨l, hl, g1, g2⟩ := h'
  rcases Nat.lt_trichotomy k l with q | q | q
  · exact ⟨k, hk, by rw [← g2 k q]; exact h1, fun j hj => (h2 j hj).trans (g2 j (by omega))⟩
  · subst q
    exact ⟨k, hk, Int32.lt_trans h1 g1, fun j hj => (h2 j hj).trans (g2 j hj)⟩
  · exact ⟨l, hl, by rw [h2 l q]; exact g1, fun j hj => (h2 j (by omega)).trans (g2 j hj)⟩
section ZK
variable (dv : Nat → Nat → Nat) (V : Nat → Nat → Int32) (S0 : Nat × Int32 → Prop)
/-- gates and nodes of a match, in one row -/
def zkey (D : Nat) (x : List Nat × List Nat) (B : Nat → Int32) : Prop := (∀ (k g : Nat), x.1[k]? = some g → B k = nI g) ∧ ztel (fun n => B (D + n)) (zSt dv V S0 x.1 x.2)
theorem zkey_u {D : Nat} {x : List Nat × List Nat} {B B' : Nat → Int32} (hl : x.1.length = D) (h : zkey dv V S0 D x B) (h' : zkey dv V S0 D x B') : ∀ k, k < D + 10 → B k = B' k := by
  intro k hk
  by_cases hd : k < D
  · obtain ⟨g, hg⟩ := zgsome (l := x.1) (i := k) (by omega)
    rw [h.1 k g hg, h'.1 k g hg]
  · have := ztel_u h.2 h'.2 (show k - D < 10 by omega)
    have this : B (D + (k - D)) = B' (D + (k - D)) := this
    rw [show D + (k - D) = k by omega] at this
    exact this
def zmin (D : Nat) (Q : List (List Nat × List Nat)) (B : Nat → Int32) : Prop := ∃ x, x ∈ Q ∧ zkey dv V S0 D x B ∧ ∀ y, y ∈ Q → ∀ B', zkey dv V S0 D y B' → ¬ zltK (D + 10) B' B
theorem zmin_one {D : Nat} {x : List Nat × List Nat} {B : Nat → Int32} (hl : x.1.length = D) (h : zkey dv V S0 D x B) : zmin dv V S0 D [x] B := by
  refine ⟨x, by simp, h, fun y hy B' hB' hlt => ?_⟩
  rw [List.mem_singleton.mp hy] at hB'
  exact zltK_irr (zltK_congr (zkey_u dv V S0 hl hB' h) (fun _ _ => rfl) hlt)
theorem zmin_lt {D : Nat} {Q : List (List Nat × List Nat)} {x : List Nat × List Nat} {B Bx : Nat → Int32} (hl : x.1.length = D) (h : zmin dv V S0 D Q B) (hx : zkey dv V S0 D x Bx) (hlt : zltK (D + 10) Bx B) : zmin dv V S0 D (Q ++ [x]) Bx := by
  obtain ⟨z, z1, z2, z3⟩ := h
  refine ⟨x, by simp, hx, fun y hy B' hB' h' => ?_⟩
  rcases List.mem_append.mp hy with q | q
  · exact z3 y q B' hB' (zltK_trans h' hlt)
  · rw [List.mem_singleton.mp q] at hB'
    exact zltK_irr (zltK_congr (zkey_u dv V S0 hl hB' hx) (fun _ _ => rfl) h')
theorem zmin_ge {D : Nat} {Q : List (List Nat × List Nat)} {x : List Nat × List Nat} {B Bx : Nat → Int32} (hl : x.1.length = D) (h : zmin dv V S0 D Q B) (hx : zkey dv V S0 D x Bx) (hlt : ¬ zltK (D + 10) Bx B) : zmin dv V S0 D (Q ++ [x]) B := by
  obtain ⟨z, z1, z2, z3⟩ := h
  refine ⟨z, List.mem_append.mpr (Or.inl z1), z2, fun y hy B' hB' h' => ?_⟩
  rcases List.mem_append.mp hy with q | q
  · exact z3 y q B' hB' h'
  · rw [List.mem_singleton.mp q] at hB'
    exact hlt (zltK_congr (zkey_u dv V S0 hl hB' hx) (fun _ _ => rfl) h')
theorem zmin_u {D : Nat} {Q Q' : List (List Nat × List Nat)} {B B' : Nat → Int32} (h : zmin dv V S0 D Q B) (h' : zmin dv V S0 D Q' B') (hm : ∀ x, x ∈ Q ↔ x ∈ Q') : ∀ k, k < D + 10 → B k = B' k := by
  obtain ⟨x, x1, x2, x3⟩ := h
  obtain ⟨y, y1, y2, y3⟩ := h'
  exact zltK_tri (y3 x ((hm x).mp x1) B x2) (x3 y ((hm y).mpr y1) B' y2)
theorem zmin_m {D : Nat} {Q Q' : List (List Nat × List Nat)} {B : Nat → Int32} (h : zmin dv V S0 D Q B) (hm : ∀ x, x ∈ Q ↔ x ∈ Q') : zmin dv V S0 D Q' B := by
  obtain ⟨x, x1, x2, x3⟩ := h
  exact ⟨x, (hm x).mp x1, x2, fun y hy => x3 y ((hm y).mpr hy)⟩
theorem zmin_c {D : Nat} {Q : List (List Nat × List Nat)} {B B' : Nat → Int32} (hQ : ∀ x, x ∈ Q → x.1.length = D) (hwf : ∀ gs ts, zwf (zSt dv V S0 gs ts)) (h : zmin dv V S0 D Q B) (he : ∀ k, k < D + 10 → B' k = B k) : zmin dv V S0 D Q B' := by
  obtain ⟨x, x1, x2, x3⟩ := h
  refine ⟨x, x1, ⟨fun k g hg => ?_, ?_⟩, fun y hy B2 hB2 hlt => x3 y hy B2 hB2 (zltK_congr (fun _ _ => rfl) he hlt)⟩
  · rw [he k (by have := zgtl hg; have := hQ x x1; omega)]; exact x2.1 k g hg
  · exact ztel_c x2.2 (hwf _ _) (fun n hn => he (D + n) (by omega))
/-- what comes behind all in the order of gates changes nothing -/
theorem zmin_skip {D : Nat} {Q R : List (List Nat × List Nat)} {B : Nat → Int32} (h : zmin dv V S0 D Q B) (hb : ∀ y, y ∈ Q → y.1.length = D) (hR : ∀ r, r ∈ R → (∀ g, g ∈ r.1 → g < 2 ^ 31) ∧ ∀ y, y ∈ Q → zltl y.1 r.1) : zmin dv V S0 D (Q ++ R) B := by
  obtain ⟨x, x1, x2, x3⟩ := h
  refine ⟨x, List.mem_append.mpr (Or.inl x1), x2, fun y hy B' hB' h' => ?_⟩
  rcases List.mem_append.mp hy with q | q
  · exact x3 y q B' hB' h'
  · obtain ⟨r1, r2⟩ := hR y q
    obtain ⟨i, a, b, e1, e2, e3, e4⟩ := r2 x x1
    refine zltK_irr (zltK_trans h' (b := B) ⟨i, ?_, ?_, fun j hj => ?_⟩)
    · have := zgtl e1; have := hb x x1; omega
    · rw [x2.1 i a e1, hB'.1 i b e2]
      exact nI_lt e3 (r1 b (List.mem_of_getElem? e2))
    · obtain ⟨c, hc⟩ := zgsome (l := x.1) (i := j) (by have := zgtl e1; omega)
      rw [x2.1 j c hc, hB'.1 j c (by rw [← e4 j hj]; exact hc)]
/-- ways and first, when the matches Q have been gone through -/
def zres (D cap : Nat) (Q : List (List Nat × List Nat)) (w : Nat) (B : Nat → Int32) : Prop := w = min Q.length cap ∧ (¬ Q = [] → zmin dv V S0 D Q B) ∧ ∀ x, x ∈ Q → x.1.length = D
end ZK
