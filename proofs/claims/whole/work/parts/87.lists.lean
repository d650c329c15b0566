/-! PURE: the class's matches; both have the same; the first of them -/
section ZN
variable (G : Nat) (dv : Nat → Nat → Nat) (V : Nat → Nat → Int32) (S0 : Nat × Int32 → Prop) (lk : Nat → Nat → Prop)
def zgx (gs : List Nat) : Prop := (∀ g, g ∈ gs → g < G) ∧ gs.Nodup ∧ (∀ (i g : Nat), gs[i]? = some g → lk i g) ∧ zcon (zSg dv V S0 gs)
def ztq (gs ts : List Nat) : Prop := (∀ (i t : Nat), ts[i]? = some t → t < 2 ∧ ∀ g : Nat, gs[i]? = some g → (t = 0 ∨ ¬ V g 1 = V g 2)) ∧ zcon (zSt dv V S0 gs ts)
noncomputable def zLP : Nat → List Nat → List (List Nat)
  | 0, gs => [gs]
  | m + 1, gs => (List.range G).flatMap fun g => @ite _ (zgx G dv V S0 lk (gs ++ [g])) (Classical.propDecidable _) (zLP m (gs ++ [g])) []
noncomputable def zLT (gs : List Nat) : Nat → List Nat → List (List Nat)
  | 0, ts => [ts]
  | m + 1, ts => (@ite _ (ztq dv V S0 gs (ts ++ [0])) (Classical.propDecidable _) (zLT gs m (ts ++ [0])) []) ++ (@ite _ (ztq dv V S0 gs (ts ++ [1])) (Classical.propDecidable _) (zLT gs m (ts ++ [1])) [])
noncomputable def zLC (D m : Nat) (gs : List Nat) : List (List Nat × List Nat) := (zLP G dv V S0 lk m gs).flatMap fun x => (zLT dv V S0 x D []).map fun ts => (x, ts)
theorem zgx_step {gs : List Nat} {g : Nat} (h : zgx G dv V S0 lk gs) : zgx G dv V S0 lk (gs ++ [g]) ↔ g < G ∧ g ∉ gs ∧ lk gs.length g ∧ zcon (zSg dv V S0 (gs ++ [g])) := by
  obtain ⟨h2, h3, h4, h5⟩ := h
  constructor
  · rintro ⟨k2, k3, k4, k5⟩
    refine ⟨k2 g (by simp), fun hm => ?_, k4 _ g (zap.mpr (Or.inr ⟨rfl, rfl⟩)), k5⟩
    rw [List.nodup_append] at k3
    exact k3.2.2 g hm g (by simp) rfl
  · rintro ⟨k1, k2, k3, k5⟩
    refine ⟨fun x hx => ?_, ?_, fun i g' hg => ?_, k5⟩
    · rcases List.mem_append.mp hx with q | q
      · exact h2 x q
      · rw [List.mem_singleton.mp q]; exact k1
    · rw [List.nodup_append]
      refine ⟨h3, by simp, fun a ha b hb e => ?_⟩
      rw [List.mem_singleton.mp hb] at e
      rw [e] at ha
      exact k2 ha
    · rcases zap.mp hg with q | ⟨q1, q2⟩
      · exact h4 i g' q
      · rw [q1, q2]; exact k3
theorem zgx_pre {gs a : List Nat} (h : zgx G dv V S0 lk (gs ++ a)) : zgx G dv V S0 lk gs := by
  obtain ⟨h2, h3, h4, h5⟩ := h
  refine ⟨fun g hg => h2 g (List.mem_append.mpr (Or.inl hg)), (List.nodup_append.mp h3).1, fun i g q => h4 i g (zapl q), zcon_sub ?_ h5⟩
  rintro p (h | ⟨i, g, q, e⟩)
  · exact Or.inl h
  · exact Or.inr ⟨i, g, zapl q, e⟩
theorem zLP_mem : ∀ (m : Nat) (gs : List Nat), zgx G dv V S0 lk gs → ∀ x, x ∈ zLP G dv V S0 lk m gs ↔ ∃ a, a.length = m ∧ x = gs ++ a ∧ zgx G dv V S0 lk (gs ++ a)
  | 0, gs, h, x => by
    show x ∈ [gs] ↔ _
    rw [List.mem_singleton]
    constructor
    · rintro rfl
      exact ⟨[], rfl, by simp, by simpa using h⟩
    · rintro ⟨a, ha, rfl, -⟩
      rw [List.length_eq_zero_iff.mp ha]
      simp
  | m + 1, gs, h, x => by
    show x ∈ (List.range G).flatMap _ ↔ _
    rw [List.mem_flatMap]
    constructor
    · rintro ⟨c, hc, hx⟩
      by_cases e : zgx G dv V S0 lk (gs ++ [c])
      · rw [if_pos e] at hx
        obtain ⟨a, ha, rfl, hz⟩ := (zLP_mem m _ e x).mp hx
        exact ⟨c :: a, by simp [ha], by simp, by simpa using hz⟩
      · rw [if_neg e] at hx; cases hx
    · rintro ⟨a, ha, rfl, hz⟩
      match a, ha, hz with
      | g :: a, ha, hz =>
        have hz' : zgx G dv V S0 lk ((gs ++ [g]) ++ a) := by simpa using hz
        have hp := zgx_pre G dv V S0 lk hz'
        refine ⟨g, List.mem_range.mpr ((zgx_step G dv V S0 lk h).mp hp).1, ?_⟩
        rw [if_pos hp]
        exact (zLP_mem m _ hp _).mpr ⟨a, by simpa using ha, by simp, hz'⟩
theorem ztq_pre {gs ts b : List Nat} (h : ztq dv V S0 gs (ts ++ b)) : ztq dv V S0 gs ts := by
  obtain ⟨h1, h2⟩ := h
  refine ⟨fun i t q => h1 i t (zapl q), zcon_sub ?_ h2⟩
  rintro p (h | ⟨i, g, t, q, w, e⟩)
  · exact Or.inl h
  · exact Or.inr ⟨i, g, t, q, zapl w, e⟩
theorem zLT_mem (gs : List Nat) : ∀ (m : Nat) (ts : List Nat), ztq dv V S0 gs ts → ∀ x, x ∈ zLT dv V S0 gs m ts ↔ ∃ b, b.length = m ∧ x = ts ++ b ∧ ztq dv V S0 gs (ts ++ b)
  | 0, ts, h, x => by
    show x ∈ [ts] ↔ _
    rw [List.mem_singleton]
    constructor
    · rintro rfl
      exact ⟨[], rfl, by simp, by simpa using h⟩
    · rintro ⟨a, ha, rfl, -⟩
      rw [List.length_eq_zero_iff.mp ha]
      simp
  | m + 1, ts, h, x => by
    have one : ∀ t : Nat, (x ∈ (@ite _ (ztq dv V S0 gs (ts ++ [t])) (Classical.propDecidable _) (zLT dv V S0 gs m (ts ++ [t])) [])) ↔ ∃ b, b.length = m ∧ x = (ts ++ [t]) ++ b ∧ ztq dv V S0 gs ((ts ++ [t]) ++ b) := fun t => by
      by_cases e : ztq dv V S0 gs (ts ++ [t])
      · rw [if_pos e]; exact zLT_mem gs m _ e x
      · rw [if_neg e]
        constructor
        · intro q; cases q
        · rintro ⟨b, -, -, hb⟩
          exact absurd (ztq_pre dv V S0 hb) e
    show x ∈ _ ++ _ ↔ _
    rw [List.mem_append, one 0, one 1]
    constructor
    · rintro (⟨b, h1, h2, h3⟩ | ⟨b, h1, h2, h3⟩)
      · exact ⟨0 :: b, by simp [h1], by simp [h2], by simpa using h3⟩
      · exact ⟨1 :: b, by simp [h1], by simp [h2], by simpa using h3⟩
    · rintro ⟨b, h1, rfl, h3⟩
      match b, h1, h3 with
      | t :: b, h1, h3 =>
        have h3' : ztq dv V S0 gs ((ts ++ [t]) ++ b) := by simpa using h3
        have ht := (h3'.1 ts.length t (zapl (zap.mpr (Or.inr ⟨rfl, rfl⟩)))).1
        rcases (show t = 0 ∨ t = 1 by omega) with rfl | rfl
        · exact Or.inl ⟨b, by simpa using h1, by simp, h3'⟩
        · exact Or.inr ⟨b, by simpa using h1, by simp, h3'⟩
theorem zLT_nodup (gs : List Nat) : ∀ (m : Nat) (ts : List Nat), ztq dv V S0 gs ts → (zLT dv V S0 gs m ts).Nodup
  | 0, ts, h => by show [ts].Nodup; simp
  | m + 1, ts, h => by
    have one : ∀ t : Nat, (@ite _ (ztq dv V S0 gs (ts ++ [t])) (Classical.propDecidable _) (zLT dv V S0 gs m (ts ++ [t])) []).Nodup := fun t => by
      by_cases e : ztq dv V S0 gs (ts ++ [t])
      · rw [if_pos e]; exact zLT_nodup gs m _ e
      · rw [if_neg e]; exact List.Pairwise.nil
    have two : ∀ (t : Nat) (x : List Nat), (x ∈ (@ite _ (ztq dv V S0 gs (ts ++ [t])) (Classical.propDecidable _) (zLT dv V S0 gs m (ts ++ [t])) [])) → x[ts.length]? = some t := fun t x hx => by
      by_cases e : ztq dv V S0 gs (ts ++ [t])
      · rw [if_pos e] at hx
        obtain ⟨b, -, rfl, -⟩ := (zLT_mem dv V S0 gs m _ e x).mp hx
        exact zapl (zap.mpr (Or.inr ⟨rfl, rfl⟩))
      · rw [if_neg e] at hx; cases hx
    show List.Nodup (_ ++ _)
    rw [List.nodup_append]
    refine ⟨one 0, one 1, fun x hx y hy e => ?_⟩
    have h1 := two 0 x hx
    have h2 := two 1 y hy
    rw [e, h2] at h1
    cases h1
/-- lists of gates, one ahead of the other -/
def zltl (x y : List Nat) : Prop := ∃ (i a b : Nat), x[i]? = some a ∧ y[i]? = some b ∧ a < b ∧ ∀ j : Nat, j < i → x[j]? = y[j]?
theorem zltl_ext {gs : List Nat} {g g' : Nat} (h : g < g') (a a' : List Nat) : zltl (gs ++ [g] ++ a) (gs ++ [g'] ++ a') := by
  refine ⟨gs.length, g, g', zapl (zap.mpr (Or.inr ⟨rfl, rfl⟩)), zapl (zap.mpr (Or.inr ⟨rfl, rfl⟩)), h, fun j hj => ?_⟩
  obtain ⟨b, hb⟩ := zgsome hj
  rw [zapl (zapl hb), zapl (zapl hb)]
theorem zLP_sorted : ∀ (m : Nat) (gs : List Nat), zgx G dv V S0 lk gs → (zLP G dv V S0 lk m gs).Pairwise zltl
  | 0, gs, h => by show [gs].Pairwise zltl; simp
  | m + 1, gs, h => by
    show List.Pairwise _ ((List.range G).flatMap _)
    rw [List.pairwise_flatMap]
    refine ⟨fun c hc => ?_, ?_⟩
    · by_cases e : zgx G dv V S0 lk (gs ++ [c])
      · rw [if_pos e]; exact zLP_sorted m _ e
      · rw [if_neg e]; exact List.Pairwise.nil
    · refine List.Pairwise.imp ?_ (List.pairwise_lt_range (n := G))
      intro c c' hne x hx y hy
      by_cases e : zgx G dv V S0 lk (gs ++ [c])
      · by_cases e' : zgx G dv V S0 lk (gs ++ [c'])
        · rw [if_pos e] at hx
          rw [if_pos e'] at hy
          obtain ⟨a, -, rfl, -⟩ := (zLP_mem G dv V S0 lk m _ e x).mp hx
          obtain ⟨a', -, rfl, -⟩ := (zLP_mem G dv V S0 lk m _ e' y).mp hy
          exact zltl_ext hne a a'
        · rw [if_neg e'] at hy; cases hy
      · rw [if_neg e] at hx; cases hx
theorem zltl_ne {x y : List Nat} (h : zltl x y) : ¬ x = y := by
  rintro rfl
  obtain ⟨i, a, b, h1, h2, h3, -⟩ := h
  rw [h1] at h2
  cases h2
  omega
theorem ztq_nil {gs : List Nat} (h : zgx G dv V S0 lk gs) : ztq dv V S0 gs [] := ⟨fun i t q => (by cases q), by rw [zSt_nil]; exact h.2.2.2⟩
theorem zLC_nodup {D m : Nat} {gs : List Nat} (h : zgx G dv V S0 lk gs) : (zLC G dv V S0 lk D m gs).Nodup := by
  show List.Pairwise _ ((zLP G dv V S0 lk m gs).flatMap _)
  rw [List.pairwise_flatMap]
  refine ⟨fun x hx => ?_, ?_⟩
  · obtain ⟨a, -, rfl, hz⟩ := (zLP_mem G dv V S0 lk m gs h x).mp hx
    rw [List.pairwise_map]
    refine List.Pairwise.imp ?_ (zLT_nodup dv V S0 _ D [] (ztq_nil G dv V S0 lk hz))
    intro a b hab e
    exact hab (Prod.mk.inj e).2
  · refine List.Pairwise.imp ?_ (zLP_sorted G dv V S0 lk m gs h)
    intro x y hxy p hp q hq e
    obtain ⟨t, -, rfl⟩ := List.mem_map.mp hp
    obtain ⟨t', -, rfl⟩ := List.mem_map.mp hq
    exact zltl_ne hxy (Prod.mk.inj e).1
theorem zLC_mem {D m : Nat} {gs : List Nat} (h : zgx G dv V S0 lk gs) (x : List Nat × List Nat) : x ∈ zLC G dv V S0 lk D m gs ↔ ∃ a, a.length = m ∧ x.1 = gs ++ a ∧ zgx G dv V S0 lk (gs ++ a) ∧ x.2.length = D ∧ ztq dv V S0 (gs ++ a) x.2 := by
  unfold zLC
  rw [List.mem_flatMap]
  constructor
  · rintro ⟨y, hy, hx⟩
    obtain ⟨t, ht, rfl⟩ := List.mem_map.mp hx
    obtain ⟨a, ha, rfl, hz⟩ := (zLP_mem G dv V S0 lk m gs h y).mp hy
    obtain ⟨b, hb, rfl, hq⟩ := (zLT_mem dv V S0 _ D [] (ztq_nil G dv V S0 lk hz) t).mp ht
    exact ⟨a, ha, rfl, hz, by simpa using hb, hq⟩
  · rintro ⟨a, ha, he, hz, hb, hq⟩
    obtain ⟨x1, x2⟩ := x
    have he : x1 = gs ++ a := he
    subst he
    exact ⟨_, (zLP_mem G dv V S0 lk m gs h _).mpr ⟨a, ha, rfl, hz⟩, List.mem_map.mpr ⟨x2, (zLT_mem dv V S0 _ D [] (ztq_nil G dv V S0 lk hz) x2).mpr ⟨x2, hb, rfl, hq⟩, rfl⟩⟩
/-- both have the same matches, if in each match a device and its gate are alike -/
theorem zsame {D : Nat} (hc : zcon S0) (hlk : ∀ gs ts, zpx G dv V S0 gs ts → gs.length = D → ∀ (i g : Nat), gs[i]? = some g → lk i g) (x : List Nat × List Nat) : x ∈ zLC G dv V S0 lk D D [] ↔ x ∈ zLR G dv V S0 D [] [] := by
  have h0 : zgx G dv V S0 lk [] := ⟨fun g hg => (by cases hg), List.Pairwise.nil, fun i g q => (by cases q), by rw [zSg_nil]; exact hc⟩
  have h1 : zpx G dv V S0 [] [] := ⟨rfl, fun g hg => (by cases hg), List.Pairwise.nil, fun i g t q => (by cases q), by rw [zSt_nil, zSg_nil]; exact hc⟩
  rw [zLC_mem G dv V S0 lk h0, zLR_mem G dv V S0 D [] [] h1]
  obtain ⟨gs, ts⟩ := x
  constructor
  · rintro ⟨a, ha, he, ⟨z1, z2, z3, z4⟩, hb, q1, q2⟩
    have he : gs = a := he
    subst he
    have hb : ts.length = D := hb
    exact ⟨gs, ts, ha, hb, rfl, by show gs.length = ts.length; omega, z1, z2, fun i g t hg ht => ⟨(q1 i t ht).1, (q1 i t ht).2 g hg⟩, q2⟩
  · rintro ⟨a, b, ha, hb, he, hz⟩
    obtain ⟨e1, e2⟩ := Prod.mk.inj he
    have e1 : gs = a := e1
    have e2 : ts = b := e2
    subst e1 e2
    have hz : zpx G dv V S0 gs ts := hz
    obtain ⟨z1, z2, z3, z4, z5⟩ := id hz
    refine ⟨gs, ha, rfl, ⟨z2, z3, hlk gs ts hz ha, zcon_sub (fun p hp => Or.inl hp) z5⟩, hb, fun i t ht => ?_, z5⟩
    obtain ⟨g, hg⟩ := zgsome (l := gs) (i := i) (by have : i < ts.length := zgtl ht; omega)
    exact ⟨(z4 i g t hg ht).1, fun g' hg' => (z4 i g' t hg' ht).2⟩
theorem zsame_len {l l' : List (List Nat × List Nat)} (h : l.Nodup) (h' : l'.Nodup) (hm : ∀ x, x ∈ l ↔ x ∈ l') : l.length = l'.length :=
  Nat.le_antisymm (List.Nodup.length_le_of_subset h (fun x hx => (hm x).mp hx)) (List.Nodup.length_le_of_subset h' (fun x hx => (hm x).mpr hx))
end ZN
/-! what hangs -/
def zsm (f : Nat → Nat) : Nat → Nat
  | 0 => 0
  | n + 1 => zsm f n + f n
theorem zsm_list (f : Nat → Nat) : ∀ n, zsm f n = ((List.range n).map f).sum
  | 0 => rfl
  | n + 1 => by
    show zsm f n + f n = _
    rw [zsm_list f n, List.range_succ, List.map_append, List.sum_append]
    simp
theorem zsm_congr {f g : Nat → Nat} : ∀ {n}, (∀ i, i < n → f i = g i) → zsm f n = zsm g n
  | 0, _ => rfl
  | n + 1, h => by
    show zsm f n + f n = zsm g n + g n
    rw [zsm_congr (n := n) (fun i hi => h i (by omega)), h n (by omega)]
theorem zperm_sum {l l' : List Nat} (h : l.Perm l') : l.sum = l'.sum := by
  induction h with
  | nil => rfl
  | cons x _ ih => simp [ih]
  | swap x y l => simp; omega
  | trans _ _ a b => exact a.trans b
theorem zperm_range {gs : List Nat} {G : Nat} (hn : gs.Nodup) (hb : ∀ g, g ∈ gs → g < G) (hl : gs.length = G) : gs.Perm (List.range G) := by
  rw [List.perm_iff_count]
  intro a
  by_cases ha : a < G
  · have hmem : a ∈ gs := Classical.byContradiction fun h => by
      have h1 : (a :: gs).length ≤ (List.range G).length := List.Nodup.length_le_of_subset (List.nodup_cons.mpr ⟨h, hn⟩) (fun x hx => by
        rcases List.mem_cons.mp hx with q | q
        · rw [q]; exact List.mem_range.mpr ha
        · exact List.mem_range.mpr (hb x q))
      rw [List.length_range, List.length_cons] at h1
      omega
    have a1 := List.nodup_iff_count.mp hn a
    have a2 := List.count_pos_iff.mpr hmem
    have b1 := List.nodup_iff_count.mp (List.nodup_range (n := G)) a
    have b2 := List.count_pos_iff.mpr (List.mem_range.mpr ha)
    omega
  · rw [List.count_eq_zero.mpr (fun h => ha (hb a h)), List.count_eq_zero.mpr (fun h => ha (List.mem_range.mp h))]
def zdt (dv : Nat → Nat → Nat) (n i : Nat) : Nat := ((if dv i 0 = n then 10 else 0) + (if dv i 1 = n then 1 else 0)) + (if dv i 2 = n then 1 else 0)
def zgt (V : Nat → Nat → Int32) (x : Int32) (j : Nat) : Nat := ((if V j 0 = x then 10 else 0) + (if V j 1 = x then 1 else 0)) + (if V j 2 = x then 1 else 0)
theorem zhw_sm {V : Nat → Nat → Int32} {wl : Nat → Bool} {x : Int32} : ∀ {n}, (∀ j, j < n → wl j = true) → zhw V wl x n = zsm (zgt V x) n
  | 0, _ => rfl
  | n + 1, h => by
    show zhw V wl x n + _ = zsm (zgt V x) n + _
    rw [zhw_sm (n := n) (fun j hj => h j (by omega)), h n (by omega), if_pos rfl]
    rfl
theorem zhang {G : Nat} {dv : Nat → Nat → Nat} {V : Nat → Nat → Int32} {S0 : Nat × Int32 → Prop} {gs ts : List Nat} (h : zpx G dv V S0 gs ts) (hl : gs.length = G) {p : Nat × Int32} (hp : zSt dv V S0 gs ts p) : zsm (zdt dv p.1) G = zsm (zgt V p.2) G := by
  obtain ⟨h1, h2, h3, h4, h5⟩ := h
  rw [zsm_list (zgt V p.2), ← zperm_sum (List.Perm.map (zgt V p.2) (zperm_range h3 h2 hl)), zsm_list]
  congr 1
  apply List.ext_getElem?
  intro i
  rw [List.getElem?_map, List.getElem?_map]
  by_cases hi : i < G
  · rw [List.getElem?_range hi]
    obtain ⟨g, hg⟩ := zgsome (l := gs) (i := i) (by omega)
    obtain ⟨t, ht⟩ := zgsome (l := ts) (i := i) (by omega)
    rw [hg]
    show some (zdt dv p.1 i) = some (zgt V p.2 g)
    congr 1
    have e0 : dv i 0 = p.1 ↔ V g 0 = p.2 := h5 (dv i 0, V g 0) p (Or.inl (Or.inr ⟨i, g, hg, rfl⟩)) hp
    have e1 : dv i 1 = p.1 ↔ V g (1 + t) = p.2 := h5 (dv i 1, V g (1 + t)) p (Or.inr ⟨i, g, t, hg, ht, Or.inl rfl⟩) hp
    have e2 : dv i 2 = p.1 ↔ V g (2 - t) = p.2 := h5 (dv i 2, V g (2 - t)) p (Or.inr ⟨i, g, t, hg, ht, Or.inr rfl⟩) hp
    have ht2 := (h4 i g t hg ht).1
    unfold zdt zgt
    simp only [e0, e1, e2]
    rcases (show t = 0 ∨ t = 1 by omega) with rfl | rfl
    · rfl
    · show (if V g 0 = p.2 then 10 else 0) + (if V g 2 = p.2 then 1 else 0) + (if V g 1 = p.2 then 1 else 0) = _
      omega
  · rw [List.getElem?_eq_none (l := List.range G) (by rw [List.length_range]; omega), List.getElem?_eq_none (l := gs) (by omega)]
    rfl
/-- alike by how they hang -/
def zlkx (D G : Nat) (dv : Nat → Nat → Nat) (V : Nat → Nat → Int32) (wl : Nat → Bool) (i g : Nat) : Prop := zsm (zdt dv (dv i 0)) D = zhw V wl (V g 0) G ∧ ((zsm (zdt dv (dv i 1)) D = zhw V wl (V g 1) G ∧ zsm (zdt dv (dv i 2)) D = zhw V wl (V g 2) G) ∨ (zsm (zdt dv (dv i 1)) D = zhw V wl (V g 2) G ∧ zsm (zdt dv (dv i 2)) D = zhw V wl (V g 1) G))
theorem zlike {G : Nat} {dv : Nat → Nat → Nat} {V : Nat → Nat → Int32} {S0 : Nat × Int32 → Prop} {wl : Nat → Bool} (hw : ∀ j, j < G → wl j = true) {gs ts : List Nat} (h : zpx G dv V S0 gs ts) (hl : gs.length = G) {i g : Nat} (hg : gs[i]? = some g) : zlkx G G dv V wl i g := by
  obtain ⟨t, ht⟩ := zgsome (l := ts) (i := i) (by have := zgtl hg; have := h.1; omega)
  unfold zlkx
  rw [zhw_sm hw, zhw_sm hw, zhw_sm hw]
  have e0 := zhang h hl (p := (dv i 0, V g 0)) (Or.inl (Or.inr ⟨i, g, hg, rfl⟩))
  have e1 := zhang h hl (p := (dv i 1, V g (1 + t))) (Or.inr ⟨i, g, t, hg, ht, Or.inl rfl⟩)
  have e2 := zhang h hl (p := (dv i 2, V g (2 - t))) (Or.inr ⟨i, g, t, hg, ht, Or.inr rfl⟩)
  refine ⟨e0, ?_⟩
  rcases (show t = 0 ∨ t = 1 by have := (h.2.2.2.1 i g t hg ht).1; omega) with rfl | rfl
  · exact Or.inl ⟨e1, e2⟩
  · exact Or.inr ⟨e1, e2⟩
