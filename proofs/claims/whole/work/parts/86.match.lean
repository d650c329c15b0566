/-! PURE: matches: pairs of a net and a node that go together, one to one -/
def zcon (S : Nat × Int32 → Prop) : Prop := ∀ p q, S p → S q → (p.1 = q.1 ↔ p.2 = q.2)
def zwf (S : Nat × Int32 → Prop) : Prop := ∀ p, S p → p.1 < 10 ∧ ¬ p.2 = -1
/-- a row of ten tells the pairs -/
def ztel (T : Nat → Int32) (S : Nat × Int32 → Prop) : Prop := (∀ p, S p → T p.1 = p.2) ∧ ∀ n, n < 10 → (∀ v, ¬ S (n, v)) → T n = -1
def zadp (S : Nat × Int32 → Prop) (p : Nat × Int32) : Nat × Int32 → Prop := fun q => S q ∨ q = p
theorem zcon_sub {S S' : Nat × Int32 → Prop} (h : ∀ p, S p → S' p) (hc : zcon S') : zcon S := fun p q hp hq => hc p q (h p hp) (h q hq)
theorem zcon_add {S : Nat × Int32 → Prop} {p : Nat × Int32} (hc : zcon (zadp S p)) : zcon S := zcon_sub (fun _ h => Or.inl h) hc
theorem zwf_add {S : Nat × Int32 → Prop} {p : Nat × Int32} (hw : zwf S) (h1 : p.1 < 10) (h2 : ¬ p.2 = -1) : zwf (zadp S p) := by
  rintro q (hq | rfl)
  · exact hw q hq
  · exact ⟨h1, h2⟩
theorem zsome {S : Nat × Int32 → Prop} {T : Nat → Int32} {n : Nat} (ht : ztel T S) (hn : n < 10) (h : ¬ T n = -1) : S (n, T n) := by
  rcases Classical.em (∃ v, S (n, v)) with ⟨v, hv⟩ | hno
  · have := ht.1 _ hv
    have this : T n = v := this
    rw [this]; exact hv
  · exact absurd (ht.2 n hn (fun v hv => hno ⟨v, hv⟩)) h
theorem ztie {S : Nat × Int32 → Prop} {T : Nat → Int32} {n : Nat} {v : Int32} (hw : zwf S) (hc : zcon S) (ht : ztel T S) (hn : n < 10) (hv : ¬ v = -1) : zcon (zadp S (n, v)) ↔ (T n = v ∨ (T n = -1 ∧ ∀ m, m < 10 → ¬ T m = v)) := by
  constructor
  · intro h
    by_cases e : T n = -1
    · refine Or.inr ⟨e, fun m hm hmv => ?_⟩
      have h1 := zsome ht hm (by rw [hmv]; exact hv)
      rw [hmv] at h1
      have h2 : m = n := (h (m, v) (n, v) (Or.inl h1) (Or.inr rfl)).mpr rfl
      rw [h2, e] at hmv
      exact hv hmv.symm
    · have h1 := zsome ht hn e
      exact Or.inl ((h (n, T n) (n, v) (Or.inl h1) (Or.inr rfl)).mp rfl)
  · rintro (h | ⟨h1, h2⟩)
    · have h1 := zsome ht hn (by rw [h]; exact hv)
      rw [h] at h1
      refine zcon_sub (S' := S) ?_ hc
      rintro q (hq | rfl)
      · exact hq
      · exact h1
    · have key : ∀ p, S p → (p.1 = n ↔ p.2 = v) := fun p hp => by
        have hT := ht.1 p hp
        obtain ⟨w1, w2⟩ := hw p hp
        constructor
        · intro e
          rw [e, h1] at hT
          exact absurd hT.symm w2
        · intro e
          rw [e] at hT
          exact absurd hT (h2 _ w1)
      rintro p q (hp | rfl) (hq | rfl)
      · exact hc p q hp hq
      · exact key p hp
      · exact ⟨fun e => ((key q hq).mp e.symm).symm, fun e => ((key q hq).mpr e.symm).symm⟩
      · exact ⟨fun _ => rfl, fun _ => rfl⟩
theorem ztie_t {S : Nat × Int32 → Prop} {T : Nat → Int32} {n : Nat} {v : Int32} (ht : ztel T S) (hc : zcon (zadp S (n, v))) : ztel (upd T n v) (zadp S (n, v)) := by
  refine ⟨?_, fun m hm hno => ?_⟩
  · rintro p (hp | rfl)
    · by_cases e : p.1 = n
      · rw [e, zud_s]
        exact ((hc p (n, v) (Or.inl hp) (Or.inr rfl)).mp e).symm
      · rw [zud_n _ _ e]; exact ht.1 p hp
    · exact zud_s _ _ _
  · by_cases e : m = n
    · subst e; exact absurd (Or.inr rfl) (hno v)
    · rw [zud_n _ _ e]
      exact ht.2 m hm (fun w hw => hno w (Or.inl hw))
theorem ztel_u {S : Nat × Int32 → Prop} {T T' : Nat → Int32} (h : ztel T S) (h' : ztel T' S) {n : Nat} (hn : n < 10) : T n = T' n := by
  rcases Classical.em (∃ v, S (n, v)) with ⟨v, hv⟩ | hno
  · exact (h.1 _ hv).trans (h'.1 _ hv).symm
  · rw [h.2 n hn (fun v hv => hno ⟨v, hv⟩), h'.2 n hn (fun v hv => hno ⟨v, hv⟩)]
theorem ztel_c {S : Nat × Int32 → Prop} {T T' : Nat → Int32} (h : ztel T S) (hw : zwf S) (he : ∀ n, n < 10 → T' n = T n) : ztel T' S := ⟨fun p hp => by rw [he _ (hw p hp).1]; exact h.1 p hp, fun n hn hno => by rw [he n hn]; exact h.2 n hn hno⟩
theorem zap {l : List Nat} {a i b : Nat} : (l ++ [a])[i]? = some b ↔ l[i]? = some b ∨ (i = l.length ∧ b = a) := by
  rw [List.getElem?_append]
  by_cases h : i < l.length
  · rw [if_pos h]
    constructor
    · exact Or.inl
    · rintro (h' | ⟨h', -⟩)
      · exact h'
      · omega
  · rw [if_neg h, List.getElem?_eq_none (l := l) (by omega)]
    by_cases e : i = l.length
    · subst e
      rw [Nat.sub_self]
      constructor
      · intro q
        exact Or.inr ⟨rfl, (Option.some.inj q).symm⟩
      · rintro (q | ⟨-, rfl⟩)
        · cases q
        · rfl
    · rw [List.getElem?_eq_none (l := [a]) (by show 1 ≤ _; omega)]
      constructor
      · intro q; cases q
      · rintro (q | ⟨q, -⟩)
        · cases q
        · exact absurd q e
theorem zgtl {l : List Nat} {i b : Nat} (h : l[i]? = some b) : i < l.length := by
  rcases Nat.lt_or_ge i l.length with q | q
  · exact q
  · rw [List.getElem?_eq_none q] at h; cases h
theorem zapl {l r : List Nat} {i b : Nat} (h : l[i]? = some b) : (l ++ r)[i]? = some b := by
  rw [List.getElem?_append_left (zgtl h)]; exact h
theorem zgsome {l : List Nat} {i : Nat} (h : i < l.length) : ∃ b, l[i]? = some b := ⟨l[i], List.getElem?_eq_getElem h⟩
section ZM
variable (G : Nat) (dv : Nat → Nat → Nat) (V : Nat → Nat → Int32) (S0 : Nat × Int32 → Prop)
/-- pins and gates -/
def zSg (gs : List Nat) : Nat × Int32 → Prop := fun p => S0 p ∨ ∃ (i g : Nat), gs[i]? = some g ∧ p = (dv i 0, V g 0)
/-- and sides -/
def zSt (gs ts : List Nat) : Nat × Int32 → Prop := fun p => zSg dv V S0 gs p ∨ ∃ (i g t : Nat), gs[i]? = some g ∧ ts[i]? = some t ∧ (p = (dv i 1, V g (1 + t)) ∨ p = (dv i 2, V g (2 - t)))
theorem zSg_nil : zSg dv V S0 [] = S0 := by
  funext p
  apply propext
  constructor
  · rintro (h | ⟨i, g, h, -⟩)
    · exact h
    · cases h
  · exact Or.inl
theorem zSt_nil (gs : List Nat) : zSt dv V S0 gs [] = zSg dv V S0 gs := by
  funext p
  apply propext
  constructor
  · rintro (h | ⟨i, g, t, -, h, -⟩)
    · exact h
    · cases h
  · exact Or.inl
theorem zSg_add (gs : List Nat) (g : Nat) : zSg dv V S0 (gs ++ [g]) = zadp (zSg dv V S0 gs) (dv gs.length 0, V g 0) := by
  funext p
  apply propext
  constructor
  · rintro (h | ⟨i, g', h, rfl⟩)
    · exact Or.inl (Or.inl h)
    · rcases zap.mp h with h | ⟨rfl, rfl⟩
      · exact Or.inl (Or.inr ⟨i, g', h, rfl⟩)
      · exact Or.inr rfl
  · rintro ((h | ⟨i, g', h, rfl⟩) | rfl)
    · exact Or.inl h
    · exact Or.inr ⟨i, g', zap.mpr (Or.inl h), rfl⟩
    · exact Or.inr ⟨_, g, zap.mpr (Or.inr ⟨rfl, rfl⟩), rfl⟩
theorem zSt_t {gs ts : List Nat} {g : Nat} (t : Nat) (hg : gs[ts.length]? = some g) : zSt dv V S0 gs (ts ++ [t]) = zadp (zadp (zSt dv V S0 gs ts) (dv ts.length 1, V g (1 + t))) (dv ts.length 2, V g (2 - t)) := by
  funext p
  apply propext
  constructor
  · rintro (h | ⟨i, g', t', h1, h2, h3⟩)
    · exact Or.inl (Or.inl (Or.inl h))
    · rcases zap.mp h2 with h | ⟨rfl, rfl⟩
      · exact Or.inl (Or.inl (Or.inr ⟨i, g', t', h1, h, h3⟩))
      · rw [hg] at h1
        cases h1
        rcases h3 with h3 | h3
        · exact Or.inl (Or.inr h3)
        · exact Or.inr h3
  · rintro (((h | ⟨i, g', t', h1, h2, h3⟩) | h) | h)
    · exact Or.inl h
    · exact Or.inr ⟨i, g', t', h1, zap.mpr (Or.inl h2), h3⟩
    · exact Or.inr ⟨_, g, t, hg, zap.mpr (Or.inr ⟨rfl, rfl⟩), Or.inl h⟩
    · exact Or.inr ⟨_, g, t, hg, zap.mpr (Or.inr ⟨rfl, rfl⟩), Or.inr h⟩
theorem zSt_g {gs ts : List Nat} (g : Nat) (hl : gs.length = ts.length) : zSt dv V S0 (gs ++ [g]) ts = zadp (zSt dv V S0 gs ts) (dv gs.length 0, V g 0) := by
  funext p
  apply propext
  unfold zSt
  rw [zSg_add]
  constructor
  · rintro ((h | h) | ⟨i, g', t', h1, h2, h3⟩)
    · exact Or.inl (Or.inl h)
    · exact Or.inr h
    · have := zgtl h2
      rcases zap.mp h1 with h | ⟨h, -⟩
      · exact Or.inl (Or.inr ⟨i, g', t', h, h2, h3⟩)
      · omega
  · rintro ((h | ⟨i, g', t', h1, h2, h3⟩) | h)
    · exact Or.inl (Or.inl h)
    · exact Or.inr ⟨i, g', t', zapl h1, h2, h3⟩
    · exact Or.inl (Or.inr h)
theorem zSt_gt {gs ts : List Nat} (g t : Nat) (hl : gs.length = ts.length) : zSt dv V S0 (gs ++ [g]) (ts ++ [t]) = zadp (zadp (zadp (zSt dv V S0 gs ts) (dv gs.length 0, V g 0)) (dv gs.length 1, V g (1 + t))) (dv gs.length 2, V g (2 - t)) := by
  rw [zSt_t dv V S0 (g := g) t (zap.mpr (Or.inr ⟨hl.symm, rfl⟩)), zSt_g dv V S0 g hl, hl]
/-- a match, as far as it is chosen -/
def zpx (gs ts : List Nat) : Prop := gs.length = ts.length ∧ (∀ g, g ∈ gs → g < G) ∧ gs.Nodup ∧ (∀ (i g t : Nat), gs[i]? = some g → ts[i]? = some t → t < 2 ∧ (t = 0 ∨ ¬ V g 1 = V g 2)) ∧ zcon (zSt dv V S0 gs ts)
theorem zpx_step {gs ts : List Nat} {g t : Nat} (h : zpx G dv V S0 gs ts) : zpx G dv V S0 (gs ++ [g]) (ts ++ [t]) ↔ g < G ∧ g ∉ gs ∧ t < 2 ∧ (t = 0 ∨ ¬ V g 1 = V g 2) ∧ zcon (zSt dv V S0 (gs ++ [g]) (ts ++ [t])) := by
  obtain ⟨h1, h2, h3, h4, h5⟩ := h
  constructor
  · rintro ⟨k1, k2, k3, k4, k5⟩
    obtain ⟨a1, a2⟩ := k4 gs.length g t (zap.mpr (Or.inr ⟨rfl, rfl⟩)) (zap.mpr (Or.inr ⟨h1, rfl⟩))
    refine ⟨k2 g (by simp), fun hm => ?_, a1, a2, k5⟩
    rw [List.nodup_append] at k3
    exact k3.2.2 g hm g (by simp) rfl
  · rintro ⟨k1, k2, k3, k4, k5⟩
    refine ⟨by simp [h1], fun x hx => ?_, ?_, fun i g' t' hg ht => ?_, k5⟩
    · rcases List.mem_append.mp hx with q | q
      · exact h2 x q
      · rw [List.mem_singleton.mp q]; exact k1
    · rw [List.nodup_append]
      refine ⟨h3, by simp, fun a ha b hb e => ?_⟩
      rw [List.mem_singleton.mp hb] at e
      rw [e] at ha
      exact k2 ha
    · rcases zap.mp hg with q | ⟨q1, q2⟩
      · rcases zap.mp ht with w | ⟨w1, w2⟩
        · exact h4 i g' t' q w
        · have := zgtl q; omega
      · rcases zap.mp ht with w | ⟨w1, w2⟩
        · have := zgtl w; omega
        · rw [q2, w2]; exact ⟨k3, k4⟩
theorem zpx_pre {gs ts a b : List Nat} (hl : gs.length = ts.length) (h : zpx G dv V S0 (gs ++ a) (ts ++ b)) : zpx G dv V S0 gs ts := by
  obtain ⟨h1, h2, h3, h4, h5⟩ := h
  refine ⟨hl, fun g hg => h2 g (List.mem_append.mpr (Or.inl hg)), (List.nodup_append.mp h3).1, fun i g t q w => h4 i g t (zapl q) (zapl w), zcon_sub ?_ h5⟩
  rintro p ((h | ⟨i, g, q, e⟩) | ⟨i, g, t, q, w, e⟩)
  · exact Or.inl (Or.inl h)
  · exact Or.inl (Or.inr ⟨i, g, zapl q, e⟩)
  · exact Or.inr ⟨i, g, t, zapl q, zapl w, e⟩
/-- all matches behind what is chosen, as the reference comes to them -/
noncomputable def zLR : Nat → List Nat → List Nat → List (List Nat × List Nat)
  | 0, gs, ts => [(gs, ts)]
  | m + 1, gs, ts => (List.range (2 * G)).flatMap fun c => @ite _ (zpx G dv V S0 (gs ++ [c / 2]) (ts ++ [c % 2])) (Classical.propDecidable _) (zLR m (gs ++ [c / 2]) (ts ++ [c % 2])) []
theorem zLR_mem : ∀ (m : Nat) (gs ts : List Nat), zpx G dv V S0 gs ts → ∀ x, x ∈ zLR G dv V S0 m gs ts ↔ ∃ a b, a.length = m ∧ b.length = m ∧ x = (gs ++ a, ts ++ b) ∧ zpx G dv V S0 (gs ++ a) (ts ++ b)
  | 0, gs, ts, h, x => by
    show x ∈ [(gs, ts)] ↔ _
    rw [List.mem_singleton]
    constructor
    · rintro rfl
      exact ⟨[], [], rfl, rfl, by simp, by simpa using h⟩
    · rintro ⟨a, b, ha, hb, rfl, -⟩
      rw [List.length_eq_zero_iff.mp ha, List.length_eq_zero_iff.mp hb]
      simp
  | m + 1, gs, ts, h, x => by
    show x ∈ (List.range (2 * G)).flatMap _ ↔ _
    rw [List.mem_flatMap]
    constructor
    · rintro ⟨c, hc, hx⟩
      by_cases e : zpx G dv V S0 (gs ++ [c / 2]) (ts ++ [c % 2])
      · rw [if_pos e] at hx
        obtain ⟨a, b, ha, hb, rfl, hz⟩ := (zLR_mem m _ _ e x).mp hx
        exact ⟨c / 2 :: a, c % 2 :: b, by simp [ha], by simp [hb], by simp, by simpa using hz⟩
      · rw [if_neg e] at hx; cases hx
    · rintro ⟨a, b, ha, hb, rfl, hz⟩
      match a, b, ha, hb, hz with
      | g :: a, t :: b, ha, hb, hz =>
        have hz' : zpx G dv V S0 ((gs ++ [g]) ++ a) ((ts ++ [t]) ++ b) := by simpa using hz
        have hl : (gs ++ [g]).length = (ts ++ [t]).length := by simp [h.1]
        have hp := zpx_pre G dv V S0 hl hz'
        obtain ⟨k1, k2, k3, k4, k5⟩ := (zpx_step G dv V S0 h).mp hp
        have e1 : (2 * g + t) / 2 = g := by omega
        have e2 : (2 * g + t) % 2 = t := by omega
        refine ⟨2 * g + t, List.mem_range.mpr (by omega), ?_⟩
        rw [e1, e2, if_pos hp]
        exact (zLR_mem m _ _ hp _).mpr ⟨a, b, by simpa using ha, by simpa using hb, by simp, hz'⟩
theorem zLR_nodup : ∀ (m : Nat) (gs ts : List Nat), zpx G dv V S0 gs ts → (zLR G dv V S0 m gs ts).Nodup
  | 0, gs, ts, h => by show [(gs, ts)].Nodup; simp
  | m + 1, gs, ts, h => by
    show List.Pairwise _ ((List.range (2 * G)).flatMap _)
    rw [List.pairwise_flatMap]
    refine ⟨fun c hc => ?_, ?_⟩
    · by_cases e : zpx G dv V S0 (gs ++ [c / 2]) (ts ++ [c % 2])
      · rw [if_pos e]; exact zLR_nodup m _ _ e
      · rw [if_neg e]; exact List.Pairwise.nil
    · refine List.Pairwise.imp ?_ (List.nodup_range (n := 2 * G))
      intro c c' hne x hx y hy hxy
      subst hxy
      by_cases e : zpx G dv V S0 (gs ++ [c / 2]) (ts ++ [c % 2])
      · by_cases e' : zpx G dv V S0 (gs ++ [c' / 2]) (ts ++ [c' % 2])
        · rw [if_pos e] at hx
          rw [if_pos e'] at hy
          obtain ⟨a, b, -, -, rfl, -⟩ := (zLR_mem G dv V S0 m _ _ e x).mp hx
          obtain ⟨a', b', -, -, hxy, -⟩ := (zLR_mem G dv V S0 m _ _ e' _).mp hy
          obtain ⟨h1, h2⟩ := Prod.mk.inj hxy
          rw [List.append_assoc, List.append_assoc] at h1 h2
          have h3 := List.append_cancel_left h1
          have h4 := List.append_cancel_left h2
          simp at h3 h4
          omega
        · rw [if_neg e'] at hy; cases hy
      · rw [if_neg e] at hx; cases hx
end ZM
