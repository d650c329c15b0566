/-! PURE: numbered pieces of a graph: they are unique -/
/-- b hangs together with a: every closed set that has a has b -/
def zcn (w : Nat → Bool) (adj : Nat → Nat → Prop) (a b : Nat) : Prop := ∀ S : Nat → Prop, S a → (∀ x y, S x → w x = true → w y = true → adj x y → S y) → S b
theorem zcn_refl {w : Nat → Bool} {adj : Nat → Nat → Prop} {a : Nat} : zcn w adj a a := fun _ h _ => h
theorem zcn_step {w : Nat → Bool} {adj : Nat → Nat → Prop} {a b c : Nat} (h : zcn w adj a b) (hb : w b = true) (hc : w c = true) (hbc : adj b c) : zcn w adj a c := fun S h1 h2 => h2 b c (h S h1 h2) hb hc hbc
theorem zcn_trans {w : Nat → Bool} {adj : Nat → Nat → Prop} {a b c : Nat} (h : zcn w adj a b) (h' : zcn w adj b c) : zcn w adj a c := fun S h1 h2 => h' S (h S h1 h2) h2
theorem zcn_symm {w : Nat → Bool} {adj : Nat → Nat → Prop} (hs : ∀ x y, adj x y → adj y x) {a b : Nat} (h : zcn w adj a b) : zcn w adj b a :=
  h (fun z => zcn w adj z a) zcn_refl (fun x y hx wx wy hxy => zcn_trans (zcn_step zcn_refl wy wx (hs x y hxy)) hx)
theorem zcn_w {w : Nat → Bool} {adj : Nat → Nat → Prop} {a b : Nat} (ha : w a = true) (h : zcn w adj a b) : w b = true := h (fun z => w z = true) ha (fun _ _ _ _ hy _ => hy)
/-- f numbers the pieces of the places below N, from 0 to below n, by their least places -/
def zlab (N : Nat) (w : Nat → Bool) (adj : Nat → Nat → Prop) (f : Nat → Option Nat) (n : Nat) : Prop :=
  (∀ p, p < N → w p = false → f p = none) ∧ (∀ p, p < N → w p = true → ∃ k, k < n ∧ f p = some k) ∧
  (∀ p q, p < N → q < N → w p = true → w q = true → adj p q → f p = f q) ∧
  (∀ p q, p < N → q < N → w p = true → w q = true → f p = f q → zcn w adj p q) ∧
  (∀ k, k < n → ∃ p, p < N ∧ w p = true ∧ f p = some k) ∧
  (∀ p k, p < N → w p = true → f p = some k → ∀ k', k' < k → ∃ p', p' < p ∧ w p' = true ∧ f p' = some k')
theorem zlab_cn {N : Nat} {w : Nat → Bool} {adj : Nat → Nat → Prop} {f : Nat → Option Nat} {n : Nat} (hN : ∀ p, w p = true → p < N) (h : zlab N w adj f n) {p q : Nat} (hp : w p = true) (hq : w q = true) : f p = f q ↔ zcn w adj p q := by
  constructor
  · exact h.2.2.2.1 p q (hN p hp) (hN q hq) hp hq
  · intro hc
    exact hc (fun z => f p = f z) rfl (fun x y hx wx wy hxy => hx.trans (h.2.2.1 x y (hN x wx) (hN y wy) wx wy hxy))
theorem zlab_le {N : Nat} {w : Nat → Bool} {adj : Nat → Nat → Prop} {f g : Nat → Option Nat} {n m : Nat} (hN : ∀ p, w p = true → p < N) (hf : zlab N w adj f n) (hg : zlab N w adj g m) {p k k' : Nat} (hp : w p = true) (hfp : f p = some k) (hgp : g p = some k') (ih : ∀ q, q < p → w q = true → f q = g q) (hleast : ∀ q, q < p → w q = true → ¬ f q = f p) : k ≤ k' := by
  rcases Nat.lt_or_ge k' k with hlt | hge
  · exfalso
    obtain ⟨p', h1, h2, h3⟩ := hf.2.2.2.2.2 p k (hN p hp) hp hfp k' hlt
    have h4 : g p' = some k' := (ih p' h1 h2).symm.trans h3
    have h5 : zcn w adj p' p := (zlab_cn hN hg h2 hp).mp (h4.trans hgp.symm)
    exact hleast p' h1 h2 ((zlab_cn hN hf h2 hp).mpr h5)
  · exact hge
theorem zlab_unique {N : Nat} {w : Nat → Bool} {adj : Nat → Nat → Prop} {f g : Nat → Option Nat} {n m : Nat} (hN : ∀ p, w p = true → p < N) (hf : zlab N w adj f n) (hg : zlab N w adj g m) : (∀ p, p < N → f p = g p) ∧ n = m := by
  have key : ∀ p, w p = true → f p = g p := by
    intro p
    induction p using Nat.strongRecOn with
    | ind p ih =>
      intro hp
      rcases Classical.em (∃ q, q < p ∧ w q = true ∧ f q = f p) with ⟨q, h1, h2, h3⟩ | hno
      · have h4 := (zlab_cn hN hf h2 hp).mp h3
        have h5 := (zlab_cn hN hg h2 hp).mpr h4
        exact h3.symm.trans ((ih q h1 h2).trans h5)
      · obtain ⟨k, hk, hfp⟩ := hf.2.1 p (hN p hp) hp
        obtain ⟨k', hk', hgp⟩ := hg.2.1 p (hN p hp) hp
        have l1 : ∀ q, q < p → w q = true → ¬ f q = f p := fun q h1 h2 h3 => hno ⟨q, h1, h2, h3⟩
        have l2 : ∀ q, q < p → w q = true → ¬ g q = g p := fun q h1 h2 h3 => l1 q h1 h2 ((zlab_cn hN hf h2 hp).mpr ((zlab_cn hN hg h2 hp).mp h3))
        have a1 := zlab_le hN hf hg hp hfp hgp (fun q h1 h2 => ih q h1 h2) l1
        have a2 := zlab_le hN hg hf hp hgp hfp (fun q h1 h2 => (ih q h1 h2).symm) l2
        rw [hfp, hgp, Nat.le_antisymm a1 a2]
  refine ⟨fun p hp => ?_, ?_⟩
  · cases e : w p with
    | true => exact key p e
    | false => rw [hf.1 p hp e, hg.1 p hp e]
  · apply Nat.le_antisymm
    · rcases Nat.lt_or_ge m n with h | h
      · exfalso
        obtain ⟨p, h1, h2, h3⟩ := hf.2.2.2.2.1 m h
        obtain ⟨k, hk, h4⟩ := hg.2.1 p h1 h2
        rw [key p h2, h4] at h3
        have := Option.some.inj h3
        omega
      · exact h
    · rcases Nat.lt_or_ge n m with h | h
      · exfalso
        obtain ⟨p, h1, h2, h3⟩ := hg.2.2.2.2.1 n h
        obtain ⟨k, hk, h4⟩ := hf.2.1 p h1 h2
        rw [← key p h2, h4] at h3
        have := Option.some.inj h3
        omega
      · exact h
/-! how many below n -/
def zcount (p : Nat → Bool) : Nat → Nat
  | 0 => 0
  | n + 1 => zcount p n + (if p n then 1 else 0)
theorem zcount_congr {p q : Nat → Bool} : ∀ {n : Nat}, (∀ i, i < n → p i = q i) → zcount p n = zcount q n
  | 0, _ => rfl
  | n + 1, h => by
    show zcount p n + _ = zcount q n + _
    rw [zcount_congr (n := n) (fun i hi => h i (by omega)), h n (by omega)]
theorem zcount_le {p : Nat → Bool} : ∀ {n : Nat}, zcount p n ≤ n
  | 0 => Nat.le_refl _
  | n + 1 => by
    show zcount p n + _ ≤ _
    have := zcount_le (p := p) (n := n)
    split <;> omega
theorem zcount_set {p q : Nat → Bool} {c : Nat} (hp : p c = false) (hq : q c = true) (ho : ∀ i, i ≠ c → q i = p i) : ∀ {n : Nat}, zcount q n = zcount p n + (if c < n then 1 else 0)
  | 0 => by simp [zcount]
  | n + 1 => by
    show zcount q n + _ = zcount p n + _ + _
    rw [zcount_set hp hq ho (n := n)]
    by_cases h : n = c
    · subst h
      rw [hp, hq]
      simp
    · rw [ho n h]
      by_cases h1 : c < n
      · rw [if_pos h1, if_pos (show c < n + 1 by omega)]; omega
      · rw [if_neg h1, if_neg (show ¬ c < n + 1 by omega)]; omega
theorem zcount_0 {p : Nat → Bool} {n : Nat} (h : ∀ i, i < n → p i = false) : zcount p n = 0 := by
  rw [zcount_congr (q := fun _ => false) h]
  clear h
  induction n with
  | zero => rfl
  | succ n ih => show zcount _ n + _ = 0; rw [ih]; rfl
theorem zcount_pos {p : Nat → Bool} {n i : Nat} (hi : i < n) (h : p i = true) : 0 < zcount p n := by
  induction n with
  | zero => omega
  | succ n ih =>
    show 0 < zcount p n + _
    by_cases e : i = n
    · subst e; rw [h]; simp
    · have := ih (by omega); omega
theorem zcount_mono {p q : Nat → Bool} : ∀ {n : Nat}, (∀ i, i < n → p i = true → q i = true) → zcount p n ≤ zcount q n
  | 0, _ => Nat.le_refl _
  | n + 1, h => by
    show zcount p n + _ ≤ zcount q n + _
    have := zcount_mono (n := n) (fun i hi => h i (by omega))
    cases e : p n with
    | false => simp; omega
    | true => rw [h n (by omega) e]; simp; omega
