/-! names for values, loops, switches, and other rows that a program's text needs -/
def zlet {α β : Type} (v : α) (f : α → Option β) : Option β := f v
def zit {P R : Type} (B : (P → Option R) → P → Option R) : Nat → P → Option R
  | 0, _ => none
  | F + 1, p => B (zit B F) p
section ZL
variable {α β : Type} {X : zCx} {own : String} {cc : ByteArray} {nL rf rl : Nat} {res : β} {e e1 e2 : Option β} {pc : Nat} {lv : List (Nat × Value)} {st : List Value} {cs : List zCm}
theorem z_lv (lv' : List (Nat × Value)) (ks : List Nat) (hl : lv_pick lv ks = lv') (k : zJ X nL res e pc lv' st cs) : zJ X nL res e pc lv st cs := by
  obtain ⟨p, l, ee, R, s, m, args, below, meth, c, D, kA, A, Q, nc, ns⟩ := X
  intro he H locs ls h1 h2 h3 h4
  exact k he H locs ls h1 h2 h3 (lv_sub h4 ks hl)
theorem z_leti {v : Int32} {f : Int32 → Option β} (k : ∀ x : Int32, zJ X nL res (f x) pc lv (.int x :: st) cs) : zJ X nL res (zlet v f) pc lv (.int v :: st) cs := k v
theorem z_letl {v : Int64} {f : Int64 → Option β} (k : ∀ x : Int64, zJ X nL res (f x) pc lv (.long x :: st) cs) : zJ X nL res (zlet v f) pc lv (.long v :: st) cs := k v
theorem z_letc {v : zOS} {f : zOS → Option β} (csf : zOS → List zCm) (k : ∀ x : zOS, zJ X nL res (f x) pc lv st (csf x)) : zJ X nL res (zlet v f) pc lv st (csf v) := k v
theorem zit_J {P : Type} {B : (P → Option β) → P → Option β} (lvf : P → List (Nat × Value)) (csf : P → List zCm) (hB : ∀ kc : P → Option β, (∀ p, zJ X nL res (kc p) pc (lvf p) [] (csf p)) → ∀ p, zJ X nL res (B kc p) pc (lvf p) [] (csf p)) : ∀ (F : Nat) (p : P), zJ X nL res (zit B F p) pc (lvf p) [] (csf p)
  | 0, p => zJ_none
  | F + 1, p => hB (zit B F) (zit_J lvf csf hB F) p
theorem z_if {cnd : Prop} [Decidable cnd] (kt : cnd → zJ X nL res e1 pc lv st cs) (kf : ¬ cnd → zJ X nL res e2 pc lv st cs) : zJ X nL res (if cnd then e1 else e2) pc lv st cs := by
  intro he
  by_cases h : cnd
  · rw [if_pos h] at he; exact kt h he
  · rw [if_neg h] at he; exact kf h he
theorem z_tin {dflt lo hi : Int} {offs : Array Int} {len : Nat} {x : Int32} {off : Int} (v : Int32) (tgt : Nat) (hxv : x = v) (C : zC X own cc nL rf rl) (hd : decode cc pc = .ok (.tableswitch dflt lo hi offs, len)) (h1 : ¬ v.toInt < lo) (h2 : ¬ hi < v.toInt) (ho : offs[(v.toInt - lo).toNat]? = some off) (ht : (pc : Int) + off = (tgt : Int))
    (k : zJ X nL res e tgt lv st cs) : zJ X nL res e pc lv (.int x :: st) cs := by
  subst hxv
  obtain ⟨p, l, ee, R, s, m, args, below, meth, c, D, kA, A, Q, nc, ns⟩ := X
  obtain ⟨hx, hb, hml, hown, hts, hK, hA, hlk, hR⟩ := C
  intro he H locs ls g1 g2 g3 g4
  exact lv_tableIn hx hb hd h1 h2 ho ht (k he H locs ls g1 g2 g3 g4)
theorem z_tdef {dflt lo hi : Int} {offs : Array Int} {len : Nat} {x : Int32} (vs : List Int32) (tgt : Nat) (hne : ∀ v ∈ vs, ¬ x = v) (C : zC X own cc nL rf rl) (hd : decode cc pc = .ok (.tableswitch dflt lo hi offs, len)) (hall : ∀ k, k < (hi - lo + 1).toNat → offs[k]? = some dflt ∨ Int32.ofInt (lo + k) ∈ vs) (ht : (pc : Int) + dflt = (tgt : Int))
    (k : zJ X nL res e tgt lv st cs) : zJ X nL res e pc lv (.int x :: st) cs := by
  obtain ⟨p, l, ee, R, s, m, args, below, meth, c, D, kA, A, Q, nc, ns⟩ := X
  obtain ⟨hx, hb, hml, hown, hts, hK, hA, hlk, hR⟩ := C
  intro he H locs ls g1 g2 g3 g4
  by_cases h : x.toInt < lo ∨ hi < x.toInt
  · exact lv_tableOut hx hb hd h ht (k he H locs ls g1 g2 g3 g4)
  · have h1 : ¬ x.toInt < lo := fun z => h (Or.inl z)
    have h2 : ¬ hi < x.toInt := fun z => h (Or.inr z)
    rcases hall (x.toInt - lo).toNat (by omega) with h3 | h3
    · exact lv_tableIn hx hb hd h1 h2 h3 ht (k he H locs ls g1 g2 g3 g4)
    · exfalso
      have h4 : lo + ((x.toInt - lo).toNat : Int) = x.toInt := by omega
      rw [h4, Int32.ofInt_toInt] at h3
      exact hne x h3 rfl
theorem z_lin {dflt : Int} {ps : Array (Int × Int)} {len : Nat} {x : Int32} {off : Int} (v : Int32) (tgt : Nat) (hxv : x = v) (C : zC X own cc nL rf rl) (hd : decode cc pc = .ok (.lookupswitch dflt ps, len)) (hp : (ps.toList.zip (ps.toList.drop 1)).all (fun (a, next) => a.1 < next.1) = true) (ho : Op.lookupswitch.offset ps.toList dflt v.toInt = off) (ht : (pc : Int) + off = (tgt : Int))
    (k : zJ X nL res e tgt lv st cs) : zJ X nL res e pc lv (.int x :: st) cs := by
  subst hxv
  obtain ⟨p, l, ee, R, s, m, args, below, meth, c, D, kA, A, Q, nc, ns⟩ := X
  obtain ⟨hx, hb, hml, hown, hts, hK, hA, hlk, hR⟩ := C
  intro he H locs ls g1 g2 g3 g4
  exact lv_lookup hx hb hd hp ho ht (k he H locs ls g1 g2 g3 g4)
theorem z_min {x y : Int32} {ix : Nat} (C : zC X own cc nL rf rl) (hd : decode cc pc = .ok (.invokestatic ix, 3)) (hl : Cond.methodLink own ix Lib.Math.min.name ∈ zTb) (hs : Cond.static Lib.Math.min.name ∈ zTb) (hi : Cond.initialized "java/lang/Math" ∈ zTb) (hc : Cond.code Lib.Math.min.name Lib.Math.min.code 2 (some .int) ∈ zTb) (hrf : 1 ≤ rf) (hrl : (st.map fun v => v.category).sum + 13 ≤ rl)
    (k : zJ X nL res e (pc + 3) lv (.int (if y < x then y else x) :: st) cs) : zJ X nL res e pc lv (.int y :: .int x :: st) cs := by
  obtain ⟨p, l, ee, R, s, m, args, below, meth, c, D, kA, A, Q, nc, ns⟩ := X
  obtain ⟨hx, hb, hml, hown, hts, hK, hA, hlk, hR, hNw⟩ := C
  intro he H locs ls h1 h2 h3 h4
  exact va_mmin hx hb (by rw [hml, h4.1]) hown (hts _ hl) (hts _ hs) (hts _ hi) (hts _ hc) (Nat.le_trans hrf hR.1) (Nat.le_trans hrl hR.2.1) hR.2.2.1 hR.2.2.2 hd (k he H locs ls h1 h2 h3 h4)
theorem z_max {x y : Int32} {ix : Nat} (C : zC X own cc nL rf rl) (hd : decode cc pc = .ok (.invokestatic ix, 3)) (hl : Cond.methodLink own ix Lib.Math.max.name ∈ zTb) (hs : Cond.static Lib.Math.max.name ∈ zTb) (hi : Cond.initialized "java/lang/Math" ∈ zTb) (hc : Cond.code Lib.Math.max.name Lib.Math.max.code 2 (some .int) ∈ zTb) (hrf : 1 ≤ rf) (hrl : (st.map fun v => v.category).sum + 13 ≤ rl)
    (k : zJ X nL res e (pc + 3) lv (.int (if x < y then y else x) :: st) cs) : zJ X nL res e pc lv (.int y :: .int x :: st) cs := by
  obtain ⟨p, l, ee, R, s, m, args, below, meth, c, D, kA, A, Q, nc, ns⟩ := X
  obtain ⟨hx, hb, hml, hown, hts, hK, hA, hlk, hR, hNw⟩ := C
  intro he H locs ls h1 h2 h3 h4
  exact va_mmax hx hb (by rw [hml, h4.1]) hown (hts _ hl) (hts _ hs) (hts _ hi) (hts _ hc) (Nat.le_trans hrf hR.1) (Nat.le_trans hrl hR.2.1) hR.2.2.1 hR.2.2.2 hd (k he H locs ls h1 h2 h3 h4)
theorem z_getE {q : Nat → Nat} {σ : zOS} {c ix : Nat} (i f n a : Nat) (hq : q n = a) (C : zC X own cc nL rf rl) (hd : decode cc pc = .ok (.getfield ix, 3)) (hc : cs[i]? = some (c, q, σ)) (h6 : c < 6) (hf : f < znF c) (hk : zfk c f = n + 2) (hw : Cond.fieldLink own ix (zTn c f).1 (zTn c f).2.1 (zTn c f).2.2.1 ∈ zTb)
    (k : zJ X nL res e (pc + 3) lv (.ref a :: st) cs) : zJ X nL res e pc lv (.ref (q 0) :: st) cs := by
  subst hq
  exact z_getR i f n C hd hc h6 hf hk hw k
theorem z_aal {q : Nat → Nat} {σ : zOS} {c : Nat} (i : Nat) {a kd n : Nat} {j : Int32} (C : zC X own cc nL rf rl) (hd : decode cc pc = .ok (.aaload, 1)) (hc : cs[i]? = some (c, q, σ)) (ha : zAr c a kd n) (hkd : kd = 3 ∨ kd = 4 ∨ kd = 5)
    (k : vp_in j n → zJ X nL res e (pc + 1) lv (.ref (q (zbs c + j.toNatClampNeg)) :: st) cs) : zJ X nL res (zchk j n e) pc lv (.int j :: .ref (q a) :: st) cs := fun he => z_aald i C hd hc ha hkd (k (zchk_some he).2) he
end ZL
theorem zAr_w {j : Int32} (h : vp_in j 3) : zAr 0 (zbs 0 + j.toNatClampNeg) 1 96 := by
  have hlt : j.toNatClampNeg < 3 := Nat.not_le.mp fun q => h (Or.inr q)
  match hj : j.toNatClampNeg, hlt with
  | 0, _ => unfold zAr; decide
  | 1, _ => unfold zAr; decide
  | 2, _ => unfold zAr; decide
theorem zAr_n {j : Int32} (h : vp_in j 13) : zAr 1 (zbs 1 + j.toNatClampNeg) 0 10 := by
  have hlt : j.toNatClampNeg < 13 := Nat.not_le.mp fun q => h (Or.inr q)
  generalize j.toNatClampNeg = n at hlt
  have hall : ∀ n, n < 13 → ((0 < zbs 1 + n ∧ zbs 1 + n ≤ znA 1) ∧ zak 1 (zbs 1 + n) = 0 ∧ zln 1 (zbs 1 + n) = 10) := by decide
  exact hall n hlt
theorem z_pm {α : Type} (cs : List α) (is : List Nat) (h : is.Perm (List.range cs.length)) : (is.filterMap (fun i => cs[i]?)).Perm cs := by
  have h1 := h.filterMap (fun i => cs[i]?)
  have h2 : (List.range cs.length).filterMap (fun i => cs[i]?) = cs := by
    have h3 := zpl_l cs []
    rw [List.append_nil] at h3
    rw [show (fun i => cs[i]?) = (id ∘ fun i => cs[i]?) from rfl, ← List.filterMap_map, h3, List.filterMap_map]
    exact List.filterMap_some
  rw [h2] at h1
  exact h1
