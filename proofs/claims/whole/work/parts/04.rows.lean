/-! the machine at a frame, over a world of components: everything else that is fixed in a method stands in X -/
abbrev zCx : Type := Program × Launch × Env × Room × State × MethodId × Array Value × List Frame × Method × Code × va_G × (Nat → ClassId) × (Nat → Prop) × (State → Prop) × Nat × Nat
def zN (X : zCx) (nL pc : Nat) (lv : List (Nat × Value)) (st : List Value) (cs : List zCm) : Prop := match X with
  | (p, l, e, R, s, m, args, below, meth, c, D, kA, A, Q, nc, ns) => ∀ (H : Heap) (locs : List Loc) (ls : Array Slot), va_P D zcl (zgw kA cs) H → va_D A (zgw kA cs) → va_S A s.heap H locs → lv_has ls nL lv → W p l e R s m args below meth c H locs nc ns Q (F0 m pc ls st)
/-- the links to private methods of the nest's host -/
def zNw (U : State) : Prop := va_Nw (.methodLinkNest RX2 35 yX4_isWithin RX4) U ∧ va_Nw (.methodLinkNest RX2 63 yX4_isCell RX4) U ∧ va_Nw (.methodLinkNest RX2 59 yX4_cellBit RX4) U ∧ va_Nw (.methodLinkNest RX0 131 yX4_isWithin RX4) U
theorem zNw.warm {s U : State} (hW : s.WarmedH U.vm) (h : zNw s) : zNw U := ⟨va_Nw.warmM hW h.1, va_Nw.warmM hW h.2.1, va_Nw.warmM hW h.2.2.1, va_Nw.warmM hW h.2.2.2⟩
theorem zNw.same {s U : State} (hv : s.vm = U.vm) (h : zNw s) : zNw U := ⟨va_Nw.same rfl hv h.1, va_Nw.same rfl hv h.2.1, va_Nw.same rfl hv h.2.2.1, va_Nw.same rfl hv h.2.2.2⟩
def zC (X : zCx) (own : String) (cc : ByteArray) (nL rf rl : Nat) : Prop := match X with
  | (p, l, e, R, s, m, args, below, meth, c, D, kA, A, Q, nc, ns) => p.tables.exec = Jvm.exec ∧ c.code = cc ∧ c.maxLocals = nL ∧ s.vm.findClass own = some m.cls ∧ (∀ w ∈ zTb, w.before args s = true) ∧ va_K D zcl (zty kA) s ∧ (∀ q, s.heap.size ≤ q → A q) ∧ meth.locks = false ∧ (rf ≤ R.frames ∧ rl ≤ R.locals ∧ nc ≤ R.cells ∧ ns ≤ R.slots) ∧ zNw s
/-- 'the run from here is told by e': if e answers res, the machine comes to its end -/
def zJ {β : Type} (X : zCx) (nL : Nat) (res : β) (e : Option β) (pc : Nat) (lv : List (Nat × Value)) (st : List Value) (cs : List zCm) : Prop := e = some res → zN X nL pc lv st cs
/-- an index that is looked at -/
def zchk {β : Type} (j : Int32) (n : Nat) (e : Option β) : Option β := if j < 0 ∨ n ≤ j.toNatClampNeg then none else e
/-- a divisor that is looked at -/
def zdvk {β : Type} (y : Int32) (e : Option β) : Option β := if y = 0 then none else e
theorem zJ_eq {β : Type} {X : zCx} {nL : Nat} {res : β} {e e' : Option β} {pc : Nat} {lv : List (Nat × Value)} {st : List Value} {cs : List zCm} (h : e = e') (k : zJ X nL res e' pc lv st cs) : zJ X nL res e pc lv st cs := h ▸ k
theorem zJ_none {β : Type} {X : zCx} {nL : Nat} {res : β} {pc : Nat} {lv : List (Nat × Value)} {st : List Value} {cs : List zCm} : zJ X nL res none pc lv st cs := fun h => by cases h
section ZR
variable {β : Type} {X : zCx} {own : String} {cc : ByteArray} {nL rf rl : Nat} {res : β} {e e1 e2 : Option β} {pc : Nat} {lv lv' : List (Nat × Value)} {st : List Value} {cs : List zCm}
theorem z_iconst {n : Int} (v : Int32) (hv : Int32.ofInt n = v) (C : zC X own cc nL rf rl) (hd : decode cc pc = .ok (.iconst n, 1)) (k : zJ X nL res e (pc + 1) lv (.int v :: st) cs) : zJ X nL res e pc lv st cs := by
  obtain ⟨p, l, ee, R, s, m, args, below, meth, c, D, kA, A, Q, nc, ns⟩ := X
  obtain ⟨hx, hb, hml, hown, hts, hK, hA, hlk, hR⟩ := C
  intro he H locs ls h1 h2 h3 h4
  exact lv_iconst hx hb hd hv (k he H locs ls h1 h2 h3 h4)
theorem z_bipush {n : Int} (v : Int32) (hv : (Int8.ofInt n).toInt32 = v) (C : zC X own cc nL rf rl) (hd : decode cc pc = .ok (.bipush n, 2)) (k : zJ X nL res e (pc + 2) lv (.int v :: st) cs) : zJ X nL res e pc lv st cs := by
  obtain ⟨p, l, ee, R, s, m, args, below, meth, c, D, kA, A, Q, nc, ns⟩ := X
  obtain ⟨hx, hb, hml, hown, hts, hK, hA, hlk, hR⟩ := C
  intro he H locs ls h1 h2 h3 h4
  exact lv_bipush hx hb hd hv (k he H locs ls h1 h2 h3 h4)
theorem z_sipush {n : Int} (v : Int32) (hv : (Int16.ofInt n).toInt32 = v) (C : zC X own cc nL rf rl) (hd : decode cc pc = .ok (.sipush n, 3)) (k : zJ X nL res e (pc + 3) lv (.int v :: st) cs) : zJ X nL res e pc lv st cs := by
  obtain ⟨p, l, ee, R, s, m, args, below, meth, c, D, kA, A, Q, nc, ns⟩ := X
  obtain ⟨hx, hb, hml, hown, hts, hK, hA, hlk, hR⟩ := C
  intro he H locs ls h1 h2 h3 h4
  exact lv_sipush hx hb hd hv (k he H locs ls h1 h2 h3 h4)
theorem z_lconst {n : Fin 2} (v : Int64) (hv : Int64.ofNat (n : Nat) = v) (C : zC X own cc nL rf rl) (hd : decode cc pc = .ok (.lconst n, 1)) (k : zJ X nL res e (pc + 1) lv (.long v :: st) cs) : zJ X nL res e pc lv st cs := by
  obtain ⟨p, l, ee, R, s, m, args, below, meth, c, D, kA, A, Q, nc, ns⟩ := X
  obtain ⟨hx, hb, hml, hown, hts, hK, hA, hlk, hR⟩ := C
  intro he H locs ls h1 h2 h3 h4
  exact lv_lconst hx hb hd hv (k he H locs ls h1 h2 h3 h4)
theorem z_ldc {ix : Nat} (v : Int32) (hw : Cond.constant own ix v ∈ zTb) (C : zC X own cc nL rf rl) (hd : decode cc pc = .ok (.ldc ix, 2)) (k : zJ X nL res e (pc + 2) lv (.int v :: st) cs) : zJ X nL res e pc lv st cs := by
  obtain ⟨p, l, ee, R, s, m, args, below, meth, c, D, kA, A, Q, nc, ns⟩ := X
  obtain ⟨hx, hb, hml, hown, hts, hK, hA, hlk, hR⟩ := C
  intro he H locs ls h1 h2 h3 h4
  exact lv_ldc hx hb hown (hts _ hw) hd (k he H locs ls h1 h2 h3 h4)
theorem z_ldc_w {ix : Nat} (v : Int32) (hw : Cond.constant own ix v ∈ zTb) (C : zC X own cc nL rf rl) (hd : decode cc pc = .ok (.ldc_w ix, 3)) (k : zJ X nL res e (pc + 3) lv (.int v :: st) cs) : zJ X nL res e pc lv st cs := by
  obtain ⟨p, l, ee, R, s, m, args, below, meth, c, D, kA, A, Q, nc, ns⟩ := X
  obtain ⟨hx, hb, hml, hown, hts, hK, hA, hlk, hR⟩ := C
  intro he H locs ls h1 h2 h3 h4
  exact lv_ldcw hx hb hown (hts _ hw) hd (k he H locs ls h1 h2 h3 h4)
theorem z_ldc2_w {ix : Nat} (v : Int64) (hw : Cond.constantLong own ix v ∈ zTb) (C : zC X own cc nL rf rl) (hd : decode cc pc = .ok (.ldc2_w ix, 3)) (k : zJ X nL res e (pc + 3) lv (.long v :: st) cs) : zJ X nL res e pc lv st cs := by
  obtain ⟨p, l, ee, R, s, m, args, below, meth, c, D, kA, A, Q, nc, ns⟩ := X
  obtain ⟨hx, hb, hml, hown, hts, hK, hA, hlk, hR⟩ := C
  intro he H locs ls h1 h2 h3 h4
  exact lv_ldc2 hx hb hown (hts _ hw) hd (k he H locs ls h1 h2 h3 h4)
theorem z_iload_n {kf : Fin 4} {i : Nat} {x : Int32} (j : Nat) (hl : lv[j]? = some (i, .int x)) (hi : (kf : Nat) = i) (C : zC X own cc nL rf rl) (hd : decode cc pc = .ok (.iload_n kf, 1)) (k : zJ X nL res e (pc + 1) lv (.int x :: st) cs) : zJ X nL res e pc lv st cs := by
  obtain ⟨p, l, ee, R, s, m, args, below, meth, c, D, kA, A, Q, nc, ns⟩ := X
  obtain ⟨hx, hb, hml, hown, hts, hK, hA, hlk, hR⟩ := C
  intro he H locs ls h1 h2 h3 h4
  exact lv_iload_n hx hb hd hi (lv_at h4 j hl) (k he H locs ls h1 h2 h3 h4)
theorem z_iload {i : Nat} {x : Int32} (j : Nat) (hl : lv[j]? = some (i, .int x)) (C : zC X own cc nL rf rl) (hd : decode cc pc = .ok (.iload i, 2)) (k : zJ X nL res e (pc + 2) lv (.int x :: st) cs) : zJ X nL res e pc lv st cs := by
  obtain ⟨p, l, ee, R, s, m, args, below, meth, c, D, kA, A, Q, nc, ns⟩ := X
  obtain ⟨hx, hb, hml, hown, hts, hK, hA, hlk, hR⟩ := C
  intro he H locs ls h1 h2 h3 h4
  exact lv_iload hx hb hd (lv_at h4 j hl) (k he H locs ls h1 h2 h3 h4)
theorem z_lload_n {kf : Fin 4} {i : Nat} {x : Int64} (j : Nat) (hl : lv[j]? = some (i, .long x)) (hi : (kf : Nat) = i) (C : zC X own cc nL rf rl) (hd : decode cc pc = .ok (.lload_n kf, 1)) (k : zJ X nL res e (pc + 1) lv (.long x :: st) cs) : zJ X nL res e pc lv st cs := by
  obtain ⟨p, l, ee, R, s, m, args, below, meth, c, D, kA, A, Q, nc, ns⟩ := X
  obtain ⟨hx, hb, hml, hown, hts, hK, hA, hlk, hR⟩ := C
  intro he H locs ls h1 h2 h3 h4
  exact lv_lload_n hx hb hd hi (lv_at h4 j hl) (k he H locs ls h1 h2 h3 h4)
theorem z_lload {i : Nat} {x : Int64} (j : Nat) (hl : lv[j]? = some (i, .long x)) (C : zC X own cc nL rf rl) (hd : decode cc pc = .ok (.lload i, 2)) (k : zJ X nL res e (pc + 2) lv (.long x :: st) cs) : zJ X nL res e pc lv st cs := by
  obtain ⟨p, l, ee, R, s, m, args, below, meth, c, D, kA, A, Q, nc, ns⟩ := X
  obtain ⟨hx, hb, hml, hown, hts, hK, hA, hlk, hR⟩ := C
  intro he H locs ls h1 h2 h3 h4
  exact lv_lload hx hb hd (lv_at h4 j hl) (k he H locs ls h1 h2 h3 h4)
theorem z_aload_n {kf : Fin 4} {i : Nat} {x : Nat} (j : Nat) (hl : lv[j]? = some (i, .ref x)) (hi : (kf : Nat) = i) (C : zC X own cc nL rf rl) (hd : decode cc pc = .ok (.aload_n kf, 1)) (k : zJ X nL res e (pc + 1) lv (.ref x :: st) cs) : zJ X nL res e pc lv st cs := by
  obtain ⟨p, l, ee, R, s, m, args, below, meth, c, D, kA, A, Q, nc, ns⟩ := X
  obtain ⟨hx, hb, hml, hown, hts, hK, hA, hlk, hR⟩ := C
  intro he H locs ls h1 h2 h3 h4
  exact lv_aload_n hx hb hd hi (lv_at h4 j hl) (k he H locs ls h1 h2 h3 h4)
theorem z_aload {i : Nat} {x : Nat} (j : Nat) (hl : lv[j]? = some (i, .ref x)) (C : zC X own cc nL rf rl) (hd : decode cc pc = .ok (.aload i, 2)) (k : zJ X nL res e (pc + 2) lv (.ref x :: st) cs) : zJ X nL res e pc lv st cs := by
  obtain ⟨p, l, ee, R, s, m, args, below, meth, c, D, kA, A, Q, nc, ns⟩ := X
  obtain ⟨hx, hb, hml, hown, hts, hK, hA, hlk, hR⟩ := C
  intro he H locs ls h1 h2 h3 h4
  exact lv_aload hx hb hd (lv_at h4 j hl) (k he H locs ls h1 h2 h3 h4)
theorem z_istore_n {kf : Fin 4} {i : Nat} {x : Int32} (lv' : List (Nat × Value)) (ks : List Nat) (hn : i < nL) (hl : lv_pick ((i, Value.int x) :: lv.filter (fun q => !(q.1 == i) && !(q.1 + 1 == i && q.2.category == 2))) ks = lv') (hi : (kf : Nat) = i) (C : zC X own cc nL rf rl) (hd : decode cc pc = .ok (.istore_n kf, 1)) (k : zJ X nL res e (pc + 1) lv' st cs) : zJ X nL res e pc lv (.int x :: st) cs := by
  obtain ⟨p, l, ee, R, s, m, args, below, meth, c, D, kA, A, Q, nc, ns⟩ := X
  obtain ⟨hx, hb, hml, hown, hts, hK, hA, hlk, hR⟩ := C
  intro he H locs ls h1 h2 h3 h4
  exact lv_istore_n hx hb hd hi h4 hn rfl (fun ls' h5 => k he H locs ls' h1 h2 h3 (lv_sub h5 ks hl))
theorem z_istore {i : Nat} {x : Int32} (lv' : List (Nat × Value)) (ks : List Nat) (hn : i < nL) (hl : lv_pick ((i, Value.int x) :: lv.filter (fun q => !(q.1 == i) && !(q.1 + 1 == i && q.2.category == 2))) ks = lv') (C : zC X own cc nL rf rl) (hd : decode cc pc = .ok (.istore i, 2)) (k : zJ X nL res e (pc + 2) lv' st cs) : zJ X nL res e pc lv (.int x :: st) cs := by
  obtain ⟨p, l, ee, R, s, m, args, below, meth, c, D, kA, A, Q, nc, ns⟩ := X
  obtain ⟨hx, hb, hml, hown, hts, hK, hA, hlk, hR⟩ := C
  intro he H locs ls h1 h2 h3 h4
  exact lv_istore hx hb hd h4 hn rfl (fun ls' h5 => k he H locs ls' h1 h2 h3 (lv_sub h5 ks hl))
theorem z_lstore_n {kf : Fin 4} {i : Nat} {x : Int64} (lv' : List (Nat × Value)) (ks : List Nat) (hn : i + 1 < nL) (hl : lv_pick ((i, Value.long x) :: lv.filter (fun q => !(q.1 == i) && (!(q.1 == i + 1) && !(q.1 + 1 == i && q.2.category == 2)))) ks = lv') (hi : (kf : Nat) = i) (C : zC X own cc nL rf rl) (hd : decode cc pc = .ok (.lstore_n kf, 1)) (k : zJ X nL res e (pc + 1) lv' st cs) : zJ X nL res e pc lv (.long x :: st) cs := by
  obtain ⟨p, l, ee, R, s, m, args, below, meth, c, D, kA, A, Q, nc, ns⟩ := X
  obtain ⟨hx, hb, hml, hown, hts, hK, hA, hlk, hR⟩ := C
  intro he H locs ls h1 h2 h3 h4
  exact lv_lstore_n hx hb hd hi h4 hn rfl (fun ls' h5 => k he H locs ls' h1 h2 h3 (lv_sub h5 ks hl))
theorem z_lstore {i : Nat} {x : Int64} (lv' : List (Nat × Value)) (ks : List Nat) (hn : i + 1 < nL) (hl : lv_pick ((i, Value.long x) :: lv.filter (fun q => !(q.1 == i) && (!(q.1 == i + 1) && !(q.1 + 1 == i && q.2.category == 2)))) ks = lv') (C : zC X own cc nL rf rl) (hd : decode cc pc = .ok (.lstore i, 2)) (k : zJ X nL res e (pc + 2) lv' st cs) : zJ X nL res e pc lv (.long x :: st) cs := by
  obtain ⟨p, l, ee, R, s, m, args, below, meth, c, D, kA, A, Q, nc, ns⟩ := X
  obtain ⟨hx, hb, hml, hown, hts, hK, hA, hlk, hR⟩ := C
  intro he H locs ls h1 h2 h3 h4
  exact lv_lstore hx hb hd h4 hn rfl (fun ls' h5 => k he H locs ls' h1 h2 h3 (lv_sub h5 ks hl))
theorem z_astore_n {kf : Fin 4} {i : Nat} {x : Nat} (lv' : List (Nat × Value)) (ks : List Nat) (hn : i < nL) (hl : lv_pick ((i, Value.ref x) :: lv.filter (fun q => !(q.1 == i) && !(q.1 + 1 == i && q.2.category == 2))) ks = lv') (hi : (kf : Nat) = i) (C : zC X own cc nL rf rl) (hd : decode cc pc = .ok (.astore_n kf, 1)) (k : zJ X nL res e (pc + 1) lv' st cs) : zJ X nL res e pc lv (.ref x :: st) cs := by
  obtain ⟨p, l, ee, R, s, m, args, below, meth, c, D, kA, A, Q, nc, ns⟩ := X
  obtain ⟨hx, hb, hml, hown, hts, hK, hA, hlk, hR⟩ := C
  intro he H locs ls h1 h2 h3 h4
  exact lv_astore_n hx hb hd hi h4 hn rfl (fun ls' h5 => k he H locs ls' h1 h2 h3 (lv_sub h5 ks hl))
theorem z_astore {i : Nat} {x : Nat} (lv' : List (Nat × Value)) (ks : List Nat) (hn : i < nL) (hl : lv_pick ((i, Value.ref x) :: lv.filter (fun q => !(q.1 == i) && !(q.1 + 1 == i && q.2.category == 2))) ks = lv') (C : zC X own cc nL rf rl) (hd : decode cc pc = .ok (.astore i, 2)) (k : zJ X nL res e (pc + 2) lv' st cs) : zJ X nL res e pc lv (.ref x :: st) cs := by
  obtain ⟨p, l, ee, R, s, m, args, below, meth, c, D, kA, A, Q, nc, ns⟩ := X
  obtain ⟨hx, hb, hml, hown, hts, hK, hA, hlk, hR⟩ := C
  intro he H locs ls h1 h2 h3 h4
  exact lv_astore hx hb hd h4 hn rfl (fun ls' h5 => k he H locs ls' h1 h2 h3 (lv_sub h5 ks hl))
theorem z_iinc {i : Nat} {n : Int} {x : Int32} (v : Int32) (j : Nat) (hj : lv[j]? = some (i, .int x)) (hv : x + Int32.ofInt n = v) (lv' : List (Nat × Value)) (ks : List Nat) (hn : i < nL) (hl : lv_pick ((i, Value.int v) :: lv.filter (fun q => !(q.1 == i) && !(q.1 + 1 == i && q.2.category == 2))) ks = lv') (C : zC X own cc nL rf rl) (hd : decode cc pc = .ok (.iinc i n, 3)) (k : zJ X nL res e (pc + 3) lv' st cs) : zJ X nL res e pc lv st cs := by
  obtain ⟨p, l, ee, R, s, m, args, below, meth, c, D, kA, A, Q, nc, ns⟩ := X
  obtain ⟨hx, hb, hml, hown, hts, hK, hA, hlk, hR⟩ := C
  intro he H locs ls h1 h2 h3 h4
  exact lv_iinc hx hb hd h4 hj hv hn rfl (fun ls' h5 => k he H locs ls' h1 h2 h3 (lv_sub h5 ks hl))
theorem z_iadd {x y : Int32} (C : zC X own cc nL rf rl) (hd : decode cc pc = .ok (.iadd, 1)) (k : zJ X nL res e (pc + 1) lv (.int (x + y) :: st) cs) : zJ X nL res e pc lv (.int y :: .int x :: st) cs := by
  obtain ⟨p, l, ee, R, s, m, args, below, meth, c, D, kA, A, Q, nc, ns⟩ := X
  obtain ⟨hx, hb, hml, hown, hts, hK, hA, hlk, hR⟩ := C
  intro he H locs ls h1 h2 h3 h4
  exact lv_iadd hx hb hd (k he H locs ls h1 h2 h3 h4)
theorem z_isub {x y : Int32} (C : zC X own cc nL rf rl) (hd : decode cc pc = .ok (.isub, 1)) (k : zJ X nL res e (pc + 1) lv (.int (x - y) :: st) cs) : zJ X nL res e pc lv (.int y :: .int x :: st) cs := by
  obtain ⟨p, l, ee, R, s, m, args, below, meth, c, D, kA, A, Q, nc, ns⟩ := X
  obtain ⟨hx, hb, hml, hown, hts, hK, hA, hlk, hR⟩ := C
  intro he H locs ls h1 h2 h3 h4
  exact lv_isub hx hb hd (k he H locs ls h1 h2 h3 h4)
theorem z_imul {x y : Int32} (C : zC X own cc nL rf rl) (hd : decode cc pc = .ok (.imul, 1)) (k : zJ X nL res e (pc + 1) lv (.int (x * y) :: st) cs) : zJ X nL res e pc lv (.int y :: .int x :: st) cs := by
  obtain ⟨p, l, ee, R, s, m, args, below, meth, c, D, kA, A, Q, nc, ns⟩ := X
  obtain ⟨hx, hb, hml, hown, hts, hK, hA, hlk, hR⟩ := C
  intro he H locs ls h1 h2 h3 h4
  exact lv_imul hx hb hd (k he H locs ls h1 h2 h3 h4)
theorem z_iand {x y : Int32} (C : zC X own cc nL rf rl) (hd : decode cc pc = .ok (.iand, 1)) (k : zJ X nL res e (pc + 1) lv (.int (x &&& y) :: st) cs) : zJ X nL res e pc lv (.int y :: .int x :: st) cs := by
  obtain ⟨p, l, ee, R, s, m, args, below, meth, c, D, kA, A, Q, nc, ns⟩ := X
  obtain ⟨hx, hb, hml, hown, hts, hK, hA, hlk, hR⟩ := C
  intro he H locs ls h1 h2 h3 h4
  exact lv_iand hx hb hd (k he H locs ls h1 h2 h3 h4)
theorem z_ior {x y : Int32} (C : zC X own cc nL rf rl) (hd : decode cc pc = .ok (.ior, 1)) (k : zJ X nL res e (pc + 1) lv (.int (x ||| y) :: st) cs) : zJ X nL res e pc lv (.int y :: .int x :: st) cs := by
  obtain ⟨p, l, ee, R, s, m, args, below, meth, c, D, kA, A, Q, nc, ns⟩ := X
  obtain ⟨hx, hb, hml, hown, hts, hK, hA, hlk, hR⟩ := C
  intro he H locs ls h1 h2 h3 h4
  exact lv_ior hx hb hd (k he H locs ls h1 h2 h3 h4)
theorem z_ixor {x y : Int32} (C : zC X own cc nL rf rl) (hd : decode cc pc = .ok (.ixor, 1)) (k : zJ X nL res e (pc + 1) lv (.int (x ^^^ y) :: st) cs) : zJ X nL res e pc lv (.int y :: .int x :: st) cs := by
  obtain ⟨p, l, ee, R, s, m, args, below, meth, c, D, kA, A, Q, nc, ns⟩ := X
  obtain ⟨hx, hb, hml, hown, hts, hK, hA, hlk, hR⟩ := C
  intro he H locs ls h1 h2 h3 h4
  exact lv_ixor hx hb hd (k he H locs ls h1 h2 h3 h4)
theorem z_ishl {x y : Int32} (C : zC X own cc nL rf rl) (hd : decode cc pc = .ok (.ishl, 1)) (k : zJ X nL res e (pc + 1) lv (.int (x <<< (y &&& 31)) :: st) cs) : zJ X nL res e pc lv (.int y :: .int x :: st) cs := by
  obtain ⟨p, l, ee, R, s, m, args, below, meth, c, D, kA, A, Q, nc, ns⟩ := X
  obtain ⟨hx, hb, hml, hown, hts, hK, hA, hlk, hR⟩ := C
  intro he H locs ls h1 h2 h3 h4
  exact lv_ishl hx hb hd (k he H locs ls h1 h2 h3 h4)
theorem z_ishr {x y : Int32} (C : zC X own cc nL rf rl) (hd : decode cc pc = .ok (.ishr, 1)) (k : zJ X nL res e (pc + 1) lv (.int (x >>> (y &&& 31)) :: st) cs) : zJ X nL res e pc lv (.int y :: .int x :: st) cs := by
  obtain ⟨p, l, ee, R, s, m, args, below, meth, c, D, kA, A, Q, nc, ns⟩ := X
  obtain ⟨hx, hb, hml, hown, hts, hK, hA, hlk, hR⟩ := C
  intro he H locs ls h1 h2 h3 h4
  exact lv_ishr hx hb hd (k he H locs ls h1 h2 h3 h4)
theorem z_iushr {x y : Int32} (C : zC X own cc nL rf rl) (hd : decode cc pc = .ok (.iushr, 1)) (k : zJ X nL res e (pc + 1) lv (.int ((x.toUInt32 >>> (y.toUInt32 &&& Int32.toUInt32 31)).toInt32) :: st) cs) : zJ X nL res e pc lv (.int y :: .int x :: st) cs := by
  obtain ⟨p, l, ee, R, s, m, args, below, meth, c, D, kA, A, Q, nc, ns⟩ := X
  obtain ⟨hx, hb, hml, hown, hts, hK, hA, hlk, hR⟩ := C
  intro he H locs ls h1 h2 h3 h4
  exact lv_iushr hx hb hd rfl (k he H locs ls h1 h2 h3 h4)
theorem z_ineg {x : Int32} (C : zC X own cc nL rf rl) (hd : decode cc pc = .ok (.ineg, 1)) (k : zJ X nL res e (pc + 1) lv (.int (-x) :: st) cs) : zJ X nL res e pc lv (.int x :: st) cs := by
  obtain ⟨p, l, ee, R, s, m, args, below, meth, c, D, kA, A, Q, nc, ns⟩ := X
  obtain ⟨hx, hb, hml, hown, hts, hK, hA, hlk, hR⟩ := C
  intro he H locs ls h1 h2 h3 h4
  exact lv_ineg hx hb hd (k he H locs ls h1 h2 h3 h4)
theorem z_lneg {x : Int64} (C : zC X own cc nL rf rl) (hd : decode cc pc = .ok (.lneg, 1)) (k : zJ X nL res e (pc + 1) lv (.long (-x) :: st) cs) : zJ X nL res e pc lv (.long x :: st) cs := by
  obtain ⟨p, l, ee, R, s, m, args, below, meth, c, D, kA, A, Q, nc, ns⟩ := X
  obtain ⟨hx, hb, hml, hown, hts, hK, hA, hlk, hR⟩ := C
  intro he H locs ls h1 h2 h3 h4
  exact lv_lneg hx hb hd (k he H locs ls h1 h2 h3 h4)
theorem z_ladd {x y : Int64} (C : zC X own cc nL rf rl) (hd : decode cc pc = .ok (.ladd, 1)) (k : zJ X nL res e (pc + 1) lv (.long (x + y) :: st) cs) : zJ X nL res e pc lv (.long y :: .long x :: st) cs := by
  obtain ⟨p, l, ee, R, s, m, args, below, meth, c, D, kA, A, Q, nc, ns⟩ := X
  obtain ⟨hx, hb, hml, hown, hts, hK, hA, hlk, hR⟩ := C
  intro he H locs ls h1 h2 h3 h4
  exact lv_ladd hx hb hd (k he H locs ls h1 h2 h3 h4)
theorem z_lsub {x y : Int64} (C : zC X own cc nL rf rl) (hd : decode cc pc = .ok (.lsub, 1)) (k : zJ X nL res e (pc + 1) lv (.long (x - y) :: st) cs) : zJ X nL res e pc lv (.long y :: .long x :: st) cs := by
  obtain ⟨p, l, ee, R, s, m, args, below, meth, c, D, kA, A, Q, nc, ns⟩ := X
  obtain ⟨hx, hb, hml, hown, hts, hK, hA, hlk, hR⟩ := C
  intro he H locs ls h1 h2 h3 h4
  exact lv_lsub hx hb hd (k he H locs ls h1 h2 h3 h4)
theorem z_lmul {x y : Int64} (C : zC X own cc nL rf rl) (hd : decode cc pc = .ok (.lmul, 1)) (k : zJ X nL res e (pc + 1) lv (.long (x * y) :: st) cs) : zJ X nL res e pc lv (.long y :: .long x :: st) cs := by
  obtain ⟨p, l, ee, R, s, m, args, below, meth, c, D, kA, A, Q, nc, ns⟩ := X
  obtain ⟨hx, hb, hml, hown, hts, hK, hA, hlk, hR⟩ := C
  intro he H locs ls h1 h2 h3 h4
  exact lv_lmul hx hb hd (k he H locs ls h1 h2 h3 h4)
theorem z_land {x y : Int64} (C : zC X own cc nL rf rl) (hd : decode cc pc = .ok (.land, 1)) (k : zJ X nL res e (pc + 1) lv (.long (x &&& y) :: st) cs) : zJ X nL res e pc lv (.long y :: .long x :: st) cs := by
  obtain ⟨p, l, ee, R, s, m, args, below, meth, c, D, kA, A, Q, nc, ns⟩ := X
  obtain ⟨hx, hb, hml, hown, hts, hK, hA, hlk, hR⟩ := C
  intro he H locs ls h1 h2 h3 h4
  exact lv_land hx hb hd (k he H locs ls h1 h2 h3 h4)
theorem z_lor {x y : Int64} (C : zC X own cc nL rf rl) (hd : decode cc pc = .ok (.lor, 1)) (k : zJ X nL res e (pc + 1) lv (.long (x ||| y) :: st) cs) : zJ X nL res e pc lv (.long y :: .long x :: st) cs := by
  obtain ⟨p, l, ee, R, s, m, args, below, meth, c, D, kA, A, Q, nc, ns⟩ := X
  obtain ⟨hx, hb, hml, hown, hts, hK, hA, hlk, hR⟩ := C
  intro he H locs ls h1 h2 h3 h4
  exact lv_lor hx hb hd (k he H locs ls h1 h2 h3 h4)
theorem z_lxor {x y : Int64} (C : zC X own cc nL rf rl) (hd : decode cc pc = .ok (.lxor, 1)) (k : zJ X nL res e (pc + 1) lv (.long (x ^^^ y) :: st) cs) : zJ X nL res e pc lv (.long y :: .long x :: st) cs := by
  obtain ⟨p, l, ee, R, s, m, args, below, meth, c, D, kA, A, Q, nc, ns⟩ := X
  obtain ⟨hx, hb, hml, hown, hts, hK, hA, hlk, hR⟩ := C
  intro he H locs ls h1 h2 h3 h4
  exact lv_lxor hx hb hd (k he H locs ls h1 h2 h3 h4)
theorem z_lshl {x : Int64} {y : Int32} (C : zC X own cc nL rf rl) (hd : decode cc pc = .ok (.lshl, 1)) (k : zJ X nL res e (pc + 1) lv (.long (x <<< (y.toInt64 &&& 63)) :: st) cs) : zJ X nL res e pc lv (.int y :: .long x :: st) cs := by
  obtain ⟨p, l, ee, R, s, m, args, below, meth, c, D, kA, A, Q, nc, ns⟩ := X
  obtain ⟨hx, hb, hml, hown, hts, hK, hA, hlk, hR⟩ := C
  intro he H locs ls h1 h2 h3 h4
  exact lv_lshl hx hb hd rfl (k he H locs ls h1 h2 h3 h4)
theorem z_lushr {x : Int64} {y : Int32} (C : zC X own cc nL rf rl) (hd : decode cc pc = .ok (.lushr, 1)) (k : zJ X nL res e (pc + 1) lv (.long ((x.toUInt64 >>> (y.toInt64.toUInt64 &&& Int64.toUInt64 63)).toInt64) :: st) cs) : zJ X nL res e pc lv (.int y :: .long x :: st) cs := by
  obtain ⟨p, l, ee, R, s, m, args, below, meth, c, D, kA, A, Q, nc, ns⟩ := X
  obtain ⟨hx, hb, hml, hown, hts, hK, hA, hlk, hR⟩ := C
  intro he H locs ls h1 h2 h3 h4
  exact lv_lushr hx hb hd rfl (k he H locs ls h1 h2 h3 h4)
theorem z_i2l {x : Int32} (C : zC X own cc nL rf rl) (hd : decode cc pc = .ok (.i2l, 1)) (k : zJ X nL res e (pc + 1) lv (.long x.toInt64 :: st) cs) : zJ X nL res e pc lv (.int x :: st) cs := by
  obtain ⟨p, l, ee, R, s, m, args, below, meth, c, D, kA, A, Q, nc, ns⟩ := X
  obtain ⟨hx, hb, hml, hown, hts, hK, hA, hlk, hR⟩ := C
  intro he H locs ls h1 h2 h3 h4
  exact lv_i2l hx hb hd rfl (k he H locs ls h1 h2 h3 h4)
theorem z_l2i {x : Int64} (C : zC X own cc nL rf rl) (hd : decode cc pc = .ok (.l2i, 1)) (k : zJ X nL res e (pc + 1) lv (.int x.toInt32 :: st) cs) : zJ X nL res e pc lv (.long x :: st) cs := by
  obtain ⟨p, l, ee, R, s, m, args, below, meth, c, D, kA, A, Q, nc, ns⟩ := X
  obtain ⟨hx, hb, hml, hown, hts, hK, hA, hlk, hR⟩ := C
  intro he H locs ls h1 h2 h3 h4
  exact lv_l2i hx hb hd rfl (k he H locs ls h1 h2 h3 h4)
theorem z_i2b {x : Int32} (C : zC X own cc nL rf rl) (hd : decode cc pc = .ok (.i2b, 1)) (k : zJ X nL res e (pc + 1) lv (.int x.toInt8.toInt32 :: st) cs) : zJ X nL res e pc lv (.int x :: st) cs := by
  obtain ⟨p, l, ee, R, s, m, args, below, meth, c, D, kA, A, Q, nc, ns⟩ := X
  obtain ⟨hx, hb, hml, hown, hts, hK, hA, hlk, hR⟩ := C
  intro he H locs ls h1 h2 h3 h4
  exact lv_i2b hx hb hd rfl (k he H locs ls h1 h2 h3 h4)
theorem z_lcmp {x y : Int64} (C : zC X own cc nL rf rl) (hd : decode cc pc = .ok (.lcmp, 1)) (k : zJ X nL res e (pc + 1) lv (.int (lg_cmp x y) :: st) cs) : zJ X nL res e pc lv (.long y :: .long x :: st) cs := by
  obtain ⟨p, l, ee, R, s, m, args, below, meth, c, D, kA, A, Q, nc, ns⟩ := X
  obtain ⟨hx, hb, hml, hown, hts, hK, hA, hlk, hR⟩ := C
  intro he H locs ls h1 h2 h3 h4
  exact W.lcmp hx hb hd (k he H locs ls h1 h2 h3 h4)
theorem z_dup {v : Value} (hv : v.category = 1) (C : zC X own cc nL rf rl) (hd : decode cc pc = .ok (.dup, 1)) (k : zJ X nL res e (pc + 1) lv (v :: v :: st) cs) : zJ X nL res e pc lv (v :: st) cs := by
  obtain ⟨p, l, ee, R, s, m, args, below, meth, c, D, kA, A, Q, nc, ns⟩ := X
  obtain ⟨hx, hb, hml, hown, hts, hK, hA, hlk, hR⟩ := C
  intro he H locs ls h1 h2 h3 h4
  exact lv_dup hx hb hd hv (k he H locs ls h1 h2 h3 h4)
theorem z_dup2 {v w : Value} (hv : v.category = 1) (hw : w.category = 1) (C : zC X own cc nL rf rl) (hd : decode cc pc = .ok (.dup2, 1)) (k : zJ X nL res e (pc + 1) lv (v :: w :: v :: w :: st) cs) : zJ X nL res e pc lv (v :: w :: st) cs := by
  obtain ⟨p, l, ee, R, s, m, args, below, meth, c, D, kA, A, Q, nc, ns⟩ := X
  obtain ⟨hx, hb, hml, hown, hts, hK, hA, hlk, hR⟩ := C
  intro he H locs ls h1 h2 h3 h4
  exact lv_dup2_11 hx hb hd hv hw (k he H locs ls h1 h2 h3 h4)
theorem z_dup2_2 {v : Value} (hv : v.category = 2) (C : zC X own cc nL rf rl) (hd : decode cc pc = .ok (.dup2, 1)) (k : zJ X nL res e (pc + 1) lv (v :: v :: st) cs) : zJ X nL res e pc lv (v :: st) cs := by
  obtain ⟨p, l, ee, R, s, m, args, below, meth, c, D, kA, A, Q, nc, ns⟩ := X
  obtain ⟨hx, hb, hml, hown, hts, hK, hA, hlk, hR⟩ := C
  intro he H locs ls h1 h2 h3 h4
  exact lv_dup2_2 hx hb hd hv (k he H locs ls h1 h2 h3 h4)
theorem z_idiv {x y : Int32} (C : zC X own cc nL rf rl) (hd : decode cc pc = .ok (.idiv, 1)) (k : zJ X nL res e (pc + 1) lv (.int (x / y) :: st) cs) : zJ X nL res (zdvk y e) pc lv (.int y :: .int x :: st) cs := by
  obtain ⟨p, l, ee, R, s, m, args, below, meth, c, D, kA, A, Q, nc, ns⟩ := X
  obtain ⟨hx, hb, hml, hown, hts, hK, hA, hlk, hR⟩ := C
  intro he H locs ls h1 h2 h3 h4
  unfold zdvk at he
  by_cases hy : y = 0
  · rw [if_pos hy] at he; cases he
  · rw [if_neg hy] at he
    exact lv_idiv hx hb hd hy (k he H locs ls h1 h2 h3 h4)
theorem z_irem {x y : Int32} (C : zC X own cc nL rf rl) (hd : decode cc pc = .ok (.irem, 1)) (k : zJ X nL res e (pc + 1) lv (.int (x - x / y * y) :: st) cs) : zJ X nL res (zdvk y e) pc lv (.int y :: .int x :: st) cs := by
  obtain ⟨p, l, ee, R, s, m, args, below, meth, c, D, kA, A, Q, nc, ns⟩ := X
  obtain ⟨hx, hb, hml, hown, hts, hK, hA, hlk, hR⟩ := C
  intro he H locs ls h1 h2 h3 h4
  unfold zdvk at he
  by_cases hy : y = 0
  · rw [if_pos hy] at he; cases he
  · rw [if_neg hy] at he
    exact lv_irem hx hb hd hy (k he H locs ls h1 h2 h3 h4)
theorem z_if_eq {x : Int32} {off : Int} (tgt : Nat) (C : zC X own cc nL rf rl) (hd : decode cc pc = .ok (.ifCond .eq off, 3)) (ht : (pc : Int) + off = (tgt : Int)) (kt : zJ X nL res e1 tgt lv st cs) (kf : zJ X nL res e2 (pc + 3) lv st cs) : zJ X nL res (if x = 0 then e1 else e2) pc lv (.int x :: st) cs := by
  obtain ⟨p, l, ee, R, s, m, args, below, meth, c, D, kA, A, Q, nc, ns⟩ := X
  obtain ⟨hx, hb, hml, hown, hts, hK, hA, hlk, hR⟩ := C
  intro he H locs ls h1 h2 h3 h4
  exact lv_if_eq hx hb hd ht (fun hc => kt (by rw [← he, if_pos hc]) H locs ls h1 h2 h3 h4) (fun hc => kf (by rw [← he, if_neg hc]) H locs ls h1 h2 h3 h4)
theorem z_icmp_eq {x y : Int32} {off : Int} (tgt : Nat) (C : zC X own cc nL rf rl) (hd : decode cc pc = .ok (.if_icmp .eq off, 3)) (ht : (pc : Int) + off = (tgt : Int)) (kt : zJ X nL res e1 tgt lv st cs) (kf : zJ X nL res e2 (pc + 3) lv st cs) : zJ X nL res (if x = y then e1 else e2) pc lv (.int y :: .int x :: st) cs := by
  obtain ⟨p, l, ee, R, s, m, args, below, meth, c, D, kA, A, Q, nc, ns⟩ := X
  obtain ⟨hx, hb, hml, hown, hts, hK, hA, hlk, hR⟩ := C
  intro he H locs ls h1 h2 h3 h4
  exact lv_icmp_eq hx hb hd ht (fun hc => kt (by rw [← he, if_pos hc]) H locs ls h1 h2 h3 h4) (fun hc => kf (by rw [← he, if_neg hc]) H locs ls h1 h2 h3 h4)
theorem z_if_ne {x : Int32} {off : Int} (tgt : Nat) (C : zC X own cc nL rf rl) (hd : decode cc pc = .ok (.ifCond .ne off, 3)) (ht : (pc : Int) + off = (tgt : Int)) (kt : zJ X nL res e1 (pc + 3) lv st cs) (kf : zJ X nL res e2 tgt lv st cs) : zJ X nL res (if x = 0 then e1 else e2) pc lv (.int x :: st) cs := by
  obtain ⟨p, l, ee, R, s, m, args, below, meth, c, D, kA, A, Q, nc, ns⟩ := X
  obtain ⟨hx, hb, hml, hown, hts, hK, hA, hlk, hR⟩ := C
  intro he H locs ls h1 h2 h3 h4
  exact lv_if_ne hx hb hd ht (fun hc => kf (by rw [← he, if_neg hc]) H locs ls h1 h2 h3 h4) (fun hc => kt (by rw [← he, if_pos hc]) H locs ls h1 h2 h3 h4)
theorem z_icmp_ne {x y : Int32} {off : Int} (tgt : Nat) (C : zC X own cc nL rf rl) (hd : decode cc pc = .ok (.if_icmp .ne off, 3)) (ht : (pc : Int) + off = (tgt : Int)) (kt : zJ X nL res e1 (pc + 3) lv st cs) (kf : zJ X nL res e2 tgt lv st cs) : zJ X nL res (if x = y then e1 else e2) pc lv (.int y :: .int x :: st) cs := by
  obtain ⟨p, l, ee, R, s, m, args, below, meth, c, D, kA, A, Q, nc, ns⟩ := X
  obtain ⟨hx, hb, hml, hown, hts, hK, hA, hlk, hR⟩ := C
  intro he H locs ls h1 h2 h3 h4
  exact lv_icmp_ne hx hb hd ht (fun hc => kf (by rw [← he, if_neg hc]) H locs ls h1 h2 h3 h4) (fun hc => kt (by rw [← he, if_pos hc]) H locs ls h1 h2 h3 h4)
theorem z_if_lt {x : Int32} {off : Int} (tgt : Nat) (C : zC X own cc nL rf rl) (hd : decode cc pc = .ok (.ifCond .lt off, 3)) (ht : (pc : Int) + off = (tgt : Int)) (kt : zJ X nL res e1 tgt lv st cs) (kf : zJ X nL res e2 (pc + 3) lv st cs) : zJ X nL res (if x < 0 then e1 else e2) pc lv (.int x :: st) cs := by
  obtain ⟨p, l, ee, R, s, m, args, below, meth, c, D, kA, A, Q, nc, ns⟩ := X
  obtain ⟨hx, hb, hml, hown, hts, hK, hA, hlk, hR⟩ := C
  intro he H locs ls h1 h2 h3 h4
  exact lv_if_lt hx hb hd ht (fun hc => kt (by rw [← he, if_pos hc]) H locs ls h1 h2 h3 h4) (fun hc => kf (by rw [← he, if_neg hc]) H locs ls h1 h2 h3 h4)
theorem z_icmp_lt {x y : Int32} {off : Int} (tgt : Nat) (C : zC X own cc nL rf rl) (hd : decode cc pc = .ok (.if_icmp .lt off, 3)) (ht : (pc : Int) + off = (tgt : Int)) (kt : zJ X nL res e1 tgt lv st cs) (kf : zJ X nL res e2 (pc + 3) lv st cs) : zJ X nL res (if x < y then e1 else e2) pc lv (.int y :: .int x :: st) cs := by
  obtain ⟨p, l, ee, R, s, m, args, below, meth, c, D, kA, A, Q, nc, ns⟩ := X
  obtain ⟨hx, hb, hml, hown, hts, hK, hA, hlk, hR⟩ := C
  intro he H locs ls h1 h2 h3 h4
  exact lv_icmp_lt hx hb hd ht (fun hc => kt (by rw [← he, if_pos hc]) H locs ls h1 h2 h3 h4) (fun hc => kf (by rw [← he, if_neg hc]) H locs ls h1 h2 h3 h4)
theorem z_if_ge {x : Int32} {off : Int} (tgt : Nat) (C : zC X own cc nL rf rl) (hd : decode cc pc = .ok (.ifCond .ge off, 3)) (ht : (pc : Int) + off = (tgt : Int)) (kt : zJ X nL res e1 tgt lv st cs) (kf : zJ X nL res e2 (pc + 3) lv st cs) : zJ X nL res (if 0 ≤ x then e1 else e2) pc lv (.int x :: st) cs := by
  obtain ⟨p, l, ee, R, s, m, args, below, meth, c, D, kA, A, Q, nc, ns⟩ := X
  obtain ⟨hx, hb, hml, hown, hts, hK, hA, hlk, hR⟩ := C
  intro he H locs ls h1 h2 h3 h4
  exact lv_if_ge hx hb hd ht (fun hc => kt (by rw [← he, if_pos hc]) H locs ls h1 h2 h3 h4) (fun hc => kf (by rw [← he, if_neg hc]) H locs ls h1 h2 h3 h4)
theorem z_icmp_ge {x y : Int32} {off : Int} (tgt : Nat) (C : zC X own cc nL rf rl) (hd : decode cc pc = .ok (.if_icmp .ge off, 3)) (ht : (pc : Int) + off = (tgt : Int)) (kt : zJ X nL res e1 tgt lv st cs) (kf : zJ X nL res e2 (pc + 3) lv st cs) : zJ X nL res (if y ≤ x then e1 else e2) pc lv (.int y :: .int x :: st) cs := by
  obtain ⟨p, l, ee, R, s, m, args, below, meth, c, D, kA, A, Q, nc, ns⟩ := X
  obtain ⟨hx, hb, hml, hown, hts, hK, hA, hlk, hR⟩ := C
  intro he H locs ls h1 h2 h3 h4
  exact lv_icmp_ge hx hb hd ht (fun hc => kt (by rw [← he, if_pos hc]) H locs ls h1 h2 h3 h4) (fun hc => kf (by rw [← he, if_neg hc]) H locs ls h1 h2 h3 h4)
theorem z_if_gt {x : Int32} {off : Int} (tgt : Nat) (C : zC X own cc nL rf rl) (hd : decode cc pc = .ok (.ifCond .gt off, 3)) (ht : (pc : Int) + off = (tgt : Int)) (kt : zJ X nL res e1 tgt lv st cs) (kf : zJ X nL res e2 (pc + 3) lv st cs) : zJ X nL res (if 0 < x then e1 else e2) pc lv (.int x :: st) cs := by
  obtain ⟨p, l, ee, R, s, m, args, below, meth, c, D, kA, A, Q, nc, ns⟩ := X
  obtain ⟨hx, hb, hml, hown, hts, hK, hA, hlk, hR⟩ := C
  intro he H locs ls h1 h2 h3 h4
  exact lv_if_gt hx hb hd ht (fun hc => kt (by rw [← he, if_pos hc]) H locs ls h1 h2 h3 h4) (fun hc => kf (by rw [← he, if_neg hc]) H locs ls h1 h2 h3 h4)
theorem z_icmp_gt {x y : Int32} {off : Int} (tgt : Nat) (C : zC X own cc nL rf rl) (hd : decode cc pc = .ok (.if_icmp .gt off, 3)) (ht : (pc : Int) + off = (tgt : Int)) (kt : zJ X nL res e1 tgt lv st cs) (kf : zJ X nL res e2 (pc + 3) lv st cs) : zJ X nL res (if y < x then e1 else e2) pc lv (.int y :: .int x :: st) cs := by
  obtain ⟨p, l, ee, R, s, m, args, below, meth, c, D, kA, A, Q, nc, ns⟩ := X
  obtain ⟨hx, hb, hml, hown, hts, hK, hA, hlk, hR⟩ := C
  intro he H locs ls h1 h2 h3 h4
  exact lv_icmp_gt hx hb hd ht (fun hc => kt (by rw [← he, if_pos hc]) H locs ls h1 h2 h3 h4) (fun hc => kf (by rw [← he, if_neg hc]) H locs ls h1 h2 h3 h4)
theorem z_if_le {x : Int32} {off : Int} (tgt : Nat) (C : zC X own cc nL rf rl) (hd : decode cc pc = .ok (.ifCond .le off, 3)) (ht : (pc : Int) + off = (tgt : Int)) (kt : zJ X nL res e1 tgt lv st cs) (kf : zJ X nL res e2 (pc + 3) lv st cs) : zJ X nL res (if x ≤ 0 then e1 else e2) pc lv (.int x :: st) cs := by
  obtain ⟨p, l, ee, R, s, m, args, below, meth, c, D, kA, A, Q, nc, ns⟩ := X
  obtain ⟨hx, hb, hml, hown, hts, hK, hA, hlk, hR⟩ := C
  intro he H locs ls h1 h2 h3 h4
  exact lv_if_le hx hb hd ht (fun hc => kt (by rw [← he, if_pos hc]) H locs ls h1 h2 h3 h4) (fun hc => kf (by rw [← he, if_neg hc]) H locs ls h1 h2 h3 h4)
theorem z_icmp_le {x y : Int32} {off : Int} (tgt : Nat) (C : zC X own cc nL rf rl) (hd : decode cc pc = .ok (.if_icmp .le off, 3)) (ht : (pc : Int) + off = (tgt : Int)) (kt : zJ X nL res e1 tgt lv st cs) (kf : zJ X nL res e2 (pc + 3) lv st cs) : zJ X nL res (if x ≤ y then e1 else e2) pc lv (.int y :: .int x :: st) cs := by
  obtain ⟨p, l, ee, R, s, m, args, below, meth, c, D, kA, A, Q, nc, ns⟩ := X
  obtain ⟨hx, hb, hml, hown, hts, hK, hA, hlk, hR⟩ := C
  intro he H locs ls h1 h2 h3 h4
  exact lv_icmp_le hx hb hd ht (fun hc => kt (by rw [← he, if_pos hc]) H locs ls h1 h2 h3 h4) (fun hc => kf (by rw [← he, if_neg hc]) H locs ls h1 h2 h3 h4)
theorem z_goto {off : Int} (tgt : Nat) (C : zC X own cc nL rf rl) (hd : decode cc pc = .ok (.goto off, 3)) (ht : (pc : Int) + off = (tgt : Int)) (k : zJ X nL res e tgt lv st cs) : zJ X nL res e pc lv st cs := by
  obtain ⟨p, l, ee, R, s, m, args, below, meth, c, D, kA, A, Q, nc, ns⟩ := X
  obtain ⟨hx, hb, hml, hown, hts, hK, hA, hlk, hR⟩ := C
  intro he H locs ls h1 h2 h3 h4
  exact lv_goto hx hb hd ht (k he H locs ls h1 h2 h3 h4)
end ZR
