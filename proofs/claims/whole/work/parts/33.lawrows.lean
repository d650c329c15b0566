/-! THE CLAIM OUT OF ONE WALK OF THE LAW'S BODY. Your part is whole_start (and what it stands on); all else here is the same for every law, but numbers. -/
def R_law : String := "DrawnGatesLaw"
def lw_P (b : Addr) (xs : List Int32) (args : Array Value) (s : State) : Prop := args = #[.ref b] ∧ s.IntsAt b xs ∧ xs.length ≤ 3072 ∧ (Jvm.Cond.and given_1 narrow_1).before args s = true
def lw_Q (_ : Array Value) (s : State) (o : Outcome) (t : State) : Prop := o = .returned (some (.int 1)) ∧ Framed s o t [] 600000 7302250
def lw_Z (below : List Frame) (a : Array Value) (s : State) : State → Prop := fun t => ∃ o, t.status = .running ∧ Ended t below o ∧ lw_Q a s o t
/-- the law's own end, with 1 on the stack, nothing written that was there before, its room as the claim has it -/
theorem lw_ret {p : Program} {l : Launch} {e : Env} {s : State} {m : MethodId} {below : List Frame} {meth : Method} {c : Code} {b : Nat} (hx : p.tables.exec = Jvm.exec) (hb : c.code = code) (hr : meth.sig.returnType = ret) (hlocks : meth.locks = false) {pc : Nat} {H : Heap} {ls : Array Slot} (hdg : decode code pc = .ok (.ireturn, 1)) : W p l e room_1 s m #[Value.ref b] below meth c H [] 600000 7302250 (lw_Z below #[Value.ref b] s) (F0 m pc ls [.int 1]) := by
  intro T hT X
  obtain ⟨fs, hret, hrun, hended, hW, hframe⟩ := X.leave (v := some (.int 1)) (hlocks := hlocks) (fun h => by rw [hr] at h; cases h)
  have hmeth' : T.vm.method? m = some meth := X.method'
  refine ⟨T.setFrames fs, ?_, .returned (some (.int 1)), hrun, hended, rfl, ⟨_, rfl⟩, hW, hframe⟩
  jvm_step X.here [X.here.top, hx, hb, hdg, hmeth', hr, ret, narrow_b1]
  (try refine ⟨rfl, ?_⟩); (try refine ⟨rfl, ?_⟩)
  first | (intro acts; rw [hret _ acts rfl rfl rfl]) | rw [hret _ _ rfl rfl rfl]
  exact Steps.refl _
/-- what holds at the law's entry: the machine, the code, the tables' words (any of lw_tbl by 'hts w (by decide +kernel)'), the script of L ints xs at the cell b, what the Statement gives of the start (any of its parts by flat_of_before) -/
def lw_At (p : Program) (s : State) (m : MethodId) (meth : Method) (c : Code) (b L : Nat) (xs : Nat → Int32) : Prop :=
  p.tables.exec = Jvm.exec ∧ c.code = code ∧ meth.sig.returnType = ret ∧ c.maxLocals = 4 ∧ s.vm.findClass R_law = some m.cls ∧ (∀ w ∈ lw_tbl, w.before #[Value.ref b] s = true) ∧ va_X b L xs s s.heap ∧ b < s.heap.size ∧ meth.locks = false ∧ (Jvm.Cond.and given_1 narrow_1).before #[Value.ref b] s = true
/-- what is fixed in the law's walk: the script b of L ints xs, the claim's room, the end -/
def zLw (X : zCx) (b L : Nat) (xs : Nat → Int32) : Prop := match X with
  | (p, l, e, R, s, m, args, below, meth, c, D, kA, A, Q, nc, ns) => (args = #[Value.ref b] ∧ R = room_1 ∧ Q = lw_Z below #[Value.ref b] s) ∧ A = (fun q : Nat => s.heap.size ≤ q) ∧ va_X b L xs s s.heap ∧ b < s.heap.size ∧ meth.sig.returnType = ret ∧ nc ≤ 600000 ∧ ns ≤ 7302250
section ZW
variable {β : Type} {X : zCx} {own : String} {cc : ByteArray} {nL rf rl b L : Nat} {xs : Nat → Int32} {res : β} {e : Option β} {pc : Nat} {lv : List (Nat × Value)} {st : List Value} {cs : List zCm}
theorem z_sld {j : Int32} (C : zC X own cc nL rf rl) (hR : zLw X b L xs) (hd : decode cc pc = .ok (.iaload, 1)) (k : zJ X nL res e (pc + 1) lv (.int (xs j.toNatClampNeg) :: st) cs) : zJ X nL res (zchk j L e) pc lv (.int j :: .ref b :: st) cs := by
  obtain ⟨p, l, ee, R, s, m, args, below, meth, c, D, kA, A, Q, nc, ns⟩ := X
  obtain ⟨hx, hb, hml, hown, hts, hK, hA, hlk, hRm⟩ := C
  obtain ⟨-, hA2, hX, hbl, -⟩ := hR
  intro he H locs ls h1 h2 h3 h4
  obtain ⟨he, hin⟩ := zchk_some he
  exact va_sld hx hb hX hbl (by rw [hA2]; exact Nat.not_le.mpr hbl) h3 hin hd (k he H locs ls h1 h2 h3 h4)
theorem z_slen (C : zC X own cc nL rf rl) (hR : zLw X b L xs) (hd : decode cc pc = .ok (.arraylength, 1)) (k : zJ X nL res e (pc + 1) lv (.int (nI L) :: st) cs) : zJ X nL res e pc lv (.ref b :: st) cs := by
  obtain ⟨p, l, ee, R, s, m, args, below, meth, c, D, kA, A, Q, nc, ns⟩ := X
  obtain ⟨hx, hb, hml, hown, hts, hK, hA, hlk, hRm⟩ := C
  obtain ⟨-, hA2, hX, hbl, -⟩ := hR
  intro he H locs ls h1 h2 h3 h4
  exact va_slen hx hb hX hbl (by rw [hA2]; exact Nat.not_le.mpr hbl) h3 hd (k he H locs ls h1 h2 h3 h4)
/-- the law's return: only 1 may be answered -/
theorem z_lawret {v : Int32} (C : zC X own code nL rf rl) (hR : zLw X b L xs) (hd : decode code pc = .ok (.ireturn, 1)) : zJ X nL (1 : Int32) (zbk v (some v)) pc lv [.int v] cs := by
  obtain ⟨p, l, ee, R, s, m, args, below, meth, c, D, kA, A, Q, nc, ns⟩ := X
  obtain ⟨hx, hb, hml, hown, hts, hK, hA, hlk, hRm⟩ := C
  obtain ⟨⟨rfl, rfl, rfl⟩, hA2, hX, hbl, hr, hnc, hns⟩ := hR
  intro he H locs ls h1 h2 h3 h4
  have hv : v = 1 := by
    unfold zbk at he
    split at he
    · exact Option.some.inj he
    · cases he
  subst hv
  refine va_forget (fun q hq => ?_) (W.widen (k := 600000) (n := 7302250) hnc hns ?_)
  · have := h3.2.2 q hq
    rw [hA2] at this
    exact this
  · exact lw_ret hx hb hr hlk hd
end ZW
