/-! contracts, answers, calls -/
def zQ (D : va_G) (kA : Nat → ClassId) (r : Option Value) (cs1 : List zCm) (A : Nat → Prop) : Array Value → State → Outcome → State → Prop := fun _ st oc t =>
  (oc = .returned r ∧ va_P D zcl (zgw kA cs1) t.heap ∧ va_K D zcl (zty kA) t ∧ va_D A (zgw kA cs1)) ∧ va_F A st t
def zB (D : va_G) (kA : Nat → ClassId) (sz : Nat) (cs : List zCm) (U : State) : Prop := U.heap.size = sz ∧ va_P D zcl (zgw kA cs) U.heap ∧ va_K D zcl (zty kA) U ∧ va_D (fun _ => True) (zgw kA cs) ∧ zNw U
/-- a method's contract: from the components cs it answers r and leaves cs1 -/
def zM (y : MethodName) (cc : ByteArray) (nL : Nat) (ret : Option FieldType) (rf rl : Nat) (As : List Value) (cs : List zCm) (r : Option Value) (cs1 : List zCm) : Prop :=
  ∀ (l : Launch) (D : va_G) (kA : Nat → ClassId) (sz : Nat), Met l y (.code y cc nL ret :: zTb) { frames := rf, cells := 0, slots := 0, locals := rl } (va_Pc As (zB D kA sz cs)) (zQ D kA r cs1 (va_A (zgw kA cs) sz)) 0 0 (va_A (zgw kA cs) sz)
def zR (X : zCx) (ret : Option FieldType) (r : Option Value) (cs1 : List zCm) : Prop := match X with
  | (p, l, e, R, s, m, args, below, meth, c, D, kA, A, Q, nc, ns) => meth.sig.returnType = ret ∧ Q = MQ below (zQ D kA r cs1 A) args s nc ns A
theorem zM_of {y : MethodName} {cc : ByteArray} {nL : Nat} {ret : Option FieldType} {rf rl : Nat} {As : List Value} {cs : List zCm} {r : Option Value} {cs1 : List zCm} (hy : plainName y.cls = true) (hl : (lg_sl As).length ≤ nL)
    (body : ∀ X : zCx, zC X y.cls cc nL rf rl → zR X ret r cs1 → zN X nL 0 (lv_args 0 As) [] cs) : zM y cc nL ret rf rl As cs r cs1 := by
  intro l D kA sz
  refine Met.ofW (cc := cc) (maxL := nL) (ret := ret) hy rfl ?_
  intro p e s m args below meth c s₁ B hml hv
  obtain ⟨rfl, hsz, hP, hK, hD0, hN⟩ := hv
  have hx := B.exec
  have hb := B.bytes
  have hr := B.returns
  have hts := atoms_spec (ws := .code y cc nL ret :: zTb) B.pre
  have hown : s.vm.findClass y.cls = some m.cls := findClass_of_methodNamed B.named
  have hlocks := B.notSynchronized
  subst hsz
  have hD := hD0.self (sz := s.heap.size)
  generalize hAe : va_A (zgw kA cs) s.heap.size = A at hD ⊢
  have hA : ∀ q : Nat, s.heap.size ≤ q → A q := fun q h => by rw [← hAe]; exact Or.inr h
  have hl := lv_entry As (n := nL) hl
  rw [lg_entry_eq]
  exact body (p, l, e, _, s, m, As.toArray, below, meth, c, D, kA, A, _, 0, 0) ⟨hx, hb, hml, hown, fun w hw => hts w (List.mem_cons_of_mem _ hw), hK, hA, hlocks, ⟨Nat.le_refl _, Nat.le_refl _, Nat.zero_le _, Nat.zero_le _⟩, hN⟩ ⟨hr, rfl⟩ s.heap [] _ hP hD va_S.rf hl
section ZA
variable {β : Type} {X : zCx} {own : String} {cc : ByteArray} {nL rf rl : Nat} {res b : β} {pc : Nat} {lv : List (Nat × Value)} {cs cs1 : List zCm} {r : Option Value}
theorem z_ireturn {v : Int32} (C : zC X own cc nL rf rl) (hR : zR X (some .int) r cs1) (hd : decode cc pc = .ok (.ireturn, 1)) (hv : b = res → r = some (.int v) ∧ cs1 = cs) : zJ X nL res (some b) pc lv [.int v] cs := by
  obtain ⟨p, l, ee, R, s, m, args, below, meth, c, D, kA, A, Q, nc, ns⟩ := X
  obtain ⟨hx, hb, hml, hown, hts, hK, hA, hlk, -⟩ := C
  obtain ⟨hr, hQ⟩ := hR
  intro he H locs ls h1 h2 h3 h4
  obtain ⟨rfl, rfl⟩ := hv (Option.some.inj he)
  subst hQ
  exact W.iret hx hb hr (fun t ht hW => ⟨⟨rfl, by rw [ht]; exact h1, va_K.moved hW.alike hK, h2⟩, h3.F ht⟩) h3.2.2 hd
theorem z_lreturn {v : Int64} (C : zC X own cc nL rf rl) (hR : zR X (some .long) r cs1) (hd : decode cc pc = .ok (.lreturn, 1)) (hv : b = res → r = some (.long v) ∧ cs1 = cs) : zJ X nL res (some b) pc lv [.long v] cs := by
  obtain ⟨p, l, ee, R, s, m, args, below, meth, c, D, kA, A, Q, nc, ns⟩ := X
  obtain ⟨hx, hb, hml, hown, hts, hK, hA, hlk, -⟩ := C
  obtain ⟨hr, hQ⟩ := hR
  intro he H locs ls h1 h2 h3 h4
  obtain ⟨rfl, rfl⟩ := hv (Option.some.inj he)
  subst hQ
  exact W.lret hx hb hr (fun t ht hW => ⟨⟨rfl, by rw [ht]; exact h1, va_K.moved hW.alike hK, h2⟩, h3.F ht⟩) h3.2.2 hd
theorem z_return (C : zC X own cc nL rf rl) (hR : zR X none r cs1) (hd : decode cc pc = .ok (.return_, 1)) (hv : b = res → r = none ∧ cs1 = cs) : zJ X nL res (some b) pc lv [] cs := by
  obtain ⟨p, l, ee, R, s, m, args, below, meth, c, D, kA, A, Q, nc, ns⟩ := X
  obtain ⟨hx, hb, hml, hown, hts, hK, hA, hlk, -⟩ := C
  obtain ⟨hr, hQ⟩ := hR
  intro he H locs ls h1 h2 h3 h4
  obtain ⟨rfl, rfl⟩ := hv (Option.some.inj he)
  subst hQ
  exact W.vret hx hb hr (fun t ht hW => ⟨⟨rfl, by rw [ht]; exact h1, va_K.moved hW.alike hK, h2⟩, h3.F ht⟩) h3.2.2 hd
theorem z_areturn {a : Nat} {ty : FieldType} (C : zC X own cc nL rf rl) (hR : zR X (some ty) r cs1) (hd : decode cc pc = .ok (.areturn, 1)) (hv : b = res → r = some (.ref a) ∧ cs1 = cs) (hty : ∃ c, ty = .object c) : zJ X nL res (some b) pc lv [.ref a] cs := by
  obtain ⟨p, l, ee, R, s, m, args, below, meth, c, D, kA, A, Q, nc, ns⟩ := X
  obtain ⟨hx, hb, hml, hown, hts, hK, hA, hlk, -⟩ := C
  obtain ⟨hr, hQ⟩ := hR
  obtain ⟨co, rfl⟩ := hty
  intro he H locs ls h1 h2 h3 h4
  obtain ⟨rfl, rfl⟩ := hv (Option.some.inj he)
  subst hQ
  exact W.aret hx hb hr (Or.inl ⟨co, rfl⟩) (Or.inr ⟨a, rfl⟩) (fun t ht hW => ⟨⟨rfl, by rw [ht]; exact h1, va_K.moved hW.alike hK, h2⟩, h3.F ht⟩) h3.2.2 hd
/-- an answer that is a boolean -/
def zbk {β : Type} (v : Int32) (e : Option β) : Option β := if v = 0 ∨ v = 1 then e else none
theorem z_zreturn {v : Int32} (C : zC X own cc nL rf rl) (hR : zR X (some .boolean) r cs1) (hd : decode cc pc = .ok (.ireturn, 1)) (hv : b = res → r = some (.int v) ∧ cs1 = cs) : zJ X nL res (zbk v (some b)) pc lv [.int v] cs := by
  obtain ⟨p, l, ee, R, s, m, args, below, meth, c, D, kA, A, Q, nc, ns⟩ := X
  obtain ⟨hx, hb, hml, hown, hts, hK, hA, hlk, -⟩ := C
  obtain ⟨hr, hQ⟩ := hR
  intro he H locs ls h1 h2 h3 h4
  unfold zbk at he
  by_cases hb01 : v = 0 ∨ v = 1
  · rw [if_pos hb01] at he
    obtain ⟨rfl, rfl⟩ := hv (Option.some.inj he)
    subst hQ
    exact W.zret hx hb hr (by rcases hb01 with rfl | rfl <;> decide) (fun t ht hW => ⟨⟨rfl, by rw [ht]; exact h1, va_K.moved hW.alike hK, h2⟩, h3.F ht⟩) h3.2.2 hd
  · rw [if_neg hb01] at he; cases he
end ZA
/-! worlds in another order -/
theorem zP_perm {D : va_G} {cl : List vw_C} {w1 w2 : va_W} {H : Heap} (hp : w1.Perm w2) (h : va_P D cl w1 H) : va_P D cl w2 H := fun k q hk => by
  obtain ⟨j, hj⟩ := List.getElem?_of_mem (hp.symm.mem_iff.mp (List.mem_of_getElem? hk))
  exact h j q hj
theorem zD_iff {A : Nat → Prop} {ws : va_W} : va_D A ws ↔ (ws.map Prod.fst).Nodup ∧ ∀ x ∈ ws, A x.1 := by
  constructor
  · intro h
    refine ⟨?_, fun x hx => ?_⟩
    · rw [List.Nodup, List.pairwise_iff_getElem]
      intro i j hi hj hij he
      rw [List.length_map] at hi hj
      have := h.1 i j ws[i] ws[j] (List.getElem?_eq_getElem hi) (List.getElem?_eq_getElem hj) (by simpa using he)
      omega
    · obtain ⟨k, hk⟩ := List.getElem?_of_mem hx
      exact h.2 k x hk
  · intro h
    refine ⟨fun i j p q hi hj hpq => ?_, fun k q hk => h.2 q (List.mem_of_getElem? hk)⟩
    have hn := h.1
    rw [List.Nodup, List.pairwise_iff_getElem] at hn
    obtain ⟨hi1, hi2⟩ := List.getElem?_eq_some_iff.mp hi
    obtain ⟨hj1, hj2⟩ := List.getElem?_eq_some_iff.mp hj
    have hi3 : i < (ws.map Prod.fst).length := by rw [List.length_map]; exact hi1
    have hj3 : j < (ws.map Prod.fst).length := by rw [List.length_map]; exact hj1
    rcases Nat.lt_trichotomy i j with hl | hl | hl
    · exact absurd (show (ws.map Prod.fst)[i] = (ws.map Prod.fst)[j] by rw [List.getElem_map, List.getElem_map, hi2, hj2, hpq]) (hn i j hi3 hj3 hl)
    · exact hl
    · exact absurd (show (ws.map Prod.fst)[j] = (ws.map Prod.fst)[i] by rw [List.getElem_map, List.getElem_map, hi2, hj2, hpq]) (hn j i hj3 hi3 hl)
theorem zD_perm {A : Nat → Prop} {w1 w2 : va_W} (hp : w1.Perm w2) (h : va_D A w1) : va_D A w2 := by
  rw [zD_iff] at h ⊢
  exact ⟨(hp.map Prod.fst).nodup h.1, fun x hx => h.2 x (hp.symm.mem_iff.mp hx)⟩
theorem zgw_perm {kA : Nat → ClassId} {c1 c2 : List zCm} (hp : c1.Perm c2) : (zgw kA c1).Perm (zgw kA c2) := hp.flatMap_right _
theorem zgw_app {kA : Nat → ClassId} {c1 c2 : List zCm} : zgw kA (c1 ++ c2) = zgw kA c1 ++ zgw kA c2 := by simp [zgw]
theorem zpl_l {α : Type} (a b : List α) : (List.range a.length).map (fun i => (a ++ b)[i]?) = a.map some := by
  apply List.ext_getElem?
  intro i
  by_cases h : i < a.length
  · simp [h, List.getElem?_append_left h]
  · rw [List.getElem?_eq_none (by simp; omega), List.getElem?_eq_none (by simp; omega)]
theorem zpl_r {α : Type} (a b : List α) : ((List.range b.length).map (fun i => a.length + i)).map (fun i => (a ++ b)[i]?) = b.map some := by
  apply List.ext_getElem?
  intro i
  by_cases h : i < b.length
  · simp [h]
  · rw [List.getElem?_eq_none (by simp; omega), List.getElem?_eq_none (by simp; omega)]
theorem znd_of {l : List Nat} (h : l.Nodup) : va_nd l = true := by
  induction l with
  | nil => rfl
  | cons a l ih =>
    rw [List.nodup_cons] at h
    simp [va_nd, h.1, ih h.2]
/-- behind a call: the callee's cells are new, the others as they were -/
theorem zjoin {A0 : Nat → Prop} {D : va_G} {cl : List vw_C} {wc wr w1 : va_W} {H H1 : Heap} (hP : va_P D cl (wc ++ wr) H) (hD : va_D A0 (wc ++ wr)) (hk : ∀ q : Nat, q < H.size → ¬ va_A wc H.size q → H1[q]? = H[q]?) (hF : ∀ q, va_A wc H.size q → A0 q) (hP1 : va_P D cl w1 H1) (hD1 : va_D (va_A wc H.size) w1) : va_P D cl (w1 ++ wr) H1 ∧ va_D A0 (w1 ++ wr) := by
  have h := va_join (wr := wr) (w1 := w1) hP hD (List.range wc.length) ((List.range wr.length).map (fun i => wc.length + i)) (zpl_l wc wr) (zpl_r wc wr) (znd_of (by
    rw [List.Nodup, List.pairwise_map]
    exact List.Pairwise.imp (fun h1 h2 => h1 (by omega)) List.nodup_range)) (by
      intro i hi hc
      simp at hi hc
      omega) hk hF hP1 hD1
  exact ⟨zP_perm List.perm_append_comm h.1, zD_perm List.perm_append_comm h.2⟩
theorem zfree {A0 : Nat → Prop} {wc wr : va_W} {H0 H : Heap} {locs : List Loc} (hD : va_D A0 (wc ++ wr)) (hS : va_S A0 H0 H locs) (hA : ∀ q, H0.size ≤ q → A0 q) : ∀ q, va_A wc H.size q → A0 q := va_free hD hS hA (List.range wc.length) (zpl_l wc wr)
theorem zrun {p : Program} {l : Launch} {e : Env} {R : Room} {s : State} {m : MethodId} {args : Array Value} {below : List Frame} {meth : Method} {c : Code} {H : Heap} {locs : List Loc} {nc ns : Nat} {Q : State → Prop} {pc : Nat} {ls : Array Slot} {st st0 : List Value} {a : Array Value} {A : Nat → Prop} {D : va_G} {kA : Nat → ClassId} {r : Option Value} {cc0 cc1 cr cs' : List zCm}
    (hr : va_Run p l e R s m args below meth c H locs nc ns 0 0 (F0 m pc ls st0) st (zQ D kA r cc1 (va_A (zgw kA cc0) H.size) a) (va_A (zgw kA cc0) H.size)) (h1 : va_P D zcl (zgw kA (cc0 ++ cr)) H) (h2 : va_D A (zgw kA (cc0 ++ cr))) (h3 : va_S A s.heap H locs) (hA : ∀ q, s.heap.size ≤ q → A q) (hp2 : (cc1 ++ cr).Perm cs')
    (kk : ∀ (H1 : Heap) (locs1 : List Loc), va_P D zcl (zgw kA cs') H1 → va_D A (zgw kA cs') → va_S A s.heap H1 locs1 → W p l e R s m args below meth c H1 locs1 nc ns Q (F0 m (pc + 3) ls (r.toList ++ st))) : W p l e R s m args below meth c H locs nc ns Q (F0 m pc ls st0) := by
  rw [zgw_app] at h1 h2
  have hF := zfree h2 h3 hA
  intro T hT Xs
  obtain ⟨v, st₀, t, T', L, h0, X', hL, e1, e2, ⟨⟨hv, qP, qK, qD⟩, hz, hk⟩, stp⟩ := hr T hT Xs
  cases hv
  rw [h0] at hz hk
  rw [← e1] at qP hz
  have hk' : ∀ q : Nat, q < H.size → ¬ va_A (zgw kA cc0) H.size q → T'.heap[q]? = H[q]? := fun q g1 g2 => by rw [e1]; exact hk q g1 g2
  obtain ⟨j1, j2⟩ := zjoin h1 h2 hk' hF qP qD
  rw [← zgw_app] at j1 j2
  obtain ⟨t2, a1, b1⟩ := kk T'.heap (locs ++ L) (zP_perm (zgw_perm hp2) j1) (zD_perm (zgw_perm hp2) j2) ⟨Nat.le_trans h3.1 hz, fun q g1 g2 => by
      rw [hk' q (Nat.lt_of_lt_of_le g1 h3.1) (fun z => g2 (hF q z))]; exact h3.2.1 q g1 g2, fun q hq => by
      rcases List.mem_append.mp hq with h | h
      · exact h3.2.2 q h
      · exact hF _ (hL q h)⟩ T' rfl X'
  exact ⟨t2, stp t2 a1, b1⟩
def zYV (y : MethodName) (cc : ByteArray) (nL : Nat) (ret : Option FieldType) (n : Nat) : Prop := Cond.code y cc nL ret ∈ zTb ∧ Cond.initialized y.cls ∈ zTb ∧ (y.cls ≠ "java/lang/invoke/MethodHandle" ∧ y.cls ≠ "java/lang/invoke/VarHandle" ∧ (parseMethodDescriptor y.desc).map (fun d => d.parameters.length) = some n) ∧ Cond.instanceMethod y ∈ zTb ∧ Cond.selects y.cls y y ∈ zTb
def zYS (y : MethodName) (cc : ByteArray) (nL : Nat) (ret : Option FieldType) (n : Nat) : Prop := Cond.code y cc nL ret ∈ zTb ∧ Cond.initialized y.cls ∈ zTb ∧ (y.cls ≠ "java/lang/invoke/MethodHandle" ∧ y.cls ≠ "java/lang/invoke/VarHandle" ∧ (parseMethodDescriptor y.desc).map (fun d => d.parameters.length) = some n) ∧ Cond.static y ∈ zTb
theorem zB_blind {D : va_G} {kA : Nat → ClassId} {sz : Nat} {cs : List zCm} {As : List Value} : FrameBlind (va_Pc As (zB D kA sz cs)) := fun a U g mk q => by
  obtain ⟨q0, q1, qP, qK, qD, qN⟩ := q
  exact ⟨q0, q1, qP, va_K.moved (u := U) (U := U.calling g mk a) (Vm.Alike.refl U.vm) qK, qD, qN.same rfl⟩
section ZC
variable {α β : Type} {X : zCx} {own : String} {cc cc' : ByteArray} {nL nL' rf rl rf' rl' n ix : Nat} {res : β} {kf : α → Option β} {pc : Nat} {lv : List (Nat × Value)} {stk : List Value} {cs : List zCm} {y : MethodName} {ret : Option FieldType} {c' : Nat} {q' : Nat → Nat} {σ' : zOS} {host : String}
/-- a call of an instance's method that answers something -/
theorem z_callV (ga : Option α) (As st : List Value) (cc0 : List zCm) (rv : α → Option Value) (cc1 : α → List zCm) (cr : List zCm) (cs' : α → List zCm) (C : zC X own cc nL rf rl) (hd : decode cc pc = .ok (.invokevirtual ix, 3)) (hY : zYV y cc' nL' ret n) (hl : Cond.methodLink own ix y ∈ zTb)
    (hM : ∀ a, ga = some a → zM y cc' nL' ret rf' rl' (.ref (q' 0) :: As) cc0 (rv a) (cc1 a)) (hrm : rf' + 1 ≤ rf ∧ 8 + (nL' + 11) + rl' ≤ rl) (hn : As.length = n) (hr0 : cc0[0]? = some (c', q', σ')) (h6 : c' < 6) (hcl : zRn c' = y.cls) (hst : (st.map fun v => v.category).sum ≤ 8) (hp1 : cs.Perm (cc0 ++ cr)) (hp2 : ∀ a, (cc1 a ++ cr).Perm (cs' a)) (hsk : stk = As.reverse ++ .ref (q' 0) :: st)
    (k : ∀ a, ga = some a → zJ X nL res (kf a) (pc + 3) lv ((rv a).toList ++ st) (cs' a)) : zJ X nL res (ga.bind kf) pc lv stk cs := by
  obtain ⟨p, l, ee, R, s, m, args, below, meth, cd, D, kA, A, Q, nc, ns⟩ := X
  obtain ⟨hx, hb, hml, hown, hts, hK, hA, hlk, hR, hNw⟩ := C
  intro he H locs ls h1 h2 h3 h4
  cases hg : ga with
  | none => rw [hg] at he; cases he
  | some a =>
    rw [hg] at he
    subst hsk
    have g1 := zP_perm (zgw_perm (kA := kA) hp1) h1
    have g2 := zD_perm (zgw_perm (kA := kA) hp1) h2
    have g1c : va_P D zcl (zgw kA cc0) H := fun k q hk => g1 k q (by rw [zgw_app, List.getElem?_append_left (List.getElem?_eq_some_iff.mp hk).1]; exact hk)
    have g2c : va_D (fun _ => True) (zgw kA cc0) := by
      rw [zgw_app, zD_iff] at g2
      rw [zD_iff]
      refine ⟨?_, fun _ _ => trivial⟩
      rw [List.map_append, List.nodup_append] at g2
      exact g2.1.1
    obtain ⟨pos, hp, -⟩ := zgw_at (kA := kA) hr0 (k := 0) (Nat.zero_le _)
    rw [zce_0] at hp
    obtain ⟨w1, w2, w3, w4, w5⟩ := hY
    have hRf : rf' + 1 ≤ R.frames ∧ 8 + (nL' + 11) + rl' ≤ R.locals := ⟨Nat.le_trans hrm.1 hR.1, Nat.le_trans hrm.2 hR.2.1⟩
    refine zrun (cr := cr) (va_runV (As := As) (rest := st) (C := y.cls) (b := q' 0) (n := n) ⟨hx, hb, hml, hown, hts⟩ (hM a hg l D kA H.size) ⟨callB_of n hts (zk_gi w1) rfl rfl rfl (hts _ w2) (hts _ hl) w3 hRf, hts _ w4, hts _ w5⟩ ⟨zB_blind, ?_, fun U hU hW => ⟨rfl, by rw [hU], by rw [hU]; exact g1c, va_K.moved hW.alike hK, g2c, hNw.warm hW⟩⟩ rfl hn h4.1 rfl (lv_room hst) hd ⟨hR.2.2.1, hR.2.2.2⟩) g1 g2 h3 hA (hp2 a) (fun H1 locs1 k1 k2 k3 => k a hg he H1 locs1 ls k1 k2 k3 h4)
    obtain ⟨cell, r1, r2, r3⟩ := va_recv hK g1c (zcl_at h6) hp
    exact ⟨cell, r1, r2, by rw [← hcl]; exact r3⟩
theorem z_callS (ga : Option α) (As st : List Value) (cc0 : List zCm) (rv : α → Option Value) (cc1 : α → List zCm) (cr : List zCm) (cs' : α → List zCm) (C : zC X own cc nL rf rl) (hd : decode cc pc = .ok (.invokestatic ix, 3)) (hY : zYS y cc' nL' ret n) (hl : Cond.methodLink own ix y ∈ zTb)
    (hM : ∀ a, ga = some a → zM y cc' nL' ret rf' rl' As cc0 (rv a) (cc1 a)) (hrm : rf' + 1 ≤ rf ∧ 8 + (nL' + 11) + rl' ≤ rl) (hn : As.length = n) (hst : (st.map fun v => v.category).sum ≤ 8) (hp1 : cs.Perm (cc0 ++ cr)) (hp2 : ∀ a, (cc1 a ++ cr).Perm (cs' a)) (hsk : stk = As.reverse ++ st)
    (k : ∀ a, ga = some a → zJ X nL res (kf a) (pc + 3) lv ((rv a).toList ++ st) (cs' a)) : zJ X nL res (ga.bind kf) pc lv stk cs := by
  obtain ⟨p, l, ee, R, s, m, args, below, meth, cd, D, kA, A, Q, nc, ns⟩ := X
  obtain ⟨hx, hb, hml, hown, hts, hK, hA, hlk, hR, hNw⟩ := C
  intro he H locs ls h1 h2 h3 h4
  cases hg : ga with
  | none => rw [hg] at he; cases he
  | some a =>
    rw [hg] at he
    subst hsk
    have g1 := zP_perm (zgw_perm (kA := kA) hp1) h1
    have g2 := zD_perm (zgw_perm (kA := kA) hp1) h2
    have g1c : va_P D zcl (zgw kA cc0) H := fun k q hk => g1 k q (by rw [zgw_app, List.getElem?_append_left (List.getElem?_eq_some_iff.mp hk).1]; exact hk)
    have g2c : va_D (fun _ => True) (zgw kA cc0) := by
      rw [zgw_app, zD_iff] at g2
      rw [zD_iff]
      refine ⟨?_, fun _ _ => trivial⟩
      rw [List.map_append, List.nodup_append] at g2
      exact g2.1.1
    obtain ⟨w1, w2, w3, w4⟩ := hY
    have hRf : rf' + 1 ≤ R.frames ∧ 8 + (nL' + 11) + rl' ≤ R.locals := ⟨Nat.le_trans hrm.1 hR.1, Nat.le_trans hrm.2 hR.2.1⟩
    exact zrun (cr := cr) (va_runS (As := As) (rest := st) (n := n) ⟨hx, hb, hml, hown, hts⟩ (hM a hg l D kA H.size) ⟨callB_of n hts (zk_gi w1) rfl rfl rfl (hts _ w2) (hts _ hl) w3 hRf, hts _ w4⟩ ⟨zB_blind, fun U hU hW => ⟨rfl, by rw [hU], by rw [hU]; exact g1c, va_K.moved hW.alike hK, g2c, hNw.warm hW⟩⟩ rfl hn h4.1 rfl (lv_room hst) hd ⟨hR.2.2.1, hR.2.2.2⟩) g1 g2 h3 hA (hp2 a) (fun H1 locs1 k1 k2 k3 => k a hg he H1 locs1 ls k1 k2 k3 h4)
/-- a call of a private static method of the nest's host, that touches no component -/
theorem z_callN (ga : Option α) (As st : List Value) (rv : α → Option Value) (C : zC X own cc nL rf rl) (hd : decode cc pc = .ok (.invokestatic ix, 3)) (hY : zYS y cc' nL' ret n) (hl : ∀ U, zNw U → va_Nw (.methodLinkNest own ix y host) U)
    (hM : ∀ a, ga = some a → zM y cc' nL' ret rf' rl' As [] (rv a) []) (hrm : rf' + 1 ≤ rf ∧ 8 + (nL' + 11) + rl' ≤ rl) (hn : As.length = n) (hst : (st.map fun v => v.category).sum ≤ 8) (hsk : stk = As.reverse ++ st)
    (k : ∀ a, ga = some a → zJ X nL res (kf a) (pc + 3) lv ((rv a).toList ++ st) cs) : zJ X nL res (ga.bind kf) pc lv stk cs := by
  obtain ⟨p, l, ee, R, s, m, args, below, meth, cd, D, kA, A, Q, nc, ns⟩ := X
  obtain ⟨hx, hb, hml, hown, hts, hK, hA, hlk, hR, hNw⟩ := C
  intro he H locs ls h1 h2 h3 h4
  cases hg : ga with
  | none => rw [hg] at he; cases he
  | some a =>
    rw [hg] at he
    subst hsk
    obtain ⟨w1, w2, w3, w4⟩ := hY
    have hRf : rf' + 1 ≤ R.frames ∧ 8 + (nL' + 11) + rl' ≤ R.locals := ⟨Nat.le_trans hrm.1 hR.1, Nat.le_trans hrm.2 hR.2.1⟩
    exact zrun (cc0 := []) (cc1 := []) (cr := cs) (va_runSN (As := As) (rest := st) (n := n) ⟨hx, hb, hml, hown, hts⟩ (hM a hg l D kA H.size) ⟨va_cnB n hts (zk_gi w1) rfl rfl rfl (hl s hNw) (hts _ w2) w3 hRf, hts _ w4, trivial⟩ ⟨zB_blind, fun U hU hW => ⟨rfl, by rw [hU], fun k q hk => by simp [zgw] at hk, va_K.moved hW.alike hK, by rw [zD_iff]; simp [zgw], hNw.warm hW⟩⟩ rfl hn h4.1 rfl (lv_room hst) hd ⟨hR.2.2.1, hR.2.2.2⟩) h1 h2 h3 hA (List.Perm.refl _) (fun H1 locs1 k1 k2 k3 => k a hg he H1 locs1 ls k1 k2 k3 h4)
theorem z_copyi (i0 i1 : Nat) {a0 a1 n0 n1 c0 c1 : Nat} {q0 q1 : Nat → Nat} {σ0 σ1 : zOS} {sp dp n : Int32} {st : List Value} {e : Option β} (C : zC X own cc nL rf rl) (hd : decode cc pc = .ok (.invokestatic ix, 3)) (hw : Cond.methodLink own ix arraycopyName ∈ zTb) (hnat : Cond.native arraycopyName ∈ zTb) (hstat : Cond.static arraycopyName ∈ zTb) (hini : Cond.initialized "java/lang/System" ∈ zTb)
    (hc0 : cs[i0]? = some (c0, q0, σ0)) (hc1 : cs[i1]? = some (c1, q1, σ1)) (ha0 : zAr c0 a0 0 n0) (ha1 : zAr c1 a1 0 n1) (h1 : ¬ sp < 0) (h2 : ¬ dp < 0) (h3 : ¬ n < 0) (h4 : sp.toNatClampNeg + n.toNatClampNeg ≤ n0) (h5 : dp.toNatClampNeg + n.toNatClampNeg ≤ n1) (hrf : 1 ≤ rf) (hrl : (st.map fun v => v.category).sum + 18 ≤ rl)
    (cs' : List zCm) (hcs : cs.set i1 (c1, q1, zsI σ1 a1 (va_cpy (zI σ0 a0) (zI σ1 a1) sp.toNatClampNeg dp.toNatClampNeg n.toNatClampNeg)) = cs') (k : zJ X nL res e (pc + 3) lv st cs') : zJ X nL res e pc lv (.int n :: .int dp :: .ref (q1 a1) :: .int sp :: .ref (q0 a0) :: st) cs := by
  obtain ⟨p, l, ee, R, s, m, args, below, meth, cd, D, kA, A, Q, nc, ns⟩ := X
  obtain ⟨hx, hb, hml, hown, hts, hK, hA, hlk, hR, hNw⟩ := C
  intro he H locs ls g1 g2 g3 g4
  obtain ⟨p0, hp0, -⟩ := zgw_at (kA := kA) hc0 (k := a0) ha0.1.2
  obtain ⟨p1, hp1, hset⟩ := zgw_at (kA := kA) hc1 (k := a1) ha1.1.2
  have h9 := hset q1 (zsI σ1 a1 (va_cpy (zI σ0 a0) (zI σ1 a1) sp.toNatClampNeg dp.toNatClampNeg n.toNatClampNeg)) (fun _ _ => rfl) (fun j _ hj => zce_sI hj)
  rw [zce_i ha0] at hp0
  rw [zce_i ha1] at hp1 h9
  rw [zI_e, hcs] at h9
  refine va_copyi (ty := .int) hx hb (by rw [hml, g4.1]) hown (hts _ hw) (hts _ hnat) (hts _ hstat) (hts _ hini) hK g1 g2 g3 p0 p1 0 0 hp0 hp1 rfl rfl rfl h1 h2 h3 h4 h5 (fun _ _ => rfl) (Nat.le_trans hrf hR.1) (Nat.le_trans hrl hR.2.1) hd (fun H1 locs1 k1 k2 k3 => ?_)
  rw [h9] at k1 k2
  exact k he H1 locs1 ls k1 k2 k3 g4
theorem z_copyl (i0 i1 : Nat) {a0 a1 n0 n1 c0 c1 : Nat} {q0 q1 : Nat → Nat} {σ0 σ1 : zOS} {sp dp n : Int32} {st : List Value} {e : Option β} (C : zC X own cc nL rf rl) (hd : decode cc pc = .ok (.invokestatic ix, 3)) (hw : Cond.methodLink own ix arraycopyName ∈ zTb) (hnat : Cond.native arraycopyName ∈ zTb) (hstat : Cond.static arraycopyName ∈ zTb) (hini : Cond.initialized "java/lang/System" ∈ zTb)
    (hc0 : cs[i0]? = some (c0, q0, σ0)) (hc1 : cs[i1]? = some (c1, q1, σ1)) (ha0 : zAr c0 a0 1 n0) (ha1 : zAr c1 a1 1 n1) (h1 : ¬ sp < 0) (h2 : ¬ dp < 0) (h3 : ¬ n < 0) (h4 : sp.toNatClampNeg + n.toNatClampNeg ≤ n0) (h5 : dp.toNatClampNeg + n.toNatClampNeg ≤ n1) (hrf : 1 ≤ rf) (hrl : (st.map fun v => v.category).sum + 18 ≤ rl)
    (cs' : List zCm) (hcs : cs.set i1 (c1, q1, zsL σ1 a1 (va_cpy (zL σ0 a0) (zL σ1 a1) sp.toNatClampNeg dp.toNatClampNeg n.toNatClampNeg)) = cs') (k : zJ X nL res e (pc + 3) lv st cs') : zJ X nL res e pc lv (.int n :: .int dp :: .ref (q1 a1) :: .int sp :: .ref (q0 a0) :: st) cs := by
  obtain ⟨p, l, ee, R, s, m, args, below, meth, cd, D, kA, A, Q, nc, ns⟩ := X
  obtain ⟨hx, hb, hml, hown, hts, hK, hA, hlk, hR, hNw⟩ := C
  intro he H locs ls g1 g2 g3 g4
  obtain ⟨p0, hp0, -⟩ := zgw_at (kA := kA) hc0 (k := a0) ha0.1.2
  obtain ⟨p1, hp1, hset⟩ := zgw_at (kA := kA) hc1 (k := a1) ha1.1.2
  have h9 := hset q1 (zsL σ1 a1 (va_cpy (zL σ0 a0) (zL σ1 a1) sp.toNatClampNeg dp.toNatClampNeg n.toNatClampNeg)) (fun _ _ => rfl) (fun j _ hj => zce_sL hj)
  rw [zce_l ha0] at hp0
  rw [zce_l ha1] at hp1 h9
  rw [zL_e, hcs] at h9
  refine va_copyl (ty := .long) hx hb (by rw [hml, g4.1]) hown (hts _ hw) (hts _ hnat) (hts _ hstat) (hts _ hini) hK g1 g2 g3 p0 p1 1 1 hp0 hp1 rfl rfl rfl h1 h2 h3 h4 h5 (fun _ _ => rfl) (Nat.le_trans hrf hR.1) (Nat.le_trans hrl hR.2.1) hd (fun H1 locs1 k1 k2 k3 => ?_)
  rw [h9] at k1 k2
  exact k he H1 locs1 ls k1 k2 k3 g4
end ZC
