/-! making: arrays of arrays -/
def va_AOA (t : FieldType) (U : State) : Prop := (Cond.arrayOver (.array t)).before #[] U = true
theorem va_AOA.use {t : FieldType} {A : Array Value} {U : State} (h : va_AOA t U) : (Cond.arrayOver (.array t)).before A U = true := h
theorem zAA_spec {t : FieldType} {U : State} (h : va_AOA t U) : ∃ comp c k, U.vm.findClass (FieldType.array t).toString = some comp ∧ (U.vm.classes.findIdx? fun (x : Class) => match x.kind with | .array component _ => component == comp | _ => false) = some c ∧ U.vm.classes[c]? = some k ∧ k.kind = .array comp (.array t) ∧ U.vm.findClass ("[" ++ (FieldType.array t).toString) = some c := by
  unfold va_AOA Cond.before at h
  simp only [Cond.holds, Cond.value, beq_iff_eq] at h
  cases hc : U.vm.findClass (FieldType.array t).toString with
  | none => simp [hc] at h
  | some comp =>
    simp only [hc, Option.bind_some, Option.bind_eq_some_iff, Option.map_eq_some_iff] at h
    obtain ⟨c, hi, k, hk, hb⟩ := h
    obtain ⟨hlt, hp, -⟩ := Array.findIdx?_eq_some_iff_getElem.mp hi
    have hkk : U.vm.classes[c] = k := (Array.getElem?_eq_some_iff.mp hk).2
    rw [hkk] at hp
    cases hkind : k.kind with
    | array component ty =>
      rw [hkind] at hb hp
      simp at hb hp
      exact ⟨comp, c, k, rfl, hi, hk, by rw [hkind, hp, hb.1], hb.2⟩
    | _ => rw [hkind] at hb; simp at hb
theorem va_AOA.moved {t : FieldType} {u U : State} (hvm : u.vm.Alike U.vm) (h : va_AOA t u) : va_AOA t U := by
  obtain ⟨comp, c, k, h1, h2, h3, h4, h5⟩ := zAA_spec h
  obtain ⟨k', hk', he⟩ := hvm.2.2 _ _ h3
  have hi : (U.vm.classes.findIdx? fun (x : Class) => match x.kind with | .array component _ => component == comp | _ => false) = some c := by
    have eb : U.vm.bare = u.vm.bare := by first | exact hvm.bare_eq | exact hvm.bare_eq.symm
    have e1 := va_idx_bare U.vm comp
    have e2 := va_idx_bare u.vm comp
    rw [eb] at e1
    exact e1.symm.trans (e2.trans h2)
  have hkind : k'.kind = .array comp (.array t) := by rw [he]; exact h4
  have f1 : U.vm.findClass (FieldType.array t).toString = some comp := by rw [hvm.findClass]; exact h1
  have f2 : U.vm.findClass ("[" ++ (FieldType.array t).toString) = some c := by rw [hvm.findClass]; exact h5
  unfold va_AOA Cond.before Cond.holds
  simp only [Cond.value]
  rw [f1, Option.bind_some]
  refine (congrArg (fun o : Option Nat => (o.bind (fun c => (U.vm.classes[c]?).map fun (k : Class) => match k.kind with | .array _ ty => decide (ty = FieldType.array t) && decide (U.vm.findClass ("[" ++ (FieldType.array t).toString) = some c) | _ => false) == some true)) hi).trans ?_
  simp [hk', hkind, f2]
/-! ===== BEGIN new T[n][m]: the outer array a place, the inner ones among the pooled ===== -/
/-- f, but v at every address of l -/
def vr_up {α : Type} (f : Nat → α) (l : List Nat) (v : α) : Nat → α := fun a => if a ∈ l then v else f a
theorem vr_up_in {α : Type} {f : Nat → α} {l : List Nat} {v : α} {a : Nat} (h : a ∈ l) : vr_up f l v a = v := if_pos h
theorem vr_up_ne {α : Type} {f : Nat → α} {l : List Nat} {v : α} {a : Nat} (h : a ∉ l) : vr_up f l v a = f a := if_neg h
theorem vr_rows {L l : List Nat} {f : Nat → va_E} {e : va_E} (h : ∀ a, a ∈ l → a ∉ L) : va_pl L f ++ l.map (fun a => (a, e)) = va_pl (L ++ l) (vr_up f l e) := by
  unfold va_pl
  rw [List.map_append]
  congr 1
  · apply List.map_congr_left
    intro a ha
    rw [vr_up_ne (fun q => h a q ha)]
  · apply List.map_congr_left
    intro a ha
    rw [vr_up_in ha]
theorem vr_lay {X rows : va_W} {x : Nat × va_E} {pl : va_W} {D : va_G} {cl : List vw_C} {H : Heap} (hP : va_P D cl (((X ++ pl) ++ [x]) ++ rows) H) : va_P D cl ((X ++ [x]) ++ (pl ++ rows)) H := by
  rw [List.append_assoc (X ++ pl)] at hP
  have h := va_P.swap hP
  rw [← List.append_assoc X] at h
  have h2 := va_P.swap h
  rw [List.append_assoc (X ++ [x])] at h2
  exact h2
theorem vr_layD {X rows : va_W} {x : Nat × va_E} {pl : va_W} {A : Nat → Prop} (hD : va_D A (((X ++ pl) ++ [x]) ++ rows)) : va_D A ((X ++ [x]) ++ (pl ++ rows)) := by
  rw [List.append_assoc (X ++ pl)] at hD
  have h := va_D.swap hD
  rw [← List.append_assoc X] at h
  have h2 := va_D.swap h
  rw [List.append_assoc (X ++ [x])] at h2
  exact h2
theorem vr_outer (c : ClassId) (N h0 : Nat) : ∀ i : Nat, Jvm.Free.Multi.outerC c N h0 i = arrV c N (fun j => va_rf (if j < i then some (h0 + 1 + j) else none))
  | 0 => by
    show ({ cls := c, slots := Array.replicate N .null, vm := .none } : Cell) = _
    rw [arrV_new]
    refine congrArg (arrV c N) (funext fun j => ?_)
    simp [va_rf]
  | i + 1 => by
    show (Jvm.Free.Multi.outerC c N h0 i).setSlot i (.ref (h0 + 1 + i)) = _
    rw [vr_outer c N h0 i, arrV_store]
    refine congrArg (arrV c N) (funext fun j => ?_)
    by_cases e : j = i
    · subst e
      simp [updV, va_rf]
    · by_cases h : j < i
      · simp [updV, e, h, Nat.lt_succ_of_lt h]
      · simp [updV, e, h, show ¬ j < i + 1 by omega]
section VGM
variable {p : Program} {l : Launch} {e : Env} {R : Room} {s : State} {m : MethodId} {args : Array Value} {below : List Frame} {meth : Method} {c : Code} {H : Heap} {locs : List Loc} {cells slots : Nat} {Q : State → Prop}
variable {cc : ByteArray} {pc : Nat} {ls : Array Slot} {rest : List Value} {D : va_G} {cl : List vw_C} {A : Nat → Prop} {a : Nat} {tys : List (ClassId × FieldType)} {ws : va_W} {H0 : Heap}
theorem va_mna {X : va_W} {L : List Nat} {f : Nat → va_E} {cc : ByteArray} (hexec : p.tables.exec = Jvm.exec) (hb : c.code = cc) {own : String} {index : Nat} {ty : FieldType} {cy : ClassId} (hown : s.vm.findClass own = some m.cls) (hclink : (Cond.classLink own index ("[" ++ (FieldType.array ty).toString)).before args s = true) (hover : va_AOA ty s) (harr : (Cond.arrayClass ty).before args s = true) (hcy : s.vm.findClass (FieldType.array ty).toString = some cy)
    (hK : va_K D cl tys s) (hP : va_P D cl (X ++ va_pl L f) H) (hD : va_D A (X ++ va_pl L f)) (hS : va_S A H0 H locs) (hA : ∀ q, H0.size ≤ q → A q) {n k : Int32} {N' K' : Nat} {z : vp_A} (hn : ¬ n < 0) (hk : ¬ k < 0) (hN : n.toNatClampNeg = N') (hM : k.toNatClampNeg = K')
    (hb1 : N' * 4 ≤ 536870912) (hb2 : K' * componentBytes ty ≤ 536870912) (hb3 : K' ≤ 536870912) (hdf : fits ty (defaultValue ty) = true) (hdd : (defaultValue ty).isDefault = true) (hcells : cells + (1 + N') ≤ R.cells) (hslots : slots + (N' + N' * K') ≤ R.slots) (hz : ∀ c : ClassId, Jvm.Free.Multi.innerC c K' (defaultValue ty) = vp_cell c z) (hdg : decode cc pc = .ok (.multianewarray index 2, 4))
    (kk : ∀ (q : Nat) (r : Nat → Nat) (cA : ClassId) (H1 : Heap), (∀ i j : Nat, i < N' → j < N' → r i = r j → i = j) → (∀ i : Nat, i < N' → r i ∉ L) → va_K D cl (tys ++ [(cA, .array ty)]) s →
      va_P D cl ((X ++ [(q, .inl (cA, N', .inr (.inr (.inr (.inr (fun i => if i < N' then some (r i) else none))))))]) ++ va_pl (L ++ (List.range N').map r) (vr_up f ((List.range N').map r) (.inl (cy, z)))) H1 → va_D A ((X ++ [(q, .inl (cA, N', .inr (.inr (.inr (.inr (fun i => if i < N' then some (r i) else none))))))]) ++ va_pl (L ++ (List.range N').map r) (vr_up f ((List.range N').map r) (.inl (cy, z)))) → va_S A H0 H1 locs →
      W p l e R s m args below meth c H1 locs (cells + 1 + N') (slots + N' + N' * K') Q (F0 m (pc + 4) ls (.ref q :: rest))) : W p l e R s m args below meth c H locs cells slots Q (F0 m pc ls (.int k :: .int n :: rest)) := by
  subst hN
  subst hM
  intro T hT Xs
  obtain ⟨vm₁, cA, comp, -, fA, fC, hO, -, X', step⟩ := Xs.multianewarray2F hexec hown hclink (va_AOA.use hover) harr (g := F0 m pc ls (.int k :: .int n :: rest)) rfl (by rw [hb]; exact hdg) rfl hn hk hb1 hb2 hb3 hdf hdd hcells hslots
  have ec : some cy = some comp := hcy.symm.trans fC
  cases ec
  generalize hF : Jvm.Free.Multi.fill (T.setVm vm₁) cA cy n.toNatClampNeg k.toNatClampNeg (defaultValue ty) n.toNatClampNeg = F at X' step
  have hTh : (T.setVm vm₁).heap = H := hT
  obtain ⟨f1, f2, -, -⟩ := Jvm.Free.Multi.fill_facts (T.setVm vm₁) cA cy n.toNatClampNeg k.toNatClampNeg (defaultValue ty) n.toNatClampNeg
  rw [hF, hTh] at f1 f2
  have hold : ∀ x : Nat, x < H.size → F.heap[x]? = H[x]? := fun x hx => by
    have := Jvm.Free.Multi.fill_old (T.setVm vm₁) cA cy n.toNatClampNeg k.toNatClampNeg (defaultValue ty) (a := x) (by rw [hTh]; exact hx) n.toNatClampNeg
    rw [hF, hTh] at this
    exact this
  have hrow : ∀ j : Nat, j < n.toNatClampNeg → F.heap[H.size + 1 + j]? = some (vp_cell cy z) := fun j hj => by
    have := Jvm.Free.Multi.fill_inner (T.setVm vm₁) cA cy n.toNatClampNeg k.toNatClampNeg (defaultValue ty) n.toNatClampNeg j hj
    rw [hF, hTh, hz] at this
    exact this
  have hout : Jvm.Free.Multi.outerC cA n.toNatClampNeg H.size n.toNatClampNeg = vp_cell cA (n.toNatClampNeg, .inr (.inr (.inr (.inr (fun i => if i < n.toNatClampNeg then some (H.size + 1 + i) else none))))) := by
    rw [vp_cell_q]
    exact vr_outer cA n.toNatClampNeg H.size n.toNatClampNeg
  rw [hout] at f2
  have hlt : ∀ a, a ∈ L → a < H.size := fun a ha => by
    obtain ⟨k9, hk9⟩ := va_pl_get (X := X) (f := f) ha
    exact (hP k9 _ hk9).lt
  have hnl : ∀ i : Nat, i < n.toNatClampNeg → H.size + 1 + i ∉ L := fun i _ h => by
    have := hlt _ h
    omega
  have hnm : ∀ a, a ∈ (List.range n.toNatClampNeg).map (fun i => H.size + 1 + i) → a ∉ L := fun a ha h => by
    obtain ⟨i, -, rfl⟩ := List.mem_map.mp ha
    have := hlt _ h
    omega
  have hP0 : va_P D cl (X ++ va_pl L f) F.heap := hP.kept (fun k9 x hx => hold x.1 ((hP k9 x hx).lt))
  have hP1 : va_P D cl ((X ++ va_pl L f) ++ [(H.size, .inl (cA, n.toNatClampNeg, .inr (.inr (.inr (.inr (fun i => if i < n.toNatClampNeg then some (H.size + 1 + i) else none))))))]) F.heap := hP0.app (fun k9 x hx => by
    have h0 : k9 < 1 := (List.getElem?_eq_some_iff.mp hx).1
    rw [show k9 = 0 by omega] at hx
    cases hx
    exact f2)
  have hP2 : va_P D cl (((X ++ va_pl L f) ++ [(H.size, .inl (cA, n.toNatClampNeg, .inr (.inr (.inr (.inr (fun i => if i < n.toNatClampNeg then some (H.size + 1 + i) else none))))))]) ++ ((List.range n.toNatClampNeg).map (fun i => H.size + 1 + i)).map (fun a => (a, .inl (cy, z)))) F.heap := hP1.app (fun k9 x hx => by
    obtain ⟨a, ha, rfl⟩ := List.mem_map.mp (List.mem_of_getElem? hx)
    obtain ⟨i, hi, rfl⟩ := List.mem_map.mp ha
    exact hrow i (List.mem_range.mp hi))
  have hD2 : va_D A (((X ++ va_pl L f) ++ [(H.size, .inl (cA, n.toNatClampNeg, .inr (.inr (.inr (.inr (fun i => if i < n.toNatClampNeg then some (H.size + 1 + i) else none))))))]) ++ ((List.range n.toNatClampNeg).map (fun i => H.size + 1 + i)).map (fun a => (a, .inl (cy, z)))) := by
    have hD1 := hD.push (e := .inl (cA, n.toNatClampNeg, .inr (.inr (.inr (.inr (fun i => if i < n.toNatClampNeg then some (H.size + 1 + i) else none)))))) hP rfl (hA _ hS.1)
    generalize hW1 : (X ++ va_pl L f) ++ [(H.size, .inl (cA, n.toNatClampNeg, .inr (.inr (.inr (.inr (fun i => if i < n.toNatClampNeg then some (H.size + 1 + i) else none))))))] = W1 at hD1 hP1 ⊢
    have hle : ∀ (k9 : Nat) (x : Nat × va_E), W1[k9]? = some x → x.1 ≤ H.size := fun k9 x hx => by
      rw [← hW1] at hx
      by_cases hl : k9 < (X ++ va_pl L f).length
      · rw [List.getElem?_append_left hl] at hx
        exact Nat.le_of_lt ((hP k9 x hx).lt)
      · rw [List.getElem?_append_right (by omega)] at hx
        have h0 : k9 - (X ++ va_pl L f).length < 1 := (List.getElem?_eq_some_iff.mp hx).1
        rw [show k9 - (X ++ va_pl L f).length = 0 by omega] at hx
        cases hx
        exact Nat.le_refl _
    have hr : ∀ (k9 : Nat) (x : Nat × va_E), (((List.range n.toNatClampNeg).map (fun i => H.size + 1 + i)).map (fun a => ((a, .inl (cy, z)) : Nat × va_E)))[k9]? = some x → x.1 = H.size + 1 + k9 := fun k9 x hx => by
      rw [List.getElem?_map, List.getElem?_map] at hx
      by_cases h9 : k9 < n.toNatClampNeg
      · rw [List.getElem?_range h9] at hx
        cases hx
        rfl
      · have hn0 : (List.range n.toNatClampNeg)[k9]? = none := List.getElem?_eq_none (by rw [List.length_range]; omega)
        rw [hn0] at hx
        cases hx
    refine ⟨fun i j x y hi hj hxy => ?_, fun k9 x hx => ?_⟩
    · by_cases h1 : i < W1.length <;> by_cases h2 : j < W1.length
      · rw [List.getElem?_append_left h1] at hi
        rw [List.getElem?_append_left h2] at hj
        exact hD1.1 i j x y hi hj hxy
      · rw [List.getElem?_append_left h1] at hi
        rw [List.getElem?_append_right (by omega)] at hj
        have := hle _ _ hi
        have := hr _ _ hj
        omega
      · rw [List.getElem?_append_right (by omega)] at hi
        rw [List.getElem?_append_left h2] at hj
        have := hle _ _ hj
        have := hr _ _ hi
        omega
      · rw [List.getElem?_append_right (by omega)] at hi hj
        have := hr _ _ hi
        have := hr _ _ hj
        omega
    · by_cases h1 : k9 < W1.length
      · rw [List.getElem?_append_left h1] at hx
        exact hD1.2 k9 x hx
      · rw [List.getElem?_append_right (by omega)] at hx
        have := hr _ _ hx
        exact hA _ (by have := hS.1; omega)
  have hAr : ArrOfT s cA (.array ty) := fun N9 z9 => by
    obtain ⟨-, k9, hk9, cm9, hkk9⟩ := (hO 0 0 0).1
    exact ⟨(fun q hq => by cases hq), k9, hk9, cm9, hkk9⟩
  have hK2 : va_K D cl (tys ++ [(cA, .array ty)]) s := ⟨hK.1, fun k9 x hx => by
    by_cases hl : k9 < tys.length
    · rw [List.getElem?_append_left hl] at hx
      exact hK.2 k9 x hx
    · rw [List.getElem?_append_right (by omega)] at hx
      have h0 : k9 - tys.length < 1 := (List.getElem?_eq_some_iff.mp hx).1
      rw [show k9 - tys.length = 0 by omega] at hx
      cases hx
      exact ⟨hAr, fA⟩⟩
  obtain ⟨t, a1, b1⟩ := kk H.size (fun i => H.size + 1 + i) cA F.heap (fun i j _ _ h => by have h9 : H.size + 1 + i = H.size + 1 + j := h; omega) hnl hK2 (by rw [← vr_rows hnm]; exact vr_lay hP2) (by rw [← vr_rows hnm]; exact vr_layD hD2) ⟨by rw [f1]; have := hS.1; omega, fun x h1 h2 => (hold x (Nat.lt_of_lt_of_le h1 hS.1)).trans (hS.2.1 x h1 h2), hS.2.2⟩ F rfl X'
  refine ⟨t, step t ?_, b1⟩
  have e : T.heap.size = H.size := by rw [hT]
  rw [e]
  exact a1
end VGM

/-! worlds of raw cells and components -/
def zkA (X : zCx) : Nat → ClassId := match X with | (p, l, e, R, s, m, args, below, meth, c, D, kA, A, Q, nc, ns) => kA
def zV (X : zCx) (nL pc : Nat) (lv : List (Nat × Value)) (st : List Value) (wo : va_W) (cs : List zCm) (xc xs : Nat) : Prop := match X with
  | (p, l, e, R, s, m, args, below, meth, c, D, kA, A, Q, nc, ns) => ∀ (H : Heap) (locs : List Loc) (ls : Array Slot), va_P D zcl (wo ++ zgw kA cs) H → va_D A (wo ++ zgw kA cs) → va_S A s.heap H locs → lv_has ls nL lv → W p l e R s m args below meth c H locs xc xs Q (F0 m pc ls st)
/-- the links to the nest's private constructors; the array classes of references -/
def zNi (U : State) : Prop := va_Nw (.methodLinkNest RX4 11 yX1_init RX4) U ∧ va_Nw (.methodLinkNest RX4 30 yX2_init RX4) U ∧ va_Nw (.methodLinkNest RX4 40 yX3_init RX4) U ∧ va_Nw (.methodLinkNest RX1 11 yX2_init RX4) U ∧ va_Nw (.methodLinkNest RX1 20 yX0_init RX4) U ∧ va_AO RX2 U ∧ va_AOA .long U ∧ va_AOA .int U
theorem zNi.warm {s U : State} (hW : s.WarmedH U.vm) (h : zNi s) : zNi U := ⟨va_Nw.warmM hW h.1, va_Nw.warmM hW h.2.1, va_Nw.warmM hW h.2.2.1, va_Nw.warmM hW h.2.2.2.1, va_Nw.warmM hW h.2.2.2.2.1, va_AO.moved hW.alike h.2.2.2.2.2.1, va_AOA.moved hW.alike h.2.2.2.2.2.2.1, va_AOA.moved hW.alike h.2.2.2.2.2.2.2⟩
theorem zNi.same {s U : State} (hv : s.vm = U.vm) (h : zNi s) : zNi U := ⟨va_Nw.same rfl hv h.1, va_Nw.same rfl hv h.2.1, va_Nw.same rfl hv h.2.2.1, va_Nw.same rfl hv h.2.2.2.1, va_Nw.same rfl hv h.2.2.2.2.1, va_AO.moved (by rw [hv]; exact Vm.Alike.refl _) h.2.2.2.2.2.1, va_AOA.moved (by rw [hv]; exact Vm.Alike.refl _) h.2.2.2.2.2.2.1, va_AOA.moved (by rw [hv]; exact Vm.Alike.refl _) h.2.2.2.2.2.2.2⟩
def zCV (X : zCx) (own : String) (cc : ByteArray) (nL : Nat) (rm : Room) : Prop := match X with
  | (p, l, e, R, s, m, args, below, meth, c, D, kA, A, Q, nc, ns) => p.tables.exec = Jvm.exec ∧ c.code = cc ∧ c.maxLocals = nL ∧ s.vm.findClass own = some m.cls ∧ (∀ w ∈ zTb, w.before args s = true) ∧ va_K D zcl (zty kA) s ∧ (∀ q, s.heap.size ≤ q → A q) ∧ meth.locks = false ∧ R = rm ∧ zNw s ∧ zNi s
def zIn (X : zCx) : Prop := match X with | (p, l, e, R, s, m, args, below, meth, c, D, kA, A, Q, nc, ns) => meth.name = "<init>"
def zZ : zOS := (fun _ _ => 0, fun _ _ => 0, fun _ => 0, 0)
def zQI (D : va_G) (kA : Nat → ClassId) (Pq : List zCm → Prop) (A : Nat → Prop) : Array Value → State → Outcome → State → Prop := fun _ st oc t =>
  (oc = .returned none ∧ ∃ cs1, Pq cs1 ∧ va_P D zcl (zgw kA cs1) t.heap ∧ va_K D zcl (zty kA) t ∧ va_D A (zgw kA cs1)) ∧ va_F A st t
def zBI (D : va_G) (kA : Nat → ClassId) (sz : Nat) (wo : va_W) (U : State) : Prop := U.heap.size = sz ∧ va_P D zcl wo U.heap ∧ va_K D zcl (zty kA) U ∧ va_D (fun _ => True) wo ∧ zNw U ∧ zNi U
/-- a constructor's contract: from the blank object at h0 it comes to components with Pq -/
def zMI (y : MethodName) (cc : ByteArray) (nL : Nat) (rm : Room) (c : Nat) (fs : List Value) (ar : List Value) (Pq : Nat → List zCm → Prop) : Prop :=
  ∀ (l : Launch) (D : va_G) (kA : Nat → ClassId) (sz h0 : Nat), Met l y (.code y cc nL none :: zTb) rm (va_Pc (.ref h0 :: ar) (zBI D kA sz [(h0, .inr (c, fs))])) (zQI D kA (Pq h0) (va_A [(h0, .inr (c, fs))] sz)) rm.cells rm.slots (va_A [(h0, .inr (c, fs))] sz)
theorem zBI_blind {D : va_G} {kA : Nat → ClassId} {sz : Nat} {wo : va_W} {As : List Value} : FrameBlind (va_Pc As (zBI D kA sz wo)) := fun a U g mk q => by
  obtain ⟨q0, q1, qP, qK, qD, qN, qI⟩ := q
  exact ⟨q0, q1, qP, va_K.moved (u := U) (U := U.calling g mk a) (Vm.Alike.refl U.vm) qK, qD, qN.same rfl, qI.same rfl⟩
def zRI (X : zCx) (rm : Room) (Pq : List zCm → Prop) : Prop := match X with
  | (p, l, e, R, s, m, args, below, meth, c, D, kA, A, Q, nc, ns) => meth.sig.returnType = none ∧ Q = MQ below (zQI D kA Pq A) args s rm.cells rm.slots A
theorem zMI_of {y : MethodName} {cc : ByteArray} {nL : Nat} {rm : Room} {c : Nat} {fs ar : List Value} {Pq : Nat → List zCm → Prop} (hy : plainName y.cls = true) (hyn : y.name = "<init>") (hl : (lg_sl ar).length + 1 ≤ nL)
    (body : ∀ (X : zCx) (h0 : Nat), zCV X y.cls cc nL rm → zIn X → zRI X rm (Pq h0) → zV X nL 0 (lv_args 0 (.ref h0 :: ar)) [] [(h0, .inr (c, fs))] [] 0 0) : zMI y cc nL rm c fs ar Pq := by
  intro l D kA sz h0
  refine Met.ofW (cc := cc) (maxL := nL) (ret := none) hy rfl ?_
  intro p e s m args below meth cd s₁ B hml hv
  obtain ⟨rfl, hsz, hP, hK, hD0, hN, hI⟩ := hv
  have hx := B.exec
  have hb := B.bytes
  have hr := B.returns
  have hts := atoms_spec (ws := .code y cc nL none :: zTb) B.pre
  have hown : s.vm.findClass y.cls = some m.cls := findClass_of_methodNamed B.named
  have hlocks := B.notSynchronized
  have hin : meth.name = "<init>" := ((name_of_methodNamed B.named B.method).1).trans hyn
  subst hsz
  have hD := hD0.self (sz := s.heap.size)
  generalize hAe : va_A [(h0, .inr (c, fs))] s.heap.size = A at hD ⊢
  have hA : ∀ q : Nat, s.heap.size ≤ q → A q := fun q h => by rw [← hAe]; exact Or.inr h
  have hl := lv_entry (.ref h0 :: ar) (n := nL) (by show ([Slot.val (.ref h0)] ++ lg_sl ar).length ≤ nL; rw [List.length_append]; show 1 + _ ≤ _; omega)
  rw [lg_entry_eq]
  exact body (p, l, e, rm, s, m, (.ref h0 :: ar).toArray, below, meth, cd, D, kA, A, _, 0, 0) h0 ⟨hx, hb, hml, hown, fun w hw => hts w (List.mem_cons_of_mem _ hw), hK, hA, hlocks, rfl, hN, hI⟩ hin ⟨hr, rfl⟩ s.heap [] _ hP hD va_S.rf hl
section ZV
variable {X : zCx} {own : String} {cc : ByteArray} {nL : Nat} {rm : Room} {pc : Nat} {lv : List (Nat × Value)} {st : List Value} {wo : va_W} {cs : List zCm} {xc xs : Nat}
theorem v_iconst {n : Int} (v : Int32) (hv : Int32.ofInt n = v) (C : zCV X own cc nL rm) (hd : decode cc pc = .ok (.iconst n, 1)) (k : zV X nL (pc + 1) lv (.int v :: st) wo cs xc xs) : zV X nL pc lv st wo cs xc xs := by
  obtain ⟨p, l, ee, R, s, m, args, below, meth, cd, D, kA, A, Q, nc, ns⟩ := X
  obtain ⟨hx, hb, hml, hown, hts, hK, hA, hlk, hR, hNw, hNi⟩ := C
  intro H locs ls h1 h2 h3 h4
  exact lv_iconst hx hb hd hv (k H locs ls h1 h2 h3 h4)
theorem v_bipush {n : Int} (v : Int32) (hv : (Int8.ofInt n).toInt32 = v) (C : zCV X own cc nL rm) (hd : decode cc pc = .ok (.bipush n, 2)) (k : zV X nL (pc + 2) lv (.int v :: st) wo cs xc xs) : zV X nL pc lv st wo cs xc xs := by
  obtain ⟨p, l, ee, R, s, m, args, below, meth, cd, D, kA, A, Q, nc, ns⟩ := X
  obtain ⟨hx, hb, hml, hown, hts, hK, hA, hlk, hR, hNw, hNi⟩ := C
  intro H locs ls h1 h2 h3 h4
  exact lv_bipush hx hb hd hv (k H locs ls h1 h2 h3 h4)
theorem v_sipush {n : Int} (v : Int32) (hv : (Int16.ofInt n).toInt32 = v) (C : zCV X own cc nL rm) (hd : decode cc pc = .ok (.sipush n, 3)) (k : zV X nL (pc + 3) lv (.int v :: st) wo cs xc xs) : zV X nL pc lv st wo cs xc xs := by
  obtain ⟨p, l, ee, R, s, m, args, below, meth, cd, D, kA, A, Q, nc, ns⟩ := X
  obtain ⟨hx, hb, hml, hown, hts, hK, hA, hlk, hR, hNw, hNi⟩ := C
  intro H locs ls h1 h2 h3 h4
  exact lv_sipush hx hb hd hv (k H locs ls h1 h2 h3 h4)
theorem v_aload_n {kf : Fin 4} {i x : Nat} (j : Nat) (hl : lv[j]? = some (i, .ref x)) (hi : (kf : Nat) = i) (C : zCV X own cc nL rm) (hd : decode cc pc = .ok (.aload_n kf, 1)) (k : zV X nL (pc + 1) lv (.ref x :: st) wo cs xc xs) : zV X nL pc lv st wo cs xc xs := by
  obtain ⟨p, l, ee, R, s, m, args, below, meth, cd, D, kA, A, Q, nc, ns⟩ := X
  obtain ⟨hx, hb, hml, hown, hts, hK, hA, hlk, hR, hNw, hNi⟩ := C
  intro H locs ls h1 h2 h3 h4
  exact lv_aload_n hx hb hd hi (lv_at h4 j hl) (k H locs ls h1 h2 h3 h4)
theorem v_iload_n {kf : Fin 4} {i : Nat} {x : Int32} (j : Nat) (hl : lv[j]? = some (i, .int x)) (hi : (kf : Nat) = i) (C : zCV X own cc nL rm) (hd : decode cc pc = .ok (.iload_n kf, 1)) (k : zV X nL (pc + 1) lv (.int x :: st) wo cs xc xs) : zV X nL pc lv st wo cs xc xs := by
  obtain ⟨p, l, ee, R, s, m, args, below, meth, cd, D, kA, A, Q, nc, ns⟩ := X
  obtain ⟨hx, hb, hml, hown, hts, hK, hA, hlk, hR, hNw, hNi⟩ := C
  intro H locs ls h1 h2 h3 h4
  exact lv_iload_n hx hb hd hi (lv_at h4 j hl) (k H locs ls h1 h2 h3 h4)
theorem v_dup {v : Value} (hv : v.category = 1) (C : zCV X own cc nL rm) (hd : decode cc pc = .ok (.dup, 1)) (k : zV X nL (pc + 1) lv (v :: v :: st) wo cs xc xs) : zV X nL pc lv (v :: st) wo cs xc xs := by
  obtain ⟨p, l, ee, R, s, m, args, below, meth, cd, D, kA, A, Q, nc, ns⟩ := X
  obtain ⟨hx, hb, hml, hown, hts, hK, hA, hlk, hR, hNw, hNi⟩ := C
  intro H locs ls h1 h2 h3 h4
  exact lv_dup hx hb hd hv (k H locs ls h1 h2 h3 h4)
theorem v_istore_n {kf : Fin 4} {i : Nat} {x : Int32} (lv' : List (Nat × Value)) (ks : List Nat) (hn : i < nL) (hl : lv_pick ((i, Value.int x) :: lv.filter (fun q => !(q.1 == i) && !(q.1 + 1 == i && q.2.category == 2))) ks = lv') (hi : (kf : Nat) = i) (C : zCV X own cc nL rm) (hd : decode cc pc = .ok (.istore_n kf, 1)) (k : zV X nL (pc + 1) lv' st wo cs xc xs) : zV X nL pc lv (.int x :: st) wo cs xc xs := by
  obtain ⟨p, l, ee, R, s, m, args, below, meth, cd, D, kA, A, Q, nc, ns⟩ := X
  obtain ⟨hx, hb, hml, hown, hts, hK, hA, hlk, hR, hNw, hNi⟩ := C
  intro H locs ls h1 h2 h3 h4
  exact lv_istore_n hx hb hd hi h4 hn rfl (fun ls' h5 => k H locs ls' h1 h2 h3 (lv_sub h5 ks hl))
theorem v_astore_n {kf : Fin 4} {i : Nat} {x : Nat} (lv' : List (Nat × Value)) (ks : List Nat) (hn : i < nL) (hl : lv_pick ((i, Value.ref x) :: lv.filter (fun q => !(q.1 == i) && !(q.1 + 1 == i && q.2.category == 2))) ks = lv') (hi : (kf : Nat) = i) (C : zCV X own cc nL rm) (hd : decode cc pc = .ok (.astore_n kf, 1)) (k : zV X nL (pc + 1) lv' st wo cs xc xs) : zV X nL pc lv (.ref x :: st) wo cs xc xs := by
  obtain ⟨p, l, ee, R, s, m, args, below, meth, cd, D, kA, A, Q, nc, ns⟩ := X
  obtain ⟨hx, hb, hml, hown, hts, hK, hA, hlk, hR, hNw, hNi⟩ := C
  intro H locs ls h1 h2 h3 h4
  exact lv_astore_n hx hb hd hi h4 hn rfl (fun ls' h5 => k H locs ls' h1 h2 h3 (lv_sub h5 ks hl))
theorem v_iinc {i : Nat} {n : Int} {x : Int32} (v : Int32) (j : Nat) (hj : lv[j]? = some (i, .int x)) (hv : x + Int32.ofInt n = v) (lv' : List (Nat × Value)) (ks : List Nat) (hn : i < nL) (hl : lv_pick ((i, Value.int v) :: lv.filter (fun q => !(q.1 == i) && !(q.1 + 1 == i && q.2.category == 2))) ks = lv') (C : zCV X own cc nL rm) (hd : decode cc pc = .ok (.iinc i n, 3)) (k : zV X nL (pc + 3) lv' st wo cs xc xs) : zV X nL pc lv st wo cs xc xs := by
  obtain ⟨p, l, ee, R, s, m, args, below, meth, cd, D, kA, A, Q, nc, ns⟩ := X
  obtain ⟨hx, hb, hml, hown, hts, hK, hA, hlk, hR, hNw, hNi⟩ := C
  intro H locs ls h1 h2 h3 h4
  exact lv_iinc hx hb hd h4 hj hv hn rfl (fun ls' h5 => k H locs ls' h1 h2 h3 (lv_sub h5 ks hl))
theorem v_goto {off : Int} (tgt : Nat) (C : zCV X own cc nL rm) (hd : decode cc pc = .ok (.goto off, 3)) (ht : (pc : Int) + off = (tgt : Int)) (k : zV X nL tgt lv st wo cs xc xs) : zV X nL pc lv st wo cs xc xs := by
  obtain ⟨p, l, ee, R, s, m, args, below, meth, cd, D, kA, A, Q, nc, ns⟩ := X
  obtain ⟨hx, hb, hml, hown, hts, hK, hA, hlk, hR, hNw, hNi⟩ := C
  intro H locs ls h1 h2 h3 h4
  exact lv_goto hx hb hd ht (k H locs ls h1 h2 h3 h4)
theorem v_ge_t {x y : Int32} {off : Int} (tgt : Nat) (hc : y ≤ x) (C : zCV X own cc nL rm) (hd : decode cc pc = .ok (.if_icmp .ge off, 3)) (ht : (pc : Int) + off = (tgt : Int)) (k : zV X nL tgt lv st wo cs xc xs) : zV X nL pc lv (.int y :: .int x :: st) wo cs xc xs := by
  obtain ⟨p, l, ee, R, s, m, args, below, meth, cd, D, kA, A, Q, nc, ns⟩ := X
  obtain ⟨hx, hb, hml, hown, hts, hK, hA, hlk, hR, hNw, hNi⟩ := C
  intro H locs ls h1 h2 h3 h4
  exact lv_icmp_ge hx hb hd ht (fun _ => (k H locs ls h1 h2 h3 h4)) (fun h => absurd hc h)
theorem v_ge_f {x y : Int32} {off : Int} (tgt : Nat) (hc : ¬ y ≤ x) (C : zCV X own cc nL rm) (hd : decode cc pc = .ok (.if_icmp .ge off, 3)) (ht : (pc : Int) + off = (tgt : Int)) (k : zV X nL (pc + 3) lv st wo cs xc xs) : zV X nL pc lv (.int y :: .int x :: st) wo cs xc xs := by
  obtain ⟨p, l, ee, R, s, m, args, below, meth, cd, D, kA, A, Q, nc, ns⟩ := X
  obtain ⟨hx, hb, hml, hown, hts, hK, hA, hlk, hR, hNw, hNi⟩ := C
  intro H locs ls h1 h2 h3 h4
  exact lv_icmp_ge hx hb hd ht (fun h => absurd h hc) (fun _ => (k H locs ls h1 h2 h3 h4))
theorem v_obj {a ix : Nat} (C : zCV X own cc nL rm) (hd : decode cc pc = .ok (.invokespecial ix, 3)) (hw : Cond.methodLink own ix Lib.objectInit ∈ zTb) (hi : Cond.instanceMethod Lib.objectInit ∈ zTb) (hc : Cond.code Lib.objectInit ⟨#[0xb1]⟩ 1 none ∈ zTb) (hf : 1 ≤ rm.frames) (hl : (st.map fun v => v.category).sum + 12 ≤ rm.locals) (k : zV X nL (pc + 3) lv st wo cs xc xs) : zV X nL pc lv (.ref a :: st) wo cs xc xs := by
  obtain ⟨p, l, ee, R, s, m, args, below, meth, cd, D, kA, A, Q, nc, ns⟩ := X
  obtain ⟨hx, hb, hml, hown, hts, hK, hA, hlk, hR, hNw, hNi⟩ := C
  intro H locs ls h1 h2 h3 h4
  refine W.objInit hx hb hown (hts _ hw) (hts _ hi) (hts _ hc) rfl (by rw [hml]; exact h4.1) rfl hd (by rw [hR]; exact hf) (by rw [hR]; show 2 * 0 + _ + 12 ≤ _; omega) ?_
  exact k H locs ls h1 h2 h3 h4
theorem zpush {wo : va_W} {z : va_W} {x : Nat × va_E} : List.Perm ((wo ++ z) ++ [x]) ((wo ++ [x]) ++ z) := by
  rw [List.append_assoc, List.append_assoc]
  exact List.Perm.append_left _ List.perm_append_comm
theorem v_new {ix : Nat} (ci N : Nat) (fs : List Value) (C : zCV X own cc nL rm) (hd : decode cc pc = .ok (.new ix, 3)) (h6 : ci < 6) (hN : znF ci = N) (hcl : Cond.classLink own ix (zRn ci) ∈ zTb) (hin : Cond.instantiable (zRn ci) N ∈ zTb) (hini : Cond.initialized (zRn ci) ∈ zTb) (hfs : ∀ j, j < N → defaultValue (zTy ci j) = vp_V fs j) (hc : xc + 1 ≤ rm.cells) (hs : xs + N ≤ rm.slots)
    (wo' : Nat → va_W) (hwo : ∀ q, wo ++ [(q, .inr (ci, fs))] = wo' q) (k : ∀ q, zV X nL (pc + 3) lv (.ref q :: st) (wo' q) cs (xc + 1) (xs + N)) : zV X nL pc lv st wo cs xc xs := by
  obtain ⟨p, l, ee, R, s, m, args, below, meth, cd, D, kA, A, Q, nc, ns⟩ := X
  obtain ⟨hx, hb, hml, hown, hts, hK, hA, hlk, hR, hNw, hNi⟩ := C
  intro H locs ls h1 h2 h3 h4
  subst hN
  refine va_new (ci := ci) (fs := fs) (C := zRn ci) (T := zTn ci) (N := znF ci) hx hb hts (zk_w h6) (zTy ci) (zk_ty h6) hown (hts _ hcl) (hts _ hin) (hts _ hini) hK h1 h2 h3 hA (zcl_at h6) hfs (by rw [hR]; exact hc) (by rw [hR]; exact hs) hd (fun q H1 g1 g2 g3 => ?_)
  have g1 := zP_perm zpush g1
  have g2 := zD_perm zpush g2
  rw [hwo] at g1 g2
  exact k q H1 locs ls g1 g2 g3 h4
theorem zcA {s : State} {tys : List (ClassId × FieldType)} {D : va_G} {kA : Nat → ClassId} {cA : ClassId} {ty : FieldType} (kd : Nat) (h : va_K D zcl (zty kA ++ [(cA, ty)]) s) (hK : va_K D zcl (zty kA) s) (hkd : (zty kA)[kd]? = some (kA kd, ty)) (hp : ty = .int ∨ ty = .long ∨ ty = .byte) : cA = kA kd := by
  have h1 := (h.2 6 (cA, ty) rfl).2
  have h2 := (hK.2 kd _ hkd).2
  rcases hp with rfl | rfl | rfl <;> exact Option.some.inj (Eq.trans (Eq.symm h1) h2)
theorem v_newa {n : Int32} (atype : ArrayType) (ty : FieldType) (kd N : Nat) (a0 : (Nat → Int32) ⊕ (Nat → Int64) ⊕ (Nat → UInt32) ⊕ (Nat → UInt64) ⊕ (Nat → Option Nat)) (C : zCV X own cc nL rm) (hd : decode cc pc = .ok (.newarray atype, 2)) (hw : Cond.arrayClass (newarray.typeOf atype) ∈ zTb) (hty : newarray.typeOf atype = ty) (hkd : ∀ kA : Nat → ClassId, (zty kA)[kd]? = some (kA kd, ty)) (hp : ty = .int ∨ ty = .long ∨ ty = .byte) (ha : ∀ cA : ClassId, vp_cell cA (N, a0) = arrV cA N (fun _ => defaultValue ty)) (hn : ¬ n < 0) (hN : n.toNatClampNeg = N) (hby : N * componentBytes ty ≤ 536870912) (hc : xc + 1 ≤ rm.cells) (hs : xs + N ≤ rm.slots)
    (wo' : Nat → va_W) (hwo : ∀ q, wo ++ [(q, .inl (zkA X kd, N, a0))] = wo' q) (k : ∀ q, zV X nL (pc + 2) lv (.ref q :: st) (wo' q) cs (xc + 1) (xs + N)) : zV X nL pc lv (.int n :: st) wo cs xc xs := by
  obtain ⟨p, l, ee, R, s, m, args, below, meth, cd, D, kA, A, Q, nc, ns⟩ := X
  obtain ⟨hx, hb, hml, hown, hts, hK, hA, hlk, hR, hNw, hNi⟩ := C
  intro H locs ls h1 h2 h3 h4
  refine va_newa (atype := atype) hx hb (hts _ hw) hty hK h1 h2 h3 hA ha hn hN hby (by rw [hR]; exact hc) (by rw [hR]; exact hs) hd (fun q cA H1 gK g1 g2 g3 => ?_)
  have e := zcA (tys := []) kd gK hK (hkd kA) hp
  subst e
  have g1 := zP_perm zpush g1
  have g2 := zD_perm zpush g2
  rw [show wo ++ [(q, .inl (kA kd, N, a0))] = wo' q from hwo q] at g1 g2
  exact k q H1 locs ls g1 g2 g3 h4
theorem v_anew {n : Int32} {ix : Nat} (N : Nat) (C : zCV X own cc nL rm) (hd : decode cc pc = .ok (.anewarray ix, 3)) (hcl : Cond.classLink own ix RX2 ∈ zTb) (hn : ¬ n < 0) (hN : n.toNatClampNeg = N) (hby : N * 4 ≤ 536870912) (hc : xc + 1 ≤ rm.cells) (hs : xs + N ≤ rm.slots)
    (wo' : Nat → va_W) (hwo : ∀ q, wo ++ [(q, .inl (zkA X 5, N, .inr (.inr (.inr (.inr (fun _ => none))))))] = wo' q) (k : ∀ q, zV X nL (pc + 3) lv (.ref q :: st) (wo' q) cs (xc + 1) (xs + N)) : zV X nL pc lv (.int n :: st) wo cs xc xs := by
  obtain ⟨p, l, ee, R, s, m, args, below, meth, cd, D, kA, A, Q, nc, ns⟩ := X
  obtain ⟨hx, hb, hml, hown, hts, hK, hA, hlk, hR, hNw, hNi⟩ := C
  intro H locs ls h1 h2 h3 h4
  refine va_newq hx hb hown (hts _ hcl) hNi.2.2.2.2.2.1 hK h1 h2 h3 hA hn hN hby (by rw [hR]; exact hc) (by rw [hR]; exact hs) hd (fun q cA H1 gK g1 g2 g3 => ?_)
  have e : cA = kA 5 := by
    obtain ⟨_, _, _, _, _, f1⟩ := (gK.2 6 (cA, _) rfl).2
    obtain ⟨_, _, _, _, _, f2⟩ := (hK.2 5 _ rfl).2
    exact Option.some.inj (f1.symm.trans f2)
  subst e
  have g1 := zP_perm zpush g1
  have g2 := zD_perm zpush g2
  rw [show wo ++ [(q, .inl (kA 5, N, .inr (.inr (.inr (.inr (fun _ => none))))))] = wo' q from hwo q] at g1 g2
  exact k q H1 locs ls g1 g2 g3 h4
theorem zplm {l : List Nat} {f : Nat → va_E} {v : va_E} : va_pl ([] ++ l) (vr_up f l v) = l.map (fun a => (a, v)) := by
  unfold va_pl
  rw [List.nil_append]
  apply List.map_congr_left
  intro a ha
  rw [vr_up_in ha]
theorem v_mna {n kk : Int32} {ix : Nat} (ty : FieldType) (kd ko N M : Nat) (z : (Nat → Int32) ⊕ (Nat → Int64) ⊕ (Nat → UInt32) ⊕ (Nat → UInt64) ⊕ (Nat → Option Nat)) (C : zCV X own cc nL rm) (hd : decode cc pc = .ok (.multianewarray ix 2, 4)) (hcl : Cond.classLink own ix ("[" ++ (FieldType.array ty).toString) ∈ zTb) (hov : ∀ U, zNi U → va_AOA ty U) (harr : Cond.arrayClass ty ∈ zTb) (hkd : ∀ kA : Nat → ClassId, (zty kA)[kd]? = some (kA kd, ty)) (hko : ∀ kA : Nat → ClassId, (zty kA)[ko]? = some (kA ko, .array ty)) (hp : ty = .int ∨ ty = .long)
    (hn : ¬ n < 0) (hk : ¬ kk < 0) (hN : n.toNatClampNeg = N) (hM : kk.toNatClampNeg = M) (hb1 : N * 4 ≤ 536870912) (hb2 : M * componentBytes ty ≤ 536870912) (hb3 : M ≤ 536870912) (hdf : fits ty (defaultValue ty) = true) (hdd : (defaultValue ty).isDefault = true) (hc : xc + (1 + N) ≤ rm.cells) (hs : xs + (N + N * M) ≤ rm.slots) (hz : ∀ c : ClassId, Jvm.Free.Multi.innerC c M (defaultValue ty) = vp_cell c (M, z))
    (wo' : Nat → (Nat → Nat) → va_W) (hwo : ∀ q r, (wo ++ [(q, .inl (zkA X ko, N, .inr (.inr (.inr (.inr (fun i => if i < N then some (r i) else none))))))]) ++ ((List.range N).map r).map (fun a => (a, .inl (zkA X kd, M, z))) = wo' q r) (k : ∀ q r, zV X nL (pc + 4) lv (.ref q :: st) (wo' q r) cs (xc + 1 + N) (xs + N + N * M)) : zV X nL pc lv (.int kk :: .int n :: st) wo cs xc xs := by
  obtain ⟨p, l, ee, R, s, m, args, below, meth, cd, D, kA, A, Q, nc, ns⟩ := X
  obtain ⟨hx, hb, hml, hown, hts, hK, hA, hlk, hR, hNw, hNi⟩ := C
  intro H locs ls h1 h2 h3 h4
  have hcy : s.vm.findClass (FieldType.array ty).toString = some (kA kd) := by
    have h9 := (hK.2 kd _ (hkd kA)).2
    rcases hp with rfl | rfl <;> exact h9
  refine va_mna (X := wo ++ zgw kA cs) (L := []) (f := fun _ => .inr (0, [])) (z := (M, z)) hx hb hown (hts _ hcl) (hov s hNi) (hts _ harr) hcy hK (by rw [show va_pl [] (fun _ => (Sum.inr (0, []) : va_E)) = [] from rfl, List.append_nil]; exact h1) (by rw [show va_pl [] (fun _ => (Sum.inr (0, []) : va_E)) = [] from rfl, List.append_nil]; exact h2) h3 hA hn hk hN hM hb1 hb2 hb3 hdf hdd (by rw [hR]; exact hc) (by rw [hR]; exact hs) hz hd (fun q r cA H1 _ _ gK g1 g2 g3 => ?_)
  have e : cA = kA ko := by
    have f1 := (gK.2 6 (cA, _) rfl).2
    have f2 := (hK.2 ko _ (hko kA)).2
    exact Option.some.inj (Eq.trans (Eq.symm f1) f2)
  subst e
  rw [zplm] at g1 g2
  have hpm : List.Perm (((wo ++ zgw kA cs) ++ [(q, .inl (kA ko, N, .inr (.inr (.inr (.inr (fun i => if i < N then some (r i) else none))))))]) ++ ((List.range N).map r).map (fun a => ((a, .inl (kA kd, M, z)) : Nat × va_E))) (((wo ++ [(q, .inl (kA ko, N, .inr (.inr (.inr (.inr (fun i => if i < N then some (r i) else none))))))]) ++ ((List.range N).map r).map (fun a => ((a, .inl (kA kd, M, z)) : Nat × va_E))) ++ zgw kA cs) := by
    refine (List.Perm.append_right _ zpush).trans ?_
    rw [List.append_assoc, List.append_assoc (wo ++ _)]
    exact List.Perm.append_left _ List.perm_append_comm
  have g1 := zP_perm hpm g1
  have g2 := zD_perm hpm g2
  rw [show (wo ++ [(q, .inl (kA ko, N, .inr (.inr (.inr (.inr (fun i => if i < N then some (r i) else none))))))]) ++ ((List.range N).map r).map (fun a => ((a, .inl (kA kd, M, z)) : Nat × va_E)) = wo' q r from hwo q r] at g1 g2
  exact k q r H1 locs ls g1 g2 g3 h4
theorem zgl {wo z : va_W} {i : Nat} {x : Nat × va_E} (h : wo[i]? = some x) : (wo ++ z)[i]? = some x := by rw [List.getElem?_append_left (List.getElem?_eq_some_iff.mp h).1]; exact h
theorem zsl {wo z : va_W} {i : Nat} {x y : Nat × va_E} (h : wo[i]? = some x) : (wo ++ z).set i y = wo.set i y ++ z := List.set_append_left _ _ (List.getElem?_eq_some_iff.mp h).1
theorem v_putF {ix a : Nat} {v : Value} {fs : List Value} (i ci f : Nat) (hIn : zIn X) (C : zCV X own cc nL rm) (hd : decode cc pc = .ok (.putfield ix, 3)) (he : wo[i]? = some (a, .inr (ci, fs))) (h6 : ci < 6) (hf : f < znF ci) (hw : Cond.fieldLink own ix (zTn ci f).1 (zTn ci f).2.1 (zTn ci f).2.2.1 ∈ zTb) (hfin : (zTn ci f).2.2.2 = true) (hown2 : (zTn ci f).1 = own) (hn : narrow (zTy ci f) v = v) (hfit : fits (zTy ci f) v = true) (hl : f < fs.length) (wo' : va_W) (hwo : wo.set i (a, .inr (ci, fs.set f v)) = wo')
    (k : zV X nL (pc + 3) lv st wo' cs xc xs) : zV X nL pc lv (v :: .ref a :: st) wo cs xc xs := by
  obtain ⟨p, l, ee, R, s, m, args, below, meth, cd, D, kA, A, Q, nc, ns⟩ := X
  obtain ⟨hx, hb, hml, hown, hts, hK, hA, hlk, hR, hNw, hNi⟩ := C
  intro H locs ls h1 h2 h3 h4
  refine va_putF hx hb hts (zk_w h6) (zTy ci) (zk_ty h6) (zk_nm h6) hown hK h1 h2 h3 i (zgl he) (zcl_at h6) f hf (hts _ hw) (fun _ h9 => h9) hfin hIn hown2 (zk_ty h6 f hf) hn hfit hl hd (fun H1 locs1 g1 g2 g3 => ?_)
  rw [zsl he, hwo] at g1 g2
  exact k H1 locs1 ls g1 g2 g3 h4
theorem v_put {ix a : Nat} {v : Value} {fs : List Value} (i ci f : Nat) (C : zCV X own cc nL rm) (hd : decode cc pc = .ok (.putfield ix, 3)) (he : wo[i]? = some (a, .inr (ci, fs))) (h6 : ci < 6) (hf : f < znF ci) (hw : Cond.fieldLink own ix (zTn ci f).1 (zTn ci f).2.1 (zTn ci f).2.2.1 ∈ zTb) (hfin : (zTn ci f).2.2.2 = false) (hn : narrow (zTy ci f) v = v) (hfit : fits (zTy ci f) v = true) (hl : f < fs.length) (wo' : va_W) (hwo : wo.set i (a, .inr (ci, fs.set f v)) = wo')
    (k : zV X nL (pc + 3) lv st wo' cs xc xs) : zV X nL pc lv (v :: .ref a :: st) wo cs xc xs := by
  obtain ⟨p, l, ee, R, s, m, args, below, meth, cd, D, kA, A, Q, nc, ns⟩ := X
  obtain ⟨hx, hb, hml, hown, hts, hK, hA, hlk, hR, hNw, hNi⟩ := C
  intro H locs ls h1 h2 h3 h4
  refine va_put hx hb hts (zk_w h6) (zTy ci) (zk_ty h6) (zk_nm h6) hown hK h1 h2 h3 i (zgl he) (zcl_at h6) f hf (hts _ hw) (fun _ h9 => h9) hfin (zk_ty h6 f hf) hn hfit hl hd (fun H1 locs1 g1 g2 g3 => ?_)
  rw [zsl he, hwo] at g1 g2
  exact k H1 locs1 ls g1 g2 g3 h4
theorem v_get {ix a : Nat} {fs : List Value} (i ci f : Nat) (v : Value) (C : zCV X own cc nL rm) (hd : decode cc pc = .ok (.getfield ix, 3)) (he : wo[i]? = some (a, .inr (ci, fs))) (h6 : ci < 6) (hf : f < znF ci) (hw : Cond.fieldLink own ix (zTn ci f).1 (zTn ci f).2.1 (zTn ci f).2.2.1 ∈ zTb) (hv : fs[f]? = some v)
    (k : zV X nL (pc + 3) lv (v :: st) wo cs xc xs) : zV X nL pc lv (.ref a :: st) wo cs xc xs := by
  obtain ⟨p, l, ee, R, s, m, args, below, meth, cd, D, kA, A, Q, nc, ns⟩ := X
  obtain ⟨hx, hb, hml, hown, hts, hK, hA, hlk, hR, hNw, hNi⟩ := C
  intro H locs ls h1 h2 h3 h4
  exact va_get hx hb hts (zk_w h6) hown hK h1 i (zgl he) (zcl_at h6) f hf (hts _ hw) (fun _ h9 => h9) hv hd (k H locs ls h1 h2 h3 h4)
theorem v_getC {ix : Nat} {q : Nat → Nat} {σ : zOS} (i ci f : Nat) (v : Value) (C : zCV X own cc nL rm) (hd : decode cc pc = .ok (.getfield ix, 3)) (hc : cs[i]? = some (ci, q, σ)) (h6 : ci < 6) (hf : f < znF ci) (hw : Cond.fieldLink own ix (zTn ci f).1 (zTn ci f).2.1 (zTn ci f).2.2.1 ∈ zTb) (hv : zfv ci q σ f = v)
    (k : zV X nL (pc + 3) lv (v :: st) wo cs xc xs) : zV X nL pc lv (.ref (q 0) :: st) wo cs xc xs := by
  obtain ⟨p, l, ee, R, s, m, args, below, meth, cd, D, kA, A, Q, nc, ns⟩ := X
  obtain ⟨hx, hb, hml, hown, hts, hK, hA, hlk, hR, hNw, hNi⟩ := C
  intro H locs ls h1 h2 h3 h4
  obtain ⟨pk, hpk, -⟩ := zgw_at (kA := kA) hc (k := 0) (Nat.zero_le _)
  rw [zce_0] at hpk
  have hpk2 : (wo ++ zgw kA cs)[wo.length + pk]? = some (q 0, .inr (ci, (List.range (znF ci)).map (zfv ci q σ))) := by
    rw [List.getElem?_append_right (by omega), Nat.add_sub_cancel_left]
    exact hpk
  have hv2 : ((List.range (znF ci)).map (zfv ci q σ))[f]? = some v := by
    rw [List.getElem?_map, List.getElem?_range hf]
    show some (zfv ci q σ f) = some v
    rw [hv]
  exact va_get hx hb hts (zk_w h6) hown hK h1 (wo.length + pk) hpk2 (zcl_at h6) f hf (hts _ hw) (fun _ h9 => h9) hv2 hd (k H locs ls h1 h2 h3 h4)
theorem v_aast {a : Nat} {j : Int32} {qk : Nat → Nat} {σk : zOS} {f : Nat → Option Nat} (i ik N : Nat) (C : zCV X own cc nL rm) (hd : decode cc pc = .ok (.aastore, 1)) (he : wo[i]? = some (a, .inl (zkA X 5, N, .inr (.inr (.inr (.inr f)))))) (hk : cs[ik]? = some (2, qk, σk)) (hin : vp_in j N) (wo' : va_W) (hwo : wo.set i (a, .inl (zkA X 5, N, .inr (.inr (.inr (.inr (va_up f j.toNatClampNeg (some (qk 0)))))))) = wo')
    (k : zV X nL (pc + 1) lv st wo' cs xc xs) : zV X nL pc lv (.ref (qk 0) :: .int j :: .ref a :: st) wo cs xc xs := by
  obtain ⟨p, l, ee, R, s, m, args, below, meth, cd, D, kA, A, Q, nc, ns⟩ := X
  obtain ⟨hx, hb, hml, hown, hts, hK, hA, hlk, hR, hNw, hNi⟩ := C
  intro H locs ls h1 h2 h3 h4
  obtain ⟨pk, hpk, -⟩ := zgw_at (kA := kA) hk (k := 0) (Nat.zero_le _)
  rw [zce_0] at hpk
  have hpk2 : (wo ++ zgw kA cs)[wo.length + pk]? = some (qk 0, .inr (2, (List.range (znF 2)).map (zfv 2 qk σk))) := by
    rw [List.getElem?_append_right (by omega), Nat.add_sub_cancel_left]
    exact hpk
  refine va_astq hx hb hK h1 h2 h3 i 5 (wo.length + pk) 2 (zgl he) rfl hpk2 (zcl_at (c := 2) (by decide)) hin hd (fun H1 locs1 g1 g2 g3 => ?_)
  rw [zsl he] at g1 g2
  rw [hwo] at g1 g2
  exact k H1 locs1 ls g1 g2 g3 h4
theorem v_return {Pq : List zCm → Prop} (cs1 : List zCm) (C : zCV X own cc nL rm) (hR2 : zRI X rm Pq) (hd : decode cc pc = .ok (.return_, 1)) (hq : Pq cs1) (hp : List.Perm (wo ++ zgw (zkA X) cs) (zgw (zkA X) cs1)) (hc : xc = rm.cells) (hs : xs = rm.slots) : zV X nL pc lv [] wo cs xc xs := by
  obtain ⟨p, l, ee, R, s, m, args, below, meth, cd, D, kA, A, Q, nc, ns⟩ := X
  obtain ⟨hx, hb, hml, hown, hts, hK, hA, hlk, hR, hNw, hNi⟩ := C
  intro H locs ls h1 h2 h3 h4
  obtain ⟨hr, hQ⟩ := hR2
  subst hQ
  subst hc
  subst hs
  exact W.vret hx hb hr (fun t ht hW => ⟨⟨rfl, cs1, hq, by rw [ht]; exact zP_perm hp h1, va_K.moved hW.alike hK, zD_perm hp h2⟩, h3.F ht⟩) h3.2.2 hd
theorem zrunI {p : Program} {l : Launch} {e : Env} {R : Room} {s : State} {m : MethodId} {args : Array Value} {below : List Frame} {meth : Method} {c : Code} {H : Heap} {locs : List Loc} {xc xs mc ms : Nat} {Q : State → Prop} {pc : Nat} {ls : Array Slot} {st st0 : List Value} {a : Array Value} {A : Nat → Prop} {D : va_G} {kA : Nat → ClassId} {Pq : List zCm → Prop} {wc wr : va_W}
    (hr : va_Run p l e R s m args below meth c H locs xc xs mc ms (F0 m pc ls st0) st (zQI D kA Pq (va_A wc H.size) a) (va_A wc H.size)) (h1 : va_P D zcl (wc ++ wr) H) (h2 : va_D A (wc ++ wr)) (h3 : va_S A s.heap H locs) (hA : ∀ q, s.heap.size ≤ q → A q)
    (kk : ∀ (cs1 : List zCm) (H1 : Heap) (locs1 : List Loc), Pq cs1 → va_P D zcl (zgw kA cs1 ++ wr) H1 → va_D A (zgw kA cs1 ++ wr) → va_S A s.heap H1 locs1 → W p l e R s m args below meth c H1 locs1 (xc + mc) (xs + ms) Q (F0 m (pc + 3) ls st)) : W p l e R s m args below meth c H locs xc xs Q (F0 m pc ls st0) := by
  have hF := zfree h2 h3 hA
  intro T hT Xs
  obtain ⟨v, st₀, t, T', L, h0, X', hL, e1, e2, ⟨⟨hv, cs1, hq, qP, qK, qD⟩, hz, hk⟩, stp⟩ := hr T hT Xs
  cases hv
  rw [h0] at hz hk
  rw [← e1] at qP hz
  have hk' : ∀ q : Nat, q < H.size → ¬ va_A wc H.size q → T'.heap[q]? = H[q]? := fun q g1 g2 => by rw [e1]; exact hk q g1 g2
  obtain ⟨j1, j2⟩ := zjoin h1 h2 hk' hF qP qD
  obtain ⟨t2, a1, b1⟩ := kk cs1 T'.heap (locs ++ L) hq j1 j2 ⟨Nat.le_trans h3.1 hz, fun q g1 g2 => by
      rw [hk' q (Nat.lt_of_lt_of_le g1 h3.1) (fun z => g2 (hF q z))]; exact h3.2.1 q g1 g2, fun q hq => by
      rcases List.mem_append.mp hq with h | h
      · exact h3.2.2 q h
      · exact hF _ (hL q h)⟩ T' rfl X'
  exact ⟨t2, stp t2 a1, b1⟩
theorem zcons {wo z : va_W} {x : Nat × va_E} : List.Perm ((wo ++ [x]) ++ z) ([x] ++ (wo ++ z)) := by
  rw [← List.append_assoc]
  exact List.Perm.append_right _ List.perm_append_comm
theorem zback {kA : Nat → ClassId} {wo : va_W} {cs cs1 : List zCm} : List.Perm (zgw kA cs1 ++ (wo ++ zgw kA cs)) (wo ++ zgw kA (cs ++ cs1)) := by
  rw [zgw_app, ← List.append_assoc wo]
  exact List.perm_append_comm
theorem v_callI {y : MethodName} {cc' : ByteArray} {nL' ix n h ci : Nat} {rm' : Room} {fs : List Value} {Pq : Nat → List zCm → Prop} {stk : List Value} (ar : List Value) (st : List Value) (wo1 : va_W) (C : zCV X own cc nL rm) (hd : decode cc pc = .ok (.invokespecial ix, 3)) (hM : zMI y cc' nL' rm' ci fs ar Pq) (hco : Cond.code y cc' nL' none ∈ zTb) (hini : Cond.initialized y.cls ∈ zTb) (hinst : Cond.instanceMethod y ∈ zTb) (hyn : y.name = "<init>") (hl : Cond.methodLink own ix y ∈ zTb ∨ ∃ host, ∀ U, zNi U → va_Nw (.methodLinkNest own ix y host) U) (hy : y.cls ≠ "java/lang/invoke/MethodHandle" ∧ y.cls ≠ "java/lang/invoke/VarHandle" ∧ (parseMethodDescriptor y.desc).map (fun d => d.parameters.length) = some n)
    (hwo : wo = wo1 ++ [(h, .inr (ci, fs))]) (hrm : rm'.frames + 1 ≤ rm.frames ∧ 8 + (nL' + 11) + rm'.locals ≤ rm.locals) (hc : xc + rm'.cells ≤ rm.cells ∧ xs + rm'.slots ≤ rm.slots) (hn : ar.length = n) (hst : (st.map fun v => v.category).sum ≤ 8) (hsk : stk = ar.reverse ++ .ref h :: st)
    (k : ∀ cs1, Pq h cs1 → zV X nL (pc + 3) lv st wo1 (cs ++ cs1) (xc + rm'.cells) (xs + rm'.slots)) : zV X nL pc lv stk wo cs xc xs := by
  obtain ⟨p, l, ee, R, s, m, args, below, meth, cd, D, kA, A, Q, nc, ns⟩ := X
  obtain ⟨hx, hb, hml, hown, hts, hK, hA, hlk, hR, hNw, hNi⟩ := C
  intro H locs ls h1 h2 h3 h4
  subst hwo
  subst hsk
  subst hR
  have g1 := zP_perm zcons h1
  have g2 := zD_perm zcons h2
  have g1c : va_P D zcl [(h, .inr (ci, fs))] H := fun k q hk => g1 k q (by rw [List.getElem?_append_left (List.getElem?_eq_some_iff.mp hk).1]; exact hk)
  have g2c : va_D (fun _ => True) [(h, .inr (ci, fs))] := by
    rw [zD_iff]
    exact ⟨by simp, fun _ _ => trivial⟩
  have hpre : PreS s H (va_Pc (.ref h :: ar) (zBI D kA H.size [(h, .inr (ci, fs))])) (.ref h :: ar) := ⟨zBI_blind, fun U hU hW => ⟨rfl, by rw [hU], by rw [hU]; exact g1c, va_K.moved hW.alike hK, g2c, hNw.warm hW, hNi.warm hW⟩⟩
  have fin : ∀ (cs1 : List zCm) (H1 : Heap) (locs1 : List Loc), Pq h cs1 → va_P D zcl (zgw kA cs1 ++ (wo1 ++ zgw kA cs)) H1 → va_D A (zgw kA cs1 ++ (wo1 ++ zgw kA cs)) → va_S A s.heap H1 locs1 → W p l ee R s m args below meth cd H1 locs1 (xc + rm'.cells) (xs + rm'.slots) Q (F0 m (pc + 3) ls st) := fun cs1 H1 locs1 hq k1 k2 k3 => k cs1 hq H1 locs1 ls (zP_perm zback k1) (zD_perm zback k2) k3 h4
  rcases hl with hl | ⟨host, hl⟩
  · exact zrunI (va_runI (As := ar) (rest := st) (b := h) (n := n) ⟨hx, hb, hml, hown, hts⟩ (hM l D kA H.size h) ⟨callB_of n hts (zk_gi hco) rfl rfl rfl (hts _ hini) (hts _ hl) hy hrm, hyn, hts _ hinst⟩ hpre rfl hn h4.1 rfl (lv_room hst) hd hc) g1 g2 h3 hA fin
  · exact zrunI (va_runIN (As := ar) (rest := st) (b := h) (n := n) ⟨hx, hb, hml, hown, hts⟩ (hM l D kA H.size h) ⟨va_cnB n hts (zk_gi hco) rfl rfl rfl (hl s hNi) (hts _ hini) hy hrm, hyn, hts _ hinst⟩ hpre rfl hn h4.1 rfl (lv_room hst) hd hc) g1 g2 h3 hA fin
end ZV
