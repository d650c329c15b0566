/-! the words of the tables are all good; the fields' words -/
/-- the words that a call may hand on -/
def zTb : List Cond := lw_tbl.filter goodWord
theorem zk_in {w : Cond} (i : Nat) (h : lw_tbl[i]? = some w) (g : goodWord w = true) : w ∈ zTb := List.mem_filter.mpr ⟨List.mem_of_getElem? h, g⟩
theorem zk_gi {y : MethodName} {cc : ByteArray} {nL : Nat} {ret : Option FieldType} (h : Cond.code y cc nL ret ∈ zTb) : GoodIn zTb (Cond.code y cc nL ret :: zTb) := by
  intro w hw
  have hm : w ∈ zTb := by
    rcases List.mem_cons.mp hw with h' | h'
    · rw [h']; exact h
    · exact h'
  exact ⟨hm, good_of_word (List.mem_filter.mp hm).2⟩
set_option maxRecDepth 100000 in
theorem zk_w0 : ∀ w ∈ u_ws RX0 TX0 16, w ∈ zTb := by decide +kernel
set_option maxRecDepth 100000 in
theorem zk_w1 : ∀ w ∈ u_ws RX1 TX1 10, w ∈ zTb := by decide +kernel
set_option maxRecDepth 100000 in
theorem zk_w2 : ∀ w ∈ u_ws RX2 TX2 5, w ∈ zTb := by decide +kernel
set_option maxRecDepth 100000 in
theorem zk_w3 : ∀ w ∈ u_ws RX3 TX3 3, w ∈ zTb := by decide +kernel
set_option maxRecDepth 100000 in
theorem zk_w4 : ∀ w ∈ u_ws RX4 TX4 9, w ∈ zTb := by decide +kernel
set_option maxRecDepth 100000 in
theorem zk_w5 : ∀ w ∈ u_ws RX5 TX5 26, w ∈ zTb := by decide +kernel
/-! the state of an object: its int arrays by place, its long arrays by place, its int fields by slot, its long field -/
abbrev zOS : Type := (Nat → Nat → Int32) × (Nat → Nat → Int64) × (Nat → Int32) × Int64
/-- a component: the number of its class, its addresses (0 the object, then its arrays; others that it holds from 50 on), its state -/
abbrev zCm : Type := Nat × (Nat → Nat) × zOS
def zI (σ : zOS) (k : Nat) : Nat → Int32 := σ.1 k
def zL (σ : zOS) (k : Nat) : Nat → Int64 := σ.2.1 k
def zF (σ : zOS) (f : Nat) : Int32 := σ.2.2.1 f
def zH (σ : zOS) : Int64 := σ.2.2.2
def zsI (σ : zOS) (k : Nat) (a : Nat → Int32) : zOS := (va_up σ.1 k a, σ.2.1, σ.2.2.1, σ.2.2.2)
def zsL (σ : zOS) (k : Nat) (a : Nat → Int64) : zOS := (σ.1, va_up σ.2.1 k a, σ.2.2.1, σ.2.2.2)
def zsF (σ : zOS) (f : Nat) (v : Int32) : zOS := (σ.1, σ.2.1, va_up σ.2.2.1 f v, σ.2.2.2)
def zsH (σ : zOS) (v : Int64) : zOS := (σ.1, σ.2.1, σ.2.2.1, v)
/-! the classes -/
abbrev zcl : List vw_C := [(RX0, TX0, 16), (RX1, TX1, 10), (RX2, TX2, 5), (RX3, TX3, 3), (RX4, TX4, 9), (RX5, TX5, 26)]
def zRn (c : Nat) : String := match c with | 0 => RX0 | 1 => RX1 | 2 => RX2 | 3 => RX3 | 4 => RX4 | _ => RX5
def zTn (c : Nat) : u_T := match c with | 0 => TX0 | 1 => TX1 | 2 => TX2 | 3 => TX3 | 4 => TX4 | _ => TX5
def zTy (c : Nat) : Nat → FieldType := match c with | 0 => tyX0 | 1 => tyX1 | 2 => tyX2 | 3 => tyX3 | 4 => tyX4 | _ => tyX5
def znF (c : Nat) : Nat := match c with | 0 => 16 | 1 => 10 | 2 => 5 | 3 => 3 | 4 => 9 | _ => 26
def znA (c : Nat) : Nat := match c with | 0 => 15 | 1 => 18 | 2 => 3 | 3 => 2 | 4 => 2 | _ => 14
/-- what a field holds: 0 an int of the state, 1 the long, k + 2 the reference to address k -/
def zfk (c f : Nat) : Nat := match c with
  | 0 => if f < 12 then f + 3 else 0
  | 1 => match f with | 0 => 52 | 1 => 53 | 2 => 3 | 3 => 4 | 4 => 5 | 6 => 6 | 7 => 7 | _ => 0
  | 2 => if f < 3 then f + 3 else 0
  | 3 => if f < 2 then f + 3 else 0
  | 4 => match f with | 0 => 55 | 1 => 52 | 2 => 54 | 3 => 53 | 4 => 3 | 5 => 56 | 6 => 4 | _ => 0
  | _ => match f with | 0 => 3 | 1 => 4 | 2 => 5 | 4 => 6 | 6 => 7 | 9 => 8 | 11 => 9 | 13 => 10 | 15 => 11 | 16 => 12 | 17 => 13 | 18 => 14 | 23 => 15 | 24 => 16 | 25 => 1 | _ => 0
/-- an array's kind: 0 int, 1 long, 2 byte, 3 int[], 4 long[], 5 Plan -/
def zak (c k : Nat) : Nat := match c with
  | 0 => if k = 1 ∨ k = 2 ∨ k = 8 ∨ 13 ≤ k then 1 else if k = 6 then 4 else 0
  | 1 => if k = 3 then 3 else 0
  | 2 => if k = 1 then 1 else 0
  | 3 => if k = 1 then 2 else 0
  | 4 => if k = 1 then 5 else 0
  | _ => 0
def zln (c k : Nat) : Nat := match c with
  | 0 => if k = 1 then 4 else if k = 6 then 3 else if 8 ≤ k ∧ k ≤ 12 then 32 else 96
  | 1 => if k = 3 then 13 else if k = 1 ∨ k = 2 ∨ k = 4 then 6 else 10
  | 2 => if k = 1 then 4 else 18
  | 3 => if k = 1 then 150 else 5
  | 4 => if k = 1 then 5 else 3
  | _ => match k with | 1 => 46 | 2 => 46 | 3 => 230 | 4 => 3 | 5 => 192 | 6 => 64 | 7 => 192 | 8 => 192 | 9 => 16 | 10 => 7 | 11 => 70 | 12 => 150 | 13 => 80 | _ => 400
def zbs (c : Nat) : Nat := match c with | 0 => 13 | 1 => 6 | _ => 60
def zAr (c k kd n : Nat) : Prop := (0 < k ∧ k ≤ znA c) ∧ zak c k = kd ∧ zln c k = n
def zfv (c : Nat) (q : Nat → Nat) (σ : zOS) (f : Nat) : Value := match zfk c f with
  | 0 => .int (zF σ f)
  | 1 => .long (zH σ)
  | k + 2 => .ref (q k)
def zty (kA : Nat → ClassId) : List (ClassId × FieldType) := [(kA 0, .int), (kA 1, .long), (kA 2, .byte), (kA 3, .array .int), (kA 4, .array .long), (kA 5, .object RX2)]
def zce (kA : Nat → ClassId) (c : Nat) (q : Nat → Nat) (σ : zOS) (k : Nat) : va_E :=
  if k = 0 then .inr (c, (List.range (znF c)).map (zfv c q σ))
  else if zak c k = 1 then .inl (kA 1, zln c k, .inr (.inl (zL σ k)))
  else if zak c k < 3 then .inl (kA (zak c k), zln c k, .inl (zI σ k))
  else .inl (kA (zak c k), zln c k, .inr (.inr (.inr (.inr (fun i => if i < zln c k then some (q (zbs c + i)) else none)))))
def zco (kA : Nat → ClassId) (x : zCm) : va_W := (List.range (znA x.1 + 1)).map fun k => (x.2.1 k, zce kA x.1 x.2.1 x.2.2 k)
def zgw (kA : Nat → ClassId) (cs : List zCm) : va_W := cs.flatMap (zco kA)
theorem zcl_at {c : Nat} (h : c < 6) : zcl[c]? = some (zRn c, zTn c, znF c) := by
  match c, h with
  | 0, _ => rfl
  | 1, _ => rfl
  | 2, _ => rfl
  | 3, _ => rfl
  | 4, _ => rfl
  | 5, _ => rfl
theorem zk_w {c : Nat} (h : c < 6) : ∀ w ∈ u_ws (zRn c) (zTn c) (znF c), w ∈ zTb := by
  match c, h with
  | 0, _ => exact zk_w0
  | 1, _ => exact zk_w1
  | 2, _ => exact zk_w2
  | 3, _ => exact zk_w3
  | 4, _ => exact zk_w4
  | 5, _ => exact zk_w5
theorem zk_ty {c : Nat} (h : c < 6) : ∀ k, k < znF c → parseFieldDescriptor (zTn c k).2.2.1 = some (zTy c k) := by
  match c, h with
  | 0, _ => exact tyX0_ok
  | 1, _ => exact tyX1_ok
  | 2, _ => exact tyX2_ok
  | 3, _ => exact tyX3_ok
  | 4, _ => exact tyX4_ok
  | 5, _ => exact tyX5_ok
theorem zk_nm {c : Nat} (h : c < 6) : ∀ a, a < znF c → ∀ b, b < znF c → a ≠ b → (zTn c a).2.1 ≠ (zTn c b).2.1 := by
  match c, h with
  | 0, _ => exact nmX0
  | 1, _ => exact nmX1
  | 2, _ => exact nmX2
  | 3, _ => exact nmX3
  | 4, _ => exact nmX4
  | 5, _ => exact nmX5
theorem zset {α : Type} {f f' : Nat → α} {n k : Nat} (hk : k < n) (h : ∀ j, j < n → j ≠ k → f' j = f j) : ((List.range n).map f).set k (f' k) = (List.range n).map f' := by
  apply List.ext_getElem?
  intro j
  by_cases hj : j < n
  · by_cases e : j = k
    · subst e; simp [hj]
    · rw [List.getElem?_set_ne (Ne.symm e)]; simp [hj, h j hj e]
  · rw [List.getElem?_eq_none (by simp; omega), List.getElem?_eq_none (by simp; omega)]
theorem zco_at {kA : Nat → ClassId} {c : Nat} {q : Nat → Nat} {σ : zOS} {k : Nat} (hk : k ≤ znA c) : (zco kA (c, q, σ))[k]? = some (q k, zce kA c q σ k) := by
  unfold zco
  rw [List.getElem?_map, List.getElem?_range (by show k < znA c + 1; omega)]
  rfl
theorem zco_len {kA : Nat → ClassId} {x : zCm} : (zco kA x).length = znA x.1 + 1 := by simp [zco]
theorem zgw_at {kA : Nat → ClassId} : ∀ {cs : List zCm} {i c : Nat} {q : Nat → Nat} {σ : zOS}, cs[i]? = some (c, q, σ) → ∀ {k : Nat}, k ≤ znA c →
    ∃ pos, (zgw kA cs)[pos]? = some (q k, zce kA c q σ k) ∧ ∀ (q' : Nat → Nat) (σ' : zOS), (∀ j, j ≤ znA c → q' j = q j) → (∀ j, j ≤ znA c → j ≠ k → zce kA c q' σ' j = zce kA c q σ j) →
      (zgw kA cs).set pos (q k, zce kA c q' σ' k) = zgw kA (cs.set i (c, q', σ'))
  | [], i, c, q, σ, hc, k, hk => by simp at hc
  | x :: cs, 0, c, q, σ, hc, k, hk => by
    have hx : x = (c, q, σ) := by simpa using hc
    subst hx
    refine ⟨k, ?_, ?_⟩
    · show (zco kA (c, q, σ) ++ zgw kA cs)[k]? = _
      rw [List.getElem?_append_left (by rw [zco_len]; show k < znA c + 1; omega)]
      exact zco_at hk
    · intro q' σ' hq he
      show (zco kA (c, q, σ) ++ zgw kA cs).set k _ = zco kA (c, q', σ') ++ zgw kA cs
      rw [List.set_append_left _ _ (by rw [zco_len]; show k < znA c + 1; omega)]
      congr 1
      have h := zset (f := fun k => (q k, zce kA c q σ k)) (f' := fun k => (q' k, zce kA c q' σ' k)) (n := znA c + 1) (k := k) (by omega) (fun j hj hjk => by
        show (q' j, _) = (q j, _)
        rw [hq j (by omega), he j (by omega) hjk])
      rw [show (q k, zce kA c q' σ' k) = (q' k, zce kA c q' σ' k) by rw [hq k hk]]
      exact h
  | x :: cs, i + 1, c, q, σ, hc, k, hk => by
    obtain ⟨pos, h1, h2⟩ := zgw_at (cs := cs) (i := i) (by simpa using hc) hk (kA := kA)
    refine ⟨(zco kA x).length + pos, ?_, ?_⟩
    · show (zco kA x ++ zgw kA cs)[_]? = _
      rw [List.getElem?_append_right (by omega), Nat.add_sub_cancel_left]
      exact h1
    · intro q' σ' hq he
      show (zco kA x ++ zgw kA cs).set _ _ = zco kA x ++ zgw kA (cs.set i (c, q', σ'))
      rw [List.set_append_right _ _ (by omega), Nat.add_sub_cancel_left, h2 q' σ' hq he]
/-! what changes of a component's cells -/
theorem zce_0 {kA : Nat → ClassId} {c : Nat} {q : Nat → Nat} {σ : zOS} : zce kA c q σ 0 = .inr (c, (List.range (znF c)).map (zfv c q σ)) := rfl
theorem zce_i {kA : Nat → ClassId} {c : Nat} {q : Nat → Nat} {σ : zOS} {k n : Nat} (h : zAr c k 0 n) : zce kA c q σ k = .inl (kA 0, n, .inl (zI σ k)) := by
  obtain ⟨⟨h1, h2⟩, h3, h4⟩ := h
  unfold zce
  rw [if_neg (by omega), h3, if_neg (by decide), if_pos (by decide), h4]
theorem zce_b {kA : Nat → ClassId} {c : Nat} {q : Nat → Nat} {σ : zOS} {k n : Nat} (h : zAr c k 2 n) : zce kA c q σ k = .inl (kA 2, n, .inl (zI σ k)) := by
  obtain ⟨⟨h1, h2⟩, h3, h4⟩ := h
  unfold zce
  rw [if_neg (by omega), h3, if_neg (by decide), if_pos (by decide), h4]
theorem zce_l {kA : Nat → ClassId} {c : Nat} {q : Nat → Nat} {σ : zOS} {k n : Nat} (h : zAr c k 1 n) : zce kA c q σ k = .inl (kA 1, n, .inr (.inl (zL σ k))) := by
  obtain ⟨⟨h1, h2⟩, h3, h4⟩ := h
  unfold zce
  rw [if_neg (by omega), h3, if_pos rfl, h4]
theorem zce_r {kA : Nat → ClassId} {c : Nat} {q : Nat → Nat} {σ : zOS} {k kd n : Nat} (h : zAr c k kd n) (hd : 3 ≤ kd) : zce kA c q σ k = .inl (kA kd, n, .inr (.inr (.inr (.inr (fun i => if i < n then some (q (zbs c + i)) else none))))) := by
  obtain ⟨⟨h1, h2⟩, h3, h4⟩ := h
  unfold zce
  rw [if_neg (by omega), h3, if_neg (by omega), if_neg (by omega), h4]
theorem zfv_sI {c : Nat} {q : Nat → Nat} {σ : zOS} {k : Nat} {a : Nat → Int32} : zfv c q (zsI σ k a) = zfv c q σ := rfl
theorem zfv_sL {c : Nat} {q : Nat → Nat} {σ : zOS} {k : Nat} {a : Nat → Int64} : zfv c q (zsL σ k a) = zfv c q σ := rfl
theorem zI_s {σ : zOS} {k j : Nat} {a : Nat → Int32} (h : j ≠ k) : zI (zsI σ k a) j = zI σ j := if_neg h
theorem zI_e {σ : zOS} {k : Nat} {a : Nat → Int32} : zI (zsI σ k a) k = a := if_pos rfl
theorem zL_s {σ : zOS} {k j : Nat} {a : Nat → Int64} (h : j ≠ k) : zL (zsL σ k a) j = zL σ j := if_neg h
theorem zL_e {σ : zOS} {k : Nat} {a : Nat → Int64} : zL (zsL σ k a) k = a := if_pos rfl
theorem zF_s {σ : zOS} {k j : Nat} {a : Int32} (h : j ≠ k) : zF (zsF σ k a) j = zF σ j := if_neg h
theorem zF_e {σ : zOS} {k : Nat} {a : Int32} : zF (zsF σ k a) k = a := if_pos rfl
theorem zce_sI {kA : Nat → ClassId} {c : Nat} {q : Nat → Nat} {σ : zOS} {k j : Nat} {a : Nat → Int32} (h : j ≠ k) : zce kA c q (zsI σ k a) j = zce kA c q σ j := by
  unfold zce
  rw [zfv_sI, zI_s h]
  rfl
theorem zce_sL {kA : Nat → ClassId} {c : Nat} {q : Nat → Nat} {σ : zOS} {k j : Nat} {a : Nat → Int64} (h : j ≠ k) : zce kA c q (zsL σ k a) j = zce kA c q σ j := by
  unfold zce
  rw [zfv_sL, zL_s h]
  rfl
theorem zce_sF {kA : Nat → ClassId} {c : Nat} {q : Nat → Nat} {σ : zOS} {k j : Nat} {a : Int32} (h : j ≠ 0) : zce kA c q (zsF σ k a) j = zce kA c q σ j := by
  unfold zce
  rw [if_neg h, if_neg h]
  rfl
theorem zce_sH {kA : Nat → ClassId} {c : Nat} {q : Nat → Nat} {σ : zOS} {j : Nat} {a : Int64} (h : j ≠ 0) : zce kA c q (zsH σ a) j = zce kA c q σ j := by
  unfold zce
  rw [if_neg h, if_neg h]
  rfl
theorem zfl_F {c f : Nat} {q : Nat → Nat} {σ : zOS} {v : Int32} (hf : f < znF c) (hk : zfk c f = 0) : ((List.range (znF c)).map (zfv c q σ)).set f (.int v) = (List.range (znF c)).map (zfv c q (zsF σ f v)) := by
  have h := zset (f := zfv c q σ) (f' := zfv c q (zsF σ f v)) hf (fun j hj hjk => by
    unfold zfv
    split
    · rw [zF_s hjk]
    · rfl
    · rfl)
  rw [← h]
  congr 1
  unfold zfv
  rw [hk]
  show Value.int v = .int (zF (zsF σ f v) f)
  rw [zF_e]
theorem zfl_H {c f : Nat} {q : Nat → Nat} {σ : zOS} {v : Int64} (hf : f < znF c) (hk : zfk c f = 1) (hu : ∀ j, j < znF c → j ≠ f → zfk c j ≠ 1) : ((List.range (znF c)).map (zfv c q σ)).set f (.long v) = (List.range (znF c)).map (zfv c q (zsH σ v)) := by
  have h := zset (f := zfv c q σ) (f' := zfv c q (zsH σ v)) hf (fun j hj hjk => by
    unfold zfv
    split
    · rfl
    · exact absurd ‹_› (hu j hj hjk)
    · rfl)
  rw [← h]
  congr 1
  unfold zfv
  rw [hk]
  rfl
