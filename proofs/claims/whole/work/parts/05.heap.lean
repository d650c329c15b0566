/-! fields and arrays of a component -/
section ZH
variable {β : Type} {X : zCx} {own : String} {cc : ByteArray} {nL rf rl : Nat} {res : β} {e : Option β} {pc : Nat} {lv : List (Nat × Value)} {st : List Value} {cs : List zCm} {q : Nat → Nat} {σ : zOS} {c ix : Nat}
theorem z_getI (i f : Nat) (C : zC X own cc nL rf rl) (hd : decode cc pc = .ok (.getfield ix, 3)) (hc : cs[i]? = some (c, q, σ)) (h6 : c < 6) (hf : f < znF c) (hk : zfk c f = 0) (hw : Cond.fieldLink own ix (zTn c f).1 (zTn c f).2.1 (zTn c f).2.2.1 ∈ zTb)
    (k : zJ X nL res e (pc + 3) lv (.int (zF σ f) :: st) cs) : zJ X nL res e pc lv (.ref (q 0) :: st) cs := by
  obtain ⟨p, l, ee, R, s, m, args, below, meth, cd, D, kA, A, Q, nc, ns⟩ := X
  obtain ⟨hx, hb, hml, hown, hts, hK, hA, hlk, hR⟩ := C
  intro he H locs ls h1 h2 h3 h4
  obtain ⟨pos, hp, -⟩ := zgw_at (kA := kA) hc (k := 0) (Nat.zero_le _)
  rw [zce_0] at hp
  exact va_get hx hb hts (zk_w h6) hown hK h1 pos hp (zcl_at h6) f hf (hts _ hw) (fun _ h9 => h9) (v := .int (zF σ f)) (by rw [List.getElem?_map, List.getElem?_range hf]; show some (zfv c q σ f) = _; unfold zfv; rw [hk]) hd (k he H locs ls h1 h2 h3 h4)
theorem z_getH (i f : Nat) (C : zC X own cc nL rf rl) (hd : decode cc pc = .ok (.getfield ix, 3)) (hc : cs[i]? = some (c, q, σ)) (h6 : c < 6) (hf : f < znF c) (hk : zfk c f = 1) (hw : Cond.fieldLink own ix (zTn c f).1 (zTn c f).2.1 (zTn c f).2.2.1 ∈ zTb)
    (k : zJ X nL res e (pc + 3) lv (.long (zH σ) :: st) cs) : zJ X nL res e pc lv (.ref (q 0) :: st) cs := by
  obtain ⟨p, l, ee, R, s, m, args, below, meth, cd, D, kA, A, Q, nc, ns⟩ := X
  obtain ⟨hx, hb, hml, hown, hts, hK, hA, hlk, hR⟩ := C
  intro he H locs ls h1 h2 h3 h4
  obtain ⟨pos, hp, -⟩ := zgw_at (kA := kA) hc (k := 0) (Nat.zero_le _)
  rw [zce_0] at hp
  exact va_get hx hb hts (zk_w h6) hown hK h1 pos hp (zcl_at h6) f hf (hts _ hw) (fun _ h9 => h9) (v := .long (zH σ)) (by rw [List.getElem?_map, List.getElem?_range hf]; show some (zfv c q σ f) = _; unfold zfv; rw [hk]) hd (k he H locs ls h1 h2 h3 h4)
theorem z_getR (i f n : Nat) (C : zC X own cc nL rf rl) (hd : decode cc pc = .ok (.getfield ix, 3)) (hc : cs[i]? = some (c, q, σ)) (h6 : c < 6) (hf : f < znF c) (hk : zfk c f = n + 2) (hw : Cond.fieldLink own ix (zTn c f).1 (zTn c f).2.1 (zTn c f).2.2.1 ∈ zTb)
    (k : zJ X nL res e (pc + 3) lv (.ref (q n) :: st) cs) : zJ X nL res e pc lv (.ref (q 0) :: st) cs := by
  obtain ⟨p, l, ee, R, s, m, args, below, meth, cd, D, kA, A, Q, nc, ns⟩ := X
  obtain ⟨hx, hb, hml, hown, hts, hK, hA, hlk, hR⟩ := C
  intro he H locs ls h1 h2 h3 h4
  obtain ⟨pos, hp, -⟩ := zgw_at (kA := kA) hc (k := 0) (Nat.zero_le _)
  rw [zce_0] at hp
  exact va_get hx hb hts (zk_w h6) hown hK h1 pos hp (zcl_at h6) f hf (hts _ hw) (fun _ h9 => h9) (v := .ref (q n)) (by rw [List.getElem?_map, List.getElem?_range hf]; show some (zfv c q σ f) = _; unfold zfv; rw [hk]) hd (k he H locs ls h1 h2 h3 h4)
theorem z_putI (i f : Nat) {v : Int32} (C : zC X own cc nL rf rl) (hd : decode cc pc = .ok (.putfield ix, 3)) (hc : cs[i]? = some (c, q, σ)) (h6 : c < 6) (hf : f < znF c) (hk : zfk c f = 0) (hw : Cond.fieldLink own ix (zTn c f).1 (zTn c f).2.1 (zTn c f).2.2.1 ∈ zTb)
    (hfin : (zTn c f).2.2.2 = false) (hn : narrow (zTy c f) (.int v) = .int v) (hfit : fits (zTy c f) (.int v) = true) (cs' : List zCm) (hcs : cs.set i (c, q, zsF σ f v) = cs')
    (k : zJ X nL res e (pc + 3) lv st cs') : zJ X nL res e pc lv (.int v :: .ref (q 0) :: st) cs := by
  obtain ⟨p, l, ee, R, s, m, args, below, meth, cd, D, kA, A, Q, nc, ns⟩ := X
  obtain ⟨hx, hb, hml, hown, hts, hK, hA, hlk, hR⟩ := C
  intro he H locs ls h1 h2 h3 h4
  obtain ⟨pos, hp, hset⟩ := zgw_at (kA := kA) hc (k := 0) (Nat.zero_le _)
  have h9 := hset q (zsF σ f v) (fun _ _ => rfl) (fun j _ hj => zce_sF hj)
  rw [zce_0] at hp h9
  rw [← zfl_F hf hk, hcs] at h9
  refine va_put hx hb hts (zk_w h6) (zTy c) (zk_ty h6) (zk_nm h6) hown hK h1 h2 h3 pos hp (zcl_at h6) f hf (hts _ hw) (fun _ h9 => h9) hfin (zk_ty h6 f hf) hn hfit (by simp [hf]) hd (fun H1 locs1 g1 g2 g3 => ?_)
  rw [h9] at g1 g2
  exact k he H1 locs1 ls g1 g2 g3 h4
theorem z_putH (i f : Nat) {v : Int64} (C : zC X own cc nL rf rl) (hd : decode cc pc = .ok (.putfield ix, 3)) (hc : cs[i]? = some (c, q, σ)) (h6 : c < 6) (hf : f < znF c) (hk : zfk c f = 1) (hu : ∀ j, j < znF c → j ≠ f → zfk c j ≠ 1) (hw : Cond.fieldLink own ix (zTn c f).1 (zTn c f).2.1 (zTn c f).2.2.1 ∈ zTb)
    (hfin : (zTn c f).2.2.2 = false) (hn : narrow (zTy c f) (.long v) = .long v) (hfit : fits (zTy c f) (.long v) = true) (cs' : List zCm) (hcs : cs.set i (c, q, zsH σ v) = cs')
    (k : zJ X nL res e (pc + 3) lv st cs') : zJ X nL res e pc lv (.long v :: .ref (q 0) :: st) cs := by
  obtain ⟨p, l, ee, R, s, m, args, below, meth, cd, D, kA, A, Q, nc, ns⟩ := X
  obtain ⟨hx, hb, hml, hown, hts, hK, hA, hlk, hR⟩ := C
  intro he H locs ls h1 h2 h3 h4
  obtain ⟨pos, hp, hset⟩ := zgw_at (kA := kA) hc (k := 0) (Nat.zero_le _)
  have h9 := hset q (zsH σ v) (fun _ _ => rfl) (fun j _ hj => zce_sH hj)
  rw [zce_0] at hp h9
  rw [← zfl_H hf hk hu, hcs] at h9
  refine va_put hx hb hts (zk_w h6) (zTy c) (zk_ty h6) (zk_nm h6) hown hK h1 h2 h3 pos hp (zcl_at h6) f hf (hts _ hw) (fun _ h9 => h9) hfin (zk_ty h6 f hf) hn hfit (by simp [hf]) hd (fun H1 locs1 g1 g2 g3 => ?_)
  rw [h9] at g1 g2
  exact k he H1 locs1 ls g1 g2 g3 h4
theorem zchk_some {j : Int32} {n : Nat} (he : zchk j n e = some res) : e = some res ∧ vp_in j n := by
  unfold zchk at he
  by_cases h : j < 0 ∨ n ≤ j.toNatClampNeg
  · rw [if_pos h] at he; cases he
  · rw [if_neg h] at he; exact ⟨he, h⟩
theorem z_iald (i : Nat) {a n : Nat} {j : Int32} (C : zC X own cc nL rf rl) (hd : decode cc pc = .ok (.iaload, 1)) (hc : cs[i]? = some (c, q, σ)) (ha : zAr c a 0 n)
    (k : zJ X nL res e (pc + 1) lv (.int (zI σ a j.toNatClampNeg) :: st) cs) : zJ X nL res (zchk j n e) pc lv (.int j :: .ref (q a) :: st) cs := by
  obtain ⟨p, l, ee, R, s, m, args, below, meth, cd, D, kA, A, Q, nc, ns⟩ := X
  obtain ⟨hx, hb, hml, hown, hts, hK, hA, hlk, hR⟩ := C
  intro he H locs ls h1 h2 h3 h4
  obtain ⟨he, hin⟩ := zchk_some he
  obtain ⟨pos, hp, -⟩ := zgw_at (kA := kA) hc (k := a) ha.1.2
  rw [zce_i ha] at hp
  exact va_iald hx hb hK h1 pos 0 hp rfl hin hd (k he H locs ls h1 h2 h3 h4)
theorem z_bald (i : Nat) {a n : Nat} {j : Int32} (C : zC X own cc nL rf rl) (hd : decode cc pc = .ok (.baload, 1)) (hc : cs[i]? = some (c, q, σ)) (ha : zAr c a 2 n)
    (k : zJ X nL res e (pc + 1) lv (.int (zI σ a j.toNatClampNeg) :: st) cs) : zJ X nL res (zchk j n e) pc lv (.int j :: .ref (q a) :: st) cs := by
  obtain ⟨p, l, ee, R, s, m, args, below, meth, cd, D, kA, A, Q, nc, ns⟩ := X
  obtain ⟨hx, hb, hml, hown, hts, hK, hA, hlk, hR⟩ := C
  intro he H locs ls h1 h2 h3 h4
  obtain ⟨he, hin⟩ := zchk_some he
  obtain ⟨pos, hp, -⟩ := zgw_at (kA := kA) hc (k := a) ha.1.2
  rw [zce_b ha] at hp
  exact va_bald hx hb hK h1 pos 2 hp rfl hin hd (k he H locs ls h1 h2 h3 h4)
theorem z_lald (i : Nat) {a n : Nat} {j : Int32} (C : zC X own cc nL rf rl) (hd : decode cc pc = .ok (.laload, 1)) (hc : cs[i]? = some (c, q, σ)) (ha : zAr c a 1 n)
    (k : zJ X nL res e (pc + 1) lv (.long (zL σ a j.toNatClampNeg) :: st) cs) : zJ X nL res (zchk j n e) pc lv (.int j :: .ref (q a) :: st) cs := by
  obtain ⟨p, l, ee, R, s, m, args, below, meth, cd, D, kA, A, Q, nc, ns⟩ := X
  obtain ⟨hx, hb, hml, hown, hts, hK, hA, hlk, hR⟩ := C
  intro he H locs ls h1 h2 h3 h4
  obtain ⟨he, hin⟩ := zchk_some he
  obtain ⟨pos, hp, -⟩ := zgw_at (kA := kA) hc (k := a) ha.1.2
  rw [zce_l ha] at hp
  exact va_lald hx hb hK h1 pos 1 hp rfl hin hd (k he H locs ls h1 h2 h3 h4)
theorem zrf_if {n : Nat} {j : Int32} {g : Nat → Nat} (h : vp_in j n) : va_rf (if j.toNatClampNeg < n then some (g j.toNatClampNeg) else none) = .ref (g j.toNatClampNeg) := by
  rw [if_pos (Nat.not_le.mp fun q => h (Or.inr q))]
  rfl
theorem z_aald (i : Nat) {a kd n : Nat} {j : Int32} (C : zC X own cc nL rf rl) (hd : decode cc pc = .ok (.aaload, 1)) (hc : cs[i]? = some (c, q, σ)) (ha : zAr c a kd n) (hkd : kd = 3 ∨ kd = 4 ∨ kd = 5)
    (k : zJ X nL res e (pc + 1) lv (.ref (q (zbs c + j.toNatClampNeg)) :: st) cs) : zJ X nL res (zchk j n e) pc lv (.int j :: .ref (q a) :: st) cs := by
  obtain ⟨p, l, ee, R, s, m, args, below, meth, cd, D, kA, A, Q, nc, ns⟩ := X
  obtain ⟨hx, hb, hml, hown, hts, hK, hA, hlk, hR⟩ := C
  intro he H locs ls h1 h2 h3 h4
  obtain ⟨he, hin⟩ := zchk_some he
  obtain ⟨pos, hp, -⟩ := zgw_at (kA := kA) hc (k := a) ha.1.2
  rw [zce_r ha (by omega)] at hp
  have kk := k he H locs ls h1 h2 h3 h4
  have hlt : j.toNatClampNeg < n := Nat.not_le.mp fun q => hin (Or.inr q)
  rw [← zrf_if (n := n) (g := fun x => q (zbs c + x)) hin] at kk
  rcases hkd with rfl | rfl | rfl
  · exact W.aald (v := va_rf (if j.toNatClampNeg < n then some (q (zbs c + j.toNatClampNeg)) else none)) (ty := .array .int) hx hb (h1 pos _ hp) ((hK.2 3 _ rfl).1 n (fun j => va_rf (if j < n then some (q (zbs c + j)) else none))) rfl (fun q => by cases q) (by show ¬ (j < 0 ∨ (arrV _ _ _).slots.size ≤ _); rw [arrV_size]; exact hin) (by show (arrV _ _ _).slots[_]? = _; rw [arrV_read _ _ hlt]) rfl rfl hd kk
  · exact W.aald (v := va_rf (if j.toNatClampNeg < n then some (q (zbs c + j.toNatClampNeg)) else none)) (ty := .array .long) hx hb (h1 pos _ hp) ((hK.2 4 _ rfl).1 n (fun j => va_rf (if j < n then some (q (zbs c + j)) else none))) rfl (fun q => by cases q) (by show ¬ (j < 0 ∨ (arrV _ _ _).slots.size ≤ _); rw [arrV_size]; exact hin) (by show (arrV _ _ _).slots[_]? = _; rw [arrV_read _ _ hlt]) rfl rfl hd kk
  · exact va_aldq hx hb hK h1 pos 5 hp rfl hin hd kk
theorem z_iast (i : Nat) {a n : Nat} {j v : Int32} (C : zC X own cc nL rf rl) (hd : decode cc pc = .ok (.iastore, 1)) (hc : cs[i]? = some (c, q, σ)) (ha : zAr c a 0 n) (cs' : List zCm) (hcs : cs.set i (c, q, zsI σ a (upd (zI σ a) j.toNatClampNeg v)) = cs')
    (k : zJ X nL res e (pc + 1) lv st cs') : zJ X nL res (zchk j n e) pc lv (.int v :: .int j :: .ref (q a) :: st) cs := by
  obtain ⟨p, l, ee, R, s, m, args, below, meth, cd, D, kA, A, Q, nc, ns⟩ := X
  obtain ⟨hx, hb, hml, hown, hts, hK, hA, hlk, hR⟩ := C
  intro he H locs ls h1 h2 h3 h4
  obtain ⟨he, hin⟩ := zchk_some he
  obtain ⟨pos, hp, hset⟩ := zgw_at (kA := kA) hc (k := a) ha.1.2
  have h9 := hset q (zsI σ a (upd (zI σ a) j.toNatClampNeg v)) (fun _ _ => rfl) (fun j _ hj => zce_sI hj)
  rw [zce_i ha] at hp h9
  rw [zI_e, hcs] at h9
  refine va_iast hx hb hK h1 h2 h3 pos 0 hp rfl hin hd (fun H1 locs1 g1 g2 g3 => ?_)
  rw [h9] at g1 g2
  exact k he H1 locs1 ls g1 g2 g3 h4
theorem z_bast (i : Nat) {a n : Nat} {j v : Int32} (C : zC X own cc nL rf rl) (hd : decode cc pc = .ok (.bastore, 1)) (hc : cs[i]? = some (c, q, σ)) (ha : zAr c a 2 n) (cs' : List zCm) (hcs : cs.set i (c, q, zsI σ a (upd (zI σ a) j.toNatClampNeg (vp_nar .byte v))) = cs')
    (k : zJ X nL res e (pc + 1) lv st cs') : zJ X nL res (zchk j n e) pc lv (.int v :: .int j :: .ref (q a) :: st) cs := by
  obtain ⟨p, l, ee, R, s, m, args, below, meth, cd, D, kA, A, Q, nc, ns⟩ := X
  obtain ⟨hx, hb, hml, hown, hts, hK, hA, hlk, hR⟩ := C
  intro he H locs ls h1 h2 h3 h4
  obtain ⟨he, hin⟩ := zchk_some he
  obtain ⟨pos, hp, hset⟩ := zgw_at (kA := kA) hc (k := a) ha.1.2
  have h9 := hset q (zsI σ a (upd (zI σ a) j.toNatClampNeg (vp_nar .byte v))) (fun _ _ => rfl) (fun j _ hj => zce_sI hj)
  rw [zce_b ha] at hp h9
  rw [zI_e, hcs] at h9
  refine va_bast hx hb hK h1 h2 h3 pos 2 hp rfl hin hd (fun H1 locs1 g1 g2 g3 => ?_)
  rw [h9] at g1 g2
  exact k he H1 locs1 ls g1 g2 g3 h4
theorem z_last (i : Nat) {a n : Nat} {j : Int32} {v : Int64} (C : zC X own cc nL rf rl) (hd : decode cc pc = .ok (.lastore, 1)) (hc : cs[i]? = some (c, q, σ)) (ha : zAr c a 1 n) (cs' : List zCm) (hcs : cs.set i (c, q, zsL σ a (vp_updL (zL σ a) j.toNatClampNeg v)) = cs')
    (k : zJ X nL res e (pc + 1) lv st cs') : zJ X nL res (zchk j n e) pc lv (.long v :: .int j :: .ref (q a) :: st) cs := by
  obtain ⟨p, l, ee, R, s, m, args, below, meth, cd, D, kA, A, Q, nc, ns⟩ := X
  obtain ⟨hx, hb, hml, hown, hts, hK, hA, hlk, hR⟩ := C
  intro he H locs ls h1 h2 h3 h4
  obtain ⟨he, hin⟩ := zchk_some he
  obtain ⟨pos, hp, hset⟩ := zgw_at (kA := kA) hc (k := a) ha.1.2
  have h9 := hset q (zsL σ a (vp_updL (zL σ a) j.toNatClampNeg v)) (fun _ _ => rfl) (fun j _ hj => zce_sL hj)
  rw [zce_l ha] at hp h9
  rw [zL_e, hcs] at h9
  refine va_last hx hb hK h1 h2 h3 pos 1 hp rfl hin hd (fun H1 locs1 g1 g2 g3 => ?_)
  rw [h9] at g1 g2
  exact k he H1 locs1 ls g1 g2 g3 h4
theorem z_alen (i kd : Nat) {a n : Nat} (v : Int32) (C : zC X own cc nL rf rl) (hd : decode cc pc = .ok (.arraylength, 1)) (hc : cs[i]? = some (c, q, σ)) (ha : zAr c a kd n) (hkd : kd = 0 ∨ kd = 1 ∨ kd = 2) (hv : Int32.ofNat n = v)
    (k : zJ X nL res e (pc + 1) lv (.int v :: st) cs) : zJ X nL res e pc lv (.ref (q a) :: st) cs := by
  obtain ⟨p, l, ee, R, s, m, args, below, meth, cd, D, kA, A, Q, nc, ns⟩ := X
  obtain ⟨hx, hb, hml, hown, hts, hK, hA, hlk, hR⟩ := C
  intro he H locs ls h1 h2 h3 h4
  obtain ⟨pos, hp, -⟩ := zgw_at (kA := kA) hc (k := a) ha.1.2
  rcases hkd with rfl | rfl | rfl
  · rw [zce_i ha] at hp
    exact va_alen hx hb hK h1 pos 0 hp rfl hv hd (k he H locs ls h1 h2 h3 h4)
  · rw [zce_l ha] at hp
    exact va_alen hx hb hK h1 pos 1 hp rfl hv hd (k he H locs ls h1 h2 h3 h4)
  · rw [zce_b ha] at hp
    exact va_alen hx hb hK h1 pos 2 hp rfl hv hd (k he H locs ls h1 h2 h3 h4)
end ZH
