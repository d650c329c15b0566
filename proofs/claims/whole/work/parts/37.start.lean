/-! the law from its entry: objects are made, then its loop -/
theorem dL_law_0 : decode cL_law 0 = .ok (.new 7, 3) := by decide +kernel
theorem dL_law_3 : decode cL_law 3 = .ok (.dup, 1) := by decide +kernel
theorem dL_law_4 : decode cL_law 4 = .ok (.invokespecial 9, 3) := by decide +kernel
theorem dL_law_7 : decode cL_law 7 = .ok (.astore_n 1, 1) := by decide +kernel
theorem dL_law_8 : decode cL_law 8 = .ok (.new 10, 3) := by decide +kernel
theorem dL_law_11 : decode cL_law 11 = .ok (.dup, 1) := by decide +kernel
theorem dL_law_12 : decode cL_law 12 = .ok (.invokespecial 12, 3) := by decide +kernel
theorem dL_law_15 : decode cL_law 15 = .ok (.astore_n 2, 1) := by decide +kernel
theorem zs_89 : Jvm.Cond.classLink "DrawnGatesLaw" 7 "DrawnGates" ∈ zTb := zk_in 89 (by decide +kernel) (by decide +kernel)
theorem zs_90 : Jvm.Cond.instantiable "DrawnGates" 9 ∈ zTb := zk_in 90 (by decide +kernel) (by decide +kernel)
theorem zs_705 : Jvm.Cond.classLink "DrawnGatesLaw" 10 "DrawnGatesModel" ∈ zTb := zk_in 709 (by decide +kernel) (by decide +kernel)
theorem zs_706 : Jvm.Cond.instantiable "DrawnGatesModel" 26 ∈ zTb := zk_in 710 (by decide +kernel) (by decide +kernel)
theorem zs_98 : Jvm.Cond.instantiable "DrawnGates$Plan" 5 ∈ lw_tbl := List.mem_of_getElem? (i := 104) (by decide +kernel)
theorem zs_131 : Jvm.Cond.instantiable "DrawnGates$Layout" 16 ∈ lw_tbl := List.mem_of_getElem? (i := 136) (by decide +kernel)
theorem zs_197 : Jvm.Cond.instantiable "DrawnGates$Matching" 10 ∈ lw_tbl := List.mem_of_getElem? (i := 98) (by decide +kernel)
theorem zs_240 : Jvm.Cond.instantiable "DrawnGates$Text" 3 ∈ lw_tbl := List.mem_of_getElem? (i := 244) (by decide +kernel)
theorem zs_127 : Jvm.Cond.arrayClass .long ∈ lw_tbl := List.mem_of_getElem? (i := 133) (by decide +kernel)
theorem zs_128 : Jvm.Cond.arrayClass .int ∈ lw_tbl := List.mem_of_getElem? (i := 134) (by decide +kernel)
theorem zs_256 : Jvm.Cond.arrayClass .byte ∈ lw_tbl := List.mem_of_getElem? (i := 260) (by decide +kernel)
theorem zs_129 : Jvm.Cond.arrayOver (.object "DrawnGates$Plan") ∈ lw_tbl := List.mem_of_getElem? (i := 242) (by decide +kernel)
theorem zs_137 : Jvm.Cond.arrayOver (.array .long) ∈ lw_tbl := List.mem_of_getElem? (i := 142) (by decide +kernel)
theorem zs_203 : Jvm.Cond.arrayOver (.array .int) ∈ lw_tbl := List.mem_of_getElem? (i := 202) (by decide +kernel)
theorem zn_1 : Jvm.Cond.methodLinkNest RX4 11 yX1_init RX4 ∈ lw_tbl := List.mem_of_getElem? (i := 99) (by decide +kernel)
theorem zn_2 : Jvm.Cond.methodLinkNest RX4 30 yX2_init RX4 ∈ lw_tbl := List.mem_of_getElem? (i := 241) (by decide +kernel)
theorem zn_3 : Jvm.Cond.methodLinkNest RX4 40 yX3_init RX4 ∈ lw_tbl := List.mem_of_getElem? (i := 245) (by decide +kernel)
theorem zn_4 : Jvm.Cond.methodLinkNest RX1 11 yX2_init RX4 ∈ lw_tbl := List.mem_of_getElem? (i := 105) (by decide +kernel)
theorem zn_5 : Jvm.Cond.methodLinkNest RX1 20 yX0_init RX4 ∈ lw_tbl := List.mem_of_getElem? (i := 137) (by decide +kernel)
theorem zs_300 : Jvm.Cond.methodLinkNest RX2 35 yX4_isWithin RX4 ∈ lw_tbl := List.mem_of_getElem? (i := 304) (by decide +kernel)
theorem zs_306 : Jvm.Cond.methodLinkNest RX2 63 yX4_isCell RX4 ∈ lw_tbl := List.mem_of_getElem? (i := 310) (by decide +kernel)
theorem zs_355 : Jvm.Cond.methodLinkNest RX2 59 yX4_cellBit RX4 ∈ lw_tbl := List.mem_of_getElem? (i := 359) (by decide +kernel)
theorem zs_478 : Jvm.Cond.methodLinkNest RX0 131 yX4_isWithin RX4 ∈ lw_tbl := List.mem_of_getElem? (i := 482) (by decide +kernel)
theorem zac {s : State} {args : Array Value} {t : FieldType} (h : (Cond.arrayClass t).before args s = true) : ∃ c : ClassId, ArrOfT s c t ∧ s.vm.findClass ("[" ++ t.toString) = some c := by
  obtain ⟨c, k, comp, h1, h2, h3⟩ := Cond.arrayClass_spec h
  exact ⟨c, fun N z => ⟨(fun q hq => by cases hq), k, h2, comp, h3⟩, h1⟩
theorem zaa {s : State} {t : FieldType} (h : va_AOA t s) : ∃ c : ClassId, ArrOfT s c (.array t) ∧ s.vm.findClass ("[" ++ (FieldType.array t).toString) = some c := by
  obtain ⟨comp, c, k, h1, h2, h3, h4, h5⟩ := zAA_spec h
  exact ⟨c, fun N z => ⟨(fun q hq => by cases hq), k, h3, comp, h4⟩, h5⟩
theorem zao {s : State} {C : String} (h : va_AO C s) : ∃ c : ClassId, ArrOfT s c (.object C) ∧ va_RA s c (.object C) := by
  obtain ⟨comp, c, k, h1, h2, h3, h4, h5⟩ := Cond.arrayOver_spec h
  exact ⟨c, fun N z => ⟨(fun q hq => by cases hq), k, h3, comp, h4⟩, k, comp, h3, h4, h1, h5⟩
set_option maxHeartbeats 4000000 in
set_option maxRecDepth 100000 in
/-- the law comes to its end with 1, if its loop as a function answers 1 -/
theorem whole_open {FF : Nat} (hpure : ∀ (L : Nat) (xs : Nat → Int32), L ≤ 3072 → fL_law FF L xs zZ zZ zZ zZ zZ zZ (0, fun _ => zZ) zZ = some 1) {p : Program} {e : Env} {s : State} {m : MethodId} {below : List Frame} {meth : Method} {c : Code} (l : Launch) {b L : Nat} {xs : Nat → Int32} (hL : L ≤ 3072) (C0 : lw_At p s m meth c b L xs) : W p l e room_1 s m #[Value.ref b] below meth c s.heap [] 0 0 (lw_Z below #[Value.ref b] s) (entryFrame m ([Value.ref b] : List Value).toArray 4) := by
  obtain ⟨hx, hb, hr, hml, hown, hts, hX, hbl, hlocks, hgv⟩ := id C0
  have hts2 : ∀ w ∈ zTb, w.before #[Value.ref b] s = true := fun w hw => hts w (List.mem_filter.mp hw).1
  obtain ⟨c0, i0, k0⟩ := u_known (C := RX0) (T := TX0) (N := 16) (n := 16) hts2 zk_w0 (hts _ zs_131)
  obtain ⟨c1, i1, k1⟩ := u_known (C := RX1) (T := TX1) (N := 10) (n := 10) hts2 zk_w1 (hts _ zs_197)
  obtain ⟨c2, i2, k2⟩ := u_known (C := RX2) (T := TX2) (N := 5) (n := 5) hts2 zk_w2 (hts _ zs_98)
  obtain ⟨c3, i3, k3⟩ := u_known (C := RX3) (T := TX3) (N := 3) (n := 3) hts2 zk_w3 (hts _ zs_240)
  obtain ⟨c4, i4, k4⟩ := u_known (C := RX4) (T := TX4) (N := 9) (n := 9) hts2 zk_w4 (hts2 _ zs_90)
  obtain ⟨c5, i5, k5⟩ := u_known (C := RX5) (T := TX5) (N := 26) (n := 26) hts2 zk_w5 (hts2 _ zs_706)
  obtain ⟨dC, dI, hKc⟩ : ∃ (dC : Nat → ClassId) (dI : Nat → Nat → Nat), ∀ (k : Nat) (q : vw_C), zcl[k]? = some q → u_Kn s q.1 q.2.1 q.2.2 (dC k) (dI k) := by
    refine ⟨fun k => match k with | 0 => c0 | 1 => c1 | 2 => c2 | 3 => c3 | 4 => c4 | _ => c5, fun k => match k with | 0 => i0 | 1 => i1 | 2 => i2 | 3 => i3 | 4 => i4 | _ => i5, ?_⟩
    intro k q hq
    match k, hq with
    | 0, hq => cases hq; exact k0
    | 1, hq => cases hq; exact k1
    | 2, hq => cases hq; exact k2
    | 3, hq => cases hq; exact k3
    | 4, hq => cases hq; exact k4
    | 5, hq => cases hq; exact k5
    | k + 6, hq => simp [zcl] at hq
  have hAO : va_AO RX2 s := va_AO.of (hts _ zs_129)
  have hAL : va_AOA .long s := hts _ zs_137
  have hAI : va_AOA .int s := hts _ zs_203
  obtain ⟨a0, f0, g0⟩ := zac (hts _ zs_128)
  obtain ⟨a1, f1, g1⟩ := zac (hts _ zs_127)
  obtain ⟨a2, f2, g2⟩ := zac (hts _ zs_256)
  obtain ⟨a3, f3, g3⟩ := zaa hAI
  obtain ⟨a4, f4, g4⟩ := zaa hAL
  obtain ⟨a5, f5, g5⟩ := zao hAO
  obtain ⟨kA, hkA⟩ : ∃ kA : Nat → ClassId, kA = fun k => match k with | 0 => a0 | 1 => a1 | 2 => a2 | 3 => a3 | 4 => a4 | _ => a5 := ⟨_, rfl⟩
  have hK : va_K (dC, dI) zcl (zty kA) s := by
    refine ⟨hKc, fun k q hq => ?_⟩
    subst hkA
    match k, hq with
    | 0, hq => cases hq; exact ⟨f0, g0⟩
    | 1, hq => cases hq; exact ⟨f1, g1⟩
    | 2, hq => cases hq; exact ⟨f2, g2⟩
    | 3, hq => cases hq; exact ⟨f3, g3⟩
    | 4, hq => cases hq; exact ⟨f4, g4⟩
    | 5, hq => cases hq; exact ⟨f5, g5⟩
    | k + 6, hq => simp [zty] at hq
  have hNw : zNw s := ⟨va_Nw.of rfl (hts _ zs_300), va_Nw.of rfl (hts _ zs_306), va_Nw.of rfl (hts _ zs_355), va_Nw.of rfl (hts _ zs_478)⟩
  have hNi : zNi s := ⟨va_Nw.of rfl (hts _ zn_1), va_Nw.of rfl (hts _ zn_2), va_Nw.of rfl (hts _ zn_3), va_Nw.of rfl (hts _ zn_4), va_Nw.of rfl (hts _ zn_5), hAO, hAL, hAI⟩
  have hA : ∀ q : Nat, s.heap.size ≤ q → (fun q : Nat => s.heap.size ≤ q) q := fun _ h => h
  have hl := lv_entry ([.ref b]) (n := 4) (Nat.le_of_ble_eq_true rfl)
  rw [lg_entry_eq]
  have key : ∀ X : zCx, X = (p, l, e, room_1, s, m, #[Value.ref b], below, meth, c, (dC, dI), kA, (fun q : Nat => s.heap.size ≤ q), lw_Z below #[Value.ref b] s, 0, 0) → zCV X R_law code 4 room_1 → zV X 4 0 [(0, .ref b)] [] [] [] 0 0 := by
    intro X hXe C
    refine v_new (pc := 0) (xc := 0) (xs := 0) 4 9 [.null, .null, .null, .null, .null, .null, .null, .int 0, .int 0] C dL_law_0 (by decide) rfl zs_89 zs_90 zw_77 (fun j hj => by rcases (show j = 0 ∨ j = 1 ∨ j = 2 ∨ j = 3 ∨ j = 4 ∨ j = 5 ∨ j = 6 ∨ j = 7 ∨ j = 8 by omega) with rfl | rfl | rfl | rfl | rfl | rfl | rfl | rfl | rfl <;> rfl) (Nat.le_of_ble_eq_true rfl) (Nat.le_of_ble_eq_true rfl) (fun h => [(h, .inr (4, [.null, .null, .null, .null, .null, .null, .null, .int 0, .int 0]))]) (fun _ => rfl) (fun h => ?_)
    refine v_dup (pc := 3) (xc := 1) (xs := 9) rfl C dL_law_3 ?_
    refine v_callI (n := 0) (rm' := rmX4_init) (h := h) (pc := 4) (xc := 1) (xs := 9) [] [.ref h] [] C dL_law_4 mX4_init zw_93 zw_77 zw_92 rfl (Or.inl zw_91) (by decide +kernel) rfl ⟨Nat.le_of_ble_eq_true rfl, Nat.le_of_ble_eq_true rfl⟩ ⟨Nat.le_of_ble_eq_true rfl, Nat.le_of_ble_eq_true rfl⟩ rfl (Nat.le_of_ble_eq_true rfl) rfl (fun cs1 hp1 => ?_)
    obtain ⟨qX, qT, qM, qL, qP, qB, aa, e0, ⟨e1, e2, e3, e4, e5, e6, e7⟩, rfl⟩ := hp1
    subst e0
    show zV X 4 7 [(0, .ref b)] [.ref (qX 0)] [] (zNew qX qT qM qL qP qB aa) 69 1622
    refine v_astore_n (pc := 7) (xc := 69) (xs := 1622) [(0, .ref b), (1, .ref (qX 0))] [1, 0] (by decide) rfl rfl C dL_law_7 ?_
    refine v_new (pc := 8) (xc := 69) (xs := 1622) 5 26 [.null, .null, .null, .int 0, .null, .int 0, .null, .int 0, .int 0, .null, .int 0, .null, .int 0, .null, .int 0, .null, .null, .null, .null, .int 0, .int 0, .int 0, .int 0, .null, .null, .long 0] C dL_law_8 (by decide) rfl zs_705 zs_706 zw_82 (fun j hj => by rcases (show j = 0 ∨ j = 1 ∨ j = 2 ∨ j = 3 ∨ j = 4 ∨ j = 5 ∨ j = 6 ∨ j = 7 ∨ j = 8 ∨ j = 9 ∨ j = 10 ∨ j = 11 ∨ j = 12 ∨ j = 13 ∨ j = 14 ∨ j = 15 ∨ j = 16 ∨ j = 17 ∨ j = 18 ∨ j = 19 ∨ j = 20 ∨ j = 21 ∨ j = 22 ∨ j = 23 ∨ j = 24 ∨ j = 25 by omega) with rfl | rfl | rfl | rfl | rfl | rfl | rfl | rfl | rfl | rfl | rfl | rfl | rfl | rfl | rfl | rfl | rfl | rfl | rfl | rfl | rfl | rfl | rfl | rfl | rfl | rfl <;> rfl) (Nat.le_of_ble_eq_true rfl) (Nat.le_of_ble_eq_true rfl) (fun h => [(h, .inr (5, [.null, .null, .null, .int 0, .null, .int 0, .null, .int 0, .int 0, .null, .int 0, .null, .int 0, .null, .int 0, .null, .null, .null, .null, .int 0, .int 0, .int 0, .int 0, .null, .null, .long 0]))]) (fun _ => rfl) (fun h2 => ?_)
    refine v_dup (pc := 11) (xc := 70) (xs := 1648) rfl C dL_law_11 ?_
    refine v_callI (n := 0) (rm' := rmX5_init) (h := h2) (pc := 12) (xc := 70) (xs := 1648) [] [.ref h2] [] C dL_law_12 mX5_init zw_713 zw_82 zw_712 rfl (Or.inl zw_711) (by decide +kernel) rfl ⟨Nat.le_of_ble_eq_true rfl, Nat.le_of_ble_eq_true rfl⟩ ⟨Nat.le_of_ble_eq_true rfl, Nat.le_of_ble_eq_true rfl⟩ rfl (Nat.le_of_ble_eq_true rfl) rfl (fun cs2 hp2 => ?_)
    obtain ⟨qD, e8, rfl⟩ := hp2
    subst e8
    show zV X 4 15 [(0, .ref b), (1, .ref (qX 0))] [.ref (qD 0)] [] (zNew qX qT qM qL qP qB aa ++ [(5, qD, zZ)]) 84 3336
    refine v_astore_n (pc := 15) (xc := 84) (xs := 3336) [(0, .ref b), (1, .ref (qX 0)), (2, .ref (qD 0))] [1, 2, 0] (by decide) rfl rfl C dL_law_15 ?_
    subst hXe
    intro H locs ls h1 h2 h3 h4
    exact wL_law (X := (p, l, e, room_1, s, m, #[Value.ref b], below, meth, c, (dC, dI), kA, (fun q : Nat => s.heap.size ≤ q), lw_Z below #[Value.ref b] s, 84, 3336)) (F := FF) (xs := xs) (sSS := (0, fun _ => zZ)) (aa := aa) ⟨hx, hb, hml, hown, hts2, hK, hA, hlocks, ⟨Nat.le_of_ble_eq_true rfl, Nat.le_of_ble_eq_true rfl, Nat.le_of_ble_eq_true rfl, Nat.le_of_ble_eq_true rfl⟩, hNw⟩ ⟨⟨rfl, rfl, rfl⟩, rfl, hX, hbl, hr, Nat.le_of_ble_eq_true rfl, Nat.le_of_ble_eq_true rfl⟩ e1 e2 e3 e4 e5 e6 e7 (hpure L xs hL) H locs ls h1 h2 h3 h4
  exact key _ rfl ⟨hx, hb, hml, hown, hts2, hK, hA, hlocks, rfl, hNw, hNi⟩ s.heap [] _ (fun k q hk => by simp [zgw] at hk) (by rw [zD_iff]; simp [zgw]) va_S.rf hl
