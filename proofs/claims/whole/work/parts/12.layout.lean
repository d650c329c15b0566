theorem dX0_nodeWith_0 : decode cX0_nodeWith 0 = .ok (.iconst 0, 1) := by decide +kernel
theorem dX0_nodeWith_1 : decode cX0_nodeWith 1 = .ok (.istore 4, 2) := by decide +kernel
theorem dX0_nodeWith_3 : decode cX0_nodeWith 3 = .ok (.iload 4, 2) := by decide +kernel
theorem dX0_nodeWith_5 : decode cX0_nodeWith 5 = .ok (.aload_n 0, 1) := by decide +kernel
theorem dX0_nodeWith_6 : decode cX0_nodeWith 6 = .ok (.getfield 55, 3) := by decide +kernel
theorem dX0_nodeWith_9 : decode cX0_nodeWith 9 = .ok (.if_icmp .ge 28, 3) := by decide +kernel
theorem dX0_nodeWith_12 : decode cX0_nodeWith 12 = .ok (.aload_n 0, 1) := by decide +kernel
theorem dX0_nodeWith_13 : decode cX0_nodeWith 13 = .ok (.getfield 30, 3) := by decide +kernel
theorem dX0_nodeWith_16 : decode cX0_nodeWith 16 = .ok (.iload_n 1, 1) := by decide +kernel
theorem dX0_nodeWith_17 : decode cX0_nodeWith 17 = .ok (.aaload, 1) := by decide +kernel
theorem dX0_nodeWith_18 : decode cX0_nodeWith 18 = .ok (.iload 4, 2) := by decide +kernel
theorem dX0_nodeWith_20 : decode cX0_nodeWith 20 = .ok (.laload, 1) := by decide +kernel
theorem dX0_nodeWith_21 : decode cX0_nodeWith 21 = .ok (.lload_n 2, 1) := by decide +kernel
theorem dX0_nodeWith_22 : decode cX0_nodeWith 22 = .ok (.land, 1) := by decide +kernel
theorem dX0_nodeWith_23 : decode cX0_nodeWith 23 = .ok (.lconst 0, 1) := by decide +kernel
theorem dX0_nodeWith_24 : decode cX0_nodeWith 24 = .ok (.lcmp, 1) := by decide +kernel
theorem dX0_nodeWith_25 : decode cX0_nodeWith 25 = .ok (.ifCond .eq 6, 3) := by decide +kernel
theorem dX0_nodeWith_28 : decode cX0_nodeWith 28 = .ok (.iload 4, 2) := by decide +kernel
theorem dX0_nodeWith_30 : decode cX0_nodeWith 30 = .ok (.ireturn, 1) := by decide +kernel
theorem dX0_nodeWith_31 : decode cX0_nodeWith 31 = .ok (.iinc 4 1, 3) := by decide +kernel
theorem dX0_nodeWith_34 : decode cX0_nodeWith 34 = .ok (.goto (-31), 3) := by decide +kernel
theorem dX0_nodeWith_37 : decode cX0_nodeWith 37 = .ok (.iconst (-1), 1) := by decide +kernel
theorem dX0_nodeWith_38 : decode cX0_nodeWith 38 = .ok (.ireturn, 1) := by decide +kernel
def bX0_nodeWith_3 (F : Nat) (x1 : Int32) (x2 : Int64) (sL : zOS) (kc_3 : Int32 → Option (Int32)) (x4 : Int32) : Option (Int32) := (if (zF sL 13) ≤ x4 then (some ((-1 : Int32))) else (zchk x1 3 (zchk x4 96 (if (lg_cmp ((zL sL (zbs 0 + x1.toNatClampNeg) x4.toNatClampNeg) &&& x2) (0 : Int64)) = 0 then (kc_3 (x4 + 1)) else (some (x4))))))
set_option maxRecDepth 20000 in
theorem vX0_nodeWith_3 {X : zCx} {res : Int32} {F : Nat} {qL : Nat → Nat} {sL : zOS} {x1 : Int32} {x2 : Int64} {kc_3 : Int32 → Option (Int32)} (C : zC X RX0 cX0_nodeWith 5 0 0) (hR : zR X (some .int) (some (.int res)) [(0, qL, sL)]) (hk_3 : ∀ (y4 : Int32), zJ X 5 res (kc_3 y4) 3 [(0, (.ref (qL 0))), (1, (.int x1)), (2, (.long x2)), (4, (.int y4))] [] [(0, qL, sL)]) (x4 : Int32) : zJ X 5 res (bX0_nodeWith_3 F x1 x2 sL kc_3 x4) 3 [(0, (.ref (qL 0))), (1, (.int x1)), (2, (.long x2)), (4, (.int x4))] [] [(0, qL, sL)] := by
  unfold bX0_nodeWith_3
  refine z_iload (pc := 3) 3 rfl C dX0_nodeWith_3 ?_
  refine z_aload_n (pc := 5) 0 rfl rfl C dX0_nodeWith_5 ?_
  refine z_getI (pc := 6) 0 13 C dX0_nodeWith_6 rfl (by decide) (by decide) rfl zw_160 ?_
  refine z_icmp_ge (pc := 9) 37 C dX0_nodeWith_9 (by decide) ?_ ?_
  · refine z_iconst (pc := 37) (-1 : Int32) (by decide) C dX0_nodeWith_37 ?_
    exact z_ireturn (pc := 38) C hR dX0_nodeWith_38 (fun h => by subst h; exact ⟨rfl, rfl⟩)
  · refine z_aload_n (pc := 12) 0 rfl rfl C dX0_nodeWith_12 ?_
    refine z_getR (pc := 13) 0 5 6 C dX0_nodeWith_13 rfl (by decide) (by decide) rfl zw_148 ?_
    refine z_iload_n (pc := 16) 1 rfl rfl C dX0_nodeWith_16 ?_
    refine z_aal (kd := 4) (pc := 17) 0 C dX0_nodeWith_17 rfl (by unfold zAr; decide) (by decide) (fun hi_1 => ?_)
    refine z_iload (pc := 18) 3 rfl C dX0_nodeWith_18 ?_
    refine z_lald (pc := 20) 0 C dX0_nodeWith_20 rfl (zAr_w hi_1) ?_
    refine z_lload_n (pc := 21) 2 rfl rfl C dX0_nodeWith_21 ?_
    refine z_land (pc := 22) C dX0_nodeWith_22 ?_
    refine z_lconst (pc := 23) (0 : Int64) (by decide) C dX0_nodeWith_23 ?_
    refine z_lcmp (pc := 24) C dX0_nodeWith_24 ?_
    refine z_if_eq (pc := 25) 31 C dX0_nodeWith_25 (by decide) ?_ ?_
    · refine z_iinc (pc := 31) (x4 + 1) 3 rfl rfl [(0, (.ref (qL 0))), (1, (.int x1)), (2, (.long x2)), (4, (.int (x4 + 1)))] [1, 2, 3, 0] (by decide) rfl C dX0_nodeWith_31 ?_
      refine z_goto (pc := 34) 3 C dX0_nodeWith_34 (by decide) ?_
      exact hk_3 _
    · refine z_iload (pc := 28) 3 rfl C dX0_nodeWith_28 ?_
      exact z_ireturn (pc := 30) C hR dX0_nodeWith_30 (fun h => by subst h; exact ⟨rfl, rfl⟩)
def fX0_nodeWith (F : Nat) (x1 : Int32) (x2 : Int64) (sL : zOS) : Option (Int32) := (zit (P := Int32) (R := Int32) (fun kc9 p9 => bX0_nodeWith_3 F x1 x2 sL kc9 p9) F (0 : Int32))
set_option maxRecDepth 20000 in
theorem wX0_nodeWith {X : zCx} {res : Int32} {F : Nat} {qL : Nat → Nat} {x1 : Int32} {x2 : Int64} {sL : zOS} (C : zC X RX0 cX0_nodeWith 5 0 0) (hR : zR X (some .int) (some (.int res)) [(0, qL, sL)])  : zJ X 5 res (fX0_nodeWith F x1 x2 sL) 0 [(0, (.ref (qL 0))), (1, (.int x1)), (2, (.long x2))] [] [(0, qL, sL)] := by
  unfold fX0_nodeWith
  refine z_iconst (pc := 0) (0 : Int32) (by decide) C dX0_nodeWith_0 ?_
  refine z_istore (pc := 1) [(0, (.ref (qL 0))), (1, (.int x1)), (2, (.long x2)), (4, (.int (0 : Int32)))] [1, 2, 3, 0] (by decide) rfl C dX0_nodeWith_1 ?_
  show zJ X 5 res _ 3 [(0, (.ref (qL 0))), (1, (.int x1)), (2, (.long x2)), (4, (.int (0 : Int32)))] [] [(0, qL, sL)]
  exact zit_J (P := Int32) (B := (fun kc9 p9 => bX0_nodeWith_3 F x1 x2 sL kc9 p9)) (fun p9 => [(0, (.ref (qL 0))), (1, (.int x1)), (2, (.long x2)), (4, (.int p9))]) (fun p9 => [(0, qL, sL)]) (fun kc9 hk9 p9 => vX0_nodeWith_3 C hR   (fun a0 => hk9 a0) p9) F _
theorem mX0_nodeWith {F : Nat} {qL : Nat → Nat} {x1 : Int32} {x2 : Int64} {sL : zOS} {res : Int32}  (hf : fX0_nodeWith F x1 x2 sL = some res) : zM yX0_nodeWith cX0_nodeWith 5 (some .int) 0 0 [(.ref (qL 0)), (.int x1), (.long x2)] [(0, qL, sL)] (some (.int res)) [(0, qL, sL)] := zM_of (by decide +kernel) (Nat.le_of_ble_eq_true rfl) (fun X C hR => wX0_nodeWith (F := F) C hR  hf)
theorem dX0_gateWith_0 : decode cX0_gateWith 0 = .ok (.iconst 0, 1) := by decide +kernel
theorem dX0_gateWith_1 : decode cX0_gateWith 1 = .ok (.istore_n 3, 1) := by decide +kernel
theorem dX0_gateWith_2 : decode cX0_gateWith 2 = .ok (.iload_n 3, 1) := by decide +kernel
theorem dX0_gateWith_3 : decode cX0_gateWith 3 = .ok (.aload_n 0, 1) := by decide +kernel
theorem dX0_gateWith_4 : decode cX0_gateWith 4 = .ok (.getfield 58, 3) := by decide +kernel
theorem dX0_gateWith_7 : decode cX0_gateWith 7 = .ok (.if_icmp .ge 24, 3) := by decide +kernel
theorem dX0_gateWith_10 : decode cX0_gateWith 10 = .ok (.aload_n 0, 1) := by decide +kernel
theorem dX0_gateWith_11 : decode cX0_gateWith 11 = .ok (.getfield 36, 3) := by decide +kernel
theorem dX0_gateWith_14 : decode cX0_gateWith 14 = .ok (.iload_n 3, 1) := by decide +kernel
theorem dX0_gateWith_15 : decode cX0_gateWith 15 = .ok (.laload, 1) := by decide +kernel
theorem dX0_gateWith_16 : decode cX0_gateWith 16 = .ok (.lload_n 1, 1) := by decide +kernel
theorem dX0_gateWith_17 : decode cX0_gateWith 17 = .ok (.land, 1) := by decide +kernel
theorem dX0_gateWith_18 : decode cX0_gateWith 18 = .ok (.lconst 0, 1) := by decide +kernel
theorem dX0_gateWith_19 : decode cX0_gateWith 19 = .ok (.lcmp, 1) := by decide +kernel
theorem dX0_gateWith_20 : decode cX0_gateWith 20 = .ok (.ifCond .eq 5, 3) := by decide +kernel
theorem dX0_gateWith_23 : decode cX0_gateWith 23 = .ok (.iload_n 3, 1) := by decide +kernel
theorem dX0_gateWith_24 : decode cX0_gateWith 24 = .ok (.ireturn, 1) := by decide +kernel
theorem dX0_gateWith_25 : decode cX0_gateWith 25 = .ok (.iinc 3 1, 3) := by decide +kernel
theorem dX0_gateWith_28 : decode cX0_gateWith 28 = .ok (.goto (-26), 3) := by decide +kernel
theorem dX0_gateWith_31 : decode cX0_gateWith 31 = .ok (.iconst (-1), 1) := by decide +kernel
theorem dX0_gateWith_32 : decode cX0_gateWith 32 = .ok (.ireturn, 1) := by decide +kernel
def bX0_gateWith_2 (F : Nat) (x1 : Int64) (sL : zOS) (kc_2 : Int32 → Option (Int32)) (x3 : Int32) : Option (Int32) := (if (zF sL 14) ≤ x3 then (some ((-1 : Int32))) else (zchk x3 32 (if (lg_cmp ((zL sL 8 x3.toNatClampNeg) &&& x1) (0 : Int64)) = 0 then (kc_2 (x3 + 1)) else (some (x3)))))
set_option maxRecDepth 20000 in
theorem vX0_gateWith_2 {X : zCx} {res : Int32} {F : Nat} {qL : Nat → Nat} {sL : zOS} {x1 : Int64} {kc_2 : Int32 → Option (Int32)} (C : zC X RX0 cX0_gateWith 4 0 0) (hR : zR X (some .int) (some (.int res)) [(0, qL, sL)]) (hk_2 : ∀ (y3 : Int32), zJ X 4 res (kc_2 y3) 2 [(0, (.ref (qL 0))), (1, (.long x1)), (3, (.int y3))] [] [(0, qL, sL)]) (x3 : Int32) : zJ X 4 res (bX0_gateWith_2 F x1 sL kc_2 x3) 2 [(0, (.ref (qL 0))), (1, (.long x1)), (3, (.int x3))] [] [(0, qL, sL)] := by
  unfold bX0_gateWith_2
  refine z_iload_n (pc := 2) 2 rfl rfl C dX0_gateWith_2 ?_
  refine z_aload_n (pc := 3) 0 rfl rfl C dX0_gateWith_3 ?_
  refine z_getI (pc := 4) 0 14 C dX0_gateWith_4 rfl (by decide) (by decide) rfl zw_162 ?_
  refine z_icmp_ge (pc := 7) 31 C dX0_gateWith_7 (by decide) ?_ ?_
  · refine z_iconst (pc := 31) (-1 : Int32) (by decide) C dX0_gateWith_31 ?_
    exact z_ireturn (pc := 32) C hR dX0_gateWith_32 (fun h => by subst h; exact ⟨rfl, rfl⟩)
  · refine z_aload_n (pc := 10) 0 rfl rfl C dX0_gateWith_10 ?_
    refine z_getR (pc := 11) 0 7 8 C dX0_gateWith_11 rfl (by decide) (by decide) rfl zw_150 ?_
    refine z_iload_n (pc := 14) 2 rfl rfl C dX0_gateWith_14 ?_
    refine z_lald (pc := 15) 0 C dX0_gateWith_15 rfl (by unfold zAr; decide) ?_
    refine z_lload_n (pc := 16) 1 rfl rfl C dX0_gateWith_16 ?_
    refine z_land (pc := 17) C dX0_gateWith_17 ?_
    refine z_lconst (pc := 18) (0 : Int64) (by decide) C dX0_gateWith_18 ?_
    refine z_lcmp (pc := 19) C dX0_gateWith_19 ?_
    refine z_if_eq (pc := 20) 25 C dX0_gateWith_20 (by decide) ?_ ?_
    · refine z_iinc (pc := 25) (x3 + 1) 2 rfl rfl [(0, (.ref (qL 0))), (1, (.long x1)), (3, (.int (x3 + 1)))] [1, 2, 0] (by decide) rfl C dX0_gateWith_25 ?_
      refine z_goto (pc := 28) 2 C dX0_gateWith_28 (by decide) ?_
      exact hk_2 _
    · refine z_iload_n (pc := 23) 2 rfl rfl C dX0_gateWith_23 ?_
      exact z_ireturn (pc := 24) C hR dX0_gateWith_24 (fun h => by subst h; exact ⟨rfl, rfl⟩)
def fX0_gateWith (F : Nat) (x1 : Int64) (sL : zOS) : Option (Int32) := (zit (P := Int32) (R := Int32) (fun kc9 p9 => bX0_gateWith_2 F x1 sL kc9 p9) F (0 : Int32))
set_option maxRecDepth 20000 in
theorem wX0_gateWith {X : zCx} {res : Int32} {F : Nat} {qL : Nat → Nat} {x1 : Int64} {sL : zOS} (C : zC X RX0 cX0_gateWith 4 0 0) (hR : zR X (some .int) (some (.int res)) [(0, qL, sL)])  : zJ X 4 res (fX0_gateWith F x1 sL) 0 [(0, (.ref (qL 0))), (1, (.long x1))] [] [(0, qL, sL)] := by
  unfold fX0_gateWith
  refine z_iconst (pc := 0) (0 : Int32) (by decide) C dX0_gateWith_0 ?_
  refine z_istore_n (pc := 1) [(0, (.ref (qL 0))), (1, (.long x1)), (3, (.int (0 : Int32)))] [1, 2, 0] (by decide) rfl rfl C dX0_gateWith_1 ?_
  show zJ X 4 res _ 2 [(0, (.ref (qL 0))), (1, (.long x1)), (3, (.int (0 : Int32)))] [] [(0, qL, sL)]
  exact zit_J (P := Int32) (B := (fun kc9 p9 => bX0_gateWith_2 F x1 sL kc9 p9)) (fun p9 => [(0, (.ref (qL 0))), (1, (.long x1)), (3, (.int p9))]) (fun p9 => [(0, qL, sL)]) (fun kc9 hk9 p9 => vX0_gateWith_2 C hR   (fun a0 => hk9 a0) p9) F _
theorem mX0_gateWith {F : Nat} {qL : Nat → Nat} {x1 : Int64} {sL : zOS} {res : Int32}  (hf : fX0_gateWith F x1 sL = some res) : zM yX0_gateWith cX0_gateWith 4 (some .int) 0 0 [(.ref (qL 0)), (.long x1)] [(0, qL, sL)] (some (.int res)) [(0, qL, sL)] := zM_of (by decide +kernel) (Nat.le_of_ble_eq_true rfl) (fun X C hR => wX0_gateWith (F := F) C hR  hf)
theorem dX0_pinNode_0 : decode cX0_pinNode 0 = .ok (.aload_n 0, 1) := by decide +kernel
theorem dX0_pinNode_1 : decode cX0_pinNode 1 = .ok (.iconst 2, 1) := by decide +kernel
theorem dX0_pinNode_2 : decode cX0_pinNode 2 = .ok (.aload_n 1, 1) := by decide +kernel
theorem dX0_pinNode_3 : decode cX0_pinNode 3 = .ok (.iload_n 2, 1) := by decide +kernel
theorem dX0_pinNode_4 : decode cX0_pinNode 4 = .ok (.invokevirtual 89, 3) := by decide +kernel
theorem dX0_pinNode_7 : decode cX0_pinNode 7 = .ok (.invokevirtual 95, 3) := by decide +kernel
theorem dX0_pinNode_10 : decode cX0_pinNode 10 = .ok (.ireturn, 1) := by decide +kernel
def fX0_pinNode (F : Nat) (x2 : Int32) (sL : zOS) (sP : zOS) : Option (Int32) := (Option.bind (fX2_pinBit x2 sP) (fun r_1 : Int64 => (Option.bind (fX0_nodeWith F (2 : Int32) r_1 sL) (fun r_3 : Int32 => (some (r_3))))))
set_option maxRecDepth 20000 in
theorem wX0_pinNode {X : zCx} {res : Int32} {F : Nat} {qL : Nat → Nat} {qP : Nat → Nat} {x2 : Int32} {sL : zOS} {sP : zOS} (C : zC X RX0 cX0_pinNode 3 2 42) (hR : zR X (some .int) (some (.int res)) [(0, qL, sL), (2, qP, sP)])  : zJ X 3 res (fX0_pinNode F x2 sL sP) 0 [(0, (.ref (qL 0))), (1, (.ref (qP 0))), (2, (.int x2))] [] [(0, qL, sL), (2, qP, sP)] := by
  unfold fX0_pinNode
  refine z_aload_n (pc := 0) 0 rfl rfl C dX0_pinNode_0 ?_
  refine z_iconst (pc := 1) (2 : Int32) (by decide) C dX0_pinNode_1 ?_
  refine z_aload_n (pc := 2) 1 rfl rfl C dX0_pinNode_2 ?_
  refine z_iload_n (pc := 3) 2 rfl rfl C dX0_pinNode_3 ?_
  refine z_callV (pc := 4) (rf' := 1) (rl' := 21) (fX2_pinBit x2 sP) [(.int x2)] [(.int (2 : Int32)), (.ref (qL 0))] [(2, qP, sP)] (fun r_1 => (some (.long r_1))) (fun r_1 => [(2, qP, sP)]) [(0, qL, sL)] (fun r_1 => [(0, qL, sL), (2, qP, sP)]) C dX0_pinNode_4 zy_X2_pinBit zw_496 (fun _ hr9 => mX2_pinBit  hr9) (by decide) rfl rfl (by decide) rfl (Nat.le_of_ble_eq_true rfl) (z_pn 2 _ rfl [1, 0] (by decide)).symm (fun _ => (z_pn 2 _ rfl [1, 0] (by decide)).symm) rfl (fun r_1 hr_2 => ?_)
  show zJ X 3 res _ 7 [(0, (.ref (qL 0))), (1, (.ref (qP 0))), (2, (.int x2))] [(.long r_1), (.int (2 : Int32)), (.ref (qL 0))] [(0, qL, sL), (2, qP, sP)]
  refine z_callV (pc := 7) (rf' := 0) (rl' := 0) (fX0_nodeWith F (2 : Int32) r_1 sL) [(.int (2 : Int32)), (.long r_1)] [] [(0, qL, sL)] (fun r_3 => (some (.int r_3))) (fun r_3 => [(0, qL, sL)]) [(2, qP, sP)] (fun r_3 => [(0, qL, sL), (2, qP, sP)]) C dX0_pinNode_7 zy_X0_nodeWith zw_459 (fun _ hr9 => mX0_nodeWith  hr9) (by decide) rfl rfl (by decide) rfl (Nat.le_of_ble_eq_true rfl) (List.Perm.refl _) (fun _ => List.Perm.refl _) rfl (fun r_3 hr_4 => ?_)
  show zJ X 3 res _ 10 [(0, (.ref (qL 0))), (1, (.ref (qP 0))), (2, (.int x2))] [(.int r_3)] [(0, qL, sL), (2, qP, sP)]
  exact z_ireturn (pc := 10) C hR dX0_pinNode_10 (fun h => by subst h; exact ⟨rfl, rfl⟩)
theorem mX0_pinNode {F : Nat} {qL : Nat → Nat} {qP : Nat → Nat} {x2 : Int32} {sL : zOS} {sP : zOS} {res : Int32}  (hf : fX0_pinNode F x2 sL sP = some res) : zM yX0_pinNode cX0_pinNode 3 (some .int) 2 42 [(.ref (qL 0)), (.ref (qP 0)), (.int x2)] [(0, qL, sL), (2, qP, sP)] (some (.int res)) [(0, qL, sL), (2, qP, sP)] := zM_of (by decide +kernel) (Nat.le_of_ble_eq_true rfl) (fun X C hR => wX0_pinNode (F := F) C hR  hf)
theorem dX0_countShorts_0 : decode cX0_countShorts 0 = .ok (.iconst 0, 1) := by decide +kernel
theorem dX0_countShorts_1 : decode cX0_countShorts 1 = .ok (.istore_n 2, 1) := by decide +kernel
theorem dX0_countShorts_2 : decode cX0_countShorts 2 = .ok (.iconst 1, 1) := by decide +kernel
theorem dX0_countShorts_3 : decode cX0_countShorts 3 = .ok (.istore_n 3, 1) := by decide +kernel
theorem dX0_countShorts_4 : decode cX0_countShorts 4 = .ok (.iload_n 3, 1) := by decide +kernel
theorem dX0_countShorts_5 : decode cX0_countShorts 5 = .ok (.aload_n 1, 1) := by decide +kernel
theorem dX0_countShorts_6 : decode cX0_countShorts 6 = .ok (.getfield 99, 3) := by decide +kernel
theorem dX0_countShorts_9 : decode cX0_countShorts 9 = .ok (.if_icmp .ge 67, 3) := by decide +kernel
theorem dX0_countShorts_12 : decode cX0_countShorts 12 = .ok (.aload_n 0, 1) := by decide +kernel
theorem dX0_countShorts_13 : decode cX0_countShorts 13 = .ok (.aload_n 1, 1) := by decide +kernel
theorem dX0_countShorts_14 : decode cX0_countShorts 14 = .ok (.iload_n 3, 1) := by decide +kernel
theorem dX0_countShorts_15 : decode cX0_countShorts 15 = .ok (.invokevirtual 102, 3) := by decide +kernel
theorem dX0_countShorts_18 : decode cX0_countShorts 18 = .ok (.istore 4, 2) := by decide +kernel
theorem dX0_countShorts_20 : decode cX0_countShorts 20 = .ok (.iconst 0, 1) := by decide +kernel
theorem dX0_countShorts_21 : decode cX0_countShorts 21 = .ok (.istore 5, 2) := by decide +kernel
theorem dX0_countShorts_23 : decode cX0_countShorts 23 = .ok (.iload 5, 2) := by decide +kernel
theorem dX0_countShorts_25 : decode cX0_countShorts 25 = .ok (.iload_n 3, 1) := by decide +kernel
theorem dX0_countShorts_26 : decode cX0_countShorts 26 = .ok (.if_icmp .ge 44, 3) := by decide +kernel
theorem dX0_countShorts_29 : decode cX0_countShorts 29 = .ok (.iload 4, 2) := by decide +kernel
theorem dX0_countShorts_31 : decode cX0_countShorts 31 = .ok (.iconst (-1), 1) := by decide +kernel
theorem dX0_countShorts_32 : decode cX0_countShorts 32 = .ok (.if_icmp .eq 38, 3) := by decide +kernel
theorem dX0_countShorts_35 : decode cX0_countShorts 35 = .ok (.iload 4, 2) := by decide +kernel
theorem dX0_countShorts_37 : decode cX0_countShorts 37 = .ok (.aload_n 0, 1) := by decide +kernel
theorem dX0_countShorts_38 : decode cX0_countShorts 38 = .ok (.aload_n 1, 1) := by decide +kernel
theorem dX0_countShorts_39 : decode cX0_countShorts 39 = .ok (.iload 5, 2) := by decide +kernel
theorem dX0_countShorts_41 : decode cX0_countShorts 41 = .ok (.invokevirtual 102, 3) := by decide +kernel
theorem dX0_countShorts_44 : decode cX0_countShorts 44 = .ok (.if_icmp .ne 20, 3) := by decide +kernel
theorem dX0_countShorts_47 : decode cX0_countShorts 47 = .ok (.aload_n 1, 1) := by decide +kernel
theorem dX0_countShorts_48 : decode cX0_countShorts 48 = .ok (.iload_n 3, 1) := by decide +kernel
theorem dX0_countShorts_49 : decode cX0_countShorts 49 = .ok (.invokevirtual 106, 3) := by decide +kernel
theorem dX0_countShorts_52 : decode cX0_countShorts 52 = .ok (.aload_n 1, 1) := by decide +kernel
theorem dX0_countShorts_53 : decode cX0_countShorts 53 = .ok (.iload 5, 2) := by decide +kernel
theorem dX0_countShorts_55 : decode cX0_countShorts 55 = .ok (.invokevirtual 106, 3) := by decide +kernel
theorem dX0_countShorts_58 : decode cX0_countShorts 58 = .ok (.if_icmp .eq 6, 3) := by decide +kernel
theorem dX0_countShorts_61 : decode cX0_countShorts 61 = .ok (.iinc 2 1, 3) := by decide +kernel
theorem dX0_countShorts_64 : decode cX0_countShorts 64 = .ok (.iinc 5 1, 3) := by decide +kernel
theorem dX0_countShorts_67 : decode cX0_countShorts 67 = .ok (.goto (-44), 3) := by decide +kernel
theorem dX0_countShorts_70 : decode cX0_countShorts 70 = .ok (.iinc 3 1, 3) := by decide +kernel
theorem dX0_countShorts_73 : decode cX0_countShorts 73 = .ok (.goto (-69), 3) := by decide +kernel
theorem dX0_countShorts_76 : decode cX0_countShorts 76 = .ok (.iload_n 2, 1) := by decide +kernel
theorem dX0_countShorts_77 : decode cX0_countShorts 77 = .ok (.ireturn, 1) := by decide +kernel
def bX0_countShorts_23 (F : Nat) (kc_4 : (Int32 × Int32) → Option (Int32)) (x3 : Int32) (x4 : Int32) (sL : zOS) (sP : zOS) (kc_23 : (Int32 × Int32) → Option (Int32)) (x2 : Int32) (x5 : Int32) : Option (Int32) := (if x3 ≤ x5 then (kc_4 (x2, (x3 + 1))) else (if x4 = (-1 : Int32) then (kc_4 (x2, (x3 + 1))) else (Option.bind (fX0_pinNode F x5 sL sP) (fun r_3 : Int32 => (if x4 = r_3 then (Option.bind (fX2_pinNet x3 sP) (fun r_5 : Int32 => (Option.bind (fX2_pinNet x5 sP) (fun r_7 : Int32 => (if r_5 = r_7 then (kc_23 (x2, (x5 + 1))) else (kc_23 ((x2 + 1), (x5 + 1)))))))) else (kc_23 (x2, (x5 + 1))))))))
set_option maxRecDepth 20000 in
theorem vX0_countShorts_23 {X : zCx} {res : Int32} {F : Nat} {qL : Nat → Nat} {qP : Nat → Nat} {sL : zOS} {sP : zOS} {x3 : Int32} {x4 : Int32} {kc_4 : (Int32 × Int32) → Option (Int32)} {kc_23 : (Int32 × Int32) → Option (Int32)} (C : zC X RX0 cX0_countShorts 6 3 64) (hR : zR X (some .int) (some (.int res)) [(0, qL, sL), (2, qP, sP)]) (hk_4 : ∀ (y2 : Int32) (y3 : Int32), zJ X 6 res (kc_4 (y2, y3)) 4 [(0, (.ref (qL 0))), (1, (.ref (qP 0))), (2, (.int y2)), (3, (.int y3))] [] [(0, qL, sL), (2, qP, sP)]) (hk_23 : ∀ (y2 : Int32) (y5 : Int32), zJ X 6 res (kc_23 (y2, y5)) 23 [(0, (.ref (qL 0))), (1, (.ref (qP 0))), (2, (.int y2)), (3, (.int x3)), (4, (.int x4)), (5, (.int y5))] [] [(0, qL, sL), (2, qP, sP)]) (x2 : Int32) (x5 : Int32) : zJ X 6 res (bX0_countShorts_23 F kc_4 x3 x4 sL sP kc_23 x2 x5) 23 [(0, (.ref (qL 0))), (1, (.ref (qP 0))), (2, (.int x2)), (3, (.int x3)), (4, (.int x4)), (5, (.int x5))] [] [(0, qL, sL), (2, qP, sP)] := by
  unfold bX0_countShorts_23
  refine z_iload (pc := 23) 5 rfl C dX0_countShorts_23 ?_
  refine z_iload_n (pc := 25) 3 rfl rfl C dX0_countShorts_25 ?_
  refine z_icmp_ge (pc := 26) 70 C dX0_countShorts_26 (by decide) ?_ ?_
  · refine z_iinc (pc := 70) (x3 + 1) 3 rfl rfl [(0, (.ref (qL 0))), (1, (.ref (qP 0))), (2, (.int x2)), (3, (.int (x3 + 1))), (4, (.int x4)), (5, (.int x5))] [1, 2, 3, 0, 4, 5] (by decide) rfl C dX0_countShorts_70 ?_
    refine z_goto (pc := 73) 4 C dX0_countShorts_73 (by decide) ?_
    refine z_lv [(0, (.ref (qL 0))), (1, (.ref (qP 0))), (2, (.int x2)), (3, (.int (x3 + 1)))] [0, 1, 2, 3] rfl ?_
    exact hk_4 _ _
  · refine z_iload (pc := 29) 4 rfl C dX0_countShorts_29 ?_
    refine z_iconst (pc := 31) (-1 : Int32) (by decide) C dX0_countShorts_31 ?_
    refine z_icmp_eq (pc := 32) 70 C dX0_countShorts_32 (by decide) ?_ ?_
    · refine z_iinc (pc := 70) (x3 + 1) 3 rfl rfl [(0, (.ref (qL 0))), (1, (.ref (qP 0))), (2, (.int x2)), (3, (.int (x3 + 1))), (4, (.int x4)), (5, (.int x5))] [1, 2, 3, 0, 4, 5] (by decide) rfl C dX0_countShorts_70 ?_
      refine z_goto (pc := 73) 4 C dX0_countShorts_73 (by decide) ?_
      refine z_lv [(0, (.ref (qL 0))), (1, (.ref (qP 0))), (2, (.int x2)), (3, (.int (x3 + 1)))] [0, 1, 2, 3] rfl ?_
      exact hk_4 _ _
    · refine z_iload (pc := 35) 4 rfl C dX0_countShorts_35 ?_
      refine z_aload_n (pc := 37) 0 rfl rfl C dX0_countShorts_37 ?_
      refine z_aload_n (pc := 38) 1 rfl rfl C dX0_countShorts_38 ?_
      refine z_iload (pc := 39) 5 rfl C dX0_countShorts_39 ?_
      refine z_callV (pc := 41) (rf' := 2) (rl' := 42) (fX0_pinNode F x5 sL sP) [(.ref (qP 0)), (.int x5)] [(.int x4)] [(0, qL, sL), (2, qP, sP)] (fun r_3 => (some (.int r_3))) (fun r_3 => [(0, qL, sL), (2, qP, sP)]) [] (fun r_3 => [(0, qL, sL), (2, qP, sP)]) C dX0_countShorts_41 zy_X0_pinNode zw_492 (fun _ hr9 => mX0_pinNode  hr9) (by decide) rfl rfl (by decide) rfl (Nat.le_of_ble_eq_true rfl) (List.Perm.refl _) (fun _ => List.Perm.refl _) rfl (fun r_3 hr_4 => ?_)
      show zJ X 6 res _ 44 [(0, (.ref (qL 0))), (1, (.ref (qP 0))), (2, (.int x2)), (3, (.int x3)), (4, (.int x4)), (5, (.int x5))] [(.int r_3), (.int x4)] [(0, qL, sL), (2, qP, sP)]
      refine z_icmp_ne (pc := 44) 64 C dX0_countShorts_44 (by decide) ?_ ?_
      · refine z_aload_n (pc := 47) 1 rfl rfl C dX0_countShorts_47 ?_
        refine z_iload_n (pc := 48) 3 rfl rfl C dX0_countShorts_48 ?_
        refine z_callV (pc := 49) (rf' := 0) (rl' := 0) (fX2_pinNet x3 sP) [(.int x3)] [] [(2, qP, sP)] (fun r_5 => (some (.int r_5))) (fun r_5 => [(2, qP, sP)]) [(0, qL, sL)] (fun r_5 => [(0, qL, sL), (2, qP, sP)]) C dX0_countShorts_49 zy_X2_pinNet zw_500 (fun _ hr9 => mX2_pinNet  hr9) (by decide) rfl rfl (by decide) rfl (Nat.le_of_ble_eq_true rfl) (z_pn 2 _ rfl [1, 0] (by decide)).symm (fun _ => (z_pn 2 _ rfl [1, 0] (by decide)).symm) rfl (fun r_5 hr_6 => ?_)
        show zJ X 6 res _ 52 [(0, (.ref (qL 0))), (1, (.ref (qP 0))), (2, (.int x2)), (3, (.int x3)), (4, (.int x4)), (5, (.int x5))] [(.int r_5)] [(0, qL, sL), (2, qP, sP)]
        refine z_aload_n (pc := 52) 1 rfl rfl C dX0_countShorts_52 ?_
        refine z_iload (pc := 53) 5 rfl C dX0_countShorts_53 ?_
        refine z_callV (pc := 55) (rf' := 0) (rl' := 0) (fX2_pinNet x5 sP) [(.int x5)] [(.int r_5)] [(2, qP, sP)] (fun r_7 => (some (.int r_7))) (fun r_7 => [(2, qP, sP)]) [(0, qL, sL)] (fun r_7 => [(0, qL, sL), (2, qP, sP)]) C dX0_countShorts_55 zy_X2_pinNet zw_500 (fun _ hr9 => mX2_pinNet  hr9) (by decide) rfl rfl (by decide) rfl (Nat.le_of_ble_eq_true rfl) (z_pn 2 _ rfl [1, 0] (by decide)).symm (fun _ => (z_pn 2 _ rfl [1, 0] (by decide)).symm) rfl (fun r_7 hr_8 => ?_)
        show zJ X 6 res _ 58 [(0, (.ref (qL 0))), (1, (.ref (qP 0))), (2, (.int x2)), (3, (.int x3)), (4, (.int x4)), (5, (.int x5))] [(.int r_7), (.int r_5)] [(0, qL, sL), (2, qP, sP)]
        refine z_icmp_eq (pc := 58) 64 C dX0_countShorts_58 (by decide) ?_ ?_
        · refine z_iinc (pc := 64) (x5 + 1) 5 rfl rfl [(0, (.ref (qL 0))), (1, (.ref (qP 0))), (2, (.int x2)), (3, (.int x3)), (4, (.int x4)), (5, (.int (x5 + 1)))] [1, 2, 3, 4, 5, 0] (by decide) rfl C dX0_countShorts_64 ?_
          refine z_goto (pc := 67) 23 C dX0_countShorts_67 (by decide) ?_
          exact hk_23 _ _
        · refine z_iinc (pc := 61) (x2 + 1) 2 rfl rfl [(0, (.ref (qL 0))), (1, (.ref (qP 0))), (2, (.int (x2 + 1))), (3, (.int x3)), (4, (.int x4)), (5, (.int x5))] [1, 2, 0, 3, 4, 5] (by decide) rfl C dX0_countShorts_61 ?_
          refine z_iinc (pc := 64) (x5 + 1) 5 rfl rfl [(0, (.ref (qL 0))), (1, (.ref (qP 0))), (2, (.int (x2 + 1))), (3, (.int x3)), (4, (.int x4)), (5, (.int (x5 + 1)))] [1, 2, 3, 4, 5, 0] (by decide) rfl C dX0_countShorts_64 ?_
          refine z_goto (pc := 67) 23 C dX0_countShorts_67 (by decide) ?_
          exact hk_23 _ _
      · refine z_iinc (pc := 64) (x5 + 1) 5 rfl rfl [(0, (.ref (qL 0))), (1, (.ref (qP 0))), (2, (.int x2)), (3, (.int x3)), (4, (.int x4)), (5, (.int (x5 + 1)))] [1, 2, 3, 4, 5, 0] (by decide) rfl C dX0_countShorts_64 ?_
        refine z_goto (pc := 67) 23 C dX0_countShorts_67 (by decide) ?_
        exact hk_23 _ _
def bX0_countShorts_4 (F : Nat) (sL : zOS) (sP : zOS) (kc_4 : (Int32 × Int32) → Option (Int32)) (x2 : Int32) (x3 : Int32) : Option (Int32) := (if (zF sP 4) ≤ x3 then (some (x2)) else (Option.bind (fX0_pinNode F x3 sL sP) (fun r_1 : Int32 => (zit (P := Int32 × Int32) (R := Int32) (fun kc9 p9 => bX0_countShorts_23 F kc_4 x3 r_1 sL sP kc9 p9.1 p9.2) F (x2, (0 : Int32))))))
set_option maxRecDepth 20000 in
theorem vX0_countShorts_4 {X : zCx} {res : Int32} {F : Nat} {qL : Nat → Nat} {qP : Nat → Nat} {sL : zOS} {sP : zOS} {kc_4 : (Int32 × Int32) → Option (Int32)} (C : zC X RX0 cX0_countShorts 6 3 64) (hR : zR X (some .int) (some (.int res)) [(0, qL, sL), (2, qP, sP)]) (hk_4 : ∀ (y2 : Int32) (y3 : Int32), zJ X 6 res (kc_4 (y2, y3)) 4 [(0, (.ref (qL 0))), (1, (.ref (qP 0))), (2, (.int y2)), (3, (.int y3))] [] [(0, qL, sL), (2, qP, sP)]) (x2 : Int32) (x3 : Int32) : zJ X 6 res (bX0_countShorts_4 F sL sP kc_4 x2 x3) 4 [(0, (.ref (qL 0))), (1, (.ref (qP 0))), (2, (.int x2)), (3, (.int x3))] [] [(0, qL, sL), (2, qP, sP)] := by
  unfold bX0_countShorts_4
  refine z_iload_n (pc := 4) 3 rfl rfl C dX0_countShorts_4 ?_
  refine z_aload_n (pc := 5) 1 rfl rfl C dX0_countShorts_5 ?_
  refine z_getI (pc := 6) 1 4 C dX0_countShorts_6 rfl (by decide) (by decide) rfl zw_119 ?_
  refine z_icmp_ge (pc := 9) 76 C dX0_countShorts_9 (by decide) ?_ ?_
  · refine z_iload_n (pc := 76) 2 rfl rfl C dX0_countShorts_76 ?_
    exact z_ireturn (pc := 77) C hR dX0_countShorts_77 (fun h => by subst h; exact ⟨rfl, rfl⟩)
  · refine z_aload_n (pc := 12) 0 rfl rfl C dX0_countShorts_12 ?_
    refine z_aload_n (pc := 13) 1 rfl rfl C dX0_countShorts_13 ?_
    refine z_iload_n (pc := 14) 3 rfl rfl C dX0_countShorts_14 ?_
    refine z_callV (pc := 15) (rf' := 2) (rl' := 42) (fX0_pinNode F x3 sL sP) [(.ref (qP 0)), (.int x3)] [] [(0, qL, sL), (2, qP, sP)] (fun r_1 => (some (.int r_1))) (fun r_1 => [(0, qL, sL), (2, qP, sP)]) [] (fun r_1 => [(0, qL, sL), (2, qP, sP)]) C dX0_countShorts_15 zy_X0_pinNode zw_492 (fun _ hr9 => mX0_pinNode  hr9) (by decide) rfl rfl (by decide) rfl (Nat.le_of_ble_eq_true rfl) (List.Perm.refl _) (fun _ => List.Perm.refl _) rfl (fun r_1 hr_2 => ?_)
    show zJ X 6 res _ 18 [(0, (.ref (qL 0))), (1, (.ref (qP 0))), (2, (.int x2)), (3, (.int x3))] [(.int r_1)] [(0, qL, sL), (2, qP, sP)]
    refine z_istore (pc := 18) [(0, (.ref (qL 0))), (1, (.ref (qP 0))), (2, (.int x2)), (3, (.int x3)), (4, (.int r_1))] [1, 2, 3, 4, 0] (by decide) rfl C dX0_countShorts_18 ?_
    refine z_iconst (pc := 20) (0 : Int32) (by decide) C dX0_countShorts_20 ?_
    refine z_istore (pc := 21) [(0, (.ref (qL 0))), (1, (.ref (qP 0))), (2, (.int x2)), (3, (.int x3)), (4, (.int r_1)), (5, (.int (0 : Int32)))] [1, 2, 3, 4, 5, 0] (by decide) rfl C dX0_countShorts_21 ?_
    show zJ X 6 res _ 23 [(0, (.ref (qL 0))), (1, (.ref (qP 0))), (2, (.int x2)), (3, (.int x3)), (4, (.int r_1)), (5, (.int (0 : Int32)))] [] [(0, qL, sL), (2, qP, sP)]
    exact zit_J (P := Int32 × Int32) (B := (fun kc9 p9 => bX0_countShorts_23 F kc_4 x3 r_1 sL sP kc9 p9.1 p9.2)) (fun p9 => [(0, (.ref (qL 0))), (1, (.ref (qP 0))), (2, (.int p9.1)), (3, (.int x3)), (4, (.int r_1)), (5, (.int p9.2))]) (fun p9 => [(0, qL, sL), (2, qP, sP)]) (fun kc9 hk9 p9 => vX0_countShorts_23 C hR  hk_4 (fun a0 a1 => hk9 (a0, a1)) p9.1 p9.2) F _
def fX0_countShorts (F : Nat) (sL : zOS) (sP : zOS) : Option (Int32) := (zit (P := Int32 × Int32) (R := Int32) (fun kc9 p9 => bX0_countShorts_4 F sL sP kc9 p9.1 p9.2) F ((0 : Int32), (1 : Int32)))
set_option maxRecDepth 20000 in
theorem wX0_countShorts {X : zCx} {res : Int32} {F : Nat} {qL : Nat → Nat} {qP : Nat → Nat} {sL : zOS} {sP : zOS} (C : zC X RX0 cX0_countShorts 6 3 64) (hR : zR X (some .int) (some (.int res)) [(0, qL, sL), (2, qP, sP)])  : zJ X 6 res (fX0_countShorts F sL sP) 0 [(0, (.ref (qL 0))), (1, (.ref (qP 0)))] [] [(0, qL, sL), (2, qP, sP)] := by
  unfold fX0_countShorts
  refine z_iconst (pc := 0) (0 : Int32) (by decide) C dX0_countShorts_0 ?_
  refine z_istore_n (pc := 1) [(0, (.ref (qL 0))), (1, (.ref (qP 0))), (2, (.int (0 : Int32)))] [1, 2, 0] (by decide) rfl rfl C dX0_countShorts_1 ?_
  refine z_iconst (pc := 2) (1 : Int32) (by decide) C dX0_countShorts_2 ?_
  refine z_istore_n (pc := 3) [(0, (.ref (qL 0))), (1, (.ref (qP 0))), (2, (.int (0 : Int32))), (3, (.int (1 : Int32)))] [1, 2, 3, 0] (by decide) rfl rfl C dX0_countShorts_3 ?_
  show zJ X 6 res _ 4 [(0, (.ref (qL 0))), (1, (.ref (qP 0))), (2, (.int (0 : Int32))), (3, (.int (1 : Int32)))] [] [(0, qL, sL), (2, qP, sP)]
  exact zit_J (P := Int32 × Int32) (B := (fun kc9 p9 => bX0_countShorts_4 F sL sP kc9 p9.1 p9.2)) (fun p9 => [(0, (.ref (qL 0))), (1, (.ref (qP 0))), (2, (.int p9.1)), (3, (.int p9.2))]) (fun p9 => [(0, qL, sL), (2, qP, sP)]) (fun kc9 hk9 p9 => vX0_countShorts_4 C hR   (fun a0 a1 => hk9 (a0, a1)) p9.1 p9.2) F _
theorem mX0_countShorts {F : Nat} {qL : Nat → Nat} {qP : Nat → Nat} {sL : zOS} {sP : zOS} {res : Int32}  (hf : fX0_countShorts F sL sP = some res) : zM yX0_countShorts cX0_countShorts 6 (some .int) 3 64 [(.ref (qL 0)), (.ref (qP 0))] [(0, qL, sL), (2, qP, sP)] (some (.int res)) [(0, qL, sL), (2, qP, sP)] := zM_of (by decide +kernel) (Nat.le_of_ble_eq_true rfl) (fun X C hR => wX0_countShorts (F := F) C hR  hf)
theorem dX0_countOpens_0 : decode cX0_countOpens 0 = .ok (.iconst 0, 1) := by decide +kernel
theorem dX0_countOpens_1 : decode cX0_countOpens 1 = .ok (.istore_n 2, 1) := by decide +kernel
theorem dX0_countOpens_2 : decode cX0_countOpens 2 = .ok (.iconst 1, 1) := by decide +kernel
theorem dX0_countOpens_3 : decode cX0_countOpens 3 = .ok (.istore_n 3, 1) := by decide +kernel
theorem dX0_countOpens_4 : decode cX0_countOpens 4 = .ok (.iload_n 3, 1) := by decide +kernel
theorem dX0_countOpens_5 : decode cX0_countOpens 5 = .ok (.aload_n 1, 1) := by decide +kernel
theorem dX0_countOpens_6 : decode cX0_countOpens 6 = .ok (.getfield 99, 3) := by decide +kernel
theorem dX0_countOpens_9 : decode cX0_countOpens 9 = .ok (.if_icmp .ge 77, 3) := by decide +kernel
theorem dX0_countOpens_12 : decode cX0_countOpens 12 = .ok (.aload_n 0, 1) := by decide +kernel
theorem dX0_countOpens_13 : decode cX0_countOpens 13 = .ok (.aload_n 1, 1) := by decide +kernel
theorem dX0_countOpens_14 : decode cX0_countOpens 14 = .ok (.iload_n 3, 1) := by decide +kernel
theorem dX0_countOpens_15 : decode cX0_countOpens 15 = .ok (.invokevirtual 102, 3) := by decide +kernel
theorem dX0_countOpens_18 : decode cX0_countOpens 18 = .ok (.istore 4, 2) := by decide +kernel
theorem dX0_countOpens_20 : decode cX0_countOpens 20 = .ok (.iconst 0, 1) := by decide +kernel
theorem dX0_countOpens_21 : decode cX0_countOpens 21 = .ok (.istore 5, 2) := by decide +kernel
theorem dX0_countOpens_23 : decode cX0_countOpens 23 = .ok (.iload 5, 2) := by decide +kernel
theorem dX0_countOpens_25 : decode cX0_countOpens 25 = .ok (.iload_n 3, 1) := by decide +kernel
theorem dX0_countOpens_26 : decode cX0_countOpens 26 = .ok (.if_icmp .ge 54, 3) := by decide +kernel
theorem dX0_countOpens_29 : decode cX0_countOpens 29 = .ok (.iload 4, 2) := by decide +kernel
theorem dX0_countOpens_31 : decode cX0_countOpens 31 = .ok (.iconst (-1), 1) := by decide +kernel
theorem dX0_countOpens_32 : decode cX0_countOpens 32 = .ok (.if_icmp .eq 48, 3) := by decide +kernel
theorem dX0_countOpens_35 : decode cX0_countOpens 35 = .ok (.aload_n 0, 1) := by decide +kernel
theorem dX0_countOpens_36 : decode cX0_countOpens 36 = .ok (.aload_n 1, 1) := by decide +kernel
theorem dX0_countOpens_37 : decode cX0_countOpens 37 = .ok (.iload 5, 2) := by decide +kernel
theorem dX0_countOpens_39 : decode cX0_countOpens 39 = .ok (.invokevirtual 102, 3) := by decide +kernel
theorem dX0_countOpens_42 : decode cX0_countOpens 42 = .ok (.istore 6, 2) := by decide +kernel
theorem dX0_countOpens_44 : decode cX0_countOpens 44 = .ok (.iload 6, 2) := by decide +kernel
theorem dX0_countOpens_46 : decode cX0_countOpens 46 = .ok (.iconst (-1), 1) := by decide +kernel
theorem dX0_countOpens_47 : decode cX0_countOpens 47 = .ok (.if_icmp .eq 27, 3) := by decide +kernel
theorem dX0_countOpens_50 : decode cX0_countOpens 50 = .ok (.iload 6, 2) := by decide +kernel
theorem dX0_countOpens_52 : decode cX0_countOpens 52 = .ok (.iload 4, 2) := by decide +kernel
theorem dX0_countOpens_54 : decode cX0_countOpens 54 = .ok (.if_icmp .eq 20, 3) := by decide +kernel
theorem dX0_countOpens_57 : decode cX0_countOpens 57 = .ok (.aload_n 1, 1) := by decide +kernel
theorem dX0_countOpens_58 : decode cX0_countOpens 58 = .ok (.iload_n 3, 1) := by decide +kernel
theorem dX0_countOpens_59 : decode cX0_countOpens 59 = .ok (.invokevirtual 106, 3) := by decide +kernel
theorem dX0_countOpens_62 : decode cX0_countOpens 62 = .ok (.aload_n 1, 1) := by decide +kernel
theorem dX0_countOpens_63 : decode cX0_countOpens 63 = .ok (.iload 5, 2) := by decide +kernel
theorem dX0_countOpens_65 : decode cX0_countOpens 65 = .ok (.invokevirtual 106, 3) := by decide +kernel
theorem dX0_countOpens_68 : decode cX0_countOpens 68 = .ok (.if_icmp .ne 6, 3) := by decide +kernel
theorem dX0_countOpens_71 : decode cX0_countOpens 71 = .ok (.iinc 2 1, 3) := by decide +kernel
theorem dX0_countOpens_74 : decode cX0_countOpens 74 = .ok (.iinc 5 1, 3) := by decide +kernel
theorem dX0_countOpens_77 : decode cX0_countOpens 77 = .ok (.goto (-54), 3) := by decide +kernel
theorem dX0_countOpens_80 : decode cX0_countOpens 80 = .ok (.iinc 3 1, 3) := by decide +kernel
theorem dX0_countOpens_83 : decode cX0_countOpens 83 = .ok (.goto (-79), 3) := by decide +kernel
theorem dX0_countOpens_86 : decode cX0_countOpens 86 = .ok (.iload_n 2, 1) := by decide +kernel
theorem dX0_countOpens_87 : decode cX0_countOpens 87 = .ok (.ireturn, 1) := by decide +kernel
def bX0_countOpens_23 (F : Nat) (kc_4 : (Int32 × Int32) → Option (Int32)) (x3 : Int32) (x4 : Int32) (sL : zOS) (sP : zOS) (kc_23 : (Int32 × Int32) → Option (Int32)) (x2 : Int32) (x5 : Int32) : Option (Int32) := (if x3 ≤ x5 then (kc_4 (x2, (x3 + 1))) else (if x4 = (-1 : Int32) then (kc_4 (x2, (x3 + 1))) else (Option.bind (fX0_pinNode F x5 sL sP) (fun r_3 : Int32 => (if r_3 = (-1 : Int32) then (kc_23 (x2, (x5 + 1))) else (if r_3 = x4 then (kc_23 (x2, (x5 + 1))) else (Option.bind (fX2_pinNet x3 sP) (fun r_5 : Int32 => (Option.bind (fX2_pinNet x5 sP) (fun r_7 : Int32 => (if r_5 = r_7 then (kc_23 ((x2 + 1), (x5 + 1))) else (kc_23 (x2, (x5 + 1))))))))))))))
set_option maxRecDepth 20000 in
theorem vX0_countOpens_23 {X : zCx} {res : Int32} {F : Nat} {qL : Nat → Nat} {qP : Nat → Nat} {sL : zOS} {sP : zOS} {x3 : Int32} {x4 : Int32} {kc_4 : (Int32 × Int32) → Option (Int32)} {kc_23 : (Int32 × Int32) → Option (Int32)} (C : zC X RX0 cX0_countOpens 7 3 64) (hR : zR X (some .int) (some (.int res)) [(0, qL, sL), (2, qP, sP)]) (hk_4 : ∀ (y2 : Int32) (y3 : Int32), zJ X 7 res (kc_4 (y2, y3)) 4 [(0, (.ref (qL 0))), (1, (.ref (qP 0))), (2, (.int y2)), (3, (.int y3))] [] [(0, qL, sL), (2, qP, sP)]) (hk_23 : ∀ (y2 : Int32) (y5 : Int32), zJ X 7 res (kc_23 (y2, y5)) 23 [(0, (.ref (qL 0))), (1, (.ref (qP 0))), (2, (.int y2)), (3, (.int x3)), (4, (.int x4)), (5, (.int y5))] [] [(0, qL, sL), (2, qP, sP)]) (x2 : Int32) (x5 : Int32) : zJ X 7 res (bX0_countOpens_23 F kc_4 x3 x4 sL sP kc_23 x2 x5) 23 [(0, (.ref (qL 0))), (1, (.ref (qP 0))), (2, (.int x2)), (3, (.int x3)), (4, (.int x4)), (5, (.int x5))] [] [(0, qL, sL), (2, qP, sP)] := by
  unfold bX0_countOpens_23
  refine z_iload (pc := 23) 5 rfl C dX0_countOpens_23 ?_
  refine z_iload_n (pc := 25) 3 rfl rfl C dX0_countOpens_25 ?_
  refine z_icmp_ge (pc := 26) 80 C dX0_countOpens_26 (by decide) ?_ ?_
  · refine z_iinc (pc := 80) (x3 + 1) 3 rfl rfl [(0, (.ref (qL 0))), (1, (.ref (qP 0))), (2, (.int x2)), (3, (.int (x3 + 1))), (4, (.int x4)), (5, (.int x5))] [1, 2, 3, 0, 4, 5] (by decide) rfl C dX0_countOpens_80 ?_
    refine z_goto (pc := 83) 4 C dX0_countOpens_83 (by decide) ?_
    refine z_lv [(0, (.ref (qL 0))), (1, (.ref (qP 0))), (2, (.int x2)), (3, (.int (x3 + 1)))] [0, 1, 2, 3] rfl ?_
    exact hk_4 _ _
  · refine z_iload (pc := 29) 4 rfl C dX0_countOpens_29 ?_
    refine z_iconst (pc := 31) (-1 : Int32) (by decide) C dX0_countOpens_31 ?_
    refine z_icmp_eq (pc := 32) 80 C dX0_countOpens_32 (by decide) ?_ ?_
    · refine z_iinc (pc := 80) (x3 + 1) 3 rfl rfl [(0, (.ref (qL 0))), (1, (.ref (qP 0))), (2, (.int x2)), (3, (.int (x3 + 1))), (4, (.int x4)), (5, (.int x5))] [1, 2, 3, 0, 4, 5] (by decide) rfl C dX0_countOpens_80 ?_
      refine z_goto (pc := 83) 4 C dX0_countOpens_83 (by decide) ?_
      refine z_lv [(0, (.ref (qL 0))), (1, (.ref (qP 0))), (2, (.int x2)), (3, (.int (x3 + 1)))] [0, 1, 2, 3] rfl ?_
      exact hk_4 _ _
    · refine z_aload_n (pc := 35) 0 rfl rfl C dX0_countOpens_35 ?_
      refine z_aload_n (pc := 36) 1 rfl rfl C dX0_countOpens_36 ?_
      refine z_iload (pc := 37) 5 rfl C dX0_countOpens_37 ?_
      refine z_callV (pc := 39) (rf' := 2) (rl' := 42) (fX0_pinNode F x5 sL sP) [(.ref (qP 0)), (.int x5)] [] [(0, qL, sL), (2, qP, sP)] (fun r_3 => (some (.int r_3))) (fun r_3 => [(0, qL, sL), (2, qP, sP)]) [] (fun r_3 => [(0, qL, sL), (2, qP, sP)]) C dX0_countOpens_39 zy_X0_pinNode zw_492 (fun _ hr9 => mX0_pinNode  hr9) (by decide) rfl rfl (by decide) rfl (Nat.le_of_ble_eq_true rfl) (List.Perm.refl _) (fun _ => List.Perm.refl _) rfl (fun r_3 hr_4 => ?_)
      show zJ X 7 res _ 42 [(0, (.ref (qL 0))), (1, (.ref (qP 0))), (2, (.int x2)), (3, (.int x3)), (4, (.int x4)), (5, (.int x5))] [(.int r_3)] [(0, qL, sL), (2, qP, sP)]
      refine z_istore (pc := 42) [(0, (.ref (qL 0))), (1, (.ref (qP 0))), (2, (.int x2)), (3, (.int x3)), (4, (.int x4)), (5, (.int x5)), (6, (.int r_3))] [1, 2, 3, 4, 5, 6, 0] (by decide) rfl C dX0_countOpens_42 ?_
      refine z_iload (pc := 44) 6 rfl C dX0_countOpens_44 ?_
      refine z_iconst (pc := 46) (-1 : Int32) (by decide) C dX0_countOpens_46 ?_
      refine z_icmp_eq (pc := 47) 74 C dX0_countOpens_47 (by decide) ?_ ?_
      · refine z_iinc (pc := 74) (x5 + 1) 5 rfl rfl [(0, (.ref (qL 0))), (1, (.ref (qP 0))), (2, (.int x2)), (3, (.int x3)), (4, (.int x4)), (5, (.int (x5 + 1))), (6, (.int r_3))] [1, 2, 3, 4, 5, 0, 6] (by decide) rfl C dX0_countOpens_74 ?_
        refine z_goto (pc := 77) 23 C dX0_countOpens_77 (by decide) ?_
        refine z_lv [(0, (.ref (qL 0))), (1, (.ref (qP 0))), (2, (.int x2)), (3, (.int x3)), (4, (.int x4)), (5, (.int (x5 + 1)))] [0, 1, 2, 3, 4, 5] rfl ?_
        exact hk_23 _ _
      · refine z_iload (pc := 50) 6 rfl C dX0_countOpens_50 ?_
        refine z_iload (pc := 52) 4 rfl C dX0_countOpens_52 ?_
        refine z_icmp_eq (pc := 54) 74 C dX0_countOpens_54 (by decide) ?_ ?_
        · refine z_iinc (pc := 74) (x5 + 1) 5 rfl rfl [(0, (.ref (qL 0))), (1, (.ref (qP 0))), (2, (.int x2)), (3, (.int x3)), (4, (.int x4)), (5, (.int (x5 + 1))), (6, (.int r_3))] [1, 2, 3, 4, 5, 0, 6] (by decide) rfl C dX0_countOpens_74 ?_
          refine z_goto (pc := 77) 23 C dX0_countOpens_77 (by decide) ?_
          refine z_lv [(0, (.ref (qL 0))), (1, (.ref (qP 0))), (2, (.int x2)), (3, (.int x3)), (4, (.int x4)), (5, (.int (x5 + 1)))] [0, 1, 2, 3, 4, 5] rfl ?_
          exact hk_23 _ _
        · refine z_aload_n (pc := 57) 1 rfl rfl C dX0_countOpens_57 ?_
          refine z_iload_n (pc := 58) 3 rfl rfl C dX0_countOpens_58 ?_
          refine z_callV (pc := 59) (rf' := 0) (rl' := 0) (fX2_pinNet x3 sP) [(.int x3)] [] [(2, qP, sP)] (fun r_5 => (some (.int r_5))) (fun r_5 => [(2, qP, sP)]) [(0, qL, sL)] (fun r_5 => [(0, qL, sL), (2, qP, sP)]) C dX0_countOpens_59 zy_X2_pinNet zw_500 (fun _ hr9 => mX2_pinNet  hr9) (by decide) rfl rfl (by decide) rfl (Nat.le_of_ble_eq_true rfl) (z_pn 2 _ rfl [1, 0] (by decide)).symm (fun _ => (z_pn 2 _ rfl [1, 0] (by decide)).symm) rfl (fun r_5 hr_6 => ?_)
          show zJ X 7 res _ 62 [(0, (.ref (qL 0))), (1, (.ref (qP 0))), (2, (.int x2)), (3, (.int x3)), (4, (.int x4)), (5, (.int x5)), (6, (.int r_3))] [(.int r_5)] [(0, qL, sL), (2, qP, sP)]
          refine z_aload_n (pc := 62) 1 rfl rfl C dX0_countOpens_62 ?_
          refine z_iload (pc := 63) 5 rfl C dX0_countOpens_63 ?_
          refine z_callV (pc := 65) (rf' := 0) (rl' := 0) (fX2_pinNet x5 sP) [(.int x5)] [(.int r_5)] [(2, qP, sP)] (fun r_7 => (some (.int r_7))) (fun r_7 => [(2, qP, sP)]) [(0, qL, sL)] (fun r_7 => [(0, qL, sL), (2, qP, sP)]) C dX0_countOpens_65 zy_X2_pinNet zw_500 (fun _ hr9 => mX2_pinNet  hr9) (by decide) rfl rfl (by decide) rfl (Nat.le_of_ble_eq_true rfl) (z_pn 2 _ rfl [1, 0] (by decide)).symm (fun _ => (z_pn 2 _ rfl [1, 0] (by decide)).symm) rfl (fun r_7 hr_8 => ?_)
          show zJ X 7 res _ 68 [(0, (.ref (qL 0))), (1, (.ref (qP 0))), (2, (.int x2)), (3, (.int x3)), (4, (.int x4)), (5, (.int x5)), (6, (.int r_3))] [(.int r_7), (.int r_5)] [(0, qL, sL), (2, qP, sP)]
          refine z_icmp_ne (pc := 68) 74 C dX0_countOpens_68 (by decide) ?_ ?_
          · refine z_iinc (pc := 71) (x2 + 1) 2 rfl rfl [(0, (.ref (qL 0))), (1, (.ref (qP 0))), (2, (.int (x2 + 1))), (3, (.int x3)), (4, (.int x4)), (5, (.int x5)), (6, (.int r_3))] [1, 2, 0, 3, 4, 5, 6] (by decide) rfl C dX0_countOpens_71 ?_
            refine z_iinc (pc := 74) (x5 + 1) 5 rfl rfl [(0, (.ref (qL 0))), (1, (.ref (qP 0))), (2, (.int (x2 + 1))), (3, (.int x3)), (4, (.int x4)), (5, (.int (x5 + 1))), (6, (.int r_3))] [1, 2, 3, 4, 5, 0, 6] (by decide) rfl C dX0_countOpens_74 ?_
            refine z_goto (pc := 77) 23 C dX0_countOpens_77 (by decide) ?_
            refine z_lv [(0, (.ref (qL 0))), (1, (.ref (qP 0))), (2, (.int (x2 + 1))), (3, (.int x3)), (4, (.int x4)), (5, (.int (x5 + 1)))] [0, 1, 2, 3, 4, 5] rfl ?_
            exact hk_23 _ _
          · refine z_iinc (pc := 74) (x5 + 1) 5 rfl rfl [(0, (.ref (qL 0))), (1, (.ref (qP 0))), (2, (.int x2)), (3, (.int x3)), (4, (.int x4)), (5, (.int (x5 + 1))), (6, (.int r_3))] [1, 2, 3, 4, 5, 0, 6] (by decide) rfl C dX0_countOpens_74 ?_
            refine z_goto (pc := 77) 23 C dX0_countOpens_77 (by decide) ?_
            refine z_lv [(0, (.ref (qL 0))), (1, (.ref (qP 0))), (2, (.int x2)), (3, (.int x3)), (4, (.int x4)), (5, (.int (x5 + 1)))] [0, 1, 2, 3, 4, 5] rfl ?_
            exact hk_23 _ _
def bX0_countOpens_4 (F : Nat) (sL : zOS) (sP : zOS) (kc_4 : (Int32 × Int32) → Option (Int32)) (x2 : Int32) (x3 : Int32) : Option (Int32) := (if (zF sP 4) ≤ x3 then (some (x2)) else (Option.bind (fX0_pinNode F x3 sL sP) (fun r_1 : Int32 => (zit (P := Int32 × Int32) (R := Int32) (fun kc9 p9 => bX0_countOpens_23 F kc_4 x3 r_1 sL sP kc9 p9.1 p9.2) F (x2, (0 : Int32))))))
set_option maxRecDepth 20000 in
theorem vX0_countOpens_4 {X : zCx} {res : Int32} {F : Nat} {qL : Nat → Nat} {qP : Nat → Nat} {sL : zOS} {sP : zOS} {kc_4 : (Int32 × Int32) → Option (Int32)} (C : zC X RX0 cX0_countOpens 7 3 64) (hR : zR X (some .int) (some (.int res)) [(0, qL, sL), (2, qP, sP)]) (hk_4 : ∀ (y2 : Int32) (y3 : Int32), zJ X 7 res (kc_4 (y2, y3)) 4 [(0, (.ref (qL 0))), (1, (.ref (qP 0))), (2, (.int y2)), (3, (.int y3))] [] [(0, qL, sL), (2, qP, sP)]) (x2 : Int32) (x3 : Int32) : zJ X 7 res (bX0_countOpens_4 F sL sP kc_4 x2 x3) 4 [(0, (.ref (qL 0))), (1, (.ref (qP 0))), (2, (.int x2)), (3, (.int x3))] [] [(0, qL, sL), (2, qP, sP)] := by
  unfold bX0_countOpens_4
  refine z_iload_n (pc := 4) 3 rfl rfl C dX0_countOpens_4 ?_
  refine z_aload_n (pc := 5) 1 rfl rfl C dX0_countOpens_5 ?_
  refine z_getI (pc := 6) 1 4 C dX0_countOpens_6 rfl (by decide) (by decide) rfl zw_119 ?_
  refine z_icmp_ge (pc := 9) 86 C dX0_countOpens_9 (by decide) ?_ ?_
  · refine z_iload_n (pc := 86) 2 rfl rfl C dX0_countOpens_86 ?_
    exact z_ireturn (pc := 87) C hR dX0_countOpens_87 (fun h => by subst h; exact ⟨rfl, rfl⟩)
  · refine z_aload_n (pc := 12) 0 rfl rfl C dX0_countOpens_12 ?_
    refine z_aload_n (pc := 13) 1 rfl rfl C dX0_countOpens_13 ?_
    refine z_iload_n (pc := 14) 3 rfl rfl C dX0_countOpens_14 ?_
    refine z_callV (pc := 15) (rf' := 2) (rl' := 42) (fX0_pinNode F x3 sL sP) [(.ref (qP 0)), (.int x3)] [] [(0, qL, sL), (2, qP, sP)] (fun r_1 => (some (.int r_1))) (fun r_1 => [(0, qL, sL), (2, qP, sP)]) [] (fun r_1 => [(0, qL, sL), (2, qP, sP)]) C dX0_countOpens_15 zy_X0_pinNode zw_492 (fun _ hr9 => mX0_pinNode  hr9) (by decide) rfl rfl (by decide) rfl (Nat.le_of_ble_eq_true rfl) (List.Perm.refl _) (fun _ => List.Perm.refl _) rfl (fun r_1 hr_2 => ?_)
    show zJ X 7 res _ 18 [(0, (.ref (qL 0))), (1, (.ref (qP 0))), (2, (.int x2)), (3, (.int x3))] [(.int r_1)] [(0, qL, sL), (2, qP, sP)]
    refine z_istore (pc := 18) [(0, (.ref (qL 0))), (1, (.ref (qP 0))), (2, (.int x2)), (3, (.int x3)), (4, (.int r_1))] [1, 2, 3, 4, 0] (by decide) rfl C dX0_countOpens_18 ?_
    refine z_iconst (pc := 20) (0 : Int32) (by decide) C dX0_countOpens_20 ?_
    refine z_istore (pc := 21) [(0, (.ref (qL 0))), (1, (.ref (qP 0))), (2, (.int x2)), (3, (.int x3)), (4, (.int r_1)), (5, (.int (0 : Int32)))] [1, 2, 3, 4, 5, 0] (by decide) rfl C dX0_countOpens_21 ?_
    show zJ X 7 res _ 23 [(0, (.ref (qL 0))), (1, (.ref (qP 0))), (2, (.int x2)), (3, (.int x3)), (4, (.int r_1)), (5, (.int (0 : Int32)))] [] [(0, qL, sL), (2, qP, sP)]
    exact zit_J (P := Int32 × Int32) (B := (fun kc9 p9 => bX0_countOpens_23 F kc_4 x3 r_1 sL sP kc9 p9.1 p9.2)) (fun p9 => [(0, (.ref (qL 0))), (1, (.ref (qP 0))), (2, (.int p9.1)), (3, (.int x3)), (4, (.int r_1)), (5, (.int p9.2))]) (fun p9 => [(0, qL, sL), (2, qP, sP)]) (fun kc9 hk9 p9 => vX0_countOpens_23 C hR  hk_4 (fun a0 a1 => hk9 (a0, a1)) p9.1 p9.2) F _
def fX0_countOpens (F : Nat) (sL : zOS) (sP : zOS) : Option (Int32) := (zit (P := Int32 × Int32) (R := Int32) (fun kc9 p9 => bX0_countOpens_4 F sL sP kc9 p9.1 p9.2) F ((0 : Int32), (1 : Int32)))
set_option maxRecDepth 20000 in
theorem wX0_countOpens {X : zCx} {res : Int32} {F : Nat} {qL : Nat → Nat} {qP : Nat → Nat} {sL : zOS} {sP : zOS} (C : zC X RX0 cX0_countOpens 7 3 64) (hR : zR X (some .int) (some (.int res)) [(0, qL, sL), (2, qP, sP)])  : zJ X 7 res (fX0_countOpens F sL sP) 0 [(0, (.ref (qL 0))), (1, (.ref (qP 0)))] [] [(0, qL, sL), (2, qP, sP)] := by
  unfold fX0_countOpens
  refine z_iconst (pc := 0) (0 : Int32) (by decide) C dX0_countOpens_0 ?_
  refine z_istore_n (pc := 1) [(0, (.ref (qL 0))), (1, (.ref (qP 0))), (2, (.int (0 : Int32)))] [1, 2, 0] (by decide) rfl rfl C dX0_countOpens_1 ?_
  refine z_iconst (pc := 2) (1 : Int32) (by decide) C dX0_countOpens_2 ?_
  refine z_istore_n (pc := 3) [(0, (.ref (qL 0))), (1, (.ref (qP 0))), (2, (.int (0 : Int32))), (3, (.int (1 : Int32)))] [1, 2, 3, 0] (by decide) rfl rfl C dX0_countOpens_3 ?_
  show zJ X 7 res _ 4 [(0, (.ref (qL 0))), (1, (.ref (qP 0))), (2, (.int (0 : Int32))), (3, (.int (1 : Int32)))] [] [(0, qL, sL), (2, qP, sP)]
  exact zit_J (P := Int32 × Int32) (B := (fun kc9 p9 => bX0_countOpens_4 F sL sP kc9 p9.1 p9.2)) (fun p9 => [(0, (.ref (qL 0))), (1, (.ref (qP 0))), (2, (.int p9.1)), (3, (.int p9.2))]) (fun p9 => [(0, qL, sL), (2, qP, sP)]) (fun kc9 hk9 p9 => vX0_countOpens_4 C hR   (fun a0 a1 => hk9 (a0, a1)) p9.1 p9.2) F _
theorem mX0_countOpens {F : Nat} {qL : Nat → Nat} {qP : Nat → Nat} {sL : zOS} {sP : zOS} {res : Int32}  (hf : fX0_countOpens F sL sP = some res) : zM yX0_countOpens cX0_countOpens 7 (some .int) 3 64 [(.ref (qL 0)), (.ref (qP 0))] [(0, qL, sL), (2, qP, sP)] (some (.int res)) [(0, qL, sL), (2, qP, sP)] := zM_of (by decide +kernel) (Nat.le_of_ble_eq_true rfl) (fun X C hR => wX0_countOpens (F := F) C hR  hf)
theorem dX0_tellGate_0 : decode cX0_tellGate 0 = .ok (.iload_n 2, 1) := by decide +kernel
theorem dX0_tellGate_1 : decode cX0_tellGate 1 = .ok (.tableswitch 73 0 4 #[35, 42, 49, 56, 66], 35) := by decide +kernel
theorem dX0_tellGate_36 : decode cX0_tellGate 36 = .ok (.aload_n 0, 1) := by decide +kernel
theorem dX0_tellGate_37 : decode cX0_tellGate 37 = .ok (.getfield 39, 3) := by decide +kernel
theorem dX0_tellGate_40 : decode cX0_tellGate 40 = .ok (.iload_n 1, 1) := by decide +kernel
theorem dX0_tellGate_41 : decode cX0_tellGate 41 = .ok (.iaload, 1) := by decide +kernel
theorem dX0_tellGate_42 : decode cX0_tellGate 42 = .ok (.ireturn, 1) := by decide +kernel
theorem dX0_tellGate_43 : decode cX0_tellGate 43 = .ok (.aload_n 0, 1) := by decide +kernel
theorem dX0_tellGate_44 : decode cX0_tellGate 44 = .ok (.getfield 42, 3) := by decide +kernel
theorem dX0_tellGate_47 : decode cX0_tellGate 47 = .ok (.iload_n 1, 1) := by decide +kernel
theorem dX0_tellGate_48 : decode cX0_tellGate 48 = .ok (.iaload, 1) := by decide +kernel
theorem dX0_tellGate_49 : decode cX0_tellGate 49 = .ok (.ireturn, 1) := by decide +kernel
theorem dX0_tellGate_50 : decode cX0_tellGate 50 = .ok (.aload_n 0, 1) := by decide +kernel
theorem dX0_tellGate_51 : decode cX0_tellGate 51 = .ok (.getfield 45, 3) := by decide +kernel
theorem dX0_tellGate_54 : decode cX0_tellGate 54 = .ok (.iload_n 1, 1) := by decide +kernel
theorem dX0_tellGate_55 : decode cX0_tellGate 55 = .ok (.iaload, 1) := by decide +kernel
theorem dX0_tellGate_56 : decode cX0_tellGate 56 = .ok (.ireturn, 1) := by decide +kernel
theorem dX0_tellGate_57 : decode cX0_tellGate 57 = .ok (.aload_n 0, 1) := by decide +kernel
theorem dX0_tellGate_58 : decode cX0_tellGate 58 = .ok (.getfield 36, 3) := by decide +kernel
theorem dX0_tellGate_61 : decode cX0_tellGate 61 = .ok (.iload_n 1, 1) := by decide +kernel
theorem dX0_tellGate_62 : decode cX0_tellGate 62 = .ok (.laload, 1) := by decide +kernel
theorem dX0_tellGate_63 : decode cX0_tellGate 63 = .ok (.invokestatic 110, 3) := by decide +kernel
theorem dX0_tellGate_66 : decode cX0_tellGate 66 = .ok (.ireturn, 1) := by decide +kernel
theorem dX0_tellGate_67 : decode cX0_tellGate 67 = .ok (.aload_n 0, 1) := by decide +kernel
theorem dX0_tellGate_68 : decode cX0_tellGate 68 = .ok (.getfield 48, 3) := by decide +kernel
theorem dX0_tellGate_71 : decode cX0_tellGate 71 = .ok (.iload_n 1, 1) := by decide +kernel
theorem dX0_tellGate_72 : decode cX0_tellGate 72 = .ok (.iaload, 1) := by decide +kernel
theorem dX0_tellGate_73 : decode cX0_tellGate 73 = .ok (.ireturn, 1) := by decide +kernel
theorem dX0_tellGate_74 : decode cX0_tellGate 74 = .ok (.aload_n 0, 1) := by decide +kernel
theorem dX0_tellGate_75 : decode cX0_tellGate 75 = .ok (.getfield 36, 3) := by decide +kernel
theorem dX0_tellGate_78 : decode cX0_tellGate 78 = .ok (.iload_n 1, 1) := by decide +kernel
theorem dX0_tellGate_79 : decode cX0_tellGate 79 = .ok (.laload, 1) := by decide +kernel
theorem dX0_tellGate_80 : decode cX0_tellGate 80 = .ok (.invokestatic 116, 3) := by decide +kernel
theorem dX0_tellGate_83 : decode cX0_tellGate 83 = .ok (.ireturn, 1) := by decide +kernel
def fX0_tellGate (x1 : Int32) (x2 : Int32) (sL : zOS) : Option (Int32) := (if x2 = (0 : Int32) then (zchk x1 32 (some (zI sL 9 x1.toNatClampNeg))) else (if x2 = (1 : Int32) then (zchk x1 32 (some (zI sL 10 x1.toNatClampNeg))) else (if x2 = (2 : Int32) then (zchk x1 32 (some (zI sL 11 x1.toNatClampNeg))) else (if x2 = (3 : Int32) then (zchk x1 32 (Option.bind (fJ13_bitCount_95d88 (zL sL 8 x1.toNatClampNeg)) (fun r_5 : Int32 => (some (r_5))))) else (if x2 = (4 : Int32) then (zchk x1 32 (some (zI sL 12 x1.toNatClampNeg))) else (zchk x1 32 (Option.bind (fJ13_numberOfTrailingZeros_95d88 (zL sL 8 x1.toNatClampNeg)) (fun r_8 : Int32 => (some (r_8))))))))))
set_option maxRecDepth 20000 in
theorem wX0_tellGate {X : zCx} {res : Int32}  {qL : Nat → Nat} {x1 : Int32} {x2 : Int32} {sL : zOS} (C : zC X RX0 cX0_tellGate 3 2 43) (hR : zR X (some .int) (some (.int res)) [(0, qL, sL)])  : zJ X 3 res (fX0_tellGate x1 x2 sL) 0 [(0, (.ref (qL 0))), (1, (.int x1)), (2, (.int x2))] [] [(0, qL, sL)] := by
  unfold fX0_tellGate
  refine z_iload_n (pc := 0) 2 rfl rfl C dX0_tellGate_0 ?_
  refine z_if (fun hx_1 => ?_) (fun hx_1 => ?_)
  · refine z_tin (pc := 1) (0 : Int32) 36 hx_1 C dX0_tellGate_1 (by decide) (by decide) rfl (by decide) ?_
    refine z_aload_n (pc := 36) 0 rfl rfl C dX0_tellGate_36 ?_
    refine z_getR (pc := 37) 0 8 9 C dX0_tellGate_37 rfl (by decide) (by decide) rfl zw_151 ?_
    refine z_iload_n (pc := 40) 1 rfl rfl C dX0_tellGate_40 ?_
    refine z_iald (pc := 41) 0 C dX0_tellGate_41 rfl (by unfold zAr; decide) ?_
    exact z_ireturn (pc := 42) C hR dX0_tellGate_42 (fun h => by subst h; exact ⟨rfl, rfl⟩)
  · refine z_if (fun hx_2 => ?_) (fun hx_2 => ?_)
    · refine z_tin (pc := 1) (1 : Int32) 43 hx_2 C dX0_tellGate_1 (by decide) (by decide) rfl (by decide) ?_
      refine z_aload_n (pc := 43) 0 rfl rfl C dX0_tellGate_43 ?_
      refine z_getR (pc := 44) 0 9 10 C dX0_tellGate_44 rfl (by decide) (by decide) rfl zw_153 ?_
      refine z_iload_n (pc := 47) 1 rfl rfl C dX0_tellGate_47 ?_
      refine z_iald (pc := 48) 0 C dX0_tellGate_48 rfl (by unfold zAr; decide) ?_
      exact z_ireturn (pc := 49) C hR dX0_tellGate_49 (fun h => by subst h; exact ⟨rfl, rfl⟩)
    · refine z_if (fun hx_3 => ?_) (fun hx_3 => ?_)
      · refine z_tin (pc := 1) (2 : Int32) 50 hx_3 C dX0_tellGate_1 (by decide) (by decide) rfl (by decide) ?_
        refine z_aload_n (pc := 50) 0 rfl rfl C dX0_tellGate_50 ?_
        refine z_getR (pc := 51) 0 10 11 C dX0_tellGate_51 rfl (by decide) (by decide) rfl zw_155 ?_
        refine z_iload_n (pc := 54) 1 rfl rfl C dX0_tellGate_54 ?_
        refine z_iald (pc := 55) 0 C dX0_tellGate_55 rfl (by unfold zAr; decide) ?_
        exact z_ireturn (pc := 56) C hR dX0_tellGate_56 (fun h => by subst h; exact ⟨rfl, rfl⟩)
      · refine z_if (fun hx_4 => ?_) (fun hx_4 => ?_)
        · refine z_tin (pc := 1) (3 : Int32) 57 hx_4 C dX0_tellGate_1 (by decide) (by decide) rfl (by decide) ?_
          refine z_aload_n (pc := 57) 0 rfl rfl C dX0_tellGate_57 ?_
          refine z_getR (pc := 58) 0 7 8 C dX0_tellGate_58 rfl (by decide) (by decide) rfl zw_150 ?_
          refine z_iload_n (pc := 61) 1 rfl rfl C dX0_tellGate_61 ?_
          refine z_lald (pc := 62) 0 C dX0_tellGate_62 rfl (by unfold zAr; decide) ?_
          refine z_callS (pc := 63) (rf' := 0) (rl' := 0) (fJ13_bitCount_95d88 (zL sL 8 x1.toNatClampNeg)) [(.long (zL sL 8 x1.toNatClampNeg))] [] [] (fun r_5 => (some (.int r_5))) (fun r_5 => []) [(0, qL, sL)] (fun r_5 => [(0, qL, sL)]) C dX0_tellGate_63 zy_J13_bitCount_95d88 zw_598 (fun _ hr9 => mJ13_bitCount_95d88  hr9) (by decide) rfl (Nat.le_of_ble_eq_true rfl) (List.Perm.refl _) (fun _ => List.Perm.refl _) rfl (fun r_5 hr_6 => ?_)
          show zJ X 3 res _ 66 [(0, (.ref (qL 0))), (1, (.int x1)), (2, (.int x2))] [(.int r_5)] [(0, qL, sL)]
          exact z_ireturn (pc := 66) C hR dX0_tellGate_66 (fun h => by subst h; exact ⟨rfl, rfl⟩)
        · refine z_if (fun hx_7 => ?_) (fun hx_7 => ?_)
          · refine z_tin (pc := 1) (4 : Int32) 67 hx_7 C dX0_tellGate_1 (by decide) (by decide) rfl (by decide) ?_
            refine z_aload_n (pc := 67) 0 rfl rfl C dX0_tellGate_67 ?_
            refine z_getR (pc := 68) 0 11 12 C dX0_tellGate_68 rfl (by decide) (by decide) rfl zw_157 ?_
            refine z_iload_n (pc := 71) 1 rfl rfl C dX0_tellGate_71 ?_
            refine z_iald (pc := 72) 0 C dX0_tellGate_72 rfl (by unfold zAr; decide) ?_
            exact z_ireturn (pc := 73) C hR dX0_tellGate_73 (fun h => by subst h; exact ⟨rfl, rfl⟩)
          · refine z_tdef (pc := 1) [(0 : Int32), (1 : Int32), (2 : Int32), (3 : Int32), (4 : Int32)] 74 (by intro v hv; simp only [List.mem_cons, List.not_mem_nil, or_false] at hv; rcases hv with rfl | rfl | rfl | rfl | rfl <;> assumption) C dX0_tellGate_1 (by decide) (by decide) ?_
            refine z_aload_n (pc := 74) 0 rfl rfl C dX0_tellGate_74 ?_
            refine z_getR (pc := 75) 0 7 8 C dX0_tellGate_75 rfl (by decide) (by decide) rfl zw_150 ?_
            refine z_iload_n (pc := 78) 1 rfl rfl C dX0_tellGate_78 ?_
            refine z_lald (pc := 79) 0 C dX0_tellGate_79 rfl (by unfold zAr; decide) ?_
            refine z_callS (pc := 80) (rf' := 1) (rl' := 21) (fJ13_numberOfTrailingZeros_95d88 (zL sL 8 x1.toNatClampNeg)) [(.long (zL sL 8 x1.toNatClampNeg))] [] [] (fun r_8 => (some (.int r_8))) (fun r_8 => []) [(0, qL, sL)] (fun r_8 => [(0, qL, sL)]) C dX0_tellGate_80 zy_J13_numberOfTrailingZeros_95d88 zw_599 (fun _ hr9 => mJ13_numberOfTrailingZeros_95d88  hr9) (by decide) rfl (Nat.le_of_ble_eq_true rfl) (List.Perm.refl _) (fun _ => List.Perm.refl _) rfl (fun r_8 hr_9 => ?_)
            show zJ X 3 res _ 83 [(0, (.ref (qL 0))), (1, (.int x1)), (2, (.int x2))] [(.int r_8)] [(0, qL, sL)]
            exact z_ireturn (pc := 83) C hR dX0_tellGate_83 (fun h => by subst h; exact ⟨rfl, rfl⟩)
theorem mX0_tellGate  {qL : Nat → Nat} {x1 : Int32} {x2 : Int32} {sL : zOS} {res : Int32}  (hf : fX0_tellGate x1 x2 sL = some res) : zM yX0_tellGate cX0_tellGate 3 (some .int) 2 43 [(.ref (qL 0)), (.int x1), (.int x2)] [(0, qL, sL)] (some (.int res)) [(0, qL, sL)] := zM_of (by decide +kernel) (Nat.le_of_ble_eq_true rfl) (fun X C hR => wX0_tellGate C hR  hf)
theorem dX0_sizeOf_0 : decode cX0_sizeOf 0 = .ok (.iconst 0, 1) := by decide +kernel
theorem dX0_sizeOf_1 : decode cX0_sizeOf 1 = .ok (.istore_n 2, 1) := by decide +kernel
theorem dX0_sizeOf_2 : decode cX0_sizeOf 2 = .ok (.iconst 0, 1) := by decide +kernel
theorem dX0_sizeOf_3 : decode cX0_sizeOf 3 = .ok (.istore_n 3, 1) := by decide +kernel
theorem dX0_sizeOf_4 : decode cX0_sizeOf 4 = .ok (.iload_n 3, 1) := by decide +kernel
theorem dX0_sizeOf_5 : decode cX0_sizeOf 5 = .ok (.iconst 3, 1) := by decide +kernel
theorem dX0_sizeOf_6 : decode cX0_sizeOf 6 = .ok (.if_icmp .ge 23, 3) := by decide +kernel
theorem dX0_sizeOf_9 : decode cX0_sizeOf 9 = .ok (.iload_n 2, 1) := by decide +kernel
theorem dX0_sizeOf_10 : decode cX0_sizeOf 10 = .ok (.aload_n 0, 1) := by decide +kernel
theorem dX0_sizeOf_11 : decode cX0_sizeOf 11 = .ok (.getfield 30, 3) := by decide +kernel
theorem dX0_sizeOf_14 : decode cX0_sizeOf 14 = .ok (.iload_n 3, 1) := by decide +kernel
theorem dX0_sizeOf_15 : decode cX0_sizeOf 15 = .ok (.aaload, 1) := by decide +kernel
theorem dX0_sizeOf_16 : decode cX0_sizeOf 16 = .ok (.iload_n 1, 1) := by decide +kernel
theorem dX0_sizeOf_17 : decode cX0_sizeOf 17 = .ok (.laload, 1) := by decide +kernel
theorem dX0_sizeOf_18 : decode cX0_sizeOf 18 = .ok (.invokestatic 110, 3) := by decide +kernel
theorem dX0_sizeOf_21 : decode cX0_sizeOf 21 = .ok (.iadd, 1) := by decide +kernel
theorem dX0_sizeOf_22 : decode cX0_sizeOf 22 = .ok (.istore_n 2, 1) := by decide +kernel
theorem dX0_sizeOf_23 : decode cX0_sizeOf 23 = .ok (.iinc 3 1, 3) := by decide +kernel
theorem dX0_sizeOf_26 : decode cX0_sizeOf 26 = .ok (.goto (-22), 3) := by decide +kernel
theorem dX0_sizeOf_29 : decode cX0_sizeOf 29 = .ok (.iload_n 2, 1) := by decide +kernel
theorem dX0_sizeOf_30 : decode cX0_sizeOf 30 = .ok (.ireturn, 1) := by decide +kernel
def bX0_sizeOf_4 (F : Nat) (x1 : Int32) (sL : zOS) (kc_4 : (Int32 × Int32) → Option (Int32)) (x2 : Int32) (x3 : Int32) : Option (Int32) := (if (3 : Int32) ≤ x3 then (some (x2)) else (zchk x3 3 (zchk x1 96 (Option.bind (fJ13_bitCount_95d88 (zL sL (zbs 0 + x3.toNatClampNeg) x1.toNatClampNeg)) (fun r_2 : Int32 => (zlet (x2 + r_2) (fun x2_4 : Int32 => (kc_4 (x2_4, (x3 + 1))))))))))
set_option maxRecDepth 20000 in
theorem vX0_sizeOf_4 {X : zCx} {res : Int32} {F : Nat} {qL : Nat → Nat} {sL : zOS} {x1 : Int32} {kc_4 : (Int32 × Int32) → Option (Int32)} (C : zC X RX0 cX0_sizeOf 4 1 21) (hR : zR X (some .int) (some (.int res)) [(0, qL, sL)]) (hk_4 : ∀ (y2 : Int32) (y3 : Int32), zJ X 4 res (kc_4 (y2, y3)) 4 [(0, (.ref (qL 0))), (1, (.int x1)), (2, (.int y2)), (3, (.int y3))] [] [(0, qL, sL)]) (x2 : Int32) (x3 : Int32) : zJ X 4 res (bX0_sizeOf_4 F x1 sL kc_4 x2 x3) 4 [(0, (.ref (qL 0))), (1, (.int x1)), (2, (.int x2)), (3, (.int x3))] [] [(0, qL, sL)] := by
  unfold bX0_sizeOf_4
  refine z_iload_n (pc := 4) 3 rfl rfl C dX0_sizeOf_4 ?_
  refine z_iconst (pc := 5) (3 : Int32) (by decide) C dX0_sizeOf_5 ?_
  refine z_icmp_ge (pc := 6) 29 C dX0_sizeOf_6 (by decide) ?_ ?_
  · refine z_iload_n (pc := 29) 2 rfl rfl C dX0_sizeOf_29 ?_
    exact z_ireturn (pc := 30) C hR dX0_sizeOf_30 (fun h => by subst h; exact ⟨rfl, rfl⟩)
  · refine z_iload_n (pc := 9) 2 rfl rfl C dX0_sizeOf_9 ?_
    refine z_aload_n (pc := 10) 0 rfl rfl C dX0_sizeOf_10 ?_
    refine z_getR (pc := 11) 0 5 6 C dX0_sizeOf_11 rfl (by decide) (by decide) rfl zw_148 ?_
    refine z_iload_n (pc := 14) 3 rfl rfl C dX0_sizeOf_14 ?_
    refine z_aal (kd := 4) (pc := 15) 0 C dX0_sizeOf_15 rfl (by unfold zAr; decide) (by decide) (fun hi_1 => ?_)
    refine z_iload_n (pc := 16) 1 rfl rfl C dX0_sizeOf_16 ?_
    refine z_lald (pc := 17) 0 C dX0_sizeOf_17 rfl (zAr_w hi_1) ?_
    refine z_callS (pc := 18) (rf' := 0) (rl' := 0) (fJ13_bitCount_95d88 (zL sL (zbs 0 + x3.toNatClampNeg) x1.toNatClampNeg)) [(.long (zL sL (zbs 0 + x3.toNatClampNeg) x1.toNatClampNeg))] [(.int x2)] [] (fun r_2 => (some (.int r_2))) (fun r_2 => []) [(0, qL, sL)] (fun r_2 => [(0, qL, sL)]) C dX0_sizeOf_18 zy_J13_bitCount_95d88 zw_598 (fun _ hr9 => mJ13_bitCount_95d88  hr9) (by decide) rfl (Nat.le_of_ble_eq_true rfl) (List.Perm.refl _) (fun _ => List.Perm.refl _) rfl (fun r_2 hr_3 => ?_)
    show zJ X 4 res _ 21 [(0, (.ref (qL 0))), (1, (.int x1)), (2, (.int x2)), (3, (.int x3))] [(.int r_2), (.int x2)] [(0, qL, sL)]
    refine z_iadd (pc := 21) C dX0_sizeOf_21 ?_
    refine z_leti (fun x2_4 => ?_)
    refine z_istore_n (pc := 22) [(0, (.ref (qL 0))), (1, (.int x1)), (2, (.int x2_4)), (3, (.int x3))] [1, 2, 0, 3] (by decide) rfl rfl C dX0_sizeOf_22 ?_
    refine z_iinc (pc := 23) (x3 + 1) 3 rfl rfl [(0, (.ref (qL 0))), (1, (.int x1)), (2, (.int x2_4)), (3, (.int (x3 + 1)))] [1, 2, 3, 0] (by decide) rfl C dX0_sizeOf_23 ?_
    refine z_goto (pc := 26) 4 C dX0_sizeOf_26 (by decide) ?_
    exact hk_4 _ _
def fX0_sizeOf (F : Nat) (x1 : Int32) (sL : zOS) : Option (Int32) := (zit (P := Int32 × Int32) (R := Int32) (fun kc9 p9 => bX0_sizeOf_4 F x1 sL kc9 p9.1 p9.2) F ((0 : Int32), (0 : Int32)))
set_option maxRecDepth 20000 in
theorem wX0_sizeOf {X : zCx} {res : Int32} {F : Nat} {qL : Nat → Nat} {x1 : Int32} {sL : zOS} (C : zC X RX0 cX0_sizeOf 4 1 21) (hR : zR X (some .int) (some (.int res)) [(0, qL, sL)])  : zJ X 4 res (fX0_sizeOf F x1 sL) 0 [(0, (.ref (qL 0))), (1, (.int x1))] [] [(0, qL, sL)] := by
  unfold fX0_sizeOf
  refine z_iconst (pc := 0) (0 : Int32) (by decide) C dX0_sizeOf_0 ?_
  refine z_istore_n (pc := 1) [(0, (.ref (qL 0))), (1, (.int x1)), (2, (.int (0 : Int32)))] [1, 2, 0] (by decide) rfl rfl C dX0_sizeOf_1 ?_
  refine z_iconst (pc := 2) (0 : Int32) (by decide) C dX0_sizeOf_2 ?_
  refine z_istore_n (pc := 3) [(0, (.ref (qL 0))), (1, (.int x1)), (2, (.int (0 : Int32))), (3, (.int (0 : Int32)))] [1, 2, 3, 0] (by decide) rfl rfl C dX0_sizeOf_3 ?_
  show zJ X 4 res _ 4 [(0, (.ref (qL 0))), (1, (.int x1)), (2, (.int (0 : Int32))), (3, (.int (0 : Int32)))] [] [(0, qL, sL)]
  exact zit_J (P := Int32 × Int32) (B := (fun kc9 p9 => bX0_sizeOf_4 F x1 sL kc9 p9.1 p9.2)) (fun p9 => [(0, (.ref (qL 0))), (1, (.int x1)), (2, (.int p9.1)), (3, (.int p9.2))]) (fun p9 => [(0, qL, sL)]) (fun kc9 hk9 p9 => vX0_sizeOf_4 C hR   (fun a0 a1 => hk9 (a0, a1)) p9.1 p9.2) F _
theorem mX0_sizeOf {F : Nat} {qL : Nat → Nat} {x1 : Int32} {sL : zOS} {res : Int32}  (hf : fX0_sizeOf F x1 sL = some res) : zM yX0_sizeOf cX0_sizeOf 4 (some .int) 1 21 [(.ref (qL 0)), (.int x1)] [(0, qL, sL)] (some (.int res)) [(0, qL, sL)] := zM_of (by decide +kernel) (Nat.le_of_ble_eq_true rfl) (fun X C hR => wX0_sizeOf (F := F) C hR  hf)
theorem dX0_hangOf_0 : decode cX0_hangOf 0 = .ok (.iload_n 1, 1) := by decide +kernel
theorem dX0_hangOf_1 : decode cX0_hangOf 1 = .ok (.aload_n 0, 1) := by decide +kernel
theorem dX0_hangOf_2 : decode cX0_hangOf 2 = .ok (.getfield 55, 3) := by decide +kernel
theorem dX0_hangOf_5 : decode cX0_hangOf 5 = .ok (.invokestatic 131, 3) := by decide +kernel
theorem dX0_hangOf_8 : decode cX0_hangOf 8 = .ok (.ifCond .eq 12, 3) := by decide +kernel
theorem dX0_hangOf_11 : decode cX0_hangOf 11 = .ok (.aload_n 0, 1) := by decide +kernel
theorem dX0_hangOf_12 : decode cX0_hangOf 12 = .ok (.getfield 33, 3) := by decide +kernel
theorem dX0_hangOf_15 : decode cX0_hangOf 15 = .ok (.iload_n 1, 1) := by decide +kernel
theorem dX0_hangOf_16 : decode cX0_hangOf 16 = .ok (.iaload, 1) := by decide +kernel
theorem dX0_hangOf_17 : decode cX0_hangOf 17 = .ok (.goto 4, 3) := by decide +kernel
theorem dX0_hangOf_20 : decode cX0_hangOf 20 = .ok (.iconst 0, 1) := by decide +kernel
theorem dX0_hangOf_21 : decode cX0_hangOf 21 = .ok (.ireturn, 1) := by decide +kernel
def fX0_hangOf (x1 : Int32) (sL : zOS) : Option (Int32) := (Option.bind (fX4_isWithin x1 (zF sL 13)) (fun r_1 : Int32 => (if r_1 = 0 then (some ((0 : Int32))) else (zchk x1 96 (some (zI sL 7 x1.toNatClampNeg))))))
set_option maxRecDepth 20000 in
theorem wX0_hangOf {X : zCx} {res : Int32}  {qL : Nat → Nat} {x1 : Int32} {sL : zOS} (C : zC X RX0 cX0_hangOf 2 1 21) (hR : zR X (some .int) (some (.int res)) [(0, qL, sL)])  : zJ X 2 res (fX0_hangOf x1 sL) 0 [(0, (.ref (qL 0))), (1, (.int x1))] [] [(0, qL, sL)] := by
  unfold fX0_hangOf
  refine z_iload_n (pc := 0) 1 rfl rfl C dX0_hangOf_0 ?_
  refine z_aload_n (pc := 1) 0 rfl rfl C dX0_hangOf_1 ?_
  refine z_getI (pc := 2) 0 13 C dX0_hangOf_2 rfl (by decide) (by decide) rfl zw_160 ?_
  refine z_callN (pc := 5) (rf' := 0) (rl' := 0) (fX4_isWithin x1 (zF sL 13)) [(.int x1), (.int (zF sL 13))] [] (fun r_1 => (some (.int r_1))) C dX0_hangOf_5 zy_X4_isWithin (fun U h => h.2.2.2) (fun _ hr9 => mX4_isWithin  hr9) (by decide) rfl (Nat.le_of_ble_eq_true rfl) rfl (fun r_1 hr_2 => ?_)
  show zJ X 2 res _ 8 [(0, (.ref (qL 0))), (1, (.int x1))] [(.int r_1)] [(0, qL, sL)]
  refine z_if_eq (pc := 8) 20 C dX0_hangOf_8 (by decide) ?_ ?_
  · refine z_iconst (pc := 20) (0 : Int32) (by decide) C dX0_hangOf_20 ?_
    exact z_ireturn (pc := 21) C hR dX0_hangOf_21 (fun h => by subst h; exact ⟨rfl, rfl⟩)
  · refine z_aload_n (pc := 11) 0 rfl rfl C dX0_hangOf_11 ?_
    refine z_getR (pc := 12) 0 6 7 C dX0_hangOf_12 rfl (by decide) (by decide) rfl zw_149 ?_
    refine z_iload_n (pc := 15) 1 rfl rfl C dX0_hangOf_15 ?_
    refine z_iald (pc := 16) 0 C dX0_hangOf_16 rfl (by unfold zAr; decide) ?_
    refine z_goto (pc := 17) 21 C dX0_hangOf_17 (by decide) ?_
    exact z_ireturn (pc := 21) C hR dX0_hangOf_21 (fun h => by subst h; exact ⟨rfl, rfl⟩)
theorem mX0_hangOf  {qL : Nat → Nat} {x1 : Int32} {sL : zOS} {res : Int32}  (hf : fX0_hangOf x1 sL = some res) : zM yX0_hangOf cX0_hangOf 2 (some .int) 1 21 [(.ref (qL 0)), (.int x1)] [(0, qL, sL)] (some (.int res)) [(0, qL, sL)] := zM_of (by decide +kernel) (Nat.le_of_ble_eq_true rfl) (fun X C hR => wX0_hangOf C hR  hf)
theorem dX0_mixInto_0 : decode cX0_mixInto 0 = .ok (.lload_n 1, 1) := by decide +kernel
theorem dX0_mixInto_1 : decode cX0_mixInto 1 = .ok (.lstore_n 3, 1) := by decide +kernel
theorem dX0_mixInto_2 : decode cX0_mixInto 2 = .ok (.iconst 0, 1) := by decide +kernel
theorem dX0_mixInto_3 : decode cX0_mixInto 3 = .ok (.istore 5, 2) := by decide +kernel
theorem dX0_mixInto_5 : decode cX0_mixInto 5 = .ok (.iload 5, 2) := by decide +kernel
theorem dX0_mixInto_7 : decode cX0_mixInto 7 = .ok (.aload_n 0, 1) := by decide +kernel
theorem dX0_mixInto_8 : decode cX0_mixInto 8 = .ok (.getfield 58, 3) := by decide +kernel
theorem dX0_mixInto_11 : decode cX0_mixInto 11 = .ok (.if_icmp .ge 40, 3) := by decide +kernel
theorem dX0_mixInto_14 : decode cX0_mixInto 14 = .ok (.iconst 0, 1) := by decide +kernel
theorem dX0_mixInto_15 : decode cX0_mixInto 15 = .ok (.istore 6, 2) := by decide +kernel
theorem dX0_mixInto_17 : decode cX0_mixInto 17 = .ok (.iload 6, 2) := by decide +kernel
theorem dX0_mixInto_19 : decode cX0_mixInto 19 = .ok (.iconst 5, 1) := by decide +kernel
theorem dX0_mixInto_20 : decode cX0_mixInto 20 = .ok (.if_icmp .gt 25, 3) := by decide +kernel
theorem dX0_mixInto_23 : decode cX0_mixInto 23 = .ok (.ldc2_w 119, 3) := by decide +kernel
theorem dX0_mixInto_26 : decode cX0_mixInto 26 = .ok (.lload_n 3, 1) := by decide +kernel
theorem dX0_mixInto_27 : decode cX0_mixInto 27 = .ok (.lmul, 1) := by decide +kernel
theorem dX0_mixInto_28 : decode cX0_mixInto 28 = .ok (.aload_n 0, 1) := by decide +kernel
theorem dX0_mixInto_29 : decode cX0_mixInto 29 = .ok (.iload 5, 2) := by decide +kernel
theorem dX0_mixInto_31 : decode cX0_mixInto 31 = .ok (.iload 6, 2) := by decide +kernel
theorem dX0_mixInto_33 : decode cX0_mixInto 33 = .ok (.invokevirtual 121, 3) := by decide +kernel
theorem dX0_mixInto_36 : decode cX0_mixInto 36 = .ok (.i2l, 1) := by decide +kernel
theorem dX0_mixInto_37 : decode cX0_mixInto 37 = .ok (.ladd, 1) := by decide +kernel
theorem dX0_mixInto_38 : decode cX0_mixInto 38 = .ok (.lstore_n 3, 1) := by decide +kernel
theorem dX0_mixInto_39 : decode cX0_mixInto 39 = .ok (.iinc 6 1, 3) := by decide +kernel
theorem dX0_mixInto_42 : decode cX0_mixInto 42 = .ok (.goto (-25), 3) := by decide +kernel
theorem dX0_mixInto_45 : decode cX0_mixInto 45 = .ok (.iinc 5 1, 3) := by decide +kernel
theorem dX0_mixInto_48 : decode cX0_mixInto 48 = .ok (.goto (-43), 3) := by decide +kernel
theorem dX0_mixInto_51 : decode cX0_mixInto 51 = .ok (.iconst 0, 1) := by decide +kernel
theorem dX0_mixInto_52 : decode cX0_mixInto 52 = .ok (.istore 5, 2) := by decide +kernel
theorem dX0_mixInto_54 : decode cX0_mixInto 54 = .ok (.iload 5, 2) := by decide +kernel
theorem dX0_mixInto_56 : decode cX0_mixInto 56 = .ok (.aload_n 0, 1) := by decide +kernel
theorem dX0_mixInto_57 : decode cX0_mixInto 57 = .ok (.getfield 55, 3) := by decide +kernel
theorem dX0_mixInto_60 : decode cX0_mixInto 60 = .ok (.if_icmp .ge 37, 3) := by decide +kernel
theorem dX0_mixInto_63 : decode cX0_mixInto 63 = .ok (.ldc2_w 119, 3) := by decide +kernel
theorem dX0_mixInto_66 : decode cX0_mixInto 66 = .ok (.lload_n 3, 1) := by decide +kernel
theorem dX0_mixInto_67 : decode cX0_mixInto 67 = .ok (.lmul, 1) := by decide +kernel
theorem dX0_mixInto_68 : decode cX0_mixInto 68 = .ok (.aload_n 0, 1) := by decide +kernel
theorem dX0_mixInto_69 : decode cX0_mixInto 69 = .ok (.iload 5, 2) := by decide +kernel
theorem dX0_mixInto_71 : decode cX0_mixInto 71 = .ok (.invokevirtual 125, 3) := by decide +kernel
theorem dX0_mixInto_74 : decode cX0_mixInto 74 = .ok (.i2l, 1) := by decide +kernel
theorem dX0_mixInto_75 : decode cX0_mixInto 75 = .ok (.ladd, 1) := by decide +kernel
theorem dX0_mixInto_76 : decode cX0_mixInto 76 = .ok (.lstore_n 3, 1) := by decide +kernel
theorem dX0_mixInto_77 : decode cX0_mixInto 77 = .ok (.ldc2_w 119, 3) := by decide +kernel
theorem dX0_mixInto_80 : decode cX0_mixInto 80 = .ok (.lload_n 3, 1) := by decide +kernel
theorem dX0_mixInto_81 : decode cX0_mixInto 81 = .ok (.lmul, 1) := by decide +kernel
theorem dX0_mixInto_82 : decode cX0_mixInto 82 = .ok (.aload_n 0, 1) := by decide +kernel
theorem dX0_mixInto_83 : decode cX0_mixInto 83 = .ok (.iload 5, 2) := by decide +kernel
theorem dX0_mixInto_85 : decode cX0_mixInto 85 = .ok (.invokevirtual 128, 3) := by decide +kernel
theorem dX0_mixInto_88 : decode cX0_mixInto 88 = .ok (.i2l, 1) := by decide +kernel
theorem dX0_mixInto_89 : decode cX0_mixInto 89 = .ok (.ladd, 1) := by decide +kernel
theorem dX0_mixInto_90 : decode cX0_mixInto 90 = .ok (.lstore_n 3, 1) := by decide +kernel
theorem dX0_mixInto_91 : decode cX0_mixInto 91 = .ok (.iinc 5 1, 3) := by decide +kernel
theorem dX0_mixInto_94 : decode cX0_mixInto 94 = .ok (.goto (-40), 3) := by decide +kernel
theorem dX0_mixInto_97 : decode cX0_mixInto 97 = .ok (.lload_n 3, 1) := by decide +kernel
theorem dX0_mixInto_98 : decode cX0_mixInto 98 = .ok (.lreturn, 1) := by decide +kernel
def bX0_mixInto_54 (F : Nat) (sL : zOS) (kc_54 : (Int64 × Int32) → Option (Int64)) (x3 : Int64) (x5 : Int32) : Option (Int64) := (if (zF sL 13) ≤ x5 then (some (x3)) else (Option.bind (fX0_sizeOf F x5 sL) (fun r_1 : Int32 => (zlet (((31 : Int64) * x3) + r_1.toInt64) (fun x3_3 : Int64 => (Option.bind (fX0_hangOf x5 sL) (fun r_4 : Int32 => (zlet (((31 : Int64) * x3_3) + r_4.toInt64) (fun x3_6 : Int64 => (kc_54 (x3_6, (x5 + 1))))))))))))
set_option maxRecDepth 20000 in
theorem vX0_mixInto_54 {X : zCx} {res : Int64} {F : Nat} {qL : Nat → Nat} {sL : zOS} {kc_54 : (Int64 × Int32) → Option (Int64)} (C : zC X RX0 cX0_mixInto 7 3 65) (hR : zR X (some .long) (some (.long res)) [(0, qL, sL)]) (hk_54 : ∀ (y3 : Int64) (y5 : Int32), zJ X 7 res (kc_54 (y3, y5)) 54 [(0, (.ref (qL 0))), (3, (.long y3)), (5, (.int y5))] [] [(0, qL, sL)]) (x3 : Int64) (x5 : Int32) : zJ X 7 res (bX0_mixInto_54 F sL kc_54 x3 x5) 54 [(0, (.ref (qL 0))), (3, (.long x3)), (5, (.int x5))] [] [(0, qL, sL)] := by
  unfold bX0_mixInto_54
  refine z_iload (pc := 54) 2 rfl C dX0_mixInto_54 ?_
  refine z_aload_n (pc := 56) 0 rfl rfl C dX0_mixInto_56 ?_
  refine z_getI (pc := 57) 0 13 C dX0_mixInto_57 rfl (by decide) (by decide) rfl zw_160 ?_
  refine z_icmp_ge (pc := 60) 97 C dX0_mixInto_60 (by decide) ?_ ?_
  · refine z_lload_n (pc := 97) 1 rfl rfl C dX0_mixInto_97 ?_
    exact z_lreturn (pc := 98) C hR dX0_mixInto_98 (fun h => by subst h; exact ⟨rfl, rfl⟩)
  · refine z_ldc2_w (pc := 63) (31 : Int64) zw_700 C dX0_mixInto_63 ?_
    refine z_lload_n (pc := 66) 1 rfl rfl C dX0_mixInto_66 ?_
    refine z_lmul (pc := 67) C dX0_mixInto_67 ?_
    refine z_aload_n (pc := 68) 0 rfl rfl C dX0_mixInto_68 ?_
    refine z_iload (pc := 69) 2 rfl C dX0_mixInto_69 ?_
    refine z_callV (pc := 71) (rf' := 1) (rl' := 21) (fX0_sizeOf F x5 sL) [(.int x5)] [(.long ((31 : Int64) * x3))] [(0, qL, sL)] (fun r_1 => (some (.int r_1))) (fun r_1 => [(0, qL, sL)]) [] (fun r_1 => [(0, qL, sL)]) C dX0_mixInto_71 zy_X0_sizeOf zw_702 (fun _ hr9 => mX0_sizeOf  hr9) (by decide) rfl rfl (by decide) rfl (Nat.le_of_ble_eq_true rfl) (List.Perm.refl _) (fun _ => List.Perm.refl _) rfl (fun r_1 hr_2 => ?_)
    show zJ X 7 res _ 74 [(0, (.ref (qL 0))), (3, (.long x3)), (5, (.int x5))] [(.int r_1), (.long ((31 : Int64) * x3))] [(0, qL, sL)]
    refine z_i2l (pc := 74) C dX0_mixInto_74 ?_
    refine z_ladd (pc := 75) C dX0_mixInto_75 ?_
    refine z_letl (fun x3_3 => ?_)
    refine z_lstore_n (pc := 76) [(0, (.ref (qL 0))), (3, (.long x3_3)), (5, (.int x5))] [1, 0, 2] (by decide) rfl rfl C dX0_mixInto_76 ?_
    refine z_ldc2_w (pc := 77) (31 : Int64) zw_700 C dX0_mixInto_77 ?_
    refine z_lload_n (pc := 80) 1 rfl rfl C dX0_mixInto_80 ?_
    refine z_lmul (pc := 81) C dX0_mixInto_81 ?_
    refine z_aload_n (pc := 82) 0 rfl rfl C dX0_mixInto_82 ?_
    refine z_iload (pc := 83) 2 rfl C dX0_mixInto_83 ?_
    refine z_callV (pc := 85) (rf' := 1) (rl' := 21) (fX0_hangOf x5 sL) [(.int x5)] [(.long ((31 : Int64) * x3_3))] [(0, qL, sL)] (fun r_4 => (some (.int r_4))) (fun r_4 => [(0, qL, sL)]) [] (fun r_4 => [(0, qL, sL)]) C dX0_mixInto_85 zy_X0_hangOf zw_703 (fun _ hr9 => mX0_hangOf  hr9) (by decide) rfl rfl (by decide) rfl (Nat.le_of_ble_eq_true rfl) (List.Perm.refl _) (fun _ => List.Perm.refl _) rfl (fun r_4 hr_5 => ?_)
    show zJ X 7 res _ 88 [(0, (.ref (qL 0))), (3, (.long x3_3)), (5, (.int x5))] [(.int r_4), (.long ((31 : Int64) * x3_3))] [(0, qL, sL)]
    refine z_i2l (pc := 88) C dX0_mixInto_88 ?_
    refine z_ladd (pc := 89) C dX0_mixInto_89 ?_
    refine z_letl (fun x3_6 => ?_)
    refine z_lstore_n (pc := 90) [(0, (.ref (qL 0))), (3, (.long x3_6)), (5, (.int x5))] [1, 0, 2] (by decide) rfl rfl C dX0_mixInto_90 ?_
    refine z_iinc (pc := 91) (x5 + 1) 2 rfl rfl [(0, (.ref (qL 0))), (3, (.long x3_6)), (5, (.int (x5 + 1)))] [1, 2, 0] (by decide) rfl C dX0_mixInto_91 ?_
    refine z_goto (pc := 94) 54 C dX0_mixInto_94 (by decide) ?_
    exact hk_54 _ _
def bX0_mixInto_17 (F : Nat) (kc_5 : (Int64 × Int32) → Option (Int64)) (x5 : Int32) (sL : zOS) (kc_17 : (Int64 × Int32) → Option (Int64)) (x3 : Int64) (x6 : Int32) : Option (Int64) := (if (5 : Int32) < x6 then (kc_5 (x3, (x5 + 1))) else (Option.bind (fX0_tellGate x5 x6 sL) (fun r_7 : Int32 => (zlet (((31 : Int64) * x3) + r_7.toInt64) (fun x3_9 : Int64 => (kc_17 (x3_9, (x6 + 1))))))))
set_option maxRecDepth 20000 in
theorem vX0_mixInto_17 {X : zCx} {res : Int64} {F : Nat} {qL : Nat → Nat} {sL : zOS} {x5 : Int32} {kc_5 : (Int64 × Int32) → Option (Int64)} {kc_17 : (Int64 × Int32) → Option (Int64)} (C : zC X RX0 cX0_mixInto 7 3 65) (hR : zR X (some .long) (some (.long res)) [(0, qL, sL)]) (hk_5 : ∀ (y3 : Int64) (y5 : Int32), zJ X 7 res (kc_5 (y3, y5)) 5 [(0, (.ref (qL 0))), (3, (.long y3)), (5, (.int y5))] [] [(0, qL, sL)]) (hk_17 : ∀ (y3 : Int64) (y6 : Int32), zJ X 7 res (kc_17 (y3, y6)) 17 [(0, (.ref (qL 0))), (3, (.long y3)), (5, (.int x5)), (6, (.int y6))] [] [(0, qL, sL)]) (x3 : Int64) (x6 : Int32) : zJ X 7 res (bX0_mixInto_17 F kc_5 x5 sL kc_17 x3 x6) 17 [(0, (.ref (qL 0))), (3, (.long x3)), (5, (.int x5)), (6, (.int x6))] [] [(0, qL, sL)] := by
  unfold bX0_mixInto_17
  refine z_iload (pc := 17) 3 rfl C dX0_mixInto_17 ?_
  refine z_iconst (pc := 19) (5 : Int32) (by decide) C dX0_mixInto_19 ?_
  refine z_icmp_gt (pc := 20) 45 C dX0_mixInto_20 (by decide) ?_ ?_
  · refine z_iinc (pc := 45) (x5 + 1) 2 rfl rfl [(0, (.ref (qL 0))), (3, (.long x3)), (5, (.int (x5 + 1))), (6, (.int x6))] [1, 2, 0, 3] (by decide) rfl C dX0_mixInto_45 ?_
    refine z_goto (pc := 48) 5 C dX0_mixInto_48 (by decide) ?_
    refine z_lv [(0, (.ref (qL 0))), (3, (.long x3)), (5, (.int (x5 + 1)))] [0, 1, 2] rfl ?_
    exact hk_5 _ _
  · refine z_ldc2_w (pc := 23) (31 : Int64) zw_700 C dX0_mixInto_23 ?_
    refine z_lload_n (pc := 26) 1 rfl rfl C dX0_mixInto_26 ?_
    refine z_lmul (pc := 27) C dX0_mixInto_27 ?_
    refine z_aload_n (pc := 28) 0 rfl rfl C dX0_mixInto_28 ?_
    refine z_iload (pc := 29) 2 rfl C dX0_mixInto_29 ?_
    refine z_iload (pc := 31) 3 rfl C dX0_mixInto_31 ?_
    refine z_callV (pc := 33) (rf' := 2) (rl' := 43) (fX0_tellGate x5 x6 sL) [(.int x5), (.int x6)] [(.long ((31 : Int64) * x3))] [(0, qL, sL)] (fun r_7 => (some (.int r_7))) (fun r_7 => [(0, qL, sL)]) [] (fun r_7 => [(0, qL, sL)]) C dX0_mixInto_33 zy_X0_tellGate zw_701 (fun _ hr9 => mX0_tellGate  hr9) (by decide) rfl rfl (by decide) rfl (Nat.le_of_ble_eq_true rfl) (List.Perm.refl _) (fun _ => List.Perm.refl _) rfl (fun r_7 hr_8 => ?_)
    show zJ X 7 res _ 36 [(0, (.ref (qL 0))), (3, (.long x3)), (5, (.int x5)), (6, (.int x6))] [(.int r_7), (.long ((31 : Int64) * x3))] [(0, qL, sL)]
    refine z_i2l (pc := 36) C dX0_mixInto_36 ?_
    refine z_ladd (pc := 37) C dX0_mixInto_37 ?_
    refine z_letl (fun x3_9 => ?_)
    refine z_lstore_n (pc := 38) [(0, (.ref (qL 0))), (3, (.long x3_9)), (5, (.int x5)), (6, (.int x6))] [1, 0, 2, 3] (by decide) rfl rfl C dX0_mixInto_38 ?_
    refine z_iinc (pc := 39) (x6 + 1) 3 rfl rfl [(0, (.ref (qL 0))), (3, (.long x3_9)), (5, (.int x5)), (6, (.int (x6 + 1)))] [1, 2, 3, 0] (by decide) rfl C dX0_mixInto_39 ?_
    refine z_goto (pc := 42) 17 C dX0_mixInto_42 (by decide) ?_
    exact hk_17 _ _
def bX0_mixInto_5 (F : Nat) (sL : zOS) (kc_5 : (Int64 × Int32) → Option (Int64)) (x3 : Int64) (x5 : Int32) : Option (Int64) := (if (zF sL 14) ≤ x5 then (zit (P := Int64 × Int32) (R := Int64) (fun kc9 p9 => bX0_mixInto_54 F sL kc9 p9.1 p9.2) F (x3, (0 : Int32))) else (zit (P := Int64 × Int32) (R := Int64) (fun kc9 p9 => bX0_mixInto_17 F kc_5 x5 sL kc9 p9.1 p9.2) F (x3, (0 : Int32))))
set_option maxRecDepth 20000 in
theorem vX0_mixInto_5 {X : zCx} {res : Int64} {F : Nat} {qL : Nat → Nat} {sL : zOS} {kc_5 : (Int64 × Int32) → Option (Int64)} (C : zC X RX0 cX0_mixInto 7 3 65) (hR : zR X (some .long) (some (.long res)) [(0, qL, sL)]) (hk_5 : ∀ (y3 : Int64) (y5 : Int32), zJ X 7 res (kc_5 (y3, y5)) 5 [(0, (.ref (qL 0))), (3, (.long y3)), (5, (.int y5))] [] [(0, qL, sL)]) (x3 : Int64) (x5 : Int32) : zJ X 7 res (bX0_mixInto_5 F sL kc_5 x3 x5) 5 [(0, (.ref (qL 0))), (3, (.long x3)), (5, (.int x5))] [] [(0, qL, sL)] := by
  unfold bX0_mixInto_5
  refine z_iload (pc := 5) 2 rfl C dX0_mixInto_5 ?_
  refine z_aload_n (pc := 7) 0 rfl rfl C dX0_mixInto_7 ?_
  refine z_getI (pc := 8) 0 14 C dX0_mixInto_8 rfl (by decide) (by decide) rfl zw_162 ?_
  refine z_icmp_ge (pc := 11) 51 C dX0_mixInto_11 (by decide) ?_ ?_
  · refine z_iconst (pc := 51) (0 : Int32) (by decide) C dX0_mixInto_51 ?_
    refine z_istore (pc := 52) [(0, (.ref (qL 0))), (3, (.long x3)), (5, (.int (0 : Int32)))] [1, 2, 0] (by decide) rfl C dX0_mixInto_52 ?_
    show zJ X 7 res _ 54 [(0, (.ref (qL 0))), (3, (.long x3)), (5, (.int (0 : Int32)))] [] [(0, qL, sL)]
    exact zit_J (P := Int64 × Int32) (B := (fun kc9 p9 => bX0_mixInto_54 F sL kc9 p9.1 p9.2)) (fun p9 => [(0, (.ref (qL 0))), (3, (.long p9.1)), (5, (.int p9.2))]) (fun p9 => [(0, qL, sL)]) (fun kc9 hk9 p9 => vX0_mixInto_54 C hR   (fun a0 a1 => hk9 (a0, a1)) p9.1 p9.2) F _
  · refine z_iconst (pc := 14) (0 : Int32) (by decide) C dX0_mixInto_14 ?_
    refine z_istore (pc := 15) [(0, (.ref (qL 0))), (3, (.long x3)), (5, (.int x5)), (6, (.int (0 : Int32)))] [1, 2, 3, 0] (by decide) rfl C dX0_mixInto_15 ?_
    show zJ X 7 res _ 17 [(0, (.ref (qL 0))), (3, (.long x3)), (5, (.int x5)), (6, (.int (0 : Int32)))] [] [(0, qL, sL)]
    exact zit_J (P := Int64 × Int32) (B := (fun kc9 p9 => bX0_mixInto_17 F kc_5 x5 sL kc9 p9.1 p9.2)) (fun p9 => [(0, (.ref (qL 0))), (3, (.long p9.1)), (5, (.int x5)), (6, (.int p9.2))]) (fun p9 => [(0, qL, sL)]) (fun kc9 hk9 p9 => vX0_mixInto_17 C hR  hk_5 (fun a0 a1 => hk9 (a0, a1)) p9.1 p9.2) F _
def fX0_mixInto (F : Nat) (x1 : Int64) (sL : zOS) : Option (Int64) := (zit (P := Int64 × Int32) (R := Int64) (fun kc9 p9 => bX0_mixInto_5 F sL kc9 p9.1 p9.2) F (x1, (0 : Int32)))
set_option maxRecDepth 20000 in
theorem wX0_mixInto {X : zCx} {res : Int64} {F : Nat} {qL : Nat → Nat} {x1 : Int64} {sL : zOS} (C : zC X RX0 cX0_mixInto 7 3 65) (hR : zR X (some .long) (some (.long res)) [(0, qL, sL)])  : zJ X 7 res (fX0_mixInto F x1 sL) 0 [(0, (.ref (qL 0))), (1, (.long x1))] [] [(0, qL, sL)] := by
  unfold fX0_mixInto
  refine z_lload_n (pc := 0) 1 rfl rfl C dX0_mixInto_0 ?_
  refine z_lstore_n (pc := 1) [(0, (.ref (qL 0))), (1, (.long x1)), (3, (.long x1))] [1, 2, 0] (by decide) rfl rfl C dX0_mixInto_1 ?_
  refine z_iconst (pc := 2) (0 : Int32) (by decide) C dX0_mixInto_2 ?_
  refine z_istore (pc := 3) [(0, (.ref (qL 0))), (1, (.long x1)), (3, (.long x1)), (5, (.int (0 : Int32)))] [1, 2, 3, 0] (by decide) rfl C dX0_mixInto_3 ?_
  refine z_lv [(0, (.ref (qL 0))), (3, (.long x1)), (5, (.int (0 : Int32)))] [0, 2, 3] rfl ?_
  show zJ X 7 res _ 5 [(0, (.ref (qL 0))), (3, (.long x1)), (5, (.int (0 : Int32)))] [] [(0, qL, sL)]
  exact zit_J (P := Int64 × Int32) (B := (fun kc9 p9 => bX0_mixInto_5 F sL kc9 p9.1 p9.2)) (fun p9 => [(0, (.ref (qL 0))), (3, (.long p9.1)), (5, (.int p9.2))]) (fun p9 => [(0, qL, sL)]) (fun kc9 hk9 p9 => vX0_mixInto_5 C hR   (fun a0 a1 => hk9 (a0, a1)) p9.1 p9.2) F _
theorem mX0_mixInto {F : Nat} {qL : Nat → Nat} {x1 : Int64} {sL : zOS} {res : Int64}  (hf : fX0_mixInto F x1 sL = some res) : zM yX0_mixInto cX0_mixInto 7 (some .long) 3 65 [(.ref (qL 0)), (.long x1)] [(0, qL, sL)] (some (.long res)) [(0, qL, sL)] := zM_of (by decide +kernel) (Nat.le_of_ble_eq_true rfl) (fun X C hR => wX0_mixInto (F := F) C hR  hf)
theorem dX0_isWell_0 : decode cX0_isWell 0 = .ok (.aload_n 0, 1) := by decide +kernel
theorem dX0_isWell_1 : decode cX0_isWell 1 = .ok (.getfield 48, 3) := by decide +kernel
theorem dX0_isWell_4 : decode cX0_isWell 4 = .ok (.iload_n 1, 1) := by decide +kernel
theorem dX0_isWell_5 : decode cX0_isWell 5 = .ok (.iaload, 1) := by decide +kernel
theorem dX0_isWell_6 : decode cX0_isWell 6 = .ok (.iconst 1, 1) := by decide +kernel
theorem dX0_isWell_7 : decode cX0_isWell 7 = .ok (.if_icmp .eq 13, 3) := by decide +kernel
theorem dX0_isWell_10 : decode cX0_isWell 10 = .ok (.aload_n 0, 1) := by decide +kernel
theorem dX0_isWell_11 : decode cX0_isWell 11 = .ok (.getfield 48, 3) := by decide +kernel
theorem dX0_isWell_14 : decode cX0_isWell 14 = .ok (.iload_n 1, 1) := by decide +kernel
theorem dX0_isWell_15 : decode cX0_isWell 15 = .ok (.iaload, 1) := by decide +kernel
theorem dX0_isWell_16 : decode cX0_isWell 16 = .ok (.iconst 2, 1) := by decide +kernel
theorem dX0_isWell_17 : decode cX0_isWell 17 = .ok (.if_icmp .ne 7, 3) := by decide +kernel
theorem dX0_isWell_20 : decode cX0_isWell 20 = .ok (.iconst 1, 1) := by decide +kernel
theorem dX0_isWell_21 : decode cX0_isWell 21 = .ok (.goto 4, 3) := by decide +kernel
theorem dX0_isWell_24 : decode cX0_isWell 24 = .ok (.iconst 0, 1) := by decide +kernel
theorem dX0_isWell_25 : decode cX0_isWell 25 = .ok (.ireturn, 1) := by decide +kernel
def fX0_isWell (x1 : Int32) (sL : zOS) : Option (Int32) := (zchk x1 32 (if (zI sL 12 x1.toNatClampNeg) = (1 : Int32) then (zbk (1 : Int32) (some ((1 : Int32)))) else (zchk x1 32 (if (zI sL 12 x1.toNatClampNeg) = (2 : Int32) then (zbk (1 : Int32) (some ((1 : Int32)))) else (zbk (0 : Int32) (some ((0 : Int32))))))))
set_option maxRecDepth 20000 in
theorem wX0_isWell {X : zCx} {res : Int32}  {qL : Nat → Nat} {x1 : Int32} {sL : zOS} (C : zC X RX0 cX0_isWell 2 0 0) (hR : zR X (some .boolean) (some (.int res)) [(0, qL, sL)])  : zJ X 2 res (fX0_isWell x1 sL) 0 [(0, (.ref (qL 0))), (1, (.int x1))] [] [(0, qL, sL)] := by
  unfold fX0_isWell
  refine z_aload_n (pc := 0) 0 rfl rfl C dX0_isWell_0 ?_
  refine z_getR (pc := 1) 0 11 12 C dX0_isWell_1 rfl (by decide) (by decide) rfl zw_157 ?_
  refine z_iload_n (pc := 4) 1 rfl rfl C dX0_isWell_4 ?_
  refine z_iald (pc := 5) 0 C dX0_isWell_5 rfl (by unfold zAr; decide) ?_
  refine z_iconst (pc := 6) (1 : Int32) (by decide) C dX0_isWell_6 ?_
  refine z_icmp_eq (pc := 7) 20 C dX0_isWell_7 (by decide) ?_ ?_
  · refine z_iconst (pc := 20) (1 : Int32) (by decide) C dX0_isWell_20 ?_
    refine z_goto (pc := 21) 25 C dX0_isWell_21 (by decide) ?_
    exact z_zreturn (pc := 25) C hR dX0_isWell_25 (fun h => by subst h; exact ⟨rfl, rfl⟩)
  · refine z_aload_n (pc := 10) 0 rfl rfl C dX0_isWell_10 ?_
    refine z_getR (pc := 11) 0 11 12 C dX0_isWell_11 rfl (by decide) (by decide) rfl zw_157 ?_
    refine z_iload_n (pc := 14) 1 rfl rfl C dX0_isWell_14 ?_
    refine z_iald (pc := 15) 0 C dX0_isWell_15 rfl (by unfold zAr; decide) ?_
    refine z_iconst (pc := 16) (2 : Int32) (by decide) C dX0_isWell_16 ?_
    refine z_icmp_ne (pc := 17) 24 C dX0_isWell_17 (by decide) ?_ ?_
    · refine z_iconst (pc := 20) (1 : Int32) (by decide) C dX0_isWell_20 ?_
      refine z_goto (pc := 21) 25 C dX0_isWell_21 (by decide) ?_
      exact z_zreturn (pc := 25) C hR dX0_isWell_25 (fun h => by subst h; exact ⟨rfl, rfl⟩)
    · refine z_iconst (pc := 24) (0 : Int32) (by decide) C dX0_isWell_24 ?_
      exact z_zreturn (pc := 25) C hR dX0_isWell_25 (fun h => by subst h; exact ⟨rfl, rfl⟩)
theorem mX0_isWell  {qL : Nat → Nat} {x1 : Int32} {sL : zOS} {res : Int32}  (hf : fX0_isWell x1 sL = some res) : zM yX0_isWell cX0_isWell 2 (some .boolean) 0 0 [(.ref (qL 0)), (.int x1)] [(0, qL, sL)] (some (.int res)) [(0, qL, sL)] := zM_of (by decide +kernel) (Nat.le_of_ble_eq_true rfl) (fun X C hR => wX0_isWell C hR  hf)
theorem dX0_isAsRead_0 : decode cX0_isAsRead 0 = .ok (.iconst 0, 1) := by decide +kernel
theorem dX0_isAsRead_1 : decode cX0_isAsRead 1 = .ok (.istore_n 2, 1) := by decide +kernel
theorem dX0_isAsRead_2 : decode cX0_isAsRead 2 = .ok (.iload_n 2, 1) := by decide +kernel
theorem dX0_isAsRead_3 : decode cX0_isAsRead 3 = .ok (.iconst 4, 1) := by decide +kernel
theorem dX0_isAsRead_4 : decode cX0_isAsRead 4 = .ok (.if_icmp .ge 24, 3) := by decide +kernel
theorem dX0_isAsRead_7 : decode cX0_isAsRead 7 = .ok (.aload_n 0, 1) := by decide +kernel
theorem dX0_isAsRead_8 : decode cX0_isAsRead 8 = .ok (.getfield 9, 3) := by decide +kernel
theorem dX0_isAsRead_11 : decode cX0_isAsRead 11 = .ok (.iload_n 2, 1) := by decide +kernel
theorem dX0_isAsRead_12 : decode cX0_isAsRead 12 = .ok (.laload, 1) := by decide +kernel
theorem dX0_isAsRead_13 : decode cX0_isAsRead 13 = .ok (.aload_n 1, 1) := by decide +kernel
theorem dX0_isAsRead_14 : decode cX0_isAsRead 14 = .ok (.iload_n 2, 1) := by decide +kernel
theorem dX0_isAsRead_15 : decode cX0_isAsRead 15 = .ok (.laload, 1) := by decide +kernel
theorem dX0_isAsRead_16 : decode cX0_isAsRead 16 = .ok (.lcmp, 1) := by decide +kernel
theorem dX0_isAsRead_17 : decode cX0_isAsRead 17 = .ok (.ifCond .eq 5, 3) := by decide +kernel
theorem dX0_isAsRead_20 : decode cX0_isAsRead 20 = .ok (.iconst 0, 1) := by decide +kernel
theorem dX0_isAsRead_21 : decode cX0_isAsRead 21 = .ok (.ireturn, 1) := by decide +kernel
theorem dX0_isAsRead_22 : decode cX0_isAsRead 22 = .ok (.iinc 2 1, 3) := by decide +kernel
theorem dX0_isAsRead_25 : decode cX0_isAsRead 25 = .ok (.goto (-23), 3) := by decide +kernel
theorem dX0_isAsRead_28 : decode cX0_isAsRead 28 = .ok (.iconst 1, 1) := by decide +kernel
theorem dX0_isAsRead_29 : decode cX0_isAsRead 29 = .ok (.ireturn, 1) := by decide +kernel
def bX0_isAsRead_2 (F : Nat) (sL : zOS) (sP : zOS) (kc_2 : Int32 → Option (Int32)) (x2 : Int32) : Option (Int32) := (if (4 : Int32) ≤ x2 then (zbk (1 : Int32) (some ((1 : Int32)))) else (zchk x2 4 (zchk x2 4 (if (lg_cmp (zL sL 1 x2.toNatClampNeg) (zL sP 1 x2.toNatClampNeg)) = 0 then (kc_2 (x2 + 1)) else (zbk (0 : Int32) (some ((0 : Int32))))))))
set_option maxRecDepth 20000 in
theorem vX0_isAsRead_2 {X : zCx} {res : Int32} {F : Nat} {qL : Nat → Nat} {qP : Nat → Nat} {sL : zOS} {sP : zOS} {kc_2 : Int32 → Option (Int32)} (C : zC X RX0 cX0_isAsRead 3 0 0) (hR : zR X (some .boolean) (some (.int res)) [(0, qL, sL), (2, qP, sP)]) (hk_2 : ∀ (y2 : Int32), zJ X 3 res (kc_2 y2) 2 [(0, (.ref (qL 0))), (1, (.ref (qP 1))), (2, (.int y2))] [] [(0, qL, sL), (2, qP, sP)]) (x2 : Int32) : zJ X 3 res (bX0_isAsRead_2 F sL sP kc_2 x2) 2 [(0, (.ref (qL 0))), (1, (.ref (qP 1))), (2, (.int x2))] [] [(0, qL, sL), (2, qP, sP)] := by
  unfold bX0_isAsRead_2
  refine z_iload_n (pc := 2) 2 rfl rfl C dX0_isAsRead_2 ?_
  refine z_iconst (pc := 3) (4 : Int32) (by decide) C dX0_isAsRead_3 ?_
  refine z_icmp_ge (pc := 4) 28 C dX0_isAsRead_4 (by decide) ?_ ?_
  · refine z_iconst (pc := 28) (1 : Int32) (by decide) C dX0_isAsRead_28 ?_
    exact z_zreturn (pc := 29) C hR dX0_isAsRead_29 (fun h => by subst h; exact ⟨rfl, rfl⟩)
  · refine z_aload_n (pc := 7) 0 rfl rfl C dX0_isAsRead_7 ?_
    refine z_getR (pc := 8) 0 0 1 C dX0_isAsRead_8 rfl (by decide) (by decide) rfl zw_143 ?_
    refine z_iload_n (pc := 11) 2 rfl rfl C dX0_isAsRead_11 ?_
    refine z_lald (pc := 12) 0 C dX0_isAsRead_12 rfl (by unfold zAr; decide) ?_
    refine z_aload_n (pc := 13) 1 rfl rfl C dX0_isAsRead_13 ?_
    refine z_iload_n (pc := 14) 2 rfl rfl C dX0_isAsRead_14 ?_
    refine z_lald (pc := 15) 1 C dX0_isAsRead_15 rfl (by unfold zAr; decide) ?_
    refine z_lcmp (pc := 16) C dX0_isAsRead_16 ?_
    refine z_if_eq (pc := 17) 22 C dX0_isAsRead_17 (by decide) ?_ ?_
    · refine z_iinc (pc := 22) (x2 + 1) 2 rfl rfl [(0, (.ref (qL 0))), (1, (.ref (qP 1))), (2, (.int (x2 + 1)))] [1, 2, 0] (by decide) rfl C dX0_isAsRead_22 ?_
      refine z_goto (pc := 25) 2 C dX0_isAsRead_25 (by decide) ?_
      exact hk_2 _
    · refine z_iconst (pc := 20) (0 : Int32) (by decide) C dX0_isAsRead_20 ?_
      exact z_zreturn (pc := 21) C hR dX0_isAsRead_21 (fun h => by subst h; exact ⟨rfl, rfl⟩)
def fX0_isAsRead (F : Nat) (sL : zOS) (sP : zOS) : Option (Int32) := (zit (P := Int32) (R := Int32) (fun kc9 p9 => bX0_isAsRead_2 F sL sP kc9 p9) F (0 : Int32))
set_option maxRecDepth 20000 in
theorem wX0_isAsRead {X : zCx} {res : Int32} {F : Nat} {qL : Nat → Nat} {qP : Nat → Nat} {sL : zOS} {sP : zOS} (C : zC X RX0 cX0_isAsRead 3 0 0) (hR : zR X (some .boolean) (some (.int res)) [(0, qL, sL), (2, qP, sP)])  : zJ X 3 res (fX0_isAsRead F sL sP) 0 [(0, (.ref (qL 0))), (1, (.ref (qP 1)))] [] [(0, qL, sL), (2, qP, sP)] := by
  unfold fX0_isAsRead
  refine z_iconst (pc := 0) (0 : Int32) (by decide) C dX0_isAsRead_0 ?_
  refine z_istore_n (pc := 1) [(0, (.ref (qL 0))), (1, (.ref (qP 1))), (2, (.int (0 : Int32)))] [1, 2, 0] (by decide) rfl rfl C dX0_isAsRead_1 ?_
  show zJ X 3 res _ 2 [(0, (.ref (qL 0))), (1, (.ref (qP 1))), (2, (.int (0 : Int32)))] [] [(0, qL, sL), (2, qP, sP)]
  exact zit_J (P := Int32) (B := (fun kc9 p9 => bX0_isAsRead_2 F sL sP kc9 p9)) (fun p9 => [(0, (.ref (qL 0))), (1, (.ref (qP 1))), (2, (.int p9))]) (fun p9 => [(0, qL, sL), (2, qP, sP)]) (fun kc9 hk9 p9 => vX0_isAsRead_2 C hR   (fun a0 => hk9 a0) p9) F _
theorem mX0_isAsRead {F : Nat} {qL : Nat → Nat} {qP : Nat → Nat} {sL : zOS} {sP : zOS} {res : Int32}  (hf : fX0_isAsRead F sL sP = some res) : zM yX0_isAsRead cX0_isAsRead 3 (some .boolean) 0 0 [(.ref (qL 0)), (.ref (qP 1))] [(0, qL, sL), (2, qP, sP)] (some (.int res)) [(0, qL, sL), (2, qP, sP)] := zM_of (by decide +kernel) (Nat.le_of_ble_eq_true rfl) (fun X C hR => wX0_isAsRead (F := F) C hR  hf)
theorem dX0_cellsOf_0 : decode cX0_cellsOf 0 = .ok (.iload_n 1, 1) := by decide +kernel
theorem dX0_cellsOf_1 : decode cX0_cellsOf 1 = .ok (.ifCond .ne 23, 3) := by decide +kernel
theorem dX0_cellsOf_4 : decode cX0_cellsOf 4 = .ok (.aload_n 0, 1) := by decide +kernel
theorem dX0_cellsOf_5 : decode cX0_cellsOf 5 = .ok (.getfield 9, 3) := by decide +kernel
theorem dX0_cellsOf_8 : decode cX0_cellsOf 8 = .ok (.iconst 0, 1) := by decide +kernel
theorem dX0_cellsOf_9 : decode cX0_cellsOf 9 = .ok (.laload, 1) := by decide +kernel
theorem dX0_cellsOf_10 : decode cX0_cellsOf 10 = .ok (.aload_n 0, 1) := by decide +kernel
theorem dX0_cellsOf_11 : decode cX0_cellsOf 11 = .ok (.getfield 9, 3) := by decide +kernel
theorem dX0_cellsOf_14 : decode cX0_cellsOf 14 = .ok (.iconst 1, 1) := by decide +kernel
theorem dX0_cellsOf_15 : decode cX0_cellsOf 15 = .ok (.laload, 1) := by decide +kernel
theorem dX0_cellsOf_16 : decode cX0_cellsOf 16 = .ok (.ldc2_w 135, 3) := by decide +kernel
theorem dX0_cellsOf_19 : decode cX0_cellsOf 19 = .ok (.lxor, 1) := by decide +kernel
theorem dX0_cellsOf_20 : decode cX0_cellsOf 20 = .ok (.land, 1) := by decide +kernel
theorem dX0_cellsOf_21 : decode cX0_cellsOf 21 = .ok (.goto 9, 3) := by decide +kernel
theorem dX0_cellsOf_24 : decode cX0_cellsOf 24 = .ok (.aload_n 0, 1) := by decide +kernel
theorem dX0_cellsOf_25 : decode cX0_cellsOf 25 = .ok (.getfield 9, 3) := by decide +kernel
theorem dX0_cellsOf_28 : decode cX0_cellsOf 28 = .ok (.iload_n 1, 1) := by decide +kernel
theorem dX0_cellsOf_29 : decode cX0_cellsOf 29 = .ok (.laload, 1) := by decide +kernel
theorem dX0_cellsOf_30 : decode cX0_cellsOf 30 = .ok (.lreturn, 1) := by decide +kernel
def fX0_cellsOf (x1 : Int32) (sL : zOS) : Option (Int64) := (if x1 = 0 then (zchk (0 : Int32) 4 (zchk (1 : Int32) 4 (some ((zL sL 1 (0 : Int32).toNatClampNeg) &&& ((zL sL 1 (1 : Int32).toNatClampNeg) ^^^ (-1 : Int64)))))) else (zchk x1 4 (some (zL sL 1 x1.toNatClampNeg))))
set_option maxRecDepth 20000 in
theorem wX0_cellsOf {X : zCx} {res : Int64}  {qL : Nat → Nat} {x1 : Int32} {sL : zOS} (C : zC X RX0 cX0_cellsOf 2 0 0) (hR : zR X (some .long) (some (.long res)) [(0, qL, sL)])  : zJ X 2 res (fX0_cellsOf x1 sL) 0 [(0, (.ref (qL 0))), (1, (.int x1))] [] [(0, qL, sL)] := by
  unfold fX0_cellsOf
  refine z_iload_n (pc := 0) 1 rfl rfl C dX0_cellsOf_0 ?_
  refine z_if_ne (pc := 1) 24 C dX0_cellsOf_1 (by decide) ?_ ?_
  · refine z_aload_n (pc := 4) 0 rfl rfl C dX0_cellsOf_4 ?_
    refine z_getR (pc := 5) 0 0 1 C dX0_cellsOf_5 rfl (by decide) (by decide) rfl zw_143 ?_
    refine z_iconst (pc := 8) (0 : Int32) (by decide) C dX0_cellsOf_8 ?_
    refine z_lald (pc := 9) 0 C dX0_cellsOf_9 rfl (by unfold zAr; decide) ?_
    refine z_aload_n (pc := 10) 0 rfl rfl C dX0_cellsOf_10 ?_
    refine z_getR (pc := 11) 0 0 1 C dX0_cellsOf_11 rfl (by decide) (by decide) rfl zw_143 ?_
    refine z_iconst (pc := 14) (1 : Int32) (by decide) C dX0_cellsOf_14 ?_
    refine z_lald (pc := 15) 0 C dX0_cellsOf_15 rfl (by unfold zAr; decide) ?_
    refine z_ldc2_w (pc := 16) (-1 : Int64) zw_420 C dX0_cellsOf_16 ?_
    refine z_lxor (pc := 19) C dX0_cellsOf_19 ?_
    refine z_land (pc := 20) C dX0_cellsOf_20 ?_
    refine z_goto (pc := 21) 30 C dX0_cellsOf_21 (by decide) ?_
    exact z_lreturn (pc := 30) C hR dX0_cellsOf_30 (fun h => by subst h; exact ⟨rfl, rfl⟩)
  · refine z_aload_n (pc := 24) 0 rfl rfl C dX0_cellsOf_24 ?_
    refine z_getR (pc := 25) 0 0 1 C dX0_cellsOf_25 rfl (by decide) (by decide) rfl zw_143 ?_
    refine z_iload_n (pc := 28) 1 rfl rfl C dX0_cellsOf_28 ?_
    refine z_lald (pc := 29) 0 C dX0_cellsOf_29 rfl (by unfold zAr; decide) ?_
    exact z_lreturn (pc := 30) C hR dX0_cellsOf_30 (fun h => by subst h; exact ⟨rfl, rfl⟩)
theorem mX0_cellsOf  {qL : Nat → Nat} {x1 : Int32} {sL : zOS} {res : Int64}  (hf : fX0_cellsOf x1 sL = some res) : zM yX0_cellsOf cX0_cellsOf 2 (some .long) 0 0 [(.ref (qL 0)), (.int x1)] [(0, qL, sL)] (some (.long res)) [(0, qL, sL)] := zM_of (by decide +kernel) (Nat.le_of_ble_eq_true rfl) (fun X C hR => wX0_cellsOf C hR  hf)
