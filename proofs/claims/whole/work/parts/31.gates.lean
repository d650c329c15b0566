theorem dX4_refuse_0 : decode cX4_refuse 0 = .ok (.bipush (-2), 2) := by decide +kernel
theorem dX4_refuse_2 : decode cX4_refuse 2 = .ok (.iload_n 1, 1) := by decide +kernel
theorem dX4_refuse_3 : decode cX4_refuse 3 = .ok (.isub, 1) := by decide +kernel
theorem dX4_refuse_4 : decode cX4_refuse 4 = .ok (.istore_n 2, 1) := by decide +kernel
theorem dX4_refuse_5 : decode cX4_refuse 5 = .ok (.iload_n 2, 1) := by decide +kernel
theorem dX4_refuse_6 : decode cX4_refuse 6 = .ok (.aload_n 0, 1) := by decide +kernel
theorem dX4_refuse_7 : decode cX4_refuse 7 = .ok (.getfield 45, 3) := by decide +kernel
theorem dX4_refuse_10 : decode cX4_refuse 10 = .ok (.arraylength, 1) := by decide +kernel
theorem dX4_refuse_11 : decode cX4_refuse 11 = .ok (.invokestatic 86, 3) := by decide +kernel
theorem dX4_refuse_14 : decode cX4_refuse 14 = .ok (.ifCond .eq 13, 3) := by decide +kernel
theorem dX4_refuse_17 : decode cX4_refuse 17 = .ok (.aload_n 0, 1) := by decide +kernel
theorem dX4_refuse_18 : decode cX4_refuse 18 = .ok (.getfield 45, 3) := by decide +kernel
theorem dX4_refuse_21 : decode cX4_refuse 21 = .ok (.iload_n 2, 1) := by decide +kernel
theorem dX4_refuse_22 : decode cX4_refuse 22 = .ok (.dup2, 1) := by decide +kernel
theorem dX4_refuse_23 : decode cX4_refuse 23 = .ok (.iaload, 1) := by decide +kernel
theorem dX4_refuse_24 : decode cX4_refuse 24 = .ok (.iconst 1, 1) := by decide +kernel
theorem dX4_refuse_25 : decode cX4_refuse 25 = .ok (.iadd, 1) := by decide +kernel
theorem dX4_refuse_26 : decode cX4_refuse 26 = .ok (.iastore, 1) := by decide +kernel
theorem dX4_refuse_27 : decode cX4_refuse 27 = .ok (.iload_n 1, 1) := by decide +kernel
theorem dX4_refuse_28 : decode cX4_refuse 28 = .ok (.ireturn, 1) := by decide +kernel
def fX4_refuse (x1 : Int32) (sX : zOS) : Option (Int32 × zOS) := (zlet ((-2 : Int32) - x1) (fun x2_1 : Int32 => (Option.bind (fX4_isWithin x2_1 (3 : Int32)) (fun r_2 : Int32 => (if r_2 = 0 then (some (x1, sX)) else (zchk x2_1 3 (zchk x2_1 3 (zlet (zsI sX 2 (upd (zI sX 2) x2_1.toNatClampNeg ((zI sX 2 x2_1.toNatClampNeg) + (1 : Int32)))) (fun sX_4 : zOS => (some (x1, sX_4)))))))))))
set_option maxRecDepth 20000 in
theorem wX4_refuse {X : zCx} {res : Int32 × zOS}  {qX : Nat → Nat} {x1 : Int32} {sX : zOS} (C : zC X RX4 cX4_refuse 3 1 21) (hR : zR X (some .int) (some (.int res.1)) [(4, qX, res.2)])  : zJ X 3 res (fX4_refuse x1 sX) 0 [(0, (.ref (qX 0))), (1, (.int x1))] [] [(4, qX, sX)] := by
  unfold fX4_refuse
  refine z_bipush (pc := 0) (-2 : Int32) (by decide) C dX4_refuse_0 ?_
  refine z_iload_n (pc := 2) 1 rfl rfl C dX4_refuse_2 ?_
  refine z_isub (pc := 3) C dX4_refuse_3 ?_
  refine z_leti (fun x2_1 => ?_)
  refine z_istore_n (pc := 4) [(0, (.ref (qX 0))), (1, (.int x1)), (2, (.int x2_1))] [1, 2, 0] (by decide) rfl rfl C dX4_refuse_4 ?_
  refine z_iload_n (pc := 5) 2 rfl rfl C dX4_refuse_5 ?_
  refine z_aload_n (pc := 6) 0 rfl rfl C dX4_refuse_6 ?_
  refine z_getR (pc := 7) 0 6 2 C dX4_refuse_7 rfl (by decide) (by decide) rfl zw_267 ?_
  refine z_alen (n := 3) (pc := 10) 0 0 (3 : Int32) C dX4_refuse_10 rfl (by unfold zAr; decide) (by decide) (by decide) ?_
  refine z_callS (pc := 11) (rf' := 0) (rl' := 0) (fX4_isWithin x2_1 (3 : Int32)) [(.int x2_1), (.int (3 : Int32))] [] [] (fun r_2 => (some (.int r_2))) (fun r_2 => []) [(4, qX, sX)] (fun r_2 => [(4, qX, sX)]) C dX4_refuse_11 zy_X4_isWithin zw_313 (fun _ hr9 => mX4_isWithin  hr9) (by decide) rfl (Nat.le_of_ble_eq_true rfl) (List.Perm.refl _) (fun _ => List.Perm.refl _) rfl (fun r_2 hr_3 => ?_)
  show zJ X 3 res _ 14 [(0, (.ref (qX 0))), (1, (.int x1)), (2, (.int x2_1))] [(.int r_2)] [(4, qX, sX)]
  refine z_if_eq (pc := 14) 27 C dX4_refuse_14 (by decide) ?_ ?_
  · refine z_iload_n (pc := 27) 1 rfl rfl C dX4_refuse_27 ?_
    exact z_ireturn (pc := 28) C hR dX4_refuse_28 (fun h => by subst h; exact ⟨rfl, rfl⟩)
  · refine z_aload_n (pc := 17) 0 rfl rfl C dX4_refuse_17 ?_
    refine z_getR (pc := 18) 0 6 2 C dX4_refuse_18 rfl (by decide) (by decide) rfl zw_267 ?_
    refine z_iload_n (pc := 21) 2 rfl rfl C dX4_refuse_21 ?_
    refine z_dup2 (pc := 22) rfl rfl C dX4_refuse_22 ?_
    refine z_iald (pc := 23) 0 C dX4_refuse_23 rfl (by unfold zAr; decide) ?_
    refine z_iconst (pc := 24) (1 : Int32) (by decide) C dX4_refuse_24 ?_
    refine z_iadd (pc := 25) C dX4_refuse_25 ?_
    refine z_iast (pc := 26) 0 C dX4_refuse_26 rfl (by unfold zAr; decide) [(4, qX, (zsI sX 2 (upd (zI sX 2) x2_1.toNatClampNeg ((zI sX 2 x2_1.toNatClampNeg) + (1 : Int32)))))] rfl ?_
    refine z_letc (fun z9 => [(4, qX, z9)]) (fun sX_4 => ?_)
    refine z_iload_n (pc := 27) 1 rfl rfl C dX4_refuse_27 ?_
    exact z_ireturn (pc := 28) C hR dX4_refuse_28 (fun h => by subst h; exact ⟨rfl, rfl⟩)
theorem mX4_refuse  {qX : Nat → Nat} {x1 : Int32} {sX : zOS} {res : Int32 × zOS}  (hf : fX4_refuse x1 sX = some res) : zM yX4_refuse cX4_refuse 3 (some .int) 1 21 [(.ref (qX 0)), (.int x1)] [(4, qX, sX)] (some (.int res.1)) [(4, qX, res.2)] := zM_of (by decide +kernel) (Nat.le_of_ble_eq_true rfl) (fun X C hR => wX4_refuse C hR  hf)
theorem dX4_at_0 : decode cX4_at 0 = .ok (.iload_n 1, 1) := by decide +kernel
theorem dX4_at_1 : decode cX4_at 1 = .ok (.iconst 4, 1) := by decide +kernel
theorem dX4_at_2 : decode cX4_at 2 = .ok (.invokestatic 86, 3) := by decide +kernel
theorem dX4_at_5 : decode cX4_at 5 = .ok (.ifCond .eq 11, 3) := by decide +kernel
theorem dX4_at_8 : decode cX4_at 8 = .ok (.iload_n 2, 1) := by decide +kernel
theorem dX4_at_9 : decode cX4_at 9 = .ok (.iload_n 3, 1) := by decide +kernel
theorem dX4_at_10 : decode cX4_at 10 = .ok (.invokestatic 90, 3) := by decide +kernel
theorem dX4_at_13 : decode cX4_at 13 = .ok (.ifCond .ne 10, 3) := by decide +kernel
theorem dX4_at_16 : decode cX4_at 16 = .ok (.aload_n 0, 1) := by decide +kernel
theorem dX4_at_17 : decode cX4_at 17 = .ok (.bipush (-2), 2) := by decide +kernel
theorem dX4_at_19 : decode cX4_at 19 = .ok (.invokevirtual 93, 3) := by decide +kernel
theorem dX4_at_22 : decode cX4_at 22 = .ok (.ireturn, 1) := by decide +kernel
theorem dX4_at_23 : decode cX4_at 23 = .ok (.aload_n 0, 1) := by decide +kernel
theorem dX4_at_24 : decode cX4_at 24 = .ok (.getfield 20, 3) := by decide +kernel
theorem dX4_at_27 : decode cX4_at 27 = .ok (.getfield 96, 3) := by decide +kernel
theorem dX4_at_30 : decode cX4_at 30 = .ok (.iload_n 1, 1) := by decide +kernel
theorem dX4_at_31 : decode cX4_at 31 = .ok (.laload, 1) := by decide +kernel
theorem dX4_at_32 : decode cX4_at 32 = .ok (.iload_n 2, 1) := by decide +kernel
theorem dX4_at_33 : decode cX4_at 33 = .ok (.iload_n 3, 1) := by decide +kernel
theorem dX4_at_34 : decode cX4_at 34 = .ok (.invokestatic 100, 3) := by decide +kernel
theorem dX4_at_37 : decode cX4_at 37 = .ok (.land, 1) := by decide +kernel
theorem dX4_at_38 : decode cX4_at 38 = .ok (.lconst 0, 1) := by decide +kernel
theorem dX4_at_39 : decode cX4_at 39 = .ok (.lcmp, 1) := by decide +kernel
theorem dX4_at_40 : decode cX4_at 40 = .ok (.ifCond .eq 7, 3) := by decide +kernel
theorem dX4_at_43 : decode cX4_at 43 = .ok (.iconst 1, 1) := by decide +kernel
theorem dX4_at_44 : decode cX4_at 44 = .ok (.goto 4, 3) := by decide +kernel
theorem dX4_at_47 : decode cX4_at 47 = .ok (.iconst 0, 1) := by decide +kernel
theorem dX4_at_48 : decode cX4_at 48 = .ok (.ireturn, 1) := by decide +kernel
def jX4_at_16 (sX : zOS) : Option (Int32 × zOS) := (Option.bind (fX4_refuse (-2 : Int32) sX) (fun r_3 : Int32 × zOS => (some (r_3.1, r_3.2))))
set_option maxRecDepth 20000 in
theorem wX4_at_16 {X : zCx} {res : Int32 × zOS} {qX : Nat → Nat} {qP : Nat → Nat} {sP : zOS} (C : zC X RX4 cX4_at 4 2 43) (hR : zR X (some .int) (some (.int res.1)) [(4, qX, res.2), (2, qP, sP)]) (hX50 : qX 50 = qP 0) (sX : zOS) : zJ X 4 res (jX4_at_16 sX) 16 [(0, (.ref (qX 0)))] [] [(4, qX, sX), (2, qP, sP)] := by
  unfold jX4_at_16
  refine z_aload_n (pc := 16) 0 rfl rfl C dX4_at_16 ?_
  refine z_bipush (pc := 17) (-2 : Int32) (by decide) C dX4_at_17 ?_
  refine z_callV (pc := 19) (rf' := 1) (rl' := 21) (fX4_refuse (-2 : Int32) sX) [(.int (-2 : Int32))] [] [(4, qX, sX)] (fun r_3 => (some (.int r_3.1))) (fun r_3 => [(4, qX, r_3.2)]) [(2, qP, sP)] (fun r_3 => [(4, qX, r_3.2), (2, qP, sP)]) C dX4_at_19 zy_X4_refuse zw_328 (fun _ hr9 => mX4_refuse  hr9) (by decide) rfl rfl (by decide) rfl (Nat.le_of_ble_eq_true rfl) (List.Perm.refl _) (fun _ => List.Perm.refl _) rfl (fun r_3 hr_4 => ?_)
  show zJ X 4 res _ 22 [(0, (.ref (qX 0)))] [(.int r_3.1)] [(4, qX, r_3.2), (2, qP, sP)]
  exact z_ireturn (pc := 22) C hR dX4_at_22 (fun h => by subst h; exact ⟨rfl, rfl⟩)
def fX4_at (x1 : Int32) (x2 : Int32) (x3 : Int32) (sX : zOS) (sP : zOS) : Option (Int32 × zOS) := (Option.bind (fX4_isWithin x1 (4 : Int32)) (fun r_1 : Int32 => (if r_1 = 0 then (jX4_at_16 sX) else (Option.bind (fX4_isCell x2 x3) (fun r_5 : Int32 => (if r_5 = 0 then (jX4_at_16 sX) else (zchk x1 4 (Option.bind (fX4_cellBit x2 x3) (fun r_7 : Int64 => (if (lg_cmp ((zL sP 1 x1.toNatClampNeg) &&& r_7) (0 : Int64)) = 0 then (some ((0 : Int32), sX)) else (some ((1 : Int32), sX))))))))))))
set_option maxRecDepth 20000 in
theorem wX4_at {X : zCx} {res : Int32 × zOS}  {qX : Nat → Nat} {qP : Nat → Nat} {x1 : Int32} {x2 : Int32} {x3 : Int32} {sX : zOS} {sP : zOS} (C : zC X RX4 cX4_at 4 2 43) (hR : zR X (some .int) (some (.int res.1)) [(4, qX, res.2), (2, qP, sP)]) (hX50 : qX 50 = qP 0) : zJ X 4 res (fX4_at x1 x2 x3 sX sP) 0 [(0, (.ref (qX 0))), (1, (.int x1)), (2, (.int x2)), (3, (.int x3))] [] [(4, qX, sX), (2, qP, sP)] := by
  unfold fX4_at
  refine z_iload_n (pc := 0) 1 rfl rfl C dX4_at_0 ?_
  refine z_iconst (pc := 1) (4 : Int32) (by decide) C dX4_at_1 ?_
  refine z_callS (pc := 2) (rf' := 0) (rl' := 0) (fX4_isWithin x1 (4 : Int32)) [(.int x1), (.int (4 : Int32))] [] [] (fun r_1 => (some (.int r_1))) (fun r_1 => []) [(4, qX, sX), (2, qP, sP)] (fun r_1 => [(4, qX, sX), (2, qP, sP)]) C dX4_at_2 zy_X4_isWithin zw_313 (fun _ hr9 => mX4_isWithin  hr9) (by decide) rfl (Nat.le_of_ble_eq_true rfl) (List.Perm.refl _) (fun _ => List.Perm.refl _) rfl (fun r_1 hr_2 => ?_)
  show zJ X 4 res _ 5 [(0, (.ref (qX 0))), (1, (.int x1)), (2, (.int x2)), (3, (.int x3))] [(.int r_1)] [(4, qX, sX), (2, qP, sP)]
  refine z_if_eq (pc := 5) 16 C dX4_at_5 (by decide) ?_ ?_
  · refine z_lv [(0, (.ref (qX 0)))] [0] rfl ?_
    exact wX4_at_16 C hR hX50  _
  · refine z_iload_n (pc := 8) 2 rfl rfl C dX4_at_8 ?_
    refine z_iload_n (pc := 9) 3 rfl rfl C dX4_at_9 ?_
    refine z_callS (pc := 10) (rf' := 1) (rl' := 21) (fX4_isCell x2 x3) [(.int x2), (.int x3)] [] [] (fun r_5 => (some (.int r_5))) (fun r_5 => []) [(4, qX, sX), (2, qP, sP)] (fun r_5 => [(4, qX, sX), (2, qP, sP)]) C dX4_at_10 zy_X4_isCell zw_393 (fun _ hr9 => mX4_isCell  hr9) (by decide) rfl (Nat.le_of_ble_eq_true rfl) (List.Perm.refl _) (fun _ => List.Perm.refl _) rfl (fun r_5 hr_6 => ?_)
    show zJ X 4 res _ 13 [(0, (.ref (qX 0))), (1, (.int x1)), (2, (.int x2)), (3, (.int x3))] [(.int r_5)] [(4, qX, sX), (2, qP, sP)]
    refine z_if_ne (pc := 13) 23 C dX4_at_13 (by decide) ?_ ?_
    · refine z_lv [(0, (.ref (qX 0)))] [0] rfl ?_
      exact wX4_at_16 C hR hX50  _
    · refine z_aload_n (pc := 23) 0 rfl rfl C dX4_at_23 ?_
      refine z_getE (pc := 24) 0 1 50 (qP 0) hX50 C dX4_at_24 rfl (by decide) (by decide) rfl zw_262 ?_
      refine z_getR (pc := 27) 1 0 1 C dX4_at_27 rfl (by decide) (by decide) rfl zw_110 ?_
      refine z_iload_n (pc := 30) 1 rfl rfl C dX4_at_30 ?_
      refine z_lald (pc := 31) 1 C dX4_at_31 rfl (by unfold zAr; decide) ?_
      refine z_iload_n (pc := 32) 2 rfl rfl C dX4_at_32 ?_
      refine z_iload_n (pc := 33) 3 rfl rfl C dX4_at_33 ?_
      refine z_callS (pc := 34) (rf' := 0) (rl' := 0) (fX4_cellBit x2 x3) [(.int x2), (.int x3)] [(.long (zL sP 1 x1.toNatClampNeg))] [] (fun r_7 => (some (.long r_7))) (fun r_7 => []) [(4, qX, sX), (2, qP, sP)] (fun r_7 => [(4, qX, sX), (2, qP, sP)]) C dX4_at_34 zy_X4_cellBit zw_394 (fun _ hr9 => mX4_cellBit  hr9) (by decide) rfl (Nat.le_of_ble_eq_true rfl) (List.Perm.refl _) (fun _ => List.Perm.refl _) rfl (fun r_7 hr_8 => ?_)
      show zJ X 4 res _ 37 [(0, (.ref (qX 0))), (1, (.int x1)), (2, (.int x2)), (3, (.int x3))] [(.long r_7), (.long (zL sP 1 x1.toNatClampNeg))] [(4, qX, sX), (2, qP, sP)]
      refine z_land (pc := 37) C dX4_at_37 ?_
      refine z_lconst (pc := 38) (0 : Int64) (by decide) C dX4_at_38 ?_
      refine z_lcmp (pc := 39) C dX4_at_39 ?_
      refine z_if_eq (pc := 40) 47 C dX4_at_40 (by decide) ?_ ?_
      · refine z_iconst (pc := 47) (0 : Int32) (by decide) C dX4_at_47 ?_
        exact z_ireturn (pc := 48) C hR dX4_at_48 (fun h => by subst h; exact ⟨rfl, rfl⟩)
      · refine z_iconst (pc := 43) (1 : Int32) (by decide) C dX4_at_43 ?_
        refine z_goto (pc := 44) 48 C dX4_at_44 (by decide) ?_
        exact z_ireturn (pc := 48) C hR dX4_at_48 (fun h => by subst h; exact ⟨rfl, rfl⟩)
theorem mX4_at  {qX : Nat → Nat} {qP : Nat → Nat} {x1 : Int32} {x2 : Int32} {x3 : Int32} {sX : zOS} {sP : zOS} {res : Int32 × zOS} (hX50 : qX 50 = qP 0) (hf : fX4_at x1 x2 x3 sX sP = some res) : zM yX4_at cX4_at 4 (some .int) 2 43 [(.ref (qX 0)), (.int x1), (.int x2), (.int x3)] [(4, qX, sX), (2, qP, sP)] (some (.int res.1)) [(4, qX, res.2), (2, qP, sP)] := zM_of (by decide +kernel) (Nat.le_of_ble_eq_true rfl) (fun X C hR => wX4_at C hR hX50 hf)
theorem dX4_readLayout_0 : decode cX4_readLayout 0 = .ok (.aload_n 0, 1) := by decide +kernel
theorem dX4_readLayout_1 : decode cX4_readLayout 1 = .ok (.getfield 25, 3) := by decide +kernel
theorem dX4_readLayout_4 : decode cX4_readLayout 4 = .ok (.aload_n 0, 1) := by decide +kernel
theorem dX4_readLayout_5 : decode cX4_readLayout 5 = .ok (.getfield 20, 3) := by decide +kernel
theorem dX4_readLayout_8 : decode cX4_readLayout 8 = .ok (.getfield 96, 3) := by decide +kernel
theorem dX4_readLayout_11 : decode cX4_readLayout 11 = .ok (.invokevirtual 213, 3) := by decide +kernel
theorem dX4_readLayout_14 : decode cX4_readLayout 14 = .ok (.aload_n 0, 1) := by decide +kernel
theorem dX4_readLayout_15 : decode cX4_readLayout 15 = .ok (.getfield 25, 3) := by decide +kernel
theorem dX4_readLayout_18 : decode cX4_readLayout 18 = .ok (.areturn, 1) := by decide +kernel
def fX4_readLayout (F : Nat) (sL : zOS) (sP : zOS) : Option (zOS) := (Option.bind (fX0_refresh F sL sP) (fun r_1 : zOS => (some (r_1))))
set_option maxRecDepth 20000 in
theorem wX4_readLayout {X : zCx} {res : zOS} {F : Nat} {qX : Nat → Nat} {qL : Nat → Nat} {qP : Nat → Nat} {sX : zOS} {sL : zOS} {sP : zOS} (C : zC X RX4 cX4_readLayout 1 5 112) (hR : zR X (some (.object "DrawnGates$Layout")) (some (.ref (qL 0))) [(4, qX, sX), (0, qL, res), (2, qP, sP)]) (hX50 : qX 50 = qP 0) (hX52 : qX 52 = qL 0) : zJ X 1 res (fX4_readLayout F sL sP) 0 [(0, (.ref (qX 0)))] [] [(4, qX, sX), (0, qL, sL), (2, qP, sP)] := by
  unfold fX4_readLayout
  refine z_aload_n (pc := 0) 0 rfl rfl C dX4_readLayout_0 ?_
  refine z_getE (pc := 1) 0 2 52 (qL 0) hX52 C dX4_readLayout_1 rfl (by decide) (by decide) rfl zw_263 ?_
  refine z_aload_n (pc := 4) 0 rfl rfl C dX4_readLayout_4 ?_
  refine z_getE (pc := 5) 0 1 50 (qP 0) hX50 C dX4_readLayout_5 rfl (by decide) (by decide) rfl zw_262 ?_
  refine z_getR (pc := 8) 2 0 1 C dX4_readLayout_8 rfl (by decide) (by decide) rfl zw_110 ?_
  refine z_callV (pc := 11) (rf' := 4) (rl' := 91) (fX0_refresh F sL sP) [(.ref (qP 1))] [] [(0, qL, sL), (2, qP, sP)] (fun r_1 => none) (fun r_1 => [(0, qL, r_1), (2, qP, sP)]) [(4, qX, sX)] (fun r_1 => [(4, qX, sX), (0, qL, r_1), (2, qP, sP)]) C dX4_readLayout_11 zy_X0_refresh zw_403 (fun _ hr9 => mX0_refresh  hr9) (by decide) rfl rfl (by decide) rfl (Nat.le_of_ble_eq_true rfl) (z_pn 3 _ rfl [1, 2, 0] (by decide)).symm (fun _ => (z_pn 3 _ rfl [2, 0, 1] (by decide)).symm) rfl (fun r_1 hr_2 => ?_)
  show zJ X 1 res _ 14 [(0, (.ref (qX 0)))] [] [(4, qX, sX), (0, qL, r_1), (2, qP, sP)]
  refine z_aload_n (pc := 14) 0 rfl rfl C dX4_readLayout_14 ?_
  refine z_getE (pc := 15) 0 2 52 (qL 0) hX52 C dX4_readLayout_15 rfl (by decide) (by decide) rfl zw_263 ?_
  exact z_areturn (pc := 18) C hR dX4_readLayout_18 (fun h => by subst h; exact ⟨rfl, rfl⟩) ⟨_, rfl⟩
theorem mX4_readLayout {F : Nat} {qX : Nat → Nat} {qL : Nat → Nat} {qP : Nat → Nat} {sX : zOS} {sL : zOS} {sP : zOS} {res : zOS} (hX50 : qX 50 = qP 0) (hX52 : qX 52 = qL 0) (hf : fX4_readLayout F sL sP = some res) : zM yX4_readLayout cX4_readLayout 1 (some (.object "DrawnGates$Layout")) 5 112 [(.ref (qX 0))] [(4, qX, sX), (0, qL, sL), (2, qP, sP)] (some (.ref (qL 0))) [(4, qX, sX), (0, qL, res), (2, qP, sP)] := zM_of (by decide +kernel) (Nat.le_of_ble_eq_true rfl) (fun X C hR => wX4_readLayout (F := F) C hR hX50 hX52 hf)
theorem dX4_node_0 : decode cX4_node 0 = .ok (.iload_n 1, 1) := by decide +kernel
theorem dX4_node_1 : decode cX4_node 1 = .ok (.iconst 3, 1) := by decide +kernel
theorem dX4_node_2 : decode cX4_node 2 = .ok (.invokestatic 86, 3) := by decide +kernel
theorem dX4_node_5 : decode cX4_node 5 = .ok (.ifCond .eq 11, 3) := by decide +kernel
theorem dX4_node_8 : decode cX4_node 8 = .ok (.iload_n 2, 1) := by decide +kernel
theorem dX4_node_9 : decode cX4_node 9 = .ok (.iload_n 3, 1) := by decide +kernel
theorem dX4_node_10 : decode cX4_node 10 = .ok (.invokestatic 90, 3) := by decide +kernel
theorem dX4_node_13 : decode cX4_node 13 = .ok (.ifCond .ne 10, 3) := by decide +kernel
theorem dX4_node_16 : decode cX4_node 16 = .ok (.aload_n 0, 1) := by decide +kernel
theorem dX4_node_17 : decode cX4_node 17 = .ok (.bipush (-2), 2) := by decide +kernel
theorem dX4_node_19 : decode cX4_node 19 = .ok (.invokevirtual 93, 3) := by decide +kernel
theorem dX4_node_22 : decode cX4_node 22 = .ok (.ireturn, 1) := by decide +kernel
theorem dX4_node_23 : decode cX4_node 23 = .ok (.aload_n 0, 1) := by decide +kernel
theorem dX4_node_24 : decode cX4_node 24 = .ok (.invokevirtual 104, 3) := by decide +kernel
theorem dX4_node_27 : decode cX4_node 27 = .ok (.iload_n 1, 1) := by decide +kernel
theorem dX4_node_28 : decode cX4_node 28 = .ok (.iload_n 2, 1) := by decide +kernel
theorem dX4_node_29 : decode cX4_node 29 = .ok (.iload_n 3, 1) := by decide +kernel
theorem dX4_node_30 : decode cX4_node 30 = .ok (.invokestatic 100, 3) := by decide +kernel
theorem dX4_node_33 : decode cX4_node 33 = .ok (.invokevirtual 108, 3) := by decide +kernel
theorem dX4_node_36 : decode cX4_node 36 = .ok (.ireturn, 1) := by decide +kernel
def jX4_node_16 (F : Nat) (sX : zOS) (sL : zOS) : Option (Int32 × zOS × zOS) := (Option.bind (fX4_refuse (-2 : Int32) sX) (fun r_3 : Int32 × zOS => (some (r_3.1, r_3.2, sL))))
set_option maxRecDepth 20000 in
theorem wX4_node_16 {X : zCx} {res : Int32 × zOS × zOS} {F : Nat} {qX : Nat → Nat} {qL : Nat → Nat} {qP : Nat → Nat} {sP : zOS} (C : zC X RX4 cX4_node 4 6 132) (hR : zR X (some .int) (some (.int res.1)) [(4, qX, res.2.1), (0, qL, res.2.2), (2, qP, sP)]) (hX50 : qX 50 = qP 0) (hX52 : qX 52 = qL 0) (sX : zOS) (sL : zOS) : zJ X 4 res (jX4_node_16 F sX sL) 16 [(0, (.ref (qX 0)))] [] [(4, qX, sX), (0, qL, sL), (2, qP, sP)] := by
  unfold jX4_node_16
  refine z_aload_n (pc := 16) 0 rfl rfl C dX4_node_16 ?_
  refine z_bipush (pc := 17) (-2 : Int32) (by decide) C dX4_node_17 ?_
  refine z_callV (pc := 19) (rf' := 1) (rl' := 21) (fX4_refuse (-2 : Int32) sX) [(.int (-2 : Int32))] [] [(4, qX, sX)] (fun r_3 => (some (.int r_3.1))) (fun r_3 => [(4, qX, r_3.2)]) [(0, qL, sL), (2, qP, sP)] (fun r_3 => [(4, qX, r_3.2), (0, qL, sL), (2, qP, sP)]) C dX4_node_19 zy_X4_refuse zw_328 (fun _ hr9 => mX4_refuse  hr9) (by decide) rfl rfl (by decide) rfl (Nat.le_of_ble_eq_true rfl) (List.Perm.refl _) (fun _ => List.Perm.refl _) rfl (fun r_3 hr_4 => ?_)
  show zJ X 4 res _ 22 [(0, (.ref (qX 0)))] [(.int r_3.1)] [(4, qX, r_3.2), (0, qL, sL), (2, qP, sP)]
  exact z_ireturn (pc := 22) C hR dX4_node_22 (fun h => by subst h; exact ⟨rfl, rfl⟩)
def fX4_node (F : Nat) (x1 : Int32) (x2 : Int32) (x3 : Int32) (sX : zOS) (sL : zOS) (sP : zOS) : Option (Int32 × zOS × zOS) := (Option.bind (fX4_isWithin x1 (3 : Int32)) (fun r_1 : Int32 => (if r_1 = 0 then (jX4_node_16 F sX sL) else (Option.bind (fX4_isCell x2 x3) (fun r_5 : Int32 => (if r_5 = 0 then (jX4_node_16 F sX sL) else (Option.bind (fX4_readLayout F sL sP) (fun r_7 : zOS => (Option.bind (fX4_cellBit x2 x3) (fun r_9 : Int64 => (Option.bind (fX0_nodeWith F x1 r_9 r_7) (fun r_11 : Int32 => (some (r_11, sX, r_7))))))))))))))
set_option maxRecDepth 20000 in
theorem wX4_node {X : zCx} {res : Int32 × zOS × zOS} {F : Nat} {qX : Nat → Nat} {qL : Nat → Nat} {qP : Nat → Nat} {x1 : Int32} {x2 : Int32} {x3 : Int32} {sX : zOS} {sL : zOS} {sP : zOS} (C : zC X RX4 cX4_node 4 6 132) (hR : zR X (some .int) (some (.int res.1)) [(4, qX, res.2.1), (0, qL, res.2.2), (2, qP, sP)]) (hX50 : qX 50 = qP 0) (hX52 : qX 52 = qL 0) : zJ X 4 res (fX4_node F x1 x2 x3 sX sL sP) 0 [(0, (.ref (qX 0))), (1, (.int x1)), (2, (.int x2)), (3, (.int x3))] [] [(4, qX, sX), (0, qL, sL), (2, qP, sP)] := by
  unfold fX4_node
  refine z_iload_n (pc := 0) 1 rfl rfl C dX4_node_0 ?_
  refine z_iconst (pc := 1) (3 : Int32) (by decide) C dX4_node_1 ?_
  refine z_callS (pc := 2) (rf' := 0) (rl' := 0) (fX4_isWithin x1 (3 : Int32)) [(.int x1), (.int (3 : Int32))] [] [] (fun r_1 => (some (.int r_1))) (fun r_1 => []) [(4, qX, sX), (0, qL, sL), (2, qP, sP)] (fun r_1 => [(4, qX, sX), (0, qL, sL), (2, qP, sP)]) C dX4_node_2 zy_X4_isWithin zw_313 (fun _ hr9 => mX4_isWithin  hr9) (by decide) rfl (Nat.le_of_ble_eq_true rfl) (List.Perm.refl _) (fun _ => List.Perm.refl _) rfl (fun r_1 hr_2 => ?_)
  show zJ X 4 res _ 5 [(0, (.ref (qX 0))), (1, (.int x1)), (2, (.int x2)), (3, (.int x3))] [(.int r_1)] [(4, qX, sX), (0, qL, sL), (2, qP, sP)]
  refine z_if_eq (pc := 5) 16 C dX4_node_5 (by decide) ?_ ?_
  · refine z_lv [(0, (.ref (qX 0)))] [0] rfl ?_
    exact wX4_node_16 C hR hX50 hX52  _ _
  · refine z_iload_n (pc := 8) 2 rfl rfl C dX4_node_8 ?_
    refine z_iload_n (pc := 9) 3 rfl rfl C dX4_node_9 ?_
    refine z_callS (pc := 10) (rf' := 1) (rl' := 21) (fX4_isCell x2 x3) [(.int x2), (.int x3)] [] [] (fun r_5 => (some (.int r_5))) (fun r_5 => []) [(4, qX, sX), (0, qL, sL), (2, qP, sP)] (fun r_5 => [(4, qX, sX), (0, qL, sL), (2, qP, sP)]) C dX4_node_10 zy_X4_isCell zw_393 (fun _ hr9 => mX4_isCell  hr9) (by decide) rfl (Nat.le_of_ble_eq_true rfl) (List.Perm.refl _) (fun _ => List.Perm.refl _) rfl (fun r_5 hr_6 => ?_)
    show zJ X 4 res _ 13 [(0, (.ref (qX 0))), (1, (.int x1)), (2, (.int x2)), (3, (.int x3))] [(.int r_5)] [(4, qX, sX), (0, qL, sL), (2, qP, sP)]
    refine z_if_ne (pc := 13) 23 C dX4_node_13 (by decide) ?_ ?_
    · refine z_lv [(0, (.ref (qX 0)))] [0] rfl ?_
      exact wX4_node_16 C hR hX50 hX52  _ _
    · refine z_aload_n (pc := 23) 0 rfl rfl C dX4_node_23 ?_
      refine z_callV (pc := 24) (rf' := 5) (rl' := 112) (fX4_readLayout F sL sP) [] [] [(4, qX, sX), (0, qL, sL), (2, qP, sP)] (fun r_7 => (some (.ref (qL 0)))) (fun r_7 => [(4, qX, sX), (0, qL, r_7), (2, qP, sP)]) [] (fun r_7 => [(4, qX, sX), (0, qL, r_7), (2, qP, sP)]) C dX4_node_24 zy_X4_readLayout zw_399 (fun _ hr9 => mX4_readLayout hX50 hX52 hr9) (by decide) rfl rfl (by decide) rfl (Nat.le_of_ble_eq_true rfl) (List.Perm.refl _) (fun _ => List.Perm.refl _) rfl (fun r_7 hr_8 => ?_)
      show zJ X 4 res _ 27 [(0, (.ref (qX 0))), (1, (.int x1)), (2, (.int x2)), (3, (.int x3))] [(.ref (qL 0))] [(4, qX, sX), (0, qL, r_7), (2, qP, sP)]
      refine z_iload_n (pc := 27) 1 rfl rfl C dX4_node_27 ?_
      refine z_iload_n (pc := 28) 2 rfl rfl C dX4_node_28 ?_
      refine z_iload_n (pc := 29) 3 rfl rfl C dX4_node_29 ?_
      refine z_callS (pc := 30) (rf' := 0) (rl' := 0) (fX4_cellBit x2 x3) [(.int x2), (.int x3)] [(.int x1), (.ref (qL 0))] [] (fun r_9 => (some (.long r_9))) (fun r_9 => []) [(4, qX, sX), (0, qL, r_7), (2, qP, sP)] (fun r_9 => [(4, qX, sX), (0, qL, r_7), (2, qP, sP)]) C dX4_node_30 zy_X4_cellBit zw_394 (fun _ hr9 => mX4_cellBit  hr9) (by decide) rfl (Nat.le_of_ble_eq_true rfl) (List.Perm.refl _) (fun _ => List.Perm.refl _) rfl (fun r_9 hr_10 => ?_)
      show zJ X 4 res _ 33 [(0, (.ref (qX 0))), (1, (.int x1)), (2, (.int x2)), (3, (.int x3))] [(.long r_9), (.int x1), (.ref (qL 0))] [(4, qX, sX), (0, qL, r_7), (2, qP, sP)]
      refine z_callV (pc := 33) (rf' := 0) (rl' := 0) (fX0_nodeWith F x1 r_9 r_7) [(.int x1), (.long r_9)] [] [(0, qL, r_7)] (fun r_11 => (some (.int r_11))) (fun r_11 => [(0, qL, r_7)]) [(4, qX, sX), (2, qP, sP)] (fun r_11 => [(4, qX, sX), (0, qL, r_7), (2, qP, sP)]) C dX4_node_33 zy_X0_nodeWith zw_483 (fun _ hr9 => mX0_nodeWith  hr9) (by decide) rfl rfl (by decide) rfl (Nat.le_of_ble_eq_true rfl) (z_pn 3 _ rfl [1, 0, 2] (by decide)).symm (fun _ => (z_pn 3 _ rfl [1, 0, 2] (by decide)).symm) rfl (fun r_11 hr_12 => ?_)
      show zJ X 4 res _ 36 [(0, (.ref (qX 0))), (1, (.int x1)), (2, (.int x2)), (3, (.int x3))] [(.int r_11)] [(4, qX, sX), (0, qL, r_7), (2, qP, sP)]
      exact z_ireturn (pc := 36) C hR dX4_node_36 (fun h => by subst h; exact ⟨rfl, rfl⟩)
theorem mX4_node {F : Nat} {qX : Nat → Nat} {qL : Nat → Nat} {qP : Nat → Nat} {x1 : Int32} {x2 : Int32} {x3 : Int32} {sX : zOS} {sL : zOS} {sP : zOS} {res : Int32 × zOS × zOS} (hX50 : qX 50 = qP 0) (hX52 : qX 52 = qL 0) (hf : fX4_node F x1 x2 x3 sX sL sP = some res) : zM yX4_node cX4_node 4 (some .int) 6 132 [(.ref (qX 0)), (.int x1), (.int x2), (.int x3)] [(4, qX, sX), (0, qL, sL), (2, qP, sP)] (some (.int res.1)) [(4, qX, res.2.1), (0, qL, res.2.2), (2, qP, sP)] := zM_of (by decide +kernel) (Nat.le_of_ble_eq_true rfl) (fun X C hR => wX4_node (F := F) C hR hX50 hX52 hf)
theorem dX4_gateAt_0 : decode cX4_gateAt 0 = .ok (.iload_n 1, 1) := by decide +kernel
theorem dX4_gateAt_1 : decode cX4_gateAt 1 = .ok (.iload_n 2, 1) := by decide +kernel
theorem dX4_gateAt_2 : decode cX4_gateAt 2 = .ok (.invokestatic 90, 3) := by decide +kernel
theorem dX4_gateAt_5 : decode cX4_gateAt 5 = .ok (.ifCond .ne 10, 3) := by decide +kernel
theorem dX4_gateAt_8 : decode cX4_gateAt 8 = .ok (.aload_n 0, 1) := by decide +kernel
theorem dX4_gateAt_9 : decode cX4_gateAt 9 = .ok (.bipush (-2), 2) := by decide +kernel
theorem dX4_gateAt_11 : decode cX4_gateAt 11 = .ok (.invokevirtual 93, 3) := by decide +kernel
theorem dX4_gateAt_14 : decode cX4_gateAt 14 = .ok (.ireturn, 1) := by decide +kernel
theorem dX4_gateAt_15 : decode cX4_gateAt 15 = .ok (.aload_n 0, 1) := by decide +kernel
theorem dX4_gateAt_16 : decode cX4_gateAt 16 = .ok (.invokevirtual 104, 3) := by decide +kernel
theorem dX4_gateAt_19 : decode cX4_gateAt 19 = .ok (.iload_n 1, 1) := by decide +kernel
theorem dX4_gateAt_20 : decode cX4_gateAt 20 = .ok (.iload_n 2, 1) := by decide +kernel
theorem dX4_gateAt_21 : decode cX4_gateAt 21 = .ok (.invokestatic 100, 3) := by decide +kernel
theorem dX4_gateAt_24 : decode cX4_gateAt 24 = .ok (.invokevirtual 146, 3) := by decide +kernel
theorem dX4_gateAt_27 : decode cX4_gateAt 27 = .ok (.ireturn, 1) := by decide +kernel
def fX4_gateAt (F : Nat) (x1 : Int32) (x2 : Int32) (sX : zOS) (sL : zOS) (sP : zOS) : Option (Int32 × zOS × zOS) := (Option.bind (fX4_isCell x1 x2) (fun r_1 : Int32 => (if r_1 = 0 then (Option.bind (fX4_refuse (-2 : Int32) sX) (fun r_3 : Int32 × zOS => (some (r_3.1, r_3.2, sL)))) else (Option.bind (fX4_readLayout F sL sP) (fun r_5 : zOS => (Option.bind (fX4_cellBit x1 x2) (fun r_7 : Int64 => (Option.bind (fX0_gateWith F r_7 r_5) (fun r_9 : Int32 => (some (r_9, sX, r_5)))))))))))
set_option maxRecDepth 20000 in
theorem wX4_gateAt {X : zCx} {res : Int32 × zOS × zOS} {F : Nat} {qX : Nat → Nat} {qL : Nat → Nat} {qP : Nat → Nat} {x1 : Int32} {x2 : Int32} {sX : zOS} {sL : zOS} {sP : zOS} (C : zC X RX4 cX4_gateAt 3 6 132) (hR : zR X (some .int) (some (.int res.1)) [(4, qX, res.2.1), (0, qL, res.2.2), (2, qP, sP)]) (hX50 : qX 50 = qP 0) (hX52 : qX 52 = qL 0) : zJ X 3 res (fX4_gateAt F x1 x2 sX sL sP) 0 [(0, (.ref (qX 0))), (1, (.int x1)), (2, (.int x2))] [] [(4, qX, sX), (0, qL, sL), (2, qP, sP)] := by
  unfold fX4_gateAt
  refine z_iload_n (pc := 0) 1 rfl rfl C dX4_gateAt_0 ?_
  refine z_iload_n (pc := 1) 2 rfl rfl C dX4_gateAt_1 ?_
  refine z_callS (pc := 2) (rf' := 1) (rl' := 21) (fX4_isCell x1 x2) [(.int x1), (.int x2)] [] [] (fun r_1 => (some (.int r_1))) (fun r_1 => []) [(4, qX, sX), (0, qL, sL), (2, qP, sP)] (fun r_1 => [(4, qX, sX), (0, qL, sL), (2, qP, sP)]) C dX4_gateAt_2 zy_X4_isCell zw_393 (fun _ hr9 => mX4_isCell  hr9) (by decide) rfl (Nat.le_of_ble_eq_true rfl) (List.Perm.refl _) (fun _ => List.Perm.refl _) rfl (fun r_1 hr_2 => ?_)
  show zJ X 3 res _ 5 [(0, (.ref (qX 0))), (1, (.int x1)), (2, (.int x2))] [(.int r_1)] [(4, qX, sX), (0, qL, sL), (2, qP, sP)]
  refine z_if_ne (pc := 5) 15 C dX4_gateAt_5 (by decide) ?_ ?_
  · refine z_aload_n (pc := 8) 0 rfl rfl C dX4_gateAt_8 ?_
    refine z_bipush (pc := 9) (-2 : Int32) (by decide) C dX4_gateAt_9 ?_
    refine z_callV (pc := 11) (rf' := 1) (rl' := 21) (fX4_refuse (-2 : Int32) sX) [(.int (-2 : Int32))] [] [(4, qX, sX)] (fun r_3 => (some (.int r_3.1))) (fun r_3 => [(4, qX, r_3.2)]) [(0, qL, sL), (2, qP, sP)] (fun r_3 => [(4, qX, r_3.2), (0, qL, sL), (2, qP, sP)]) C dX4_gateAt_11 zy_X4_refuse zw_328 (fun _ hr9 => mX4_refuse  hr9) (by decide) rfl rfl (by decide) rfl (Nat.le_of_ble_eq_true rfl) (List.Perm.refl _) (fun _ => List.Perm.refl _) rfl (fun r_3 hr_4 => ?_)
    show zJ X 3 res _ 14 [(0, (.ref (qX 0))), (1, (.int x1)), (2, (.int x2))] [(.int r_3.1)] [(4, qX, r_3.2), (0, qL, sL), (2, qP, sP)]
    exact z_ireturn (pc := 14) C hR dX4_gateAt_14 (fun h => by subst h; exact ⟨rfl, rfl⟩)
  · refine z_aload_n (pc := 15) 0 rfl rfl C dX4_gateAt_15 ?_
    refine z_callV (pc := 16) (rf' := 5) (rl' := 112) (fX4_readLayout F sL sP) [] [] [(4, qX, sX), (0, qL, sL), (2, qP, sP)] (fun r_5 => (some (.ref (qL 0)))) (fun r_5 => [(4, qX, sX), (0, qL, r_5), (2, qP, sP)]) [] (fun r_5 => [(4, qX, sX), (0, qL, r_5), (2, qP, sP)]) C dX4_gateAt_16 zy_X4_readLayout zw_399 (fun _ hr9 => mX4_readLayout hX50 hX52 hr9) (by decide) rfl rfl (by decide) rfl (Nat.le_of_ble_eq_true rfl) (List.Perm.refl _) (fun _ => List.Perm.refl _) rfl (fun r_5 hr_6 => ?_)
    show zJ X 3 res _ 19 [(0, (.ref (qX 0))), (1, (.int x1)), (2, (.int x2))] [(.ref (qL 0))] [(4, qX, sX), (0, qL, r_5), (2, qP, sP)]
    refine z_iload_n (pc := 19) 1 rfl rfl C dX4_gateAt_19 ?_
    refine z_iload_n (pc := 20) 2 rfl rfl C dX4_gateAt_20 ?_
    refine z_callS (pc := 21) (rf' := 0) (rl' := 0) (fX4_cellBit x1 x2) [(.int x1), (.int x2)] [(.ref (qL 0))] [] (fun r_7 => (some (.long r_7))) (fun r_7 => []) [(4, qX, sX), (0, qL, r_5), (2, qP, sP)] (fun r_7 => [(4, qX, sX), (0, qL, r_5), (2, qP, sP)]) C dX4_gateAt_21 zy_X4_cellBit zw_394 (fun _ hr9 => mX4_cellBit  hr9) (by decide) rfl (Nat.le_of_ble_eq_true rfl) (List.Perm.refl _) (fun _ => List.Perm.refl _) rfl (fun r_7 hr_8 => ?_)
    show zJ X 3 res _ 24 [(0, (.ref (qX 0))), (1, (.int x1)), (2, (.int x2))] [(.long r_7), (.ref (qL 0))] [(4, qX, sX), (0, qL, r_5), (2, qP, sP)]
    refine z_callV (pc := 24) (rf' := 0) (rl' := 0) (fX0_gateWith F r_7 r_5) [(.long r_7)] [] [(0, qL, r_5)] (fun r_9 => (some (.int r_9))) (fun r_9 => [(0, qL, r_5)]) [(4, qX, sX), (2, qP, sP)] (fun r_9 => [(4, qX, sX), (0, qL, r_5), (2, qP, sP)]) C dX4_gateAt_24 zy_X0_gateWith zw_586 (fun _ hr9 => mX0_gateWith  hr9) (by decide) rfl rfl (by decide) rfl (Nat.le_of_ble_eq_true rfl) (z_pn 3 _ rfl [1, 0, 2] (by decide)).symm (fun _ => (z_pn 3 _ rfl [1, 0, 2] (by decide)).symm) rfl (fun r_9 hr_10 => ?_)
    show zJ X 3 res _ 27 [(0, (.ref (qX 0))), (1, (.int x1)), (2, (.int x2))] [(.int r_9)] [(4, qX, sX), (0, qL, r_5), (2, qP, sP)]
    exact z_ireturn (pc := 27) C hR dX4_gateAt_27 (fun h => by subst h; exact ⟨rfl, rfl⟩)
theorem mX4_gateAt {F : Nat} {qX : Nat → Nat} {qL : Nat → Nat} {qP : Nat → Nat} {x1 : Int32} {x2 : Int32} {sX : zOS} {sL : zOS} {sP : zOS} {res : Int32 × zOS × zOS} (hX50 : qX 50 = qP 0) (hX52 : qX 52 = qL 0) (hf : fX4_gateAt F x1 x2 sX sL sP = some res) : zM yX4_gateAt cX4_gateAt 3 (some .int) 6 132 [(.ref (qX 0)), (.int x1), (.int x2)] [(4, qX, sX), (0, qL, sL), (2, qP, sP)] (some (.int res.1)) [(4, qX, res.2.1), (0, qL, res.2.2), (2, qP, sP)] := zM_of (by decide +kernel) (Nat.le_of_ble_eq_true rfl) (fun X C hR => wX4_gateAt (F := F) C hR hX50 hX52 hf)
theorem dX4_gate_0 : decode cX4_gate 0 = .ok (.aload_n 0, 1) := by decide +kernel
theorem dX4_gate_1 : decode cX4_gate 1 = .ok (.invokevirtual 104, 3) := by decide +kernel
theorem dX4_gate_4 : decode cX4_gate 4 = .ok (.astore_n 3, 1) := by decide +kernel
theorem dX4_gate_5 : decode cX4_gate 5 = .ok (.iload_n 1, 1) := by decide +kernel
theorem dX4_gate_6 : decode cX4_gate 6 = .ok (.aload_n 3, 1) := by decide +kernel
theorem dX4_gate_7 : decode cX4_gate 7 = .ok (.getfield 117, 3) := by decide +kernel
theorem dX4_gate_10 : decode cX4_gate 10 = .ok (.invokestatic 86, 3) := by decide +kernel
theorem dX4_gate_13 : decode cX4_gate 13 = .ok (.ifCond .eq 12, 3) := by decide +kernel
theorem dX4_gate_16 : decode cX4_gate 16 = .ok (.iload_n 2, 1) := by decide +kernel
theorem dX4_gate_17 : decode cX4_gate 17 = .ok (.bipush 6, 2) := by decide +kernel
theorem dX4_gate_19 : decode cX4_gate 19 = .ok (.invokestatic 86, 3) := by decide +kernel
theorem dX4_gate_22 : decode cX4_gate 22 = .ok (.ifCond .ne 10, 3) := by decide +kernel
theorem dX4_gate_25 : decode cX4_gate 25 = .ok (.aload_n 0, 1) := by decide +kernel
theorem dX4_gate_26 : decode cX4_gate 26 = .ok (.bipush (-2), 2) := by decide +kernel
theorem dX4_gate_28 : decode cX4_gate 28 = .ok (.invokevirtual 93, 3) := by decide +kernel
theorem dX4_gate_31 : decode cX4_gate 31 = .ok (.ireturn, 1) := by decide +kernel
theorem dX4_gate_32 : decode cX4_gate 32 = .ok (.aload_n 3, 1) := by decide +kernel
theorem dX4_gate_33 : decode cX4_gate 33 = .ok (.iload_n 1, 1) := by decide +kernel
theorem dX4_gate_34 : decode cX4_gate 34 = .ok (.iload_n 2, 1) := by decide +kernel
theorem dX4_gate_35 : decode cX4_gate 35 = .ok (.invokevirtual 150, 3) := by decide +kernel
theorem dX4_gate_38 : decode cX4_gate 38 = .ok (.ireturn, 1) := by decide +kernel
def jX4_gate_25 (F : Nat) (sX : zOS) (sL : zOS) : Option (Int32 × zOS × zOS) := (Option.bind (fX4_refuse (-2 : Int32) sX) (fun r_5 : Int32 × zOS => (some (r_5.1, r_5.2, sL))))
set_option maxRecDepth 20000 in
theorem wX4_gate_25 {X : zCx} {res : Int32 × zOS × zOS} {F : Nat} {qX : Nat → Nat} {qL : Nat → Nat} {qP : Nat → Nat} {sP : zOS} (C : zC X RX4 cX4_gate 4 6 132) (hR : zR X (some .int) (some (.int res.1)) [(4, qX, res.2.1), (0, qL, res.2.2), (2, qP, sP)]) (hX50 : qX 50 = qP 0) (hX52 : qX 52 = qL 0) (sX : zOS) (sL : zOS) : zJ X 4 res (jX4_gate_25 F sX sL) 25 [(0, (.ref (qX 0)))] [] [(4, qX, sX), (0, qL, sL), (2, qP, sP)] := by
  unfold jX4_gate_25
  refine z_aload_n (pc := 25) 0 rfl rfl C dX4_gate_25 ?_
  refine z_bipush (pc := 26) (-2 : Int32) (by decide) C dX4_gate_26 ?_
  refine z_callV (pc := 28) (rf' := 1) (rl' := 21) (fX4_refuse (-2 : Int32) sX) [(.int (-2 : Int32))] [] [(4, qX, sX)] (fun r_5 => (some (.int r_5.1))) (fun r_5 => [(4, qX, r_5.2)]) [(0, qL, sL), (2, qP, sP)] (fun r_5 => [(4, qX, r_5.2), (0, qL, sL), (2, qP, sP)]) C dX4_gate_28 zy_X4_refuse zw_328 (fun _ hr9 => mX4_refuse  hr9) (by decide) rfl rfl (by decide) rfl (Nat.le_of_ble_eq_true rfl) (List.Perm.refl _) (fun _ => List.Perm.refl _) rfl (fun r_5 hr_6 => ?_)
  show zJ X 4 res _ 31 [(0, (.ref (qX 0)))] [(.int r_5.1)] [(4, qX, r_5.2), (0, qL, sL), (2, qP, sP)]
  exact z_ireturn (pc := 31) C hR dX4_gate_31 (fun h => by subst h; exact ⟨rfl, rfl⟩)
def fX4_gate (F : Nat) (x1 : Int32) (x2 : Int32) (sX : zOS) (sL : zOS) (sP : zOS) : Option (Int32 × zOS × zOS) := (Option.bind (fX4_readLayout F sL sP) (fun r_1 : zOS => (Option.bind (fX4_isWithin x1 (zF r_1 14)) (fun r_3 : Int32 => (if r_3 = 0 then (jX4_gate_25 F sX r_1) else (Option.bind (fX4_isWithin x2 (6 : Int32)) (fun r_7 : Int32 => (if r_7 = 0 then (jX4_gate_25 F sX r_1) else (Option.bind (fX0_tellGate x1 x2 r_1) (fun r_9 : Int32 => (some (r_9, sX, r_1))))))))))))
set_option maxRecDepth 20000 in
theorem wX4_gate {X : zCx} {res : Int32 × zOS × zOS} {F : Nat} {qX : Nat → Nat} {qL : Nat → Nat} {qP : Nat → Nat} {x1 : Int32} {x2 : Int32} {sX : zOS} {sL : zOS} {sP : zOS} (C : zC X RX4 cX4_gate 4 6 132) (hR : zR X (some .int) (some (.int res.1)) [(4, qX, res.2.1), (0, qL, res.2.2), (2, qP, sP)]) (hX50 : qX 50 = qP 0) (hX52 : qX 52 = qL 0) : zJ X 4 res (fX4_gate F x1 x2 sX sL sP) 0 [(0, (.ref (qX 0))), (1, (.int x1)), (2, (.int x2))] [] [(4, qX, sX), (0, qL, sL), (2, qP, sP)] := by
  unfold fX4_gate
  refine z_aload_n (pc := 0) 0 rfl rfl C dX4_gate_0 ?_
  refine z_callV (pc := 1) (rf' := 5) (rl' := 112) (fX4_readLayout F sL sP) [] [] [(4, qX, sX), (0, qL, sL), (2, qP, sP)] (fun r_1 => (some (.ref (qL 0)))) (fun r_1 => [(4, qX, sX), (0, qL, r_1), (2, qP, sP)]) [] (fun r_1 => [(4, qX, sX), (0, qL, r_1), (2, qP, sP)]) C dX4_gate_1 zy_X4_readLayout zw_399 (fun _ hr9 => mX4_readLayout hX50 hX52 hr9) (by decide) rfl rfl (by decide) rfl (Nat.le_of_ble_eq_true rfl) (List.Perm.refl _) (fun _ => List.Perm.refl _) rfl (fun r_1 hr_2 => ?_)
  show zJ X 4 res _ 4 [(0, (.ref (qX 0))), (1, (.int x1)), (2, (.int x2))] [(.ref (qL 0))] [(4, qX, sX), (0, qL, r_1), (2, qP, sP)]
  refine z_astore_n (pc := 4) [(0, (.ref (qX 0))), (1, (.int x1)), (2, (.int x2)), (3, (.ref (qL 0)))] [1, 2, 3, 0] (by decide) rfl rfl C dX4_gate_4 ?_
  refine z_iload_n (pc := 5) 1 rfl rfl C dX4_gate_5 ?_
  refine z_aload_n (pc := 6) 3 rfl rfl C dX4_gate_6 ?_
  refine z_getI (pc := 7) 1 14 C dX4_gate_7 rfl (by decide) (by decide) rfl zw_164 ?_
  refine z_callS (pc := 10) (rf' := 0) (rl' := 0) (fX4_isWithin x1 (zF r_1 14)) [(.int x1), (.int (zF r_1 14))] [] [] (fun r_3 => (some (.int r_3))) (fun r_3 => []) [(4, qX, sX), (0, qL, r_1), (2, qP, sP)] (fun r_3 => [(4, qX, sX), (0, qL, r_1), (2, qP, sP)]) C dX4_gate_10 zy_X4_isWithin zw_313 (fun _ hr9 => mX4_isWithin  hr9) (by decide) rfl (Nat.le_of_ble_eq_true rfl) (List.Perm.refl _) (fun _ => List.Perm.refl _) rfl (fun r_3 hr_4 => ?_)
  show zJ X 4 res _ 13 [(0, (.ref (qX 0))), (1, (.int x1)), (2, (.int x2)), (3, (.ref (qL 0)))] [(.int r_3)] [(4, qX, sX), (0, qL, r_1), (2, qP, sP)]
  refine z_if_eq (pc := 13) 25 C dX4_gate_13 (by decide) ?_ ?_
  · refine z_lv [(0, (.ref (qX 0)))] [0] rfl ?_
    exact wX4_gate_25 C hR hX50 hX52  _ _
  · refine z_iload_n (pc := 16) 2 rfl rfl C dX4_gate_16 ?_
    refine z_bipush (pc := 17) (6 : Int32) (by decide) C dX4_gate_17 ?_
    refine z_callS (pc := 19) (rf' := 0) (rl' := 0) (fX4_isWithin x2 (6 : Int32)) [(.int x2), (.int (6 : Int32))] [] [] (fun r_7 => (some (.int r_7))) (fun r_7 => []) [(4, qX, sX), (0, qL, r_1), (2, qP, sP)] (fun r_7 => [(4, qX, sX), (0, qL, r_1), (2, qP, sP)]) C dX4_gate_19 zy_X4_isWithin zw_313 (fun _ hr9 => mX4_isWithin  hr9) (by decide) rfl (Nat.le_of_ble_eq_true rfl) (List.Perm.refl _) (fun _ => List.Perm.refl _) rfl (fun r_7 hr_8 => ?_)
    show zJ X 4 res _ 22 [(0, (.ref (qX 0))), (1, (.int x1)), (2, (.int x2)), (3, (.ref (qL 0)))] [(.int r_7)] [(4, qX, sX), (0, qL, r_1), (2, qP, sP)]
    refine z_if_ne (pc := 22) 32 C dX4_gate_22 (by decide) ?_ ?_
    · refine z_lv [(0, (.ref (qX 0)))] [0] rfl ?_
      exact wX4_gate_25 C hR hX50 hX52  _ _
    · refine z_aload_n (pc := 32) 3 rfl rfl C dX4_gate_32 ?_
      refine z_iload_n (pc := 33) 1 rfl rfl C dX4_gate_33 ?_
      refine z_iload_n (pc := 34) 2 rfl rfl C dX4_gate_34 ?_
      refine z_callV (pc := 35) (rf' := 2) (rl' := 43) (fX0_tellGate x1 x2 r_1) [(.int x1), (.int x2)] [] [(0, qL, r_1)] (fun r_9 => (some (.int r_9))) (fun r_9 => [(0, qL, r_1)]) [(4, qX, sX), (2, qP, sP)] (fun r_9 => [(4, qX, sX), (0, qL, r_1), (2, qP, sP)]) C dX4_gate_35 zy_X0_tellGate zw_594 (fun _ hr9 => mX0_tellGate  hr9) (by decide) rfl rfl (by decide) rfl (Nat.le_of_ble_eq_true rfl) (z_pn 3 _ rfl [1, 0, 2] (by decide)).symm (fun _ => (z_pn 3 _ rfl [1, 0, 2] (by decide)).symm) rfl (fun r_9 hr_10 => ?_)
      show zJ X 4 res _ 38 [(0, (.ref (qX 0))), (1, (.int x1)), (2, (.int x2)), (3, (.ref (qL 0)))] [(.int r_9)] [(4, qX, sX), (0, qL, r_1), (2, qP, sP)]
      exact z_ireturn (pc := 38) C hR dX4_gate_38 (fun h => by subst h; exact ⟨rfl, rfl⟩)
theorem mX4_gate {F : Nat} {qX : Nat → Nat} {qL : Nat → Nat} {qP : Nat → Nat} {x1 : Int32} {x2 : Int32} {sX : zOS} {sL : zOS} {sP : zOS} {res : Int32 × zOS × zOS} (hX50 : qX 50 = qP 0) (hX52 : qX 52 = qL 0) (hf : fX4_gate F x1 x2 sX sL sP = some res) : zM yX4_gate cX4_gate 4 (some .int) 6 132 [(.ref (qX 0)), (.int x1), (.int x2)] [(4, qX, sX), (0, qL, sL), (2, qP, sP)] (some (.int res.1)) [(4, qX, res.2.1), (0, qL, res.2.2), (2, qP, sP)] := zM_of (by decide +kernel) (Nat.le_of_ble_eq_true rfl) (fun X C hR => wX4_gate (F := F) C hR hX50 hX52 hf)
theorem dX4_wire_0 : decode cX4_wire 0 = .ok (.aload_n 0, 1) := by decide +kernel
theorem dX4_wire_1 : decode cX4_wire 1 = .ok (.invokevirtual 104, 3) := by decide +kernel
theorem dX4_wire_4 : decode cX4_wire 4 = .ok (.astore_n 3, 1) := by decide +kernel
theorem dX4_wire_5 : decode cX4_wire 5 = .ok (.iload_n 1, 1) := by decide +kernel
theorem dX4_wire_6 : decode cX4_wire 6 = .ok (.aload_n 3, 1) := by decide +kernel
theorem dX4_wire_7 : decode cX4_wire 7 = .ok (.getfield 114, 3) := by decide +kernel
theorem dX4_wire_10 : decode cX4_wire 10 = .ok (.invokestatic 86, 3) := by decide +kernel
theorem dX4_wire_13 : decode cX4_wire 13 = .ok (.ifCond .eq 11, 3) := by decide +kernel
theorem dX4_wire_16 : decode cX4_wire 16 = .ok (.iload_n 2, 1) := by decide +kernel
theorem dX4_wire_17 : decode cX4_wire 17 = .ok (.iconst 2, 1) := by decide +kernel
theorem dX4_wire_18 : decode cX4_wire 18 = .ok (.invokestatic 86, 3) := by decide +kernel
theorem dX4_wire_21 : decode cX4_wire 21 = .ok (.ifCond .ne 10, 3) := by decide +kernel
theorem dX4_wire_24 : decode cX4_wire 24 = .ok (.aload_n 0, 1) := by decide +kernel
theorem dX4_wire_25 : decode cX4_wire 25 = .ok (.bipush (-2), 2) := by decide +kernel
theorem dX4_wire_27 : decode cX4_wire 27 = .ok (.invokevirtual 93, 3) := by decide +kernel
theorem dX4_wire_30 : decode cX4_wire 30 = .ok (.ireturn, 1) := by decide +kernel
theorem dX4_wire_31 : decode cX4_wire 31 = .ok (.iload_n 2, 1) := by decide +kernel
theorem dX4_wire_32 : decode cX4_wire 32 = .ok (.ifCond .ne 11, 3) := by decide +kernel
theorem dX4_wire_35 : decode cX4_wire 35 = .ok (.aload_n 3, 1) := by decide +kernel
theorem dX4_wire_36 : decode cX4_wire 36 = .ok (.iload_n 1, 1) := by decide +kernel
theorem dX4_wire_37 : decode cX4_wire 37 = .ok (.invokevirtual 154, 3) := by decide +kernel
theorem dX4_wire_40 : decode cX4_wire 40 = .ok (.goto 8, 3) := by decide +kernel
theorem dX4_wire_43 : decode cX4_wire 43 = .ok (.aload_n 3, 1) := by decide +kernel
theorem dX4_wire_44 : decode cX4_wire 44 = .ok (.iload_n 1, 1) := by decide +kernel
theorem dX4_wire_45 : decode cX4_wire 45 = .ok (.invokevirtual 157, 3) := by decide +kernel
theorem dX4_wire_48 : decode cX4_wire 48 = .ok (.ireturn, 1) := by decide +kernel
def jX4_wire_24 (F : Nat) (sX : zOS) (sL : zOS) : Option (Int32 × zOS × zOS) := (Option.bind (fX4_refuse (-2 : Int32) sX) (fun r_5 : Int32 × zOS => (some (r_5.1, r_5.2, sL))))
set_option maxRecDepth 20000 in
theorem wX4_wire_24 {X : zCx} {res : Int32 × zOS × zOS} {F : Nat} {qX : Nat → Nat} {qL : Nat → Nat} {qP : Nat → Nat} {sP : zOS} (C : zC X RX4 cX4_wire 4 6 132) (hR : zR X (some .int) (some (.int res.1)) [(4, qX, res.2.1), (0, qL, res.2.2), (2, qP, sP)]) (hX50 : qX 50 = qP 0) (hX52 : qX 52 = qL 0) (sX : zOS) (sL : zOS) : zJ X 4 res (jX4_wire_24 F sX sL) 24 [(0, (.ref (qX 0)))] [] [(4, qX, sX), (0, qL, sL), (2, qP, sP)] := by
  unfold jX4_wire_24
  refine z_aload_n (pc := 24) 0 rfl rfl C dX4_wire_24 ?_
  refine z_bipush (pc := 25) (-2 : Int32) (by decide) C dX4_wire_25 ?_
  refine z_callV (pc := 27) (rf' := 1) (rl' := 21) (fX4_refuse (-2 : Int32) sX) [(.int (-2 : Int32))] [] [(4, qX, sX)] (fun r_5 => (some (.int r_5.1))) (fun r_5 => [(4, qX, r_5.2)]) [(0, qL, sL), (2, qP, sP)] (fun r_5 => [(4, qX, r_5.2), (0, qL, sL), (2, qP, sP)]) C dX4_wire_27 zy_X4_refuse zw_328 (fun _ hr9 => mX4_refuse  hr9) (by decide) rfl rfl (by decide) rfl (Nat.le_of_ble_eq_true rfl) (List.Perm.refl _) (fun _ => List.Perm.refl _) rfl (fun r_5 hr_6 => ?_)
  show zJ X 4 res _ 30 [(0, (.ref (qX 0)))] [(.int r_5.1)] [(4, qX, r_5.2), (0, qL, sL), (2, qP, sP)]
  exact z_ireturn (pc := 30) C hR dX4_wire_30 (fun h => by subst h; exact ⟨rfl, rfl⟩)
def fX4_wire (F : Nat) (x1 : Int32) (x2 : Int32) (sX : zOS) (sL : zOS) (sP : zOS) : Option (Int32 × zOS × zOS) := (Option.bind (fX4_readLayout F sL sP) (fun r_1 : zOS => (Option.bind (fX4_isWithin x1 (zF r_1 13)) (fun r_3 : Int32 => (if r_3 = 0 then (jX4_wire_24 F sX r_1) else (Option.bind (fX4_isWithin x2 (2 : Int32)) (fun r_7 : Int32 => (if r_7 = 0 then (jX4_wire_24 F sX r_1) else (if x2 = 0 then (Option.bind (fX0_sizeOf F x1 r_1) (fun r_9 : Int32 => (some (r_9, sX, r_1)))) else (Option.bind (fX0_hangOf x1 r_1) (fun r_11 : Int32 => (some (r_11, sX, r_1)))))))))))))
set_option maxRecDepth 20000 in
theorem wX4_wire {X : zCx} {res : Int32 × zOS × zOS} {F : Nat} {qX : Nat → Nat} {qL : Nat → Nat} {qP : Nat → Nat} {x1 : Int32} {x2 : Int32} {sX : zOS} {sL : zOS} {sP : zOS} (C : zC X RX4 cX4_wire 4 6 132) (hR : zR X (some .int) (some (.int res.1)) [(4, qX, res.2.1), (0, qL, res.2.2), (2, qP, sP)]) (hX50 : qX 50 = qP 0) (hX52 : qX 52 = qL 0) : zJ X 4 res (fX4_wire F x1 x2 sX sL sP) 0 [(0, (.ref (qX 0))), (1, (.int x1)), (2, (.int x2))] [] [(4, qX, sX), (0, qL, sL), (2, qP, sP)] := by
  unfold fX4_wire
  refine z_aload_n (pc := 0) 0 rfl rfl C dX4_wire_0 ?_
  refine z_callV (pc := 1) (rf' := 5) (rl' := 112) (fX4_readLayout F sL sP) [] [] [(4, qX, sX), (0, qL, sL), (2, qP, sP)] (fun r_1 => (some (.ref (qL 0)))) (fun r_1 => [(4, qX, sX), (0, qL, r_1), (2, qP, sP)]) [] (fun r_1 => [(4, qX, sX), (0, qL, r_1), (2, qP, sP)]) C dX4_wire_1 zy_X4_readLayout zw_399 (fun _ hr9 => mX4_readLayout hX50 hX52 hr9) (by decide) rfl rfl (by decide) rfl (Nat.le_of_ble_eq_true rfl) (List.Perm.refl _) (fun _ => List.Perm.refl _) rfl (fun r_1 hr_2 => ?_)
  show zJ X 4 res _ 4 [(0, (.ref (qX 0))), (1, (.int x1)), (2, (.int x2))] [(.ref (qL 0))] [(4, qX, sX), (0, qL, r_1), (2, qP, sP)]
  refine z_astore_n (pc := 4) [(0, (.ref (qX 0))), (1, (.int x1)), (2, (.int x2)), (3, (.ref (qL 0)))] [1, 2, 3, 0] (by decide) rfl rfl C dX4_wire_4 ?_
  refine z_iload_n (pc := 5) 1 rfl rfl C dX4_wire_5 ?_
  refine z_aload_n (pc := 6) 3 rfl rfl C dX4_wire_6 ?_
  refine z_getI (pc := 7) 1 13 C dX4_wire_7 rfl (by decide) (by decide) rfl zw_161 ?_
  refine z_callS (pc := 10) (rf' := 0) (rl' := 0) (fX4_isWithin x1 (zF r_1 13)) [(.int x1), (.int (zF r_1 13))] [] [] (fun r_3 => (some (.int r_3))) (fun r_3 => []) [(4, qX, sX), (0, qL, r_1), (2, qP, sP)] (fun r_3 => [(4, qX, sX), (0, qL, r_1), (2, qP, sP)]) C dX4_wire_10 zy_X4_isWithin zw_313 (fun _ hr9 => mX4_isWithin  hr9) (by decide) rfl (Nat.le_of_ble_eq_true rfl) (List.Perm.refl _) (fun _ => List.Perm.refl _) rfl (fun r_3 hr_4 => ?_)
  show zJ X 4 res _ 13 [(0, (.ref (qX 0))), (1, (.int x1)), (2, (.int x2)), (3, (.ref (qL 0)))] [(.int r_3)] [(4, qX, sX), (0, qL, r_1), (2, qP, sP)]
  refine z_if_eq (pc := 13) 24 C dX4_wire_13 (by decide) ?_ ?_
  · refine z_lv [(0, (.ref (qX 0)))] [0] rfl ?_
    exact wX4_wire_24 C hR hX50 hX52  _ _
  · refine z_iload_n (pc := 16) 2 rfl rfl C dX4_wire_16 ?_
    refine z_iconst (pc := 17) (2 : Int32) (by decide) C dX4_wire_17 ?_
    refine z_callS (pc := 18) (rf' := 0) (rl' := 0) (fX4_isWithin x2 (2 : Int32)) [(.int x2), (.int (2 : Int32))] [] [] (fun r_7 => (some (.int r_7))) (fun r_7 => []) [(4, qX, sX), (0, qL, r_1), (2, qP, sP)] (fun r_7 => [(4, qX, sX), (0, qL, r_1), (2, qP, sP)]) C dX4_wire_18 zy_X4_isWithin zw_313 (fun _ hr9 => mX4_isWithin  hr9) (by decide) rfl (Nat.le_of_ble_eq_true rfl) (List.Perm.refl _) (fun _ => List.Perm.refl _) rfl (fun r_7 hr_8 => ?_)
    show zJ X 4 res _ 21 [(0, (.ref (qX 0))), (1, (.int x1)), (2, (.int x2)), (3, (.ref (qL 0)))] [(.int r_7)] [(4, qX, sX), (0, qL, r_1), (2, qP, sP)]
    refine z_if_ne (pc := 21) 31 C dX4_wire_21 (by decide) ?_ ?_
    · refine z_lv [(0, (.ref (qX 0)))] [0] rfl ?_
      exact wX4_wire_24 C hR hX50 hX52  _ _
    · refine z_iload_n (pc := 31) 2 rfl rfl C dX4_wire_31 ?_
      refine z_if_ne (pc := 32) 43 C dX4_wire_32 (by decide) ?_ ?_
      · refine z_aload_n (pc := 35) 3 rfl rfl C dX4_wire_35 ?_
        refine z_iload_n (pc := 36) 1 rfl rfl C dX4_wire_36 ?_
        refine z_callV (pc := 37) (rf' := 1) (rl' := 21) (fX0_sizeOf F x1 r_1) [(.int x1)] [] [(0, qL, r_1)] (fun r_9 => (some (.int r_9))) (fun r_9 => [(0, qL, r_1)]) [(4, qX, sX), (2, qP, sP)] (fun r_9 => [(4, qX, sX), (0, qL, r_1), (2, qP, sP)]) C dX4_wire_37 zy_X0_sizeOf zw_610 (fun _ hr9 => mX0_sizeOf  hr9) (by decide) rfl rfl (by decide) rfl (Nat.le_of_ble_eq_true rfl) (z_pn 3 _ rfl [1, 0, 2] (by decide)).symm (fun _ => (z_pn 3 _ rfl [1, 0, 2] (by decide)).symm) rfl (fun r_9 hr_10 => ?_)
        show zJ X 4 res _ 40 [(0, (.ref (qX 0))), (1, (.int x1)), (2, (.int x2)), (3, (.ref (qL 0)))] [(.int r_9)] [(4, qX, sX), (0, qL, r_1), (2, qP, sP)]
        refine z_goto (pc := 40) 48 C dX4_wire_40 (by decide) ?_
        exact z_ireturn (pc := 48) C hR dX4_wire_48 (fun h => by subst h; exact ⟨rfl, rfl⟩)
      · refine z_aload_n (pc := 43) 3 rfl rfl C dX4_wire_43 ?_
        refine z_iload_n (pc := 44) 1 rfl rfl C dX4_wire_44 ?_
        refine z_callV (pc := 45) (rf' := 1) (rl' := 21) (fX0_hangOf x1 r_1) [(.int x1)] [] [(0, qL, r_1)] (fun r_11 => (some (.int r_11))) (fun r_11 => [(0, qL, r_1)]) [(4, qX, sX), (2, qP, sP)] (fun r_11 => [(4, qX, sX), (0, qL, r_1), (2, qP, sP)]) C dX4_wire_45 zy_X0_hangOf zw_614 (fun _ hr9 => mX0_hangOf  hr9) (by decide) rfl rfl (by decide) rfl (Nat.le_of_ble_eq_true rfl) (z_pn 3 _ rfl [1, 0, 2] (by decide)).symm (fun _ => (z_pn 3 _ rfl [1, 0, 2] (by decide)).symm) rfl (fun r_11 hr_12 => ?_)
        show zJ X 4 res _ 48 [(0, (.ref (qX 0))), (1, (.int x1)), (2, (.int x2)), (3, (.ref (qL 0)))] [(.int r_11)] [(4, qX, sX), (0, qL, r_1), (2, qP, sP)]
        exact z_ireturn (pc := 48) C hR dX4_wire_48 (fun h => by subst h; exact ⟨rfl, rfl⟩)
theorem mX4_wire {F : Nat} {qX : Nat → Nat} {qL : Nat → Nat} {qP : Nat → Nat} {x1 : Int32} {x2 : Int32} {sX : zOS} {sL : zOS} {sP : zOS} {res : Int32 × zOS × zOS} (hX50 : qX 50 = qP 0) (hX52 : qX 52 = qL 0) (hf : fX4_wire F x1 x2 sX sL sP = some res) : zM yX4_wire cX4_wire 4 (some .int) 6 132 [(.ref (qX 0)), (.int x1), (.int x2)] [(4, qX, sX), (0, qL, sL), (2, qP, sP)] (some (.int res.1)) [(4, qX, res.2.1), (0, qL, res.2.2), (2, qP, sP)] := zM_of (by decide +kernel) (Nat.le_of_ble_eq_true rfl) (fun X C hR => wX4_wire (F := F) C hR hX50 hX52 hf)
theorem dX4_search_0 : decode cX4_search 0 = .ok (.aload_n 0, 1) := by decide +kernel
theorem dX4_search_1 : decode cX4_search 1 = .ok (.getfield 53, 3) := by decide +kernel
theorem dX4_search_4 : decode cX4_search 4 = .ok (.ifCond .ne 29, 3) := by decide +kernel
theorem dX4_search_7 : decode cX4_search 7 = .ok (.aload_n 0, 1) := by decide +kernel
theorem dX4_search_8 : decode cX4_search 8 = .ok (.getfield 25, 3) := by decide +kernel
theorem dX4_search_11 : decode cX4_search 11 = .ok (.aload_n 0, 1) := by decide +kernel
theorem dX4_search_12 : decode cX4_search 12 = .ok (.getfield 20, 3) := by decide +kernel
theorem dX4_search_15 : decode cX4_search 15 = .ok (.getfield 96, 3) := by decide +kernel
theorem dX4_search_18 : decode cX4_search 18 = .ok (.invokevirtual 213, 3) := by decide +kernel
theorem dX4_search_21 : decode cX4_search 21 = .ok (.aload_n 0, 1) := by decide +kernel
theorem dX4_search_22 : decode cX4_search 22 = .ok (.getfield 12, 3) := by decide +kernel
theorem dX4_search_25 : decode cX4_search 25 = .ok (.invokevirtual 217, 3) := by decide +kernel
theorem dX4_search_28 : decode cX4_search 28 = .ok (.aload_n 0, 1) := by decide +kernel
theorem dX4_search_29 : decode cX4_search 29 = .ok (.iconst 1, 1) := by decide +kernel
theorem dX4_search_30 : decode cX4_search 30 = .ok (.putfield 53, 3) := by decide +kernel
theorem dX4_search_33 : decode cX4_search 33 = .ok (.aload_n 0, 1) := by decide +kernel
theorem dX4_search_34 : decode cX4_search 34 = .ok (.getfield 12, 3) := by decide +kernel
theorem dX4_search_37 : decode cX4_search 37 = .ok (.areturn, 1) := by decide +kernel
def fX4_search (F : Nat) (sX : zOS) (sM : zOS) (sP : zOS) (sL : zOS) : Option (zOS × zOS × zOS × zOS) := (if (zF sX 8) = 0 then (Option.bind (fX0_refresh F sL sP) (fun r_1 : zOS => (Option.bind (fX1_run F sM sP r_1) (fun r_3 : zOS × zOS × zOS => (zlet (zsF sX 8 (1 : Int32)) (fun sX_5 : zOS => (some (sX_5, r_3.1, r_3.2.1, r_3.2.2)))))))) else (some (sX, sM, sP, sL)))
set_option maxRecDepth 20000 in
theorem wX4_search {X : zCx} {res : zOS × zOS × zOS × zOS} {F : Nat} {qX : Nat → Nat} {qM : Nat → Nat} {qP : Nat → Nat} {qL : Nat → Nat} {sX : zOS} {sM : zOS} {sP : zOS} {sL : zOS} (C : zC X RX4 cX4_search 1 21 494) (hR : zR X (some (.object "DrawnGates$Matching")) (some (.ref (qM 0))) [(4, qX, res.1), (1, qM, res.2.1), (2, qP, res.2.2.1), (0, qL, res.2.2.2)]) (hM50 : qM 50 = qP 0) (hM51 : qM 51 = qL 0) (hX50 : qX 50 = qP 0) (hX52 : qX 52 = qL 0) (hX53 : qX 53 = qM 0) : zJ X 1 res (fX4_search F sX sM sP sL) 0 [(0, (.ref (qX 0)))] [] [(4, qX, sX), (1, qM, sM), (2, qP, sP), (0, qL, sL)] := by
  unfold fX4_search
  refine z_aload_n (pc := 0) 0 rfl rfl C dX4_search_0 ?_
  refine z_getI (pc := 1) 0 8 C dX4_search_1 rfl (by decide) (by decide) rfl zw_269 ?_
  refine z_if_ne (pc := 4) 33 C dX4_search_4 (by decide) ?_ ?_
  · refine z_aload_n (pc := 7) 0 rfl rfl C dX4_search_7 ?_
    refine z_getE (pc := 8) 0 2 52 (qL 0) hX52 C dX4_search_8 rfl (by decide) (by decide) rfl zw_263 ?_
    refine z_aload_n (pc := 11) 0 rfl rfl C dX4_search_11 ?_
    refine z_getE (pc := 12) 0 1 50 (qP 0) hX50 C dX4_search_12 rfl (by decide) (by decide) rfl zw_262 ?_
    refine z_getR (pc := 15) 2 0 1 C dX4_search_15 rfl (by decide) (by decide) rfl zw_110 ?_
    refine z_callV (pc := 18) (rf' := 4) (rl' := 91) (fX0_refresh F sL sP) [(.ref (qP 1))] [] [(0, qL, sL), (2, qP, sP)] (fun r_1 => none) (fun r_1 => [(0, qL, r_1), (2, qP, sP)]) [(4, qX, sX), (1, qM, sM)] (fun r_1 => [(4, qX, sX), (1, qM, sM), (2, qP, sP), (0, qL, r_1)]) C dX4_search_18 zy_X0_refresh zw_403 (fun _ hr9 => mX0_refresh  hr9) (by decide) rfl rfl (by decide) rfl (Nat.le_of_ble_eq_true rfl) (z_pn 4 _ rfl [3, 2, 0, 1] (by decide)).symm (fun _ => (z_pn 4 _ rfl [2, 3, 1, 0] (by decide)).symm) rfl (fun r_1 hr_2 => ?_)
    show zJ X 1 res _ 21 [(0, (.ref (qX 0)))] [] [(4, qX, sX), (1, qM, sM), (2, qP, sP), (0, qL, r_1)]
    refine z_aload_n (pc := 21) 0 rfl rfl C dX4_search_21 ?_
    refine z_getE (pc := 22) 0 0 53 (qM 0) hX53 C dX4_search_22 rfl (by decide) (by decide) rfl zw_261 ?_
    refine z_callV (pc := 25) (rf' := 20) (rl' := 474) (fX1_run F sM sP r_1) [] [] [(1, qM, sM), (2, qP, sP), (0, qL, r_1)] (fun r_3 => none) (fun r_3 => [(1, qM, r_3.1), (2, qP, r_3.2.1), (0, qL, r_3.2.2)]) [(4, qX, sX)] (fun r_3 => [(4, qX, sX), (1, qM, r_3.1), (2, qP, r_3.2.1), (0, qL, r_3.2.2)]) C dX4_search_25 zy_X1_run zw_512 (fun _ hr9 => mX1_run hM50 hM51 hr9) (by decide) rfl rfl (by decide) rfl (Nat.le_of_ble_eq_true rfl) (z_pn 4 _ rfl [1, 2, 3, 0] (by decide)).symm (fun _ => (z_pn 4 _ rfl [3, 0, 1, 2] (by decide)).symm) rfl (fun r_3 hr_4 => ?_)
    show zJ X 1 res _ 28 [(0, (.ref (qX 0)))] [] [(4, qX, sX), (1, qM, r_3.1), (2, qP, r_3.2.1), (0, qL, r_3.2.2)]
    refine z_aload_n (pc := 28) 0 rfl rfl C dX4_search_28 ?_
    refine z_iconst (pc := 29) (1 : Int32) (by decide) C dX4_search_29 ?_
    refine z_putI (pc := 30) 0 8 C dX4_search_30 rfl (by decide) (by decide) rfl zw_269 rfl (by decide) (by decide) [(4, qX, (zsF sX 8 (1 : Int32))), (1, qM, r_3.1), (2, qP, r_3.2.1), (0, qL, r_3.2.2)] rfl ?_
    refine z_letc (fun z9 => [(4, qX, z9), (1, qM, r_3.1), (2, qP, r_3.2.1), (0, qL, r_3.2.2)]) (fun sX_5 => ?_)
    refine z_aload_n (pc := 33) 0 rfl rfl C dX4_search_33 ?_
    refine z_getE (pc := 34) 0 0 53 (qM 0) hX53 C dX4_search_34 rfl (by decide) (by decide) rfl zw_261 ?_
    exact z_areturn (pc := 37) C hR dX4_search_37 (fun h => by subst h; exact ⟨rfl, rfl⟩) ⟨_, rfl⟩
  · refine z_aload_n (pc := 33) 0 rfl rfl C dX4_search_33 ?_
    refine z_getE (pc := 34) 0 0 53 (qM 0) hX53 C dX4_search_34 rfl (by decide) (by decide) rfl zw_261 ?_
    exact z_areturn (pc := 37) C hR dX4_search_37 (fun h => by subst h; exact ⟨rfl, rfl⟩) ⟨_, rfl⟩
theorem mX4_search {F : Nat} {qX : Nat → Nat} {qM : Nat → Nat} {qP : Nat → Nat} {qL : Nat → Nat} {sX : zOS} {sM : zOS} {sP : zOS} {sL : zOS} {res : zOS × zOS × zOS × zOS} (hM50 : qM 50 = qP 0) (hM51 : qM 51 = qL 0) (hX50 : qX 50 = qP 0) (hX52 : qX 52 = qL 0) (hX53 : qX 53 = qM 0) (hf : fX4_search F sX sM sP sL = some res) : zM yX4_search cX4_search 1 (some (.object "DrawnGates$Matching")) 21 494 [(.ref (qX 0))] [(4, qX, sX), (1, qM, sM), (2, qP, sP), (0, qL, sL)] (some (.ref (qM 0))) [(4, qX, res.1), (1, qM, res.2.1), (2, qP, res.2.2.1), (0, qL, res.2.2.2)] := zM_of (by decide +kernel) (Nat.le_of_ble_eq_true rfl) (fun X C hR => wX4_search (F := F) C hR hM50 hM51 hX50 hX52 hX53 hf)
theorem dX4_count_0 : decode cX4_count 0 = .ok (.iload_n 1, 1) := by decide +kernel
theorem dX4_count_1 : decode cX4_count 1 = .ok (.tableswitch 131 0 8 #[51, 59, 67, 75, 83, 91, 99, 111, 123], 51) := by decide +kernel
theorem dX4_count_52 : decode cX4_count 52 = .ok (.aload_n 0, 1) := by decide +kernel
theorem dX4_count_53 : decode cX4_count 53 = .ok (.invokevirtual 104, 3) := by decide +kernel
theorem dX4_count_56 : decode cX4_count 56 = .ok (.getfield 114, 3) := by decide +kernel
theorem dX4_count_59 : decode cX4_count 59 = .ok (.ireturn, 1) := by decide +kernel
theorem dX4_count_60 : decode cX4_count 60 = .ok (.aload_n 0, 1) := by decide +kernel
theorem dX4_count_61 : decode cX4_count 61 = .ok (.invokevirtual 104, 3) := by decide +kernel
theorem dX4_count_64 : decode cX4_count 64 = .ok (.getfield 117, 3) := by decide +kernel
theorem dX4_count_67 : decode cX4_count 67 = .ok (.ireturn, 1) := by decide +kernel
theorem dX4_count_68 : decode cX4_count 68 = .ok (.aload_n 0, 1) := by decide +kernel
theorem dX4_count_69 : decode cX4_count 69 = .ok (.invokevirtual 104, 3) := by decide +kernel
theorem dX4_count_72 : decode cX4_count 72 = .ok (.getfield 120, 3) := by decide +kernel
theorem dX4_count_75 : decode cX4_count 75 = .ok (.ireturn, 1) := by decide +kernel
theorem dX4_count_76 : decode cX4_count 76 = .ok (.aload_n 0, 1) := by decide +kernel
theorem dX4_count_77 : decode cX4_count 77 = .ok (.invokevirtual 104, 3) := by decide +kernel
theorem dX4_count_80 : decode cX4_count 80 = .ok (.getfield 123, 3) := by decide +kernel
theorem dX4_count_83 : decode cX4_count 83 = .ok (.ireturn, 1) := by decide +kernel
theorem dX4_count_84 : decode cX4_count 84 = .ok (.aload_n 0, 1) := by decide +kernel
theorem dX4_count_85 : decode cX4_count 85 = .ok (.getfield 20, 3) := by decide +kernel
theorem dX4_count_88 : decode cX4_count 88 = .ok (.getfield 126, 3) := by decide +kernel
theorem dX4_count_91 : decode cX4_count 91 = .ok (.ireturn, 1) := by decide +kernel
theorem dX4_count_92 : decode cX4_count 92 = .ok (.aload_n 0, 1) := by decide +kernel
theorem dX4_count_93 : decode cX4_count 93 = .ok (.getfield 20, 3) := by decide +kernel
theorem dX4_count_96 : decode cX4_count 96 = .ok (.getfield 129, 3) := by decide +kernel
theorem dX4_count_99 : decode cX4_count 99 = .ok (.ireturn, 1) := by decide +kernel
theorem dX4_count_100 : decode cX4_count 100 = .ok (.aload_n 0, 1) := by decide +kernel
theorem dX4_count_101 : decode cX4_count 101 = .ok (.invokevirtual 104, 3) := by decide +kernel
theorem dX4_count_104 : decode cX4_count 104 = .ok (.aload_n 0, 1) := by decide +kernel
theorem dX4_count_105 : decode cX4_count 105 = .ok (.getfield 20, 3) := by decide +kernel
theorem dX4_count_108 : decode cX4_count 108 = .ok (.invokevirtual 132, 3) := by decide +kernel
theorem dX4_count_111 : decode cX4_count 111 = .ok (.ireturn, 1) := by decide +kernel
theorem dX4_count_112 : decode cX4_count 112 = .ok (.aload_n 0, 1) := by decide +kernel
theorem dX4_count_113 : decode cX4_count 113 = .ok (.invokevirtual 104, 3) := by decide +kernel
theorem dX4_count_116 : decode cX4_count 116 = .ok (.aload_n 0, 1) := by decide +kernel
theorem dX4_count_117 : decode cX4_count 117 = .ok (.getfield 20, 3) := by decide +kernel
theorem dX4_count_120 : decode cX4_count 120 = .ok (.invokevirtual 136, 3) := by decide +kernel
theorem dX4_count_123 : decode cX4_count 123 = .ok (.ireturn, 1) := by decide +kernel
theorem dX4_count_124 : decode cX4_count 124 = .ok (.aload_n 0, 1) := by decide +kernel
theorem dX4_count_125 : decode cX4_count 125 = .ok (.invokevirtual 139, 3) := by decide +kernel
theorem dX4_count_128 : decode cX4_count 128 = .ok (.getfield 143, 3) := by decide +kernel
theorem dX4_count_131 : decode cX4_count 131 = .ok (.ireturn, 1) := by decide +kernel
theorem dX4_count_132 : decode cX4_count 132 = .ok (.aload_n 0, 1) := by decide +kernel
theorem dX4_count_133 : decode cX4_count 133 = .ok (.bipush (-2), 2) := by decide +kernel
theorem dX4_count_135 : decode cX4_count 135 = .ok (.invokevirtual 93, 3) := by decide +kernel
theorem dX4_count_138 : decode cX4_count 138 = .ok (.ireturn, 1) := by decide +kernel
def fX4_count (F : Nat) (x1 : Int32) (sX : zOS) (sM : zOS) (sP : zOS) (sL : zOS) : Option (Int32 × zOS × zOS × zOS × zOS) := (if x1 = (0 : Int32) then (Option.bind (fX4_readLayout F sL sP) (fun r_2 : zOS => (some (zF r_2 13, sX, sM, sP, r_2)))) else (if x1 = (1 : Int32) then (Option.bind (fX4_readLayout F sL sP) (fun r_5 : zOS => (some (zF r_5 14, sX, sM, sP, r_5)))) else (if x1 = (2 : Int32) then (Option.bind (fX4_readLayout F sL sP) (fun r_8 : zOS => (some (zF r_8 15, sX, sM, sP, r_8)))) else (if x1 = (3 : Int32) then (Option.bind (fX4_readLayout F sL sP) (fun r_11 : zOS => (some (zF r_11 12, sX, sM, sP, r_11)))) else (if x1 = (4 : Int32) then (some (zF sP 3, sX, sM, sP, sL)) else (if x1 = (5 : Int32) then (some (zF sP 4, sX, sM, sP, sL)) else (if x1 = (6 : Int32) then (Option.bind (fX4_readLayout F sL sP) (fun r_16 : zOS => (Option.bind (fX0_countShorts F r_16 sP) (fun r_18 : Int32 => (some (r_18, sX, sM, sP, r_16)))))) else (if x1 = (7 : Int32) then (Option.bind (fX4_readLayout F sL sP) (fun r_21 : zOS => (Option.bind (fX0_countOpens F r_21 sP) (fun r_23 : Int32 => (some (r_23, sX, sM, sP, r_21)))))) else (if x1 = (8 : Int32) then (Option.bind (fX4_search F sX sM sP sL) (fun r_26 : zOS × zOS × zOS × zOS => (some (zF r_26.2.1 9, r_26.1, r_26.2.1, r_26.2.2.1, r_26.2.2.2)))) else (Option.bind (fX4_refuse (-2 : Int32) sX) (fun r_28 : Int32 × zOS => (some (r_28.1, r_28.2, sM, sP, sL)))))))))))))
set_option maxRecDepth 20000 in
theorem wX4_count {X : zCx} {res : Int32 × zOS × zOS × zOS × zOS} {F : Nat} {qX : Nat → Nat} {qM : Nat → Nat} {qP : Nat → Nat} {qL : Nat → Nat} {x1 : Int32} {sX : zOS} {sM : zOS} {sP : zOS} {sL : zOS} (C : zC X RX4 cX4_count 2 22 514) (hR : zR X (some .int) (some (.int res.1)) [(4, qX, res.2.1), (1, qM, res.2.2.1), (2, qP, res.2.2.2.1), (0, qL, res.2.2.2.2)]) (hM50 : qM 50 = qP 0) (hM51 : qM 51 = qL 0) (hX50 : qX 50 = qP 0) (hX52 : qX 52 = qL 0) (hX53 : qX 53 = qM 0) : zJ X 2 res (fX4_count F x1 sX sM sP sL) 0 [(0, (.ref (qX 0))), (1, (.int x1))] [] [(4, qX, sX), (1, qM, sM), (2, qP, sP), (0, qL, sL)] := by
  unfold fX4_count
  refine z_iload_n (pc := 0) 1 rfl rfl C dX4_count_0 ?_
  refine z_if (fun hx_1 => ?_) (fun hx_1 => ?_)
  · refine z_tin (pc := 1) (0 : Int32) 52 hx_1 C dX4_count_1 (by decide) (by decide) rfl (by decide) ?_
    refine z_aload_n (pc := 52) 0 rfl rfl C dX4_count_52 ?_
    refine z_callV (pc := 53) (rf' := 5) (rl' := 112) (fX4_readLayout F sL sP) [] [] [(4, qX, sX), (0, qL, sL), (2, qP, sP)] (fun r_2 => (some (.ref (qL 0)))) (fun r_2 => [(4, qX, sX), (0, qL, r_2), (2, qP, sP)]) [(1, qM, sM)] (fun r_2 => [(4, qX, sX), (1, qM, sM), (2, qP, sP), (0, qL, r_2)]) C dX4_count_53 zy_X4_readLayout zw_399 (fun _ hr9 => mX4_readLayout hX50 hX52 hr9) (by decide) rfl rfl (by decide) rfl (Nat.le_of_ble_eq_true rfl) (z_pn 4 _ rfl [0, 3, 2, 1] (by decide)).symm (fun _ => (z_pn 4 _ rfl [0, 3, 2, 1] (by decide)).symm) rfl (fun r_2 hr_3 => ?_)
    show zJ X 2 res _ 56 [(0, (.ref (qX 0))), (1, (.int x1))] [(.ref (qL 0))] [(4, qX, sX), (1, qM, sM), (2, qP, sP), (0, qL, r_2)]
    refine z_getI (pc := 56) 3 13 C dX4_count_56 rfl (by decide) (by decide) rfl zw_161 ?_
    exact z_ireturn (pc := 59) C hR dX4_count_59 (fun h => by subst h; exact ⟨rfl, rfl⟩)
  · refine z_if (fun hx_4 => ?_) (fun hx_4 => ?_)
    · refine z_tin (pc := 1) (1 : Int32) 60 hx_4 C dX4_count_1 (by decide) (by decide) rfl (by decide) ?_
      refine z_aload_n (pc := 60) 0 rfl rfl C dX4_count_60 ?_
      refine z_callV (pc := 61) (rf' := 5) (rl' := 112) (fX4_readLayout F sL sP) [] [] [(4, qX, sX), (0, qL, sL), (2, qP, sP)] (fun r_5 => (some (.ref (qL 0)))) (fun r_5 => [(4, qX, sX), (0, qL, r_5), (2, qP, sP)]) [(1, qM, sM)] (fun r_5 => [(4, qX, sX), (1, qM, sM), (2, qP, sP), (0, qL, r_5)]) C dX4_count_61 zy_X4_readLayout zw_399 (fun _ hr9 => mX4_readLayout hX50 hX52 hr9) (by decide) rfl rfl (by decide) rfl (Nat.le_of_ble_eq_true rfl) (z_pn 4 _ rfl [0, 3, 2, 1] (by decide)).symm (fun _ => (z_pn 4 _ rfl [0, 3, 2, 1] (by decide)).symm) rfl (fun r_5 hr_6 => ?_)
      show zJ X 2 res _ 64 [(0, (.ref (qX 0))), (1, (.int x1))] [(.ref (qL 0))] [(4, qX, sX), (1, qM, sM), (2, qP, sP), (0, qL, r_5)]
      refine z_getI (pc := 64) 3 14 C dX4_count_64 rfl (by decide) (by decide) rfl zw_164 ?_
      exact z_ireturn (pc := 67) C hR dX4_count_67 (fun h => by subst h; exact ⟨rfl, rfl⟩)
    · refine z_if (fun hx_7 => ?_) (fun hx_7 => ?_)
      · refine z_tin (pc := 1) (2 : Int32) 68 hx_7 C dX4_count_1 (by decide) (by decide) rfl (by decide) ?_
        refine z_aload_n (pc := 68) 0 rfl rfl C dX4_count_68 ?_
        refine z_callV (pc := 69) (rf' := 5) (rl' := 112) (fX4_readLayout F sL sP) [] [] [(4, qX, sX), (0, qL, sL), (2, qP, sP)] (fun r_8 => (some (.ref (qL 0)))) (fun r_8 => [(4, qX, sX), (0, qL, r_8), (2, qP, sP)]) [(1, qM, sM)] (fun r_8 => [(4, qX, sX), (1, qM, sM), (2, qP, sP), (0, qL, r_8)]) C dX4_count_69 zy_X4_readLayout zw_399 (fun _ hr9 => mX4_readLayout hX50 hX52 hr9) (by decide) rfl rfl (by decide) rfl (Nat.le_of_ble_eq_true rfl) (z_pn 4 _ rfl [0, 3, 2, 1] (by decide)).symm (fun _ => (z_pn 4 _ rfl [0, 3, 2, 1] (by decide)).symm) rfl (fun r_8 hr_9 => ?_)
        show zJ X 2 res _ 72 [(0, (.ref (qX 0))), (1, (.int x1))] [(.ref (qL 0))] [(4, qX, sX), (1, qM, sM), (2, qP, sP), (0, qL, r_8)]
        refine z_getI (pc := 72) 3 15 C dX4_count_72 rfl (by decide) (by decide) rfl zw_167 ?_
        exact z_ireturn (pc := 75) C hR dX4_count_75 (fun h => by subst h; exact ⟨rfl, rfl⟩)
      · refine z_if (fun hx_10 => ?_) (fun hx_10 => ?_)
        · refine z_tin (pc := 1) (3 : Int32) 76 hx_10 C dX4_count_1 (by decide) (by decide) rfl (by decide) ?_
          refine z_aload_n (pc := 76) 0 rfl rfl C dX4_count_76 ?_
          refine z_callV (pc := 77) (rf' := 5) (rl' := 112) (fX4_readLayout F sL sP) [] [] [(4, qX, sX), (0, qL, sL), (2, qP, sP)] (fun r_11 => (some (.ref (qL 0)))) (fun r_11 => [(4, qX, sX), (0, qL, r_11), (2, qP, sP)]) [(1, qM, sM)] (fun r_11 => [(4, qX, sX), (1, qM, sM), (2, qP, sP), (0, qL, r_11)]) C dX4_count_77 zy_X4_readLayout zw_399 (fun _ hr9 => mX4_readLayout hX50 hX52 hr9) (by decide) rfl rfl (by decide) rfl (Nat.le_of_ble_eq_true rfl) (z_pn 4 _ rfl [0, 3, 2, 1] (by decide)).symm (fun _ => (z_pn 4 _ rfl [0, 3, 2, 1] (by decide)).symm) rfl (fun r_11 hr_12 => ?_)
          show zJ X 2 res _ 80 [(0, (.ref (qX 0))), (1, (.int x1))] [(.ref (qL 0))] [(4, qX, sX), (1, qM, sM), (2, qP, sP), (0, qL, r_11)]
          refine z_getI (pc := 80) 3 12 C dX4_count_80 rfl (by decide) (by decide) rfl zw_159 ?_
          exact z_ireturn (pc := 83) C hR dX4_count_83 (fun h => by subst h; exact ⟨rfl, rfl⟩)
        · refine z_if (fun hx_13 => ?_) (fun hx_13 => ?_)
          · refine z_tin (pc := 1) (4 : Int32) 84 hx_13 C dX4_count_1 (by decide) (by decide) rfl (by decide) ?_
            refine z_aload_n (pc := 84) 0 rfl rfl C dX4_count_84 ?_
            refine z_getE (pc := 85) 0 1 50 (qP 0) hX50 C dX4_count_85 rfl (by decide) (by decide) rfl zw_262 ?_
            refine z_getI (pc := 88) 2 3 C dX4_count_88 rfl (by decide) (by decide) rfl zw_117 ?_
            exact z_ireturn (pc := 91) C hR dX4_count_91 (fun h => by subst h; exact ⟨rfl, rfl⟩)
          · refine z_if (fun hx_14 => ?_) (fun hx_14 => ?_)
            · refine z_tin (pc := 1) (5 : Int32) 92 hx_14 C dX4_count_1 (by decide) (by decide) rfl (by decide) ?_
              refine z_aload_n (pc := 92) 0 rfl rfl C dX4_count_92 ?_
              refine z_getE (pc := 93) 0 1 50 (qP 0) hX50 C dX4_count_93 rfl (by decide) (by decide) rfl zw_262 ?_
              refine z_getI (pc := 96) 2 4 C dX4_count_96 rfl (by decide) (by decide) rfl zw_121 ?_
              exact z_ireturn (pc := 99) C hR dX4_count_99 (fun h => by subst h; exact ⟨rfl, rfl⟩)
            · refine z_if (fun hx_15 => ?_) (fun hx_15 => ?_)
              · refine z_tin (pc := 1) (6 : Int32) 100 hx_15 C dX4_count_1 (by decide) (by decide) rfl (by decide) ?_
                refine z_aload_n (pc := 100) 0 rfl rfl C dX4_count_100 ?_
                refine z_callV (pc := 101) (rf' := 5) (rl' := 112) (fX4_readLayout F sL sP) [] [] [(4, qX, sX), (0, qL, sL), (2, qP, sP)] (fun r_16 => (some (.ref (qL 0)))) (fun r_16 => [(4, qX, sX), (0, qL, r_16), (2, qP, sP)]) [(1, qM, sM)] (fun r_16 => [(4, qX, sX), (1, qM, sM), (2, qP, sP), (0, qL, r_16)]) C dX4_count_101 zy_X4_readLayout zw_399 (fun _ hr9 => mX4_readLayout hX50 hX52 hr9) (by decide) rfl rfl (by decide) rfl (Nat.le_of_ble_eq_true rfl) (z_pn 4 _ rfl [0, 3, 2, 1] (by decide)).symm (fun _ => (z_pn 4 _ rfl [0, 3, 2, 1] (by decide)).symm) rfl (fun r_16 hr_17 => ?_)
                show zJ X 2 res _ 104 [(0, (.ref (qX 0))), (1, (.int x1))] [(.ref (qL 0))] [(4, qX, sX), (1, qM, sM), (2, qP, sP), (0, qL, r_16)]
                refine z_aload_n (pc := 104) 0 rfl rfl C dX4_count_104 ?_
                refine z_getE (pc := 105) 0 1 50 (qP 0) hX50 C dX4_count_105 rfl (by decide) (by decide) rfl zw_262 ?_
                refine z_callV (pc := 108) (rf' := 3) (rl' := 64) (fX0_countShorts F r_16 sP) [(.ref (qP 0))] [] [(0, qL, r_16), (2, qP, sP)] (fun r_18 => (some (.int r_18))) (fun r_18 => [(0, qL, r_16), (2, qP, sP)]) [(4, qX, sX), (1, qM, sM)] (fun r_18 => [(4, qX, sX), (1, qM, sM), (2, qP, sP), (0, qL, r_16)]) C dX4_count_108 zy_X0_countShorts zw_488 (fun _ hr9 => mX0_countShorts  hr9) (by decide) rfl rfl (by decide) rfl (Nat.le_of_ble_eq_true rfl) (z_pn 4 _ rfl [3, 2, 0, 1] (by decide)).symm (fun _ => (z_pn 4 _ rfl [2, 3, 1, 0] (by decide)).symm) rfl (fun r_18 hr_19 => ?_)
                show zJ X 2 res _ 111 [(0, (.ref (qX 0))), (1, (.int x1))] [(.int r_18)] [(4, qX, sX), (1, qM, sM), (2, qP, sP), (0, qL, r_16)]
                exact z_ireturn (pc := 111) C hR dX4_count_111 (fun h => by subst h; exact ⟨rfl, rfl⟩)
              · refine z_if (fun hx_20 => ?_) (fun hx_20 => ?_)
                · refine z_tin (pc := 1) (7 : Int32) 112 hx_20 C dX4_count_1 (by decide) (by decide) rfl (by decide) ?_
                  refine z_aload_n (pc := 112) 0 rfl rfl C dX4_count_112 ?_
                  refine z_callV (pc := 113) (rf' := 5) (rl' := 112) (fX4_readLayout F sL sP) [] [] [(4, qX, sX), (0, qL, sL), (2, qP, sP)] (fun r_21 => (some (.ref (qL 0)))) (fun r_21 => [(4, qX, sX), (0, qL, r_21), (2, qP, sP)]) [(1, qM, sM)] (fun r_21 => [(4, qX, sX), (1, qM, sM), (2, qP, sP), (0, qL, r_21)]) C dX4_count_113 zy_X4_readLayout zw_399 (fun _ hr9 => mX4_readLayout hX50 hX52 hr9) (by decide) rfl rfl (by decide) rfl (Nat.le_of_ble_eq_true rfl) (z_pn 4 _ rfl [0, 3, 2, 1] (by decide)).symm (fun _ => (z_pn 4 _ rfl [0, 3, 2, 1] (by decide)).symm) rfl (fun r_21 hr_22 => ?_)
                  show zJ X 2 res _ 116 [(0, (.ref (qX 0))), (1, (.int x1))] [(.ref (qL 0))] [(4, qX, sX), (1, qM, sM), (2, qP, sP), (0, qL, r_21)]
                  refine z_aload_n (pc := 116) 0 rfl rfl C dX4_count_116 ?_
                  refine z_getE (pc := 117) 0 1 50 (qP 0) hX50 C dX4_count_117 rfl (by decide) (by decide) rfl zw_262 ?_
                  refine z_callV (pc := 120) (rf' := 3) (rl' := 64) (fX0_countOpens F r_21 sP) [(.ref (qP 0))] [] [(0, qL, r_21), (2, qP, sP)] (fun r_23 => (some (.int r_23))) (fun r_23 => [(0, qL, r_21), (2, qP, sP)]) [(4, qX, sX), (1, qM, sM)] (fun r_23 => [(4, qX, sX), (1, qM, sM), (2, qP, sP), (0, qL, r_21)]) C dX4_count_120 zy_X0_countOpens zw_504 (fun _ hr9 => mX0_countOpens  hr9) (by decide) rfl rfl (by decide) rfl (Nat.le_of_ble_eq_true rfl) (z_pn 4 _ rfl [3, 2, 0, 1] (by decide)).symm (fun _ => (z_pn 4 _ rfl [2, 3, 1, 0] (by decide)).symm) rfl (fun r_23 hr_24 => ?_)
                  show zJ X 2 res _ 123 [(0, (.ref (qX 0))), (1, (.int x1))] [(.int r_23)] [(4, qX, sX), (1, qM, sM), (2, qP, sP), (0, qL, r_21)]
                  exact z_ireturn (pc := 123) C hR dX4_count_123 (fun h => by subst h; exact ⟨rfl, rfl⟩)
                · refine z_if (fun hx_25 => ?_) (fun hx_25 => ?_)
                  · refine z_tin (pc := 1) (8 : Int32) 124 hx_25 C dX4_count_1 (by decide) (by decide) rfl (by decide) ?_
                    refine z_aload_n (pc := 124) 0 rfl rfl C dX4_count_124 ?_
                    refine z_callV (pc := 125) (rf' := 21) (rl' := 494) (fX4_search F sX sM sP sL) [] [] [(4, qX, sX), (1, qM, sM), (2, qP, sP), (0, qL, sL)] (fun r_26 => (some (.ref (qM 0)))) (fun r_26 => [(4, qX, r_26.1), (1, qM, r_26.2.1), (2, qP, r_26.2.2.1), (0, qL, r_26.2.2.2)]) [] (fun r_26 => [(4, qX, r_26.1), (1, qM, r_26.2.1), (2, qP, r_26.2.2.1), (0, qL, r_26.2.2.2)]) C dX4_count_125 zy_X4_search zw_508 (fun _ hr9 => mX4_search hM50 hM51 hX50 hX52 hX53 hr9) (by decide) rfl rfl (by decide) rfl (Nat.le_of_ble_eq_true rfl) (List.Perm.refl _) (fun _ => List.Perm.refl _) rfl (fun r_26 hr_27 => ?_)
                    show zJ X 2 res _ 128 [(0, (.ref (qX 0))), (1, (.int x1))] [(.ref (qM 0))] [(4, qX, r_26.1), (1, qM, r_26.2.1), (2, qP, r_26.2.2.1), (0, qL, r_26.2.2.2)]
                    refine z_getI (pc := 128) 1 9 C dX4_count_128 rfl (by decide) (by decide) rfl zw_218 ?_
                    exact z_ireturn (pc := 131) C hR dX4_count_131 (fun h => by subst h; exact ⟨rfl, rfl⟩)
                  · refine z_tdef (pc := 1) [(0 : Int32), (1 : Int32), (2 : Int32), (3 : Int32), (4 : Int32), (5 : Int32), (6 : Int32), (7 : Int32), (8 : Int32)] 132 (by intro v hv; simp only [List.mem_cons, List.not_mem_nil, or_false] at hv; rcases hv with rfl | rfl | rfl | rfl | rfl | rfl | rfl | rfl | rfl <;> assumption) C dX4_count_1 (by decide) (by decide) ?_
                    refine z_aload_n (pc := 132) 0 rfl rfl C dX4_count_132 ?_
                    refine z_bipush (pc := 133) (-2 : Int32) (by decide) C dX4_count_133 ?_
                    refine z_callV (pc := 135) (rf' := 1) (rl' := 21) (fX4_refuse (-2 : Int32) sX) [(.int (-2 : Int32))] [] [(4, qX, sX)] (fun r_28 => (some (.int r_28.1))) (fun r_28 => [(4, qX, r_28.2)]) [(1, qM, sM), (2, qP, sP), (0, qL, sL)] (fun r_28 => [(4, qX, r_28.2), (1, qM, sM), (2, qP, sP), (0, qL, sL)]) C dX4_count_135 zy_X4_refuse zw_328 (fun _ hr9 => mX4_refuse  hr9) (by decide) rfl rfl (by decide) rfl (Nat.le_of_ble_eq_true rfl) (List.Perm.refl _) (fun _ => List.Perm.refl _) rfl (fun r_28 hr_29 => ?_)
                    show zJ X 2 res _ 138 [(0, (.ref (qX 0))), (1, (.int x1))] [(.int r_28.1)] [(4, qX, r_28.2), (1, qM, sM), (2, qP, sP), (0, qL, sL)]
                    exact z_ireturn (pc := 138) C hR dX4_count_138 (fun h => by subst h; exact ⟨rfl, rfl⟩)
theorem mX4_count {F : Nat} {qX : Nat → Nat} {qM : Nat → Nat} {qP : Nat → Nat} {qL : Nat → Nat} {x1 : Int32} {sX : zOS} {sM : zOS} {sP : zOS} {sL : zOS} {res : Int32 × zOS × zOS × zOS × zOS} (hM50 : qM 50 = qP 0) (hM51 : qM 51 = qL 0) (hX50 : qX 50 = qP 0) (hX52 : qX 52 = qL 0) (hX53 : qX 53 = qM 0) (hf : fX4_count F x1 sX sM sP sL = some res) : zM yX4_count cX4_count 2 (some .int) 22 514 [(.ref (qX 0)), (.int x1)] [(4, qX, sX), (1, qM, sM), (2, qP, sP), (0, qL, sL)] (some (.int res.1)) [(4, qX, res.2.1), (1, qM, res.2.2.1), (2, qP, res.2.2.2.1), (0, qL, res.2.2.2.2)] := zM_of (by decide +kernel) (Nat.le_of_ble_eq_true rfl) (fun X C hR => wX4_count (F := F) C hR hM50 hM51 hX50 hX52 hX53 hf)
theorem dX4_ways_0 : decode cX4_ways 0 = .ok (.aload_n 0, 1) := by decide +kernel
theorem dX4_ways_1 : decode cX4_ways 1 = .ok (.invokevirtual 139, 3) := by decide +kernel
theorem dX4_ways_4 : decode cX4_ways 4 = .ok (.getfield 160, 3) := by decide +kernel
theorem dX4_ways_7 : decode cX4_ways 7 = .ok (.ireturn, 1) := by decide +kernel
def fX4_ways (F : Nat) (sX : zOS) (sM : zOS) (sP : zOS) (sL : zOS) : Option (Int32 × zOS × zOS × zOS × zOS) := (Option.bind (fX4_search F sX sM sP sL) (fun r_1 : zOS × zOS × zOS × zOS => (some (zF r_1.2.1 8, r_1.1, r_1.2.1, r_1.2.2.1, r_1.2.2.2))))
set_option maxRecDepth 20000 in
theorem wX4_ways {X : zCx} {res : Int32 × zOS × zOS × zOS × zOS} {F : Nat} {qX : Nat → Nat} {qM : Nat → Nat} {qP : Nat → Nat} {qL : Nat → Nat} {sX : zOS} {sM : zOS} {sP : zOS} {sL : zOS} (C : zC X RX4 cX4_ways 1 22 514) (hR : zR X (some .int) (some (.int res.1)) [(4, qX, res.2.1), (1, qM, res.2.2.1), (2, qP, res.2.2.2.1), (0, qL, res.2.2.2.2)]) (hM50 : qM 50 = qP 0) (hM51 : qM 51 = qL 0) (hX50 : qX 50 = qP 0) (hX52 : qX 52 = qL 0) (hX53 : qX 53 = qM 0) : zJ X 1 res (fX4_ways F sX sM sP sL) 0 [(0, (.ref (qX 0)))] [] [(4, qX, sX), (1, qM, sM), (2, qP, sP), (0, qL, sL)] := by
  unfold fX4_ways
  refine z_aload_n (pc := 0) 0 rfl rfl C dX4_ways_0 ?_
  refine z_callV (pc := 1) (rf' := 21) (rl' := 494) (fX4_search F sX sM sP sL) [] [] [(4, qX, sX), (1, qM, sM), (2, qP, sP), (0, qL, sL)] (fun r_1 => (some (.ref (qM 0)))) (fun r_1 => [(4, qX, r_1.1), (1, qM, r_1.2.1), (2, qP, r_1.2.2.1), (0, qL, r_1.2.2.2)]) [] (fun r_1 => [(4, qX, r_1.1), (1, qM, r_1.2.1), (2, qP, r_1.2.2.1), (0, qL, r_1.2.2.2)]) C dX4_ways_1 zy_X4_search zw_508 (fun _ hr9 => mX4_search hM50 hM51 hX50 hX52 hX53 hr9) (by decide) rfl rfl (by decide) rfl (Nat.le_of_ble_eq_true rfl) (List.Perm.refl _) (fun _ => List.Perm.refl _) rfl (fun r_1 hr_2 => ?_)
  show zJ X 1 res _ 4 [(0, (.ref (qX 0)))] [(.ref (qM 0))] [(4, qX, r_1.1), (1, qM, r_1.2.1), (2, qP, r_1.2.2.1), (0, qL, r_1.2.2.2)]
  refine z_getI (pc := 4) 1 8 C dX4_ways_4 rfl (by decide) (by decide) rfl zw_216 ?_
  exact z_ireturn (pc := 7) C hR dX4_ways_7 (fun h => by subst h; exact ⟨rfl, rfl⟩)
theorem mX4_ways {F : Nat} {qX : Nat → Nat} {qM : Nat → Nat} {qP : Nat → Nat} {qL : Nat → Nat} {sX : zOS} {sM : zOS} {sP : zOS} {sL : zOS} {res : Int32 × zOS × zOS × zOS × zOS} (hM50 : qM 50 = qP 0) (hM51 : qM 51 = qL 0) (hX50 : qX 50 = qP 0) (hX52 : qX 52 = qL 0) (hX53 : qX 53 = qM 0) (hf : fX4_ways F sX sM sP sL = some res) : zM yX4_ways cX4_ways 1 (some .int) 22 514 [(.ref (qX 0))] [(4, qX, sX), (1, qM, sM), (2, qP, sP), (0, qL, sL)] (some (.int res.1)) [(4, qX, res.2.1), (1, qM, res.2.2.1), (2, qP, res.2.2.2.1), (0, qL, res.2.2.2.2)] := zM_of (by decide +kernel) (Nat.le_of_ble_eq_true rfl) (fun X C hR => wX4_ways (F := F) C hR hM50 hM51 hX50 hX52 hX53 hf)
theorem dX4_matched_0 : decode cX4_matched 0 = .ok (.iload_n 1, 1) := by decide +kernel
theorem dX4_matched_1 : decode cX4_matched 1 = .ok (.aload_n 0, 1) := by decide +kernel
theorem dX4_matched_2 : decode cX4_matched 2 = .ok (.getfield 20, 3) := by decide +kernel
theorem dX4_matched_5 : decode cX4_matched 5 = .ok (.getfield 126, 3) := by decide +kernel
theorem dX4_matched_8 : decode cX4_matched 8 = .ok (.invokestatic 86, 3) := by decide +kernel
theorem dX4_matched_11 : decode cX4_matched 11 = .ok (.ifCond .ne 10, 3) := by decide +kernel
theorem dX4_matched_14 : decode cX4_matched 14 = .ok (.aload_n 0, 1) := by decide +kernel
theorem dX4_matched_15 : decode cX4_matched 15 = .ok (.bipush (-2), 2) := by decide +kernel
theorem dX4_matched_17 : decode cX4_matched 17 = .ok (.invokevirtual 93, 3) := by decide +kernel
theorem dX4_matched_20 : decode cX4_matched 20 = .ok (.ireturn, 1) := by decide +kernel
theorem dX4_matched_21 : decode cX4_matched 21 = .ok (.aload_n 0, 1) := by decide +kernel
theorem dX4_matched_22 : decode cX4_matched 22 = .ok (.invokevirtual 139, 3) := by decide +kernel
theorem dX4_matched_25 : decode cX4_matched 25 = .ok (.astore_n 2, 1) := by decide +kernel
theorem dX4_matched_26 : decode cX4_matched 26 = .ok (.aload_n 2, 1) := by decide +kernel
theorem dX4_matched_27 : decode cX4_matched 27 = .ok (.getfield 160, 3) := by decide +kernel
theorem dX4_matched_30 : decode cX4_matched 30 = .ok (.ifCond .ne 12, 3) := by decide +kernel
theorem dX4_matched_33 : decode cX4_matched 33 = .ok (.aload_n 0, 1) := by decide +kernel
theorem dX4_matched_34 : decode cX4_matched 34 = .ok (.bipush (-3), 2) := by decide +kernel
theorem dX4_matched_36 : decode cX4_matched 36 = .ok (.invokevirtual 93, 3) := by decide +kernel
theorem dX4_matched_39 : decode cX4_matched 39 = .ok (.goto 9, 3) := by decide +kernel
theorem dX4_matched_42 : decode cX4_matched 42 = .ok (.aload_n 2, 1) := by decide +kernel
theorem dX4_matched_43 : decode cX4_matched 43 = .ok (.getfield 163, 3) := by decide +kernel
theorem dX4_matched_46 : decode cX4_matched 46 = .ok (.iload_n 1, 1) := by decide +kernel
theorem dX4_matched_47 : decode cX4_matched 47 = .ok (.iaload, 1) := by decide +kernel
theorem dX4_matched_48 : decode cX4_matched 48 = .ok (.ireturn, 1) := by decide +kernel
def fX4_matched (F : Nat) (x1 : Int32) (sX : zOS) (sM : zOS) (sP : zOS) (sL : zOS) : Option (Int32 × zOS × zOS × zOS × zOS) := (Option.bind (fX4_isWithin x1 (zF sP 3)) (fun r_1 : Int32 => (if r_1 = 0 then (Option.bind (fX4_refuse (-2 : Int32) sX) (fun r_3 : Int32 × zOS => (some (r_3.1, r_3.2, sM, sP, sL)))) else (Option.bind (fX4_search F sX sM sP sL) (fun r_5 : zOS × zOS × zOS × zOS => (if (zF r_5.2.1 8) = 0 then (Option.bind (fX4_refuse (-3 : Int32) r_5.1) (fun r_7 : Int32 × zOS => (some (r_7.1, r_7.2, r_5.2.1, r_5.2.2.1, r_5.2.2.2)))) else (zchk x1 6 (some (zI r_5.2.1 4 x1.toNatClampNeg, r_5.1, r_5.2.1, r_5.2.2.1, r_5.2.2.2)))))))))
set_option maxRecDepth 20000 in
theorem wX4_matched {X : zCx} {res : Int32 × zOS × zOS × zOS × zOS} {F : Nat} {qX : Nat → Nat} {qM : Nat → Nat} {qP : Nat → Nat} {qL : Nat → Nat} {x1 : Int32} {sX : zOS} {sM : zOS} {sP : zOS} {sL : zOS} (C : zC X RX4 cX4_matched 3 22 514) (hR : zR X (some .int) (some (.int res.1)) [(4, qX, res.2.1), (1, qM, res.2.2.1), (2, qP, res.2.2.2.1), (0, qL, res.2.2.2.2)]) (hM50 : qM 50 = qP 0) (hM51 : qM 51 = qL 0) (hX50 : qX 50 = qP 0) (hX52 : qX 52 = qL 0) (hX53 : qX 53 = qM 0) : zJ X 3 res (fX4_matched F x1 sX sM sP sL) 0 [(0, (.ref (qX 0))), (1, (.int x1))] [] [(4, qX, sX), (1, qM, sM), (2, qP, sP), (0, qL, sL)] := by
  unfold fX4_matched
  refine z_iload_n (pc := 0) 1 rfl rfl C dX4_matched_0 ?_
  refine z_aload_n (pc := 1) 0 rfl rfl C dX4_matched_1 ?_
  refine z_getE (pc := 2) 0 1 50 (qP 0) hX50 C dX4_matched_2 rfl (by decide) (by decide) rfl zw_262 ?_
  refine z_getI (pc := 5) 2 3 C dX4_matched_5 rfl (by decide) (by decide) rfl zw_117 ?_
  refine z_callS (pc := 8) (rf' := 0) (rl' := 0) (fX4_isWithin x1 (zF sP 3)) [(.int x1), (.int (zF sP 3))] [] [] (fun r_1 => (some (.int r_1))) (fun r_1 => []) [(4, qX, sX), (1, qM, sM), (2, qP, sP), (0, qL, sL)] (fun r_1 => [(4, qX, sX), (1, qM, sM), (2, qP, sP), (0, qL, sL)]) C dX4_matched_8 zy_X4_isWithin zw_313 (fun _ hr9 => mX4_isWithin  hr9) (by decide) rfl (Nat.le_of_ble_eq_true rfl) (List.Perm.refl _) (fun _ => List.Perm.refl _) rfl (fun r_1 hr_2 => ?_)
  show zJ X 3 res _ 11 [(0, (.ref (qX 0))), (1, (.int x1))] [(.int r_1)] [(4, qX, sX), (1, qM, sM), (2, qP, sP), (0, qL, sL)]
  refine z_if_ne (pc := 11) 21 C dX4_matched_11 (by decide) ?_ ?_
  · refine z_aload_n (pc := 14) 0 rfl rfl C dX4_matched_14 ?_
    refine z_bipush (pc := 15) (-2 : Int32) (by decide) C dX4_matched_15 ?_
    refine z_callV (pc := 17) (rf' := 1) (rl' := 21) (fX4_refuse (-2 : Int32) sX) [(.int (-2 : Int32))] [] [(4, qX, sX)] (fun r_3 => (some (.int r_3.1))) (fun r_3 => [(4, qX, r_3.2)]) [(1, qM, sM), (2, qP, sP), (0, qL, sL)] (fun r_3 => [(4, qX, r_3.2), (1, qM, sM), (2, qP, sP), (0, qL, sL)]) C dX4_matched_17 zy_X4_refuse zw_328 (fun _ hr9 => mX4_refuse  hr9) (by decide) rfl rfl (by decide) rfl (Nat.le_of_ble_eq_true rfl) (List.Perm.refl _) (fun _ => List.Perm.refl _) rfl (fun r_3 hr_4 => ?_)
    show zJ X 3 res _ 20 [(0, (.ref (qX 0))), (1, (.int x1))] [(.int r_3.1)] [(4, qX, r_3.2), (1, qM, sM), (2, qP, sP), (0, qL, sL)]
    exact z_ireturn (pc := 20) C hR dX4_matched_20 (fun h => by subst h; exact ⟨rfl, rfl⟩)
  · refine z_aload_n (pc := 21) 0 rfl rfl C dX4_matched_21 ?_
    refine z_callV (pc := 22) (rf' := 21) (rl' := 494) (fX4_search F sX sM sP sL) [] [] [(4, qX, sX), (1, qM, sM), (2, qP, sP), (0, qL, sL)] (fun r_5 => (some (.ref (qM 0)))) (fun r_5 => [(4, qX, r_5.1), (1, qM, r_5.2.1), (2, qP, r_5.2.2.1), (0, qL, r_5.2.2.2)]) [] (fun r_5 => [(4, qX, r_5.1), (1, qM, r_5.2.1), (2, qP, r_5.2.2.1), (0, qL, r_5.2.2.2)]) C dX4_matched_22 zy_X4_search zw_508 (fun _ hr9 => mX4_search hM50 hM51 hX50 hX52 hX53 hr9) (by decide) rfl rfl (by decide) rfl (Nat.le_of_ble_eq_true rfl) (List.Perm.refl _) (fun _ => List.Perm.refl _) rfl (fun r_5 hr_6 => ?_)
    show zJ X 3 res _ 25 [(0, (.ref (qX 0))), (1, (.int x1))] [(.ref (qM 0))] [(4, qX, r_5.1), (1, qM, r_5.2.1), (2, qP, r_5.2.2.1), (0, qL, r_5.2.2.2)]
    refine z_astore_n (pc := 25) [(0, (.ref (qX 0))), (1, (.int x1)), (2, (.ref (qM 0)))] [1, 2, 0] (by decide) rfl rfl C dX4_matched_25 ?_
    refine z_aload_n (pc := 26) 2 rfl rfl C dX4_matched_26 ?_
    refine z_getI (pc := 27) 1 8 C dX4_matched_27 rfl (by decide) (by decide) rfl zw_216 ?_
    refine z_if_ne (pc := 30) 42 C dX4_matched_30 (by decide) ?_ ?_
    · refine z_aload_n (pc := 33) 0 rfl rfl C dX4_matched_33 ?_
      refine z_bipush (pc := 34) (-3 : Int32) (by decide) C dX4_matched_34 ?_
      refine z_callV (pc := 36) (rf' := 1) (rl' := 21) (fX4_refuse (-3 : Int32) r_5.1) [(.int (-3 : Int32))] [] [(4, qX, r_5.1)] (fun r_7 => (some (.int r_7.1))) (fun r_7 => [(4, qX, r_7.2)]) [(1, qM, r_5.2.1), (2, qP, r_5.2.2.1), (0, qL, r_5.2.2.2)] (fun r_7 => [(4, qX, r_7.2), (1, qM, r_5.2.1), (2, qP, r_5.2.2.1), (0, qL, r_5.2.2.2)]) C dX4_matched_36 zy_X4_refuse zw_328 (fun _ hr9 => mX4_refuse  hr9) (by decide) rfl rfl (by decide) rfl (Nat.le_of_ble_eq_true rfl) (List.Perm.refl _) (fun _ => List.Perm.refl _) rfl (fun r_7 hr_8 => ?_)
      show zJ X 3 res _ 39 [(0, (.ref (qX 0))), (1, (.int x1)), (2, (.ref (qM 0)))] [(.int r_7.1)] [(4, qX, r_7.2), (1, qM, r_5.2.1), (2, qP, r_5.2.2.1), (0, qL, r_5.2.2.2)]
      refine z_goto (pc := 39) 48 C dX4_matched_39 (by decide) ?_
      exact z_ireturn (pc := 48) C hR dX4_matched_48 (fun h => by subst h; exact ⟨rfl, rfl⟩)
    · refine z_aload_n (pc := 42) 2 rfl rfl C dX4_matched_42 ?_
      refine z_getR (pc := 43) 1 6 4 C dX4_matched_43 rfl (by decide) (by decide) rfl zw_212 ?_
      refine z_iload_n (pc := 46) 1 rfl rfl C dX4_matched_46 ?_
      refine z_iald (pc := 47) 1 C dX4_matched_47 rfl (by unfold zAr; decide) ?_
      exact z_ireturn (pc := 48) C hR dX4_matched_48 (fun h => by subst h; exact ⟨rfl, rfl⟩)
theorem mX4_matched {F : Nat} {qX : Nat → Nat} {qM : Nat → Nat} {qP : Nat → Nat} {qL : Nat → Nat} {x1 : Int32} {sX : zOS} {sM : zOS} {sP : zOS} {sL : zOS} {res : Int32 × zOS × zOS × zOS × zOS} (hM50 : qM 50 = qP 0) (hM51 : qM 51 = qL 0) (hX50 : qX 50 = qP 0) (hX52 : qX 52 = qL 0) (hX53 : qX 53 = qM 0) (hf : fX4_matched F x1 sX sM sP sL = some res) : zM yX4_matched cX4_matched 3 (some .int) 22 514 [(.ref (qX 0)), (.int x1)] [(4, qX, sX), (1, qM, sM), (2, qP, sP), (0, qL, sL)] (some (.int res.1)) [(4, qX, res.2.1), (1, qM, res.2.2.1), (2, qP, res.2.2.2.1), (0, qL, res.2.2.2.2)] := zM_of (by decide +kernel) (Nat.le_of_ble_eq_true rfl) (fun X C hR => wX4_matched (F := F) C hR hM50 hM51 hX50 hX52 hX53 hf)
theorem dX4_net_0 : decode cX4_net 0 = .ok (.iload_n 1, 1) := by decide +kernel
theorem dX4_net_1 : decode cX4_net 1 = .ok (.bipush 10, 2) := by decide +kernel
theorem dX4_net_3 : decode cX4_net 3 = .ok (.invokestatic 86, 3) := by decide +kernel
theorem dX4_net_6 : decode cX4_net 6 = .ok (.ifCond .ne 10, 3) := by decide +kernel
theorem dX4_net_9 : decode cX4_net 9 = .ok (.aload_n 0, 1) := by decide +kernel
theorem dX4_net_10 : decode cX4_net 10 = .ok (.bipush (-2), 2) := by decide +kernel
theorem dX4_net_12 : decode cX4_net 12 = .ok (.invokevirtual 93, 3) := by decide +kernel
theorem dX4_net_15 : decode cX4_net 15 = .ok (.ireturn, 1) := by decide +kernel
theorem dX4_net_16 : decode cX4_net 16 = .ok (.aload_n 0, 1) := by decide +kernel
theorem dX4_net_17 : decode cX4_net 17 = .ok (.invokevirtual 139, 3) := by decide +kernel
theorem dX4_net_20 : decode cX4_net 20 = .ok (.astore_n 2, 1) := by decide +kernel
theorem dX4_net_21 : decode cX4_net 21 = .ok (.aload_n 2, 1) := by decide +kernel
theorem dX4_net_22 : decode cX4_net 22 = .ok (.getfield 160, 3) := by decide +kernel
theorem dX4_net_25 : decode cX4_net 25 = .ok (.ifCond .ne 12, 3) := by decide +kernel
theorem dX4_net_28 : decode cX4_net 28 = .ok (.aload_n 0, 1) := by decide +kernel
theorem dX4_net_29 : decode cX4_net 29 = .ok (.bipush (-3), 2) := by decide +kernel
theorem dX4_net_31 : decode cX4_net 31 = .ok (.invokevirtual 93, 3) := by decide +kernel
theorem dX4_net_34 : decode cX4_net 34 = .ok (.goto 9, 3) := by decide +kernel
theorem dX4_net_37 : decode cX4_net 37 = .ok (.aload_n 2, 1) := by decide +kernel
theorem dX4_net_38 : decode cX4_net 38 = .ok (.getfield 166, 3) := by decide +kernel
theorem dX4_net_41 : decode cX4_net 41 = .ok (.iload_n 1, 1) := by decide +kernel
theorem dX4_net_42 : decode cX4_net 42 = .ok (.iaload, 1) := by decide +kernel
theorem dX4_net_43 : decode cX4_net 43 = .ok (.ireturn, 1) := by decide +kernel
def fX4_net (F : Nat) (x1 : Int32) (sX : zOS) (sM : zOS) (sP : zOS) (sL : zOS) : Option (Int32 × zOS × zOS × zOS × zOS) := (Option.bind (fX4_isWithin x1 (10 : Int32)) (fun r_1 : Int32 => (if r_1 = 0 then (Option.bind (fX4_refuse (-2 : Int32) sX) (fun r_3 : Int32 × zOS => (some (r_3.1, r_3.2, sM, sP, sL)))) else (Option.bind (fX4_search F sX sM sP sL) (fun r_5 : zOS × zOS × zOS × zOS => (if (zF r_5.2.1 8) = 0 then (Option.bind (fX4_refuse (-3 : Int32) r_5.1) (fun r_7 : Int32 × zOS => (some (r_7.1, r_7.2, r_5.2.1, r_5.2.2.1, r_5.2.2.2)))) else (zchk x1 10 (some (zI r_5.2.1 5 x1.toNatClampNeg, r_5.1, r_5.2.1, r_5.2.2.1, r_5.2.2.2)))))))))
set_option maxRecDepth 20000 in
theorem wX4_net {X : zCx} {res : Int32 × zOS × zOS × zOS × zOS} {F : Nat} {qX : Nat → Nat} {qM : Nat → Nat} {qP : Nat → Nat} {qL : Nat → Nat} {x1 : Int32} {sX : zOS} {sM : zOS} {sP : zOS} {sL : zOS} (C : zC X RX4 cX4_net 3 22 514) (hR : zR X (some .int) (some (.int res.1)) [(4, qX, res.2.1), (1, qM, res.2.2.1), (2, qP, res.2.2.2.1), (0, qL, res.2.2.2.2)]) (hM50 : qM 50 = qP 0) (hM51 : qM 51 = qL 0) (hX50 : qX 50 = qP 0) (hX52 : qX 52 = qL 0) (hX53 : qX 53 = qM 0) : zJ X 3 res (fX4_net F x1 sX sM sP sL) 0 [(0, (.ref (qX 0))), (1, (.int x1))] [] [(4, qX, sX), (1, qM, sM), (2, qP, sP), (0, qL, sL)] := by
  unfold fX4_net
  refine z_iload_n (pc := 0) 1 rfl rfl C dX4_net_0 ?_
  refine z_bipush (pc := 1) (10 : Int32) (by decide) C dX4_net_1 ?_
  refine z_callS (pc := 3) (rf' := 0) (rl' := 0) (fX4_isWithin x1 (10 : Int32)) [(.int x1), (.int (10 : Int32))] [] [] (fun r_1 => (some (.int r_1))) (fun r_1 => []) [(4, qX, sX), (1, qM, sM), (2, qP, sP), (0, qL, sL)] (fun r_1 => [(4, qX, sX), (1, qM, sM), (2, qP, sP), (0, qL, sL)]) C dX4_net_3 zy_X4_isWithin zw_313 (fun _ hr9 => mX4_isWithin  hr9) (by decide) rfl (Nat.le_of_ble_eq_true rfl) (List.Perm.refl _) (fun _ => List.Perm.refl _) rfl (fun r_1 hr_2 => ?_)
  show zJ X 3 res _ 6 [(0, (.ref (qX 0))), (1, (.int x1))] [(.int r_1)] [(4, qX, sX), (1, qM, sM), (2, qP, sP), (0, qL, sL)]
  refine z_if_ne (pc := 6) 16 C dX4_net_6 (by decide) ?_ ?_
  · refine z_aload_n (pc := 9) 0 rfl rfl C dX4_net_9 ?_
    refine z_bipush (pc := 10) (-2 : Int32) (by decide) C dX4_net_10 ?_
    refine z_callV (pc := 12) (rf' := 1) (rl' := 21) (fX4_refuse (-2 : Int32) sX) [(.int (-2 : Int32))] [] [(4, qX, sX)] (fun r_3 => (some (.int r_3.1))) (fun r_3 => [(4, qX, r_3.2)]) [(1, qM, sM), (2, qP, sP), (0, qL, sL)] (fun r_3 => [(4, qX, r_3.2), (1, qM, sM), (2, qP, sP), (0, qL, sL)]) C dX4_net_12 zy_X4_refuse zw_328 (fun _ hr9 => mX4_refuse  hr9) (by decide) rfl rfl (by decide) rfl (Nat.le_of_ble_eq_true rfl) (List.Perm.refl _) (fun _ => List.Perm.refl _) rfl (fun r_3 hr_4 => ?_)
    show zJ X 3 res _ 15 [(0, (.ref (qX 0))), (1, (.int x1))] [(.int r_3.1)] [(4, qX, r_3.2), (1, qM, sM), (2, qP, sP), (0, qL, sL)]
    exact z_ireturn (pc := 15) C hR dX4_net_15 (fun h => by subst h; exact ⟨rfl, rfl⟩)
  · refine z_aload_n (pc := 16) 0 rfl rfl C dX4_net_16 ?_
    refine z_callV (pc := 17) (rf' := 21) (rl' := 494) (fX4_search F sX sM sP sL) [] [] [(4, qX, sX), (1, qM, sM), (2, qP, sP), (0, qL, sL)] (fun r_5 => (some (.ref (qM 0)))) (fun r_5 => [(4, qX, r_5.1), (1, qM, r_5.2.1), (2, qP, r_5.2.2.1), (0, qL, r_5.2.2.2)]) [] (fun r_5 => [(4, qX, r_5.1), (1, qM, r_5.2.1), (2, qP, r_5.2.2.1), (0, qL, r_5.2.2.2)]) C dX4_net_17 zy_X4_search zw_508 (fun _ hr9 => mX4_search hM50 hM51 hX50 hX52 hX53 hr9) (by decide) rfl rfl (by decide) rfl (Nat.le_of_ble_eq_true rfl) (List.Perm.refl _) (fun _ => List.Perm.refl _) rfl (fun r_5 hr_6 => ?_)
    show zJ X 3 res _ 20 [(0, (.ref (qX 0))), (1, (.int x1))] [(.ref (qM 0))] [(4, qX, r_5.1), (1, qM, r_5.2.1), (2, qP, r_5.2.2.1), (0, qL, r_5.2.2.2)]
    refine z_astore_n (pc := 20) [(0, (.ref (qX 0))), (1, (.int x1)), (2, (.ref (qM 0)))] [1, 2, 0] (by decide) rfl rfl C dX4_net_20 ?_
    refine z_aload_n (pc := 21) 2 rfl rfl C dX4_net_21 ?_
    refine z_getI (pc := 22) 1 8 C dX4_net_22 rfl (by decide) (by decide) rfl zw_216 ?_
    refine z_if_ne (pc := 25) 37 C dX4_net_25 (by decide) ?_ ?_
    · refine z_aload_n (pc := 28) 0 rfl rfl C dX4_net_28 ?_
      refine z_bipush (pc := 29) (-3 : Int32) (by decide) C dX4_net_29 ?_
      refine z_callV (pc := 31) (rf' := 1) (rl' := 21) (fX4_refuse (-3 : Int32) r_5.1) [(.int (-3 : Int32))] [] [(4, qX, r_5.1)] (fun r_7 => (some (.int r_7.1))) (fun r_7 => [(4, qX, r_7.2)]) [(1, qM, r_5.2.1), (2, qP, r_5.2.2.1), (0, qL, r_5.2.2.2)] (fun r_7 => [(4, qX, r_7.2), (1, qM, r_5.2.1), (2, qP, r_5.2.2.1), (0, qL, r_5.2.2.2)]) C dX4_net_31 zy_X4_refuse zw_328 (fun _ hr9 => mX4_refuse  hr9) (by decide) rfl rfl (by decide) rfl (Nat.le_of_ble_eq_true rfl) (List.Perm.refl _) (fun _ => List.Perm.refl _) rfl (fun r_7 hr_8 => ?_)
      show zJ X 3 res _ 34 [(0, (.ref (qX 0))), (1, (.int x1)), (2, (.ref (qM 0)))] [(.int r_7.1)] [(4, qX, r_7.2), (1, qM, r_5.2.1), (2, qP, r_5.2.2.1), (0, qL, r_5.2.2.2)]
      refine z_goto (pc := 34) 43 C dX4_net_34 (by decide) ?_
      exact z_ireturn (pc := 43) C hR dX4_net_43 (fun h => by subst h; exact ⟨rfl, rfl⟩)
    · refine z_aload_n (pc := 37) 2 rfl rfl C dX4_net_37 ?_
      refine z_getR (pc := 38) 1 7 5 C dX4_net_38 rfl (by decide) (by decide) rfl zw_214 ?_
      refine z_iload_n (pc := 41) 1 rfl rfl C dX4_net_41 ?_
      refine z_iald (pc := 42) 1 C dX4_net_42 rfl (by unfold zAr; decide) ?_
      exact z_ireturn (pc := 43) C hR dX4_net_43 (fun h => by subst h; exact ⟨rfl, rfl⟩)
theorem mX4_net {F : Nat} {qX : Nat → Nat} {qM : Nat → Nat} {qP : Nat → Nat} {qL : Nat → Nat} {x1 : Int32} {sX : zOS} {sM : zOS} {sP : zOS} {sL : zOS} {res : Int32 × zOS × zOS × zOS × zOS} (hM50 : qM 50 = qP 0) (hM51 : qM 51 = qL 0) (hX50 : qX 50 = qP 0) (hX52 : qX 52 = qL 0) (hX53 : qX 53 = qM 0) (hf : fX4_net F x1 sX sM sP sL = some res) : zM yX4_net cX4_net 3 (some .int) 22 514 [(.ref (qX 0)), (.int x1)] [(4, qX, sX), (1, qM, sM), (2, qP, sP), (0, qL, sL)] (some (.int res.1)) [(4, qX, res.2.1), (1, qM, res.2.2.1), (2, qP, res.2.2.2.1), (0, qL, res.2.2.2.2)] := zM_of (by decide +kernel) (Nat.le_of_ble_eq_true rfl) (fun X C hR => wX4_net (F := F) C hR hM50 hM51 hX50 hX52 hX53 hf)
theorem dX4_device_0 : decode cX4_device 0 = .ok (.iload_n 1, 1) := by decide +kernel
theorem dX4_device_1 : decode cX4_device 1 = .ok (.aload_n 0, 1) := by decide +kernel
theorem dX4_device_2 : decode cX4_device 2 = .ok (.getfield 20, 3) := by decide +kernel
theorem dX4_device_5 : decode cX4_device 5 = .ok (.getfield 126, 3) := by decide +kernel
theorem dX4_device_8 : decode cX4_device 8 = .ok (.invokestatic 86, 3) := by decide +kernel
theorem dX4_device_11 : decode cX4_device 11 = .ok (.ifCond .eq 11, 3) := by decide +kernel
theorem dX4_device_14 : decode cX4_device 14 = .ok (.iload_n 2, 1) := by decide +kernel
theorem dX4_device_15 : decode cX4_device 15 = .ok (.iconst 3, 1) := by decide +kernel
theorem dX4_device_16 : decode cX4_device 16 = .ok (.invokestatic 86, 3) := by decide +kernel
theorem dX4_device_19 : decode cX4_device 19 = .ok (.ifCond .ne 10, 3) := by decide +kernel
theorem dX4_device_22 : decode cX4_device 22 = .ok (.aload_n 0, 1) := by decide +kernel
theorem dX4_device_23 : decode cX4_device 23 = .ok (.bipush (-2), 2) := by decide +kernel
theorem dX4_device_25 : decode cX4_device 25 = .ok (.invokevirtual 93, 3) := by decide +kernel
theorem dX4_device_28 : decode cX4_device 28 = .ok (.ireturn, 1) := by decide +kernel
theorem dX4_device_29 : decode cX4_device 29 = .ok (.aload_n 0, 1) := by decide +kernel
theorem dX4_device_30 : decode cX4_device 30 = .ok (.getfield 20, 3) := by decide +kernel
theorem dX4_device_33 : decode cX4_device 33 = .ok (.getfield 169, 3) := by decide +kernel
theorem dX4_device_36 : decode cX4_device 36 = .ok (.iconst 3, 1) := by decide +kernel
theorem dX4_device_37 : decode cX4_device 37 = .ok (.iload_n 1, 1) := by decide +kernel
theorem dX4_device_38 : decode cX4_device 38 = .ok (.imul, 1) := by decide +kernel
theorem dX4_device_39 : decode cX4_device 39 = .ok (.iload_n 2, 1) := by decide +kernel
theorem dX4_device_40 : decode cX4_device 40 = .ok (.iadd, 1) := by decide +kernel
theorem dX4_device_41 : decode cX4_device 41 = .ok (.iaload, 1) := by decide +kernel
theorem dX4_device_42 : decode cX4_device 42 = .ok (.ireturn, 1) := by decide +kernel
def jX4_device_22 (sX : zOS) : Option (Int32 × zOS) := (Option.bind (fX4_refuse (-2 : Int32) sX) (fun r_3 : Int32 × zOS => (some (r_3.1, r_3.2))))
set_option maxRecDepth 20000 in
theorem wX4_device_22 {X : zCx} {res : Int32 × zOS} {qX : Nat → Nat} {qP : Nat → Nat} {sP : zOS} (C : zC X RX4 cX4_device 3 2 43) (hR : zR X (some .int) (some (.int res.1)) [(4, qX, res.2), (2, qP, sP)]) (hX50 : qX 50 = qP 0) (sX : zOS) : zJ X 3 res (jX4_device_22 sX) 22 [(0, (.ref (qX 0)))] [] [(4, qX, sX), (2, qP, sP)] := by
  unfold jX4_device_22
  refine z_aload_n (pc := 22) 0 rfl rfl C dX4_device_22 ?_
  refine z_bipush (pc := 23) (-2 : Int32) (by decide) C dX4_device_23 ?_
  refine z_callV (pc := 25) (rf' := 1) (rl' := 21) (fX4_refuse (-2 : Int32) sX) [(.int (-2 : Int32))] [] [(4, qX, sX)] (fun r_3 => (some (.int r_3.1))) (fun r_3 => [(4, qX, r_3.2)]) [(2, qP, sP)] (fun r_3 => [(4, qX, r_3.2), (2, qP, sP)]) C dX4_device_25 zy_X4_refuse zw_328 (fun _ hr9 => mX4_refuse  hr9) (by decide) rfl rfl (by decide) rfl (Nat.le_of_ble_eq_true rfl) (List.Perm.refl _) (fun _ => List.Perm.refl _) rfl (fun r_3 hr_4 => ?_)
  show zJ X 3 res _ 28 [(0, (.ref (qX 0)))] [(.int r_3.1)] [(4, qX, r_3.2), (2, qP, sP)]
  exact z_ireturn (pc := 28) C hR dX4_device_28 (fun h => by subst h; exact ⟨rfl, rfl⟩)
def fX4_device (x1 : Int32) (x2 : Int32) (sX : zOS) (sP : zOS) : Option (Int32 × zOS) := (Option.bind (fX4_isWithin x1 (zF sP 3)) (fun r_1 : Int32 => (if r_1 = 0 then (jX4_device_22 sX) else (Option.bind (fX4_isWithin x2 (3 : Int32)) (fun r_5 : Int32 => (if r_5 = 0 then (jX4_device_22 sX) else (zchk (((3 : Int32) * x1) + x2) 18 (some (zI sP 2 (((3 : Int32) * x1) + x2).toNatClampNeg, sX)))))))))
set_option maxRecDepth 20000 in
theorem wX4_device {X : zCx} {res : Int32 × zOS}  {qX : Nat → Nat} {qP : Nat → Nat} {x1 : Int32} {x2 : Int32} {sX : zOS} {sP : zOS} (C : zC X RX4 cX4_device 3 2 43) (hR : zR X (some .int) (some (.int res.1)) [(4, qX, res.2), (2, qP, sP)]) (hX50 : qX 50 = qP 0) : zJ X 3 res (fX4_device x1 x2 sX sP) 0 [(0, (.ref (qX 0))), (1, (.int x1)), (2, (.int x2))] [] [(4, qX, sX), (2, qP, sP)] := by
  unfold fX4_device
  refine z_iload_n (pc := 0) 1 rfl rfl C dX4_device_0 ?_
  refine z_aload_n (pc := 1) 0 rfl rfl C dX4_device_1 ?_
  refine z_getE (pc := 2) 0 1 50 (qP 0) hX50 C dX4_device_2 rfl (by decide) (by decide) rfl zw_262 ?_
  refine z_getI (pc := 5) 1 3 C dX4_device_5 rfl (by decide) (by decide) rfl zw_117 ?_
  refine z_callS (pc := 8) (rf' := 0) (rl' := 0) (fX4_isWithin x1 (zF sP 3)) [(.int x1), (.int (zF sP 3))] [] [] (fun r_1 => (some (.int r_1))) (fun r_1 => []) [(4, qX, sX), (2, qP, sP)] (fun r_1 => [(4, qX, sX), (2, qP, sP)]) C dX4_device_8 zy_X4_isWithin zw_313 (fun _ hr9 => mX4_isWithin  hr9) (by decide) rfl (Nat.le_of_ble_eq_true rfl) (List.Perm.refl _) (fun _ => List.Perm.refl _) rfl (fun r_1 hr_2 => ?_)
  show zJ X 3 res _ 11 [(0, (.ref (qX 0))), (1, (.int x1)), (2, (.int x2))] [(.int r_1)] [(4, qX, sX), (2, qP, sP)]
  refine z_if_eq (pc := 11) 22 C dX4_device_11 (by decide) ?_ ?_
  · refine z_lv [(0, (.ref (qX 0)))] [0] rfl ?_
    exact wX4_device_22 C hR hX50  _
  · refine z_iload_n (pc := 14) 2 rfl rfl C dX4_device_14 ?_
    refine z_iconst (pc := 15) (3 : Int32) (by decide) C dX4_device_15 ?_
    refine z_callS (pc := 16) (rf' := 0) (rl' := 0) (fX4_isWithin x2 (3 : Int32)) [(.int x2), (.int (3 : Int32))] [] [] (fun r_5 => (some (.int r_5))) (fun r_5 => []) [(4, qX, sX), (2, qP, sP)] (fun r_5 => [(4, qX, sX), (2, qP, sP)]) C dX4_device_16 zy_X4_isWithin zw_313 (fun _ hr9 => mX4_isWithin  hr9) (by decide) rfl (Nat.le_of_ble_eq_true rfl) (List.Perm.refl _) (fun _ => List.Perm.refl _) rfl (fun r_5 hr_6 => ?_)
    show zJ X 3 res _ 19 [(0, (.ref (qX 0))), (1, (.int x1)), (2, (.int x2))] [(.int r_5)] [(4, qX, sX), (2, qP, sP)]
    refine z_if_ne (pc := 19) 29 C dX4_device_19 (by decide) ?_ ?_
    · refine z_lv [(0, (.ref (qX 0)))] [0] rfl ?_
      exact wX4_device_22 C hR hX50  _
    · refine z_aload_n (pc := 29) 0 rfl rfl C dX4_device_29 ?_
      refine z_getE (pc := 30) 0 1 50 (qP 0) hX50 C dX4_device_30 rfl (by decide) (by decide) rfl zw_262 ?_
      refine z_getR (pc := 33) 1 1 2 C dX4_device_33 rfl (by decide) (by decide) rfl zw_112 ?_
      refine z_iconst (pc := 36) (3 : Int32) (by decide) C dX4_device_36 ?_
      refine z_iload_n (pc := 37) 1 rfl rfl C dX4_device_37 ?_
      refine z_imul (pc := 38) C dX4_device_38 ?_
      refine z_iload_n (pc := 39) 2 rfl rfl C dX4_device_39 ?_
      refine z_iadd (pc := 40) C dX4_device_40 ?_
      refine z_iald (pc := 41) 1 C dX4_device_41 rfl (by unfold zAr; decide) ?_
      exact z_ireturn (pc := 42) C hR dX4_device_42 (fun h => by subst h; exact ⟨rfl, rfl⟩)
theorem mX4_device  {qX : Nat → Nat} {qP : Nat → Nat} {x1 : Int32} {x2 : Int32} {sX : zOS} {sP : zOS} {res : Int32 × zOS} (hX50 : qX 50 = qP 0) (hf : fX4_device x1 x2 sX sP = some res) : zM yX4_device cX4_device 3 (some .int) 2 43 [(.ref (qX 0)), (.int x1), (.int x2)] [(4, qX, sX), (2, qP, sP)] (some (.int res.1)) [(4, qX, res.2), (2, qP, sP)] := zM_of (by decide +kernel) (Nat.le_of_ble_eq_true rfl) (fun X C hR => wX4_device C hR hX50 hf)
theorem dX4_pin_0 : decode cX4_pin 0 = .ok (.iload_n 1, 1) := by decide +kernel
theorem dX4_pin_1 : decode cX4_pin 1 = .ok (.aload_n 0, 1) := by decide +kernel
theorem dX4_pin_2 : decode cX4_pin 2 = .ok (.getfield 20, 3) := by decide +kernel
theorem dX4_pin_5 : decode cX4_pin 5 = .ok (.getfield 129, 3) := by decide +kernel
theorem dX4_pin_8 : decode cX4_pin 8 = .ok (.invokestatic 86, 3) := by decide +kernel
theorem dX4_pin_11 : decode cX4_pin 11 = .ok (.ifCond .eq 11, 3) := by decide +kernel
theorem dX4_pin_14 : decode cX4_pin 14 = .ok (.iload_n 2, 1) := by decide +kernel
theorem dX4_pin_15 : decode cX4_pin 15 = .ok (.iconst 4, 1) := by decide +kernel
theorem dX4_pin_16 : decode cX4_pin 16 = .ok (.invokestatic 86, 3) := by decide +kernel
theorem dX4_pin_19 : decode cX4_pin 19 = .ok (.ifCond .ne 10, 3) := by decide +kernel
theorem dX4_pin_22 : decode cX4_pin 22 = .ok (.aload_n 0, 1) := by decide +kernel
theorem dX4_pin_23 : decode cX4_pin 23 = .ok (.bipush (-2), 2) := by decide +kernel
theorem dX4_pin_25 : decode cX4_pin 25 = .ok (.invokevirtual 93, 3) := by decide +kernel
theorem dX4_pin_28 : decode cX4_pin 28 = .ok (.ireturn, 1) := by decide +kernel
theorem dX4_pin_29 : decode cX4_pin 29 = .ok (.iload_n 2, 1) := by decide +kernel
theorem dX4_pin_30 : decode cX4_pin 30 = .ok (.iconst 3, 1) := by decide +kernel
theorem dX4_pin_31 : decode cX4_pin 31 = .ok (.if_icmp .ne 18, 3) := by decide +kernel
theorem dX4_pin_34 : decode cX4_pin 34 = .ok (.aload_n 0, 1) := by decide +kernel
theorem dX4_pin_35 : decode cX4_pin 35 = .ok (.invokevirtual 104, 3) := by decide +kernel
theorem dX4_pin_38 : decode cX4_pin 38 = .ok (.aload_n 0, 1) := by decide +kernel
theorem dX4_pin_39 : decode cX4_pin 39 = .ok (.getfield 20, 3) := by decide +kernel
theorem dX4_pin_42 : decode cX4_pin 42 = .ok (.iload_n 1, 1) := by decide +kernel
theorem dX4_pin_43 : decode cX4_pin 43 = .ok (.invokevirtual 172, 3) := by decide +kernel
theorem dX4_pin_46 : decode cX4_pin 46 = .ok (.goto 16, 3) := by decide +kernel
theorem dX4_pin_49 : decode cX4_pin 49 = .ok (.aload_n 0, 1) := by decide +kernel
theorem dX4_pin_50 : decode cX4_pin 50 = .ok (.getfield 20, 3) := by decide +kernel
theorem dX4_pin_53 : decode cX4_pin 53 = .ok (.getfield 176, 3) := by decide +kernel
theorem dX4_pin_56 : decode cX4_pin 56 = .ok (.iconst 3, 1) := by decide +kernel
theorem dX4_pin_57 : decode cX4_pin 57 = .ok (.iload_n 1, 1) := by decide +kernel
theorem dX4_pin_58 : decode cX4_pin 58 = .ok (.imul, 1) := by decide +kernel
theorem dX4_pin_59 : decode cX4_pin 59 = .ok (.iload_n 2, 1) := by decide +kernel
theorem dX4_pin_60 : decode cX4_pin 60 = .ok (.iadd, 1) := by decide +kernel
theorem dX4_pin_61 : decode cX4_pin 61 = .ok (.iaload, 1) := by decide +kernel
theorem dX4_pin_62 : decode cX4_pin 62 = .ok (.ireturn, 1) := by decide +kernel
def jX4_pin_22 (F : Nat) (sX : zOS) (sL : zOS) : Option (Int32 × zOS × zOS) := (Option.bind (fX4_refuse (-2 : Int32) sX) (fun r_3 : Int32 × zOS => (some (r_3.1, r_3.2, sL))))
set_option maxRecDepth 20000 in
theorem wX4_pin_22 {X : zCx} {res : Int32 × zOS × zOS} {F : Nat} {qX : Nat → Nat} {qL : Nat → Nat} {qP : Nat → Nat} {sP : zOS} (C : zC X RX4 cX4_pin 3 6 132) (hR : zR X (some .int) (some (.int res.1)) [(4, qX, res.2.1), (0, qL, res.2.2), (2, qP, sP)]) (hX50 : qX 50 = qP 0) (hX52 : qX 52 = qL 0) (sX : zOS) (sL : zOS) : zJ X 3 res (jX4_pin_22 F sX sL) 22 [(0, (.ref (qX 0)))] [] [(4, qX, sX), (0, qL, sL), (2, qP, sP)] := by
  unfold jX4_pin_22
  refine z_aload_n (pc := 22) 0 rfl rfl C dX4_pin_22 ?_
  refine z_bipush (pc := 23) (-2 : Int32) (by decide) C dX4_pin_23 ?_
  refine z_callV (pc := 25) (rf' := 1) (rl' := 21) (fX4_refuse (-2 : Int32) sX) [(.int (-2 : Int32))] [] [(4, qX, sX)] (fun r_3 => (some (.int r_3.1))) (fun r_3 => [(4, qX, r_3.2)]) [(0, qL, sL), (2, qP, sP)] (fun r_3 => [(4, qX, r_3.2), (0, qL, sL), (2, qP, sP)]) C dX4_pin_25 zy_X4_refuse zw_328 (fun _ hr9 => mX4_refuse  hr9) (by decide) rfl rfl (by decide) rfl (Nat.le_of_ble_eq_true rfl) (List.Perm.refl _) (fun _ => List.Perm.refl _) rfl (fun r_3 hr_4 => ?_)
  show zJ X 3 res _ 28 [(0, (.ref (qX 0)))] [(.int r_3.1)] [(4, qX, r_3.2), (0, qL, sL), (2, qP, sP)]
  exact z_ireturn (pc := 28) C hR dX4_pin_28 (fun h => by subst h; exact ⟨rfl, rfl⟩)
def fX4_pin (F : Nat) (x1 : Int32) (x2 : Int32) (sX : zOS) (sL : zOS) (sP : zOS) : Option (Int32 × zOS × zOS) := (Option.bind (fX4_isWithin x1 (zF sP 4)) (fun r_1 : Int32 => (if r_1 = 0 then (jX4_pin_22 F sX sL) else (Option.bind (fX4_isWithin x2 (4 : Int32)) (fun r_5 : Int32 => (if r_5 = 0 then (jX4_pin_22 F sX sL) else (if x2 = (3 : Int32) then (Option.bind (fX4_readLayout F sL sP) (fun r_7 : zOS => (Option.bind (fX0_pinNode F x1 r_7 sP) (fun r_9 : Int32 => (some (r_9, sX, r_7)))))) else (zchk (((3 : Int32) * x1) + x2) 18 (some (zI sP 3 (((3 : Int32) * x1) + x2).toNatClampNeg, sX, sL))))))))))
set_option maxRecDepth 20000 in
theorem wX4_pin {X : zCx} {res : Int32 × zOS × zOS} {F : Nat} {qX : Nat → Nat} {qL : Nat → Nat} {qP : Nat → Nat} {x1 : Int32} {x2 : Int32} {sX : zOS} {sL : zOS} {sP : zOS} (C : zC X RX4 cX4_pin 3 6 132) (hR : zR X (some .int) (some (.int res.1)) [(4, qX, res.2.1), (0, qL, res.2.2), (2, qP, sP)]) (hX50 : qX 50 = qP 0) (hX52 : qX 52 = qL 0) : zJ X 3 res (fX4_pin F x1 x2 sX sL sP) 0 [(0, (.ref (qX 0))), (1, (.int x1)), (2, (.int x2))] [] [(4, qX, sX), (0, qL, sL), (2, qP, sP)] := by
  unfold fX4_pin
  refine z_iload_n (pc := 0) 1 rfl rfl C dX4_pin_0 ?_
  refine z_aload_n (pc := 1) 0 rfl rfl C dX4_pin_1 ?_
  refine z_getE (pc := 2) 0 1 50 (qP 0) hX50 C dX4_pin_2 rfl (by decide) (by decide) rfl zw_262 ?_
  refine z_getI (pc := 5) 2 4 C dX4_pin_5 rfl (by decide) (by decide) rfl zw_121 ?_
  refine z_callS (pc := 8) (rf' := 0) (rl' := 0) (fX4_isWithin x1 (zF sP 4)) [(.int x1), (.int (zF sP 4))] [] [] (fun r_1 => (some (.int r_1))) (fun r_1 => []) [(4, qX, sX), (0, qL, sL), (2, qP, sP)] (fun r_1 => [(4, qX, sX), (0, qL, sL), (2, qP, sP)]) C dX4_pin_8 zy_X4_isWithin zw_313 (fun _ hr9 => mX4_isWithin  hr9) (by decide) rfl (Nat.le_of_ble_eq_true rfl) (List.Perm.refl _) (fun _ => List.Perm.refl _) rfl (fun r_1 hr_2 => ?_)
  show zJ X 3 res _ 11 [(0, (.ref (qX 0))), (1, (.int x1)), (2, (.int x2))] [(.int r_1)] [(4, qX, sX), (0, qL, sL), (2, qP, sP)]
  refine z_if_eq (pc := 11) 22 C dX4_pin_11 (by decide) ?_ ?_
  · refine z_lv [(0, (.ref (qX 0)))] [0] rfl ?_
    exact wX4_pin_22 C hR hX50 hX52  _ _
  · refine z_iload_n (pc := 14) 2 rfl rfl C dX4_pin_14 ?_
    refine z_iconst (pc := 15) (4 : Int32) (by decide) C dX4_pin_15 ?_
    refine z_callS (pc := 16) (rf' := 0) (rl' := 0) (fX4_isWithin x2 (4 : Int32)) [(.int x2), (.int (4 : Int32))] [] [] (fun r_5 => (some (.int r_5))) (fun r_5 => []) [(4, qX, sX), (0, qL, sL), (2, qP, sP)] (fun r_5 => [(4, qX, sX), (0, qL, sL), (2, qP, sP)]) C dX4_pin_16 zy_X4_isWithin zw_313 (fun _ hr9 => mX4_isWithin  hr9) (by decide) rfl (Nat.le_of_ble_eq_true rfl) (List.Perm.refl _) (fun _ => List.Perm.refl _) rfl (fun r_5 hr_6 => ?_)
    show zJ X 3 res _ 19 [(0, (.ref (qX 0))), (1, (.int x1)), (2, (.int x2))] [(.int r_5)] [(4, qX, sX), (0, qL, sL), (2, qP, sP)]
    refine z_if_ne (pc := 19) 29 C dX4_pin_19 (by decide) ?_ ?_
    · refine z_lv [(0, (.ref (qX 0)))] [0] rfl ?_
      exact wX4_pin_22 C hR hX50 hX52  _ _
    · refine z_iload_n (pc := 29) 2 rfl rfl C dX4_pin_29 ?_
      refine z_iconst (pc := 30) (3 : Int32) (by decide) C dX4_pin_30 ?_
      refine z_icmp_ne (pc := 31) 49 C dX4_pin_31 (by decide) ?_ ?_
      · refine z_aload_n (pc := 34) 0 rfl rfl C dX4_pin_34 ?_
        refine z_callV (pc := 35) (rf' := 5) (rl' := 112) (fX4_readLayout F sL sP) [] [] [(4, qX, sX), (0, qL, sL), (2, qP, sP)] (fun r_7 => (some (.ref (qL 0)))) (fun r_7 => [(4, qX, sX), (0, qL, r_7), (2, qP, sP)]) [] (fun r_7 => [(4, qX, sX), (0, qL, r_7), (2, qP, sP)]) C dX4_pin_35 zy_X4_readLayout zw_399 (fun _ hr9 => mX4_readLayout hX50 hX52 hr9) (by decide) rfl rfl (by decide) rfl (Nat.le_of_ble_eq_true rfl) (List.Perm.refl _) (fun _ => List.Perm.refl _) rfl (fun r_7 hr_8 => ?_)
        show zJ X 3 res _ 38 [(0, (.ref (qX 0))), (1, (.int x1)), (2, (.int x2))] [(.ref (qL 0))] [(4, qX, sX), (0, qL, r_7), (2, qP, sP)]
        refine z_aload_n (pc := 38) 0 rfl rfl C dX4_pin_38 ?_
        refine z_getE (pc := 39) 0 1 50 (qP 0) hX50 C dX4_pin_39 rfl (by decide) (by decide) rfl zw_262 ?_
        refine z_iload_n (pc := 42) 1 rfl rfl C dX4_pin_42 ?_
        refine z_callV (pc := 43) (rf' := 2) (rl' := 42) (fX0_pinNode F x1 r_7 sP) [(.ref (qP 0)), (.int x1)] [] [(0, qL, r_7), (2, qP, sP)] (fun r_9 => (some (.int r_9))) (fun r_9 => [(0, qL, r_7), (2, qP, sP)]) [(4, qX, sX)] (fun r_9 => [(4, qX, sX), (0, qL, r_7), (2, qP, sP)]) C dX4_pin_43 zy_X0_pinNode zw_635 (fun _ hr9 => mX0_pinNode  hr9) (by decide) rfl rfl (by decide) rfl (Nat.le_of_ble_eq_true rfl) (z_pn 3 _ rfl [1, 2, 0] (by decide)).symm (fun _ => (z_pn 3 _ rfl [2, 0, 1] (by decide)).symm) rfl (fun r_9 hr_10 => ?_)
        show zJ X 3 res _ 46 [(0, (.ref (qX 0))), (1, (.int x1)), (2, (.int x2))] [(.int r_9)] [(4, qX, sX), (0, qL, r_7), (2, qP, sP)]
        refine z_goto (pc := 46) 62 C dX4_pin_46 (by decide) ?_
        exact z_ireturn (pc := 62) C hR dX4_pin_62 (fun h => by subst h; exact ⟨rfl, rfl⟩)
      · refine z_aload_n (pc := 49) 0 rfl rfl C dX4_pin_49 ?_
        refine z_getE (pc := 50) 0 1 50 (qP 0) hX50 C dX4_pin_50 rfl (by decide) (by decide) rfl zw_262 ?_
        refine z_getR (pc := 53) 2 2 3 C dX4_pin_53 rfl (by decide) (by decide) rfl zw_114 ?_
        refine z_iconst (pc := 56) (3 : Int32) (by decide) C dX4_pin_56 ?_
        refine z_iload_n (pc := 57) 1 rfl rfl C dX4_pin_57 ?_
        refine z_imul (pc := 58) C dX4_pin_58 ?_
        refine z_iload_n (pc := 59) 2 rfl rfl C dX4_pin_59 ?_
        refine z_iadd (pc := 60) C dX4_pin_60 ?_
        refine z_iald (pc := 61) 2 C dX4_pin_61 rfl (by unfold zAr; decide) ?_
        exact z_ireturn (pc := 62) C hR dX4_pin_62 (fun h => by subst h; exact ⟨rfl, rfl⟩)
theorem mX4_pin {F : Nat} {qX : Nat → Nat} {qL : Nat → Nat} {qP : Nat → Nat} {x1 : Int32} {x2 : Int32} {sX : zOS} {sL : zOS} {sP : zOS} {res : Int32 × zOS × zOS} (hX50 : qX 50 = qP 0) (hX52 : qX 52 = qL 0) (hf : fX4_pin F x1 x2 sX sL sP = some res) : zM yX4_pin cX4_pin 3 (some .int) 6 132 [(.ref (qX 0)), (.int x1), (.int x2)] [(4, qX, sX), (0, qL, sL), (2, qP, sP)] (some (.int res.1)) [(4, qX, res.2.1), (0, qL, res.2.2), (2, qP, sP)] := zM_of (by decide +kernel) (Nat.le_of_ble_eq_true rfl) (fun X C hR => wX4_pin (F := F) C hR hX50 hX52 hf)
theorem dX4_hangs_0 : decode cX4_hangs 0 = .ok (.iload_n 1, 1) := by decide +kernel
theorem dX4_hangs_1 : decode cX4_hangs 1 = .ok (.bipush 10, 2) := by decide +kernel
theorem dX4_hangs_3 : decode cX4_hangs 3 = .ok (.invokestatic 86, 3) := by decide +kernel
theorem dX4_hangs_6 : decode cX4_hangs 6 = .ok (.ifCond .eq 14, 3) := by decide +kernel
theorem dX4_hangs_9 : decode cX4_hangs 9 = .ok (.aload_n 0, 1) := by decide +kernel
theorem dX4_hangs_10 : decode cX4_hangs 10 = .ok (.getfield 20, 3) := by decide +kernel
theorem dX4_hangs_13 : decode cX4_hangs 13 = .ok (.iload_n 1, 1) := by decide +kernel
theorem dX4_hangs_14 : decode cX4_hangs 14 = .ok (.invokevirtual 179, 3) := by decide +kernel
theorem dX4_hangs_17 : decode cX4_hangs 17 = .ok (.goto 9, 3) := by decide +kernel
theorem dX4_hangs_20 : decode cX4_hangs 20 = .ok (.aload_n 0, 1) := by decide +kernel
theorem dX4_hangs_21 : decode cX4_hangs 21 = .ok (.bipush (-2), 2) := by decide +kernel
theorem dX4_hangs_23 : decode cX4_hangs 23 = .ok (.invokevirtual 93, 3) := by decide +kernel
theorem dX4_hangs_26 : decode cX4_hangs 26 = .ok (.ireturn, 1) := by decide +kernel
def fX4_hangs (F : Nat) (x1 : Int32) (sX : zOS) (sP : zOS) : Option (Int32 × zOS) := (Option.bind (fX4_isWithin x1 (10 : Int32)) (fun r_1 : Int32 => (if r_1 = 0 then (Option.bind (fX4_refuse (-2 : Int32) sX) (fun r_3 : Int32 × zOS => (some (r_3.1, r_3.2)))) else (Option.bind (fX2_hangOf F x1 sP) (fun r_5 : Int32 => (some (r_5, sX)))))))
set_option maxRecDepth 20000 in
theorem wX4_hangs {X : zCx} {res : Int32 × zOS} {F : Nat} {qX : Nat → Nat} {qP : Nat → Nat} {x1 : Int32} {sX : zOS} {sP : zOS} (C : zC X RX4 cX4_hangs 2 2 44) (hR : zR X (some .int) (some (.int res.1)) [(4, qX, res.2), (2, qP, sP)]) (hX50 : qX 50 = qP 0) : zJ X 2 res (fX4_hangs F x1 sX sP) 0 [(0, (.ref (qX 0))), (1, (.int x1))] [] [(4, qX, sX), (2, qP, sP)] := by
  unfold fX4_hangs
  refine z_iload_n (pc := 0) 1 rfl rfl C dX4_hangs_0 ?_
  refine z_bipush (pc := 1) (10 : Int32) (by decide) C dX4_hangs_1 ?_
  refine z_callS (pc := 3) (rf' := 0) (rl' := 0) (fX4_isWithin x1 (10 : Int32)) [(.int x1), (.int (10 : Int32))] [] [] (fun r_1 => (some (.int r_1))) (fun r_1 => []) [(4, qX, sX), (2, qP, sP)] (fun r_1 => [(4, qX, sX), (2, qP, sP)]) C dX4_hangs_3 zy_X4_isWithin zw_313 (fun _ hr9 => mX4_isWithin  hr9) (by decide) rfl (Nat.le_of_ble_eq_true rfl) (List.Perm.refl _) (fun _ => List.Perm.refl _) rfl (fun r_1 hr_2 => ?_)
  show zJ X 2 res _ 6 [(0, (.ref (qX 0))), (1, (.int x1))] [(.int r_1)] [(4, qX, sX), (2, qP, sP)]
  refine z_if_eq (pc := 6) 20 C dX4_hangs_6 (by decide) ?_ ?_
  · refine z_aload_n (pc := 20) 0 rfl rfl C dX4_hangs_20 ?_
    refine z_bipush (pc := 21) (-2 : Int32) (by decide) C dX4_hangs_21 ?_
    refine z_callV (pc := 23) (rf' := 1) (rl' := 21) (fX4_refuse (-2 : Int32) sX) [(.int (-2 : Int32))] [] [(4, qX, sX)] (fun r_3 => (some (.int r_3.1))) (fun r_3 => [(4, qX, r_3.2)]) [(2, qP, sP)] (fun r_3 => [(4, qX, r_3.2), (2, qP, sP)]) C dX4_hangs_23 zy_X4_refuse zw_328 (fun _ hr9 => mX4_refuse  hr9) (by decide) rfl rfl (by decide) rfl (Nat.le_of_ble_eq_true rfl) (List.Perm.refl _) (fun _ => List.Perm.refl _) rfl (fun r_3 hr_4 => ?_)
    show zJ X 2 res _ 26 [(0, (.ref (qX 0))), (1, (.int x1))] [(.int r_3.1)] [(4, qX, r_3.2), (2, qP, sP)]
    exact z_ireturn (pc := 26) C hR dX4_hangs_26 (fun h => by subst h; exact ⟨rfl, rfl⟩)
  · refine z_aload_n (pc := 9) 0 rfl rfl C dX4_hangs_9 ?_
    refine z_getE (pc := 10) 0 1 50 (qP 0) hX50 C dX4_hangs_10 rfl (by decide) (by decide) rfl zw_262 ?_
    refine z_iload_n (pc := 13) 1 rfl rfl C dX4_hangs_13 ?_
    refine z_callV (pc := 14) (rf' := 1) (rl' := 21) (fX2_hangOf F x1 sP) [(.int x1)] [] [(2, qP, sP)] (fun r_5 => (some (.int r_5))) (fun r_5 => [(2, qP, sP)]) [(4, qX, sX)] (fun r_5 => [(4, qX, sX), (2, qP, sP)]) C dX4_hangs_14 zy_X2_hangOf zw_640 (fun _ hr9 => mX2_hangOf  hr9) (by decide) rfl rfl (by decide) rfl (Nat.le_of_ble_eq_true rfl) (z_pn 2 _ rfl [1, 0] (by decide)).symm (fun _ => (z_pn 2 _ rfl [1, 0] (by decide)).symm) rfl (fun r_5 hr_6 => ?_)
    show zJ X 2 res _ 17 [(0, (.ref (qX 0))), (1, (.int x1))] [(.int r_5)] [(4, qX, sX), (2, qP, sP)]
    refine z_goto (pc := 17) 26 C dX4_hangs_17 (by decide) ?_
    exact z_ireturn (pc := 26) C hR dX4_hangs_26 (fun h => by subst h; exact ⟨rfl, rfl⟩)
theorem mX4_hangs {F : Nat} {qX : Nat → Nat} {qP : Nat → Nat} {x1 : Int32} {sX : zOS} {sP : zOS} {res : Int32 × zOS} (hX50 : qX 50 = qP 0) (hf : fX4_hangs F x1 sX sP = some res) : zM yX4_hangs cX4_hangs 2 (some .int) 2 44 [(.ref (qX 0)), (.int x1)] [(4, qX, sX), (2, qP, sP)] (some (.int res.1)) [(4, qX, res.2), (2, qP, sP)] := zM_of (by decide +kernel) (Nat.le_of_ble_eq_true rfl) (fun X C hR => wX4_hangs (F := F) C hR hX50 hf)
theorem dX4_type_0 : decode cX4_type 0 = .ok (.aload_n 0, 1) := by decide +kernel
theorem dX4_type_1 : decode cX4_type 1 = .ok (.getfield 41, 3) := by decide +kernel
theorem dX4_type_4 : decode cX4_type 4 = .ok (.iload_n 1, 1) := by decide +kernel
theorem dX4_type_5 : decode cX4_type 5 = .ok (.invokevirtual 180, 3) := by decide +kernel
theorem dX4_type_8 : decode cX4_type 8 = .ok (.istore_n 2, 1) := by decide +kernel
theorem dX4_type_9 : decode cX4_type 9 = .ok (.iload_n 2, 1) := by decide +kernel
theorem dX4_type_10 : decode cX4_type 10 = .ok (.ifCond .ge 11, 3) := by decide +kernel
theorem dX4_type_13 : decode cX4_type 13 = .ok (.aload_n 0, 1) := by decide +kernel
theorem dX4_type_14 : decode cX4_type 14 = .ok (.iload_n 2, 1) := by decide +kernel
theorem dX4_type_15 : decode cX4_type 15 = .ok (.invokevirtual 93, 3) := by decide +kernel
theorem dX4_type_18 : decode cX4_type 18 = .ok (.goto 4, 3) := by decide +kernel
theorem dX4_type_21 : decode cX4_type 21 = .ok (.iload_n 2, 1) := by decide +kernel
theorem dX4_type_22 : decode cX4_type 22 = .ok (.ireturn, 1) := by decide +kernel
def fX4_type (x1 : Int32) (sX : zOS) (sT : zOS) : Option (Int32 × zOS × zOS) := (Option.bind (fX3_add x1 sT) (fun r_1 : Int32 × zOS => (zlet r_1.1 (fun x2_3 : Int32 => (if 0 ≤ x2_3 then (some (x2_3, sX, r_1.2)) else (Option.bind (fX4_refuse x2_3 sX) (fun r_4 : Int32 × zOS => (some (r_4.1, r_4.2, r_1.2)))))))))
set_option maxRecDepth 20000 in
theorem wX4_type {X : zCx} {res : Int32 × zOS × zOS}  {qX : Nat → Nat} {qT : Nat → Nat} {x1 : Int32} {sX : zOS} {sT : zOS} (C : zC X RX4 cX4_type 3 2 43) (hR : zR X (some .int) (some (.int res.1)) [(4, qX, res.2.1), (3, qT, res.2.2)]) (hX54 : qX 54 = qT 0) : zJ X 3 res (fX4_type x1 sX sT) 0 [(0, (.ref (qX 0))), (1, (.int x1))] [] [(4, qX, sX), (3, qT, sT)] := by
  unfold fX4_type
  refine z_aload_n (pc := 0) 0 rfl rfl C dX4_type_0 ?_
  refine z_getE (pc := 1) 0 5 54 (qT 0) hX54 C dX4_type_1 rfl (by decide) (by decide) rfl zw_266 ?_
  refine z_iload_n (pc := 4) 1 rfl rfl C dX4_type_4 ?_
  refine z_callV (pc := 5) (rf' := 0) (rl' := 0) (fX3_add x1 sT) [(.int x1)] [] [(3, qT, sT)] (fun r_1 => (some (.int r_1.1))) (fun r_1 => [(3, qT, r_1.2)]) [(4, qX, sX)] (fun r_1 => [(4, qX, sX), (3, qT, r_1.2)]) C dX4_type_5 zy_X3_add zw_645 (fun _ hr9 => mX3_add  hr9) (by decide) rfl rfl (by decide) rfl (Nat.le_of_ble_eq_true rfl) (z_pn 2 _ rfl [1, 0] (by decide)).symm (fun _ => (z_pn 2 _ rfl [1, 0] (by decide)).symm) rfl (fun r_1 hr_2 => ?_)
  show zJ X 3 res _ 8 [(0, (.ref (qX 0))), (1, (.int x1))] [(.int r_1.1)] [(4, qX, sX), (3, qT, r_1.2)]
  refine z_leti (fun x2_3 => ?_)
  refine z_istore_n (pc := 8) [(0, (.ref (qX 0))), (1, (.int x1)), (2, (.int x2_3))] [1, 2, 0] (by decide) rfl rfl C dX4_type_8 ?_
  refine z_iload_n (pc := 9) 2 rfl rfl C dX4_type_9 ?_
  refine z_if_ge (pc := 10) 21 C dX4_type_10 (by decide) ?_ ?_
  · refine z_iload_n (pc := 21) 2 rfl rfl C dX4_type_21 ?_
    exact z_ireturn (pc := 22) C hR dX4_type_22 (fun h => by subst h; exact ⟨rfl, rfl⟩)
  · refine z_aload_n (pc := 13) 0 rfl rfl C dX4_type_13 ?_
    refine z_iload_n (pc := 14) 2 rfl rfl C dX4_type_14 ?_
    refine z_callV (pc := 15) (rf' := 1) (rl' := 21) (fX4_refuse x2_3 sX) [(.int x2_3)] [] [(4, qX, sX)] (fun r_4 => (some (.int r_4.1))) (fun r_4 => [(4, qX, r_4.2)]) [(3, qT, r_1.2)] (fun r_4 => [(4, qX, r_4.2), (3, qT, r_1.2)]) C dX4_type_15 zy_X4_refuse zw_328 (fun _ hr9 => mX4_refuse  hr9) (by decide) rfl rfl (by decide) rfl (Nat.le_of_ble_eq_true rfl) (List.Perm.refl _) (fun _ => List.Perm.refl _) rfl (fun r_4 hr_5 => ?_)
    show zJ X 3 res _ 18 [(0, (.ref (qX 0))), (1, (.int x1)), (2, (.int x2_3))] [(.int r_4.1)] [(4, qX, r_4.2), (3, qT, r_1.2)]
    refine z_goto (pc := 18) 22 C dX4_type_18 (by decide) ?_
    exact z_ireturn (pc := 22) C hR dX4_type_22 (fun h => by subst h; exact ⟨rfl, rfl⟩)
theorem mX4_type  {qX : Nat → Nat} {qT : Nat → Nat} {x1 : Int32} {sX : zOS} {sT : zOS} {res : Int32 × zOS × zOS} (hX54 : qX 54 = qT 0) (hf : fX4_type x1 sX sT = some res) : zM yX4_type cX4_type 3 (some .int) 2 43 [(.ref (qX 0)), (.int x1)] [(4, qX, sX), (3, qT, sT)] (some (.int res.1)) [(4, qX, res.2.1), (3, qT, res.2.2)] := zM_of (by decide +kernel) (Nat.le_of_ble_eq_true rfl) (fun X C hR => wX4_type C hR hX54 hf)
theorem dX4_clear_0 : decode cX4_clear 0 = .ok (.aload_n 0, 1) := by decide +kernel
theorem dX4_clear_1 : decode cX4_clear 1 = .ok (.getfield 41, 3) := by decide +kernel
theorem dX4_clear_4 : decode cX4_clear 4 = .ok (.getfield 183, 3) := by decide +kernel
theorem dX4_clear_7 : decode cX4_clear 7 = .ok (.istore_n 1, 1) := by decide +kernel
theorem dX4_clear_8 : decode cX4_clear 8 = .ok (.aload_n 0, 1) := by decide +kernel
theorem dX4_clear_9 : decode cX4_clear 9 = .ok (.getfield 41, 3) := by decide +kernel
theorem dX4_clear_12 : decode cX4_clear 12 = .ok (.iconst 0, 1) := by decide +kernel
theorem dX4_clear_13 : decode cX4_clear 13 = .ok (.putfield 183, 3) := by decide +kernel
theorem dX4_clear_16 : decode cX4_clear 16 = .ok (.iload_n 1, 1) := by decide +kernel
theorem dX4_clear_17 : decode cX4_clear 17 = .ok (.ireturn, 1) := by decide +kernel
def fX4_clear (sT : zOS) : Option (Int32 × zOS) := (zlet (zF sT 2) (fun x1_1 : Int32 => (zlet (zsF sT 2 (0 : Int32)) (fun sT_2 : zOS => (some (x1_1, sT_2))))))
set_option maxRecDepth 20000 in
theorem wX4_clear {X : zCx} {res : Int32 × zOS}  {qX : Nat → Nat} {qT : Nat → Nat} {sX : zOS} {sT : zOS} (C : zC X RX4 cX4_clear 2 0 0) (hR : zR X (some .int) (some (.int res.1)) [(4, qX, sX), (3, qT, res.2)]) (hX54 : qX 54 = qT 0) : zJ X 2 res (fX4_clear sT) 0 [(0, (.ref (qX 0)))] [] [(4, qX, sX), (3, qT, sT)] := by
  unfold fX4_clear
  refine z_aload_n (pc := 0) 0 rfl rfl C dX4_clear_0 ?_
  refine z_getE (pc := 1) 0 5 54 (qT 0) hX54 C dX4_clear_1 rfl (by decide) (by decide) rfl zw_266 ?_
  refine z_getI (pc := 4) 1 2 C dX4_clear_4 rfl (by decide) (by decide) rfl zw_252 ?_
  refine z_leti (fun x1_1 => ?_)
  refine z_istore_n (pc := 7) [(0, (.ref (qX 0))), (1, (.int x1_1))] [1, 0] (by decide) rfl rfl C dX4_clear_7 ?_
  refine z_aload_n (pc := 8) 0 rfl rfl C dX4_clear_8 ?_
  refine z_getE (pc := 9) 0 5 54 (qT 0) hX54 C dX4_clear_9 rfl (by decide) (by decide) rfl zw_266 ?_
  refine z_iconst (pc := 12) (0 : Int32) (by decide) C dX4_clear_12 ?_
  refine z_putI (pc := 13) 1 2 C dX4_clear_13 rfl (by decide) (by decide) rfl zw_252 rfl rfl rfl [(4, qX, sX), (3, qT, (zsF sT 2 (0 : Int32)))] rfl ?_
  refine z_letc (fun z9 => [(4, qX, sX), (3, qT, z9)]) (fun sT_2 => ?_)
  refine z_iload_n (pc := 16) 1 rfl rfl C dX4_clear_16 ?_
  exact z_ireturn (pc := 17) C hR dX4_clear_17 (fun h => by subst h; exact ⟨rfl, rfl⟩)
theorem mX4_clear  {qX : Nat → Nat} {qT : Nat → Nat} {sX : zOS} {sT : zOS} {res : Int32 × zOS} (hX54 : qX 54 = qT 0) (hf : fX4_clear sT = some res) : zM yX4_clear cX4_clear 2 (some .int) 0 0 [(.ref (qX 0))] [(4, qX, sX), (3, qT, sT)] (some (.int res.1)) [(4, qX, sX), (3, qT, res.2)] := zM_of (by decide +kernel) (Nat.le_of_ble_eq_true rfl) (fun X C hR => wX4_clear C hR hX54 hf)
theorem dX4_told_0 : decode cX4_told 0 = .ok (.iload_n 1, 1) := by decide +kernel
theorem dX4_told_1 : decode cX4_told 1 = .ok (.tableswitch 69 0 4 #[35, 42, 49, 56, 64], 35) := by decide +kernel
theorem dX4_told_36 : decode cX4_told 36 = .ok (.aload_n 0, 1) := by decide +kernel
theorem dX4_told_37 : decode cX4_told 37 = .ok (.getfield 45, 3) := by decide +kernel
theorem dX4_told_40 : decode cX4_told 40 = .ok (.iconst 0, 1) := by decide +kernel
theorem dX4_told_41 : decode cX4_told 41 = .ok (.iaload, 1) := by decide +kernel
theorem dX4_told_42 : decode cX4_told 42 = .ok (.ireturn, 1) := by decide +kernel
theorem dX4_told_43 : decode cX4_told 43 = .ok (.aload_n 0, 1) := by decide +kernel
theorem dX4_told_44 : decode cX4_told 44 = .ok (.getfield 45, 3) := by decide +kernel
theorem dX4_told_47 : decode cX4_told 47 = .ok (.iconst 1, 1) := by decide +kernel
theorem dX4_told_48 : decode cX4_told 48 = .ok (.iaload, 1) := by decide +kernel
theorem dX4_told_49 : decode cX4_told 49 = .ok (.ireturn, 1) := by decide +kernel
theorem dX4_told_50 : decode cX4_told 50 = .ok (.aload_n 0, 1) := by decide +kernel
theorem dX4_told_51 : decode cX4_told 51 = .ok (.getfield 45, 3) := by decide +kernel
theorem dX4_told_54 : decode cX4_told 54 = .ok (.iconst 2, 1) := by decide +kernel
theorem dX4_told_55 : decode cX4_told 55 = .ok (.iaload, 1) := by decide +kernel
theorem dX4_told_56 : decode cX4_told 56 = .ok (.ireturn, 1) := by decide +kernel
theorem dX4_told_57 : decode cX4_told 57 = .ok (.aload_n 0, 1) := by decide +kernel
theorem dX4_told_58 : decode cX4_told 58 = .ok (.getfield 41, 3) := by decide +kernel
theorem dX4_told_61 : decode cX4_told 61 = .ok (.getfield 183, 3) := by decide +kernel
theorem dX4_told_64 : decode cX4_told 64 = .ok (.ireturn, 1) := by decide +kernel
theorem dX4_told_65 : decode cX4_told 65 = .ok (.aload_n 0, 1) := by decide +kernel
theorem dX4_told_66 : decode cX4_told 66 = .ok (.getfield 49, 3) := by decide +kernel
theorem dX4_told_69 : decode cX4_told 69 = .ok (.ireturn, 1) := by decide +kernel
theorem dX4_told_70 : decode cX4_told 70 = .ok (.aload_n 0, 1) := by decide +kernel
theorem dX4_told_71 : decode cX4_told 71 = .ok (.bipush (-2), 2) := by decide +kernel
theorem dX4_told_73 : decode cX4_told 73 = .ok (.invokevirtual 93, 3) := by decide +kernel
theorem dX4_told_76 : decode cX4_told 76 = .ok (.ireturn, 1) := by decide +kernel
def fX4_told (x1 : Int32) (sX : zOS) (sT : zOS) : Option (Int32 × zOS) := (if x1 = (0 : Int32) then (zchk (0 : Int32) 3 (some (zI sX 2 (0 : Int32).toNatClampNeg, sX))) else (if x1 = (1 : Int32) then (zchk (1 : Int32) 3 (some (zI sX 2 (1 : Int32).toNatClampNeg, sX))) else (if x1 = (2 : Int32) then (zchk (2 : Int32) 3 (some (zI sX 2 (2 : Int32).toNatClampNeg, sX))) else (if x1 = (3 : Int32) then (some (zF sT 2, sX)) else (if x1 = (4 : Int32) then (some (zF sX 7, sX)) else (Option.bind (fX4_refuse (-2 : Int32) sX) (fun r_6 : Int32 × zOS => (some (r_6.1, r_6.2)))))))))
set_option maxRecDepth 20000 in
theorem wX4_told {X : zCx} {res : Int32 × zOS}  {qX : Nat → Nat} {qT : Nat → Nat} {x1 : Int32} {sX : zOS} {sT : zOS} (C : zC X RX4 cX4_told 2 2 43) (hR : zR X (some .int) (some (.int res.1)) [(4, qX, res.2), (3, qT, sT)]) (hX54 : qX 54 = qT 0) : zJ X 2 res (fX4_told x1 sX sT) 0 [(0, (.ref (qX 0))), (1, (.int x1))] [] [(4, qX, sX), (3, qT, sT)] := by
  unfold fX4_told
  refine z_iload_n (pc := 0) 1 rfl rfl C dX4_told_0 ?_
  refine z_if (fun hx_1 => ?_) (fun hx_1 => ?_)
  · refine z_tin (pc := 1) (0 : Int32) 36 hx_1 C dX4_told_1 (by decide) (by decide) rfl (by decide) ?_
    refine z_aload_n (pc := 36) 0 rfl rfl C dX4_told_36 ?_
    refine z_getR (pc := 37) 0 6 2 C dX4_told_37 rfl (by decide) (by decide) rfl zw_267 ?_
    refine z_iconst (pc := 40) (0 : Int32) (by decide) C dX4_told_40 ?_
    refine z_iald (pc := 41) 0 C dX4_told_41 rfl (by unfold zAr; decide) ?_
    exact z_ireturn (pc := 42) C hR dX4_told_42 (fun h => by subst h; exact ⟨rfl, rfl⟩)
  · refine z_if (fun hx_2 => ?_) (fun hx_2 => ?_)
    · refine z_tin (pc := 1) (1 : Int32) 43 hx_2 C dX4_told_1 (by decide) (by decide) rfl (by decide) ?_
      refine z_aload_n (pc := 43) 0 rfl rfl C dX4_told_43 ?_
      refine z_getR (pc := 44) 0 6 2 C dX4_told_44 rfl (by decide) (by decide) rfl zw_267 ?_
      refine z_iconst (pc := 47) (1 : Int32) (by decide) C dX4_told_47 ?_
      refine z_iald (pc := 48) 0 C dX4_told_48 rfl (by unfold zAr; decide) ?_
      exact z_ireturn (pc := 49) C hR dX4_told_49 (fun h => by subst h; exact ⟨rfl, rfl⟩)
    · refine z_if (fun hx_3 => ?_) (fun hx_3 => ?_)
      · refine z_tin (pc := 1) (2 : Int32) 50 hx_3 C dX4_told_1 (by decide) (by decide) rfl (by decide) ?_
        refine z_aload_n (pc := 50) 0 rfl rfl C dX4_told_50 ?_
        refine z_getR (pc := 51) 0 6 2 C dX4_told_51 rfl (by decide) (by decide) rfl zw_267 ?_
        refine z_iconst (pc := 54) (2 : Int32) (by decide) C dX4_told_54 ?_
        refine z_iald (pc := 55) 0 C dX4_told_55 rfl (by unfold zAr; decide) ?_
        exact z_ireturn (pc := 56) C hR dX4_told_56 (fun h => by subst h; exact ⟨rfl, rfl⟩)
      · refine z_if (fun hx_4 => ?_) (fun hx_4 => ?_)
        · refine z_tin (pc := 1) (3 : Int32) 57 hx_4 C dX4_told_1 (by decide) (by decide) rfl (by decide) ?_
          refine z_aload_n (pc := 57) 0 rfl rfl C dX4_told_57 ?_
          refine z_getE (pc := 58) 0 5 54 (qT 0) hX54 C dX4_told_58 rfl (by decide) (by decide) rfl zw_266 ?_
          refine z_getI (pc := 61) 1 2 C dX4_told_61 rfl (by decide) (by decide) rfl zw_252 ?_
          exact z_ireturn (pc := 64) C hR dX4_told_64 (fun h => by subst h; exact ⟨rfl, rfl⟩)
        · refine z_if (fun hx_5 => ?_) (fun hx_5 => ?_)
          · refine z_tin (pc := 1) (4 : Int32) 65 hx_5 C dX4_told_1 (by decide) (by decide) rfl (by decide) ?_
            refine z_aload_n (pc := 65) 0 rfl rfl C dX4_told_65 ?_
            refine z_getI (pc := 66) 0 7 C dX4_told_66 rfl (by decide) (by decide) rfl zw_268 ?_
            exact z_ireturn (pc := 69) C hR dX4_told_69 (fun h => by subst h; exact ⟨rfl, rfl⟩)
          · refine z_tdef (pc := 1) [(0 : Int32), (1 : Int32), (2 : Int32), (3 : Int32), (4 : Int32)] 70 (by intro v hv; simp only [List.mem_cons, List.not_mem_nil, or_false] at hv; rcases hv with rfl | rfl | rfl | rfl | rfl <;> assumption) C dX4_told_1 (by decide) (by decide) ?_
            refine z_aload_n (pc := 70) 0 rfl rfl C dX4_told_70 ?_
            refine z_bipush (pc := 71) (-2 : Int32) (by decide) C dX4_told_71 ?_
            refine z_callV (pc := 73) (rf' := 1) (rl' := 21) (fX4_refuse (-2 : Int32) sX) [(.int (-2 : Int32))] [] [(4, qX, sX)] (fun r_6 => (some (.int r_6.1))) (fun r_6 => [(4, qX, r_6.2)]) [(3, qT, sT)] (fun r_6 => [(4, qX, r_6.2), (3, qT, sT)]) C dX4_told_73 zy_X4_refuse zw_328 (fun _ hr9 => mX4_refuse  hr9) (by decide) rfl rfl (by decide) rfl (Nat.le_of_ble_eq_true rfl) (List.Perm.refl _) (fun _ => List.Perm.refl _) rfl (fun r_6 hr_7 => ?_)
            show zJ X 2 res _ 76 [(0, (.ref (qX 0))), (1, (.int x1))] [(.int r_6.1)] [(4, qX, r_6.2), (3, qT, sT)]
            exact z_ireturn (pc := 76) C hR dX4_told_76 (fun h => by subst h; exact ⟨rfl, rfl⟩)
theorem mX4_told  {qX : Nat → Nat} {qT : Nat → Nat} {x1 : Int32} {sX : zOS} {sT : zOS} {res : Int32 × zOS} (hX54 : qX 54 = qT 0) (hf : fX4_told x1 sX sT = some res) : zM yX4_told cX4_told 2 (some .int) 2 43 [(.ref (qX 0)), (.int x1)] [(4, qX, sX), (3, qT, sT)] (some (.int res.1)) [(4, qX, res.2), (3, qT, sT)] := zM_of (by decide +kernel) (Nat.le_of_ble_eq_true rfl) (fun X C hR => wX4_told C hR hX54 hf)
theorem dX4_digest_0 : decode cX4_digest 0 = .ok (.ldc2_w 192, 3) := by decide +kernel
theorem dX4_digest_3 : decode cX4_digest 3 = .ok (.lstore_n 1, 1) := by decide +kernel
theorem dX4_digest_4 : decode cX4_digest 4 = .ok (.iconst 0, 1) := by decide +kernel
theorem dX4_digest_5 : decode cX4_digest 5 = .ok (.istore_n 3, 1) := by decide +kernel
theorem dX4_digest_6 : decode cX4_digest 6 = .ok (.iload_n 3, 1) := by decide +kernel
theorem dX4_digest_7 : decode cX4_digest 7 = .ok (.iconst 4, 1) := by decide +kernel
theorem dX4_digest_8 : decode cX4_digest 8 = .ok (.if_icmp .gt 22, 3) := by decide +kernel
theorem dX4_digest_11 : decode cX4_digest 11 = .ok (.ldc2_w 194, 3) := by decide +kernel
theorem dX4_digest_14 : decode cX4_digest 14 = .ok (.lload_n 1, 1) := by decide +kernel
theorem dX4_digest_15 : decode cX4_digest 15 = .ok (.lmul, 1) := by decide +kernel
theorem dX4_digest_16 : decode cX4_digest 16 = .ok (.aload_n 0, 1) := by decide +kernel
theorem dX4_digest_17 : decode cX4_digest 17 = .ok (.iload_n 3, 1) := by decide +kernel
theorem dX4_digest_18 : decode cX4_digest 18 = .ok (.invokevirtual 196, 3) := by decide +kernel
theorem dX4_digest_21 : decode cX4_digest 21 = .ok (.i2l, 1) := by decide +kernel
theorem dX4_digest_22 : decode cX4_digest 22 = .ok (.ladd, 1) := by decide +kernel
theorem dX4_digest_23 : decode cX4_digest 23 = .ok (.lstore_n 1, 1) := by decide +kernel
theorem dX4_digest_24 : decode cX4_digest 24 = .ok (.iinc 3 1, 3) := by decide +kernel
theorem dX4_digest_27 : decode cX4_digest 27 = .ok (.goto (-21), 3) := by decide +kernel
theorem dX4_digest_30 : decode cX4_digest 30 = .ok (.iconst 0, 1) := by decide +kernel
theorem dX4_digest_31 : decode cX4_digest 31 = .ok (.istore_n 3, 1) := by decide +kernel
theorem dX4_digest_32 : decode cX4_digest 32 = .ok (.iload_n 3, 1) := by decide +kernel
theorem dX4_digest_33 : decode cX4_digest 33 = .ok (.bipush 8, 2) := by decide +kernel
theorem dX4_digest_35 : decode cX4_digest 35 = .ok (.if_icmp .gt 22, 3) := by decide +kernel
theorem dX4_digest_38 : decode cX4_digest 38 = .ok (.ldc2_w 194, 3) := by decide +kernel
theorem dX4_digest_41 : decode cX4_digest 41 = .ok (.lload_n 1, 1) := by decide +kernel
theorem dX4_digest_42 : decode cX4_digest 42 = .ok (.lmul, 1) := by decide +kernel
theorem dX4_digest_43 : decode cX4_digest 43 = .ok (.aload_n 0, 1) := by decide +kernel
theorem dX4_digest_44 : decode cX4_digest 44 = .ok (.iload_n 3, 1) := by decide +kernel
theorem dX4_digest_45 : decode cX4_digest 45 = .ok (.invokevirtual 199, 3) := by decide +kernel
theorem dX4_digest_48 : decode cX4_digest 48 = .ok (.i2l, 1) := by decide +kernel
theorem dX4_digest_49 : decode cX4_digest 49 = .ok (.ladd, 1) := by decide +kernel
theorem dX4_digest_50 : decode cX4_digest 50 = .ok (.lstore_n 1, 1) := by decide +kernel
theorem dX4_digest_51 : decode cX4_digest 51 = .ok (.iinc 3 1, 3) := by decide +kernel
theorem dX4_digest_54 : decode cX4_digest 54 = .ok (.goto (-22), 3) := by decide +kernel
theorem dX4_digest_57 : decode cX4_digest 57 = .ok (.iconst 0, 1) := by decide +kernel
theorem dX4_digest_58 : decode cX4_digest 58 = .ok (.istore_n 3, 1) := by decide +kernel
theorem dX4_digest_59 : decode cX4_digest 59 = .ok (.iload_n 3, 1) := by decide +kernel
theorem dX4_digest_60 : decode cX4_digest 60 = .ok (.iconst 4, 1) := by decide +kernel
theorem dX4_digest_61 : decode cX4_digest 61 = .ok (.if_icmp .ge 25, 3) := by decide +kernel
theorem dX4_digest_64 : decode cX4_digest 64 = .ok (.ldc2_w 194, 3) := by decide +kernel
theorem dX4_digest_67 : decode cX4_digest 67 = .ok (.lload_n 1, 1) := by decide +kernel
theorem dX4_digest_68 : decode cX4_digest 68 = .ok (.lmul, 1) := by decide +kernel
theorem dX4_digest_69 : decode cX4_digest 69 = .ok (.aload_n 0, 1) := by decide +kernel
theorem dX4_digest_70 : decode cX4_digest 70 = .ok (.getfield 20, 3) := by decide +kernel
theorem dX4_digest_73 : decode cX4_digest 73 = .ok (.getfield 96, 3) := by decide +kernel
theorem dX4_digest_76 : decode cX4_digest 76 = .ok (.iload_n 3, 1) := by decide +kernel
theorem dX4_digest_77 : decode cX4_digest 77 = .ok (.laload, 1) := by decide +kernel
theorem dX4_digest_78 : decode cX4_digest 78 = .ok (.ladd, 1) := by decide +kernel
theorem dX4_digest_79 : decode cX4_digest 79 = .ok (.lstore_n 1, 1) := by decide +kernel
theorem dX4_digest_80 : decode cX4_digest 80 = .ok (.iinc 3 1, 3) := by decide +kernel
theorem dX4_digest_83 : decode cX4_digest 83 = .ok (.goto (-24), 3) := by decide +kernel
theorem dX4_digest_86 : decode cX4_digest 86 = .ok (.aload_n 0, 1) := by decide +kernel
theorem dX4_digest_87 : decode cX4_digest 87 = .ok (.invokevirtual 139, 3) := by decide +kernel
theorem dX4_digest_90 : decode cX4_digest 90 = .ok (.aload_n 0, 1) := by decide +kernel
theorem dX4_digest_91 : decode cX4_digest 91 = .ok (.invokevirtual 104, 3) := by decide +kernel
theorem dX4_digest_94 : decode cX4_digest 94 = .ok (.lload_n 1, 1) := by decide +kernel
theorem dX4_digest_95 : decode cX4_digest 95 = .ok (.invokevirtual 202, 3) := by decide +kernel
theorem dX4_digest_98 : decode cX4_digest 98 = .ok (.invokevirtual 206, 3) := by decide +kernel
theorem dX4_digest_101 : decode cX4_digest 101 = .ok (.lreturn, 1) := by decide +kernel
def bX4_digest_59 (F : Nat) (sX : zOS) (sM : zOS) (sP : zOS) (sL : zOS) (kc_59 : (Int64 × Int32) → Option (Int64 × zOS × zOS × zOS × zOS)) (x1 : Int64) (x3 : Int32) : Option (Int64 × zOS × zOS × zOS × zOS) := (if (4 : Int32) ≤ x3 then (Option.bind (fX4_search F sX sM sP sL) (fun r_1 : zOS × zOS × zOS × zOS => (Option.bind (fX4_readLayout F r_1.2.2.2 r_1.2.2.1) (fun r_3 : zOS => (Option.bind (fX0_mixInto F x1 r_3) (fun r_5 : Int64 => (Option.bind (fX1_mixInto F r_5 r_1.2.1 r_1.2.2.1) (fun r_7 : Int64 => (some (r_7, r_1.1, r_1.2.1, r_1.2.2.1, r_3)))))))))) else (zchk x3 4 (zlet (((31 : Int64) * x1) + (zL sP 1 x3.toNatClampNeg)) (fun x1_9 : Int64 => (kc_59 (x1_9, (x3 + 1)))))))
set_option maxRecDepth 20000 in
theorem vX4_digest_59 {X : zCx} {res : Int64 × zOS × zOS × zOS × zOS} {F : Nat} {qX : Nat → Nat} {qT : Nat → Nat} {qM : Nat → Nat} {qP : Nat → Nat} {qL : Nat → Nat} {sX : zOS} {sT : zOS} {sM : zOS} {sP : zOS} {sL : zOS} {kc_59 : (Int64 × Int32) → Option (Int64 × zOS × zOS × zOS × zOS)} (C : zC X RX4 cX4_digest 4 23 535) (hR : zR X (some .long) (some (.long res.1)) [(4, qX, res.2.1), (3, qT, sT), (1, qM, res.2.2.1), (2, qP, res.2.2.2.1), (0, qL, res.2.2.2.2)]) (hM50 : qM 50 = qP 0) (hM51 : qM 51 = qL 0) (hX50 : qX 50 = qP 0) (hX52 : qX 52 = qL 0) (hX53 : qX 53 = qM 0) (hX54 : qX 54 = qT 0) (hk_59 : ∀ (y1 : Int64) (y3 : Int32), zJ X 4 res (kc_59 (y1, y3)) 59 [(0, (.ref (qX 0))), (1, (.long y1)), (3, (.int y3))] [] [(4, qX, sX), (3, qT, sT), (1, qM, sM), (2, qP, sP), (0, qL, sL)]) (x1 : Int64) (x3 : Int32) : zJ X 4 res (bX4_digest_59 F sX sM sP sL kc_59 x1 x3) 59 [(0, (.ref (qX 0))), (1, (.long x1)), (3, (.int x3))] [] [(4, qX, sX), (3, qT, sT), (1, qM, sM), (2, qP, sP), (0, qL, sL)] := by
  unfold bX4_digest_59
  refine z_iload_n (pc := 59) 2 rfl rfl C dX4_digest_59 ?_
  refine z_iconst (pc := 60) (4 : Int32) (by decide) C dX4_digest_60 ?_
  refine z_icmp_ge (pc := 61) 86 C dX4_digest_61 (by decide) ?_ ?_
  · refine z_aload_n (pc := 86) 0 rfl rfl C dX4_digest_86 ?_
    refine z_callV (pc := 87) (rf' := 21) (rl' := 494) (fX4_search F sX sM sP sL) [] [] [(4, qX, sX), (1, qM, sM), (2, qP, sP), (0, qL, sL)] (fun r_1 => (some (.ref (qM 0)))) (fun r_1 => [(4, qX, r_1.1), (1, qM, r_1.2.1), (2, qP, r_1.2.2.1), (0, qL, r_1.2.2.2)]) [(3, qT, sT)] (fun r_1 => [(4, qX, r_1.1), (3, qT, sT), (1, qM, r_1.2.1), (2, qP, r_1.2.2.1), (0, qL, r_1.2.2.2)]) C dX4_digest_87 zy_X4_search zw_508 (fun _ hr9 => mX4_search hM50 hM51 hX50 hX52 hX53 hr9) (by decide) rfl rfl (by decide) rfl (Nat.le_of_ble_eq_true rfl) (z_pn 5 _ rfl [0, 2, 3, 4, 1] (by decide)).symm (fun _ => (z_pn 5 _ rfl [0, 4, 1, 2, 3] (by decide)).symm) rfl (fun r_1 hr_2 => ?_)
    show zJ X 4 res _ 90 [(0, (.ref (qX 0))), (1, (.long x1)), (3, (.int x3))] [(.ref (qM 0))] [(4, qX, r_1.1), (3, qT, sT), (1, qM, r_1.2.1), (2, qP, r_1.2.2.1), (0, qL, r_1.2.2.2)]
    refine z_aload_n (pc := 90) 0 rfl rfl C dX4_digest_90 ?_
    refine z_callV (pc := 91) (rf' := 5) (rl' := 112) (fX4_readLayout F r_1.2.2.2 r_1.2.2.1) [] [(.ref (qM 0))] [(4, qX, r_1.1), (0, qL, r_1.2.2.2), (2, qP, r_1.2.2.1)] (fun r_3 => (some (.ref (qL 0)))) (fun r_3 => [(4, qX, r_1.1), (0, qL, r_3), (2, qP, r_1.2.2.1)]) [(3, qT, sT), (1, qM, r_1.2.1)] (fun r_3 => [(4, qX, r_1.1), (3, qT, sT), (1, qM, r_1.2.1), (2, qP, r_1.2.2.1), (0, qL, r_3)]) C dX4_digest_91 zy_X4_readLayout zw_399 (fun _ hr9 => mX4_readLayout hX50 hX52 hr9) (by decide) rfl rfl (by decide) rfl (Nat.le_of_ble_eq_true rfl) (z_pn 5 _ rfl [0, 4, 3, 1, 2] (by decide)).symm (fun _ => (z_pn 5 _ rfl [0, 3, 4, 2, 1] (by decide)).symm) rfl (fun r_3 hr_4 => ?_)
    show zJ X 4 res _ 94 [(0, (.ref (qX 0))), (1, (.long x1)), (3, (.int x3))] [(.ref (qL 0)), (.ref (qM 0))] [(4, qX, r_1.1), (3, qT, sT), (1, qM, r_1.2.1), (2, qP, r_1.2.2.1), (0, qL, r_3)]
    refine z_lload_n (pc := 94) 1 rfl rfl C dX4_digest_94 ?_
    refine z_callV (pc := 95) (rf' := 3) (rl' := 65) (fX0_mixInto F x1 r_3) [(.long x1)] [(.ref (qM 0))] [(0, qL, r_3)] (fun r_5 => (some (.long r_5))) (fun r_5 => [(0, qL, r_3)]) [(4, qX, r_1.1), (3, qT, sT), (1, qM, r_1.2.1), (2, qP, r_1.2.2.1)] (fun r_5 => [(4, qX, r_1.1), (3, qT, sT), (1, qM, r_1.2.1), (2, qP, r_1.2.2.1), (0, qL, r_3)]) C dX4_digest_95 zy_X0_mixInto zw_696 (fun _ hr9 => mX0_mixInto  hr9) (by decide) rfl rfl (by decide) rfl (Nat.le_of_ble_eq_true rfl) (z_pn 5 _ rfl [4, 0, 1, 2, 3] (by decide)).symm (fun _ => (z_pn 5 _ rfl [1, 2, 3, 4, 0] (by decide)).symm) rfl (fun r_5 hr_6 => ?_)
    show zJ X 4 res _ 98 [(0, (.ref (qX 0))), (1, (.long x1)), (3, (.int x3))] [(.long r_5), (.ref (qM 0))] [(4, qX, r_1.1), (3, qT, sT), (1, qM, r_1.2.1), (2, qP, r_1.2.2.1), (0, qL, r_3)]
    refine z_callV (pc := 98) (rf' := 0) (rl' := 0) (fX1_mixInto F r_5 r_1.2.1 r_1.2.2.1) [(.long r_5)] [] [(1, qM, r_1.2.1), (2, qP, r_1.2.2.1)] (fun r_7 => (some (.long r_7))) (fun r_7 => [(1, qM, r_1.2.1), (2, qP, r_1.2.2.1)]) [(4, qX, r_1.1), (3, qT, sT), (0, qL, r_3)] (fun r_7 => [(4, qX, r_1.1), (3, qT, sT), (1, qM, r_1.2.1), (2, qP, r_1.2.2.1), (0, qL, r_3)]) C dX4_digest_98 zy_X1_mixInto zw_704 (fun _ hr9 => mX1_mixInto hM50 hr9) (by decide) rfl rfl (by decide) rfl (Nat.le_of_ble_eq_true rfl) (z_pn 5 _ rfl [2, 3, 0, 1, 4] (by decide)).symm (fun _ => (z_pn 5 _ rfl [2, 3, 0, 1, 4] (by decide)).symm) rfl (fun r_7 hr_8 => ?_)
    show zJ X 4 res _ 101 [(0, (.ref (qX 0))), (1, (.long x1)), (3, (.int x3))] [(.long r_7)] [(4, qX, r_1.1), (3, qT, sT), (1, qM, r_1.2.1), (2, qP, r_1.2.2.1), (0, qL, r_3)]
    exact z_lreturn (pc := 101) C hR dX4_digest_101 (fun h => by subst h; exact ⟨rfl, rfl⟩)
  · refine z_ldc2_w (pc := 64) (31 : Int64) zw_693 C dX4_digest_64 ?_
    refine z_lload_n (pc := 67) 1 rfl rfl C dX4_digest_67 ?_
    refine z_lmul (pc := 68) C dX4_digest_68 ?_
    refine z_aload_n (pc := 69) 0 rfl rfl C dX4_digest_69 ?_
    refine z_getE (pc := 70) 0 1 50 (qP 0) hX50 C dX4_digest_70 rfl (by decide) (by decide) rfl zw_262 ?_
    refine z_getR (pc := 73) 3 0 1 C dX4_digest_73 rfl (by decide) (by decide) rfl zw_110 ?_
    refine z_iload_n (pc := 76) 2 rfl rfl C dX4_digest_76 ?_
    refine z_lald (pc := 77) 3 C dX4_digest_77 rfl (by unfold zAr; decide) ?_
    refine z_ladd (pc := 78) C dX4_digest_78 ?_
    refine z_letl (fun x1_9 => ?_)
    refine z_lstore_n (pc := 79) [(0, (.ref (qX 0))), (1, (.long x1_9)), (3, (.int x3))] [1, 0, 2] (by decide) rfl rfl C dX4_digest_79 ?_
    refine z_iinc (pc := 80) (x3 + 1) 2 rfl rfl [(0, (.ref (qX 0))), (1, (.long x1_9)), (3, (.int (x3 + 1)))] [1, 2, 0] (by decide) rfl C dX4_digest_80 ?_
    refine z_goto (pc := 83) 59 C dX4_digest_83 (by decide) ?_
    exact hk_59 _ _
def bX4_digest_32 (F : Nat) (kc_32 : (Int64 × Int32 × zOS × zOS × zOS × zOS) → Option (Int64 × zOS × zOS × zOS × zOS)) (x1 : Int64) (x3 : Int32) (sX : zOS) (sM : zOS) (sP : zOS) (sL : zOS) : Option (Int64 × zOS × zOS × zOS × zOS) := (if (8 : Int32) < x3 then (zit (P := Int64 × Int32) (R := Int64 × zOS × zOS × zOS × zOS) (fun kc9 p9 => bX4_digest_59 F sX sM sP sL kc9 p9.1 p9.2) F (x1, (0 : Int32))) else (Option.bind (fX4_count F x3 sX sM sP sL) (fun r_10 : Int32 × zOS × zOS × zOS × zOS => (zlet (((31 : Int64) * x1) + r_10.1.toInt64) (fun x1_12 : Int64 => (kc_32 (x1_12, (x3 + 1), r_10.2.1, r_10.2.2.1, r_10.2.2.2.1, r_10.2.2.2.2)))))))
set_option maxRecDepth 20000 in
theorem vX4_digest_32 {X : zCx} {res : Int64 × zOS × zOS × zOS × zOS} {F : Nat} {qX : Nat → Nat} {qT : Nat → Nat} {qM : Nat → Nat} {qP : Nat → Nat} {qL : Nat → Nat} {sT : zOS} {kc_32 : (Int64 × Int32 × zOS × zOS × zOS × zOS) → Option (Int64 × zOS × zOS × zOS × zOS)} (C : zC X RX4 cX4_digest 4 23 535) (hR : zR X (some .long) (some (.long res.1)) [(4, qX, res.2.1), (3, qT, sT), (1, qM, res.2.2.1), (2, qP, res.2.2.2.1), (0, qL, res.2.2.2.2)]) (hM50 : qM 50 = qP 0) (hM51 : qM 51 = qL 0) (hX50 : qX 50 = qP 0) (hX52 : qX 52 = qL 0) (hX53 : qX 53 = qM 0) (hX54 : qX 54 = qT 0) (hk_32 : ∀ (y1 : Int64) (y3 : Int32) (tX : zOS) (tM : zOS) (tP : zOS) (tL : zOS), zJ X 4 res (kc_32 (y1, y3, tX, tM, tP, tL)) 32 [(0, (.ref (qX 0))), (1, (.long y1)), (3, (.int y3))] [] [(4, qX, tX), (3, qT, sT), (1, qM, tM), (2, qP, tP), (0, qL, tL)]) (x1 : Int64) (x3 : Int32) (sX : zOS) (sM : zOS) (sP : zOS) (sL : zOS) : zJ X 4 res (bX4_digest_32 F kc_32 x1 x3 sX sM sP sL) 32 [(0, (.ref (qX 0))), (1, (.long x1)), (3, (.int x3))] [] [(4, qX, sX), (3, qT, sT), (1, qM, sM), (2, qP, sP), (0, qL, sL)] := by
  unfold bX4_digest_32
  refine z_iload_n (pc := 32) 2 rfl rfl C dX4_digest_32 ?_
  refine z_bipush (pc := 33) (8 : Int32) (by decide) C dX4_digest_33 ?_
  refine z_icmp_gt (pc := 35) 57 C dX4_digest_35 (by decide) ?_ ?_
  · refine z_iconst (pc := 57) (0 : Int32) (by decide) C dX4_digest_57 ?_
    refine z_istore_n (pc := 58) [(0, (.ref (qX 0))), (1, (.long x1)), (3, (.int (0 : Int32)))] [1, 2, 0] (by decide) rfl rfl C dX4_digest_58 ?_
    show zJ X 4 res _ 59 [(0, (.ref (qX 0))), (1, (.long x1)), (3, (.int (0 : Int32)))] [] [(4, qX, sX), (3, qT, sT), (1, qM, sM), (2, qP, sP), (0, qL, sL)]
    exact zit_J (P := Int64 × Int32) (B := (fun kc9 p9 => bX4_digest_59 F sX sM sP sL kc9 p9.1 p9.2)) (fun p9 => [(0, (.ref (qX 0))), (1, (.long p9.1)), (3, (.int p9.2))]) (fun p9 => [(4, qX, sX), (3, qT, sT), (1, qM, sM), (2, qP, sP), (0, qL, sL)]) (fun kc9 hk9 p9 => vX4_digest_59 C hR hM50 hM51 hX50 hX52 hX53 hX54  (fun a0 a1 => hk9 (a0, a1)) p9.1 p9.2) F _
  · refine z_ldc2_w (pc := 38) (31 : Int64) zw_693 C dX4_digest_38 ?_
    refine z_lload_n (pc := 41) 1 rfl rfl C dX4_digest_41 ?_
    refine z_lmul (pc := 42) C dX4_digest_42 ?_
    refine z_aload_n (pc := 43) 0 rfl rfl C dX4_digest_43 ?_
    refine z_iload_n (pc := 44) 2 rfl rfl C dX4_digest_44 ?_
    refine z_callV (pc := 45) (rf' := 22) (rl' := 514) (fX4_count F x3 sX sM sP sL) [(.int x3)] [(.long ((31 : Int64) * x1))] [(4, qX, sX), (1, qM, sM), (2, qP, sP), (0, qL, sL)] (fun r_10 => (some (.int r_10.1))) (fun r_10 => [(4, qX, r_10.2.1), (1, qM, r_10.2.2.1), (2, qP, r_10.2.2.2.1), (0, qL, r_10.2.2.2.2)]) [(3, qT, sT)] (fun r_10 => [(4, qX, r_10.2.1), (3, qT, sT), (1, qM, r_10.2.2.1), (2, qP, r_10.2.2.2.1), (0, qL, r_10.2.2.2.2)]) C dX4_digest_45 zy_X4_count zw_695 (fun _ hr9 => mX4_count hM50 hM51 hX50 hX52 hX53 hr9) (by decide) rfl rfl (by decide) rfl (Nat.le_of_ble_eq_true rfl) (z_pn 5 _ rfl [0, 2, 3, 4, 1] (by decide)).symm (fun _ => (z_pn 5 _ rfl [0, 4, 1, 2, 3] (by decide)).symm) rfl (fun r_10 hr_11 => ?_)
    show zJ X 4 res _ 48 [(0, (.ref (qX 0))), (1, (.long x1)), (3, (.int x3))] [(.int r_10.1), (.long ((31 : Int64) * x1))] [(4, qX, r_10.2.1), (3, qT, sT), (1, qM, r_10.2.2.1), (2, qP, r_10.2.2.2.1), (0, qL, r_10.2.2.2.2)]
    refine z_i2l (pc := 48) C dX4_digest_48 ?_
    refine z_ladd (pc := 49) C dX4_digest_49 ?_
    refine z_letl (fun x1_12 => ?_)
    refine z_lstore_n (pc := 50) [(0, (.ref (qX 0))), (1, (.long x1_12)), (3, (.int x3))] [1, 0, 2] (by decide) rfl rfl C dX4_digest_50 ?_
    refine z_iinc (pc := 51) (x3 + 1) 2 rfl rfl [(0, (.ref (qX 0))), (1, (.long x1_12)), (3, (.int (x3 + 1)))] [1, 2, 0] (by decide) rfl C dX4_digest_51 ?_
    refine z_goto (pc := 54) 32 C dX4_digest_54 (by decide) ?_
    exact hk_32 _ _ _ _ _ _
def bX4_digest_6 (F : Nat) (sT : zOS) (sM : zOS) (sP : zOS) (sL : zOS) (kc_6 : (Int64 × Int32 × zOS) → Option (Int64 × zOS × zOS × zOS × zOS)) (x1 : Int64) (x3 : Int32) (sX : zOS) : Option (Int64 × zOS × zOS × zOS × zOS) := (if (4 : Int32) < x3 then (zit (P := Int64 × Int32 × zOS × zOS × zOS × zOS) (R := Int64 × zOS × zOS × zOS × zOS) (fun kc9 p9 => bX4_digest_32 F kc9 p9.1 p9.2.1 p9.2.2.1 p9.2.2.2.1 p9.2.2.2.2.1 p9.2.2.2.2.2) F (x1, (0 : Int32), sX, sM, sP, sL)) else (Option.bind (fX4_told x3 sX sT) (fun r_13 : Int32 × zOS => (zlet (((31 : Int64) * x1) + r_13.1.toInt64) (fun x1_15 : Int64 => (kc_6 (x1_15, (x3 + 1), r_13.2)))))))
set_option maxRecDepth 20000 in
theorem vX4_digest_6 {X : zCx} {res : Int64 × zOS × zOS × zOS × zOS} {F : Nat} {qX : Nat → Nat} {qT : Nat → Nat} {qM : Nat → Nat} {qP : Nat → Nat} {qL : Nat → Nat} {sT : zOS} {sM : zOS} {sP : zOS} {sL : zOS} {kc_6 : (Int64 × Int32 × zOS) → Option (Int64 × zOS × zOS × zOS × zOS)} (C : zC X RX4 cX4_digest 4 23 535) (hR : zR X (some .long) (some (.long res.1)) [(4, qX, res.2.1), (3, qT, sT), (1, qM, res.2.2.1), (2, qP, res.2.2.2.1), (0, qL, res.2.2.2.2)]) (hM50 : qM 50 = qP 0) (hM51 : qM 51 = qL 0) (hX50 : qX 50 = qP 0) (hX52 : qX 52 = qL 0) (hX53 : qX 53 = qM 0) (hX54 : qX 54 = qT 0) (hk_6 : ∀ (y1 : Int64) (y3 : Int32) (tX : zOS), zJ X 4 res (kc_6 (y1, y3, tX)) 6 [(0, (.ref (qX 0))), (1, (.long y1)), (3, (.int y3))] [] [(4, qX, tX), (3, qT, sT), (1, qM, sM), (2, qP, sP), (0, qL, sL)]) (x1 : Int64) (x3 : Int32) (sX : zOS) : zJ X 4 res (bX4_digest_6 F sT sM sP sL kc_6 x1 x3 sX) 6 [(0, (.ref (qX 0))), (1, (.long x1)), (3, (.int x3))] [] [(4, qX, sX), (3, qT, sT), (1, qM, sM), (2, qP, sP), (0, qL, sL)] := by
  unfold bX4_digest_6
  refine z_iload_n (pc := 6) 2 rfl rfl C dX4_digest_6 ?_
  refine z_iconst (pc := 7) (4 : Int32) (by decide) C dX4_digest_7 ?_
  refine z_icmp_gt (pc := 8) 30 C dX4_digest_8 (by decide) ?_ ?_
  · refine z_iconst (pc := 30) (0 : Int32) (by decide) C dX4_digest_30 ?_
    refine z_istore_n (pc := 31) [(0, (.ref (qX 0))), (1, (.long x1)), (3, (.int (0 : Int32)))] [1, 2, 0] (by decide) rfl rfl C dX4_digest_31 ?_
    show zJ X 4 res _ 32 [(0, (.ref (qX 0))), (1, (.long x1)), (3, (.int (0 : Int32)))] [] [(4, qX, sX), (3, qT, sT), (1, qM, sM), (2, qP, sP), (0, qL, sL)]
    exact zit_J (P := Int64 × Int32 × zOS × zOS × zOS × zOS) (B := (fun kc9 p9 => bX4_digest_32 F kc9 p9.1 p9.2.1 p9.2.2.1 p9.2.2.2.1 p9.2.2.2.2.1 p9.2.2.2.2.2)) (fun p9 => [(0, (.ref (qX 0))), (1, (.long p9.1)), (3, (.int p9.2.1))]) (fun p9 => [(4, qX, p9.2.2.1), (3, qT, sT), (1, qM, p9.2.2.2.1), (2, qP, p9.2.2.2.2.1), (0, qL, p9.2.2.2.2.2)]) (fun kc9 hk9 p9 => vX4_digest_32 C hR hM50 hM51 hX50 hX52 hX53 hX54  (fun a0 a1 a2 a3 a4 a5 => hk9 (a0, a1, a2, a3, a4, a5)) p9.1 p9.2.1 p9.2.2.1 p9.2.2.2.1 p9.2.2.2.2.1 p9.2.2.2.2.2) F _
  · refine z_ldc2_w (pc := 11) (31 : Int64) zw_693 C dX4_digest_11 ?_
    refine z_lload_n (pc := 14) 1 rfl rfl C dX4_digest_14 ?_
    refine z_lmul (pc := 15) C dX4_digest_15 ?_
    refine z_aload_n (pc := 16) 0 rfl rfl C dX4_digest_16 ?_
    refine z_iload_n (pc := 17) 2 rfl rfl C dX4_digest_17 ?_
    refine z_callV (pc := 18) (rf' := 2) (rl' := 43) (fX4_told x3 sX sT) [(.int x3)] [(.long ((31 : Int64) * x1))] [(4, qX, sX), (3, qT, sT)] (fun r_13 => (some (.int r_13.1))) (fun r_13 => [(4, qX, r_13.2), (3, qT, sT)]) [(1, qM, sM), (2, qP, sP), (0, qL, sL)] (fun r_13 => [(4, qX, r_13.2), (3, qT, sT), (1, qM, sM), (2, qP, sP), (0, qL, sL)]) C dX4_digest_18 zy_X4_told zw_694 (fun _ hr9 => mX4_told hX54 hr9) (by decide) rfl rfl (by decide) rfl (Nat.le_of_ble_eq_true rfl) (List.Perm.refl _) (fun _ => List.Perm.refl _) rfl (fun r_13 hr_14 => ?_)
    show zJ X 4 res _ 21 [(0, (.ref (qX 0))), (1, (.long x1)), (3, (.int x3))] [(.int r_13.1), (.long ((31 : Int64) * x1))] [(4, qX, r_13.2), (3, qT, sT), (1, qM, sM), (2, qP, sP), (0, qL, sL)]
    refine z_i2l (pc := 21) C dX4_digest_21 ?_
    refine z_ladd (pc := 22) C dX4_digest_22 ?_
    refine z_letl (fun x1_15 => ?_)
    refine z_lstore_n (pc := 23) [(0, (.ref (qX 0))), (1, (.long x1_15)), (3, (.int x3))] [1, 0, 2] (by decide) rfl rfl C dX4_digest_23 ?_
    refine z_iinc (pc := 24) (x3 + 1) 2 rfl rfl [(0, (.ref (qX 0))), (1, (.long x1_15)), (3, (.int (x3 + 1)))] [1, 2, 0] (by decide) rfl C dX4_digest_24 ?_
    refine z_goto (pc := 27) 6 C dX4_digest_27 (by decide) ?_
    exact hk_6 _ _ _
def fX4_digest (F : Nat) (sX : zOS) (sT : zOS) (sM : zOS) (sP : zOS) (sL : zOS) : Option (Int64 × zOS × zOS × zOS × zOS) := (zit (P := Int64 × Int32 × zOS) (R := Int64 × zOS × zOS × zOS × zOS) (fun kc9 p9 => bX4_digest_6 F sT sM sP sL kc9 p9.1 p9.2.1 p9.2.2) F ((1682 : Int64), (0 : Int32), sX))
set_option maxRecDepth 20000 in
theorem wX4_digest {X : zCx} {res : Int64 × zOS × zOS × zOS × zOS} {F : Nat} {qX : Nat → Nat} {qT : Nat → Nat} {qM : Nat → Nat} {qP : Nat → Nat} {qL : Nat → Nat} {sX : zOS} {sT : zOS} {sM : zOS} {sP : zOS} {sL : zOS} (C : zC X RX4 cX4_digest 4 23 535) (hR : zR X (some .long) (some (.long res.1)) [(4, qX, res.2.1), (3, qT, sT), (1, qM, res.2.2.1), (2, qP, res.2.2.2.1), (0, qL, res.2.2.2.2)]) (hM50 : qM 50 = qP 0) (hM51 : qM 51 = qL 0) (hX50 : qX 50 = qP 0) (hX52 : qX 52 = qL 0) (hX53 : qX 53 = qM 0) (hX54 : qX 54 = qT 0) : zJ X 4 res (fX4_digest F sX sT sM sP sL) 0 [(0, (.ref (qX 0)))] [] [(4, qX, sX), (3, qT, sT), (1, qM, sM), (2, qP, sP), (0, qL, sL)] := by
  unfold fX4_digest
  refine z_ldc2_w (pc := 0) (1682 : Int64) zw_692 C dX4_digest_0 ?_
  refine z_lstore_n (pc := 3) [(0, (.ref (qX 0))), (1, (.long (1682 : Int64)))] [1, 0] (by decide) rfl rfl C dX4_digest_3 ?_
  refine z_iconst (pc := 4) (0 : Int32) (by decide) C dX4_digest_4 ?_
  refine z_istore_n (pc := 5) [(0, (.ref (qX 0))), (1, (.long (1682 : Int64))), (3, (.int (0 : Int32)))] [1, 2, 0] (by decide) rfl rfl C dX4_digest_5 ?_
  show zJ X 4 res _ 6 [(0, (.ref (qX 0))), (1, (.long (1682 : Int64))), (3, (.int (0 : Int32)))] [] [(4, qX, sX), (3, qT, sT), (1, qM, sM), (2, qP, sP), (0, qL, sL)]
  exact zit_J (P := Int64 × Int32 × zOS) (B := (fun kc9 p9 => bX4_digest_6 F sT sM sP sL kc9 p9.1 p9.2.1 p9.2.2)) (fun p9 => [(0, (.ref (qX 0))), (1, (.long p9.1)), (3, (.int p9.2.1))]) (fun p9 => [(4, qX, p9.2.2), (3, qT, sT), (1, qM, sM), (2, qP, sP), (0, qL, sL)]) (fun kc9 hk9 p9 => vX4_digest_6 C hR hM50 hM51 hX50 hX52 hX53 hX54  (fun a0 a1 a2 => hk9 (a0, a1, a2)) p9.1 p9.2.1 p9.2.2) F _
theorem mX4_digest {F : Nat} {qX : Nat → Nat} {qT : Nat → Nat} {qM : Nat → Nat} {qP : Nat → Nat} {qL : Nat → Nat} {sX : zOS} {sT : zOS} {sM : zOS} {sP : zOS} {sL : zOS} {res : Int64 × zOS × zOS × zOS × zOS} (hM50 : qM 50 = qP 0) (hM51 : qM 51 = qL 0) (hX50 : qX 50 = qP 0) (hX52 : qX 52 = qL 0) (hX53 : qX 53 = qM 0) (hX54 : qX 54 = qT 0) (hf : fX4_digest F sX sT sM sP sL = some res) : zM yX4_digest cX4_digest 4 (some .long) 23 535 [(.ref (qX 0))] [(4, qX, sX), (3, qT, sT), (1, qM, sM), (2, qP, sP), (0, qL, sL)] (some (.long res.1)) [(4, qX, res.2.1), (3, qT, sT), (1, qM, res.2.2.1), (2, qP, res.2.2.2.1), (0, qL, res.2.2.2.2)] := zM_of (by decide +kernel) (Nat.le_of_ble_eq_true rfl) (fun X C hR => wX4_digest (F := F) C hR hM50 hM51 hX50 hX52 hX53 hX54 hf)
