theorem dX2_take_0 : decode cX2_take 0 = .ok (.aload_n 1, 1) := by decide +kernel
theorem dX2_take_1 : decode cX2_take 1 = .ok (.getfield 9, 3) := by decide +kernel
theorem dX2_take_4 : decode cX2_take 4 = .ok (.iconst 0, 1) := by decide +kernel
theorem dX2_take_5 : decode cX2_take 5 = .ok (.aload_n 0, 1) := by decide +kernel
theorem dX2_take_6 : decode cX2_take 6 = .ok (.getfield 9, 3) := by decide +kernel
theorem dX2_take_9 : decode cX2_take 9 = .ok (.iconst 0, 1) := by decide +kernel
theorem dX2_take_10 : decode cX2_take 10 = .ok (.iconst 4, 1) := by decide +kernel
theorem dX2_take_11 : decode cX2_take 11 = .ok (.invokestatic 29, 3) := by decide +kernel
theorem dX2_take_14 : decode cX2_take 14 = .ok (.aload_n 1, 1) := by decide +kernel
theorem dX2_take_15 : decode cX2_take 15 = .ok (.getfield 15, 3) := by decide +kernel
theorem dX2_take_18 : decode cX2_take 18 = .ok (.iconst 0, 1) := by decide +kernel
theorem dX2_take_19 : decode cX2_take 19 = .ok (.aload_n 0, 1) := by decide +kernel
theorem dX2_take_20 : decode cX2_take 20 = .ok (.getfield 15, 3) := by decide +kernel
theorem dX2_take_23 : decode cX2_take 23 = .ok (.iconst 0, 1) := by decide +kernel
theorem dX2_take_24 : decode cX2_take 24 = .ok (.aload_n 0, 1) := by decide +kernel
theorem dX2_take_25 : decode cX2_take 25 = .ok (.getfield 15, 3) := by decide +kernel
theorem dX2_take_28 : decode cX2_take 28 = .ok (.arraylength, 1) := by decide +kernel
theorem dX2_take_29 : decode cX2_take 29 = .ok (.invokestatic 29, 3) := by decide +kernel
theorem dX2_take_32 : decode cX2_take 32 = .ok (.aload_n 1, 1) := by decide +kernel
theorem dX2_take_33 : decode cX2_take 33 = .ok (.getfield 19, 3) := by decide +kernel
theorem dX2_take_36 : decode cX2_take 36 = .ok (.iconst 0, 1) := by decide +kernel
theorem dX2_take_37 : decode cX2_take 37 = .ok (.aload_n 0, 1) := by decide +kernel
theorem dX2_take_38 : decode cX2_take 38 = .ok (.getfield 19, 3) := by decide +kernel
theorem dX2_take_41 : decode cX2_take 41 = .ok (.iconst 0, 1) := by decide +kernel
theorem dX2_take_42 : decode cX2_take 42 = .ok (.aload_n 0, 1) := by decide +kernel
theorem dX2_take_43 : decode cX2_take 43 = .ok (.getfield 19, 3) := by decide +kernel
theorem dX2_take_46 : decode cX2_take 46 = .ok (.arraylength, 1) := by decide +kernel
theorem dX2_take_47 : decode cX2_take 47 = .ok (.invokestatic 29, 3) := by decide +kernel
theorem dX2_take_50 : decode cX2_take 50 = .ok (.aload_n 0, 1) := by decide +kernel
theorem dX2_take_51 : decode cX2_take 51 = .ok (.aload_n 1, 1) := by decide +kernel
theorem dX2_take_52 : decode cX2_take 52 = .ok (.getfield 22, 3) := by decide +kernel
theorem dX2_take_55 : decode cX2_take 55 = .ok (.putfield 22, 3) := by decide +kernel
theorem dX2_take_58 : decode cX2_take 58 = .ok (.aload_n 0, 1) := by decide +kernel
theorem dX2_take_59 : decode cX2_take 59 = .ok (.aload_n 1, 1) := by decide +kernel
theorem dX2_take_60 : decode cX2_take 60 = .ok (.getfield 26, 3) := by decide +kernel
theorem dX2_take_63 : decode cX2_take 63 = .ok (.putfield 26, 3) := by decide +kernel
theorem dX2_take_66 : decode cX2_take 66 = .ok (.return_, 1) := by decide +kernel
def fX2_take (sP : zOS) (sO : zOS) : Option (zOS) := (zlet (zsL sP 1 (va_cpy (zL sO 1) (zL sP 1) (0 : Int32).toNatClampNeg (0 : Int32).toNatClampNeg (4 : Int32).toNatClampNeg)) (fun sP_1 : zOS => (zlet (zsI sP_1 2 (va_cpy (zI sO 2) (zI sP_1 2) (0 : Int32).toNatClampNeg (0 : Int32).toNatClampNeg (18 : Int32).toNatClampNeg)) (fun sP_2 : zOS => (zlet (zsI sP_2 3 (va_cpy (zI sO 3) (zI sP_2 3) (0 : Int32).toNatClampNeg (0 : Int32).toNatClampNeg (18 : Int32).toNatClampNeg)) (fun sP_3 : zOS => (zlet (zsF sP_3 3 (zF sO 3)) (fun sP_4 : zOS => (zlet (zsF sP_4 4 (zF sO 4)) (fun sP_5 : zOS => (some (sP_5))))))))))))
set_option maxRecDepth 20000 in
theorem wX2_take {X : zCx} {res : zOS}  {qP : Nat → Nat} {qO : Nat → Nat} {sP : zOS} {sO : zOS} (C : zC X RX2 cX2_take 2 1 26) (hR : zR X none none [(2, qP, res), (2, qO, sO)])  : zJ X 2 res (fX2_take sP sO) 0 [(0, (.ref (qP 0))), (1, (.ref (qO 0)))] [] [(2, qP, sP), (2, qO, sO)] := by
  unfold fX2_take
  refine z_aload_n (pc := 0) 1 rfl rfl C dX2_take_0 ?_
  refine z_getR (pc := 1) 1 0 1 C dX2_take_1 rfl (by decide) (by decide) rfl zw_109 ?_
  refine z_iconst (pc := 4) (0 : Int32) (by decide) C dX2_take_4 ?_
  refine z_aload_n (pc := 5) 0 rfl rfl C dX2_take_5 ?_
  refine z_getR (pc := 6) 0 0 1 C dX2_take_6 rfl (by decide) (by decide) rfl zw_109 ?_
  refine z_iconst (pc := 9) (0 : Int32) (by decide) C dX2_take_9 ?_
  refine z_iconst (pc := 10) (4 : Int32) (by decide) C dX2_take_10 ?_
  refine z_copyl (n0 := 4) (n1 := 4) (pc := 11) 1 0 C dX2_take_11 zw_297 zw_299 zw_298 zw_83 rfl rfl (by unfold zAr; decide) (by unfold zAr; decide) (by decide) (by decide) (by decide) (by decide) (by decide) (by decide) (Nat.le_of_ble_eq_true rfl) [(2, qP, (zsL sP 1 (va_cpy (zL sO 1) (zL sP 1) (0 : Int32).toNatClampNeg (0 : Int32).toNatClampNeg (4 : Int32).toNatClampNeg))), (2, qO, sO)] rfl ?_
  refine z_letc (fun z9 => [(2, qP, z9), (2, qO, sO)]) (fun sP_1 => ?_)
  refine z_aload_n (pc := 14) 1 rfl rfl C dX2_take_14 ?_
  refine z_getR (pc := 15) 1 1 2 C dX2_take_15 rfl (by decide) (by decide) rfl zw_111 ?_
  refine z_iconst (pc := 18) (0 : Int32) (by decide) C dX2_take_18 ?_
  refine z_aload_n (pc := 19) 0 rfl rfl C dX2_take_19 ?_
  refine z_getR (pc := 20) 0 1 2 C dX2_take_20 rfl (by decide) (by decide) rfl zw_111 ?_
  refine z_iconst (pc := 23) (0 : Int32) (by decide) C dX2_take_23 ?_
  refine z_aload_n (pc := 24) 0 rfl rfl C dX2_take_24 ?_
  refine z_getR (pc := 25) 0 1 2 C dX2_take_25 rfl (by decide) (by decide) rfl zw_111 ?_
  refine z_alen (n := 18) (pc := 28) 0 0 (18 : Int32) C dX2_take_28 rfl (by unfold zAr; decide) (by decide) (by decide) ?_
  refine z_copyi (n0 := 18) (n1 := 18) (pc := 29) 1 0 C dX2_take_29 zw_297 zw_299 zw_298 zw_83 rfl rfl (by unfold zAr; decide) (by unfold zAr; decide) (by decide) (by decide) (by decide) (by decide) (by decide) (by decide) (Nat.le_of_ble_eq_true rfl) [(2, qP, (zsI sP_1 2 (va_cpy (zI sO 2) (zI sP_1 2) (0 : Int32).toNatClampNeg (0 : Int32).toNatClampNeg (18 : Int32).toNatClampNeg))), (2, qO, sO)] rfl ?_
  refine z_letc (fun z9 => [(2, qP, z9), (2, qO, sO)]) (fun sP_2 => ?_)
  refine z_aload_n (pc := 32) 1 rfl rfl C dX2_take_32 ?_
  refine z_getR (pc := 33) 1 2 3 C dX2_take_33 rfl (by decide) (by decide) rfl zw_113 ?_
  refine z_iconst (pc := 36) (0 : Int32) (by decide) C dX2_take_36 ?_
  refine z_aload_n (pc := 37) 0 rfl rfl C dX2_take_37 ?_
  refine z_getR (pc := 38) 0 2 3 C dX2_take_38 rfl (by decide) (by decide) rfl zw_113 ?_
  refine z_iconst (pc := 41) (0 : Int32) (by decide) C dX2_take_41 ?_
  refine z_aload_n (pc := 42) 0 rfl rfl C dX2_take_42 ?_
  refine z_getR (pc := 43) 0 2 3 C dX2_take_43 rfl (by decide) (by decide) rfl zw_113 ?_
  refine z_alen (n := 18) (pc := 46) 0 0 (18 : Int32) C dX2_take_46 rfl (by unfold zAr; decide) (by decide) (by decide) ?_
  refine z_copyi (n0 := 18) (n1 := 18) (pc := 47) 1 0 C dX2_take_47 zw_297 zw_299 zw_298 zw_83 rfl rfl (by unfold zAr; decide) (by unfold zAr; decide) (by decide) (by decide) (by decide) (by decide) (by decide) (by decide) (Nat.le_of_ble_eq_true rfl) [(2, qP, (zsI sP_2 3 (va_cpy (zI sO 3) (zI sP_2 3) (0 : Int32).toNatClampNeg (0 : Int32).toNatClampNeg (18 : Int32).toNatClampNeg))), (2, qO, sO)] rfl ?_
  refine z_letc (fun z9 => [(2, qP, z9), (2, qO, sO)]) (fun sP_3 => ?_)
  refine z_aload_n (pc := 50) 0 rfl rfl C dX2_take_50 ?_
  refine z_aload_n (pc := 51) 1 rfl rfl C dX2_take_51 ?_
  refine z_getI (pc := 52) 1 3 C dX2_take_52 rfl (by decide) (by decide) rfl zw_115 ?_
  refine z_putI (pc := 55) 0 3 C dX2_take_55 rfl (by decide) (by decide) rfl zw_115 rfl rfl rfl [(2, qP, (zsF sP_3 3 (zF sO 3))), (2, qO, sO)] rfl ?_
  refine z_letc (fun z9 => [(2, qP, z9), (2, qO, sO)]) (fun sP_4 => ?_)
  refine z_aload_n (pc := 58) 0 rfl rfl C dX2_take_58 ?_
  refine z_aload_n (pc := 59) 1 rfl rfl C dX2_take_59 ?_
  refine z_getI (pc := 60) 1 4 C dX2_take_60 rfl (by decide) (by decide) rfl zw_118 ?_
  refine z_putI (pc := 63) 0 4 C dX2_take_63 rfl (by decide) (by decide) rfl zw_118 rfl rfl rfl [(2, qP, (zsF sP_4 4 (zF sO 4))), (2, qO, sO)] rfl ?_
  refine z_letc (fun z9 => [(2, qP, z9), (2, qO, sO)]) (fun sP_5 => ?_)
  exact z_return (pc := 66) C hR dX2_take_66 (fun h => by subst h; exact ⟨rfl, rfl⟩)
theorem mX2_take  {qP : Nat → Nat} {qO : Nat → Nat} {sP : zOS} {sO : zOS} {res : zOS}  (hf : fX2_take sP sO = some res) : zM yX2_take cX2_take 2 none 1 26 [(.ref (qP 0)), (.ref (qO 0))] [(2, qP, sP), (2, qO, sO)] none [(2, qP, res), (2, qO, sO)] := zM_of (by decide +kernel) (Nat.le_of_ble_eq_true rfl) (fun X C hR => wX2_take C hR  hf)
theorem dX2_paint_0 : decode cX2_paint 0 = .ok (.iload_n 1, 1) := by decide +kernel
theorem dX2_paint_1 : decode cX2_paint 1 = .ok (.iconst 4, 1) := by decide +kernel
theorem dX2_paint_2 : decode cX2_paint 2 = .ok (.invokestatic 35, 3) := by decide +kernel
theorem dX2_paint_5 : decode cX2_paint 5 = .ok (.ifCond .eq 15, 3) := by decide +kernel
theorem dX2_paint_8 : decode cX2_paint 8 = .ok (.iload_n 2, 1) := by decide +kernel
theorem dX2_paint_9 : decode cX2_paint 9 = .ok (.iload_n 3, 1) := by decide +kernel
theorem dX2_paint_10 : decode cX2_paint 10 = .ok (.iload 4, 2) := by decide +kernel
theorem dX2_paint_12 : decode cX2_paint 12 = .ok (.iload 5, 2) := by decide +kernel
theorem dX2_paint_14 : decode cX2_paint 14 = .ok (.invokestatic 39, 3) := by decide +kernel
theorem dX2_paint_17 : decode cX2_paint 17 = .ok (.ifCond .ne 6, 3) := by decide +kernel
theorem dX2_paint_20 : decode cX2_paint 20 = .ok (.bipush (-2), 2) := by decide +kernel
theorem dX2_paint_22 : decode cX2_paint 22 = .ok (.ireturn, 1) := by decide +kernel
theorem dX2_paint_23 : decode cX2_paint 23 = .ok (.iload_n 2, 1) := by decide +kernel
theorem dX2_paint_24 : decode cX2_paint 24 = .ok (.iload_n 3, 1) := by decide +kernel
theorem dX2_paint_25 : decode cX2_paint 25 = .ok (.iload 4, 2) := by decide +kernel
theorem dX2_paint_27 : decode cX2_paint 27 = .ok (.iload 5, 2) := by decide +kernel
theorem dX2_paint_29 : decode cX2_paint 29 = .ok (.invokestatic 43, 3) := by decide +kernel
theorem dX2_paint_32 : decode cX2_paint 32 = .ok (.aload_n 0, 1) := by decide +kernel
theorem dX2_paint_33 : decode cX2_paint 33 = .ok (.getfield 9, 3) := by decide +kernel
theorem dX2_paint_36 : decode cX2_paint 36 = .ok (.iload_n 1, 1) := by decide +kernel
theorem dX2_paint_37 : decode cX2_paint 37 = .ok (.laload, 1) := by decide +kernel
theorem dX2_paint_38 : decode cX2_paint 38 = .ok (.ldc2_w 47, 3) := by decide +kernel
theorem dX2_paint_41 : decode cX2_paint 41 = .ok (.lxor, 1) := by decide +kernel
theorem dX2_paint_42 : decode cX2_paint 42 = .ok (.land, 1) := by decide +kernel
theorem dX2_paint_43 : decode cX2_paint 43 = .ok (.lstore 6, 2) := by decide +kernel
theorem dX2_paint_45 : decode cX2_paint 45 = .ok (.aload_n 0, 1) := by decide +kernel
theorem dX2_paint_46 : decode cX2_paint 46 = .ok (.getfield 9, 3) := by decide +kernel
theorem dX2_paint_49 : decode cX2_paint 49 = .ok (.iload_n 1, 1) := by decide +kernel
theorem dX2_paint_50 : decode cX2_paint 50 = .ok (.dup2, 1) := by decide +kernel
theorem dX2_paint_51 : decode cX2_paint 51 = .ok (.laload, 1) := by decide +kernel
theorem dX2_paint_52 : decode cX2_paint 52 = .ok (.lload 6, 2) := by decide +kernel
theorem dX2_paint_54 : decode cX2_paint 54 = .ok (.lor, 1) := by decide +kernel
theorem dX2_paint_55 : decode cX2_paint 55 = .ok (.lastore, 1) := by decide +kernel
theorem dX2_paint_56 : decode cX2_paint 56 = .ok (.lload 6, 2) := by decide +kernel
theorem dX2_paint_58 : decode cX2_paint 58 = .ok (.invokestatic 49, 3) := by decide +kernel
theorem dX2_paint_61 : decode cX2_paint 61 = .ok (.ireturn, 1) := by decide +kernel
def fX2_paint (F : Nat) (x1 : Int32) (x2 : Int32) (x3 : Int32) (x4 : Int32) (x5 : Int32) (sP : zOS) : Option (Int32 × zOS) := (Option.bind (fX4_isWithin x1 (4 : Int32)) (fun r_1 : Int32 => (if r_1 = 0 then (some ((-2 : Int32), sP)) else (Option.bind (fX2_isBox x2 x3 x4 x5) (fun r_3 : Int32 => (if r_3 = 0 then (some ((-2 : Int32), sP)) else (Option.bind (fX2_boxBits F x2 x3 x4 x5) (fun r_5 : Int64 => (zchk x1 4 (zlet (r_5 &&& ((zL sP 1 x1.toNatClampNeg) ^^^ (-1 : Int64))) (fun x6_7 : Int64 => (zchk x1 4 (zchk x1 4 (zlet (zsL sP 1 (vp_updL (zL sP 1) x1.toNatClampNeg ((zL sP 1 x1.toNatClampNeg) ||| x6_7))) (fun sP_8 : zOS => (Option.bind (fJ13_bitCount_95d88 x6_7) (fun r_9 : Int32 => (some (r_9, sP_8)))))))))))))))))))
set_option maxRecDepth 20000 in
theorem wX2_paint {X : zCx} {res : Int32 × zOS} {F : Nat} {qP : Nat → Nat} {x1 : Int32} {x2 : Int32} {x3 : Int32} {x4 : Int32} {x5 : Int32} {sP : zOS} (C : zC X RX2 cX2_paint 8 3 65) (hR : zR X (some .int) (some (.int res.1)) [(2, qP, res.2)])  : zJ X 8 res (fX2_paint F x1 x2 x3 x4 x5 sP) 0 [(0, (.ref (qP 0))), (1, (.int x1)), (2, (.int x2)), (3, (.int x3)), (4, (.int x4)), (5, (.int x5))] [] [(2, qP, sP)] := by
  unfold fX2_paint
  refine z_iload_n (pc := 0) 1 rfl rfl C dX2_paint_0 ?_
  refine z_iconst (pc := 1) (4 : Int32) (by decide) C dX2_paint_1 ?_
  refine z_callN (pc := 2) (rf' := 0) (rl' := 0) (fX4_isWithin x1 (4 : Int32)) [(.int x1), (.int (4 : Int32))] [] (fun r_1 => (some (.int r_1))) C dX2_paint_2 zy_X4_isWithin (fun U h => h.1) (fun _ hr9 => mX4_isWithin  hr9) (by decide) rfl (Nat.le_of_ble_eq_true rfl) rfl (fun r_1 hr_2 => ?_)
  show zJ X 8 res _ 5 [(0, (.ref (qP 0))), (1, (.int x1)), (2, (.int x2)), (3, (.int x3)), (4, (.int x4)), (5, (.int x5))] [(.int r_1)] [(2, qP, sP)]
  refine z_if_eq (pc := 5) 20 C dX2_paint_5 (by decide) ?_ ?_
  · refine z_bipush (pc := 20) (-2 : Int32) (by decide) C dX2_paint_20 ?_
    exact z_ireturn (pc := 22) C hR dX2_paint_22 (fun h => by subst h; exact ⟨rfl, rfl⟩)
  · refine z_iload_n (pc := 8) 2 rfl rfl C dX2_paint_8 ?_
    refine z_iload_n (pc := 9) 3 rfl rfl C dX2_paint_9 ?_
    refine z_iload (pc := 10) 4 rfl C dX2_paint_10 ?_
    refine z_iload (pc := 12) 5 rfl C dX2_paint_12 ?_
    refine z_callS (pc := 14) (rf' := 2) (rl' := 42) (fX2_isBox x2 x3 x4 x5) [(.int x2), (.int x3), (.int x4), (.int x5)] [] [] (fun r_3 => (some (.int r_3))) (fun r_3 => []) [(2, qP, sP)] (fun r_3 => [(2, qP, sP)]) C dX2_paint_14 zy_X2_isBox zw_307 (fun _ hr9 => mX2_isBox  hr9) (by decide) rfl (Nat.le_of_ble_eq_true rfl) (List.Perm.refl _) (fun _ => List.Perm.refl _) rfl (fun r_3 hr_4 => ?_)
    show zJ X 8 res _ 17 [(0, (.ref (qP 0))), (1, (.int x1)), (2, (.int x2)), (3, (.int x3)), (4, (.int x4)), (5, (.int x5))] [(.int r_3)] [(2, qP, sP)]
    refine z_if_ne (pc := 17) 23 C dX2_paint_17 (by decide) ?_ ?_
    · refine z_bipush (pc := 20) (-2 : Int32) (by decide) C dX2_paint_20 ?_
      exact z_ireturn (pc := 22) C hR dX2_paint_22 (fun h => by subst h; exact ⟨rfl, rfl⟩)
    · refine z_iload_n (pc := 23) 2 rfl rfl C dX2_paint_23 ?_
      refine z_iload_n (pc := 24) 3 rfl rfl C dX2_paint_24 ?_
      refine z_iload (pc := 25) 4 rfl C dX2_paint_25 ?_
      refine z_iload (pc := 27) 5 rfl C dX2_paint_27 ?_
      refine z_callS (pc := 29) (rf' := 0) (rl' := 0) (fX2_boxBits F x2 x3 x4 x5) [(.int x2), (.int x3), (.int x4), (.int x5)] [] [] (fun r_5 => (some (.long r_5))) (fun r_5 => []) [(2, qP, sP)] (fun r_5 => [(2, qP, sP)]) C dX2_paint_29 zy_X2_boxBits zw_314 (fun _ hr9 => mX2_boxBits  hr9) (by decide) rfl (Nat.le_of_ble_eq_true rfl) (List.Perm.refl _) (fun _ => List.Perm.refl _) rfl (fun r_5 hr_6 => ?_)
      show zJ X 8 res _ 32 [(0, (.ref (qP 0))), (1, (.int x1)), (2, (.int x2)), (3, (.int x3)), (4, (.int x4)), (5, (.int x5))] [(.long r_5)] [(2, qP, sP)]
      refine z_aload_n (pc := 32) 0 rfl rfl C dX2_paint_32 ?_
      refine z_getR (pc := 33) 0 0 1 C dX2_paint_33 rfl (by decide) (by decide) rfl zw_109 ?_
      refine z_iload_n (pc := 36) 1 rfl rfl C dX2_paint_36 ?_
      refine z_lald (pc := 37) 0 C dX2_paint_37 rfl (by unfold zAr; decide) ?_
      refine z_ldc2_w (pc := 38) (-1 : Int64) zw_317 C dX2_paint_38 ?_
      refine z_lxor (pc := 41) C dX2_paint_41 ?_
      refine z_land (pc := 42) C dX2_paint_42 ?_
      refine z_letl (fun x6_7 => ?_)
      refine z_lstore (pc := 43) [(0, (.ref (qP 0))), (1, (.int x1)), (2, (.int x2)), (3, (.int x3)), (4, (.int x4)), (5, (.int x5)), (6, (.long x6_7))] [1, 2, 3, 4, 5, 6, 0] (by decide) rfl C dX2_paint_43 ?_
      refine z_aload_n (pc := 45) 0 rfl rfl C dX2_paint_45 ?_
      refine z_getR (pc := 46) 0 0 1 C dX2_paint_46 rfl (by decide) (by decide) rfl zw_109 ?_
      refine z_iload_n (pc := 49) 1 rfl rfl C dX2_paint_49 ?_
      refine z_dup2 (pc := 50) rfl rfl C dX2_paint_50 ?_
      refine z_lald (pc := 51) 0 C dX2_paint_51 rfl (by unfold zAr; decide) ?_
      refine z_lload (pc := 52) 6 rfl C dX2_paint_52 ?_
      refine z_lor (pc := 54) C dX2_paint_54 ?_
      refine z_last (pc := 55) 0 C dX2_paint_55 rfl (by unfold zAr; decide) [(2, qP, (zsL sP 1 (vp_updL (zL sP 1) x1.toNatClampNeg ((zL sP 1 x1.toNatClampNeg) ||| x6_7))))] rfl ?_
      refine z_letc (fun z9 => [(2, qP, z9)]) (fun sP_8 => ?_)
      refine z_lload (pc := 56) 6 rfl C dX2_paint_56 ?_
      refine z_callS (pc := 58) (rf' := 0) (rl' := 0) (fJ13_bitCount_95d88 x6_7) [(.long x6_7)] [] [] (fun r_9 => (some (.int r_9))) (fun r_9 => []) [(2, qP, sP_8)] (fun r_9 => [(2, qP, sP_8)]) C dX2_paint_58 zy_J13_bitCount_95d88 zw_318 (fun _ hr9 => mJ13_bitCount_95d88  hr9) (by decide) rfl (Nat.le_of_ble_eq_true rfl) (List.Perm.refl _) (fun _ => List.Perm.refl _) rfl (fun r_9 hr_10 => ?_)
      show zJ X 8 res _ 61 [(0, (.ref (qP 0))), (1, (.int x1)), (2, (.int x2)), (3, (.int x3)), (4, (.int x4)), (5, (.int x5)), (6, (.long x6_7))] [(.int r_9)] [(2, qP, sP_8)]
      exact z_ireturn (pc := 61) C hR dX2_paint_61 (fun h => by subst h; exact ⟨rfl, rfl⟩)
theorem mX2_paint {F : Nat} {qP : Nat → Nat} {x1 : Int32} {x2 : Int32} {x3 : Int32} {x4 : Int32} {x5 : Int32} {sP : zOS} {res : Int32 × zOS}  (hf : fX2_paint F x1 x2 x3 x4 x5 sP = some res) : zM yX2_paint cX2_paint 8 (some .int) 3 65 [(.ref (qP 0)), (.int x1), (.int x2), (.int x3), (.int x4), (.int x5)] [(2, qP, sP)] (some (.int res.1)) [(2, qP, res.2)] := zM_of (by decide +kernel) (Nat.le_of_ble_eq_true rfl) (fun X C hR => wX2_paint (F := F) C hR  hf)
theorem dX2_erase_0 : decode cX2_erase 0 = .ok (.iload_n 1, 1) := by decide +kernel
theorem dX2_erase_1 : decode cX2_erase 1 = .ok (.iconst 4, 1) := by decide +kernel
theorem dX2_erase_2 : decode cX2_erase 2 = .ok (.invokestatic 35, 3) := by decide +kernel
theorem dX2_erase_5 : decode cX2_erase 5 = .ok (.ifCond .eq 15, 3) := by decide +kernel
theorem dX2_erase_8 : decode cX2_erase 8 = .ok (.iload_n 2, 1) := by decide +kernel
theorem dX2_erase_9 : decode cX2_erase 9 = .ok (.iload_n 3, 1) := by decide +kernel
theorem dX2_erase_10 : decode cX2_erase 10 = .ok (.iload 4, 2) := by decide +kernel
theorem dX2_erase_12 : decode cX2_erase 12 = .ok (.iload 5, 2) := by decide +kernel
theorem dX2_erase_14 : decode cX2_erase 14 = .ok (.invokestatic 39, 3) := by decide +kernel
theorem dX2_erase_17 : decode cX2_erase 17 = .ok (.ifCond .ne 6, 3) := by decide +kernel
theorem dX2_erase_20 : decode cX2_erase 20 = .ok (.bipush (-2), 2) := by decide +kernel
theorem dX2_erase_22 : decode cX2_erase 22 = .ok (.ireturn, 1) := by decide +kernel
theorem dX2_erase_23 : decode cX2_erase 23 = .ok (.iload_n 2, 1) := by decide +kernel
theorem dX2_erase_24 : decode cX2_erase 24 = .ok (.iload_n 3, 1) := by decide +kernel
theorem dX2_erase_25 : decode cX2_erase 25 = .ok (.iload 4, 2) := by decide +kernel
theorem dX2_erase_27 : decode cX2_erase 27 = .ok (.iload 5, 2) := by decide +kernel
theorem dX2_erase_29 : decode cX2_erase 29 = .ok (.invokestatic 43, 3) := by decide +kernel
theorem dX2_erase_32 : decode cX2_erase 32 = .ok (.aload_n 0, 1) := by decide +kernel
theorem dX2_erase_33 : decode cX2_erase 33 = .ok (.getfield 9, 3) := by decide +kernel
theorem dX2_erase_36 : decode cX2_erase 36 = .ok (.iload_n 1, 1) := by decide +kernel
theorem dX2_erase_37 : decode cX2_erase 37 = .ok (.laload, 1) := by decide +kernel
theorem dX2_erase_38 : decode cX2_erase 38 = .ok (.land, 1) := by decide +kernel
theorem dX2_erase_39 : decode cX2_erase 39 = .ok (.lstore 6, 2) := by decide +kernel
theorem dX2_erase_41 : decode cX2_erase 41 = .ok (.aload_n 0, 1) := by decide +kernel
theorem dX2_erase_42 : decode cX2_erase 42 = .ok (.getfield 9, 3) := by decide +kernel
theorem dX2_erase_45 : decode cX2_erase 45 = .ok (.iload_n 1, 1) := by decide +kernel
theorem dX2_erase_46 : decode cX2_erase 46 = .ok (.dup2, 1) := by decide +kernel
theorem dX2_erase_47 : decode cX2_erase 47 = .ok (.laload, 1) := by decide +kernel
theorem dX2_erase_48 : decode cX2_erase 48 = .ok (.lload 6, 2) := by decide +kernel
theorem dX2_erase_50 : decode cX2_erase 50 = .ok (.ldc2_w 47, 3) := by decide +kernel
theorem dX2_erase_53 : decode cX2_erase 53 = .ok (.lxor, 1) := by decide +kernel
theorem dX2_erase_54 : decode cX2_erase 54 = .ok (.land, 1) := by decide +kernel
theorem dX2_erase_55 : decode cX2_erase 55 = .ok (.lastore, 1) := by decide +kernel
theorem dX2_erase_56 : decode cX2_erase 56 = .ok (.lload 6, 2) := by decide +kernel
theorem dX2_erase_58 : decode cX2_erase 58 = .ok (.invokestatic 49, 3) := by decide +kernel
theorem dX2_erase_61 : decode cX2_erase 61 = .ok (.ireturn, 1) := by decide +kernel
def fX2_erase (F : Nat) (x1 : Int32) (x2 : Int32) (x3 : Int32) (x4 : Int32) (x5 : Int32) (sP : zOS) : Option (Int32 × zOS) := (Option.bind (fX4_isWithin x1 (4 : Int32)) (fun r_1 : Int32 => (if r_1 = 0 then (some ((-2 : Int32), sP)) else (Option.bind (fX2_isBox x2 x3 x4 x5) (fun r_3 : Int32 => (if r_3 = 0 then (some ((-2 : Int32), sP)) else (Option.bind (fX2_boxBits F x2 x3 x4 x5) (fun r_5 : Int64 => (zchk x1 4 (zlet (r_5 &&& (zL sP 1 x1.toNatClampNeg)) (fun x6_7 : Int64 => (zchk x1 4 (zchk x1 4 (zlet (zsL sP 1 (vp_updL (zL sP 1) x1.toNatClampNeg ((zL sP 1 x1.toNatClampNeg) &&& (x6_7 ^^^ (-1 : Int64))))) (fun sP_8 : zOS => (Option.bind (fJ13_bitCount_95d88 x6_7) (fun r_9 : Int32 => (some (r_9, sP_8)))))))))))))))))))
set_option maxRecDepth 20000 in
theorem wX2_erase {X : zCx} {res : Int32 × zOS} {F : Nat} {qP : Nat → Nat} {x1 : Int32} {x2 : Int32} {x3 : Int32} {x4 : Int32} {x5 : Int32} {sP : zOS} (C : zC X RX2 cX2_erase 8 3 65) (hR : zR X (some .int) (some (.int res.1)) [(2, qP, res.2)])  : zJ X 8 res (fX2_erase F x1 x2 x3 x4 x5 sP) 0 [(0, (.ref (qP 0))), (1, (.int x1)), (2, (.int x2)), (3, (.int x3)), (4, (.int x4)), (5, (.int x5))] [] [(2, qP, sP)] := by
  unfold fX2_erase
  refine z_iload_n (pc := 0) 1 rfl rfl C dX2_erase_0 ?_
  refine z_iconst (pc := 1) (4 : Int32) (by decide) C dX2_erase_1 ?_
  refine z_callN (pc := 2) (rf' := 0) (rl' := 0) (fX4_isWithin x1 (4 : Int32)) [(.int x1), (.int (4 : Int32))] [] (fun r_1 => (some (.int r_1))) C dX2_erase_2 zy_X4_isWithin (fun U h => h.1) (fun _ hr9 => mX4_isWithin  hr9) (by decide) rfl (Nat.le_of_ble_eq_true rfl) rfl (fun r_1 hr_2 => ?_)
  show zJ X 8 res _ 5 [(0, (.ref (qP 0))), (1, (.int x1)), (2, (.int x2)), (3, (.int x3)), (4, (.int x4)), (5, (.int x5))] [(.int r_1)] [(2, qP, sP)]
  refine z_if_eq (pc := 5) 20 C dX2_erase_5 (by decide) ?_ ?_
  · refine z_bipush (pc := 20) (-2 : Int32) (by decide) C dX2_erase_20 ?_
    exact z_ireturn (pc := 22) C hR dX2_erase_22 (fun h => by subst h; exact ⟨rfl, rfl⟩)
  · refine z_iload_n (pc := 8) 2 rfl rfl C dX2_erase_8 ?_
    refine z_iload_n (pc := 9) 3 rfl rfl C dX2_erase_9 ?_
    refine z_iload (pc := 10) 4 rfl C dX2_erase_10 ?_
    refine z_iload (pc := 12) 5 rfl C dX2_erase_12 ?_
    refine z_callS (pc := 14) (rf' := 2) (rl' := 42) (fX2_isBox x2 x3 x4 x5) [(.int x2), (.int x3), (.int x4), (.int x5)] [] [] (fun r_3 => (some (.int r_3))) (fun r_3 => []) [(2, qP, sP)] (fun r_3 => [(2, qP, sP)]) C dX2_erase_14 zy_X2_isBox zw_307 (fun _ hr9 => mX2_isBox  hr9) (by decide) rfl (Nat.le_of_ble_eq_true rfl) (List.Perm.refl _) (fun _ => List.Perm.refl _) rfl (fun r_3 hr_4 => ?_)
    show zJ X 8 res _ 17 [(0, (.ref (qP 0))), (1, (.int x1)), (2, (.int x2)), (3, (.int x3)), (4, (.int x4)), (5, (.int x5))] [(.int r_3)] [(2, qP, sP)]
    refine z_if_ne (pc := 17) 23 C dX2_erase_17 (by decide) ?_ ?_
    · refine z_bipush (pc := 20) (-2 : Int32) (by decide) C dX2_erase_20 ?_
      exact z_ireturn (pc := 22) C hR dX2_erase_22 (fun h => by subst h; exact ⟨rfl, rfl⟩)
    · refine z_iload_n (pc := 23) 2 rfl rfl C dX2_erase_23 ?_
      refine z_iload_n (pc := 24) 3 rfl rfl C dX2_erase_24 ?_
      refine z_iload (pc := 25) 4 rfl C dX2_erase_25 ?_
      refine z_iload (pc := 27) 5 rfl C dX2_erase_27 ?_
      refine z_callS (pc := 29) (rf' := 0) (rl' := 0) (fX2_boxBits F x2 x3 x4 x5) [(.int x2), (.int x3), (.int x4), (.int x5)] [] [] (fun r_5 => (some (.long r_5))) (fun r_5 => []) [(2, qP, sP)] (fun r_5 => [(2, qP, sP)]) C dX2_erase_29 zy_X2_boxBits zw_314 (fun _ hr9 => mX2_boxBits  hr9) (by decide) rfl (Nat.le_of_ble_eq_true rfl) (List.Perm.refl _) (fun _ => List.Perm.refl _) rfl (fun r_5 hr_6 => ?_)
      show zJ X 8 res _ 32 [(0, (.ref (qP 0))), (1, (.int x1)), (2, (.int x2)), (3, (.int x3)), (4, (.int x4)), (5, (.int x5))] [(.long r_5)] [(2, qP, sP)]
      refine z_aload_n (pc := 32) 0 rfl rfl C dX2_erase_32 ?_
      refine z_getR (pc := 33) 0 0 1 C dX2_erase_33 rfl (by decide) (by decide) rfl zw_109 ?_
      refine z_iload_n (pc := 36) 1 rfl rfl C dX2_erase_36 ?_
      refine z_lald (pc := 37) 0 C dX2_erase_37 rfl (by unfold zAr; decide) ?_
      refine z_land (pc := 38) C dX2_erase_38 ?_
      refine z_letl (fun x6_7 => ?_)
      refine z_lstore (pc := 39) [(0, (.ref (qP 0))), (1, (.int x1)), (2, (.int x2)), (3, (.int x3)), (4, (.int x4)), (5, (.int x5)), (6, (.long x6_7))] [1, 2, 3, 4, 5, 6, 0] (by decide) rfl C dX2_erase_39 ?_
      refine z_aload_n (pc := 41) 0 rfl rfl C dX2_erase_41 ?_
      refine z_getR (pc := 42) 0 0 1 C dX2_erase_42 rfl (by decide) (by decide) rfl zw_109 ?_
      refine z_iload_n (pc := 45) 1 rfl rfl C dX2_erase_45 ?_
      refine z_dup2 (pc := 46) rfl rfl C dX2_erase_46 ?_
      refine z_lald (pc := 47) 0 C dX2_erase_47 rfl (by unfold zAr; decide) ?_
      refine z_lload (pc := 48) 6 rfl C dX2_erase_48 ?_
      refine z_ldc2_w (pc := 50) (-1 : Int64) zw_317 C dX2_erase_50 ?_
      refine z_lxor (pc := 53) C dX2_erase_53 ?_
      refine z_land (pc := 54) C dX2_erase_54 ?_
      refine z_last (pc := 55) 0 C dX2_erase_55 rfl (by unfold zAr; decide) [(2, qP, (zsL sP 1 (vp_updL (zL sP 1) x1.toNatClampNeg ((zL sP 1 x1.toNatClampNeg) &&& (x6_7 ^^^ (-1 : Int64))))))] rfl ?_
      refine z_letc (fun z9 => [(2, qP, z9)]) (fun sP_8 => ?_)
      refine z_lload (pc := 56) 6 rfl C dX2_erase_56 ?_
      refine z_callS (pc := 58) (rf' := 0) (rl' := 0) (fJ13_bitCount_95d88 x6_7) [(.long x6_7)] [] [] (fun r_9 => (some (.int r_9))) (fun r_9 => []) [(2, qP, sP_8)] (fun r_9 => [(2, qP, sP_8)]) C dX2_erase_58 zy_J13_bitCount_95d88 zw_318 (fun _ hr9 => mJ13_bitCount_95d88  hr9) (by decide) rfl (Nat.le_of_ble_eq_true rfl) (List.Perm.refl _) (fun _ => List.Perm.refl _) rfl (fun r_9 hr_10 => ?_)
      show zJ X 8 res _ 61 [(0, (.ref (qP 0))), (1, (.int x1)), (2, (.int x2)), (3, (.int x3)), (4, (.int x4)), (5, (.int x5)), (6, (.long x6_7))] [(.int r_9)] [(2, qP, sP_8)]
      exact z_ireturn (pc := 61) C hR dX2_erase_61 (fun h => by subst h; exact ⟨rfl, rfl⟩)
theorem mX2_erase {F : Nat} {qP : Nat → Nat} {x1 : Int32} {x2 : Int32} {x3 : Int32} {x4 : Int32} {x5 : Int32} {sP : zOS} {res : Int32 × zOS}  (hf : fX2_erase F x1 x2 x3 x4 x5 sP = some res) : zM yX2_erase cX2_erase 8 (some .int) 3 65 [(.ref (qP 0)), (.int x1), (.int x2), (.int x3), (.int x4), (.int x5)] [(2, qP, sP)] (some (.int res.1)) [(2, qP, res.2)] := zM_of (by decide +kernel) (Nat.le_of_ble_eq_true rfl) (fun X C hR => wX2_erase (F := F) C hR  hf)
theorem dX2_shift_0 : decode cX2_shift 0 = .ok (.iload_n 1, 1) := by decide +kernel
theorem dX2_shift_1 : decode cX2_shift 1 = .ok (.iconst 4, 1) := by decide +kernel
theorem dX2_shift_2 : decode cX2_shift 2 = .ok (.invokestatic 35, 3) := by decide +kernel
theorem dX2_shift_5 : decode cX2_shift 5 = .ok (.ifCond .eq 17, 3) := by decide +kernel
theorem dX2_shift_8 : decode cX2_shift 8 = .ok (.iload_n 2, 1) := by decide +kernel
theorem dX2_shift_9 : decode cX2_shift 9 = .ok (.invokestatic 55, 3) := by decide +kernel
theorem dX2_shift_12 : decode cX2_shift 12 = .ok (.ifCond .eq 10, 3) := by decide +kernel
theorem dX2_shift_15 : decode cX2_shift 15 = .ok (.iload_n 3, 1) := by decide +kernel
theorem dX2_shift_16 : decode cX2_shift 16 = .ok (.invokestatic 55, 3) := by decide +kernel
theorem dX2_shift_19 : decode cX2_shift 19 = .ok (.ifCond .ne 6, 3) := by decide +kernel
theorem dX2_shift_22 : decode cX2_shift 22 = .ok (.bipush (-2), 2) := by decide +kernel
theorem dX2_shift_24 : decode cX2_shift 24 = .ok (.ireturn, 1) := by decide +kernel
theorem dX2_shift_25 : decode cX2_shift 25 = .ok (.lconst 0, 1) := by decide +kernel
theorem dX2_shift_26 : decode cX2_shift 26 = .ok (.lstore 4, 2) := by decide +kernel
theorem dX2_shift_28 : decode cX2_shift 28 = .ok (.iconst 0, 1) := by decide +kernel
theorem dX2_shift_29 : decode cX2_shift 29 = .ok (.istore 6, 2) := by decide +kernel
theorem dX2_shift_31 : decode cX2_shift 31 = .ok (.iload 6, 2) := by decide +kernel
theorem dX2_shift_33 : decode cX2_shift 33 = .ok (.bipush 8, 2) := by decide +kernel
theorem dX2_shift_35 : decode cX2_shift 35 = .ok (.if_icmp .ge 74, 3) := by decide +kernel
theorem dX2_shift_38 : decode cX2_shift 38 = .ok (.iconst 0, 1) := by decide +kernel
theorem dX2_shift_39 : decode cX2_shift 39 = .ok (.istore 7, 2) := by decide +kernel
theorem dX2_shift_41 : decode cX2_shift 41 = .ok (.iload 7, 2) := by decide +kernel
theorem dX2_shift_43 : decode cX2_shift 43 = .ok (.bipush 8, 2) := by decide +kernel
theorem dX2_shift_45 : decode cX2_shift 45 = .ok (.if_icmp .ge 58, 3) := by decide +kernel
theorem dX2_shift_48 : decode cX2_shift 48 = .ok (.aload_n 0, 1) := by decide +kernel
theorem dX2_shift_49 : decode cX2_shift 49 = .ok (.getfield 9, 3) := by decide +kernel
theorem dX2_shift_52 : decode cX2_shift 52 = .ok (.iload_n 1, 1) := by decide +kernel
theorem dX2_shift_53 : decode cX2_shift 53 = .ok (.laload, 1) := by decide +kernel
theorem dX2_shift_54 : decode cX2_shift 54 = .ok (.iload 7, 2) := by decide +kernel
theorem dX2_shift_56 : decode cX2_shift 56 = .ok (.iload 6, 2) := by decide +kernel
theorem dX2_shift_58 : decode cX2_shift 58 = .ok (.invokestatic 59, 3) := by decide +kernel
theorem dX2_shift_61 : decode cX2_shift 61 = .ok (.land, 1) := by decide +kernel
theorem dX2_shift_62 : decode cX2_shift 62 = .ok (.lconst 0, 1) := by decide +kernel
theorem dX2_shift_63 : decode cX2_shift 63 = .ok (.lcmp, 1) := by decide +kernel
theorem dX2_shift_64 : decode cX2_shift 64 = .ok (.ifCond .eq 33, 3) := by decide +kernel
theorem dX2_shift_67 : decode cX2_shift 67 = .ok (.iload 7, 2) := by decide +kernel
theorem dX2_shift_69 : decode cX2_shift 69 = .ok (.iload_n 2, 1) := by decide +kernel
theorem dX2_shift_70 : decode cX2_shift 70 = .ok (.iadd, 1) := by decide +kernel
theorem dX2_shift_71 : decode cX2_shift 71 = .ok (.iload 6, 2) := by decide +kernel
theorem dX2_shift_73 : decode cX2_shift 73 = .ok (.iload_n 3, 1) := by decide +kernel
theorem dX2_shift_74 : decode cX2_shift 74 = .ok (.iadd, 1) := by decide +kernel
theorem dX2_shift_75 : decode cX2_shift 75 = .ok (.invokestatic 63, 3) := by decide +kernel
theorem dX2_shift_78 : decode cX2_shift 78 = .ok (.ifCond .eq 19, 3) := by decide +kernel
theorem dX2_shift_81 : decode cX2_shift 81 = .ok (.lload 4, 2) := by decide +kernel
theorem dX2_shift_83 : decode cX2_shift 83 = .ok (.iload 7, 2) := by decide +kernel
theorem dX2_shift_85 : decode cX2_shift 85 = .ok (.iload_n 2, 1) := by decide +kernel
theorem dX2_shift_86 : decode cX2_shift 86 = .ok (.iadd, 1) := by decide +kernel
theorem dX2_shift_87 : decode cX2_shift 87 = .ok (.iload 6, 2) := by decide +kernel
theorem dX2_shift_89 : decode cX2_shift 89 = .ok (.iload_n 3, 1) := by decide +kernel
theorem dX2_shift_90 : decode cX2_shift 90 = .ok (.iadd, 1) := by decide +kernel
theorem dX2_shift_91 : decode cX2_shift 91 = .ok (.invokestatic 59, 3) := by decide +kernel
theorem dX2_shift_94 : decode cX2_shift 94 = .ok (.lor, 1) := by decide +kernel
theorem dX2_shift_95 : decode cX2_shift 95 = .ok (.lstore 4, 2) := by decide +kernel
theorem dX2_shift_97 : decode cX2_shift 97 = .ok (.iinc 7 1, 3) := by decide +kernel
theorem dX2_shift_100 : decode cX2_shift 100 = .ok (.goto (-59), 3) := by decide +kernel
theorem dX2_shift_103 : decode cX2_shift 103 = .ok (.iinc 6 1, 3) := by decide +kernel
theorem dX2_shift_106 : decode cX2_shift 106 = .ok (.goto (-75), 3) := by decide +kernel
theorem dX2_shift_109 : decode cX2_shift 109 = .ok (.aload_n 0, 1) := by decide +kernel
theorem dX2_shift_110 : decode cX2_shift 110 = .ok (.getfield 9, 3) := by decide +kernel
theorem dX2_shift_113 : decode cX2_shift 113 = .ok (.iload_n 1, 1) := by decide +kernel
theorem dX2_shift_114 : decode cX2_shift 114 = .ok (.lload 4, 2) := by decide +kernel
theorem dX2_shift_116 : decode cX2_shift 116 = .ok (.lastore, 1) := by decide +kernel
theorem dX2_shift_117 : decode cX2_shift 117 = .ok (.lload 4, 2) := by decide +kernel
theorem dX2_shift_119 : decode cX2_shift 119 = .ok (.invokestatic 49, 3) := by decide +kernel
theorem dX2_shift_122 : decode cX2_shift 122 = .ok (.ireturn, 1) := by decide +kernel
def bX2_shift_41 (F : Nat) (kc_31 : (Int64 × Int32) → Option (Int32 × zOS)) (x1 : Int32) (x2 : Int32) (x3 : Int32) (x6 : Int32) (sP : zOS) (kc_41 : (Int64 × Int32) → Option (Int32 × zOS)) (x4 : Int64) (x7 : Int32) : Option (Int32 × zOS) := (if (8 : Int32) ≤ x7 then (kc_31 (x4, (x6 + 1))) else (zchk x1 4 (Option.bind (fX4_cellBit x7 x6) (fun r_10 : Int64 => (if (lg_cmp ((zL sP 1 x1.toNatClampNeg) &&& r_10) (0 : Int64)) = 0 then (kc_41 (x4, (x7 + 1))) else (Option.bind (fX4_isCell (x7 + x2) (x6 + x3)) (fun r_12 : Int32 => (if r_12 = 0 then (kc_41 (x4, (x7 + 1))) else (Option.bind (fX4_cellBit (x7 + x2) (x6 + x3)) (fun r_14 : Int64 => (zlet (x4 ||| r_14) (fun x4_16 : Int64 => (kc_41 (x4_16, (x7 + 1)))))))))))))))
set_option maxRecDepth 20000 in
theorem vX2_shift_41 {X : zCx} {res : Int32 × zOS} {F : Nat} {qP : Nat → Nat} {sP : zOS} {x1 : Int32} {x2 : Int32} {x3 : Int32} {x6 : Int32} {kc_31 : (Int64 × Int32) → Option (Int32 × zOS)} {kc_41 : (Int64 × Int32) → Option (Int32 × zOS)} (C : zC X RX2 cX2_shift 8 2 42) (hR : zR X (some .int) (some (.int res.1)) [(2, qP, res.2)]) (hk_31 : ∀ (y4 : Int64) (y6 : Int32), zJ X 8 res (kc_31 (y4, y6)) 31 [(0, (.ref (qP 0))), (1, (.int x1)), (2, (.int x2)), (3, (.int x3)), (4, (.long y4)), (6, (.int y6))] [] [(2, qP, sP)]) (hk_41 : ∀ (y4 : Int64) (y7 : Int32), zJ X 8 res (kc_41 (y4, y7)) 41 [(0, (.ref (qP 0))), (1, (.int x1)), (2, (.int x2)), (3, (.int x3)), (4, (.long y4)), (6, (.int x6)), (7, (.int y7))] [] [(2, qP, sP)]) (x4 : Int64) (x7 : Int32) : zJ X 8 res (bX2_shift_41 F kc_31 x1 x2 x3 x6 sP kc_41 x4 x7) 41 [(0, (.ref (qP 0))), (1, (.int x1)), (2, (.int x2)), (3, (.int x3)), (4, (.long x4)), (6, (.int x6)), (7, (.int x7))] [] [(2, qP, sP)] := by
  unfold bX2_shift_41
  refine z_iload (pc := 41) 6 rfl C dX2_shift_41 ?_
  refine z_bipush (pc := 43) (8 : Int32) (by decide) C dX2_shift_43 ?_
  refine z_icmp_ge (pc := 45) 103 C dX2_shift_45 (by decide) ?_ ?_
  · refine z_iinc (pc := 103) (x6 + 1) 5 rfl rfl [(0, (.ref (qP 0))), (1, (.int x1)), (2, (.int x2)), (3, (.int x3)), (4, (.long x4)), (6, (.int (x6 + 1))), (7, (.int x7))] [1, 2, 3, 4, 5, 0, 6] (by decide) rfl C dX2_shift_103 ?_
    refine z_goto (pc := 106) 31 C dX2_shift_106 (by decide) ?_
    refine z_lv [(0, (.ref (qP 0))), (1, (.int x1)), (2, (.int x2)), (3, (.int x3)), (4, (.long x4)), (6, (.int (x6 + 1)))] [0, 1, 2, 3, 4, 5] rfl ?_
    exact hk_31 _ _
  · refine z_aload_n (pc := 48) 0 rfl rfl C dX2_shift_48 ?_
    refine z_getR (pc := 49) 0 0 1 C dX2_shift_49 rfl (by decide) (by decide) rfl zw_109 ?_
    refine z_iload_n (pc := 52) 1 rfl rfl C dX2_shift_52 ?_
    refine z_lald (pc := 53) 0 C dX2_shift_53 rfl (by unfold zAr; decide) ?_
    refine z_iload (pc := 54) 6 rfl C dX2_shift_54 ?_
    refine z_iload (pc := 56) 5 rfl C dX2_shift_56 ?_
    refine z_callN (pc := 58) (rf' := 0) (rl' := 0) (fX4_cellBit x7 x6) [(.int x7), (.int x6)] [(.long (zL sP 1 x1.toNatClampNeg))] (fun r_10 => (some (.long r_10))) C dX2_shift_58 zy_X4_cellBit (fun U h => h.2.2.1) (fun _ hr9 => mX4_cellBit  hr9) (by decide) rfl (Nat.le_of_ble_eq_true rfl) rfl (fun r_10 hr_11 => ?_)
    show zJ X 8 res _ 61 [(0, (.ref (qP 0))), (1, (.int x1)), (2, (.int x2)), (3, (.int x3)), (4, (.long x4)), (6, (.int x6)), (7, (.int x7))] [(.long r_10), (.long (zL sP 1 x1.toNatClampNeg))] [(2, qP, sP)]
    refine z_land (pc := 61) C dX2_shift_61 ?_
    refine z_lconst (pc := 62) (0 : Int64) (by decide) C dX2_shift_62 ?_
    refine z_lcmp (pc := 63) C dX2_shift_63 ?_
    refine z_if_eq (pc := 64) 97 C dX2_shift_64 (by decide) ?_ ?_
    · refine z_iinc (pc := 97) (x7 + 1) 6 rfl rfl [(0, (.ref (qP 0))), (1, (.int x1)), (2, (.int x2)), (3, (.int x3)), (4, (.long x4)), (6, (.int x6)), (7, (.int (x7 + 1)))] [1, 2, 3, 4, 5, 6, 0] (by decide) rfl C dX2_shift_97 ?_
      refine z_goto (pc := 100) 41 C dX2_shift_100 (by decide) ?_
      exact hk_41 _ _
    · refine z_iload (pc := 67) 6 rfl C dX2_shift_67 ?_
      refine z_iload_n (pc := 69) 2 rfl rfl C dX2_shift_69 ?_
      refine z_iadd (pc := 70) C dX2_shift_70 ?_
      refine z_iload (pc := 71) 5 rfl C dX2_shift_71 ?_
      refine z_iload_n (pc := 73) 3 rfl rfl C dX2_shift_73 ?_
      refine z_iadd (pc := 74) C dX2_shift_74 ?_
      refine z_callN (pc := 75) (rf' := 1) (rl' := 21) (fX4_isCell (x7 + x2) (x6 + x3)) [(.int (x7 + x2)), (.int (x6 + x3))] [] (fun r_12 => (some (.int r_12))) C dX2_shift_75 zy_X4_isCell (fun U h => h.2.1) (fun _ hr9 => mX4_isCell  hr9) (by decide) rfl (Nat.le_of_ble_eq_true rfl) rfl (fun r_12 hr_13 => ?_)
      show zJ X 8 res _ 78 [(0, (.ref (qP 0))), (1, (.int x1)), (2, (.int x2)), (3, (.int x3)), (4, (.long x4)), (6, (.int x6)), (7, (.int x7))] [(.int r_12)] [(2, qP, sP)]
      refine z_if_eq (pc := 78) 97 C dX2_shift_78 (by decide) ?_ ?_
      · refine z_iinc (pc := 97) (x7 + 1) 6 rfl rfl [(0, (.ref (qP 0))), (1, (.int x1)), (2, (.int x2)), (3, (.int x3)), (4, (.long x4)), (6, (.int x6)), (7, (.int (x7 + 1)))] [1, 2, 3, 4, 5, 6, 0] (by decide) rfl C dX2_shift_97 ?_
        refine z_goto (pc := 100) 41 C dX2_shift_100 (by decide) ?_
        exact hk_41 _ _
      · refine z_lload (pc := 81) 4 rfl C dX2_shift_81 ?_
        refine z_iload (pc := 83) 6 rfl C dX2_shift_83 ?_
        refine z_iload_n (pc := 85) 2 rfl rfl C dX2_shift_85 ?_
        refine z_iadd (pc := 86) C dX2_shift_86 ?_
        refine z_iload (pc := 87) 5 rfl C dX2_shift_87 ?_
        refine z_iload_n (pc := 89) 3 rfl rfl C dX2_shift_89 ?_
        refine z_iadd (pc := 90) C dX2_shift_90 ?_
        refine z_callN (pc := 91) (rf' := 0) (rl' := 0) (fX4_cellBit (x7 + x2) (x6 + x3)) [(.int (x7 + x2)), (.int (x6 + x3))] [(.long x4)] (fun r_14 => (some (.long r_14))) C dX2_shift_91 zy_X4_cellBit (fun U h => h.2.2.1) (fun _ hr9 => mX4_cellBit  hr9) (by decide) rfl (Nat.le_of_ble_eq_true rfl) rfl (fun r_14 hr_15 => ?_)
        show zJ X 8 res _ 94 [(0, (.ref (qP 0))), (1, (.int x1)), (2, (.int x2)), (3, (.int x3)), (4, (.long x4)), (6, (.int x6)), (7, (.int x7))] [(.long r_14), (.long x4)] [(2, qP, sP)]
        refine z_lor (pc := 94) C dX2_shift_94 ?_
        refine z_letl (fun x4_16 => ?_)
        refine z_lstore (pc := 95) [(0, (.ref (qP 0))), (1, (.int x1)), (2, (.int x2)), (3, (.int x3)), (4, (.long x4_16)), (6, (.int x6)), (7, (.int x7))] [1, 2, 3, 4, 0, 5, 6] (by decide) rfl C dX2_shift_95 ?_
        refine z_iinc (pc := 97) (x7 + 1) 6 rfl rfl [(0, (.ref (qP 0))), (1, (.int x1)), (2, (.int x2)), (3, (.int x3)), (4, (.long x4_16)), (6, (.int x6)), (7, (.int (x7 + 1)))] [1, 2, 3, 4, 5, 6, 0] (by decide) rfl C dX2_shift_97 ?_
        refine z_goto (pc := 100) 41 C dX2_shift_100 (by decide) ?_
        exact hk_41 _ _
def bX2_shift_31 (F : Nat) (x1 : Int32) (x2 : Int32) (x3 : Int32) (sP : zOS) (kc_31 : (Int64 × Int32) → Option (Int32 × zOS)) (x4 : Int64) (x6 : Int32) : Option (Int32 × zOS) := (if (8 : Int32) ≤ x6 then (zchk x1 4 (zlet (zsL sP 1 (vp_updL (zL sP 1) x1.toNatClampNeg x4)) (fun sP_7 : zOS => (Option.bind (fJ13_bitCount_95d88 x4) (fun r_8 : Int32 => (some (r_8, sP_7))))))) else (zit (P := Int64 × Int32) (R := Int32 × zOS) (fun kc9 p9 => bX2_shift_41 F kc_31 x1 x2 x3 x6 sP kc9 p9.1 p9.2) F (x4, (0 : Int32))))
set_option maxRecDepth 20000 in
theorem vX2_shift_31 {X : zCx} {res : Int32 × zOS} {F : Nat} {qP : Nat → Nat} {sP : zOS} {x1 : Int32} {x2 : Int32} {x3 : Int32} {kc_31 : (Int64 × Int32) → Option (Int32 × zOS)} (C : zC X RX2 cX2_shift 8 2 42) (hR : zR X (some .int) (some (.int res.1)) [(2, qP, res.2)]) (hk_31 : ∀ (y4 : Int64) (y6 : Int32), zJ X 8 res (kc_31 (y4, y6)) 31 [(0, (.ref (qP 0))), (1, (.int x1)), (2, (.int x2)), (3, (.int x3)), (4, (.long y4)), (6, (.int y6))] [] [(2, qP, sP)]) (x4 : Int64) (x6 : Int32) : zJ X 8 res (bX2_shift_31 F x1 x2 x3 sP kc_31 x4 x6) 31 [(0, (.ref (qP 0))), (1, (.int x1)), (2, (.int x2)), (3, (.int x3)), (4, (.long x4)), (6, (.int x6))] [] [(2, qP, sP)] := by
  unfold bX2_shift_31
  refine z_iload (pc := 31) 5 rfl C dX2_shift_31 ?_
  refine z_bipush (pc := 33) (8 : Int32) (by decide) C dX2_shift_33 ?_
  refine z_icmp_ge (pc := 35) 109 C dX2_shift_35 (by decide) ?_ ?_
  · refine z_aload_n (pc := 109) 0 rfl rfl C dX2_shift_109 ?_
    refine z_getR (pc := 110) 0 0 1 C dX2_shift_110 rfl (by decide) (by decide) rfl zw_109 ?_
    refine z_iload_n (pc := 113) 1 rfl rfl C dX2_shift_113 ?_
    refine z_lload (pc := 114) 4 rfl C dX2_shift_114 ?_
    refine z_last (pc := 116) 0 C dX2_shift_116 rfl (by unfold zAr; decide) [(2, qP, (zsL sP 1 (vp_updL (zL sP 1) x1.toNatClampNeg x4)))] rfl ?_
    refine z_letc (fun z9 => [(2, qP, z9)]) (fun sP_7 => ?_)
    refine z_lload (pc := 117) 4 rfl C dX2_shift_117 ?_
    refine z_callS (pc := 119) (rf' := 0) (rl' := 0) (fJ13_bitCount_95d88 x4) [(.long x4)] [] [] (fun r_8 => (some (.int r_8))) (fun r_8 => []) [(2, qP, sP_7)] (fun r_8 => [(2, qP, sP_7)]) C dX2_shift_119 zy_J13_bitCount_95d88 zw_318 (fun _ hr9 => mJ13_bitCount_95d88  hr9) (by decide) rfl (Nat.le_of_ble_eq_true rfl) (List.Perm.refl _) (fun _ => List.Perm.refl _) rfl (fun r_8 hr_9 => ?_)
    show zJ X 8 res _ 122 [(0, (.ref (qP 0))), (1, (.int x1)), (2, (.int x2)), (3, (.int x3)), (4, (.long x4)), (6, (.int x6))] [(.int r_8)] [(2, qP, sP_7)]
    exact z_ireturn (pc := 122) C hR dX2_shift_122 (fun h => by subst h; exact ⟨rfl, rfl⟩)
  · refine z_iconst (pc := 38) (0 : Int32) (by decide) C dX2_shift_38 ?_
    refine z_istore (pc := 39) [(0, (.ref (qP 0))), (1, (.int x1)), (2, (.int x2)), (3, (.int x3)), (4, (.long x4)), (6, (.int x6)), (7, (.int (0 : Int32)))] [1, 2, 3, 4, 5, 6, 0] (by decide) rfl C dX2_shift_39 ?_
    show zJ X 8 res _ 41 [(0, (.ref (qP 0))), (1, (.int x1)), (2, (.int x2)), (3, (.int x3)), (4, (.long x4)), (6, (.int x6)), (7, (.int (0 : Int32)))] [] [(2, qP, sP)]
    exact zit_J (P := Int64 × Int32) (B := (fun kc9 p9 => bX2_shift_41 F kc_31 x1 x2 x3 x6 sP kc9 p9.1 p9.2)) (fun p9 => [(0, (.ref (qP 0))), (1, (.int x1)), (2, (.int x2)), (3, (.int x3)), (4, (.long p9.1)), (6, (.int x6)), (7, (.int p9.2))]) (fun p9 => [(2, qP, sP)]) (fun kc9 hk9 p9 => vX2_shift_41 C hR  hk_31 (fun a0 a1 => hk9 (a0, a1)) p9.1 p9.2) F _
def fX2_shift (F : Nat) (x1 : Int32) (x2 : Int32) (x3 : Int32) (sP : zOS) : Option (Int32 × zOS) := (Option.bind (fX4_isWithin x1 (4 : Int32)) (fun r_1 : Int32 => (if r_1 = 0 then (some ((-2 : Int32), sP)) else (Option.bind (fX2_isStep x2) (fun r_3 : Int32 => (if r_3 = 0 then (some ((-2 : Int32), sP)) else (Option.bind (fX2_isStep x3) (fun r_5 : Int32 => (if r_5 = 0 then (some ((-2 : Int32), sP)) else (zit (P := Int64 × Int32) (R := Int32 × zOS) (fun kc9 p9 => bX2_shift_31 F x1 x2 x3 sP kc9 p9.1 p9.2) F ((0 : Int64), (0 : Int32))))))))))))
set_option maxRecDepth 20000 in
theorem wX2_shift {X : zCx} {res : Int32 × zOS} {F : Nat} {qP : Nat → Nat} {x1 : Int32} {x2 : Int32} {x3 : Int32} {sP : zOS} (C : zC X RX2 cX2_shift 8 2 42) (hR : zR X (some .int) (some (.int res.1)) [(2, qP, res.2)])  : zJ X 8 res (fX2_shift F x1 x2 x3 sP) 0 [(0, (.ref (qP 0))), (1, (.int x1)), (2, (.int x2)), (3, (.int x3))] [] [(2, qP, sP)] := by
  unfold fX2_shift
  refine z_iload_n (pc := 0) 1 rfl rfl C dX2_shift_0 ?_
  refine z_iconst (pc := 1) (4 : Int32) (by decide) C dX2_shift_1 ?_
  refine z_callN (pc := 2) (rf' := 0) (rl' := 0) (fX4_isWithin x1 (4 : Int32)) [(.int x1), (.int (4 : Int32))] [] (fun r_1 => (some (.int r_1))) C dX2_shift_2 zy_X4_isWithin (fun U h => h.1) (fun _ hr9 => mX4_isWithin  hr9) (by decide) rfl (Nat.le_of_ble_eq_true rfl) rfl (fun r_1 hr_2 => ?_)
  show zJ X 8 res _ 5 [(0, (.ref (qP 0))), (1, (.int x1)), (2, (.int x2)), (3, (.int x3))] [(.int r_1)] [(2, qP, sP)]
  refine z_if_eq (pc := 5) 22 C dX2_shift_5 (by decide) ?_ ?_
  · refine z_bipush (pc := 22) (-2 : Int32) (by decide) C dX2_shift_22 ?_
    exact z_ireturn (pc := 24) C hR dX2_shift_24 (fun h => by subst h; exact ⟨rfl, rfl⟩)
  · refine z_iload_n (pc := 8) 2 rfl rfl C dX2_shift_8 ?_
    refine z_callS (pc := 9) (rf' := 0) (rl' := 0) (fX2_isStep x2) [(.int x2)] [] [] (fun r_3 => (some (.int r_3))) (fun r_3 => []) [(2, qP, sP)] (fun r_3 => [(2, qP, sP)]) C dX2_shift_9 zy_X2_isStep zw_356 (fun _ hr9 => mX2_isStep  hr9) (by decide) rfl (Nat.le_of_ble_eq_true rfl) (List.Perm.refl _) (fun _ => List.Perm.refl _) rfl (fun r_3 hr_4 => ?_)
    show zJ X 8 res _ 12 [(0, (.ref (qP 0))), (1, (.int x1)), (2, (.int x2)), (3, (.int x3))] [(.int r_3)] [(2, qP, sP)]
    refine z_if_eq (pc := 12) 22 C dX2_shift_12 (by decide) ?_ ?_
    · refine z_bipush (pc := 22) (-2 : Int32) (by decide) C dX2_shift_22 ?_
      exact z_ireturn (pc := 24) C hR dX2_shift_24 (fun h => by subst h; exact ⟨rfl, rfl⟩)
    · refine z_iload_n (pc := 15) 3 rfl rfl C dX2_shift_15 ?_
      refine z_callS (pc := 16) (rf' := 0) (rl' := 0) (fX2_isStep x3) [(.int x3)] [] [] (fun r_5 => (some (.int r_5))) (fun r_5 => []) [(2, qP, sP)] (fun r_5 => [(2, qP, sP)]) C dX2_shift_16 zy_X2_isStep zw_356 (fun _ hr9 => mX2_isStep  hr9) (by decide) rfl (Nat.le_of_ble_eq_true rfl) (List.Perm.refl _) (fun _ => List.Perm.refl _) rfl (fun r_5 hr_6 => ?_)
      show zJ X 8 res _ 19 [(0, (.ref (qP 0))), (1, (.int x1)), (2, (.int x2)), (3, (.int x3))] [(.int r_5)] [(2, qP, sP)]
      refine z_if_ne (pc := 19) 25 C dX2_shift_19 (by decide) ?_ ?_
      · refine z_bipush (pc := 22) (-2 : Int32) (by decide) C dX2_shift_22 ?_
        exact z_ireturn (pc := 24) C hR dX2_shift_24 (fun h => by subst h; exact ⟨rfl, rfl⟩)
      · refine z_lconst (pc := 25) (0 : Int64) (by decide) C dX2_shift_25 ?_
        refine z_lstore (pc := 26) [(0, (.ref (qP 0))), (1, (.int x1)), (2, (.int x2)), (3, (.int x3)), (4, (.long (0 : Int64)))] [1, 2, 3, 4, 0] (by decide) rfl C dX2_shift_26 ?_
        refine z_iconst (pc := 28) (0 : Int32) (by decide) C dX2_shift_28 ?_
        refine z_istore (pc := 29) [(0, (.ref (qP 0))), (1, (.int x1)), (2, (.int x2)), (3, (.int x3)), (4, (.long (0 : Int64))), (6, (.int (0 : Int32)))] [1, 2, 3, 4, 5, 0] (by decide) rfl C dX2_shift_29 ?_
        show zJ X 8 res _ 31 [(0, (.ref (qP 0))), (1, (.int x1)), (2, (.int x2)), (3, (.int x3)), (4, (.long (0 : Int64))), (6, (.int (0 : Int32)))] [] [(2, qP, sP)]
        exact zit_J (P := Int64 × Int32) (B := (fun kc9 p9 => bX2_shift_31 F x1 x2 x3 sP kc9 p9.1 p9.2)) (fun p9 => [(0, (.ref (qP 0))), (1, (.int x1)), (2, (.int x2)), (3, (.int x3)), (4, (.long p9.1)), (6, (.int p9.2))]) (fun p9 => [(2, qP, sP)]) (fun kc9 hk9 p9 => vX2_shift_31 C hR   (fun a0 a1 => hk9 (a0, a1)) p9.1 p9.2) F _
theorem mX2_shift {F : Nat} {qP : Nat → Nat} {x1 : Int32} {x2 : Int32} {x3 : Int32} {sP : zOS} {res : Int32 × zOS}  (hf : fX2_shift F x1 x2 x3 sP = some res) : zM yX2_shift cX2_shift 8 (some .int) 2 42 [(.ref (qP 0)), (.int x1), (.int x2), (.int x3)] [(2, qP, sP)] (some (.int res.1)) [(2, qP, res.2)] := zM_of (by decide +kernel) (Nat.le_of_ble_eq_true rfl) (fun X C hR => wX2_shift (F := F) C hR  hf)
theorem dX2_putThree_0 : decode cX2_putThree 0 = .ok (.aload_n 0, 1) := by decide +kernel
theorem dX2_putThree_1 : decode cX2_putThree 1 = .ok (.iconst 3, 1) := by decide +kernel
theorem dX2_putThree_2 : decode cX2_putThree 2 = .ok (.iload_n 1, 1) := by decide +kernel
theorem dX2_putThree_3 : decode cX2_putThree 3 = .ok (.imul, 1) := by decide +kernel
theorem dX2_putThree_4 : decode cX2_putThree 4 = .ok (.iload_n 2, 1) := by decide +kernel
theorem dX2_putThree_5 : decode cX2_putThree 5 = .ok (.iastore, 1) := by decide +kernel
theorem dX2_putThree_6 : decode cX2_putThree 6 = .ok (.aload_n 0, 1) := by decide +kernel
theorem dX2_putThree_7 : decode cX2_putThree 7 = .ok (.iconst 3, 1) := by decide +kernel
theorem dX2_putThree_8 : decode cX2_putThree 8 = .ok (.iload_n 1, 1) := by decide +kernel
theorem dX2_putThree_9 : decode cX2_putThree 9 = .ok (.imul, 1) := by decide +kernel
theorem dX2_putThree_10 : decode cX2_putThree 10 = .ok (.iconst 1, 1) := by decide +kernel
theorem dX2_putThree_11 : decode cX2_putThree 11 = .ok (.iadd, 1) := by decide +kernel
theorem dX2_putThree_12 : decode cX2_putThree 12 = .ok (.iload_n 3, 1) := by decide +kernel
theorem dX2_putThree_13 : decode cX2_putThree 13 = .ok (.iastore, 1) := by decide +kernel
theorem dX2_putThree_14 : decode cX2_putThree 14 = .ok (.aload_n 0, 1) := by decide +kernel
theorem dX2_putThree_15 : decode cX2_putThree 15 = .ok (.iconst 3, 1) := by decide +kernel
theorem dX2_putThree_16 : decode cX2_putThree 16 = .ok (.iload_n 1, 1) := by decide +kernel
theorem dX2_putThree_17 : decode cX2_putThree 17 = .ok (.imul, 1) := by decide +kernel
theorem dX2_putThree_18 : decode cX2_putThree 18 = .ok (.iconst 2, 1) := by decide +kernel
theorem dX2_putThree_19 : decode cX2_putThree 19 = .ok (.iadd, 1) := by decide +kernel
theorem dX2_putThree_20 : decode cX2_putThree 20 = .ok (.iload 4, 2) := by decide +kernel
theorem dX2_putThree_22 : decode cX2_putThree 22 = .ok (.iastore, 1) := by decide +kernel
theorem dX2_putThree_23 : decode cX2_putThree 23 = .ok (.return_, 1) := by decide +kernel
def fX2_putThree (k0 : Nat) (x1 : Int32) (x2 : Int32) (x3 : Int32) (x4 : Int32) (sP : zOS) : Option (zOS) := (zchk ((3 : Int32) * x1) 18 (zlet (zsI sP k0 (upd (zI sP k0) ((3 : Int32) * x1).toNatClampNeg x2)) (fun sP_1 : zOS => (zchk (((3 : Int32) * x1) + (1 : Int32)) 18 (zlet (zsI sP_1 k0 (upd (zI sP_1 k0) (((3 : Int32) * x1) + (1 : Int32)).toNatClampNeg x3)) (fun sP_2 : zOS => (zchk (((3 : Int32) * x1) + (2 : Int32)) 18 (zlet (zsI sP_2 k0 (upd (zI sP_2 k0) (((3 : Int32) * x1) + (2 : Int32)).toNatClampNeg x4)) (fun sP_3 : zOS => (some (sP_3)))))))))))
set_option maxRecDepth 20000 in
theorem wX2_putThree {X : zCx} {res : zOS}  {qP : Nat → Nat} {k0 : Nat} {x1 : Int32} {x2 : Int32} {x3 : Int32} {x4 : Int32} {sP : zOS} (C : zC X RX2 cX2_putThree 5 0 0) (hR : zR X none none [(2, qP, res)]) (ha0 : zAr 2 k0 0 18) : zJ X 5 res (fX2_putThree k0 x1 x2 x3 x4 sP) 0 [(0, (.ref (qP k0))), (1, (.int x1)), (2, (.int x2)), (3, (.int x3)), (4, (.int x4))] [] [(2, qP, sP)] := by
  unfold fX2_putThree
  refine z_aload_n (pc := 0) 0 rfl rfl C dX2_putThree_0 ?_
  refine z_iconst (pc := 1) (3 : Int32) (by decide) C dX2_putThree_1 ?_
  refine z_iload_n (pc := 2) 1 rfl rfl C dX2_putThree_2 ?_
  refine z_imul (pc := 3) C dX2_putThree_3 ?_
  refine z_iload_n (pc := 4) 2 rfl rfl C dX2_putThree_4 ?_
  refine z_iast (pc := 5) 0 C dX2_putThree_5 rfl ha0 [(2, qP, (zsI sP k0 (upd (zI sP k0) ((3 : Int32) * x1).toNatClampNeg x2)))] rfl ?_
  refine z_letc (fun z9 => [(2, qP, z9)]) (fun sP_1 => ?_)
  refine z_aload_n (pc := 6) 0 rfl rfl C dX2_putThree_6 ?_
  refine z_iconst (pc := 7) (3 : Int32) (by decide) C dX2_putThree_7 ?_
  refine z_iload_n (pc := 8) 1 rfl rfl C dX2_putThree_8 ?_
  refine z_imul (pc := 9) C dX2_putThree_9 ?_
  refine z_iconst (pc := 10) (1 : Int32) (by decide) C dX2_putThree_10 ?_
  refine z_iadd (pc := 11) C dX2_putThree_11 ?_
  refine z_iload_n (pc := 12) 3 rfl rfl C dX2_putThree_12 ?_
  refine z_iast (pc := 13) 0 C dX2_putThree_13 rfl ha0 [(2, qP, (zsI sP_1 k0 (upd (zI sP_1 k0) (((3 : Int32) * x1) + (1 : Int32)).toNatClampNeg x3)))] rfl ?_
  refine z_letc (fun z9 => [(2, qP, z9)]) (fun sP_2 => ?_)
  refine z_aload_n (pc := 14) 0 rfl rfl C dX2_putThree_14 ?_
  refine z_iconst (pc := 15) (3 : Int32) (by decide) C dX2_putThree_15 ?_
  refine z_iload_n (pc := 16) 1 rfl rfl C dX2_putThree_16 ?_
  refine z_imul (pc := 17) C dX2_putThree_17 ?_
  refine z_iconst (pc := 18) (2 : Int32) (by decide) C dX2_putThree_18 ?_
  refine z_iadd (pc := 19) C dX2_putThree_19 ?_
  refine z_iload (pc := 20) 4 rfl C dX2_putThree_20 ?_
  refine z_iast (pc := 22) 0 C dX2_putThree_22 rfl ha0 [(2, qP, (zsI sP_2 k0 (upd (zI sP_2 k0) (((3 : Int32) * x1) + (2 : Int32)).toNatClampNeg x4)))] rfl ?_
  refine z_letc (fun z9 => [(2, qP, z9)]) (fun sP_3 => ?_)
  exact z_return (pc := 23) C hR dX2_putThree_23 (fun h => by subst h; exact ⟨rfl, rfl⟩)
theorem mX2_putThree  {qP : Nat → Nat} {k0 : Nat} {x1 : Int32} {x2 : Int32} {x3 : Int32} {x4 : Int32} {sP : zOS} {res : zOS} (ha0 : zAr 2 k0 0 18) (hf : fX2_putThree k0 x1 x2 x3 x4 sP = some res) : zM yX2_putThree cX2_putThree 5 none 0 0 [(.ref (qP k0)), (.int x1), (.int x2), (.int x3), (.int x4)] [(2, qP, sP)] none [(2, qP, res)] := zM_of (by decide +kernel) (Nat.le_of_ble_eq_true rfl) (fun X C hR => wX2_putThree C hR ha0 hf)
theorem dX2_addDevice_0 : decode cX2_addDevice 0 = .ok (.iload_n 1, 1) := by decide +kernel
theorem dX2_addDevice_1 : decode cX2_addDevice 1 = .ok (.bipush 10, 2) := by decide +kernel
theorem dX2_addDevice_3 : decode cX2_addDevice 3 = .ok (.invokestatic 35, 3) := by decide +kernel
theorem dX2_addDevice_6 : decode cX2_addDevice 6 = .ok (.ifCond .eq 21, 3) := by decide +kernel
theorem dX2_addDevice_9 : decode cX2_addDevice 9 = .ok (.iload_n 2, 1) := by decide +kernel
theorem dX2_addDevice_10 : decode cX2_addDevice 10 = .ok (.bipush 10, 2) := by decide +kernel
theorem dX2_addDevice_12 : decode cX2_addDevice 12 = .ok (.invokestatic 35, 3) := by decide +kernel
theorem dX2_addDevice_15 : decode cX2_addDevice 15 = .ok (.ifCond .eq 12, 3) := by decide +kernel
theorem dX2_addDevice_18 : decode cX2_addDevice 18 = .ok (.iload_n 3, 1) := by decide +kernel
theorem dX2_addDevice_19 : decode cX2_addDevice 19 = .ok (.bipush 10, 2) := by decide +kernel
theorem dX2_addDevice_21 : decode cX2_addDevice 21 = .ok (.invokestatic 35, 3) := by decide +kernel
theorem dX2_addDevice_24 : decode cX2_addDevice 24 = .ok (.ifCond .ne 6, 3) := by decide +kernel
theorem dX2_addDevice_27 : decode cX2_addDevice 27 = .ok (.bipush (-2), 2) := by decide +kernel
theorem dX2_addDevice_29 : decode cX2_addDevice 29 = .ok (.ireturn, 1) := by decide +kernel
theorem dX2_addDevice_30 : decode cX2_addDevice 30 = .ok (.aload_n 0, 1) := by decide +kernel
theorem dX2_addDevice_31 : decode cX2_addDevice 31 = .ok (.getfield 22, 3) := by decide +kernel
theorem dX2_addDevice_34 : decode cX2_addDevice 34 = .ok (.bipush 6, 2) := by decide +kernel
theorem dX2_addDevice_36 : decode cX2_addDevice 36 = .ok (.if_icmp .lt 6, 3) := by decide +kernel
theorem dX2_addDevice_39 : decode cX2_addDevice 39 = .ok (.bipush (-4), 2) := by decide +kernel
theorem dX2_addDevice_41 : decode cX2_addDevice 41 = .ok (.ireturn, 1) := by decide +kernel
theorem dX2_addDevice_42 : decode cX2_addDevice 42 = .ok (.aload_n 0, 1) := by decide +kernel
theorem dX2_addDevice_43 : decode cX2_addDevice 43 = .ok (.getfield 15, 3) := by decide +kernel
theorem dX2_addDevice_46 : decode cX2_addDevice 46 = .ok (.aload_n 0, 1) := by decide +kernel
theorem dX2_addDevice_47 : decode cX2_addDevice 47 = .ok (.getfield 22, 3) := by decide +kernel
theorem dX2_addDevice_50 : decode cX2_addDevice 50 = .ok (.iload_n 1, 1) := by decide +kernel
theorem dX2_addDevice_51 : decode cX2_addDevice 51 = .ok (.iload_n 2, 1) := by decide +kernel
theorem dX2_addDevice_52 : decode cX2_addDevice 52 = .ok (.iload_n 3, 1) := by decide +kernel
theorem dX2_addDevice_53 : decode cX2_addDevice 53 = .ok (.invokestatic 66, 3) := by decide +kernel
theorem dX2_addDevice_56 : decode cX2_addDevice 56 = .ok (.aload_n 0, 1) := by decide +kernel
theorem dX2_addDevice_57 : decode cX2_addDevice 57 = .ok (.dup, 1) := by decide +kernel
theorem dX2_addDevice_58 : decode cX2_addDevice 58 = .ok (.getfield 22, 3) := by decide +kernel
theorem dX2_addDevice_61 : decode cX2_addDevice 61 = .ok (.iconst 1, 1) := by decide +kernel
theorem dX2_addDevice_62 : decode cX2_addDevice 62 = .ok (.iadd, 1) := by decide +kernel
theorem dX2_addDevice_63 : decode cX2_addDevice 63 = .ok (.putfield 22, 3) := by decide +kernel
theorem dX2_addDevice_66 : decode cX2_addDevice 66 = .ok (.aload_n 0, 1) := by decide +kernel
theorem dX2_addDevice_67 : decode cX2_addDevice 67 = .ok (.getfield 22, 3) := by decide +kernel
theorem dX2_addDevice_70 : decode cX2_addDevice 70 = .ok (.iconst 1, 1) := by decide +kernel
theorem dX2_addDevice_71 : decode cX2_addDevice 71 = .ok (.isub, 1) := by decide +kernel
theorem dX2_addDevice_72 : decode cX2_addDevice 72 = .ok (.ireturn, 1) := by decide +kernel
def fX2_addDevice (x1 : Int32) (x2 : Int32) (x3 : Int32) (sP : zOS) : Option (Int32 × zOS) := (Option.bind (fX4_isWithin x1 (10 : Int32)) (fun r_1 : Int32 => (if r_1 = 0 then (some ((-2 : Int32), sP)) else (Option.bind (fX4_isWithin x2 (10 : Int32)) (fun r_3 : Int32 => (if r_3 = 0 then (some ((-2 : Int32), sP)) else (Option.bind (fX4_isWithin x3 (10 : Int32)) (fun r_5 : Int32 => (if r_5 = 0 then (some ((-2 : Int32), sP)) else (if (zF sP 3) < (6 : Int32) then (Option.bind (fX2_putThree 2 (zF sP 3) x1 x2 x3 sP) (fun r_7 : zOS => (zlet (zsF r_7 3 ((zF r_7 3) + (1 : Int32))) (fun sP_9 : zOS => (some ((zF sP_9 3) - (1 : Int32), sP_9)))))) else (some ((-4 : Int32), sP))))))))))))
set_option maxRecDepth 20000 in
theorem wX2_addDevice {X : zCx} {res : Int32 × zOS}  {qP : Nat → Nat} {x1 : Int32} {x2 : Int32} {x3 : Int32} {sP : zOS} (C : zC X RX2 cX2_addDevice 4 1 24) (hR : zR X (some .int) (some (.int res.1)) [(2, qP, res.2)])  : zJ X 4 res (fX2_addDevice x1 x2 x3 sP) 0 [(0, (.ref (qP 0))), (1, (.int x1)), (2, (.int x2)), (3, (.int x3))] [] [(2, qP, sP)] := by
  unfold fX2_addDevice
  refine z_iload_n (pc := 0) 1 rfl rfl C dX2_addDevice_0 ?_
  refine z_bipush (pc := 1) (10 : Int32) (by decide) C dX2_addDevice_1 ?_
  refine z_callN (pc := 3) (rf' := 0) (rl' := 0) (fX4_isWithin x1 (10 : Int32)) [(.int x1), (.int (10 : Int32))] [] (fun r_1 => (some (.int r_1))) C dX2_addDevice_3 zy_X4_isWithin (fun U h => h.1) (fun _ hr9 => mX4_isWithin  hr9) (by decide) rfl (Nat.le_of_ble_eq_true rfl) rfl (fun r_1 hr_2 => ?_)
  show zJ X 4 res _ 6 [(0, (.ref (qP 0))), (1, (.int x1)), (2, (.int x2)), (3, (.int x3))] [(.int r_1)] [(2, qP, sP)]
  refine z_if_eq (pc := 6) 27 C dX2_addDevice_6 (by decide) ?_ ?_
  · refine z_bipush (pc := 27) (-2 : Int32) (by decide) C dX2_addDevice_27 ?_
    exact z_ireturn (pc := 29) C hR dX2_addDevice_29 (fun h => by subst h; exact ⟨rfl, rfl⟩)
  · refine z_iload_n (pc := 9) 2 rfl rfl C dX2_addDevice_9 ?_
    refine z_bipush (pc := 10) (10 : Int32) (by decide) C dX2_addDevice_10 ?_
    refine z_callN (pc := 12) (rf' := 0) (rl' := 0) (fX4_isWithin x2 (10 : Int32)) [(.int x2), (.int (10 : Int32))] [] (fun r_3 => (some (.int r_3))) C dX2_addDevice_12 zy_X4_isWithin (fun U h => h.1) (fun _ hr9 => mX4_isWithin  hr9) (by decide) rfl (Nat.le_of_ble_eq_true rfl) rfl (fun r_3 hr_4 => ?_)
    show zJ X 4 res _ 15 [(0, (.ref (qP 0))), (1, (.int x1)), (2, (.int x2)), (3, (.int x3))] [(.int r_3)] [(2, qP, sP)]
    refine z_if_eq (pc := 15) 27 C dX2_addDevice_15 (by decide) ?_ ?_
    · refine z_bipush (pc := 27) (-2 : Int32) (by decide) C dX2_addDevice_27 ?_
      exact z_ireturn (pc := 29) C hR dX2_addDevice_29 (fun h => by subst h; exact ⟨rfl, rfl⟩)
    · refine z_iload_n (pc := 18) 3 rfl rfl C dX2_addDevice_18 ?_
      refine z_bipush (pc := 19) (10 : Int32) (by decide) C dX2_addDevice_19 ?_
      refine z_callN (pc := 21) (rf' := 0) (rl' := 0) (fX4_isWithin x3 (10 : Int32)) [(.int x3), (.int (10 : Int32))] [] (fun r_5 => (some (.int r_5))) C dX2_addDevice_21 zy_X4_isWithin (fun U h => h.1) (fun _ hr9 => mX4_isWithin  hr9) (by decide) rfl (Nat.le_of_ble_eq_true rfl) rfl (fun r_5 hr_6 => ?_)
      show zJ X 4 res _ 24 [(0, (.ref (qP 0))), (1, (.int x1)), (2, (.int x2)), (3, (.int x3))] [(.int r_5)] [(2, qP, sP)]
      refine z_if_ne (pc := 24) 30 C dX2_addDevice_24 (by decide) ?_ ?_
      · refine z_bipush (pc := 27) (-2 : Int32) (by decide) C dX2_addDevice_27 ?_
        exact z_ireturn (pc := 29) C hR dX2_addDevice_29 (fun h => by subst h; exact ⟨rfl, rfl⟩)
      · refine z_aload_n (pc := 30) 0 rfl rfl C dX2_addDevice_30 ?_
        refine z_getI (pc := 31) 0 3 C dX2_addDevice_31 rfl (by decide) (by decide) rfl zw_115 ?_
        refine z_bipush (pc := 34) (6 : Int32) (by decide) C dX2_addDevice_34 ?_
        refine z_icmp_lt (pc := 36) 42 C dX2_addDevice_36 (by decide) ?_ ?_
        · refine z_aload_n (pc := 42) 0 rfl rfl C dX2_addDevice_42 ?_
          refine z_getR (pc := 43) 0 1 2 C dX2_addDevice_43 rfl (by decide) (by decide) rfl zw_111 ?_
          refine z_aload_n (pc := 46) 0 rfl rfl C dX2_addDevice_46 ?_
          refine z_getI (pc := 47) 0 3 C dX2_addDevice_47 rfl (by decide) (by decide) rfl zw_115 ?_
          refine z_iload_n (pc := 50) 1 rfl rfl C dX2_addDevice_50 ?_
          refine z_iload_n (pc := 51) 2 rfl rfl C dX2_addDevice_51 ?_
          refine z_iload_n (pc := 52) 3 rfl rfl C dX2_addDevice_52 ?_
          refine z_callS (pc := 53) (rf' := 0) (rl' := 0) (fX2_putThree 2 (zF sP 3) x1 x2 x3 sP) [(.ref (qP 2)), (.int (zF sP 3)), (.int x1), (.int x2), (.int x3)] [] [(2, qP, sP)] (fun r_7 => none) (fun r_7 => [(2, qP, r_7)]) [] (fun r_7 => [(2, qP, r_7)]) C dX2_addDevice_53 zy_X2_putThree zw_370 (fun _ hr9 => mX2_putThree (by unfold zAr; decide) hr9) (by decide) rfl (Nat.le_of_ble_eq_true rfl) (List.Perm.refl _) (fun _ => List.Perm.refl _) rfl (fun r_7 hr_8 => ?_)
          show zJ X 4 res _ 56 [(0, (.ref (qP 0))), (1, (.int x1)), (2, (.int x2)), (3, (.int x3))] [] [(2, qP, r_7)]
          refine z_aload_n (pc := 56) 0 rfl rfl C dX2_addDevice_56 ?_
          refine z_dup (pc := 57) rfl C dX2_addDevice_57 ?_
          refine z_getI (pc := 58) 0 3 C dX2_addDevice_58 rfl (by decide) (by decide) rfl zw_115 ?_
          refine z_iconst (pc := 61) (1 : Int32) (by decide) C dX2_addDevice_61 ?_
          refine z_iadd (pc := 62) C dX2_addDevice_62 ?_
          refine z_putI (pc := 63) 0 3 C dX2_addDevice_63 rfl (by decide) (by decide) rfl zw_115 rfl rfl rfl [(2, qP, (zsF r_7 3 ((zF r_7 3) + (1 : Int32))))] rfl ?_
          refine z_letc (fun z9 => [(2, qP, z9)]) (fun sP_9 => ?_)
          refine z_aload_n (pc := 66) 0 rfl rfl C dX2_addDevice_66 ?_
          refine z_getI (pc := 67) 0 3 C dX2_addDevice_67 rfl (by decide) (by decide) rfl zw_115 ?_
          refine z_iconst (pc := 70) (1 : Int32) (by decide) C dX2_addDevice_70 ?_
          refine z_isub (pc := 71) C dX2_addDevice_71 ?_
          exact z_ireturn (pc := 72) C hR dX2_addDevice_72 (fun h => by subst h; exact ⟨rfl, rfl⟩)
        · refine z_bipush (pc := 39) (-4 : Int32) (by decide) C dX2_addDevice_39 ?_
          exact z_ireturn (pc := 41) C hR dX2_addDevice_41 (fun h => by subst h; exact ⟨rfl, rfl⟩)
theorem mX2_addDevice  {qP : Nat → Nat} {x1 : Int32} {x2 : Int32} {x3 : Int32} {sP : zOS} {res : Int32 × zOS}  (hf : fX2_addDevice x1 x2 x3 sP = some res) : zM yX2_addDevice cX2_addDevice 4 (some .int) 1 24 [(.ref (qP 0)), (.int x1), (.int x2), (.int x3)] [(2, qP, sP)] (some (.int res.1)) [(2, qP, res.2)] := zM_of (by decide +kernel) (Nat.le_of_ble_eq_true rfl) (fun X C hR => wX2_addDevice C hR  hf)
theorem dX2_addPin_0 : decode cX2_addPin 0 = .ok (.iload_n 1, 1) := by decide +kernel
theorem dX2_addPin_1 : decode cX2_addPin 1 = .ok (.iload_n 2, 1) := by decide +kernel
theorem dX2_addPin_2 : decode cX2_addPin 2 = .ok (.invokestatic 63, 3) := by decide +kernel
theorem dX2_addPin_5 : decode cX2_addPin 5 = .ok (.ifCond .eq 12, 3) := by decide +kernel
theorem dX2_addPin_8 : decode cX2_addPin 8 = .ok (.iload_n 3, 1) := by decide +kernel
theorem dX2_addPin_9 : decode cX2_addPin 9 = .ok (.bipush 10, 2) := by decide +kernel
theorem dX2_addPin_11 : decode cX2_addPin 11 = .ok (.invokestatic 35, 3) := by decide +kernel
theorem dX2_addPin_14 : decode cX2_addPin 14 = .ok (.ifCond .ne 6, 3) := by decide +kernel
theorem dX2_addPin_17 : decode cX2_addPin 17 = .ok (.bipush (-2), 2) := by decide +kernel
theorem dX2_addPin_19 : decode cX2_addPin 19 = .ok (.ireturn, 1) := by decide +kernel
theorem dX2_addPin_20 : decode cX2_addPin 20 = .ok (.aload_n 0, 1) := by decide +kernel
theorem dX2_addPin_21 : decode cX2_addPin 21 = .ok (.getfield 26, 3) := by decide +kernel
theorem dX2_addPin_24 : decode cX2_addPin 24 = .ok (.bipush 6, 2) := by decide +kernel
theorem dX2_addPin_26 : decode cX2_addPin 26 = .ok (.if_icmp .lt 6, 3) := by decide +kernel
theorem dX2_addPin_29 : decode cX2_addPin 29 = .ok (.bipush (-4), 2) := by decide +kernel
theorem dX2_addPin_31 : decode cX2_addPin 31 = .ok (.ireturn, 1) := by decide +kernel
theorem dX2_addPin_32 : decode cX2_addPin 32 = .ok (.aload_n 0, 1) := by decide +kernel
theorem dX2_addPin_33 : decode cX2_addPin 33 = .ok (.getfield 19, 3) := by decide +kernel
theorem dX2_addPin_36 : decode cX2_addPin 36 = .ok (.aload_n 0, 1) := by decide +kernel
theorem dX2_addPin_37 : decode cX2_addPin 37 = .ok (.getfield 26, 3) := by decide +kernel
theorem dX2_addPin_40 : decode cX2_addPin 40 = .ok (.iload_n 1, 1) := by decide +kernel
theorem dX2_addPin_41 : decode cX2_addPin 41 = .ok (.iload_n 2, 1) := by decide +kernel
theorem dX2_addPin_42 : decode cX2_addPin 42 = .ok (.iload_n 3, 1) := by decide +kernel
theorem dX2_addPin_43 : decode cX2_addPin 43 = .ok (.invokestatic 66, 3) := by decide +kernel
theorem dX2_addPin_46 : decode cX2_addPin 46 = .ok (.aload_n 0, 1) := by decide +kernel
theorem dX2_addPin_47 : decode cX2_addPin 47 = .ok (.dup, 1) := by decide +kernel
theorem dX2_addPin_48 : decode cX2_addPin 48 = .ok (.getfield 26, 3) := by decide +kernel
theorem dX2_addPin_51 : decode cX2_addPin 51 = .ok (.iconst 1, 1) := by decide +kernel
theorem dX2_addPin_52 : decode cX2_addPin 52 = .ok (.iadd, 1) := by decide +kernel
theorem dX2_addPin_53 : decode cX2_addPin 53 = .ok (.putfield 26, 3) := by decide +kernel
theorem dX2_addPin_56 : decode cX2_addPin 56 = .ok (.aload_n 0, 1) := by decide +kernel
theorem dX2_addPin_57 : decode cX2_addPin 57 = .ok (.getfield 26, 3) := by decide +kernel
theorem dX2_addPin_60 : decode cX2_addPin 60 = .ok (.iconst 1, 1) := by decide +kernel
theorem dX2_addPin_61 : decode cX2_addPin 61 = .ok (.isub, 1) := by decide +kernel
theorem dX2_addPin_62 : decode cX2_addPin 62 = .ok (.ireturn, 1) := by decide +kernel
def fX2_addPin (x1 : Int32) (x2 : Int32) (x3 : Int32) (sP : zOS) : Option (Int32 × zOS) := (Option.bind (fX4_isCell x1 x2) (fun r_1 : Int32 => (if r_1 = 0 then (some ((-2 : Int32), sP)) else (Option.bind (fX4_isWithin x3 (10 : Int32)) (fun r_3 : Int32 => (if r_3 = 0 then (some ((-2 : Int32), sP)) else (if (zF sP 4) < (6 : Int32) then (Option.bind (fX2_putThree 3 (zF sP 4) x1 x2 x3 sP) (fun r_5 : zOS => (zlet (zsF r_5 4 ((zF r_5 4) + (1 : Int32))) (fun sP_7 : zOS => (some ((zF sP_7 4) - (1 : Int32), sP_7)))))) else (some ((-4 : Int32), sP)))))))))
set_option maxRecDepth 20000 in
theorem wX2_addPin {X : zCx} {res : Int32 × zOS}  {qP : Nat → Nat} {x1 : Int32} {x2 : Int32} {x3 : Int32} {sP : zOS} (C : zC X RX2 cX2_addPin 4 2 42) (hR : zR X (some .int) (some (.int res.1)) [(2, qP, res.2)])  : zJ X 4 res (fX2_addPin x1 x2 x3 sP) 0 [(0, (.ref (qP 0))), (1, (.int x1)), (2, (.int x2)), (3, (.int x3))] [] [(2, qP, sP)] := by
  unfold fX2_addPin
  refine z_iload_n (pc := 0) 1 rfl rfl C dX2_addPin_0 ?_
  refine z_iload_n (pc := 1) 2 rfl rfl C dX2_addPin_1 ?_
  refine z_callN (pc := 2) (rf' := 1) (rl' := 21) (fX4_isCell x1 x2) [(.int x1), (.int x2)] [] (fun r_1 => (some (.int r_1))) C dX2_addPin_2 zy_X4_isCell (fun U h => h.2.1) (fun _ hr9 => mX4_isCell  hr9) (by decide) rfl (Nat.le_of_ble_eq_true rfl) rfl (fun r_1 hr_2 => ?_)
  show zJ X 4 res _ 5 [(0, (.ref (qP 0))), (1, (.int x1)), (2, (.int x2)), (3, (.int x3))] [(.int r_1)] [(2, qP, sP)]
  refine z_if_eq (pc := 5) 17 C dX2_addPin_5 (by decide) ?_ ?_
  · refine z_bipush (pc := 17) (-2 : Int32) (by decide) C dX2_addPin_17 ?_
    exact z_ireturn (pc := 19) C hR dX2_addPin_19 (fun h => by subst h; exact ⟨rfl, rfl⟩)
  · refine z_iload_n (pc := 8) 3 rfl rfl C dX2_addPin_8 ?_
    refine z_bipush (pc := 9) (10 : Int32) (by decide) C dX2_addPin_9 ?_
    refine z_callN (pc := 11) (rf' := 0) (rl' := 0) (fX4_isWithin x3 (10 : Int32)) [(.int x3), (.int (10 : Int32))] [] (fun r_3 => (some (.int r_3))) C dX2_addPin_11 zy_X4_isWithin (fun U h => h.1) (fun _ hr9 => mX4_isWithin  hr9) (by decide) rfl (Nat.le_of_ble_eq_true rfl) rfl (fun r_3 hr_4 => ?_)
    show zJ X 4 res _ 14 [(0, (.ref (qP 0))), (1, (.int x1)), (2, (.int x2)), (3, (.int x3))] [(.int r_3)] [(2, qP, sP)]
    refine z_if_ne (pc := 14) 20 C dX2_addPin_14 (by decide) ?_ ?_
    · refine z_bipush (pc := 17) (-2 : Int32) (by decide) C dX2_addPin_17 ?_
      exact z_ireturn (pc := 19) C hR dX2_addPin_19 (fun h => by subst h; exact ⟨rfl, rfl⟩)
    · refine z_aload_n (pc := 20) 0 rfl rfl C dX2_addPin_20 ?_
      refine z_getI (pc := 21) 0 4 C dX2_addPin_21 rfl (by decide) (by decide) rfl zw_118 ?_
      refine z_bipush (pc := 24) (6 : Int32) (by decide) C dX2_addPin_24 ?_
      refine z_icmp_lt (pc := 26) 32 C dX2_addPin_26 (by decide) ?_ ?_
      · refine z_aload_n (pc := 32) 0 rfl rfl C dX2_addPin_32 ?_
        refine z_getR (pc := 33) 0 2 3 C dX2_addPin_33 rfl (by decide) (by decide) rfl zw_113 ?_
        refine z_aload_n (pc := 36) 0 rfl rfl C dX2_addPin_36 ?_
        refine z_getI (pc := 37) 0 4 C dX2_addPin_37 rfl (by decide) (by decide) rfl zw_118 ?_
        refine z_iload_n (pc := 40) 1 rfl rfl C dX2_addPin_40 ?_
        refine z_iload_n (pc := 41) 2 rfl rfl C dX2_addPin_41 ?_
        refine z_iload_n (pc := 42) 3 rfl rfl C dX2_addPin_42 ?_
        refine z_callS (pc := 43) (rf' := 0) (rl' := 0) (fX2_putThree 3 (zF sP 4) x1 x2 x3 sP) [(.ref (qP 3)), (.int (zF sP 4)), (.int x1), (.int x2), (.int x3)] [] [(2, qP, sP)] (fun r_5 => none) (fun r_5 => [(2, qP, r_5)]) [] (fun r_5 => [(2, qP, r_5)]) C dX2_addPin_43 zy_X2_putThree zw_370 (fun _ hr9 => mX2_putThree (by unfold zAr; decide) hr9) (by decide) rfl (Nat.le_of_ble_eq_true rfl) (List.Perm.refl _) (fun _ => List.Perm.refl _) rfl (fun r_5 hr_6 => ?_)
        show zJ X 4 res _ 46 [(0, (.ref (qP 0))), (1, (.int x1)), (2, (.int x2)), (3, (.int x3))] [] [(2, qP, r_5)]
        refine z_aload_n (pc := 46) 0 rfl rfl C dX2_addPin_46 ?_
        refine z_dup (pc := 47) rfl C dX2_addPin_47 ?_
        refine z_getI (pc := 48) 0 4 C dX2_addPin_48 rfl (by decide) (by decide) rfl zw_118 ?_
        refine z_iconst (pc := 51) (1 : Int32) (by decide) C dX2_addPin_51 ?_
        refine z_iadd (pc := 52) C dX2_addPin_52 ?_
        refine z_putI (pc := 53) 0 4 C dX2_addPin_53 rfl (by decide) (by decide) rfl zw_118 rfl rfl rfl [(2, qP, (zsF r_5 4 ((zF r_5 4) + (1 : Int32))))] rfl ?_
        refine z_letc (fun z9 => [(2, qP, z9)]) (fun sP_7 => ?_)
        refine z_aload_n (pc := 56) 0 rfl rfl C dX2_addPin_56 ?_
        refine z_getI (pc := 57) 0 4 C dX2_addPin_57 rfl (by decide) (by decide) rfl zw_118 ?_
        refine z_iconst (pc := 60) (1 : Int32) (by decide) C dX2_addPin_60 ?_
        refine z_isub (pc := 61) C dX2_addPin_61 ?_
        exact z_ireturn (pc := 62) C hR dX2_addPin_62 (fun h => by subst h; exact ⟨rfl, rfl⟩)
      · refine z_bipush (pc := 29) (-4 : Int32) (by decide) C dX2_addPin_29 ?_
        exact z_ireturn (pc := 31) C hR dX2_addPin_31 (fun h => by subst h; exact ⟨rfl, rfl⟩)
theorem mX2_addPin  {qP : Nat → Nat} {x1 : Int32} {x2 : Int32} {x3 : Int32} {sP : zOS} {res : Int32 × zOS}  (hf : fX2_addPin x1 x2 x3 sP = some res) : zM yX2_addPin cX2_addPin 4 (some .int) 2 42 [(.ref (qP 0)), (.int x1), (.int x2), (.int x3)] [(2, qP, sP)] (some (.int res.1)) [(2, qP, res.2)] := zM_of (by decide +kernel) (Nat.le_of_ble_eq_true rfl) (fun X C hR => wX2_addPin C hR  hf)
theorem dX2_dropMeant_0 : decode cX2_dropMeant 0 = .ok (.aload_n 0, 1) := by decide +kernel
theorem dX2_dropMeant_1 : decode cX2_dropMeant 1 = .ok (.getfield 22, 3) := by decide +kernel
theorem dX2_dropMeant_4 : decode cX2_dropMeant 4 = .ok (.aload_n 0, 1) := by decide +kernel
theorem dX2_dropMeant_5 : decode cX2_dropMeant 5 = .ok (.getfield 26, 3) := by decide +kernel
theorem dX2_dropMeant_8 : decode cX2_dropMeant 8 = .ok (.iadd, 1) := by decide +kernel
theorem dX2_dropMeant_9 : decode cX2_dropMeant 9 = .ok (.istore_n 1, 1) := by decide +kernel
theorem dX2_dropMeant_10 : decode cX2_dropMeant 10 = .ok (.aload_n 0, 1) := by decide +kernel
theorem dX2_dropMeant_11 : decode cX2_dropMeant 11 = .ok (.iconst 0, 1) := by decide +kernel
theorem dX2_dropMeant_12 : decode cX2_dropMeant 12 = .ok (.putfield 22, 3) := by decide +kernel
theorem dX2_dropMeant_15 : decode cX2_dropMeant 15 = .ok (.aload_n 0, 1) := by decide +kernel
theorem dX2_dropMeant_16 : decode cX2_dropMeant 16 = .ok (.iconst 0, 1) := by decide +kernel
theorem dX2_dropMeant_17 : decode cX2_dropMeant 17 = .ok (.putfield 26, 3) := by decide +kernel
theorem dX2_dropMeant_20 : decode cX2_dropMeant 20 = .ok (.iload_n 1, 1) := by decide +kernel
theorem dX2_dropMeant_21 : decode cX2_dropMeant 21 = .ok (.ireturn, 1) := by decide +kernel
def fX2_dropMeant (sP : zOS) : Option (Int32 × zOS) := (zlet ((zF sP 3) + (zF sP 4)) (fun x1_1 : Int32 => (zlet (zsF sP 3 (0 : Int32)) (fun sP_2 : zOS => (zlet (zsF sP_2 4 (0 : Int32)) (fun sP_3 : zOS => (some (x1_1, sP_3))))))))
set_option maxRecDepth 20000 in
theorem wX2_dropMeant {X : zCx} {res : Int32 × zOS}  {qP : Nat → Nat} {sP : zOS} (C : zC X RX2 cX2_dropMeant 2 0 0) (hR : zR X (some .int) (some (.int res.1)) [(2, qP, res.2)])  : zJ X 2 res (fX2_dropMeant sP) 0 [(0, (.ref (qP 0)))] [] [(2, qP, sP)] := by
  unfold fX2_dropMeant
  refine z_aload_n (pc := 0) 0 rfl rfl C dX2_dropMeant_0 ?_
  refine z_getI (pc := 1) 0 3 C dX2_dropMeant_1 rfl (by decide) (by decide) rfl zw_115 ?_
  refine z_aload_n (pc := 4) 0 rfl rfl C dX2_dropMeant_4 ?_
  refine z_getI (pc := 5) 0 4 C dX2_dropMeant_5 rfl (by decide) (by decide) rfl zw_118 ?_
  refine z_iadd (pc := 8) C dX2_dropMeant_8 ?_
  refine z_leti (fun x1_1 => ?_)
  refine z_istore_n (pc := 9) [(0, (.ref (qP 0))), (1, (.int x1_1))] [1, 0] (by decide) rfl rfl C dX2_dropMeant_9 ?_
  refine z_aload_n (pc := 10) 0 rfl rfl C dX2_dropMeant_10 ?_
  refine z_iconst (pc := 11) (0 : Int32) (by decide) C dX2_dropMeant_11 ?_
  refine z_putI (pc := 12) 0 3 C dX2_dropMeant_12 rfl (by decide) (by decide) rfl zw_115 rfl rfl rfl [(2, qP, (zsF sP 3 (0 : Int32)))] rfl ?_
  refine z_letc (fun z9 => [(2, qP, z9)]) (fun sP_2 => ?_)
  refine z_aload_n (pc := 15) 0 rfl rfl C dX2_dropMeant_15 ?_
  refine z_iconst (pc := 16) (0 : Int32) (by decide) C dX2_dropMeant_16 ?_
  refine z_putI (pc := 17) 0 4 C dX2_dropMeant_17 rfl (by decide) (by decide) rfl zw_118 rfl rfl rfl [(2, qP, (zsF sP_2 4 (0 : Int32)))] rfl ?_
  refine z_letc (fun z9 => [(2, qP, z9)]) (fun sP_3 => ?_)
  refine z_iload_n (pc := 20) 1 rfl rfl C dX2_dropMeant_20 ?_
  exact z_ireturn (pc := 21) C hR dX2_dropMeant_21 (fun h => by subst h; exact ⟨rfl, rfl⟩)
theorem mX2_dropMeant  {qP : Nat → Nat} {sP : zOS} {res : Int32 × zOS}  (hf : fX2_dropMeant sP = some res) : zM yX2_dropMeant cX2_dropMeant 2 (some .int) 0 0 [(.ref (qP 0))] [(2, qP, sP)] (some (.int res.1)) [(2, qP, res.2)] := zM_of (by decide +kernel) (Nat.le_of_ble_eq_true rfl) (fun X C hR => wX2_dropMeant C hR  hf)
theorem dX2_gateNet_0 : decode cX2_gateNet 0 = .ok (.aload_n 0, 1) := by decide +kernel
theorem dX2_gateNet_1 : decode cX2_gateNet 1 = .ok (.getfield 15, 3) := by decide +kernel
theorem dX2_gateNet_4 : decode cX2_gateNet 4 = .ok (.iconst 3, 1) := by decide +kernel
theorem dX2_gateNet_5 : decode cX2_gateNet 5 = .ok (.iload_n 1, 1) := by decide +kernel
theorem dX2_gateNet_6 : decode cX2_gateNet 6 = .ok (.imul, 1) := by decide +kernel
theorem dX2_gateNet_7 : decode cX2_gateNet 7 = .ok (.iaload, 1) := by decide +kernel
theorem dX2_gateNet_8 : decode cX2_gateNet 8 = .ok (.ireturn, 1) := by decide +kernel
def fX2_gateNet (x1 : Int32) (sP : zOS) : Option (Int32) := (zchk ((3 : Int32) * x1) 18 (some (zI sP 2 ((3 : Int32) * x1).toNatClampNeg)))
set_option maxRecDepth 20000 in
theorem wX2_gateNet {X : zCx} {res : Int32}  {qP : Nat → Nat} {x1 : Int32} {sP : zOS} (C : zC X RX2 cX2_gateNet 2 0 0) (hR : zR X (some .int) (some (.int res)) [(2, qP, sP)])  : zJ X 2 res (fX2_gateNet x1 sP) 0 [(0, (.ref (qP 0))), (1, (.int x1))] [] [(2, qP, sP)] := by
  unfold fX2_gateNet
  refine z_aload_n (pc := 0) 0 rfl rfl C dX2_gateNet_0 ?_
  refine z_getR (pc := 1) 0 1 2 C dX2_gateNet_1 rfl (by decide) (by decide) rfl zw_111 ?_
  refine z_iconst (pc := 4) (3 : Int32) (by decide) C dX2_gateNet_4 ?_
  refine z_iload_n (pc := 5) 1 rfl rfl C dX2_gateNet_5 ?_
  refine z_imul (pc := 6) C dX2_gateNet_6 ?_
  refine z_iald (pc := 7) 0 C dX2_gateNet_7 rfl (by unfold zAr; decide) ?_
  exact z_ireturn (pc := 8) C hR dX2_gateNet_8 (fun h => by subst h; exact ⟨rfl, rfl⟩)
theorem mX2_gateNet  {qP : Nat → Nat} {x1 : Int32} {sP : zOS} {res : Int32}  (hf : fX2_gateNet x1 sP = some res) : zM yX2_gateNet cX2_gateNet 2 (some .int) 0 0 [(.ref (qP 0)), (.int x1)] [(2, qP, sP)] (some (.int res)) [(2, qP, sP)] := zM_of (by decide +kernel) (Nat.le_of_ble_eq_true rfl) (fun X C hR => wX2_gateNet C hR  hf)
theorem dX2_sideA_0 : decode cX2_sideA 0 = .ok (.aload_n 0, 1) := by decide +kernel
theorem dX2_sideA_1 : decode cX2_sideA 1 = .ok (.getfield 15, 3) := by decide +kernel
theorem dX2_sideA_4 : decode cX2_sideA 4 = .ok (.iconst 3, 1) := by decide +kernel
theorem dX2_sideA_5 : decode cX2_sideA 5 = .ok (.iload_n 1, 1) := by decide +kernel
theorem dX2_sideA_6 : decode cX2_sideA 6 = .ok (.imul, 1) := by decide +kernel
theorem dX2_sideA_7 : decode cX2_sideA 7 = .ok (.iconst 1, 1) := by decide +kernel
theorem dX2_sideA_8 : decode cX2_sideA 8 = .ok (.iadd, 1) := by decide +kernel
theorem dX2_sideA_9 : decode cX2_sideA 9 = .ok (.iaload, 1) := by decide +kernel
theorem dX2_sideA_10 : decode cX2_sideA 10 = .ok (.ireturn, 1) := by decide +kernel
def fX2_sideA (x1 : Int32) (sP : zOS) : Option (Int32) := (zchk (((3 : Int32) * x1) + (1 : Int32)) 18 (some (zI sP 2 (((3 : Int32) * x1) + (1 : Int32)).toNatClampNeg)))
set_option maxRecDepth 20000 in
theorem wX2_sideA {X : zCx} {res : Int32}  {qP : Nat → Nat} {x1 : Int32} {sP : zOS} (C : zC X RX2 cX2_sideA 2 0 0) (hR : zR X (some .int) (some (.int res)) [(2, qP, sP)])  : zJ X 2 res (fX2_sideA x1 sP) 0 [(0, (.ref (qP 0))), (1, (.int x1))] [] [(2, qP, sP)] := by
  unfold fX2_sideA
  refine z_aload_n (pc := 0) 0 rfl rfl C dX2_sideA_0 ?_
  refine z_getR (pc := 1) 0 1 2 C dX2_sideA_1 rfl (by decide) (by decide) rfl zw_111 ?_
  refine z_iconst (pc := 4) (3 : Int32) (by decide) C dX2_sideA_4 ?_
  refine z_iload_n (pc := 5) 1 rfl rfl C dX2_sideA_5 ?_
  refine z_imul (pc := 6) C dX2_sideA_6 ?_
  refine z_iconst (pc := 7) (1 : Int32) (by decide) C dX2_sideA_7 ?_
  refine z_iadd (pc := 8) C dX2_sideA_8 ?_
  refine z_iald (pc := 9) 0 C dX2_sideA_9 rfl (by unfold zAr; decide) ?_
  exact z_ireturn (pc := 10) C hR dX2_sideA_10 (fun h => by subst h; exact ⟨rfl, rfl⟩)
theorem mX2_sideA  {qP : Nat → Nat} {x1 : Int32} {sP : zOS} {res : Int32}  (hf : fX2_sideA x1 sP = some res) : zM yX2_sideA cX2_sideA 2 (some .int) 0 0 [(.ref (qP 0)), (.int x1)] [(2, qP, sP)] (some (.int res)) [(2, qP, sP)] := zM_of (by decide +kernel) (Nat.le_of_ble_eq_true rfl) (fun X C hR => wX2_sideA C hR  hf)
theorem dX2_sideB_0 : decode cX2_sideB 0 = .ok (.aload_n 0, 1) := by decide +kernel
theorem dX2_sideB_1 : decode cX2_sideB 1 = .ok (.getfield 15, 3) := by decide +kernel
theorem dX2_sideB_4 : decode cX2_sideB 4 = .ok (.iconst 3, 1) := by decide +kernel
theorem dX2_sideB_5 : decode cX2_sideB 5 = .ok (.iload_n 1, 1) := by decide +kernel
theorem dX2_sideB_6 : decode cX2_sideB 6 = .ok (.imul, 1) := by decide +kernel
theorem dX2_sideB_7 : decode cX2_sideB 7 = .ok (.iconst 2, 1) := by decide +kernel
theorem dX2_sideB_8 : decode cX2_sideB 8 = .ok (.iadd, 1) := by decide +kernel
theorem dX2_sideB_9 : decode cX2_sideB 9 = .ok (.iaload, 1) := by decide +kernel
theorem dX2_sideB_10 : decode cX2_sideB 10 = .ok (.ireturn, 1) := by decide +kernel
def fX2_sideB (x1 : Int32) (sP : zOS) : Option (Int32) := (zchk (((3 : Int32) * x1) + (2 : Int32)) 18 (some (zI sP 2 (((3 : Int32) * x1) + (2 : Int32)).toNatClampNeg)))
set_option maxRecDepth 20000 in
theorem wX2_sideB {X : zCx} {res : Int32}  {qP : Nat → Nat} {x1 : Int32} {sP : zOS} (C : zC X RX2 cX2_sideB 2 0 0) (hR : zR X (some .int) (some (.int res)) [(2, qP, sP)])  : zJ X 2 res (fX2_sideB x1 sP) 0 [(0, (.ref (qP 0))), (1, (.int x1))] [] [(2, qP, sP)] := by
  unfold fX2_sideB
  refine z_aload_n (pc := 0) 0 rfl rfl C dX2_sideB_0 ?_
  refine z_getR (pc := 1) 0 1 2 C dX2_sideB_1 rfl (by decide) (by decide) rfl zw_111 ?_
  refine z_iconst (pc := 4) (3 : Int32) (by decide) C dX2_sideB_4 ?_
  refine z_iload_n (pc := 5) 1 rfl rfl C dX2_sideB_5 ?_
  refine z_imul (pc := 6) C dX2_sideB_6 ?_
  refine z_iconst (pc := 7) (2 : Int32) (by decide) C dX2_sideB_7 ?_
  refine z_iadd (pc := 8) C dX2_sideB_8 ?_
  refine z_iald (pc := 9) 0 C dX2_sideB_9 rfl (by unfold zAr; decide) ?_
  exact z_ireturn (pc := 10) C hR dX2_sideB_10 (fun h => by subst h; exact ⟨rfl, rfl⟩)
theorem mX2_sideB  {qP : Nat → Nat} {x1 : Int32} {sP : zOS} {res : Int32}  (hf : fX2_sideB x1 sP = some res) : zM yX2_sideB cX2_sideB 2 (some .int) 0 0 [(.ref (qP 0)), (.int x1)] [(2, qP, sP)] (some (.int res)) [(2, qP, sP)] := zM_of (by decide +kernel) (Nat.le_of_ble_eq_true rfl) (fun X C hR => wX2_sideB C hR  hf)
theorem dX2_pinBit_0 : decode cX2_pinBit 0 = .ok (.aload_n 0, 1) := by decide +kernel
theorem dX2_pinBit_1 : decode cX2_pinBit 1 = .ok (.getfield 19, 3) := by decide +kernel
theorem dX2_pinBit_4 : decode cX2_pinBit 4 = .ok (.iconst 3, 1) := by decide +kernel
theorem dX2_pinBit_5 : decode cX2_pinBit 5 = .ok (.iload_n 1, 1) := by decide +kernel
theorem dX2_pinBit_6 : decode cX2_pinBit 6 = .ok (.imul, 1) := by decide +kernel
theorem dX2_pinBit_7 : decode cX2_pinBit 7 = .ok (.iaload, 1) := by decide +kernel
theorem dX2_pinBit_8 : decode cX2_pinBit 8 = .ok (.aload_n 0, 1) := by decide +kernel
theorem dX2_pinBit_9 : decode cX2_pinBit 9 = .ok (.getfield 19, 3) := by decide +kernel
theorem dX2_pinBit_12 : decode cX2_pinBit 12 = .ok (.iconst 3, 1) := by decide +kernel
theorem dX2_pinBit_13 : decode cX2_pinBit 13 = .ok (.iload_n 1, 1) := by decide +kernel
theorem dX2_pinBit_14 : decode cX2_pinBit 14 = .ok (.imul, 1) := by decide +kernel
theorem dX2_pinBit_15 : decode cX2_pinBit 15 = .ok (.iconst 1, 1) := by decide +kernel
theorem dX2_pinBit_16 : decode cX2_pinBit 16 = .ok (.iadd, 1) := by decide +kernel
theorem dX2_pinBit_17 : decode cX2_pinBit 17 = .ok (.iaload, 1) := by decide +kernel
theorem dX2_pinBit_18 : decode cX2_pinBit 18 = .ok (.invokestatic 59, 3) := by decide +kernel
theorem dX2_pinBit_21 : decode cX2_pinBit 21 = .ok (.lreturn, 1) := by decide +kernel
def fX2_pinBit (x1 : Int32) (sP : zOS) : Option (Int64) := (zchk ((3 : Int32) * x1) 18 (zchk (((3 : Int32) * x1) + (1 : Int32)) 18 (Option.bind (fX4_cellBit (zI sP 3 ((3 : Int32) * x1).toNatClampNeg) (zI sP 3 (((3 : Int32) * x1) + (1 : Int32)).toNatClampNeg)) (fun r_1 : Int64 => (some (r_1))))))
set_option maxRecDepth 20000 in
theorem wX2_pinBit {X : zCx} {res : Int64}  {qP : Nat → Nat} {x1 : Int32} {sP : zOS} (C : zC X RX2 cX2_pinBit 2 1 21) (hR : zR X (some .long) (some (.long res)) [(2, qP, sP)])  : zJ X 2 res (fX2_pinBit x1 sP) 0 [(0, (.ref (qP 0))), (1, (.int x1))] [] [(2, qP, sP)] := by
  unfold fX2_pinBit
  refine z_aload_n (pc := 0) 0 rfl rfl C dX2_pinBit_0 ?_
  refine z_getR (pc := 1) 0 2 3 C dX2_pinBit_1 rfl (by decide) (by decide) rfl zw_113 ?_
  refine z_iconst (pc := 4) (3 : Int32) (by decide) C dX2_pinBit_4 ?_
  refine z_iload_n (pc := 5) 1 rfl rfl C dX2_pinBit_5 ?_
  refine z_imul (pc := 6) C dX2_pinBit_6 ?_
  refine z_iald (pc := 7) 0 C dX2_pinBit_7 rfl (by unfold zAr; decide) ?_
  refine z_aload_n (pc := 8) 0 rfl rfl C dX2_pinBit_8 ?_
  refine z_getR (pc := 9) 0 2 3 C dX2_pinBit_9 rfl (by decide) (by decide) rfl zw_113 ?_
  refine z_iconst (pc := 12) (3 : Int32) (by decide) C dX2_pinBit_12 ?_
  refine z_iload_n (pc := 13) 1 rfl rfl C dX2_pinBit_13 ?_
  refine z_imul (pc := 14) C dX2_pinBit_14 ?_
  refine z_iconst (pc := 15) (1 : Int32) (by decide) C dX2_pinBit_15 ?_
  refine z_iadd (pc := 16) C dX2_pinBit_16 ?_
  refine z_iald (pc := 17) 0 C dX2_pinBit_17 rfl (by unfold zAr; decide) ?_
  refine z_callN (pc := 18) (rf' := 0) (rl' := 0) (fX4_cellBit (zI sP 3 ((3 : Int32) * x1).toNatClampNeg) (zI sP 3 (((3 : Int32) * x1) + (1 : Int32)).toNatClampNeg)) [(.int (zI sP 3 ((3 : Int32) * x1).toNatClampNeg)), (.int (zI sP 3 (((3 : Int32) * x1) + (1 : Int32)).toNatClampNeg))] [] (fun r_1 => (some (.long r_1))) C dX2_pinBit_18 zy_X4_cellBit (fun U h => h.2.2.1) (fun _ hr9 => mX4_cellBit  hr9) (by decide) rfl (Nat.le_of_ble_eq_true rfl) rfl (fun r_1 hr_2 => ?_)
  show zJ X 2 res _ 21 [(0, (.ref (qP 0))), (1, (.int x1))] [(.long r_1)] [(2, qP, sP)]
  exact z_lreturn (pc := 21) C hR dX2_pinBit_21 (fun h => by subst h; exact ⟨rfl, rfl⟩)
theorem mX2_pinBit  {qP : Nat → Nat} {x1 : Int32} {sP : zOS} {res : Int64}  (hf : fX2_pinBit x1 sP = some res) : zM yX2_pinBit cX2_pinBit 2 (some .long) 1 21 [(.ref (qP 0)), (.int x1)] [(2, qP, sP)] (some (.long res)) [(2, qP, sP)] := zM_of (by decide +kernel) (Nat.le_of_ble_eq_true rfl) (fun X C hR => wX2_pinBit C hR  hf)
theorem dX2_pinNet_0 : decode cX2_pinNet 0 = .ok (.aload_n 0, 1) := by decide +kernel
theorem dX2_pinNet_1 : decode cX2_pinNet 1 = .ok (.getfield 19, 3) := by decide +kernel
theorem dX2_pinNet_4 : decode cX2_pinNet 4 = .ok (.iconst 3, 1) := by decide +kernel
theorem dX2_pinNet_5 : decode cX2_pinNet 5 = .ok (.iload_n 1, 1) := by decide +kernel
theorem dX2_pinNet_6 : decode cX2_pinNet 6 = .ok (.imul, 1) := by decide +kernel
theorem dX2_pinNet_7 : decode cX2_pinNet 7 = .ok (.iconst 2, 1) := by decide +kernel
theorem dX2_pinNet_8 : decode cX2_pinNet 8 = .ok (.iadd, 1) := by decide +kernel
theorem dX2_pinNet_9 : decode cX2_pinNet 9 = .ok (.iaload, 1) := by decide +kernel
theorem dX2_pinNet_10 : decode cX2_pinNet 10 = .ok (.ireturn, 1) := by decide +kernel
def fX2_pinNet (x1 : Int32) (sP : zOS) : Option (Int32) := (zchk (((3 : Int32) * x1) + (2 : Int32)) 18 (some (zI sP 3 (((3 : Int32) * x1) + (2 : Int32)).toNatClampNeg)))
set_option maxRecDepth 20000 in
theorem wX2_pinNet {X : zCx} {res : Int32}  {qP : Nat → Nat} {x1 : Int32} {sP : zOS} (C : zC X RX2 cX2_pinNet 2 0 0) (hR : zR X (some .int) (some (.int res)) [(2, qP, sP)])  : zJ X 2 res (fX2_pinNet x1 sP) 0 [(0, (.ref (qP 0))), (1, (.int x1))] [] [(2, qP, sP)] := by
  unfold fX2_pinNet
  refine z_aload_n (pc := 0) 0 rfl rfl C dX2_pinNet_0 ?_
  refine z_getR (pc := 1) 0 2 3 C dX2_pinNet_1 rfl (by decide) (by decide) rfl zw_113 ?_
  refine z_iconst (pc := 4) (3 : Int32) (by decide) C dX2_pinNet_4 ?_
  refine z_iload_n (pc := 5) 1 rfl rfl C dX2_pinNet_5 ?_
  refine z_imul (pc := 6) C dX2_pinNet_6 ?_
  refine z_iconst (pc := 7) (2 : Int32) (by decide) C dX2_pinNet_7 ?_
  refine z_iadd (pc := 8) C dX2_pinNet_8 ?_
  refine z_iald (pc := 9) 0 C dX2_pinNet_9 rfl (by unfold zAr; decide) ?_
  exact z_ireturn (pc := 10) C hR dX2_pinNet_10 (fun h => by subst h; exact ⟨rfl, rfl⟩)
theorem mX2_pinNet  {qP : Nat → Nat} {x1 : Int32} {sP : zOS} {res : Int32}  (hf : fX2_pinNet x1 sP = some res) : zM yX2_pinNet cX2_pinNet 2 (some .int) 0 0 [(.ref (qP 0)), (.int x1)] [(2, qP, sP)] (some (.int res)) [(2, qP, sP)] := zM_of (by decide +kernel) (Nat.le_of_ble_eq_true rfl) (fun X C hR => wX2_pinNet C hR  hf)
theorem dX2_hangOf_0 : decode cX2_hangOf 0 = .ok (.iconst 0, 1) := by decide +kernel
theorem dX2_hangOf_1 : decode cX2_hangOf 1 = .ok (.istore_n 2, 1) := by decide +kernel
theorem dX2_hangOf_2 : decode cX2_hangOf 2 = .ok (.iconst 0, 1) := by decide +kernel
theorem dX2_hangOf_3 : decode cX2_hangOf 3 = .ok (.istore_n 3, 1) := by decide +kernel
theorem dX2_hangOf_4 : decode cX2_hangOf 4 = .ok (.iload_n 3, 1) := by decide +kernel
theorem dX2_hangOf_5 : decode cX2_hangOf 5 = .ok (.aload_n 0, 1) := by decide +kernel
theorem dX2_hangOf_6 : decode cX2_hangOf 6 = .ok (.getfield 22, 3) := by decide +kernel
theorem dX2_hangOf_9 : decode cX2_hangOf 9 = .ok (.if_icmp .ge 61, 3) := by decide +kernel
theorem dX2_hangOf_12 : decode cX2_hangOf 12 = .ok (.iload_n 2, 1) := by decide +kernel
theorem dX2_hangOf_13 : decode cX2_hangOf 13 = .ok (.aload_n 0, 1) := by decide +kernel
theorem dX2_hangOf_14 : decode cX2_hangOf 14 = .ok (.iload_n 3, 1) := by decide +kernel
theorem dX2_hangOf_15 : decode cX2_hangOf 15 = .ok (.invokevirtual 70, 3) := by decide +kernel
theorem dX2_hangOf_18 : decode cX2_hangOf 18 = .ok (.iload_n 1, 1) := by decide +kernel
theorem dX2_hangOf_19 : decode cX2_hangOf 19 = .ok (.if_icmp .ne 8, 3) := by decide +kernel
theorem dX2_hangOf_22 : decode cX2_hangOf 22 = .ok (.bipush 10, 2) := by decide +kernel
theorem dX2_hangOf_24 : decode cX2_hangOf 24 = .ok (.goto 4, 3) := by decide +kernel
theorem dX2_hangOf_27 : decode cX2_hangOf 27 = .ok (.iconst 0, 1) := by decide +kernel
theorem dX2_hangOf_28 : decode cX2_hangOf 28 = .ok (.iadd, 1) := by decide +kernel
theorem dX2_hangOf_29 : decode cX2_hangOf 29 = .ok (.istore_n 2, 1) := by decide +kernel
theorem dX2_hangOf_30 : decode cX2_hangOf 30 = .ok (.iload_n 2, 1) := by decide +kernel
theorem dX2_hangOf_31 : decode cX2_hangOf 31 = .ok (.aload_n 0, 1) := by decide +kernel
theorem dX2_hangOf_32 : decode cX2_hangOf 32 = .ok (.iload_n 3, 1) := by decide +kernel
theorem dX2_hangOf_33 : decode cX2_hangOf 33 = .ok (.invokevirtual 74, 3) := by decide +kernel
theorem dX2_hangOf_36 : decode cX2_hangOf 36 = .ok (.iload_n 1, 1) := by decide +kernel
theorem dX2_hangOf_37 : decode cX2_hangOf 37 = .ok (.if_icmp .ne 7, 3) := by decide +kernel
theorem dX2_hangOf_40 : decode cX2_hangOf 40 = .ok (.iconst 1, 1) := by decide +kernel
theorem dX2_hangOf_41 : decode cX2_hangOf 41 = .ok (.goto 4, 3) := by decide +kernel
theorem dX2_hangOf_44 : decode cX2_hangOf 44 = .ok (.iconst 0, 1) := by decide +kernel
theorem dX2_hangOf_45 : decode cX2_hangOf 45 = .ok (.iadd, 1) := by decide +kernel
theorem dX2_hangOf_46 : decode cX2_hangOf 46 = .ok (.istore_n 2, 1) := by decide +kernel
theorem dX2_hangOf_47 : decode cX2_hangOf 47 = .ok (.iload_n 2, 1) := by decide +kernel
theorem dX2_hangOf_48 : decode cX2_hangOf 48 = .ok (.aload_n 0, 1) := by decide +kernel
theorem dX2_hangOf_49 : decode cX2_hangOf 49 = .ok (.iload_n 3, 1) := by decide +kernel
theorem dX2_hangOf_50 : decode cX2_hangOf 50 = .ok (.invokevirtual 77, 3) := by decide +kernel
theorem dX2_hangOf_53 : decode cX2_hangOf 53 = .ok (.iload_n 1, 1) := by decide +kernel
theorem dX2_hangOf_54 : decode cX2_hangOf 54 = .ok (.if_icmp .ne 7, 3) := by decide +kernel
theorem dX2_hangOf_57 : decode cX2_hangOf 57 = .ok (.iconst 1, 1) := by decide +kernel
theorem dX2_hangOf_58 : decode cX2_hangOf 58 = .ok (.goto 4, 3) := by decide +kernel
theorem dX2_hangOf_61 : decode cX2_hangOf 61 = .ok (.iconst 0, 1) := by decide +kernel
theorem dX2_hangOf_62 : decode cX2_hangOf 62 = .ok (.iadd, 1) := by decide +kernel
theorem dX2_hangOf_63 : decode cX2_hangOf 63 = .ok (.istore_n 2, 1) := by decide +kernel
theorem dX2_hangOf_64 : decode cX2_hangOf 64 = .ok (.iinc 3 1, 3) := by decide +kernel
theorem dX2_hangOf_67 : decode cX2_hangOf 67 = .ok (.goto (-63), 3) := by decide +kernel
theorem dX2_hangOf_70 : decode cX2_hangOf 70 = .ok (.iload_n 2, 1) := by decide +kernel
theorem dX2_hangOf_71 : decode cX2_hangOf 71 = .ok (.ireturn, 1) := by decide +kernel
def jX2_hangOf_45 (F : Nat) (kc_4 : (Int32 × Int32) → Option (Int32)) (x1 : Int32) (x3 : Int32) (v0 : Int32) (v1 : Int32) (sP : zOS) : Option (Int32) := (zlet (v1 + v0) (fun x2_6 : Int32 => (Option.bind (fX2_sideB x3 sP) (fun r_7 : Int32 => (if r_7 = x1 then (zlet (x2_6 + (1 : Int32)) (fun x2_9 : Int32 => (kc_4 (x2_9, (x3 + 1))))) else (zlet (x2_6 + (0 : Int32)) (fun x2_10 : Int32 => (kc_4 (x2_10, (x3 + 1))))))))))
set_option maxRecDepth 20000 in
theorem wX2_hangOf_45 {X : zCx} {res : Int32} {F : Nat} {qP : Nat → Nat} {sP : zOS} {x1 : Int32} {kc_4 : (Int32 × Int32) → Option (Int32)} (C : zC X RX2 cX2_hangOf 4 1 21) (hR : zR X (some .int) (some (.int res)) [(2, qP, sP)]) (hk_4 : ∀ (y2 : Int32) (y3 : Int32), zJ X 4 res (kc_4 (y2, y3)) 4 [(0, (.ref (qP 0))), (1, (.int x1)), (2, (.int y2)), (3, (.int y3))] [] [(2, qP, sP)]) (x3 : Int32) (v0 : Int32) (v1 : Int32) : zJ X 4 res (jX2_hangOf_45 F kc_4 x1 x3 v0 v1 sP) 45 [(0, (.ref (qP 0))), (1, (.int x1)), (3, (.int x3))] [(.int v0), (.int v1)] [(2, qP, sP)] := by
  unfold jX2_hangOf_45
  refine z_iadd (pc := 45) C dX2_hangOf_45 ?_
  refine z_leti (fun x2_6 => ?_)
  refine z_istore_n (pc := 46) [(0, (.ref (qP 0))), (1, (.int x1)), (2, (.int x2_6)), (3, (.int x3))] [1, 2, 0, 3] (by decide) rfl rfl C dX2_hangOf_46 ?_
  refine z_iload_n (pc := 47) 2 rfl rfl C dX2_hangOf_47 ?_
  refine z_aload_n (pc := 48) 0 rfl rfl C dX2_hangOf_48 ?_
  refine z_iload_n (pc := 49) 3 rfl rfl C dX2_hangOf_49 ?_
  refine z_callV (pc := 50) (rf' := 0) (rl' := 0) (fX2_sideB x3 sP) [(.int x3)] [(.int x2_6)] [(2, qP, sP)] (fun r_7 => (some (.int r_7))) (fun r_7 => [(2, qP, sP)]) [] (fun r_7 => [(2, qP, sP)]) C dX2_hangOf_50 zy_X2_sideB zw_538 (fun _ hr9 => mX2_sideB  hr9) (by decide) rfl rfl (by decide) rfl (Nat.le_of_ble_eq_true rfl) (List.Perm.refl _) (fun _ => List.Perm.refl _) rfl (fun r_7 hr_8 => ?_)
  show zJ X 4 res _ 53 [(0, (.ref (qP 0))), (1, (.int x1)), (2, (.int x2_6)), (3, (.int x3))] [(.int r_7), (.int x2_6)] [(2, qP, sP)]
  refine z_iload_n (pc := 53) 1 rfl rfl C dX2_hangOf_53 ?_
  refine z_icmp_ne (pc := 54) 61 C dX2_hangOf_54 (by decide) ?_ ?_
  · refine z_iconst (pc := 57) (1 : Int32) (by decide) C dX2_hangOf_57 ?_
    refine z_goto (pc := 58) 62 C dX2_hangOf_58 (by decide) ?_
    refine z_iadd (pc := 62) C dX2_hangOf_62 ?_
    refine z_leti (fun x2_9 => ?_)
    refine z_istore_n (pc := 63) [(0, (.ref (qP 0))), (1, (.int x1)), (2, (.int x2_9)), (3, (.int x3))] [1, 2, 0, 3] (by decide) rfl rfl C dX2_hangOf_63 ?_
    refine z_iinc (pc := 64) (x3 + 1) 3 rfl rfl [(0, (.ref (qP 0))), (1, (.int x1)), (2, (.int x2_9)), (3, (.int (x3 + 1)))] [1, 2, 3, 0] (by decide) rfl C dX2_hangOf_64 ?_
    refine z_goto (pc := 67) 4 C dX2_hangOf_67 (by decide) ?_
    exact hk_4 _ _
  · refine z_iconst (pc := 61) (0 : Int32) (by decide) C dX2_hangOf_61 ?_
    refine z_iadd (pc := 62) C dX2_hangOf_62 ?_
    refine z_leti (fun x2_10 => ?_)
    refine z_istore_n (pc := 63) [(0, (.ref (qP 0))), (1, (.int x1)), (2, (.int x2_10)), (3, (.int x3))] [1, 2, 0, 3] (by decide) rfl rfl C dX2_hangOf_63 ?_
    refine z_iinc (pc := 64) (x3 + 1) 3 rfl rfl [(0, (.ref (qP 0))), (1, (.int x1)), (2, (.int x2_10)), (3, (.int (x3 + 1)))] [1, 2, 3, 0] (by decide) rfl C dX2_hangOf_64 ?_
    refine z_goto (pc := 67) 4 C dX2_hangOf_67 (by decide) ?_
    exact hk_4 _ _
def jX2_hangOf_28 (F : Nat) (kc_4 : (Int32 × Int32) → Option (Int32)) (x1 : Int32) (x3 : Int32) (v0 : Int32) (v1 : Int32) (sP : zOS) : Option (Int32) := (zlet (v1 + v0) (fun x2_3 : Int32 => (Option.bind (fX2_sideA x3 sP) (fun r_4 : Int32 => (if r_4 = x1 then (jX2_hangOf_45 F kc_4 x1 x3 (1 : Int32) x2_3 sP) else (jX2_hangOf_45 F kc_4 x1 x3 (0 : Int32) x2_3 sP))))))
set_option maxRecDepth 20000 in
theorem wX2_hangOf_28 {X : zCx} {res : Int32} {F : Nat} {qP : Nat → Nat} {sP : zOS} {x1 : Int32} {kc_4 : (Int32 × Int32) → Option (Int32)} (C : zC X RX2 cX2_hangOf 4 1 21) (hR : zR X (some .int) (some (.int res)) [(2, qP, sP)]) (hk_4 : ∀ (y2 : Int32) (y3 : Int32), zJ X 4 res (kc_4 (y2, y3)) 4 [(0, (.ref (qP 0))), (1, (.int x1)), (2, (.int y2)), (3, (.int y3))] [] [(2, qP, sP)]) (x3 : Int32) (v0 : Int32) (v1 : Int32) : zJ X 4 res (jX2_hangOf_28 F kc_4 x1 x3 v0 v1 sP) 28 [(0, (.ref (qP 0))), (1, (.int x1)), (3, (.int x3))] [(.int v0), (.int v1)] [(2, qP, sP)] := by
  unfold jX2_hangOf_28
  refine z_iadd (pc := 28) C dX2_hangOf_28 ?_
  refine z_leti (fun x2_3 => ?_)
  refine z_istore_n (pc := 29) [(0, (.ref (qP 0))), (1, (.int x1)), (2, (.int x2_3)), (3, (.int x3))] [1, 2, 0, 3] (by decide) rfl rfl C dX2_hangOf_29 ?_
  refine z_iload_n (pc := 30) 2 rfl rfl C dX2_hangOf_30 ?_
  refine z_aload_n (pc := 31) 0 rfl rfl C dX2_hangOf_31 ?_
  refine z_iload_n (pc := 32) 3 rfl rfl C dX2_hangOf_32 ?_
  refine z_callV (pc := 33) (rf' := 0) (rl' := 0) (fX2_sideA x3 sP) [(.int x3)] [(.int x2_3)] [(2, qP, sP)] (fun r_4 => (some (.int r_4))) (fun r_4 => [(2, qP, sP)]) [] (fun r_4 => [(2, qP, sP)]) C dX2_hangOf_33 zy_X2_sideA zw_534 (fun _ hr9 => mX2_sideA  hr9) (by decide) rfl rfl (by decide) rfl (Nat.le_of_ble_eq_true rfl) (List.Perm.refl _) (fun _ => List.Perm.refl _) rfl (fun r_4 hr_5 => ?_)
  show zJ X 4 res _ 36 [(0, (.ref (qP 0))), (1, (.int x1)), (2, (.int x2_3)), (3, (.int x3))] [(.int r_4), (.int x2_3)] [(2, qP, sP)]
  refine z_iload_n (pc := 36) 1 rfl rfl C dX2_hangOf_36 ?_
  refine z_icmp_ne (pc := 37) 44 C dX2_hangOf_37 (by decide) ?_ ?_
  · refine z_iconst (pc := 40) (1 : Int32) (by decide) C dX2_hangOf_40 ?_
    refine z_goto (pc := 41) 45 C dX2_hangOf_41 (by decide) ?_
    refine z_lv [(0, (.ref (qP 0))), (1, (.int x1)), (3, (.int x3))] [0, 1, 3] rfl ?_
    exact wX2_hangOf_45 C hR  hk_4 _ _ _
  · refine z_iconst (pc := 44) (0 : Int32) (by decide) C dX2_hangOf_44 ?_
    refine z_lv [(0, (.ref (qP 0))), (1, (.int x1)), (3, (.int x3))] [0, 1, 3] rfl ?_
    exact wX2_hangOf_45 C hR  hk_4 _ _ _
def bX2_hangOf_4 (F : Nat) (x1 : Int32) (sP : zOS) (kc_4 : (Int32 × Int32) → Option (Int32)) (x2 : Int32) (x3 : Int32) : Option (Int32) := (if (zF sP 3) ≤ x3 then (some (x2)) else (Option.bind (fX2_gateNet x3 sP) (fun r_1 : Int32 => (if r_1 = x1 then (jX2_hangOf_28 F kc_4 x1 x3 (10 : Int32) x2 sP) else (jX2_hangOf_28 F kc_4 x1 x3 (0 : Int32) x2 sP)))))
set_option maxRecDepth 20000 in
theorem vX2_hangOf_4 {X : zCx} {res : Int32} {F : Nat} {qP : Nat → Nat} {sP : zOS} {x1 : Int32} {kc_4 : (Int32 × Int32) → Option (Int32)} (C : zC X RX2 cX2_hangOf 4 1 21) (hR : zR X (some .int) (some (.int res)) [(2, qP, sP)]) (hk_4 : ∀ (y2 : Int32) (y3 : Int32), zJ X 4 res (kc_4 (y2, y3)) 4 [(0, (.ref (qP 0))), (1, (.int x1)), (2, (.int y2)), (3, (.int y3))] [] [(2, qP, sP)]) (x2 : Int32) (x3 : Int32) : zJ X 4 res (bX2_hangOf_4 F x1 sP kc_4 x2 x3) 4 [(0, (.ref (qP 0))), (1, (.int x1)), (2, (.int x2)), (3, (.int x3))] [] [(2, qP, sP)] := by
  unfold bX2_hangOf_4
  refine z_iload_n (pc := 4) 3 rfl rfl C dX2_hangOf_4 ?_
  refine z_aload_n (pc := 5) 0 rfl rfl C dX2_hangOf_5 ?_
  refine z_getI (pc := 6) 0 3 C dX2_hangOf_6 rfl (by decide) (by decide) rfl zw_115 ?_
  refine z_icmp_ge (pc := 9) 70 C dX2_hangOf_9 (by decide) ?_ ?_
  · refine z_iload_n (pc := 70) 2 rfl rfl C dX2_hangOf_70 ?_
    exact z_ireturn (pc := 71) C hR dX2_hangOf_71 (fun h => by subst h; exact ⟨rfl, rfl⟩)
  · refine z_iload_n (pc := 12) 2 rfl rfl C dX2_hangOf_12 ?_
    refine z_aload_n (pc := 13) 0 rfl rfl C dX2_hangOf_13 ?_
    refine z_iload_n (pc := 14) 3 rfl rfl C dX2_hangOf_14 ?_
    refine z_callV (pc := 15) (rf' := 0) (rl' := 0) (fX2_gateNet x3 sP) [(.int x3)] [(.int x2)] [(2, qP, sP)] (fun r_1 => (some (.int r_1))) (fun r_1 => [(2, qP, sP)]) [] (fun r_1 => [(2, qP, sP)]) C dX2_hangOf_15 zy_X2_gateNet zw_533 (fun _ hr9 => mX2_gateNet  hr9) (by decide) rfl rfl (by decide) rfl (Nat.le_of_ble_eq_true rfl) (List.Perm.refl _) (fun _ => List.Perm.refl _) rfl (fun r_1 hr_2 => ?_)
    show zJ X 4 res _ 18 [(0, (.ref (qP 0))), (1, (.int x1)), (2, (.int x2)), (3, (.int x3))] [(.int r_1), (.int x2)] [(2, qP, sP)]
    refine z_iload_n (pc := 18) 1 rfl rfl C dX2_hangOf_18 ?_
    refine z_icmp_ne (pc := 19) 27 C dX2_hangOf_19 (by decide) ?_ ?_
    · refine z_bipush (pc := 22) (10 : Int32) (by decide) C dX2_hangOf_22 ?_
      refine z_goto (pc := 24) 28 C dX2_hangOf_24 (by decide) ?_
      refine z_lv [(0, (.ref (qP 0))), (1, (.int x1)), (3, (.int x3))] [0, 1, 3] rfl ?_
      exact wX2_hangOf_28 C hR  hk_4 _ _ _
    · refine z_iconst (pc := 27) (0 : Int32) (by decide) C dX2_hangOf_27 ?_
      refine z_lv [(0, (.ref (qP 0))), (1, (.int x1)), (3, (.int x3))] [0, 1, 3] rfl ?_
      exact wX2_hangOf_28 C hR  hk_4 _ _ _
def fX2_hangOf (F : Nat) (x1 : Int32) (sP : zOS) : Option (Int32) := (zit (P := Int32 × Int32) (R := Int32) (fun kc9 p9 => bX2_hangOf_4 F x1 sP kc9 p9.1 p9.2) F ((0 : Int32), (0 : Int32)))
set_option maxRecDepth 20000 in
theorem wX2_hangOf {X : zCx} {res : Int32} {F : Nat} {qP : Nat → Nat} {x1 : Int32} {sP : zOS} (C : zC X RX2 cX2_hangOf 4 1 21) (hR : zR X (some .int) (some (.int res)) [(2, qP, sP)])  : zJ X 4 res (fX2_hangOf F x1 sP) 0 [(0, (.ref (qP 0))), (1, (.int x1))] [] [(2, qP, sP)] := by
  unfold fX2_hangOf
  refine z_iconst (pc := 0) (0 : Int32) (by decide) C dX2_hangOf_0 ?_
  refine z_istore_n (pc := 1) [(0, (.ref (qP 0))), (1, (.int x1)), (2, (.int (0 : Int32)))] [1, 2, 0] (by decide) rfl rfl C dX2_hangOf_1 ?_
  refine z_iconst (pc := 2) (0 : Int32) (by decide) C dX2_hangOf_2 ?_
  refine z_istore_n (pc := 3) [(0, (.ref (qP 0))), (1, (.int x1)), (2, (.int (0 : Int32))), (3, (.int (0 : Int32)))] [1, 2, 3, 0] (by decide) rfl rfl C dX2_hangOf_3 ?_
  show zJ X 4 res _ 4 [(0, (.ref (qP 0))), (1, (.int x1)), (2, (.int (0 : Int32))), (3, (.int (0 : Int32)))] [] [(2, qP, sP)]
  exact zit_J (P := Int32 × Int32) (B := (fun kc9 p9 => bX2_hangOf_4 F x1 sP kc9 p9.1 p9.2)) (fun p9 => [(0, (.ref (qP 0))), (1, (.int x1)), (2, (.int p9.1)), (3, (.int p9.2))]) (fun p9 => [(2, qP, sP)]) (fun kc9 hk9 p9 => vX2_hangOf_4 C hR   (fun a0 a1 => hk9 (a0, a1)) p9.1 p9.2) F _
theorem mX2_hangOf {F : Nat} {qP : Nat → Nat} {x1 : Int32} {sP : zOS} {res : Int32}  (hf : fX2_hangOf F x1 sP = some res) : zM yX2_hangOf cX2_hangOf 4 (some .int) 1 21 [(.ref (qP 0)), (.int x1)] [(2, qP, sP)] (some (.int res)) [(2, qP, sP)] := zM_of (by decide +kernel) (Nat.le_of_ble_eq_true rfl) (fun X C hR => wX2_hangOf (F := F) C hR  hf)
