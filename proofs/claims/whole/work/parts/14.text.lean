theorem dX3_add_0 : decode cX3_add 0 = .ok (.iload_n 1, 1) := by decide +kernel
theorem dX3_add_1 : decode cX3_add 1 = .ok (.ifCond .lt 9, 3) := by decide +kernel
theorem dX3_add_4 : decode cX3_add 4 = .ok (.iload_n 1, 1) := by decide +kernel
theorem dX3_add_5 : decode cX3_add 5 = .ok (.bipush 127, 2) := by decide +kernel
theorem dX3_add_7 : decode cX3_add 7 = .ok (.if_icmp .le 6, 3) := by decide +kernel
theorem dX3_add_10 : decode cX3_add 10 = .ok (.bipush (-2), 2) := by decide +kernel
theorem dX3_add_12 : decode cX3_add 12 = .ok (.ireturn, 1) := by decide +kernel
theorem dX3_add_13 : decode cX3_add 13 = .ok (.aload_n 0, 1) := by decide +kernel
theorem dX3_add_14 : decode cX3_add 14 = .ok (.getfield 19, 3) := by decide +kernel
theorem dX3_add_17 : decode cX3_add 17 = .ok (.sipush 150, 3) := by decide +kernel
theorem dX3_add_20 : decode cX3_add 20 = .ok (.if_icmp .lt 6, 3) := by decide +kernel
theorem dX3_add_23 : decode cX3_add 23 = .ok (.bipush (-4), 2) := by decide +kernel
theorem dX3_add_25 : decode cX3_add 25 = .ok (.ireturn, 1) := by decide +kernel
theorem dX3_add_26 : decode cX3_add 26 = .ok (.aload_n 0, 1) := by decide +kernel
theorem dX3_add_27 : decode cX3_add 27 = .ok (.getfield 9, 3) := by decide +kernel
theorem dX3_add_30 : decode cX3_add 30 = .ok (.aload_n 0, 1) := by decide +kernel
theorem dX3_add_31 : decode cX3_add 31 = .ok (.getfield 19, 3) := by decide +kernel
theorem dX3_add_34 : decode cX3_add 34 = .ok (.iload_n 1, 1) := by decide +kernel
theorem dX3_add_35 : decode cX3_add 35 = .ok (.i2b, 1) := by decide +kernel
theorem dX3_add_36 : decode cX3_add 36 = .ok (.bastore, 1) := by decide +kernel
theorem dX3_add_37 : decode cX3_add 37 = .ok (.aload_n 0, 1) := by decide +kernel
theorem dX3_add_38 : decode cX3_add 38 = .ok (.dup, 1) := by decide +kernel
theorem dX3_add_39 : decode cX3_add 39 = .ok (.getfield 19, 3) := by decide +kernel
theorem dX3_add_42 : decode cX3_add 42 = .ok (.iconst 1, 1) := by decide +kernel
theorem dX3_add_43 : decode cX3_add 43 = .ok (.iadd, 1) := by decide +kernel
theorem dX3_add_44 : decode cX3_add 44 = .ok (.putfield 19, 3) := by decide +kernel
theorem dX3_add_47 : decode cX3_add 47 = .ok (.aload_n 0, 1) := by decide +kernel
theorem dX3_add_48 : decode cX3_add 48 = .ok (.getfield 19, 3) := by decide +kernel
theorem dX3_add_51 : decode cX3_add 51 = .ok (.ireturn, 1) := by decide +kernel
def fX3_add (x1 : Int32) (sT : zOS) : Option (Int32 × zOS) := (if x1 < 0 then (some ((-2 : Int32), sT)) else (if x1 ≤ (127 : Int32) then (if (zF sT 2) < (150 : Int32) then (zchk (zF sT 2) 150 (zlet (zsI sT 1 (upd (zI sT 1) (zF sT 2).toNatClampNeg (vp_nar .byte x1.toInt8.toInt32))) (fun sT_1 : zOS => (zlet (zsF sT_1 2 ((zF sT_1 2) + (1 : Int32))) (fun sT_2 : zOS => (some (zF sT_2 2, sT_2))))))) else (some ((-4 : Int32), sT))) else (some ((-2 : Int32), sT))))
set_option maxRecDepth 20000 in
theorem wX3_add {X : zCx} {res : Int32 × zOS}  {qT : Nat → Nat} {x1 : Int32} {sT : zOS} (C : zC X RX3 cX3_add 2 0 0) (hR : zR X (some .int) (some (.int res.1)) [(3, qT, res.2)])  : zJ X 2 res (fX3_add x1 sT) 0 [(0, (.ref (qT 0))), (1, (.int x1))] [] [(3, qT, sT)] := by
  unfold fX3_add
  refine z_iload_n (pc := 0) 1 rfl rfl C dX3_add_0 ?_
  refine z_if_lt (pc := 1) 10 C dX3_add_1 (by decide) ?_ ?_
  · refine z_bipush (pc := 10) (-2 : Int32) (by decide) C dX3_add_10 ?_
    exact z_ireturn (pc := 12) C hR dX3_add_12 (fun h => by subst h; exact ⟨rfl, rfl⟩)
  · refine z_iload_n (pc := 4) 1 rfl rfl C dX3_add_4 ?_
    refine z_bipush (pc := 5) (127 : Int32) (by decide) C dX3_add_5 ?_
    refine z_icmp_le (pc := 7) 13 C dX3_add_7 (by decide) ?_ ?_
    · refine z_aload_n (pc := 13) 0 rfl rfl C dX3_add_13 ?_
      refine z_getI (pc := 14) 0 2 C dX3_add_14 rfl (by decide) (by decide) rfl zw_251 ?_
      refine z_sipush (pc := 17) (150 : Int32) (by decide) C dX3_add_17 ?_
      refine z_icmp_lt (pc := 20) 26 C dX3_add_20 (by decide) ?_ ?_
      · refine z_aload_n (pc := 26) 0 rfl rfl C dX3_add_26 ?_
        refine z_getR (pc := 27) 0 0 1 C dX3_add_27 rfl (by decide) (by decide) rfl zw_249 ?_
        refine z_aload_n (pc := 30) 0 rfl rfl C dX3_add_30 ?_
        refine z_getI (pc := 31) 0 2 C dX3_add_31 rfl (by decide) (by decide) rfl zw_251 ?_
        refine z_iload_n (pc := 34) 1 rfl rfl C dX3_add_34 ?_
        refine z_i2b (pc := 35) C dX3_add_35 ?_
        refine z_bast (pc := 36) 0 C dX3_add_36 rfl (by unfold zAr; decide) [(3, qT, (zsI sT 1 (upd (zI sT 1) (zF sT 2).toNatClampNeg (vp_nar .byte x1.toInt8.toInt32))))] rfl ?_
        refine z_letc (fun z9 => [(3, qT, z9)]) (fun sT_1 => ?_)
        refine z_aload_n (pc := 37) 0 rfl rfl C dX3_add_37 ?_
        refine z_dup (pc := 38) rfl C dX3_add_38 ?_
        refine z_getI (pc := 39) 0 2 C dX3_add_39 rfl (by decide) (by decide) rfl zw_251 ?_
        refine z_iconst (pc := 42) (1 : Int32) (by decide) C dX3_add_42 ?_
        refine z_iadd (pc := 43) C dX3_add_43 ?_
        refine z_putI (pc := 44) 0 2 C dX3_add_44 rfl (by decide) (by decide) rfl zw_251 rfl rfl rfl [(3, qT, (zsF sT_1 2 ((zF sT_1 2) + (1 : Int32))))] rfl ?_
        refine z_letc (fun z9 => [(3, qT, z9)]) (fun sT_2 => ?_)
        refine z_aload_n (pc := 47) 0 rfl rfl C dX3_add_47 ?_
        refine z_getI (pc := 48) 0 2 C dX3_add_48 rfl (by decide) (by decide) rfl zw_251 ?_
        exact z_ireturn (pc := 51) C hR dX3_add_51 (fun h => by subst h; exact ⟨rfl, rfl⟩)
      · refine z_bipush (pc := 23) (-4 : Int32) (by decide) C dX3_add_23 ?_
        exact z_ireturn (pc := 25) C hR dX3_add_25 (fun h => by subst h; exact ⟨rfl, rfl⟩)
    · refine z_bipush (pc := 10) (-2 : Int32) (by decide) C dX3_add_10 ?_
      exact z_ireturn (pc := 12) C hR dX3_add_12 (fun h => by subst h; exact ⟨rfl, rfl⟩)
theorem mX3_add  {qT : Nat → Nat} {x1 : Int32} {sT : zOS} {res : Int32 × zOS}  (hf : fX3_add x1 sT = some res) : zM yX3_add cX3_add 2 (some .int) 0 0 [(.ref (qT 0)), (.int x1)] [(3, qT, sT)] (some (.int res.1)) [(3, qT, res.2)] := zM_of (by decide +kernel) (Nat.le_of_ble_eq_true rfl) (fun X C hR => wX3_add C hR  hf)
theorem dX3_findFault_0 : decode cX3_findFault 0 = .ok (.iconst (-1), 1) := by decide +kernel
theorem dX3_findFault_1 : decode cX3_findFault 1 = .ok (.istore_n 1, 1) := by decide +kernel
theorem dX3_findFault_2 : decode cX3_findFault 2 = .ok (.iconst 0, 1) := by decide +kernel
theorem dX3_findFault_3 : decode cX3_findFault 3 = .ok (.istore_n 2, 1) := by decide +kernel
theorem dX3_findFault_4 : decode cX3_findFault 4 = .ok (.iconst 0, 1) := by decide +kernel
theorem dX3_findFault_5 : decode cX3_findFault 5 = .ok (.istore_n 3, 1) := by decide +kernel
theorem dX3_findFault_6 : decode cX3_findFault 6 = .ok (.iload_n 3, 1) := by decide +kernel
theorem dX3_findFault_7 : decode cX3_findFault 7 = .ok (.aload_n 0, 1) := by decide +kernel
theorem dX3_findFault_8 : decode cX3_findFault 8 = .ok (.getfield 19, 3) := by decide +kernel
theorem dX3_findFault_11 : decode cX3_findFault 11 = .ok (.if_icmp .ge 67, 3) := by decide +kernel
theorem dX3_findFault_14 : decode cX3_findFault 14 = .ok (.aload_n 0, 1) := by decide +kernel
theorem dX3_findFault_15 : decode cX3_findFault 15 = .ok (.getfield 9, 3) := by decide +kernel
theorem dX3_findFault_18 : decode cX3_findFault 18 = .ok (.iload_n 3, 1) := by decide +kernel
theorem dX3_findFault_19 : decode cX3_findFault 19 = .ok (.baload, 1) := by decide +kernel
theorem dX3_findFault_20 : decode cX3_findFault 20 = .ok (.istore 4, 2) := by decide +kernel
theorem dX3_findFault_22 : decode cX3_findFault 22 = .ok (.iload 4, 2) := by decide +kernel
theorem dX3_findFault_24 : decode cX3_findFault 24 = .ok (.bipush 32, 2) := by decide +kernel
theorem dX3_findFault_26 : decode cX3_findFault 26 = .ok (.if_icmp .ne 6, 3) := by decide +kernel
theorem dX3_findFault_29 : decode cX3_findFault 29 = .ok (.goto 43, 3) := by decide +kernel
theorem dX3_findFault_32 : decode cX3_findFault 32 = .ok (.iload 4, 2) := by decide +kernel
theorem dX3_findFault_34 : decode cX3_findFault 34 = .ok (.iload_n 1, 1) := by decide +kernel
theorem dX3_findFault_35 : decode cX3_findFault 35 = .ok (.invokestatic 23, 3) := by decide +kernel
theorem dX3_findFault_38 : decode cX3_findFault 38 = .ok (.ifCond .ne 5, 3) := by decide +kernel
theorem dX3_findFault_41 : decode cX3_findFault 41 = .ok (.iload_n 3, 1) := by decide +kernel
theorem dX3_findFault_42 : decode cX3_findFault 42 = .ok (.ireturn, 1) := by decide +kernel
theorem dX3_findFault_43 : decode cX3_findFault 43 = .ok (.iload_n 1, 1) := by decide +kernel
theorem dX3_findFault_44 : decode cX3_findFault 44 = .ok (.iconst (-1), 1) := by decide +kernel
theorem dX3_findFault_45 : decode cX3_findFault 45 = .ok (.if_icmp .ne 12, 3) := by decide +kernel
theorem dX3_findFault_48 : decode cX3_findFault 48 = .ok (.iload 4, 2) := by decide +kernel
theorem dX3_findFault_50 : decode cX3_findFault 50 = .ok (.invokestatic 27, 3) := by decide +kernel
theorem dX3_findFault_53 : decode cX3_findFault 53 = .ok (.istore_n 1, 1) := by decide +kernel
theorem dX3_findFault_54 : decode cX3_findFault 54 = .ok (.goto 18, 3) := by decide +kernel
theorem dX3_findFault_57 : decode cX3_findFault 57 = .ok (.iload_n 2, 1) := by decide +kernel
theorem dX3_findFault_58 : decode cX3_findFault 58 = .ok (.iload_n 1, 1) := by decide +kernel
theorem dX3_findFault_59 : decode cX3_findFault 59 = .ok (.ifCond .ne 7, 3) := by decide +kernel
theorem dX3_findFault_62 : decode cX3_findFault 62 = .ok (.iconst 1, 1) := by decide +kernel
theorem dX3_findFault_63 : decode cX3_findFault 63 = .ok (.goto 4, 3) := by decide +kernel
theorem dX3_findFault_66 : decode cX3_findFault 66 = .ok (.iconst 0, 1) := by decide +kernel
theorem dX3_findFault_67 : decode cX3_findFault 67 = .ok (.iadd, 1) := by decide +kernel
theorem dX3_findFault_68 : decode cX3_findFault 68 = .ok (.istore_n 2, 1) := by decide +kernel
theorem dX3_findFault_69 : decode cX3_findFault 69 = .ok (.iinc 1 (-1), 3) := by decide +kernel
theorem dX3_findFault_72 : decode cX3_findFault 72 = .ok (.iinc 3 1, 3) := by decide +kernel
theorem dX3_findFault_75 : decode cX3_findFault 75 = .ok (.goto (-69), 3) := by decide +kernel
theorem dX3_findFault_78 : decode cX3_findFault 78 = .ok (.iload_n 1, 1) := by decide +kernel
theorem dX3_findFault_79 : decode cX3_findFault 79 = .ok (.iconst (-1), 1) := by decide +kernel
theorem dX3_findFault_80 : decode cX3_findFault 80 = .ok (.if_icmp .ne 11, 3) := by decide +kernel
theorem dX3_findFault_83 : decode cX3_findFault 83 = .ok (.iload_n 2, 1) := by decide +kernel
theorem dX3_findFault_84 : decode cX3_findFault 84 = .ok (.ifCond .le 7, 3) := by decide +kernel
theorem dX3_findFault_87 : decode cX3_findFault 87 = .ok (.iconst (-1), 1) := by decide +kernel
theorem dX3_findFault_88 : decode cX3_findFault 88 = .ok (.goto 7, 3) := by decide +kernel
theorem dX3_findFault_91 : decode cX3_findFault 91 = .ok (.aload_n 0, 1) := by decide +kernel
theorem dX3_findFault_92 : decode cX3_findFault 92 = .ok (.getfield 19, 3) := by decide +kernel
theorem dX3_findFault_95 : decode cX3_findFault 95 = .ok (.ireturn, 1) := by decide +kernel
def bX3_findFault_6 (F : Nat) (sT : zOS) (kc_6 : (Int32 × Int32 × Int32) → Option (Int32)) (x1 : Int32) (x2 : Int32) (x3 : Int32) : Option (Int32) := (if (zF sT 2) ≤ x3 then (if x1 = (-1 : Int32) then (if x2 ≤ 0 then (some (zF sT 2)) else (some ((-1 : Int32)))) else (some (zF sT 2))) else (zchk x3 150 (zlet (zI sT 1 x3.toNatClampNeg) (fun x4_1 : Int32 => (if x4_1 = (32 : Int32) then (kc_6 (x1, x2, (x3 + 1))) else (Option.bind (fX3_canStand x4_1 x1) (fun r_2 : Int32 => (if r_2 = 0 then (some (x3)) else (if x1 = (-1 : Int32) then (Option.bind (fX3_figuresOf x4_1) (fun r_4 : Int32 => (kc_6 (r_4, x2, (x3 + 1))))) else (if x1 = 0 then (zlet (x2 + (1 : Int32)) (fun x2_6 : Int32 => (kc_6 ((x1 + (-1)), x2_6, (x3 + 1))))) else (zlet (x2 + (0 : Int32)) (fun x2_7 : Int32 => (kc_6 ((x1 + (-1)), x2_7, (x3 + 1)))))))))))))))
set_option maxRecDepth 20000 in
theorem vX3_findFault_6 {X : zCx} {res : Int32} {F : Nat} {qT : Nat → Nat} {sT : zOS} {kc_6 : (Int32 × Int32 × Int32) → Option (Int32)} (C : zC X RX3 cX3_findFault 5 2 41) (hR : zR X (some .int) (some (.int res)) [(3, qT, sT)]) (hk_6 : ∀ (y1 : Int32) (y2 : Int32) (y3 : Int32), zJ X 5 res (kc_6 (y1, y2, y3)) 6 [(0, (.ref (qT 0))), (1, (.int y1)), (2, (.int y2)), (3, (.int y3))] [] [(3, qT, sT)]) (x1 : Int32) (x2 : Int32) (x3 : Int32) : zJ X 5 res (bX3_findFault_6 F sT kc_6 x1 x2 x3) 6 [(0, (.ref (qT 0))), (1, (.int x1)), (2, (.int x2)), (3, (.int x3))] [] [(3, qT, sT)] := by
  unfold bX3_findFault_6
  refine z_iload_n (pc := 6) 3 rfl rfl C dX3_findFault_6 ?_
  refine z_aload_n (pc := 7) 0 rfl rfl C dX3_findFault_7 ?_
  refine z_getI (pc := 8) 0 2 C dX3_findFault_8 rfl (by decide) (by decide) rfl zw_251 ?_
  refine z_icmp_ge (pc := 11) 78 C dX3_findFault_11 (by decide) ?_ ?_
  · refine z_iload_n (pc := 78) 1 rfl rfl C dX3_findFault_78 ?_
    refine z_iconst (pc := 79) (-1 : Int32) (by decide) C dX3_findFault_79 ?_
    refine z_icmp_ne (pc := 80) 91 C dX3_findFault_80 (by decide) ?_ ?_
    · refine z_iload_n (pc := 83) 2 rfl rfl C dX3_findFault_83 ?_
      refine z_if_le (pc := 84) 91 C dX3_findFault_84 (by decide) ?_ ?_
      · refine z_aload_n (pc := 91) 0 rfl rfl C dX3_findFault_91 ?_
        refine z_getI (pc := 92) 0 2 C dX3_findFault_92 rfl (by decide) (by decide) rfl zw_251 ?_
        exact z_ireturn (pc := 95) C hR dX3_findFault_95 (fun h => by subst h; exact ⟨rfl, rfl⟩)
      · refine z_iconst (pc := 87) (-1 : Int32) (by decide) C dX3_findFault_87 ?_
        refine z_goto (pc := 88) 95 C dX3_findFault_88 (by decide) ?_
        exact z_ireturn (pc := 95) C hR dX3_findFault_95 (fun h => by subst h; exact ⟨rfl, rfl⟩)
    · refine z_aload_n (pc := 91) 0 rfl rfl C dX3_findFault_91 ?_
      refine z_getI (pc := 92) 0 2 C dX3_findFault_92 rfl (by decide) (by decide) rfl zw_251 ?_
      exact z_ireturn (pc := 95) C hR dX3_findFault_95 (fun h => by subst h; exact ⟨rfl, rfl⟩)
  · refine z_aload_n (pc := 14) 0 rfl rfl C dX3_findFault_14 ?_
    refine z_getR (pc := 15) 0 0 1 C dX3_findFault_15 rfl (by decide) (by decide) rfl zw_249 ?_
    refine z_iload_n (pc := 18) 3 rfl rfl C dX3_findFault_18 ?_
    refine z_bald (pc := 19) 0 C dX3_findFault_19 rfl (by unfold zAr; decide) ?_
    refine z_leti (fun x4_1 => ?_)
    refine z_istore (pc := 20) [(0, (.ref (qT 0))), (1, (.int x1)), (2, (.int x2)), (3, (.int x3)), (4, (.int x4_1))] [1, 2, 3, 4, 0] (by decide) rfl C dX3_findFault_20 ?_
    refine z_iload (pc := 22) 4 rfl C dX3_findFault_22 ?_
    refine z_bipush (pc := 24) (32 : Int32) (by decide) C dX3_findFault_24 ?_
    refine z_icmp_ne (pc := 26) 32 C dX3_findFault_26 (by decide) ?_ ?_
    · refine z_goto (pc := 29) 72 C dX3_findFault_29 (by decide) ?_
      refine z_iinc (pc := 72) (x3 + 1) 3 rfl rfl [(0, (.ref (qT 0))), (1, (.int x1)), (2, (.int x2)), (3, (.int (x3 + 1))), (4, (.int x4_1))] [1, 2, 3, 0, 4] (by decide) rfl C dX3_findFault_72 ?_
      refine z_goto (pc := 75) 6 C dX3_findFault_75 (by decide) ?_
      refine z_lv [(0, (.ref (qT 0))), (1, (.int x1)), (2, (.int x2)), (3, (.int (x3 + 1)))] [0, 1, 2, 3] rfl ?_
      exact hk_6 _ _ _
    · refine z_iload (pc := 32) 4 rfl C dX3_findFault_32 ?_
      refine z_iload_n (pc := 34) 1 rfl rfl C dX3_findFault_34 ?_
      refine z_callS (pc := 35) (rf' := 1) (rl' := 20) (fX3_canStand x4_1 x1) [(.int x4_1), (.int x1)] [] [] (fun r_2 => (some (.int r_2))) (fun r_2 => []) [(3, qT, sT)] (fun r_2 => [(3, qT, sT)]) C dX3_findFault_35 zy_X3_canStand zw_661 (fun _ hr9 => mX3_canStand  hr9) (by decide) rfl (Nat.le_of_ble_eq_true rfl) (List.Perm.refl _) (fun _ => List.Perm.refl _) rfl (fun r_2 hr_3 => ?_)
      show zJ X 5 res _ 38 [(0, (.ref (qT 0))), (1, (.int x1)), (2, (.int x2)), (3, (.int x3)), (4, (.int x4_1))] [(.int r_2)] [(3, qT, sT)]
      refine z_if_ne (pc := 38) 43 C dX3_findFault_38 (by decide) ?_ ?_
      · refine z_iload_n (pc := 41) 3 rfl rfl C dX3_findFault_41 ?_
        exact z_ireturn (pc := 42) C hR dX3_findFault_42 (fun h => by subst h; exact ⟨rfl, rfl⟩)
      · refine z_iload_n (pc := 43) 1 rfl rfl C dX3_findFault_43 ?_
        refine z_iconst (pc := 44) (-1 : Int32) (by decide) C dX3_findFault_44 ?_
        refine z_icmp_ne (pc := 45) 57 C dX3_findFault_45 (by decide) ?_ ?_
        · refine z_iload (pc := 48) 4 rfl C dX3_findFault_48 ?_
          refine z_callS (pc := 50) (rf' := 0) (rl' := 0) (fX3_figuresOf x4_1) [(.int x4_1)] [] [] (fun r_4 => (some (.int r_4))) (fun r_4 => []) [(3, qT, sT)] (fun r_4 => [(3, qT, sT)]) C dX3_findFault_50 zy_X3_figuresOf zw_664 (fun _ hr9 => mX3_figuresOf  hr9) (by decide) rfl (Nat.le_of_ble_eq_true rfl) (List.Perm.refl _) (fun _ => List.Perm.refl _) rfl (fun r_4 hr_5 => ?_)
          show zJ X 5 res _ 53 [(0, (.ref (qT 0))), (1, (.int x1)), (2, (.int x2)), (3, (.int x3)), (4, (.int x4_1))] [(.int r_4)] [(3, qT, sT)]
          refine z_istore_n (pc := 53) [(0, (.ref (qT 0))), (1, (.int r_4)), (2, (.int x2)), (3, (.int x3)), (4, (.int x4_1))] [1, 0, 2, 3, 4] (by decide) rfl rfl C dX3_findFault_53 ?_
          refine z_goto (pc := 54) 72 C dX3_findFault_54 (by decide) ?_
          refine z_iinc (pc := 72) (x3 + 1) 3 rfl rfl [(0, (.ref (qT 0))), (1, (.int r_4)), (2, (.int x2)), (3, (.int (x3 + 1))), (4, (.int x4_1))] [1, 2, 3, 0, 4] (by decide) rfl C dX3_findFault_72 ?_
          refine z_goto (pc := 75) 6 C dX3_findFault_75 (by decide) ?_
          refine z_lv [(0, (.ref (qT 0))), (1, (.int r_4)), (2, (.int x2)), (3, (.int (x3 + 1)))] [0, 1, 2, 3] rfl ?_
          exact hk_6 _ _ _
        · refine z_iload_n (pc := 57) 2 rfl rfl C dX3_findFault_57 ?_
          refine z_iload_n (pc := 58) 1 rfl rfl C dX3_findFault_58 ?_
          refine z_if_ne (pc := 59) 66 C dX3_findFault_59 (by decide) ?_ ?_
          · refine z_iconst (pc := 62) (1 : Int32) (by decide) C dX3_findFault_62 ?_
            refine z_goto (pc := 63) 67 C dX3_findFault_63 (by decide) ?_
            refine z_iadd (pc := 67) C dX3_findFault_67 ?_
            refine z_leti (fun x2_6 => ?_)
            refine z_istore_n (pc := 68) [(0, (.ref (qT 0))), (1, (.int x1)), (2, (.int x2_6)), (3, (.int x3)), (4, (.int x4_1))] [1, 2, 0, 3, 4] (by decide) rfl rfl C dX3_findFault_68 ?_
            refine z_iinc (pc := 69) (x1 + (-1)) 1 rfl (congrArg (_ + ·) (show Int32.ofInt (-1) = (-1 : Int32) by decide)) [(0, (.ref (qT 0))), (1, (.int (x1 + (-1)))), (2, (.int x2_6)), (3, (.int x3)), (4, (.int x4_1))] [1, 0, 2, 3, 4] (by decide) rfl C dX3_findFault_69 ?_
            refine z_iinc (pc := 72) (x3 + 1) 3 rfl rfl [(0, (.ref (qT 0))), (1, (.int (x1 + (-1)))), (2, (.int x2_6)), (3, (.int (x3 + 1))), (4, (.int x4_1))] [1, 2, 3, 0, 4] (by decide) rfl C dX3_findFault_72 ?_
            refine z_goto (pc := 75) 6 C dX3_findFault_75 (by decide) ?_
            refine z_lv [(0, (.ref (qT 0))), (1, (.int (x1 + (-1)))), (2, (.int x2_6)), (3, (.int (x3 + 1)))] [0, 1, 2, 3] rfl ?_
            exact hk_6 _ _ _
          · refine z_iconst (pc := 66) (0 : Int32) (by decide) C dX3_findFault_66 ?_
            refine z_iadd (pc := 67) C dX3_findFault_67 ?_
            refine z_leti (fun x2_7 => ?_)
            refine z_istore_n (pc := 68) [(0, (.ref (qT 0))), (1, (.int x1)), (2, (.int x2_7)), (3, (.int x3)), (4, (.int x4_1))] [1, 2, 0, 3, 4] (by decide) rfl rfl C dX3_findFault_68 ?_
            refine z_iinc (pc := 69) (x1 + (-1)) 1 rfl (congrArg (_ + ·) (show Int32.ofInt (-1) = (-1 : Int32) by decide)) [(0, (.ref (qT 0))), (1, (.int (x1 + (-1)))), (2, (.int x2_7)), (3, (.int x3)), (4, (.int x4_1))] [1, 0, 2, 3, 4] (by decide) rfl C dX3_findFault_69 ?_
            refine z_iinc (pc := 72) (x3 + 1) 3 rfl rfl [(0, (.ref (qT 0))), (1, (.int (x1 + (-1)))), (2, (.int x2_7)), (3, (.int (x3 + 1))), (4, (.int x4_1))] [1, 2, 3, 0, 4] (by decide) rfl C dX3_findFault_72 ?_
            refine z_goto (pc := 75) 6 C dX3_findFault_75 (by decide) ?_
            refine z_lv [(0, (.ref (qT 0))), (1, (.int (x1 + (-1)))), (2, (.int x2_7)), (3, (.int (x3 + 1)))] [0, 1, 2, 3] rfl ?_
            exact hk_6 _ _ _
def fX3_findFault (F : Nat) (sT : zOS) : Option (Int32) := (zit (P := Int32 × Int32 × Int32) (R := Int32) (fun kc9 p9 => bX3_findFault_6 F sT kc9 p9.1 p9.2.1 p9.2.2) F ((-1 : Int32), (0 : Int32), (0 : Int32)))
set_option maxRecDepth 20000 in
theorem wX3_findFault {X : zCx} {res : Int32} {F : Nat} {qT : Nat → Nat} {sT : zOS} (C : zC X RX3 cX3_findFault 5 2 41) (hR : zR X (some .int) (some (.int res)) [(3, qT, sT)])  : zJ X 5 res (fX3_findFault F sT) 0 [(0, (.ref (qT 0)))] [] [(3, qT, sT)] := by
  unfold fX3_findFault
  refine z_iconst (pc := 0) (-1 : Int32) (by decide) C dX3_findFault_0 ?_
  refine z_istore_n (pc := 1) [(0, (.ref (qT 0))), (1, (.int (-1 : Int32)))] [1, 0] (by decide) rfl rfl C dX3_findFault_1 ?_
  refine z_iconst (pc := 2) (0 : Int32) (by decide) C dX3_findFault_2 ?_
  refine z_istore_n (pc := 3) [(0, (.ref (qT 0))), (1, (.int (-1 : Int32))), (2, (.int (0 : Int32)))] [1, 2, 0] (by decide) rfl rfl C dX3_findFault_3 ?_
  refine z_iconst (pc := 4) (0 : Int32) (by decide) C dX3_findFault_4 ?_
  refine z_istore_n (pc := 5) [(0, (.ref (qT 0))), (1, (.int (-1 : Int32))), (2, (.int (0 : Int32))), (3, (.int (0 : Int32)))] [1, 2, 3, 0] (by decide) rfl rfl C dX3_findFault_5 ?_
  show zJ X 5 res _ 6 [(0, (.ref (qT 0))), (1, (.int (-1 : Int32))), (2, (.int (0 : Int32))), (3, (.int (0 : Int32)))] [] [(3, qT, sT)]
  exact zit_J (P := Int32 × Int32 × Int32) (B := (fun kc9 p9 => bX3_findFault_6 F sT kc9 p9.1 p9.2.1 p9.2.2)) (fun p9 => [(0, (.ref (qT 0))), (1, (.int p9.1)), (2, (.int p9.2.1)), (3, (.int p9.2.2))]) (fun p9 => [(3, qT, sT)]) (fun kc9 hk9 p9 => vX3_findFault_6 C hR   (fun a0 a1 a2 => hk9 (a0, a1, a2)) p9.1 p9.2.1 p9.2.2) F _
theorem mX3_findFault {F : Nat} {qT : Nat → Nat} {sT : zOS} {res : Int32}  (hf : fX3_findFault F sT = some res) : zM yX3_findFault cX3_findFault 5 (some .int) 2 41 [(.ref (qT 0))] [(3, qT, sT)] (some (.int res)) [(3, qT, sT)] := zM_of (by decide +kernel) (Nat.le_of_ble_eq_true rfl) (fun X C hR => wX3_findFault (F := F) C hR  hf)
theorem dX3_performOne_0 : decode cX3_performOne 0 = .ok (.aload_n 0, 1) := by decide +kernel
theorem dX3_performOne_1 : decode cX3_performOne 1 = .ok (.getfield 15, 3) := by decide +kernel
theorem dX3_performOne_4 : decode cX3_performOne 4 = .ok (.astore_n 3, 1) := by decide +kernel
theorem dX3_performOne_5 : decode cX3_performOne 5 = .ok (.iload_n 2, 1) := by decide +kernel
theorem dX3_performOne_6 : decode cX3_performOne 6 = .ok (.tableswitch 147 100 114 #[74, 147, 142, 147, 147, 147, 147, 147, 147, 114, 147, 147, 128, 147, 94], 74) := by decide +kernel
theorem dX3_performOne_80 : decode cX3_performOne 80 = .ok (.aload_n 1, 1) := by decide +kernel
theorem dX3_performOne_81 : decode cX3_performOne 81 = .ok (.aload_n 3, 1) := by decide +kernel
theorem dX3_performOne_82 : decode cX3_performOne 82 = .ok (.iconst 0, 1) := by decide +kernel
theorem dX3_performOne_83 : decode cX3_performOne 83 = .ok (.iaload, 1) := by decide +kernel
theorem dX3_performOne_84 : decode cX3_performOne 84 = .ok (.aload_n 3, 1) := by decide +kernel
theorem dX3_performOne_85 : decode cX3_performOne 85 = .ok (.iconst 1, 1) := by decide +kernel
theorem dX3_performOne_86 : decode cX3_performOne 86 = .ok (.iaload, 1) := by decide +kernel
theorem dX3_performOne_87 : decode cX3_performOne 87 = .ok (.aload_n 3, 1) := by decide +kernel
theorem dX3_performOne_88 : decode cX3_performOne 88 = .ok (.iconst 2, 1) := by decide +kernel
theorem dX3_performOne_89 : decode cX3_performOne 89 = .ok (.iaload, 1) := by decide +kernel
theorem dX3_performOne_90 : decode cX3_performOne 90 = .ok (.aload_n 3, 1) := by decide +kernel
theorem dX3_performOne_91 : decode cX3_performOne 91 = .ok (.iconst 3, 1) := by decide +kernel
theorem dX3_performOne_92 : decode cX3_performOne 92 = .ok (.iaload, 1) := by decide +kernel
theorem dX3_performOne_93 : decode cX3_performOne 93 = .ok (.aload_n 3, 1) := by decide +kernel
theorem dX3_performOne_94 : decode cX3_performOne 94 = .ok (.iconst 4, 1) := by decide +kernel
theorem dX3_performOne_95 : decode cX3_performOne 95 = .ok (.iaload, 1) := by decide +kernel
theorem dX3_performOne_96 : decode cX3_performOne 96 = .ok (.invokevirtual 35, 3) := by decide +kernel
theorem dX3_performOne_99 : decode cX3_performOne 99 = .ok (.ireturn, 1) := by decide +kernel
theorem dX3_performOne_100 : decode cX3_performOne 100 = .ok (.aload_n 1, 1) := by decide +kernel
theorem dX3_performOne_101 : decode cX3_performOne 101 = .ok (.aload_n 3, 1) := by decide +kernel
theorem dX3_performOne_102 : decode cX3_performOne 102 = .ok (.iconst 0, 1) := by decide +kernel
theorem dX3_performOne_103 : decode cX3_performOne 103 = .ok (.iaload, 1) := by decide +kernel
theorem dX3_performOne_104 : decode cX3_performOne 104 = .ok (.aload_n 3, 1) := by decide +kernel
theorem dX3_performOne_105 : decode cX3_performOne 105 = .ok (.iconst 1, 1) := by decide +kernel
theorem dX3_performOne_106 : decode cX3_performOne 106 = .ok (.iaload, 1) := by decide +kernel
theorem dX3_performOne_107 : decode cX3_performOne 107 = .ok (.aload_n 3, 1) := by decide +kernel
theorem dX3_performOne_108 : decode cX3_performOne 108 = .ok (.iconst 2, 1) := by decide +kernel
theorem dX3_performOne_109 : decode cX3_performOne 109 = .ok (.iaload, 1) := by decide +kernel
theorem dX3_performOne_110 : decode cX3_performOne 110 = .ok (.aload_n 3, 1) := by decide +kernel
theorem dX3_performOne_111 : decode cX3_performOne 111 = .ok (.iconst 3, 1) := by decide +kernel
theorem dX3_performOne_112 : decode cX3_performOne 112 = .ok (.iaload, 1) := by decide +kernel
theorem dX3_performOne_113 : decode cX3_performOne 113 = .ok (.aload_n 3, 1) := by decide +kernel
theorem dX3_performOne_114 : decode cX3_performOne 114 = .ok (.iconst 4, 1) := by decide +kernel
theorem dX3_performOne_115 : decode cX3_performOne 115 = .ok (.iaload, 1) := by decide +kernel
theorem dX3_performOne_116 : decode cX3_performOne 116 = .ok (.invokevirtual 41, 3) := by decide +kernel
theorem dX3_performOne_119 : decode cX3_performOne 119 = .ok (.ireturn, 1) := by decide +kernel
theorem dX3_performOne_120 : decode cX3_performOne 120 = .ok (.aload_n 1, 1) := by decide +kernel
theorem dX3_performOne_121 : decode cX3_performOne 121 = .ok (.aload_n 3, 1) := by decide +kernel
theorem dX3_performOne_122 : decode cX3_performOne 122 = .ok (.iconst 0, 1) := by decide +kernel
theorem dX3_performOne_123 : decode cX3_performOne 123 = .ok (.iaload, 1) := by decide +kernel
theorem dX3_performOne_124 : decode cX3_performOne 124 = .ok (.aload_n 3, 1) := by decide +kernel
theorem dX3_performOne_125 : decode cX3_performOne 125 = .ok (.iconst 1, 1) := by decide +kernel
theorem dX3_performOne_126 : decode cX3_performOne 126 = .ok (.iaload, 1) := by decide +kernel
theorem dX3_performOne_127 : decode cX3_performOne 127 = .ok (.aload_n 3, 1) := by decide +kernel
theorem dX3_performOne_128 : decode cX3_performOne 128 = .ok (.iconst 2, 1) := by decide +kernel
theorem dX3_performOne_129 : decode cX3_performOne 129 = .ok (.iaload, 1) := by decide +kernel
theorem dX3_performOne_130 : decode cX3_performOne 130 = .ok (.invokevirtual 44, 3) := by decide +kernel
theorem dX3_performOne_133 : decode cX3_performOne 133 = .ok (.ireturn, 1) := by decide +kernel
theorem dX3_performOne_134 : decode cX3_performOne 134 = .ok (.aload_n 1, 1) := by decide +kernel
theorem dX3_performOne_135 : decode cX3_performOne 135 = .ok (.aload_n 3, 1) := by decide +kernel
theorem dX3_performOne_136 : decode cX3_performOne 136 = .ok (.iconst 0, 1) := by decide +kernel
theorem dX3_performOne_137 : decode cX3_performOne 137 = .ok (.iaload, 1) := by decide +kernel
theorem dX3_performOne_138 : decode cX3_performOne 138 = .ok (.aload_n 3, 1) := by decide +kernel
theorem dX3_performOne_139 : decode cX3_performOne 139 = .ok (.iconst 1, 1) := by decide +kernel
theorem dX3_performOne_140 : decode cX3_performOne 140 = .ok (.iaload, 1) := by decide +kernel
theorem dX3_performOne_141 : decode cX3_performOne 141 = .ok (.aload_n 3, 1) := by decide +kernel
theorem dX3_performOne_142 : decode cX3_performOne 142 = .ok (.iconst 2, 1) := by decide +kernel
theorem dX3_performOne_143 : decode cX3_performOne 143 = .ok (.iaload, 1) := by decide +kernel
theorem dX3_performOne_144 : decode cX3_performOne 144 = .ok (.invokevirtual 48, 3) := by decide +kernel
theorem dX3_performOne_147 : decode cX3_performOne 147 = .ok (.ireturn, 1) := by decide +kernel
theorem dX3_performOne_148 : decode cX3_performOne 148 = .ok (.aload_n 1, 1) := by decide +kernel
theorem dX3_performOne_149 : decode cX3_performOne 149 = .ok (.invokevirtual 51, 3) := by decide +kernel
theorem dX3_performOne_152 : decode cX3_performOne 152 = .ok (.ireturn, 1) := by decide +kernel
theorem dX3_performOne_153 : decode cX3_performOne 153 = .ok (.bipush (-2), 2) := by decide +kernel
theorem dX3_performOne_155 : decode cX3_performOne 155 = .ok (.ireturn, 1) := by decide +kernel
def fX3_performOne (F : Nat) (x2 : Int32) (sT : zOS) (sP : zOS) : Option (Int32 × zOS) := (if x2 = (100 : Int32) then (zchk (0 : Int32) 5 (zchk (1 : Int32) 5 (zchk (2 : Int32) 5 (zchk (3 : Int32) 5 (zchk (4 : Int32) 5 (Option.bind (fX2_paint F (zI sT 2 (0 : Int32).toNatClampNeg) (zI sT 2 (1 : Int32).toNatClampNeg) (zI sT 2 (2 : Int32).toNatClampNeg) (zI sT 2 (3 : Int32).toNatClampNeg) (zI sT 2 (4 : Int32).toNatClampNeg) sP) (fun r_2 : Int32 × zOS => (some (r_2.1, r_2.2))))))))) else (if x2 = (102 : Int32) then (Option.bind (fX2_dropMeant sP) (fun r_5 : Int32 × zOS => (some (r_5.1, r_5.2)))) else (if x2 = (109 : Int32) then (zchk (0 : Int32) 5 (zchk (1 : Int32) 5 (zchk (2 : Int32) 5 (Option.bind (fX2_addDevice (zI sT 2 (0 : Int32).toNatClampNeg) (zI sT 2 (1 : Int32).toNatClampNeg) (zI sT 2 (2 : Int32).toNatClampNeg) sP) (fun r_8 : Int32 × zOS => (some (r_8.1, r_8.2))))))) else (if x2 = (112 : Int32) then (zchk (0 : Int32) 5 (zchk (1 : Int32) 5 (zchk (2 : Int32) 5 (Option.bind (fX2_addPin (zI sT 2 (0 : Int32).toNatClampNeg) (zI sT 2 (1 : Int32).toNatClampNeg) (zI sT 2 (2 : Int32).toNatClampNeg) sP) (fun r_11 : Int32 × zOS => (some (r_11.1, r_11.2))))))) else (if x2 = (114 : Int32) then (zchk (0 : Int32) 5 (zchk (1 : Int32) 5 (zchk (2 : Int32) 5 (zchk (3 : Int32) 5 (zchk (4 : Int32) 5 (Option.bind (fX2_erase F (zI sT 2 (0 : Int32).toNatClampNeg) (zI sT 2 (1 : Int32).toNatClampNeg) (zI sT 2 (2 : Int32).toNatClampNeg) (zI sT 2 (3 : Int32).toNatClampNeg) (zI sT 2 (4 : Int32).toNatClampNeg) sP) (fun r_14 : Int32 × zOS => (some (r_14.1, r_14.2))))))))) else (some ((-2 : Int32), sP)))))))
set_option maxRecDepth 20000 in
theorem wX3_performOne {X : zCx} {res : Int32 × zOS} {F : Nat} {qT : Nat → Nat} {qP : Nat → Nat} {x2 : Int32} {sT : zOS} {sP : zOS} (C : zC X RX3 cX3_performOne 4 4 92) (hR : zR X (some .int) (some (.int res.1)) [(3, qT, sT), (2, qP, res.2)])  : zJ X 4 res (fX3_performOne F x2 sT sP) 0 [(0, (.ref (qT 0))), (1, (.ref (qP 0))), (2, (.int x2))] [] [(3, qT, sT), (2, qP, sP)] := by
  unfold fX3_performOne
  refine z_aload_n (pc := 0) 0 rfl rfl C dX3_performOne_0 ?_
  refine z_getR (pc := 1) 0 1 2 C dX3_performOne_1 rfl (by decide) (by decide) rfl zw_250 ?_
  refine z_astore_n (pc := 4) [(0, (.ref (qT 0))), (1, (.ref (qP 0))), (2, (.int x2)), (3, (.ref (qT 2)))] [1, 2, 3, 0] (by decide) rfl rfl C dX3_performOne_4 ?_
  refine z_iload_n (pc := 5) 2 rfl rfl C dX3_performOne_5 ?_
  refine z_if (fun hx_1 => ?_) (fun hx_1 => ?_)
  · refine z_tin (pc := 6) (100 : Int32) 80 hx_1 C dX3_performOne_6 (by decide) (by decide) rfl (by decide) ?_
    refine z_aload_n (pc := 80) 1 rfl rfl C dX3_performOne_80 ?_
    refine z_aload_n (pc := 81) 3 rfl rfl C dX3_performOne_81 ?_
    refine z_iconst (pc := 82) (0 : Int32) (by decide) C dX3_performOne_82 ?_
    refine z_iald (pc := 83) 0 C dX3_performOne_83 rfl (by unfold zAr; decide) ?_
    refine z_aload_n (pc := 84) 3 rfl rfl C dX3_performOne_84 ?_
    refine z_iconst (pc := 85) (1 : Int32) (by decide) C dX3_performOne_85 ?_
    refine z_iald (pc := 86) 0 C dX3_performOne_86 rfl (by unfold zAr; decide) ?_
    refine z_aload_n (pc := 87) 3 rfl rfl C dX3_performOne_87 ?_
    refine z_iconst (pc := 88) (2 : Int32) (by decide) C dX3_performOne_88 ?_
    refine z_iald (pc := 89) 0 C dX3_performOne_89 rfl (by unfold zAr; decide) ?_
    refine z_aload_n (pc := 90) 3 rfl rfl C dX3_performOne_90 ?_
    refine z_iconst (pc := 91) (3 : Int32) (by decide) C dX3_performOne_91 ?_
    refine z_iald (pc := 92) 0 C dX3_performOne_92 rfl (by unfold zAr; decide) ?_
    refine z_aload_n (pc := 93) 3 rfl rfl C dX3_performOne_93 ?_
    refine z_iconst (pc := 94) (4 : Int32) (by decide) C dX3_performOne_94 ?_
    refine z_iald (pc := 95) 0 C dX3_performOne_95 rfl (by unfold zAr; decide) ?_
    refine z_callV (pc := 96) (rf' := 3) (rl' := 65) (fX2_paint F (zI sT 2 (0 : Int32).toNatClampNeg) (zI sT 2 (1 : Int32).toNatClampNeg) (zI sT 2 (2 : Int32).toNatClampNeg) (zI sT 2 (3 : Int32).toNatClampNeg) (zI sT 2 (4 : Int32).toNatClampNeg) sP) [(.int (zI sT 2 (0 : Int32).toNatClampNeg)), (.int (zI sT 2 (1 : Int32).toNatClampNeg)), (.int (zI sT 2 (2 : Int32).toNatClampNeg)), (.int (zI sT 2 (3 : Int32).toNatClampNeg)), (.int (zI sT 2 (4 : Int32).toNatClampNeg))] [] [(2, qP, sP)] (fun r_2 => (some (.int r_2.1))) (fun r_2 => [(2, qP, r_2.2)]) [(3, qT, sT)] (fun r_2 => [(3, qT, sT), (2, qP, r_2.2)]) C dX3_performOne_96 zy_X2_paint zw_675 (fun _ hr9 => mX2_paint  hr9) (by decide) rfl rfl (by decide) rfl (Nat.le_of_ble_eq_true rfl) (z_pn 2 _ rfl [1, 0] (by decide)).symm (fun _ => (z_pn 2 _ rfl [1, 0] (by decide)).symm) rfl (fun r_2 hr_3 => ?_)
    show zJ X 4 res _ 99 [(0, (.ref (qT 0))), (1, (.ref (qP 0))), (2, (.int x2)), (3, (.ref (qT 2)))] [(.int r_2.1)] [(3, qT, sT), (2, qP, r_2.2)]
    exact z_ireturn (pc := 99) C hR dX3_performOne_99 (fun h => by subst h; exact ⟨rfl, rfl⟩)
  · refine z_if (fun hx_4 => ?_) (fun hx_4 => ?_)
    · refine z_tin (pc := 6) (102 : Int32) 148 hx_4 C dX3_performOne_6 (by decide) (by decide) rfl (by decide) ?_
      refine z_aload_n (pc := 148) 1 rfl rfl C dX3_performOne_148 ?_
      refine z_callV (pc := 149) (rf' := 0) (rl' := 0) (fX2_dropMeant sP) [] [] [(2, qP, sP)] (fun r_5 => (some (.int r_5.1))) (fun r_5 => [(2, qP, r_5.2)]) [(3, qT, sT)] (fun r_5 => [(3, qT, sT), (2, qP, r_5.2)]) C dX3_performOne_149 zy_X2_dropMeant zw_679 (fun _ hr9 => mX2_dropMeant  hr9) (by decide) rfl rfl (by decide) rfl (Nat.le_of_ble_eq_true rfl) (z_pn 2 _ rfl [1, 0] (by decide)).symm (fun _ => (z_pn 2 _ rfl [1, 0] (by decide)).symm) rfl (fun r_5 hr_6 => ?_)
      show zJ X 4 res _ 152 [(0, (.ref (qT 0))), (1, (.ref (qP 0))), (2, (.int x2)), (3, (.ref (qT 2)))] [(.int r_5.1)] [(3, qT, sT), (2, qP, r_5.2)]
      exact z_ireturn (pc := 152) C hR dX3_performOne_152 (fun h => by subst h; exact ⟨rfl, rfl⟩)
    · refine z_if (fun hx_7 => ?_) (fun hx_7 => ?_)
      · refine z_tin (pc := 6) (109 : Int32) 120 hx_7 C dX3_performOne_6 (by decide) (by decide) rfl (by decide) ?_
        refine z_aload_n (pc := 120) 1 rfl rfl C dX3_performOne_120 ?_
        refine z_aload_n (pc := 121) 3 rfl rfl C dX3_performOne_121 ?_
        refine z_iconst (pc := 122) (0 : Int32) (by decide) C dX3_performOne_122 ?_
        refine z_iald (pc := 123) 0 C dX3_performOne_123 rfl (by unfold zAr; decide) ?_
        refine z_aload_n (pc := 124) 3 rfl rfl C dX3_performOne_124 ?_
        refine z_iconst (pc := 125) (1 : Int32) (by decide) C dX3_performOne_125 ?_
        refine z_iald (pc := 126) 0 C dX3_performOne_126 rfl (by unfold zAr; decide) ?_
        refine z_aload_n (pc := 127) 3 rfl rfl C dX3_performOne_127 ?_
        refine z_iconst (pc := 128) (2 : Int32) (by decide) C dX3_performOne_128 ?_
        refine z_iald (pc := 129) 0 C dX3_performOne_129 rfl (by unfold zAr; decide) ?_
        refine z_callV (pc := 130) (rf' := 1) (rl' := 24) (fX2_addDevice (zI sT 2 (0 : Int32).toNatClampNeg) (zI sT 2 (1 : Int32).toNatClampNeg) (zI sT 2 (2 : Int32).toNatClampNeg) sP) [(.int (zI sT 2 (0 : Int32).toNatClampNeg)), (.int (zI sT 2 (1 : Int32).toNatClampNeg)), (.int (zI sT 2 (2 : Int32).toNatClampNeg))] [] [(2, qP, sP)] (fun r_8 => (some (.int r_8.1))) (fun r_8 => [(2, qP, r_8.2)]) [(3, qT, sT)] (fun r_8 => [(3, qT, sT), (2, qP, r_8.2)]) C dX3_performOne_130 zy_X2_addDevice zw_677 (fun _ hr9 => mX2_addDevice  hr9) (by decide) rfl rfl (by decide) rfl (Nat.le_of_ble_eq_true rfl) (z_pn 2 _ rfl [1, 0] (by decide)).symm (fun _ => (z_pn 2 _ rfl [1, 0] (by decide)).symm) rfl (fun r_8 hr_9 => ?_)
        show zJ X 4 res _ 133 [(0, (.ref (qT 0))), (1, (.ref (qP 0))), (2, (.int x2)), (3, (.ref (qT 2)))] [(.int r_8.1)] [(3, qT, sT), (2, qP, r_8.2)]
        exact z_ireturn (pc := 133) C hR dX3_performOne_133 (fun h => by subst h; exact ⟨rfl, rfl⟩)
      · refine z_if (fun hx_10 => ?_) (fun hx_10 => ?_)
        · refine z_tin (pc := 6) (112 : Int32) 134 hx_10 C dX3_performOne_6 (by decide) (by decide) rfl (by decide) ?_
          refine z_aload_n (pc := 134) 1 rfl rfl C dX3_performOne_134 ?_
          refine z_aload_n (pc := 135) 3 rfl rfl C dX3_performOne_135 ?_
          refine z_iconst (pc := 136) (0 : Int32) (by decide) C dX3_performOne_136 ?_
          refine z_iald (pc := 137) 0 C dX3_performOne_137 rfl (by unfold zAr; decide) ?_
          refine z_aload_n (pc := 138) 3 rfl rfl C dX3_performOne_138 ?_
          refine z_iconst (pc := 139) (1 : Int32) (by decide) C dX3_performOne_139 ?_
          refine z_iald (pc := 140) 0 C dX3_performOne_140 rfl (by unfold zAr; decide) ?_
          refine z_aload_n (pc := 141) 3 rfl rfl C dX3_performOne_141 ?_
          refine z_iconst (pc := 142) (2 : Int32) (by decide) C dX3_performOne_142 ?_
          refine z_iald (pc := 143) 0 C dX3_performOne_143 rfl (by unfold zAr; decide) ?_
          refine z_callV (pc := 144) (rf' := 2) (rl' := 42) (fX2_addPin (zI sT 2 (0 : Int32).toNatClampNeg) (zI sT 2 (1 : Int32).toNatClampNeg) (zI sT 2 (2 : Int32).toNatClampNeg) sP) [(.int (zI sT 2 (0 : Int32).toNatClampNeg)), (.int (zI sT 2 (1 : Int32).toNatClampNeg)), (.int (zI sT 2 (2 : Int32).toNatClampNeg))] [] [(2, qP, sP)] (fun r_11 => (some (.int r_11.1))) (fun r_11 => [(2, qP, r_11.2)]) [(3, qT, sT)] (fun r_11 => [(3, qT, sT), (2, qP, r_11.2)]) C dX3_performOne_144 zy_X2_addPin zw_678 (fun _ hr9 => mX2_addPin  hr9) (by decide) rfl rfl (by decide) rfl (Nat.le_of_ble_eq_true rfl) (z_pn 2 _ rfl [1, 0] (by decide)).symm (fun _ => (z_pn 2 _ rfl [1, 0] (by decide)).symm) rfl (fun r_11 hr_12 => ?_)
          show zJ X 4 res _ 147 [(0, (.ref (qT 0))), (1, (.ref (qP 0))), (2, (.int x2)), (3, (.ref (qT 2)))] [(.int r_11.1)] [(3, qT, sT), (2, qP, r_11.2)]
          exact z_ireturn (pc := 147) C hR dX3_performOne_147 (fun h => by subst h; exact ⟨rfl, rfl⟩)
        · refine z_if (fun hx_13 => ?_) (fun hx_13 => ?_)
          · refine z_tin (pc := 6) (114 : Int32) 100 hx_13 C dX3_performOne_6 (by decide) (by decide) rfl (by decide) ?_
            refine z_aload_n (pc := 100) 1 rfl rfl C dX3_performOne_100 ?_
            refine z_aload_n (pc := 101) 3 rfl rfl C dX3_performOne_101 ?_
            refine z_iconst (pc := 102) (0 : Int32) (by decide) C dX3_performOne_102 ?_
            refine z_iald (pc := 103) 0 C dX3_performOne_103 rfl (by unfold zAr; decide) ?_
            refine z_aload_n (pc := 104) 3 rfl rfl C dX3_performOne_104 ?_
            refine z_iconst (pc := 105) (1 : Int32) (by decide) C dX3_performOne_105 ?_
            refine z_iald (pc := 106) 0 C dX3_performOne_106 rfl (by unfold zAr; decide) ?_
            refine z_aload_n (pc := 107) 3 rfl rfl C dX3_performOne_107 ?_
            refine z_iconst (pc := 108) (2 : Int32) (by decide) C dX3_performOne_108 ?_
            refine z_iald (pc := 109) 0 C dX3_performOne_109 rfl (by unfold zAr; decide) ?_
            refine z_aload_n (pc := 110) 3 rfl rfl C dX3_performOne_110 ?_
            refine z_iconst (pc := 111) (3 : Int32) (by decide) C dX3_performOne_111 ?_
            refine z_iald (pc := 112) 0 C dX3_performOne_112 rfl (by unfold zAr; decide) ?_
            refine z_aload_n (pc := 113) 3 rfl rfl C dX3_performOne_113 ?_
            refine z_iconst (pc := 114) (4 : Int32) (by decide) C dX3_performOne_114 ?_
            refine z_iald (pc := 115) 0 C dX3_performOne_115 rfl (by unfold zAr; decide) ?_
            refine z_callV (pc := 116) (rf' := 3) (rl' := 65) (fX2_erase F (zI sT 2 (0 : Int32).toNatClampNeg) (zI sT 2 (1 : Int32).toNatClampNeg) (zI sT 2 (2 : Int32).toNatClampNeg) (zI sT 2 (3 : Int32).toNatClampNeg) (zI sT 2 (4 : Int32).toNatClampNeg) sP) [(.int (zI sT 2 (0 : Int32).toNatClampNeg)), (.int (zI sT 2 (1 : Int32).toNatClampNeg)), (.int (zI sT 2 (2 : Int32).toNatClampNeg)), (.int (zI sT 2 (3 : Int32).toNatClampNeg)), (.int (zI sT 2 (4 : Int32).toNatClampNeg))] [] [(2, qP, sP)] (fun r_14 => (some (.int r_14.1))) (fun r_14 => [(2, qP, r_14.2)]) [(3, qT, sT)] (fun r_14 => [(3, qT, sT), (2, qP, r_14.2)]) C dX3_performOne_116 zy_X2_erase zw_676 (fun _ hr9 => mX2_erase  hr9) (by decide) rfl rfl (by decide) rfl (Nat.le_of_ble_eq_true rfl) (z_pn 2 _ rfl [1, 0] (by decide)).symm (fun _ => (z_pn 2 _ rfl [1, 0] (by decide)).symm) rfl (fun r_14 hr_15 => ?_)
            show zJ X 4 res _ 119 [(0, (.ref (qT 0))), (1, (.ref (qP 0))), (2, (.int x2)), (3, (.ref (qT 2)))] [(.int r_14.1)] [(3, qT, sT), (2, qP, r_14.2)]
            exact z_ireturn (pc := 119) C hR dX3_performOne_119 (fun h => by subst h; exact ⟨rfl, rfl⟩)
          · refine z_tdef (pc := 6) [(100 : Int32), (102 : Int32), (109 : Int32), (112 : Int32), (114 : Int32)] 153 (by intro v hv; simp only [List.mem_cons, List.not_mem_nil, or_false] at hv; rcases hv with rfl | rfl | rfl | rfl | rfl <;> assumption) C dX3_performOne_6 (by decide) (by decide) ?_
            refine z_bipush (pc := 153) (-2 : Int32) (by decide) C dX3_performOne_153 ?_
            exact z_ireturn (pc := 155) C hR dX3_performOne_155 (fun h => by subst h; exact ⟨rfl, rfl⟩)
theorem mX3_performOne {F : Nat} {qT : Nat → Nat} {qP : Nat → Nat} {x2 : Int32} {sT : zOS} {sP : zOS} {res : Int32 × zOS}  (hf : fX3_performOne F x2 sT sP = some res) : zM yX3_performOne cX3_performOne 4 (some .int) 4 92 [(.ref (qT 0)), (.ref (qP 0)), (.int x2)] [(3, qT, sT), (2, qP, sP)] (some (.int res.1)) [(3, qT, sT), (2, qP, res.2)] := zM_of (by decide +kernel) (Nat.le_of_ble_eq_true rfl) (fun X C hR => wX3_performOne (F := F) C hR  hf)
theorem dX3_perform_0 : decode cX3_perform 0 = .ok (.iconst 0, 1) := by decide +kernel
theorem dX3_perform_1 : decode cX3_perform 1 = .ok (.istore_n 2, 1) := by decide +kernel
theorem dX3_perform_2 : decode cX3_perform 2 = .ok (.iconst 0, 1) := by decide +kernel
theorem dX3_perform_3 : decode cX3_perform 3 = .ok (.istore_n 3, 1) := by decide +kernel
theorem dX3_perform_4 : decode cX3_perform 4 = .ok (.bipush 32, 2) := by decide +kernel
theorem dX3_perform_6 : decode cX3_perform 6 = .ok (.istore 4, 2) := by decide +kernel
theorem dX3_perform_8 : decode cX3_perform 8 = .ok (.iconst 0, 1) := by decide +kernel
theorem dX3_perform_9 : decode cX3_perform 9 = .ok (.istore 5, 2) := by decide +kernel
theorem dX3_perform_11 : decode cX3_perform 11 = .ok (.iload 5, 2) := by decide +kernel
theorem dX3_perform_13 : decode cX3_perform 13 = .ok (.aload_n 0, 1) := by decide +kernel
theorem dX3_perform_14 : decode cX3_perform 14 = .ok (.getfield 19, 3) := by decide +kernel
theorem dX3_perform_17 : decode cX3_perform 17 = .ok (.if_icmp .ge 96, 3) := by decide +kernel
theorem dX3_perform_20 : decode cX3_perform 20 = .ok (.aload_n 0, 1) := by decide +kernel
theorem dX3_perform_21 : decode cX3_perform 21 = .ok (.getfield 9, 3) := by decide +kernel
theorem dX3_perform_24 : decode cX3_perform 24 = .ok (.iload 5, 2) := by decide +kernel
theorem dX3_perform_26 : decode cX3_perform 26 = .ok (.baload, 1) := by decide +kernel
theorem dX3_perform_27 : decode cX3_perform 27 = .ok (.istore 6, 2) := by decide +kernel
theorem dX3_perform_29 : decode cX3_perform 29 = .ok (.iload 6, 2) := by decide +kernel
theorem dX3_perform_31 : decode cX3_perform 31 = .ok (.bipush 59, 2) := by decide +kernel
theorem dX3_perform_33 : decode cX3_perform 33 = .ok (.if_icmp .ne 25, 3) := by decide +kernel
theorem dX3_perform_36 : decode cX3_perform 36 = .ok (.aload_n 0, 1) := by decide +kernel
theorem dX3_perform_37 : decode cX3_perform 37 = .ok (.aload_n 1, 1) := by decide +kernel
theorem dX3_perform_38 : decode cX3_perform 38 = .ok (.iload 4, 2) := by decide +kernel
theorem dX3_perform_40 : decode cX3_perform 40 = .ok (.invokevirtual 31, 3) := by decide +kernel
theorem dX3_perform_43 : decode cX3_perform 43 = .ok (.ifCond .ge 9, 3) := by decide +kernel
theorem dX3_perform_46 : decode cX3_perform 46 = .ok (.sipush (-1000), 3) := by decide +kernel
theorem dX3_perform_49 : decode cX3_perform 49 = .ok (.iload_n 2, 1) := by decide +kernel
theorem dX3_perform_50 : decode cX3_perform 50 = .ok (.isub, 1) := by decide +kernel
theorem dX3_perform_51 : decode cX3_perform 51 = .ok (.ireturn, 1) := by decide +kernel
theorem dX3_perform_52 : decode cX3_perform 52 = .ok (.iinc 2 1, 3) := by decide +kernel
theorem dX3_perform_55 : decode cX3_perform 55 = .ok (.goto 52, 3) := by decide +kernel
theorem dX3_perform_58 : decode cX3_perform 58 = .ok (.iload 6, 2) := by decide +kernel
theorem dX3_perform_60 : decode cX3_perform 60 = .ok (.bipush 48, 2) := by decide +kernel
theorem dX3_perform_62 : decode cX3_perform 62 = .ok (.if_icmp .lt 32, 3) := by decide +kernel
theorem dX3_perform_65 : decode cX3_perform 65 = .ok (.iload 6, 2) := by decide +kernel
theorem dX3_perform_67 : decode cX3_perform 67 = .ok (.bipush 57, 2) := by decide +kernel
theorem dX3_perform_69 : decode cX3_perform 69 = .ok (.if_icmp .gt 25, 3) := by decide +kernel
theorem dX3_perform_72 : decode cX3_perform 72 = .ok (.iload_n 3, 1) := by decide +kernel
theorem dX3_perform_73 : decode cX3_perform 73 = .ok (.iconst 5, 1) := by decide +kernel
theorem dX3_perform_74 : decode cX3_perform 74 = .ok (.if_icmp .ge 20, 3) := by decide +kernel
theorem dX3_perform_77 : decode cX3_perform 77 = .ok (.aload_n 0, 1) := by decide +kernel
theorem dX3_perform_78 : decode cX3_perform 78 = .ok (.getfield 15, 3) := by decide +kernel
theorem dX3_perform_81 : decode cX3_perform 81 = .ok (.iload_n 3, 1) := by decide +kernel
theorem dX3_perform_82 : decode cX3_perform 82 = .ok (.iload 6, 2) := by decide +kernel
theorem dX3_perform_84 : decode cX3_perform 84 = .ok (.bipush 48, 2) := by decide +kernel
theorem dX3_perform_86 : decode cX3_perform 86 = .ok (.isub, 1) := by decide +kernel
theorem dX3_perform_87 : decode cX3_perform 87 = .ok (.iastore, 1) := by decide +kernel
theorem dX3_perform_88 : decode cX3_perform 88 = .ok (.iinc 3 1, 3) := by decide +kernel
theorem dX3_perform_91 : decode cX3_perform 91 = .ok (.goto 16, 3) := by decide +kernel
theorem dX3_perform_94 : decode cX3_perform 94 = .ok (.iload 6, 2) := by decide +kernel
theorem dX3_perform_96 : decode cX3_perform 96 = .ok (.bipush 32, 2) := by decide +kernel
theorem dX3_perform_98 : decode cX3_perform 98 = .ok (.if_icmp .eq 9, 3) := by decide +kernel
theorem dX3_perform_101 : decode cX3_perform 101 = .ok (.iload 6, 2) := by decide +kernel
theorem dX3_perform_103 : decode cX3_perform 103 = .ok (.istore 4, 2) := by decide +kernel
theorem dX3_perform_105 : decode cX3_perform 105 = .ok (.iconst 0, 1) := by decide +kernel
theorem dX3_perform_106 : decode cX3_perform 106 = .ok (.istore_n 3, 1) := by decide +kernel
theorem dX3_perform_107 : decode cX3_perform 107 = .ok (.iinc 5 1, 3) := by decide +kernel
theorem dX3_perform_110 : decode cX3_perform 110 = .ok (.goto (-99), 3) := by decide +kernel
theorem dX3_perform_113 : decode cX3_perform 113 = .ok (.iload_n 2, 1) := by decide +kernel
theorem dX3_perform_114 : decode cX3_perform 114 = .ok (.ireturn, 1) := by decide +kernel
def jX3_perform_94 (F : Nat) (kc_11 : (Int32 × Int32 × Int32 × Int32 × zOS × zOS) → Option (Int32 × zOS × zOS)) (x2 : Int32) (x3 : Int32) (x4 : Int32) (x5 : Int32) (x6 : Int32) (sT : zOS) (sP : zOS) : Option (Int32 × zOS × zOS) := (if x6 = (32 : Int32) then (kc_11 (x2, x3, x4, (x5 + 1), sT, sP)) else (kc_11 (x2, (0 : Int32), x6, (x5 + 1), sT, sP)))
set_option maxRecDepth 20000 in
theorem wX3_perform_94 {X : zCx} {res : Int32 × zOS × zOS} {F : Nat} {qT : Nat → Nat} {qP : Nat → Nat} {kc_11 : (Int32 × Int32 × Int32 × Int32 × zOS × zOS) → Option (Int32 × zOS × zOS)} (C : zC X RX3 cX3_perform 7 5 115) (hR : zR X (some .int) (some (.int res.1)) [(3, qT, res.2.1), (2, qP, res.2.2)]) (hk_11 : ∀ (y2 : Int32) (y3 : Int32) (y4 : Int32) (y5 : Int32) (tT : zOS) (tP : zOS), zJ X 7 res (kc_11 (y2, y3, y4, y5, tT, tP)) 11 [(0, (.ref (qT 0))), (1, (.ref (qP 0))), (2, (.int y2)), (3, (.int y3)), (4, (.int y4)), (5, (.int y5))] [] [(3, qT, tT), (2, qP, tP)]) (x2 : Int32) (x3 : Int32) (x4 : Int32) (x5 : Int32) (x6 : Int32) (sT : zOS) (sP : zOS) : zJ X 7 res (jX3_perform_94 F kc_11 x2 x3 x4 x5 x6 sT sP) 94 [(0, (.ref (qT 0))), (1, (.ref (qP 0))), (2, (.int x2)), (3, (.int x3)), (4, (.int x4)), (5, (.int x5)), (6, (.int x6))] [] [(3, qT, sT), (2, qP, sP)] := by
  unfold jX3_perform_94
  refine z_iload (pc := 94) 6 rfl C dX3_perform_94 ?_
  refine z_bipush (pc := 96) (32 : Int32) (by decide) C dX3_perform_96 ?_
  refine z_icmp_eq (pc := 98) 107 C dX3_perform_98 (by decide) ?_ ?_
  · refine z_iinc (pc := 107) (x5 + 1) 5 rfl rfl [(0, (.ref (qT 0))), (1, (.ref (qP 0))), (2, (.int x2)), (3, (.int x3)), (4, (.int x4)), (5, (.int (x5 + 1))), (6, (.int x6))] [1, 2, 3, 4, 5, 0, 6] (by decide) rfl C dX3_perform_107 ?_
    refine z_goto (pc := 110) 11 C dX3_perform_110 (by decide) ?_
    refine z_lv [(0, (.ref (qT 0))), (1, (.ref (qP 0))), (2, (.int x2)), (3, (.int x3)), (4, (.int x4)), (5, (.int (x5 + 1)))] [0, 1, 2, 3, 4, 5] rfl ?_
    exact hk_11 _ _ _ _ _ _
  · refine z_iload (pc := 101) 6 rfl C dX3_perform_101 ?_
    refine z_istore (pc := 103) [(0, (.ref (qT 0))), (1, (.ref (qP 0))), (2, (.int x2)), (3, (.int x3)), (4, (.int x6)), (5, (.int x5)), (6, (.int x6))] [1, 2, 3, 4, 0, 5, 6] (by decide) rfl C dX3_perform_103 ?_
    refine z_iconst (pc := 105) (0 : Int32) (by decide) C dX3_perform_105 ?_
    refine z_istore_n (pc := 106) [(0, (.ref (qT 0))), (1, (.ref (qP 0))), (2, (.int x2)), (3, (.int (0 : Int32))), (4, (.int x6)), (5, (.int x5)), (6, (.int x6))] [1, 2, 3, 0, 4, 5, 6] (by decide) rfl rfl C dX3_perform_106 ?_
    refine z_iinc (pc := 107) (x5 + 1) 5 rfl rfl [(0, (.ref (qT 0))), (1, (.ref (qP 0))), (2, (.int x2)), (3, (.int (0 : Int32))), (4, (.int x6)), (5, (.int (x5 + 1))), (6, (.int x6))] [1, 2, 3, 4, 5, 0, 6] (by decide) rfl C dX3_perform_107 ?_
    refine z_goto (pc := 110) 11 C dX3_perform_110 (by decide) ?_
    refine z_lv [(0, (.ref (qT 0))), (1, (.ref (qP 0))), (2, (.int x2)), (3, (.int (0 : Int32))), (4, (.int x6)), (5, (.int (x5 + 1)))] [0, 1, 2, 3, 4, 5] rfl ?_
    exact hk_11 _ _ _ _ _ _
def bX3_perform_11 (F : Nat) (kc_11 : (Int32 × Int32 × Int32 × Int32 × zOS × zOS) → Option (Int32 × zOS × zOS)) (x2 : Int32) (x3 : Int32) (x4 : Int32) (x5 : Int32) (sT : zOS) (sP : zOS) : Option (Int32 × zOS × zOS) := (if (zF sT 2) ≤ x5 then (some (x2, sT, sP)) else (zchk x5 150 (zlet (zI sT 1 x5.toNatClampNeg) (fun x6_1 : Int32 => (if x6_1 = (59 : Int32) then (Option.bind (fX3_performOne F x4 sT sP) (fun r_2 : Int32 × zOS => (if 0 ≤ r_2.1 then (kc_11 ((x2 + 1), x3, x4, (x5 + 1), sT, r_2.2)) else (some ((-1000 : Int32) - x2, sT, r_2.2))))) else (if x6_1 < (48 : Int32) then (jX3_perform_94 F kc_11 x2 x3 x4 x5 x6_1 sT sP) else (if (57 : Int32) < x6_1 then (jX3_perform_94 F kc_11 x2 x3 x4 x5 x6_1 sT sP) else (if (5 : Int32) ≤ x3 then (jX3_perform_94 F kc_11 x2 x3 x4 x5 x6_1 sT sP) else (zchk x3 5 (zlet (zsI sT 2 (upd (zI sT 2) x3.toNatClampNeg (x6_1 - (48 : Int32)))) (fun sT_4 : zOS => (kc_11 (x2, (x3 + 1), x4, (x5 + 1), sT_4, sP)))))))))))))
set_option maxRecDepth 20000 in
theorem vX3_perform_11 {X : zCx} {res : Int32 × zOS × zOS} {F : Nat} {qT : Nat → Nat} {qP : Nat → Nat} {kc_11 : (Int32 × Int32 × Int32 × Int32 × zOS × zOS) → Option (Int32 × zOS × zOS)} (C : zC X RX3 cX3_perform 7 5 115) (hR : zR X (some .int) (some (.int res.1)) [(3, qT, res.2.1), (2, qP, res.2.2)]) (hk_11 : ∀ (y2 : Int32) (y3 : Int32) (y4 : Int32) (y5 : Int32) (tT : zOS) (tP : zOS), zJ X 7 res (kc_11 (y2, y3, y4, y5, tT, tP)) 11 [(0, (.ref (qT 0))), (1, (.ref (qP 0))), (2, (.int y2)), (3, (.int y3)), (4, (.int y4)), (5, (.int y5))] [] [(3, qT, tT), (2, qP, tP)]) (x2 : Int32) (x3 : Int32) (x4 : Int32) (x5 : Int32) (sT : zOS) (sP : zOS) : zJ X 7 res (bX3_perform_11 F kc_11 x2 x3 x4 x5 sT sP) 11 [(0, (.ref (qT 0))), (1, (.ref (qP 0))), (2, (.int x2)), (3, (.int x3)), (4, (.int x4)), (5, (.int x5))] [] [(3, qT, sT), (2, qP, sP)] := by
  unfold bX3_perform_11
  refine z_iload (pc := 11) 5 rfl C dX3_perform_11 ?_
  refine z_aload_n (pc := 13) 0 rfl rfl C dX3_perform_13 ?_
  refine z_getI (pc := 14) 0 2 C dX3_perform_14 rfl (by decide) (by decide) rfl zw_251 ?_
  refine z_icmp_ge (pc := 17) 113 C dX3_perform_17 (by decide) ?_ ?_
  · refine z_iload_n (pc := 113) 2 rfl rfl C dX3_perform_113 ?_
    exact z_ireturn (pc := 114) C hR dX3_perform_114 (fun h => by subst h; exact ⟨rfl, rfl⟩)
  · refine z_aload_n (pc := 20) 0 rfl rfl C dX3_perform_20 ?_
    refine z_getR (pc := 21) 0 0 1 C dX3_perform_21 rfl (by decide) (by decide) rfl zw_249 ?_
    refine z_iload (pc := 24) 5 rfl C dX3_perform_24 ?_
    refine z_bald (pc := 26) 0 C dX3_perform_26 rfl (by unfold zAr; decide) ?_
    refine z_leti (fun x6_1 => ?_)
    refine z_istore (pc := 27) [(0, (.ref (qT 0))), (1, (.ref (qP 0))), (2, (.int x2)), (3, (.int x3)), (4, (.int x4)), (5, (.int x5)), (6, (.int x6_1))] [1, 2, 3, 4, 5, 6, 0] (by decide) rfl C dX3_perform_27 ?_
    refine z_iload (pc := 29) 6 rfl C dX3_perform_29 ?_
    refine z_bipush (pc := 31) (59 : Int32) (by decide) C dX3_perform_31 ?_
    refine z_icmp_ne (pc := 33) 58 C dX3_perform_33 (by decide) ?_ ?_
    · refine z_aload_n (pc := 36) 0 rfl rfl C dX3_perform_36 ?_
      refine z_aload_n (pc := 37) 1 rfl rfl C dX3_perform_37 ?_
      refine z_iload (pc := 38) 4 rfl C dX3_perform_38 ?_
      refine z_callV (pc := 40) (rf' := 4) (rl' := 92) (fX3_performOne F x4 sT sP) [(.ref (qP 0)), (.int x4)] [] [(3, qT, sT), (2, qP, sP)] (fun r_2 => (some (.int r_2.1))) (fun r_2 => [(3, qT, sT), (2, qP, r_2.2)]) [] (fun r_2 => [(3, qT, sT), (2, qP, r_2.2)]) C dX3_perform_40 zy_X3_performOne zw_671 (fun _ hr9 => mX3_performOne  hr9) (by decide) rfl rfl (by decide) rfl (Nat.le_of_ble_eq_true rfl) (List.Perm.refl _) (fun _ => List.Perm.refl _) rfl (fun r_2 hr_3 => ?_)
      show zJ X 7 res _ 43 [(0, (.ref (qT 0))), (1, (.ref (qP 0))), (2, (.int x2)), (3, (.int x3)), (4, (.int x4)), (5, (.int x5)), (6, (.int x6_1))] [(.int r_2.1)] [(3, qT, sT), (2, qP, r_2.2)]
      refine z_if_ge (pc := 43) 52 C dX3_perform_43 (by decide) ?_ ?_
      · refine z_iinc (pc := 52) (x2 + 1) 2 rfl rfl [(0, (.ref (qT 0))), (1, (.ref (qP 0))), (2, (.int (x2 + 1))), (3, (.int x3)), (4, (.int x4)), (5, (.int x5)), (6, (.int x6_1))] [1, 2, 0, 3, 4, 5, 6] (by decide) rfl C dX3_perform_52 ?_
        refine z_goto (pc := 55) 107 C dX3_perform_55 (by decide) ?_
        refine z_iinc (pc := 107) (x5 + 1) 5 rfl rfl [(0, (.ref (qT 0))), (1, (.ref (qP 0))), (2, (.int (x2 + 1))), (3, (.int x3)), (4, (.int x4)), (5, (.int (x5 + 1))), (6, (.int x6_1))] [1, 2, 3, 4, 5, 0, 6] (by decide) rfl C dX3_perform_107 ?_
        refine z_goto (pc := 110) 11 C dX3_perform_110 (by decide) ?_
        refine z_lv [(0, (.ref (qT 0))), (1, (.ref (qP 0))), (2, (.int (x2 + 1))), (3, (.int x3)), (4, (.int x4)), (5, (.int (x5 + 1)))] [0, 1, 2, 3, 4, 5] rfl ?_
        exact hk_11 _ _ _ _ _ _
      · refine z_sipush (pc := 46) (-1000 : Int32) (by decide) C dX3_perform_46 ?_
        refine z_iload_n (pc := 49) 2 rfl rfl C dX3_perform_49 ?_
        refine z_isub (pc := 50) C dX3_perform_50 ?_
        exact z_ireturn (pc := 51) C hR dX3_perform_51 (fun h => by subst h; exact ⟨rfl, rfl⟩)
    · refine z_iload (pc := 58) 6 rfl C dX3_perform_58 ?_
      refine z_bipush (pc := 60) (48 : Int32) (by decide) C dX3_perform_60 ?_
      refine z_icmp_lt (pc := 62) 94 C dX3_perform_62 (by decide) ?_ ?_
      · exact wX3_perform_94 C hR  hk_11 _ _ _ _ _ _ _
      · refine z_iload (pc := 65) 6 rfl C dX3_perform_65 ?_
        refine z_bipush (pc := 67) (57 : Int32) (by decide) C dX3_perform_67 ?_
        refine z_icmp_gt (pc := 69) 94 C dX3_perform_69 (by decide) ?_ ?_
        · exact wX3_perform_94 C hR  hk_11 _ _ _ _ _ _ _
        · refine z_iload_n (pc := 72) 3 rfl rfl C dX3_perform_72 ?_
          refine z_iconst (pc := 73) (5 : Int32) (by decide) C dX3_perform_73 ?_
          refine z_icmp_ge (pc := 74) 94 C dX3_perform_74 (by decide) ?_ ?_
          · exact wX3_perform_94 C hR  hk_11 _ _ _ _ _ _ _
          · refine z_aload_n (pc := 77) 0 rfl rfl C dX3_perform_77 ?_
            refine z_getR (pc := 78) 0 1 2 C dX3_perform_78 rfl (by decide) (by decide) rfl zw_250 ?_
            refine z_iload_n (pc := 81) 3 rfl rfl C dX3_perform_81 ?_
            refine z_iload (pc := 82) 6 rfl C dX3_perform_82 ?_
            refine z_bipush (pc := 84) (48 : Int32) (by decide) C dX3_perform_84 ?_
            refine z_isub (pc := 86) C dX3_perform_86 ?_
            refine z_iast (pc := 87) 0 C dX3_perform_87 rfl (by unfold zAr; decide) [(3, qT, (zsI sT 2 (upd (zI sT 2) x3.toNatClampNeg (x6_1 - (48 : Int32))))), (2, qP, sP)] rfl ?_
            refine z_letc (fun z9 => [(3, qT, z9), (2, qP, sP)]) (fun sT_4 => ?_)
            refine z_iinc (pc := 88) (x3 + 1) 3 rfl rfl [(0, (.ref (qT 0))), (1, (.ref (qP 0))), (2, (.int x2)), (3, (.int (x3 + 1))), (4, (.int x4)), (5, (.int x5)), (6, (.int x6_1))] [1, 2, 3, 0, 4, 5, 6] (by decide) rfl C dX3_perform_88 ?_
            refine z_goto (pc := 91) 107 C dX3_perform_91 (by decide) ?_
            refine z_iinc (pc := 107) (x5 + 1) 5 rfl rfl [(0, (.ref (qT 0))), (1, (.ref (qP 0))), (2, (.int x2)), (3, (.int (x3 + 1))), (4, (.int x4)), (5, (.int (x5 + 1))), (6, (.int x6_1))] [1, 2, 3, 4, 5, 0, 6] (by decide) rfl C dX3_perform_107 ?_
            refine z_goto (pc := 110) 11 C dX3_perform_110 (by decide) ?_
            refine z_lv [(0, (.ref (qT 0))), (1, (.ref (qP 0))), (2, (.int x2)), (3, (.int (x3 + 1))), (4, (.int x4)), (5, (.int (x5 + 1)))] [0, 1, 2, 3, 4, 5] rfl ?_
            exact hk_11 _ _ _ _ _ _
def fX3_perform (F : Nat) (sT : zOS) (sP : zOS) : Option (Int32 × zOS × zOS) := (zit (P := Int32 × Int32 × Int32 × Int32 × zOS × zOS) (R := Int32 × zOS × zOS) (fun kc9 p9 => bX3_perform_11 F kc9 p9.1 p9.2.1 p9.2.2.1 p9.2.2.2.1 p9.2.2.2.2.1 p9.2.2.2.2.2) F ((0 : Int32), (0 : Int32), (32 : Int32), (0 : Int32), sT, sP))
set_option maxRecDepth 20000 in
theorem wX3_perform {X : zCx} {res : Int32 × zOS × zOS} {F : Nat} {qT : Nat → Nat} {qP : Nat → Nat} {sT : zOS} {sP : zOS} (C : zC X RX3 cX3_perform 7 5 115) (hR : zR X (some .int) (some (.int res.1)) [(3, qT, res.2.1), (2, qP, res.2.2)])  : zJ X 7 res (fX3_perform F sT sP) 0 [(0, (.ref (qT 0))), (1, (.ref (qP 0)))] [] [(3, qT, sT), (2, qP, sP)] := by
  unfold fX3_perform
  refine z_iconst (pc := 0) (0 : Int32) (by decide) C dX3_perform_0 ?_
  refine z_istore_n (pc := 1) [(0, (.ref (qT 0))), (1, (.ref (qP 0))), (2, (.int (0 : Int32)))] [1, 2, 0] (by decide) rfl rfl C dX3_perform_1 ?_
  refine z_iconst (pc := 2) (0 : Int32) (by decide) C dX3_perform_2 ?_
  refine z_istore_n (pc := 3) [(0, (.ref (qT 0))), (1, (.ref (qP 0))), (2, (.int (0 : Int32))), (3, (.int (0 : Int32)))] [1, 2, 3, 0] (by decide) rfl rfl C dX3_perform_3 ?_
  refine z_bipush (pc := 4) (32 : Int32) (by decide) C dX3_perform_4 ?_
  refine z_istore (pc := 6) [(0, (.ref (qT 0))), (1, (.ref (qP 0))), (2, (.int (0 : Int32))), (3, (.int (0 : Int32))), (4, (.int (32 : Int32)))] [1, 2, 3, 4, 0] (by decide) rfl C dX3_perform_6 ?_
  refine z_iconst (pc := 8) (0 : Int32) (by decide) C dX3_perform_8 ?_
  refine z_istore (pc := 9) [(0, (.ref (qT 0))), (1, (.ref (qP 0))), (2, (.int (0 : Int32))), (3, (.int (0 : Int32))), (4, (.int (32 : Int32))), (5, (.int (0 : Int32)))] [1, 2, 3, 4, 5, 0] (by decide) rfl C dX3_perform_9 ?_
  show zJ X 7 res _ 11 [(0, (.ref (qT 0))), (1, (.ref (qP 0))), (2, (.int (0 : Int32))), (3, (.int (0 : Int32))), (4, (.int (32 : Int32))), (5, (.int (0 : Int32)))] [] [(3, qT, sT), (2, qP, sP)]
  exact zit_J (P := Int32 × Int32 × Int32 × Int32 × zOS × zOS) (B := (fun kc9 p9 => bX3_perform_11 F kc9 p9.1 p9.2.1 p9.2.2.1 p9.2.2.2.1 p9.2.2.2.2.1 p9.2.2.2.2.2)) (fun p9 => [(0, (.ref (qT 0))), (1, (.ref (qP 0))), (2, (.int p9.1)), (3, (.int p9.2.1)), (4, (.int p9.2.2.1)), (5, (.int p9.2.2.2.1))]) (fun p9 => [(3, qT, p9.2.2.2.2.1), (2, qP, p9.2.2.2.2.2)]) (fun kc9 hk9 p9 => vX3_perform_11 C hR   (fun a0 a1 a2 a3 a4 a5 => hk9 (a0, a1, a2, a3, a4, a5)) p9.1 p9.2.1 p9.2.2.1 p9.2.2.2.1 p9.2.2.2.2.1 p9.2.2.2.2.2) F _
theorem mX3_perform {F : Nat} {qT : Nat → Nat} {qP : Nat → Nat} {sT : zOS} {sP : zOS} {res : Int32 × zOS × zOS}  (hf : fX3_perform F sT sP = some res) : zM yX3_perform cX3_perform 7 (some .int) 5 115 [(.ref (qT 0)), (.ref (qP 0))] [(3, qT, sT), (2, qP, sP)] (some (.int res.1)) [(3, qT, res.2.1), (2, qP, res.2.2)] := zM_of (by decide +kernel) (Nat.le_of_ble_eq_true rfl) (fun X C hR => wX3_perform (F := F) C hR  hf)
