theorem dX0_findPieces_0 : decode cX0_findPieces 0 = .ok (.aload_n 0, 1) := by decide +kernel
theorem dX0_findPieces_1 : decode cX0_findPieces 1 = .ok (.iconst 0, 1) := by decide +kernel
theorem dX0_findPieces_2 : decode cX0_findPieces 2 = .ok (.putfield 51, 3) := by decide +kernel
theorem dX0_findPieces_5 : decode cX0_findPieces 5 = .ok (.iconst 0, 1) := by decide +kernel
theorem dX0_findPieces_6 : decode cX0_findPieces 6 = .ok (.istore_n 1, 1) := by decide +kernel
theorem dX0_findPieces_7 : decode cX0_findPieces 7 = .ok (.iload_n 1, 1) := by decide +kernel
theorem dX0_findPieces_8 : decode cX0_findPieces 8 = .ok (.iconst 3, 1) := by decide +kernel
theorem dX0_findPieces_9 : decode cX0_findPieces 9 = .ok (.if_icmp .ge 92, 3) := by decide +kernel
theorem dX0_findPieces_12 : decode cX0_findPieces 12 = .ok (.aload_n 0, 1) := by decide +kernel
theorem dX0_findPieces_13 : decode cX0_findPieces 13 = .ok (.iload_n 1, 1) := by decide +kernel
theorem dX0_findPieces_14 : decode cX0_findPieces 14 = .ok (.invokevirtual 137, 3) := by decide +kernel
theorem dX0_findPieces_17 : decode cX0_findPieces 17 = .ok (.lstore_n 2, 1) := by decide +kernel
theorem dX0_findPieces_18 : decode cX0_findPieces 18 = .ok (.iconst 0, 1) := by decide +kernel
theorem dX0_findPieces_19 : decode cX0_findPieces 19 = .ok (.istore 4, 2) := by decide +kernel
theorem dX0_findPieces_21 : decode cX0_findPieces 21 = .ok (.iload 4, 2) := by decide +kernel
theorem dX0_findPieces_23 : decode cX0_findPieces 23 = .ok (.bipush 64, 2) := by decide +kernel
theorem dX0_findPieces_25 : decode cX0_findPieces 25 = .ok (.if_icmp .ge 70, 3) := by decide +kernel
theorem dX0_findPieces_28 : decode cX0_findPieces 28 = .ok (.lload_n 2, 1) := by decide +kernel
theorem dX0_findPieces_29 : decode cX0_findPieces 29 = .ok (.lconst 0, 1) := by decide +kernel
theorem dX0_findPieces_30 : decode cX0_findPieces 30 = .ok (.lcmp, 1) := by decide +kernel
theorem dX0_findPieces_31 : decode cX0_findPieces 31 = .ok (.ifCond .eq 64, 3) := by decide +kernel
theorem dX0_findPieces_34 : decode cX0_findPieces 34 = .ok (.aload_n 0, 1) := by decide +kernel
theorem dX0_findPieces_35 : decode cX0_findPieces 35 = .ok (.getfield 51, 3) := by decide +kernel
theorem dX0_findPieces_38 : decode cX0_findPieces 38 = .ok (.bipush 96, 2) := by decide +kernel
theorem dX0_findPieces_40 : decode cX0_findPieces 40 = .ok (.if_icmp .ge 55, 3) := by decide +kernel
theorem dX0_findPieces_43 : decode cX0_findPieces 43 = .ok (.lload_n 2, 1) := by decide +kernel
theorem dX0_findPieces_44 : decode cX0_findPieces 44 = .ok (.invokestatic 140, 3) := by decide +kernel
theorem dX0_findPieces_47 : decode cX0_findPieces 47 = .ok (.lstore 5, 2) := by decide +kernel
theorem dX0_findPieces_49 : decode cX0_findPieces 49 = .ok (.aload_n 0, 1) := by decide +kernel
theorem dX0_findPieces_50 : decode cX0_findPieces 50 = .ok (.getfield 15, 3) := by decide +kernel
theorem dX0_findPieces_53 : decode cX0_findPieces 53 = .ok (.aload_n 0, 1) := by decide +kernel
theorem dX0_findPieces_54 : decode cX0_findPieces 54 = .ok (.getfield 51, 3) := by decide +kernel
theorem dX0_findPieces_57 : decode cX0_findPieces 57 = .ok (.lload 5, 2) := by decide +kernel
theorem dX0_findPieces_59 : decode cX0_findPieces 59 = .ok (.lastore, 1) := by decide +kernel
theorem dX0_findPieces_60 : decode cX0_findPieces 60 = .ok (.aload_n 0, 1) := by decide +kernel
theorem dX0_findPieces_61 : decode cX0_findPieces 61 = .ok (.getfield 18, 3) := by decide +kernel
theorem dX0_findPieces_64 : decode cX0_findPieces 64 = .ok (.aload_n 0, 1) := by decide +kernel
theorem dX0_findPieces_65 : decode cX0_findPieces 65 = .ok (.getfield 51, 3) := by decide +kernel
theorem dX0_findPieces_68 : decode cX0_findPieces 68 = .ok (.iload_n 1, 1) := by decide +kernel
theorem dX0_findPieces_69 : decode cX0_findPieces 69 = .ok (.iastore, 1) := by decide +kernel
theorem dX0_findPieces_70 : decode cX0_findPieces 70 = .ok (.aload_n 0, 1) := by decide +kernel
theorem dX0_findPieces_71 : decode cX0_findPieces 71 = .ok (.dup, 1) := by decide +kernel
theorem dX0_findPieces_72 : decode cX0_findPieces 72 = .ok (.getfield 51, 3) := by decide +kernel
theorem dX0_findPieces_75 : decode cX0_findPieces 75 = .ok (.iconst 1, 1) := by decide +kernel
theorem dX0_findPieces_76 : decode cX0_findPieces 76 = .ok (.iadd, 1) := by decide +kernel
theorem dX0_findPieces_77 : decode cX0_findPieces 77 = .ok (.putfield 51, 3) := by decide +kernel
theorem dX0_findPieces_80 : decode cX0_findPieces 80 = .ok (.lload_n 2, 1) := by decide +kernel
theorem dX0_findPieces_81 : decode cX0_findPieces 81 = .ok (.lload 5, 2) := by decide +kernel
theorem dX0_findPieces_83 : decode cX0_findPieces 83 = .ok (.ldc2_w 135, 3) := by decide +kernel
theorem dX0_findPieces_86 : decode cX0_findPieces 86 = .ok (.lxor, 1) := by decide +kernel
theorem dX0_findPieces_87 : decode cX0_findPieces 87 = .ok (.land, 1) := by decide +kernel
theorem dX0_findPieces_88 : decode cX0_findPieces 88 = .ok (.lstore_n 2, 1) := by decide +kernel
theorem dX0_findPieces_89 : decode cX0_findPieces 89 = .ok (.iinc 4 1, 3) := by decide +kernel
theorem dX0_findPieces_92 : decode cX0_findPieces 92 = .ok (.goto (-71), 3) := by decide +kernel
theorem dX0_findPieces_95 : decode cX0_findPieces 95 = .ok (.iinc 1 1, 3) := by decide +kernel
theorem dX0_findPieces_98 : decode cX0_findPieces 98 = .ok (.goto (-91), 3) := by decide +kernel
theorem dX0_findPieces_101 : decode cX0_findPieces 101 = .ok (.return_, 1) := by decide +kernel
def bX0_findPieces_21 (F : Nat) (kc_7 : (Int32 × zOS) → Option (zOS)) (x1 : Int32) (kc_21 : (Int64 × Int32 × zOS) → Option (zOS)) (x2 : Int64) (x4 : Int32) (sL : zOS) : Option (zOS) := (if (64 : Int32) ≤ x4 then (kc_7 ((x1 + 1), sL)) else (if (lg_cmp x2 (0 : Int64)) = 0 then (kc_7 ((x1 + 1), sL)) else (if (96 : Int32) ≤ (zF sL 12) then (kc_7 ((x1 + 1), sL)) else (Option.bind (fX0_hangingTogether F x2) (fun r_4 : Int64 => (zchk (zF sL 12) 96 (zlet (zsL sL 2 (vp_updL (zL sL 2) (zF sL 12).toNatClampNeg r_4)) (fun sL_6 : zOS => (zchk (zF sL_6 12) 96 (zlet (zsI sL_6 3 (upd (zI sL_6 3) (zF sL_6 12).toNatClampNeg x1)) (fun sL_7 : zOS => (zlet (zsF sL_7 12 ((zF sL_7 12) + (1 : Int32))) (fun sL_8 : zOS => (zlet (x2 &&& (r_4 ^^^ (-1 : Int64))) (fun x2_9 : Int64 => (kc_21 (x2_9, (x4 + 1), sL_8)))))))))))))))))
set_option maxRecDepth 20000 in
theorem vX0_findPieces_21 {X : zCx} {res : zOS} {F : Nat} {qL : Nat → Nat} {x1 : Int32} {kc_7 : (Int32 × zOS) → Option (zOS)} {kc_21 : (Int64 × Int32 × zOS) → Option (zOS)} (C : zC X RX0 cX0_findPieces 7 2 51) (hR : zR X none none [(0, qL, res)]) (hk_7 : ∀ (y1 : Int32) (tL : zOS), zJ X 7 res (kc_7 (y1, tL)) 7 [(0, (.ref (qL 0))), (1, (.int y1))] [] [(0, qL, tL)]) (hk_21 : ∀ (y2 : Int64) (y4 : Int32) (tL : zOS), zJ X 7 res (kc_21 (y2, y4, tL)) 21 [(0, (.ref (qL 0))), (1, (.int x1)), (2, (.long y2)), (4, (.int y4))] [] [(0, qL, tL)]) (x2 : Int64) (x4 : Int32) (sL : zOS) : zJ X 7 res (bX0_findPieces_21 F kc_7 x1 kc_21 x2 x4 sL) 21 [(0, (.ref (qL 0))), (1, (.int x1)), (2, (.long x2)), (4, (.int x4))] [] [(0, qL, sL)] := by
  unfold bX0_findPieces_21
  refine z_iload (pc := 21) 3 rfl C dX0_findPieces_21 ?_
  refine z_bipush (pc := 23) (64 : Int32) (by decide) C dX0_findPieces_23 ?_
  refine z_icmp_ge (pc := 25) 95 C dX0_findPieces_25 (by decide) ?_ ?_
  · refine z_iinc (pc := 95) (x1 + 1) 1 rfl rfl [(0, (.ref (qL 0))), (1, (.int (x1 + 1))), (2, (.long x2)), (4, (.int x4))] [1, 0, 2, 3] (by decide) rfl C dX0_findPieces_95 ?_
    refine z_goto (pc := 98) 7 C dX0_findPieces_98 (by decide) ?_
    refine z_lv [(0, (.ref (qL 0))), (1, (.int (x1 + 1)))] [0, 1] rfl ?_
    exact hk_7 _ _
  · refine z_lload_n (pc := 28) 2 rfl rfl C dX0_findPieces_28 ?_
    refine z_lconst (pc := 29) (0 : Int64) (by decide) C dX0_findPieces_29 ?_
    refine z_lcmp (pc := 30) C dX0_findPieces_30 ?_
    refine z_if_eq (pc := 31) 95 C dX0_findPieces_31 (by decide) ?_ ?_
    · refine z_iinc (pc := 95) (x1 + 1) 1 rfl rfl [(0, (.ref (qL 0))), (1, (.int (x1 + 1))), (2, (.long x2)), (4, (.int x4))] [1, 0, 2, 3] (by decide) rfl C dX0_findPieces_95 ?_
      refine z_goto (pc := 98) 7 C dX0_findPieces_98 (by decide) ?_
      refine z_lv [(0, (.ref (qL 0))), (1, (.int (x1 + 1)))] [0, 1] rfl ?_
      exact hk_7 _ _
    · refine z_aload_n (pc := 34) 0 rfl rfl C dX0_findPieces_34 ?_
      refine z_getI (pc := 35) 0 12 C dX0_findPieces_35 rfl (by decide) (by decide) rfl zw_158 ?_
      refine z_bipush (pc := 38) (96 : Int32) (by decide) C dX0_findPieces_38 ?_
      refine z_icmp_ge (pc := 40) 95 C dX0_findPieces_40 (by decide) ?_ ?_
      · refine z_iinc (pc := 95) (x1 + 1) 1 rfl rfl [(0, (.ref (qL 0))), (1, (.int (x1 + 1))), (2, (.long x2)), (4, (.int x4))] [1, 0, 2, 3] (by decide) rfl C dX0_findPieces_95 ?_
        refine z_goto (pc := 98) 7 C dX0_findPieces_98 (by decide) ?_
        refine z_lv [(0, (.ref (qL 0))), (1, (.int (x1 + 1)))] [0, 1] rfl ?_
        exact hk_7 _ _
      · refine z_lload_n (pc := 43) 2 rfl rfl C dX0_findPieces_43 ?_
        refine z_callS (pc := 44) (rf' := 1) (rl' := 25) (fX0_hangingTogether F x2) [(.long x2)] [] [] (fun r_4 => (some (.long r_4))) (fun r_4 => []) [(0, qL, sL)] (fun r_4 => [(0, qL, sL)]) C dX0_findPieces_44 zy_X0_hangingTogether zw_421 (fun _ hr9 => mX0_hangingTogether  hr9) (by decide) rfl (Nat.le_of_ble_eq_true rfl) (List.Perm.refl _) (fun _ => List.Perm.refl _) rfl (fun r_4 hr_5 => ?_)
        show zJ X 7 res _ 47 [(0, (.ref (qL 0))), (1, (.int x1)), (2, (.long x2)), (4, (.int x4))] [(.long r_4)] [(0, qL, sL)]
        refine z_lstore (pc := 47) [(0, (.ref (qL 0))), (1, (.int x1)), (2, (.long x2)), (4, (.int x4)), (5, (.long r_4))] [1, 2, 3, 4, 0] (by decide) rfl C dX0_findPieces_47 ?_
        refine z_aload_n (pc := 49) 0 rfl rfl C dX0_findPieces_49 ?_
        refine z_getR (pc := 50) 0 1 2 C dX0_findPieces_50 rfl (by decide) (by decide) rfl zw_144 ?_
        refine z_aload_n (pc := 53) 0 rfl rfl C dX0_findPieces_53 ?_
        refine z_getI (pc := 54) 0 12 C dX0_findPieces_54 rfl (by decide) (by decide) rfl zw_158 ?_
        refine z_lload (pc := 57) 4 rfl C dX0_findPieces_57 ?_
        refine z_last (pc := 59) 0 C dX0_findPieces_59 rfl (by unfold zAr; decide) [(0, qL, (zsL sL 2 (vp_updL (zL sL 2) (zF sL 12).toNatClampNeg r_4)))] rfl ?_
        refine z_letc (fun z9 => [(0, qL, z9)]) (fun sL_6 => ?_)
        refine z_aload_n (pc := 60) 0 rfl rfl C dX0_findPieces_60 ?_
        refine z_getR (pc := 61) 0 2 3 C dX0_findPieces_61 rfl (by decide) (by decide) rfl zw_145 ?_
        refine z_aload_n (pc := 64) 0 rfl rfl C dX0_findPieces_64 ?_
        refine z_getI (pc := 65) 0 12 C dX0_findPieces_65 rfl (by decide) (by decide) rfl zw_158 ?_
        refine z_iload_n (pc := 68) 1 rfl rfl C dX0_findPieces_68 ?_
        refine z_iast (pc := 69) 0 C dX0_findPieces_69 rfl (by unfold zAr; decide) [(0, qL, (zsI sL_6 3 (upd (zI sL_6 3) (zF sL_6 12).toNatClampNeg x1)))] rfl ?_
        refine z_letc (fun z9 => [(0, qL, z9)]) (fun sL_7 => ?_)
        refine z_aload_n (pc := 70) 0 rfl rfl C dX0_findPieces_70 ?_
        refine z_dup (pc := 71) rfl C dX0_findPieces_71 ?_
        refine z_getI (pc := 72) 0 12 C dX0_findPieces_72 rfl (by decide) (by decide) rfl zw_158 ?_
        refine z_iconst (pc := 75) (1 : Int32) (by decide) C dX0_findPieces_75 ?_
        refine z_iadd (pc := 76) C dX0_findPieces_76 ?_
        refine z_putI (pc := 77) 0 12 C dX0_findPieces_77 rfl (by decide) (by decide) rfl zw_158 rfl rfl rfl [(0, qL, (zsF sL_7 12 ((zF sL_7 12) + (1 : Int32))))] rfl ?_
        refine z_letc (fun z9 => [(0, qL, z9)]) (fun sL_8 => ?_)
        refine z_lload_n (pc := 80) 2 rfl rfl C dX0_findPieces_80 ?_
        refine z_lload (pc := 81) 4 rfl C dX0_findPieces_81 ?_
        refine z_ldc2_w (pc := 83) (-1 : Int64) zw_420 C dX0_findPieces_83 ?_
        refine z_lxor (pc := 86) C dX0_findPieces_86 ?_
        refine z_land (pc := 87) C dX0_findPieces_87 ?_
        refine z_letl (fun x2_9 => ?_)
        refine z_lstore_n (pc := 88) [(0, (.ref (qL 0))), (1, (.int x1)), (2, (.long x2_9)), (4, (.int x4)), (5, (.long r_4))] [1, 2, 0, 3, 4] (by decide) rfl rfl C dX0_findPieces_88 ?_
        refine z_iinc (pc := 89) (x4 + 1) 3 rfl rfl [(0, (.ref (qL 0))), (1, (.int x1)), (2, (.long x2_9)), (4, (.int (x4 + 1))), (5, (.long r_4))] [1, 2, 3, 0, 4] (by decide) rfl C dX0_findPieces_89 ?_
        refine z_goto (pc := 92) 21 C dX0_findPieces_92 (by decide) ?_
        refine z_lv [(0, (.ref (qL 0))), (1, (.int x1)), (2, (.long x2_9)), (4, (.int (x4 + 1)))] [0, 1, 2, 3] rfl ?_
        exact hk_21 _ _ _
def bX0_findPieces_7 (F : Nat) (kc_7 : (Int32 × zOS) → Option (zOS)) (x1 : Int32) (sL : zOS) : Option (zOS) := (if (3 : Int32) ≤ x1 then (some (sL)) else (Option.bind (fX0_cellsOf x1 sL) (fun r_2 : Int64 => (zit (P := Int64 × Int32 × zOS) (R := zOS) (fun kc9 p9 => bX0_findPieces_21 F kc_7 x1 kc9 p9.1 p9.2.1 p9.2.2) F (r_2, (0 : Int32), sL)))))
set_option maxRecDepth 20000 in
theorem vX0_findPieces_7 {X : zCx} {res : zOS} {F : Nat} {qL : Nat → Nat} {kc_7 : (Int32 × zOS) → Option (zOS)} (C : zC X RX0 cX0_findPieces 7 2 51) (hR : zR X none none [(0, qL, res)]) (hk_7 : ∀ (y1 : Int32) (tL : zOS), zJ X 7 res (kc_7 (y1, tL)) 7 [(0, (.ref (qL 0))), (1, (.int y1))] [] [(0, qL, tL)]) (x1 : Int32) (sL : zOS) : zJ X 7 res (bX0_findPieces_7 F kc_7 x1 sL) 7 [(0, (.ref (qL 0))), (1, (.int x1))] [] [(0, qL, sL)] := by
  unfold bX0_findPieces_7
  refine z_iload_n (pc := 7) 1 rfl rfl C dX0_findPieces_7 ?_
  refine z_iconst (pc := 8) (3 : Int32) (by decide) C dX0_findPieces_8 ?_
  refine z_icmp_ge (pc := 9) 101 C dX0_findPieces_9 (by decide) ?_ ?_
  · exact z_return (pc := 101) C hR dX0_findPieces_101 (fun h => by subst h; exact ⟨rfl, rfl⟩)
  · refine z_aload_n (pc := 12) 0 rfl rfl C dX0_findPieces_12 ?_
    refine z_iload_n (pc := 13) 1 rfl rfl C dX0_findPieces_13 ?_
    refine z_callV (pc := 14) (rf' := 0) (rl' := 0) (fX0_cellsOf x1 sL) [(.int x1)] [] [(0, qL, sL)] (fun r_2 => (some (.long r_2))) (fun r_2 => [(0, qL, sL)]) [] (fun r_2 => [(0, qL, sL)]) C dX0_findPieces_14 zy_X0_cellsOf zw_416 (fun _ hr9 => mX0_cellsOf  hr9) (by decide) rfl rfl (by decide) rfl (Nat.le_of_ble_eq_true rfl) (List.Perm.refl _) (fun _ => List.Perm.refl _) rfl (fun r_2 hr_3 => ?_)
    show zJ X 7 res _ 17 [(0, (.ref (qL 0))), (1, (.int x1))] [(.long r_2)] [(0, qL, sL)]
    refine z_lstore_n (pc := 17) [(0, (.ref (qL 0))), (1, (.int x1)), (2, (.long r_2))] [1, 2, 0] (by decide) rfl rfl C dX0_findPieces_17 ?_
    refine z_iconst (pc := 18) (0 : Int32) (by decide) C dX0_findPieces_18 ?_
    refine z_istore (pc := 19) [(0, (.ref (qL 0))), (1, (.int x1)), (2, (.long r_2)), (4, (.int (0 : Int32)))] [1, 2, 3, 0] (by decide) rfl C dX0_findPieces_19 ?_
    show zJ X 7 res _ 21 [(0, (.ref (qL 0))), (1, (.int x1)), (2, (.long r_2)), (4, (.int (0 : Int32)))] [] [(0, qL, sL)]
    exact zit_J (P := Int64 × Int32 × zOS) (B := (fun kc9 p9 => bX0_findPieces_21 F kc_7 x1 kc9 p9.1 p9.2.1 p9.2.2)) (fun p9 => [(0, (.ref (qL 0))), (1, (.int x1)), (2, (.long p9.1)), (4, (.int p9.2.1))]) (fun p9 => [(0, qL, p9.2.2)]) (fun kc9 hk9 p9 => vX0_findPieces_21 C hR  hk_7 (fun a0 a1 a2 => hk9 (a0, a1, a2)) p9.1 p9.2.1 p9.2.2) F _
def fX0_findPieces (F : Nat) (sL : zOS) : Option (zOS) := (zlet (zsF sL 12 (0 : Int32)) (fun sL_1 : zOS => (zit (P := Int32 × zOS) (R := zOS) (fun kc9 p9 => bX0_findPieces_7 F kc9 p9.1 p9.2) F ((0 : Int32), sL_1))))
set_option maxRecDepth 20000 in
theorem wX0_findPieces {X : zCx} {res : zOS} {F : Nat} {qL : Nat → Nat} {sL : zOS} (C : zC X RX0 cX0_findPieces 7 2 51) (hR : zR X none none [(0, qL, res)])  : zJ X 7 res (fX0_findPieces F sL) 0 [(0, (.ref (qL 0)))] [] [(0, qL, sL)] := by
  unfold fX0_findPieces
  refine z_aload_n (pc := 0) 0 rfl rfl C dX0_findPieces_0 ?_
  refine z_iconst (pc := 1) (0 : Int32) (by decide) C dX0_findPieces_1 ?_
  refine z_putI (pc := 2) 0 12 C dX0_findPieces_2 rfl (by decide) (by decide) rfl zw_158 rfl rfl rfl [(0, qL, (zsF sL 12 (0 : Int32)))] rfl ?_
  refine z_letc (fun z9 => [(0, qL, z9)]) (fun sL_1 => ?_)
  refine z_iconst (pc := 5) (0 : Int32) (by decide) C dX0_findPieces_5 ?_
  refine z_istore_n (pc := 6) [(0, (.ref (qL 0))), (1, (.int (0 : Int32)))] [1, 0] (by decide) rfl rfl C dX0_findPieces_6 ?_
  show zJ X 7 res _ 7 [(0, (.ref (qL 0))), (1, (.int (0 : Int32)))] [] [(0, qL, sL_1)]
  exact zit_J (P := Int32 × zOS) (B := (fun kc9 p9 => bX0_findPieces_7 F kc9 p9.1 p9.2)) (fun p9 => [(0, (.ref (qL 0))), (1, (.int p9.1))]) (fun p9 => [(0, qL, p9.2)]) (fun kc9 hk9 p9 => vX0_findPieces_7 C hR   (fun a0 a1 => hk9 (a0, a1)) p9.1 p9.2) F _
theorem mX0_findPieces {F : Nat} {qL : Nat → Nat} {sL : zOS} {res : zOS}  (hf : fX0_findPieces F sL = some res) : zM yX0_findPieces cX0_findPieces 7 none 2 51 [(.ref (qL 0))] [(0, qL, sL)] none [(0, qL, res)] := zM_of (by decide +kernel) (Nat.le_of_ble_eq_true rfl) (fun X C hR => wX0_findPieces (F := F) C hR  hf)
theorem dX0_join_0 : decode cX0_join 0 = .ok (.iload_n 1, 1) := by decide +kernel
theorem dX0_join_1 : decode cX0_join 1 = .ok (.iload_n 2, 1) := by decide +kernel
theorem dX0_join_2 : decode cX0_join 2 = .ok (.invokestatic 152, 3) := by decide +kernel
theorem dX0_join_5 : decode cX0_join 5 = .ok (.istore_n 3, 1) := by decide +kernel
theorem dX0_join_6 : decode cX0_join 6 = .ok (.iload_n 1, 1) := by decide +kernel
theorem dX0_join_7 : decode cX0_join 7 = .ok (.iload_n 2, 1) := by decide +kernel
theorem dX0_join_8 : decode cX0_join 8 = .ok (.invokestatic 157, 3) := by decide +kernel
theorem dX0_join_11 : decode cX0_join 11 = .ok (.istore 4, 2) := by decide +kernel
theorem dX0_join_13 : decode cX0_join 13 = .ok (.iconst 0, 1) := by decide +kernel
theorem dX0_join_14 : decode cX0_join 14 = .ok (.istore 5, 2) := by decide +kernel
theorem dX0_join_16 : decode cX0_join 16 = .ok (.iload 5, 2) := by decide +kernel
theorem dX0_join_18 : decode cX0_join 18 = .ok (.aload_n 0, 1) := by decide +kernel
theorem dX0_join_19 : decode cX0_join 19 = .ok (.getfield 51, 3) := by decide +kernel
theorem dX0_join_22 : decode cX0_join 22 = .ok (.if_icmp .ge 29, 3) := by decide +kernel
theorem dX0_join_25 : decode cX0_join 25 = .ok (.aload_n 0, 1) := by decide +kernel
theorem dX0_join_26 : decode cX0_join 26 = .ok (.getfield 22, 3) := by decide +kernel
theorem dX0_join_29 : decode cX0_join 29 = .ok (.iload 5, 2) := by decide +kernel
theorem dX0_join_31 : decode cX0_join 31 = .ok (.iaload, 1) := by decide +kernel
theorem dX0_join_32 : decode cX0_join 32 = .ok (.iload 4, 2) := by decide +kernel
theorem dX0_join_34 : decode cX0_join 34 = .ok (.if_icmp .ne 11, 3) := by decide +kernel
theorem dX0_join_37 : decode cX0_join 37 = .ok (.aload_n 0, 1) := by decide +kernel
theorem dX0_join_38 : decode cX0_join 38 = .ok (.getfield 22, 3) := by decide +kernel
theorem dX0_join_41 : decode cX0_join 41 = .ok (.iload 5, 2) := by decide +kernel
theorem dX0_join_43 : decode cX0_join 43 = .ok (.iload_n 3, 1) := by decide +kernel
theorem dX0_join_44 : decode cX0_join 44 = .ok (.iastore, 1) := by decide +kernel
theorem dX0_join_45 : decode cX0_join 45 = .ok (.iinc 5 1, 3) := by decide +kernel
theorem dX0_join_48 : decode cX0_join 48 = .ok (.goto (-32), 3) := by decide +kernel
theorem dX0_join_51 : decode cX0_join 51 = .ok (.return_, 1) := by decide +kernel
def bX0_join_16 (F : Nat) (x3 : Int32) (x4 : Int32) (kc_16 : (Int32 × zOS) → Option (zOS)) (x5 : Int32) (sL : zOS) : Option (zOS) := (if (zF sL 12) ≤ x5 then (some (sL)) else (zchk x5 96 (if (zI sL 4 x5.toNatClampNeg) = x4 then (zchk x5 96 (zlet (zsI sL 4 (upd (zI sL 4) x5.toNatClampNeg x3)) (fun sL_3 : zOS => (kc_16 ((x5 + 1), sL_3))))) else (kc_16 ((x5 + 1), sL)))))
set_option maxRecDepth 20000 in
theorem vX0_join_16 {X : zCx} {res : zOS} {F : Nat} {qL : Nat → Nat} {x3 : Int32} {x4 : Int32} {kc_16 : (Int32 × zOS) → Option (zOS)} (C : zC X RX0 cX0_join 6 1 21) (hR : zR X none none [(0, qL, res)]) (hk_16 : ∀ (y5 : Int32) (tL : zOS), zJ X 6 res (kc_16 (y5, tL)) 16 [(0, (.ref (qL 0))), (3, (.int x3)), (4, (.int x4)), (5, (.int y5))] [] [(0, qL, tL)]) (x5 : Int32) (sL : zOS) : zJ X 6 res (bX0_join_16 F x3 x4 kc_16 x5 sL) 16 [(0, (.ref (qL 0))), (3, (.int x3)), (4, (.int x4)), (5, (.int x5))] [] [(0, qL, sL)] := by
  unfold bX0_join_16
  refine z_iload (pc := 16) 3 rfl C dX0_join_16 ?_
  refine z_aload_n (pc := 18) 0 rfl rfl C dX0_join_18 ?_
  refine z_getI (pc := 19) 0 12 C dX0_join_19 rfl (by decide) (by decide) rfl zw_158 ?_
  refine z_icmp_ge (pc := 22) 51 C dX0_join_22 (by decide) ?_ ?_
  · exact z_return (pc := 51) C hR dX0_join_51 (fun h => by subst h; exact ⟨rfl, rfl⟩)
  · refine z_aload_n (pc := 25) 0 rfl rfl C dX0_join_25 ?_
    refine z_getR (pc := 26) 0 3 4 C dX0_join_26 rfl (by decide) (by decide) rfl zw_146 ?_
    refine z_iload (pc := 29) 3 rfl C dX0_join_29 ?_
    refine z_iald (pc := 31) 0 C dX0_join_31 rfl (by unfold zAr; decide) ?_
    refine z_iload (pc := 32) 2 rfl C dX0_join_32 ?_
    refine z_icmp_ne (pc := 34) 45 C dX0_join_34 (by decide) ?_ ?_
    · refine z_aload_n (pc := 37) 0 rfl rfl C dX0_join_37 ?_
      refine z_getR (pc := 38) 0 3 4 C dX0_join_38 rfl (by decide) (by decide) rfl zw_146 ?_
      refine z_iload (pc := 41) 3 rfl C dX0_join_41 ?_
      refine z_iload_n (pc := 43) 1 rfl rfl C dX0_join_43 ?_
      refine z_iast (pc := 44) 0 C dX0_join_44 rfl (by unfold zAr; decide) [(0, qL, (zsI sL 4 (upd (zI sL 4) x5.toNatClampNeg x3)))] rfl ?_
      refine z_letc (fun z9 => [(0, qL, z9)]) (fun sL_3 => ?_)
      refine z_iinc (pc := 45) (x5 + 1) 3 rfl rfl [(0, (.ref (qL 0))), (3, (.int x3)), (4, (.int x4)), (5, (.int (x5 + 1)))] [1, 2, 3, 0] (by decide) rfl C dX0_join_45 ?_
      refine z_goto (pc := 48) 16 C dX0_join_48 (by decide) ?_
      exact hk_16 _ _
    · refine z_iinc (pc := 45) (x5 + 1) 3 rfl rfl [(0, (.ref (qL 0))), (3, (.int x3)), (4, (.int x4)), (5, (.int (x5 + 1)))] [1, 2, 3, 0] (by decide) rfl C dX0_join_45 ?_
      refine z_goto (pc := 48) 16 C dX0_join_48 (by decide) ?_
      exact hk_16 _ _
def fX0_join (F : Nat) (x1 : Int32) (x2 : Int32) (sL : zOS) : Option (zOS) := (zlet (if x2 < x1 then x2 else x1) (fun x3_1 : Int32 => (zlet (if x1 < x2 then x2 else x1) (fun x4_2 : Int32 => (zit (P := Int32 × zOS) (R := zOS) (fun kc9 p9 => bX0_join_16 F x3_1 x4_2 kc9 p9.1 p9.2) F ((0 : Int32), sL))))))
set_option maxRecDepth 20000 in
theorem wX0_join {X : zCx} {res : zOS} {F : Nat} {qL : Nat → Nat} {x1 : Int32} {x2 : Int32} {sL : zOS} (C : zC X RX0 cX0_join 6 1 21) (hR : zR X none none [(0, qL, res)])  : zJ X 6 res (fX0_join F x1 x2 sL) 0 [(0, (.ref (qL 0))), (1, (.int x1)), (2, (.int x2))] [] [(0, qL, sL)] := by
  unfold fX0_join
  refine z_iload_n (pc := 0) 1 rfl rfl C dX0_join_0 ?_
  refine z_iload_n (pc := 1) 2 rfl rfl C dX0_join_1 ?_
  refine z_min (pc := 2) C dX0_join_2 zw_441 zw_442 zw_86 zw_443 (by decide) (Nat.le_of_ble_eq_true rfl) ?_
  refine z_leti (fun x3_1 => ?_)
  refine z_istore_n (pc := 5) [(0, (.ref (qL 0))), (1, (.int x1)), (2, (.int x2)), (3, (.int x3_1))] [1, 2, 3, 0] (by decide) rfl rfl C dX0_join_5 ?_
  refine z_iload_n (pc := 6) 1 rfl rfl C dX0_join_6 ?_
  refine z_iload_n (pc := 7) 2 rfl rfl C dX0_join_7 ?_
  refine z_max (pc := 8) C dX0_join_8 zw_444 zw_445 zw_86 zw_446 (by decide) (Nat.le_of_ble_eq_true rfl) ?_
  refine z_leti (fun x4_2 => ?_)
  refine z_istore (pc := 11) [(0, (.ref (qL 0))), (1, (.int x1)), (2, (.int x2)), (3, (.int x3_1)), (4, (.int x4_2))] [1, 2, 3, 4, 0] (by decide) rfl C dX0_join_11 ?_
  refine z_iconst (pc := 13) (0 : Int32) (by decide) C dX0_join_13 ?_
  refine z_istore (pc := 14) [(0, (.ref (qL 0))), (1, (.int x1)), (2, (.int x2)), (3, (.int x3_1)), (4, (.int x4_2)), (5, (.int (0 : Int32)))] [1, 2, 3, 4, 5, 0] (by decide) rfl C dX0_join_14 ?_
  refine z_lv [(0, (.ref (qL 0))), (3, (.int x3_1)), (4, (.int x4_2)), (5, (.int (0 : Int32)))] [0, 3, 4, 5] rfl ?_
  show zJ X 6 res _ 16 [(0, (.ref (qL 0))), (3, (.int x3_1)), (4, (.int x4_2)), (5, (.int (0 : Int32)))] [] [(0, qL, sL)]
  exact zit_J (P := Int32 × zOS) (B := (fun kc9 p9 => bX0_join_16 F x3_1 x4_2 kc9 p9.1 p9.2)) (fun p9 => [(0, (.ref (qL 0))), (3, (.int x3_1)), (4, (.int x4_2)), (5, (.int p9.1))]) (fun p9 => [(0, qL, p9.2)]) (fun kc9 hk9 p9 => vX0_join_16 C hR   (fun a0 a1 => hk9 (a0, a1)) p9.1 p9.2) F _
theorem mX0_join {F : Nat} {qL : Nat → Nat} {x1 : Int32} {x2 : Int32} {sL : zOS} {res : zOS}  (hf : fX0_join F x1 x2 sL = some res) : zM yX0_join cX0_join 6 none 1 21 [(.ref (qL 0)), (.int x1), (.int x2)] [(0, qL, sL)] none [(0, qL, res)] := zM_of (by decide +kernel) (Nat.le_of_ble_eq_true rfl) (fun X C hR => wX0_join (F := F) C hR  hf)
theorem dX0_joinBelow_0 : decode cX0_joinBelow 0 = .ok (.aload_n 0, 1) := by decide +kernel
theorem dX0_joinBelow_1 : decode cX0_joinBelow 1 = .ok (.getfield 15, 3) := by decide +kernel
theorem dX0_joinBelow_4 : decode cX0_joinBelow 4 = .ok (.iload_n 1, 1) := by decide +kernel
theorem dX0_joinBelow_5 : decode cX0_joinBelow 5 = .ok (.laload, 1) := by decide +kernel
theorem dX0_joinBelow_6 : decode cX0_joinBelow 6 = .ok (.aload_n 0, 1) := by decide +kernel
theorem dX0_joinBelow_7 : decode cX0_joinBelow 7 = .ok (.getfield 9, 3) := by decide +kernel
theorem dX0_joinBelow_10 : decode cX0_joinBelow 10 = .ok (.iconst 3, 1) := by decide +kernel
theorem dX0_joinBelow_11 : decode cX0_joinBelow 11 = .ok (.laload, 1) := by decide +kernel
theorem dX0_joinBelow_12 : decode cX0_joinBelow 12 = .ok (.land, 1) := by decide +kernel
theorem dX0_joinBelow_13 : decode cX0_joinBelow 13 = .ok (.lstore_n 2, 1) := by decide +kernel
theorem dX0_joinBelow_14 : decode cX0_joinBelow 14 = .ok (.iconst 0, 1) := by decide +kernel
theorem dX0_joinBelow_15 : decode cX0_joinBelow 15 = .ok (.istore 4, 2) := by decide +kernel
theorem dX0_joinBelow_17 : decode cX0_joinBelow 17 = .ok (.iload 4, 2) := by decide +kernel
theorem dX0_joinBelow_19 : decode cX0_joinBelow 19 = .ok (.iload_n 1, 1) := by decide +kernel
theorem dX0_joinBelow_20 : decode cX0_joinBelow 20 = .ok (.if_icmp .ge 57, 3) := by decide +kernel
theorem dX0_joinBelow_23 : decode cX0_joinBelow 23 = .ok (.lload_n 2, 1) := by decide +kernel
theorem dX0_joinBelow_24 : decode cX0_joinBelow 24 = .ok (.lconst 0, 1) := by decide +kernel
theorem dX0_joinBelow_25 : decode cX0_joinBelow 25 = .ok (.lcmp, 1) := by decide +kernel
theorem dX0_joinBelow_26 : decode cX0_joinBelow 26 = .ok (.ifCond .eq 51, 3) := by decide +kernel
theorem dX0_joinBelow_29 : decode cX0_joinBelow 29 = .ok (.aload_n 0, 1) := by decide +kernel
theorem dX0_joinBelow_30 : decode cX0_joinBelow 30 = .ok (.getfield 18, 3) := by decide +kernel
theorem dX0_joinBelow_33 : decode cX0_joinBelow 33 = .ok (.iload 4, 2) := by decide +kernel
theorem dX0_joinBelow_35 : decode cX0_joinBelow 35 = .ok (.iaload, 1) := by decide +kernel
theorem dX0_joinBelow_36 : decode cX0_joinBelow 36 = .ok (.iconst 2, 1) := by decide +kernel
theorem dX0_joinBelow_37 : decode cX0_joinBelow 37 = .ok (.if_icmp .eq 34, 3) := by decide +kernel
theorem dX0_joinBelow_40 : decode cX0_joinBelow 40 = .ok (.aload_n 0, 1) := by decide +kernel
theorem dX0_joinBelow_41 : decode cX0_joinBelow 41 = .ok (.getfield 15, 3) := by decide +kernel
theorem dX0_joinBelow_44 : decode cX0_joinBelow 44 = .ok (.iload 4, 2) := by decide +kernel
theorem dX0_joinBelow_46 : decode cX0_joinBelow 46 = .ok (.laload, 1) := by decide +kernel
theorem dX0_joinBelow_47 : decode cX0_joinBelow 47 = .ok (.lload_n 2, 1) := by decide +kernel
theorem dX0_joinBelow_48 : decode cX0_joinBelow 48 = .ok (.land, 1) := by decide +kernel
theorem dX0_joinBelow_49 : decode cX0_joinBelow 49 = .ok (.lconst 0, 1) := by decide +kernel
theorem dX0_joinBelow_50 : decode cX0_joinBelow 50 = .ok (.lcmp, 1) := by decide +kernel
theorem dX0_joinBelow_51 : decode cX0_joinBelow 51 = .ok (.ifCond .eq 20, 3) := by decide +kernel
theorem dX0_joinBelow_54 : decode cX0_joinBelow 54 = .ok (.aload_n 0, 1) := by decide +kernel
theorem dX0_joinBelow_55 : decode cX0_joinBelow 55 = .ok (.aload_n 0, 1) := by decide +kernel
theorem dX0_joinBelow_56 : decode cX0_joinBelow 56 = .ok (.getfield 22, 3) := by decide +kernel
theorem dX0_joinBelow_59 : decode cX0_joinBelow 59 = .ok (.iload 4, 2) := by decide +kernel
theorem dX0_joinBelow_61 : decode cX0_joinBelow 61 = .ok (.iaload, 1) := by decide +kernel
theorem dX0_joinBelow_62 : decode cX0_joinBelow 62 = .ok (.aload_n 0, 1) := by decide +kernel
theorem dX0_joinBelow_63 : decode cX0_joinBelow 63 = .ok (.getfield 22, 3) := by decide +kernel
theorem dX0_joinBelow_66 : decode cX0_joinBelow 66 = .ok (.iload_n 1, 1) := by decide +kernel
theorem dX0_joinBelow_67 : decode cX0_joinBelow 67 = .ok (.iaload, 1) := by decide +kernel
theorem dX0_joinBelow_68 : decode cX0_joinBelow 68 = .ok (.invokevirtual 148, 3) := by decide +kernel
theorem dX0_joinBelow_71 : decode cX0_joinBelow 71 = .ok (.iinc 4 1, 3) := by decide +kernel
theorem dX0_joinBelow_74 : decode cX0_joinBelow 74 = .ok (.goto (-57), 3) := by decide +kernel
theorem dX0_joinBelow_77 : decode cX0_joinBelow 77 = .ok (.return_, 1) := by decide +kernel
def bX0_joinBelow_17 (F : Nat) (x1 : Int32) (x2 : Int64) (kc_17 : (Int32 × zOS) → Option (zOS)) (x4 : Int32) (sL : zOS) : Option (zOS) := (if x1 ≤ x4 then (some (sL)) else (if (lg_cmp x2 (0 : Int64)) = 0 then (some (sL)) else (zchk x4 96 (if (zI sL 3 x4.toNatClampNeg) = (2 : Int32) then (kc_17 ((x4 + 1), sL)) else (zchk x4 96 (if (lg_cmp ((zL sL 2 x4.toNatClampNeg) &&& x2) (0 : Int64)) = 0 then (kc_17 ((x4 + 1), sL)) else (zchk x4 96 (zchk x1 96 (Option.bind (fX0_join F (zI sL 4 x4.toNatClampNeg) (zI sL 4 x1.toNatClampNeg) sL) (fun r_2 : zOS => (kc_17 ((x4 + 1), r_2))))))))))))
set_option maxRecDepth 20000 in
theorem vX0_joinBelow_17 {X : zCx} {res : zOS} {F : Nat} {qL : Nat → Nat} {x1 : Int32} {x2 : Int64} {kc_17 : (Int32 × zOS) → Option (zOS)} (C : zC X RX0 cX0_joinBelow 5 2 46) (hR : zR X none none [(0, qL, res)]) (hk_17 : ∀ (y4 : Int32) (tL : zOS), zJ X 5 res (kc_17 (y4, tL)) 17 [(0, (.ref (qL 0))), (1, (.int x1)), (2, (.long x2)), (4, (.int y4))] [] [(0, qL, tL)]) (x4 : Int32) (sL : zOS) : zJ X 5 res (bX0_joinBelow_17 F x1 x2 kc_17 x4 sL) 17 [(0, (.ref (qL 0))), (1, (.int x1)), (2, (.long x2)), (4, (.int x4))] [] [(0, qL, sL)] := by
  unfold bX0_joinBelow_17
  refine z_iload (pc := 17) 3 rfl C dX0_joinBelow_17 ?_
  refine z_iload_n (pc := 19) 1 rfl rfl C dX0_joinBelow_19 ?_
  refine z_icmp_ge (pc := 20) 77 C dX0_joinBelow_20 (by decide) ?_ ?_
  · exact z_return (pc := 77) C hR dX0_joinBelow_77 (fun h => by subst h; exact ⟨rfl, rfl⟩)
  · refine z_lload_n (pc := 23) 2 rfl rfl C dX0_joinBelow_23 ?_
    refine z_lconst (pc := 24) (0 : Int64) (by decide) C dX0_joinBelow_24 ?_
    refine z_lcmp (pc := 25) C dX0_joinBelow_25 ?_
    refine z_if_eq (pc := 26) 77 C dX0_joinBelow_26 (by decide) ?_ ?_
    · exact z_return (pc := 77) C hR dX0_joinBelow_77 (fun h => by subst h; exact ⟨rfl, rfl⟩)
    · refine z_aload_n (pc := 29) 0 rfl rfl C dX0_joinBelow_29 ?_
      refine z_getR (pc := 30) 0 2 3 C dX0_joinBelow_30 rfl (by decide) (by decide) rfl zw_145 ?_
      refine z_iload (pc := 33) 3 rfl C dX0_joinBelow_33 ?_
      refine z_iald (pc := 35) 0 C dX0_joinBelow_35 rfl (by unfold zAr; decide) ?_
      refine z_iconst (pc := 36) (2 : Int32) (by decide) C dX0_joinBelow_36 ?_
      refine z_icmp_eq (pc := 37) 71 C dX0_joinBelow_37 (by decide) ?_ ?_
      · refine z_iinc (pc := 71) (x4 + 1) 3 rfl rfl [(0, (.ref (qL 0))), (1, (.int x1)), (2, (.long x2)), (4, (.int (x4 + 1)))] [1, 2, 3, 0] (by decide) rfl C dX0_joinBelow_71 ?_
        refine z_goto (pc := 74) 17 C dX0_joinBelow_74 (by decide) ?_
        exact hk_17 _ _
      · refine z_aload_n (pc := 40) 0 rfl rfl C dX0_joinBelow_40 ?_
        refine z_getR (pc := 41) 0 1 2 C dX0_joinBelow_41 rfl (by decide) (by decide) rfl zw_144 ?_
        refine z_iload (pc := 44) 3 rfl C dX0_joinBelow_44 ?_
        refine z_lald (pc := 46) 0 C dX0_joinBelow_46 rfl (by unfold zAr; decide) ?_
        refine z_lload_n (pc := 47) 2 rfl rfl C dX0_joinBelow_47 ?_
        refine z_land (pc := 48) C dX0_joinBelow_48 ?_
        refine z_lconst (pc := 49) (0 : Int64) (by decide) C dX0_joinBelow_49 ?_
        refine z_lcmp (pc := 50) C dX0_joinBelow_50 ?_
        refine z_if_eq (pc := 51) 71 C dX0_joinBelow_51 (by decide) ?_ ?_
        · refine z_iinc (pc := 71) (x4 + 1) 3 rfl rfl [(0, (.ref (qL 0))), (1, (.int x1)), (2, (.long x2)), (4, (.int (x4 + 1)))] [1, 2, 3, 0] (by decide) rfl C dX0_joinBelow_71 ?_
          refine z_goto (pc := 74) 17 C dX0_joinBelow_74 (by decide) ?_
          exact hk_17 _ _
        · refine z_aload_n (pc := 54) 0 rfl rfl C dX0_joinBelow_54 ?_
          refine z_aload_n (pc := 55) 0 rfl rfl C dX0_joinBelow_55 ?_
          refine z_getR (pc := 56) 0 3 4 C dX0_joinBelow_56 rfl (by decide) (by decide) rfl zw_146 ?_
          refine z_iload (pc := 59) 3 rfl C dX0_joinBelow_59 ?_
          refine z_iald (pc := 61) 0 C dX0_joinBelow_61 rfl (by unfold zAr; decide) ?_
          refine z_aload_n (pc := 62) 0 rfl rfl C dX0_joinBelow_62 ?_
          refine z_getR (pc := 63) 0 3 4 C dX0_joinBelow_63 rfl (by decide) (by decide) rfl zw_146 ?_
          refine z_iload_n (pc := 66) 1 rfl rfl C dX0_joinBelow_66 ?_
          refine z_iald (pc := 67) 0 C dX0_joinBelow_67 rfl (by unfold zAr; decide) ?_
          refine z_callV (pc := 68) (rf' := 1) (rl' := 21) (fX0_join F (zI sL 4 x4.toNatClampNeg) (zI sL 4 x1.toNatClampNeg) sL) [(.int (zI sL 4 x4.toNatClampNeg)), (.int (zI sL 4 x1.toNatClampNeg))] [] [(0, qL, sL)] (fun r_2 => none) (fun r_2 => [(0, qL, r_2)]) [] (fun r_2 => [(0, qL, r_2)]) C dX0_joinBelow_68 zy_X0_join zw_437 (fun _ hr9 => mX0_join  hr9) (by decide) rfl rfl (by decide) rfl (Nat.le_of_ble_eq_true rfl) (List.Perm.refl _) (fun _ => List.Perm.refl _) rfl (fun r_2 hr_3 => ?_)
          show zJ X 5 res _ 71 [(0, (.ref (qL 0))), (1, (.int x1)), (2, (.long x2)), (4, (.int x4))] [] [(0, qL, r_2)]
          refine z_iinc (pc := 71) (x4 + 1) 3 rfl rfl [(0, (.ref (qL 0))), (1, (.int x1)), (2, (.long x2)), (4, (.int (x4 + 1)))] [1, 2, 3, 0] (by decide) rfl C dX0_joinBelow_71 ?_
          refine z_goto (pc := 74) 17 C dX0_joinBelow_74 (by decide) ?_
          exact hk_17 _ _
def fX0_joinBelow (F : Nat) (x1 : Int32) (sL : zOS) : Option (zOS) := (zchk x1 96 (zchk (3 : Int32) 4 (zlet ((zL sL 2 x1.toNatClampNeg) &&& (zL sL 1 (3 : Int32).toNatClampNeg)) (fun x2_1 : Int64 => (zit (P := Int32 × zOS) (R := zOS) (fun kc9 p9 => bX0_joinBelow_17 F x1 x2_1 kc9 p9.1 p9.2) F ((0 : Int32), sL))))))
set_option maxRecDepth 20000 in
theorem wX0_joinBelow {X : zCx} {res : zOS} {F : Nat} {qL : Nat → Nat} {x1 : Int32} {sL : zOS} (C : zC X RX0 cX0_joinBelow 5 2 46) (hR : zR X none none [(0, qL, res)])  : zJ X 5 res (fX0_joinBelow F x1 sL) 0 [(0, (.ref (qL 0))), (1, (.int x1))] [] [(0, qL, sL)] := by
  unfold fX0_joinBelow
  refine z_aload_n (pc := 0) 0 rfl rfl C dX0_joinBelow_0 ?_
  refine z_getR (pc := 1) 0 1 2 C dX0_joinBelow_1 rfl (by decide) (by decide) rfl zw_144 ?_
  refine z_iload_n (pc := 4) 1 rfl rfl C dX0_joinBelow_4 ?_
  refine z_lald (pc := 5) 0 C dX0_joinBelow_5 rfl (by unfold zAr; decide) ?_
  refine z_aload_n (pc := 6) 0 rfl rfl C dX0_joinBelow_6 ?_
  refine z_getR (pc := 7) 0 0 1 C dX0_joinBelow_7 rfl (by decide) (by decide) rfl zw_143 ?_
  refine z_iconst (pc := 10) (3 : Int32) (by decide) C dX0_joinBelow_10 ?_
  refine z_lald (pc := 11) 0 C dX0_joinBelow_11 rfl (by unfold zAr; decide) ?_
  refine z_land (pc := 12) C dX0_joinBelow_12 ?_
  refine z_letl (fun x2_1 => ?_)
  refine z_lstore_n (pc := 13) [(0, (.ref (qL 0))), (1, (.int x1)), (2, (.long x2_1))] [1, 2, 0] (by decide) rfl rfl C dX0_joinBelow_13 ?_
  refine z_iconst (pc := 14) (0 : Int32) (by decide) C dX0_joinBelow_14 ?_
  refine z_istore (pc := 15) [(0, (.ref (qL 0))), (1, (.int x1)), (2, (.long x2_1)), (4, (.int (0 : Int32)))] [1, 2, 3, 0] (by decide) rfl C dX0_joinBelow_15 ?_
  show zJ X 5 res _ 17 [(0, (.ref (qL 0))), (1, (.int x1)), (2, (.long x2_1)), (4, (.int (0 : Int32)))] [] [(0, qL, sL)]
  exact zit_J (P := Int32 × zOS) (B := (fun kc9 p9 => bX0_joinBelow_17 F x1 x2_1 kc9 p9.1 p9.2)) (fun p9 => [(0, (.ref (qL 0))), (1, (.int x1)), (2, (.long x2_1)), (4, (.int p9.1))]) (fun p9 => [(0, qL, p9.2)]) (fun kc9 hk9 p9 => vX0_joinBelow_17 C hR   (fun a0 a1 => hk9 (a0, a1)) p9.1 p9.2) F _
theorem mX0_joinBelow {F : Nat} {qL : Nat → Nat} {x1 : Int32} {sL : zOS} {res : zOS}  (hf : fX0_joinBelow F x1 sL = some res) : zM yX0_joinBelow cX0_joinBelow 5 none 2 46 [(.ref (qL 0)), (.int x1)] [(0, qL, sL)] none [(0, qL, res)] := zM_of (by decide +kernel) (Nat.le_of_ble_eq_true rfl) (fun X C hR => wX0_joinBelow (F := F) C hR  hf)
theorem dX0_joinPieces_0 : decode cX0_joinPieces 0 = .ok (.iconst 0, 1) := by decide +kernel
theorem dX0_joinPieces_1 : decode cX0_joinPieces 1 = .ok (.istore_n 1, 1) := by decide +kernel
theorem dX0_joinPieces_2 : decode cX0_joinPieces 2 = .ok (.iload_n 1, 1) := by decide +kernel
theorem dX0_joinPieces_3 : decode cX0_joinPieces 3 = .ok (.aload_n 0, 1) := by decide +kernel
theorem dX0_joinPieces_4 : decode cX0_joinPieces 4 = .ok (.getfield 51, 3) := by decide +kernel
theorem dX0_joinPieces_7 : decode cX0_joinPieces 7 = .ok (.if_icmp .ge 16, 3) := by decide +kernel
theorem dX0_joinPieces_10 : decode cX0_joinPieces 10 = .ok (.aload_n 0, 1) := by decide +kernel
theorem dX0_joinPieces_11 : decode cX0_joinPieces 11 = .ok (.getfield 22, 3) := by decide +kernel
theorem dX0_joinPieces_14 : decode cX0_joinPieces 14 = .ok (.iload_n 1, 1) := by decide +kernel
theorem dX0_joinPieces_15 : decode cX0_joinPieces 15 = .ok (.iload_n 1, 1) := by decide +kernel
theorem dX0_joinPieces_16 : decode cX0_joinPieces 16 = .ok (.iastore, 1) := by decide +kernel
theorem dX0_joinPieces_17 : decode cX0_joinPieces 17 = .ok (.iinc 1 1, 3) := by decide +kernel
theorem dX0_joinPieces_20 : decode cX0_joinPieces 20 = .ok (.goto (-18), 3) := by decide +kernel
theorem dX0_joinPieces_23 : decode cX0_joinPieces 23 = .ok (.iconst 0, 1) := by decide +kernel
theorem dX0_joinPieces_24 : decode cX0_joinPieces 24 = .ok (.istore_n 1, 1) := by decide +kernel
theorem dX0_joinPieces_25 : decode cX0_joinPieces 25 = .ok (.iload_n 1, 1) := by decide +kernel
theorem dX0_joinPieces_26 : decode cX0_joinPieces 26 = .ok (.aload_n 0, 1) := by decide +kernel
theorem dX0_joinPieces_27 : decode cX0_joinPieces 27 = .ok (.getfield 51, 3) := by decide +kernel
theorem dX0_joinPieces_30 : decode cX0_joinPieces 30 = .ok (.if_icmp .ge 24, 3) := by decide +kernel
theorem dX0_joinPieces_33 : decode cX0_joinPieces 33 = .ok (.aload_n 0, 1) := by decide +kernel
theorem dX0_joinPieces_34 : decode cX0_joinPieces 34 = .ok (.getfield 18, 3) := by decide +kernel
theorem dX0_joinPieces_37 : decode cX0_joinPieces 37 = .ok (.iload_n 1, 1) := by decide +kernel
theorem dX0_joinPieces_38 : decode cX0_joinPieces 38 = .ok (.iaload, 1) := by decide +kernel
theorem dX0_joinPieces_39 : decode cX0_joinPieces 39 = .ok (.iconst 2, 1) := by decide +kernel
theorem dX0_joinPieces_40 : decode cX0_joinPieces 40 = .ok (.if_icmp .ne 8, 3) := by decide +kernel
theorem dX0_joinPieces_43 : decode cX0_joinPieces 43 = .ok (.aload_n 0, 1) := by decide +kernel
theorem dX0_joinPieces_44 : decode cX0_joinPieces 44 = .ok (.iload_n 1, 1) := by decide +kernel
theorem dX0_joinPieces_45 : decode cX0_joinPieces 45 = .ok (.invokevirtual 144, 3) := by decide +kernel
theorem dX0_joinPieces_48 : decode cX0_joinPieces 48 = .ok (.iinc 1 1, 3) := by decide +kernel
theorem dX0_joinPieces_51 : decode cX0_joinPieces 51 = .ok (.goto (-26), 3) := by decide +kernel
theorem dX0_joinPieces_54 : decode cX0_joinPieces 54 = .ok (.return_, 1) := by decide +kernel
def bX0_joinPieces_25 (F : Nat) (kc_25 : (Int32 × zOS) → Option (zOS)) (x1 : Int32) (sL : zOS) : Option (zOS) := (if (zF sL 12) ≤ x1 then (some (sL)) else (zchk x1 96 (if (zI sL 3 x1.toNatClampNeg) = (2 : Int32) then (Option.bind (fX0_joinBelow F x1 sL) (fun r_1 : zOS => (kc_25 ((x1 + 1), r_1)))) else (kc_25 ((x1 + 1), sL)))))
set_option maxRecDepth 20000 in
theorem vX0_joinPieces_25 {X : zCx} {res : zOS} {F : Nat} {qL : Nat → Nat} {kc_25 : (Int32 × zOS) → Option (zOS)} (C : zC X RX0 cX0_joinPieces 2 3 70) (hR : zR X none none [(0, qL, res)]) (hk_25 : ∀ (y1 : Int32) (tL : zOS), zJ X 2 res (kc_25 (y1, tL)) 25 [(0, (.ref (qL 0))), (1, (.int y1))] [] [(0, qL, tL)]) (x1 : Int32) (sL : zOS) : zJ X 2 res (bX0_joinPieces_25 F kc_25 x1 sL) 25 [(0, (.ref (qL 0))), (1, (.int x1))] [] [(0, qL, sL)] := by
  unfold bX0_joinPieces_25
  refine z_iload_n (pc := 25) 1 rfl rfl C dX0_joinPieces_25 ?_
  refine z_aload_n (pc := 26) 0 rfl rfl C dX0_joinPieces_26 ?_
  refine z_getI (pc := 27) 0 12 C dX0_joinPieces_27 rfl (by decide) (by decide) rfl zw_158 ?_
  refine z_icmp_ge (pc := 30) 54 C dX0_joinPieces_30 (by decide) ?_ ?_
  · exact z_return (pc := 54) C hR dX0_joinPieces_54 (fun h => by subst h; exact ⟨rfl, rfl⟩)
  · refine z_aload_n (pc := 33) 0 rfl rfl C dX0_joinPieces_33 ?_
    refine z_getR (pc := 34) 0 2 3 C dX0_joinPieces_34 rfl (by decide) (by decide) rfl zw_145 ?_
    refine z_iload_n (pc := 37) 1 rfl rfl C dX0_joinPieces_37 ?_
    refine z_iald (pc := 38) 0 C dX0_joinPieces_38 rfl (by unfold zAr; decide) ?_
    refine z_iconst (pc := 39) (2 : Int32) (by decide) C dX0_joinPieces_39 ?_
    refine z_icmp_ne (pc := 40) 48 C dX0_joinPieces_40 (by decide) ?_ ?_
    · refine z_aload_n (pc := 43) 0 rfl rfl C dX0_joinPieces_43 ?_
      refine z_iload_n (pc := 44) 1 rfl rfl C dX0_joinPieces_44 ?_
      refine z_callV (pc := 45) (rf' := 2) (rl' := 46) (fX0_joinBelow F x1 sL) [(.int x1)] [] [(0, qL, sL)] (fun r_1 => none) (fun r_1 => [(0, qL, r_1)]) [] (fun r_1 => [(0, qL, r_1)]) C dX0_joinPieces_45 zy_X0_joinBelow zw_433 (fun _ hr9 => mX0_joinBelow  hr9) (by decide) rfl rfl (by decide) rfl (Nat.le_of_ble_eq_true rfl) (List.Perm.refl _) (fun _ => List.Perm.refl _) rfl (fun r_1 hr_2 => ?_)
      show zJ X 2 res _ 48 [(0, (.ref (qL 0))), (1, (.int x1))] [] [(0, qL, r_1)]
      refine z_iinc (pc := 48) (x1 + 1) 1 rfl rfl [(0, (.ref (qL 0))), (1, (.int (x1 + 1)))] [1, 0] (by decide) rfl C dX0_joinPieces_48 ?_
      refine z_goto (pc := 51) 25 C dX0_joinPieces_51 (by decide) ?_
      exact hk_25 _ _
    · refine z_iinc (pc := 48) (x1 + 1) 1 rfl rfl [(0, (.ref (qL 0))), (1, (.int (x1 + 1)))] [1, 0] (by decide) rfl C dX0_joinPieces_48 ?_
      refine z_goto (pc := 51) 25 C dX0_joinPieces_51 (by decide) ?_
      exact hk_25 _ _
def bX0_joinPieces_2 (F : Nat) (kc_2 : (Int32 × zOS) → Option (zOS)) (x1 : Int32) (sL : zOS) : Option (zOS) := (if (zF sL 12) ≤ x1 then (zit (P := Int32 × zOS) (R := zOS) (fun kc9 p9 => bX0_joinPieces_25 F kc9 p9.1 p9.2) F ((0 : Int32), sL)) else (zchk x1 96 (zlet (zsI sL 4 (upd (zI sL 4) x1.toNatClampNeg x1)) (fun sL_3 : zOS => (kc_2 ((x1 + 1), sL_3))))))
set_option maxRecDepth 20000 in
theorem vX0_joinPieces_2 {X : zCx} {res : zOS} {F : Nat} {qL : Nat → Nat} {kc_2 : (Int32 × zOS) → Option (zOS)} (C : zC X RX0 cX0_joinPieces 2 3 70) (hR : zR X none none [(0, qL, res)]) (hk_2 : ∀ (y1 : Int32) (tL : zOS), zJ X 2 res (kc_2 (y1, tL)) 2 [(0, (.ref (qL 0))), (1, (.int y1))] [] [(0, qL, tL)]) (x1 : Int32) (sL : zOS) : zJ X 2 res (bX0_joinPieces_2 F kc_2 x1 sL) 2 [(0, (.ref (qL 0))), (1, (.int x1))] [] [(0, qL, sL)] := by
  unfold bX0_joinPieces_2
  refine z_iload_n (pc := 2) 1 rfl rfl C dX0_joinPieces_2 ?_
  refine z_aload_n (pc := 3) 0 rfl rfl C dX0_joinPieces_3 ?_
  refine z_getI (pc := 4) 0 12 C dX0_joinPieces_4 rfl (by decide) (by decide) rfl zw_158 ?_
  refine z_icmp_ge (pc := 7) 23 C dX0_joinPieces_7 (by decide) ?_ ?_
  · refine z_iconst (pc := 23) (0 : Int32) (by decide) C dX0_joinPieces_23 ?_
    refine z_istore_n (pc := 24) [(0, (.ref (qL 0))), (1, (.int (0 : Int32)))] [1, 0] (by decide) rfl rfl C dX0_joinPieces_24 ?_
    show zJ X 2 res _ 25 [(0, (.ref (qL 0))), (1, (.int (0 : Int32)))] [] [(0, qL, sL)]
    exact zit_J (P := Int32 × zOS) (B := (fun kc9 p9 => bX0_joinPieces_25 F kc9 p9.1 p9.2)) (fun p9 => [(0, (.ref (qL 0))), (1, (.int p9.1))]) (fun p9 => [(0, qL, p9.2)]) (fun kc9 hk9 p9 => vX0_joinPieces_25 C hR   (fun a0 a1 => hk9 (a0, a1)) p9.1 p9.2) F _
  · refine z_aload_n (pc := 10) 0 rfl rfl C dX0_joinPieces_10 ?_
    refine z_getR (pc := 11) 0 3 4 C dX0_joinPieces_11 rfl (by decide) (by decide) rfl zw_146 ?_
    refine z_iload_n (pc := 14) 1 rfl rfl C dX0_joinPieces_14 ?_
    refine z_iload_n (pc := 15) 1 rfl rfl C dX0_joinPieces_15 ?_
    refine z_iast (pc := 16) 0 C dX0_joinPieces_16 rfl (by unfold zAr; decide) [(0, qL, (zsI sL 4 (upd (zI sL 4) x1.toNatClampNeg x1)))] rfl ?_
    refine z_letc (fun z9 => [(0, qL, z9)]) (fun sL_3 => ?_)
    refine z_iinc (pc := 17) (x1 + 1) 1 rfl rfl [(0, (.ref (qL 0))), (1, (.int (x1 + 1)))] [1, 0] (by decide) rfl C dX0_joinPieces_17 ?_
    refine z_goto (pc := 20) 2 C dX0_joinPieces_20 (by decide) ?_
    exact hk_2 _ _
def fX0_joinPieces (F : Nat) (sL : zOS) : Option (zOS) := (zit (P := Int32 × zOS) (R := zOS) (fun kc9 p9 => bX0_joinPieces_2 F kc9 p9.1 p9.2) F ((0 : Int32), sL))
set_option maxRecDepth 20000 in
theorem wX0_joinPieces {X : zCx} {res : zOS} {F : Nat} {qL : Nat → Nat} {sL : zOS} (C : zC X RX0 cX0_joinPieces 2 3 70) (hR : zR X none none [(0, qL, res)])  : zJ X 2 res (fX0_joinPieces F sL) 0 [(0, (.ref (qL 0)))] [] [(0, qL, sL)] := by
  unfold fX0_joinPieces
  refine z_iconst (pc := 0) (0 : Int32) (by decide) C dX0_joinPieces_0 ?_
  refine z_istore_n (pc := 1) [(0, (.ref (qL 0))), (1, (.int (0 : Int32)))] [1, 0] (by decide) rfl rfl C dX0_joinPieces_1 ?_
  show zJ X 2 res _ 2 [(0, (.ref (qL 0))), (1, (.int (0 : Int32)))] [] [(0, qL, sL)]
  exact zit_J (P := Int32 × zOS) (B := (fun kc9 p9 => bX0_joinPieces_2 F kc9 p9.1 p9.2)) (fun p9 => [(0, (.ref (qL 0))), (1, (.int p9.1))]) (fun p9 => [(0, qL, p9.2)]) (fun kc9 hk9 p9 => vX0_joinPieces_2 C hR   (fun a0 a1 => hk9 (a0, a1)) p9.1 p9.2) F _
theorem mX0_joinPieces {F : Nat} {qL : Nat → Nat} {sL : zOS} {res : zOS}  (hf : fX0_joinPieces F sL = some res) : zM yX0_joinPieces cX0_joinPieces 2 none 3 70 [(.ref (qL 0))] [(0, qL, sL)] none [(0, qL, res)] := zM_of (by decide +kernel) (Nat.le_of_ble_eq_true rfl) (fun X C hR => wX0_joinPieces (F := F) C hR  hf)
theorem dX0_openNode_0 : decode cX0_openNode 0 = .ok (.iconst 0, 1) := by decide +kernel
theorem dX0_openNode_1 : decode cX0_openNode 1 = .ok (.istore_n 1, 1) := by decide +kernel
theorem dX0_openNode_2 : decode cX0_openNode 2 = .ok (.iload_n 1, 1) := by decide +kernel
theorem dX0_openNode_3 : decode cX0_openNode 3 = .ok (.iconst 3, 1) := by decide +kernel
theorem dX0_openNode_4 : decode cX0_openNode 4 = .ok (.if_icmp .ge 21, 3) := by decide +kernel
theorem dX0_openNode_7 : decode cX0_openNode 7 = .ok (.aload_n 0, 1) := by decide +kernel
theorem dX0_openNode_8 : decode cX0_openNode 8 = .ok (.getfield 30, 3) := by decide +kernel
theorem dX0_openNode_11 : decode cX0_openNode 11 = .ok (.iload_n 1, 1) := by decide +kernel
theorem dX0_openNode_12 : decode cX0_openNode 12 = .ok (.aaload, 1) := by decide +kernel
theorem dX0_openNode_13 : decode cX0_openNode 13 = .ok (.aload_n 0, 1) := by decide +kernel
theorem dX0_openNode_14 : decode cX0_openNode 14 = .ok (.getfield 55, 3) := by decide +kernel
theorem dX0_openNode_17 : decode cX0_openNode 17 = .ok (.lconst 0, 1) := by decide +kernel
theorem dX0_openNode_18 : decode cX0_openNode 18 = .ok (.lastore, 1) := by decide +kernel
theorem dX0_openNode_19 : decode cX0_openNode 19 = .ok (.iinc 1 1, 3) := by decide +kernel
theorem dX0_openNode_22 : decode cX0_openNode 22 = .ok (.goto (-20), 3) := by decide +kernel
theorem dX0_openNode_25 : decode cX0_openNode 25 = .ok (.aload_n 0, 1) := by decide +kernel
theorem dX0_openNode_26 : decode cX0_openNode 26 = .ok (.dup, 1) := by decide +kernel
theorem dX0_openNode_27 : decode cX0_openNode 27 = .ok (.getfield 55, 3) := by decide +kernel
theorem dX0_openNode_30 : decode cX0_openNode 30 = .ok (.iconst 1, 1) := by decide +kernel
theorem dX0_openNode_31 : decode cX0_openNode 31 = .ok (.iadd, 1) := by decide +kernel
theorem dX0_openNode_32 : decode cX0_openNode 32 = .ok (.putfield 55, 3) := by decide +kernel
theorem dX0_openNode_35 : decode cX0_openNode 35 = .ok (.return_, 1) := by decide +kernel
def bX0_openNode_2 (F : Nat) (kc_2 : (Int32 × zOS) → Option (zOS)) (x1 : Int32) (sL : zOS) : Option (zOS) := (if (3 : Int32) ≤ x1 then (zlet (zsF sL 13 ((zF sL 13) + (1 : Int32))) (fun sL_1 : zOS => (some (sL_1)))) else (zchk x1 3 (zchk (zF sL 13) 96 (zlet (zsL sL (zbs 0 + x1.toNatClampNeg) (vp_updL (zL sL (zbs 0 + x1.toNatClampNeg)) (zF sL 13).toNatClampNeg (0 : Int64))) (fun sL_3 : zOS => (kc_2 ((x1 + 1), sL_3)))))))
set_option maxRecDepth 20000 in
theorem vX0_openNode_2 {X : zCx} {res : zOS} {F : Nat} {qL : Nat → Nat} {kc_2 : (Int32 × zOS) → Option (zOS)} (C : zC X RX0 cX0_openNode 2 0 0) (hR : zR X none none [(0, qL, res)]) (hk_2 : ∀ (y1 : Int32) (tL : zOS), zJ X 2 res (kc_2 (y1, tL)) 2 [(0, (.ref (qL 0))), (1, (.int y1))] [] [(0, qL, tL)]) (x1 : Int32) (sL : zOS) : zJ X 2 res (bX0_openNode_2 F kc_2 x1 sL) 2 [(0, (.ref (qL 0))), (1, (.int x1))] [] [(0, qL, sL)] := by
  unfold bX0_openNode_2
  refine z_iload_n (pc := 2) 1 rfl rfl C dX0_openNode_2 ?_
  refine z_iconst (pc := 3) (3 : Int32) (by decide) C dX0_openNode_3 ?_
  refine z_icmp_ge (pc := 4) 25 C dX0_openNode_4 (by decide) ?_ ?_
  · refine z_aload_n (pc := 25) 0 rfl rfl C dX0_openNode_25 ?_
    refine z_dup (pc := 26) rfl C dX0_openNode_26 ?_
    refine z_getI (pc := 27) 0 13 C dX0_openNode_27 rfl (by decide) (by decide) rfl zw_160 ?_
    refine z_iconst (pc := 30) (1 : Int32) (by decide) C dX0_openNode_30 ?_
    refine z_iadd (pc := 31) C dX0_openNode_31 ?_
    refine z_putI (pc := 32) 0 13 C dX0_openNode_32 rfl (by decide) (by decide) rfl zw_160 rfl rfl rfl [(0, qL, (zsF sL 13 ((zF sL 13) + (1 : Int32))))] rfl ?_
    refine z_letc (fun z9 => [(0, qL, z9)]) (fun sL_1 => ?_)
    exact z_return (pc := 35) C hR dX0_openNode_35 (fun h => by subst h; exact ⟨rfl, rfl⟩)
  · refine z_aload_n (pc := 7) 0 rfl rfl C dX0_openNode_7 ?_
    refine z_getR (pc := 8) 0 5 6 C dX0_openNode_8 rfl (by decide) (by decide) rfl zw_148 ?_
    refine z_iload_n (pc := 11) 1 rfl rfl C dX0_openNode_11 ?_
    refine z_aal (kd := 4) (pc := 12) 0 C dX0_openNode_12 rfl (by unfold zAr; decide) (by decide) (fun hi_2 => ?_)
    refine z_aload_n (pc := 13) 0 rfl rfl C dX0_openNode_13 ?_
    refine z_getI (pc := 14) 0 13 C dX0_openNode_14 rfl (by decide) (by decide) rfl zw_160 ?_
    refine z_lconst (pc := 17) (0 : Int64) (by decide) C dX0_openNode_17 ?_
    refine z_last (pc := 18) 0 C dX0_openNode_18 rfl (zAr_w hi_2) [(0, qL, (zsL sL (zbs 0 + x1.toNatClampNeg) (vp_updL (zL sL (zbs 0 + x1.toNatClampNeg)) (zF sL 13).toNatClampNeg (0 : Int64))))] rfl ?_
    refine z_letc (fun z9 => [(0, qL, z9)]) (fun sL_3 => ?_)
    refine z_iinc (pc := 19) (x1 + 1) 1 rfl rfl [(0, (.ref (qL 0))), (1, (.int (x1 + 1)))] [1, 0] (by decide) rfl C dX0_openNode_19 ?_
    refine z_goto (pc := 22) 2 C dX0_openNode_22 (by decide) ?_
    exact hk_2 _ _
def fX0_openNode (F : Nat) (sL : zOS) : Option (zOS) := (zit (P := Int32 × zOS) (R := zOS) (fun kc9 p9 => bX0_openNode_2 F kc9 p9.1 p9.2) F ((0 : Int32), sL))
set_option maxRecDepth 20000 in
theorem wX0_openNode {X : zCx} {res : zOS} {F : Nat} {qL : Nat → Nat} {sL : zOS} (C : zC X RX0 cX0_openNode 2 0 0) (hR : zR X none none [(0, qL, res)])  : zJ X 2 res (fX0_openNode F sL) 0 [(0, (.ref (qL 0)))] [] [(0, qL, sL)] := by
  unfold fX0_openNode
  refine z_iconst (pc := 0) (0 : Int32) (by decide) C dX0_openNode_0 ?_
  refine z_istore_n (pc := 1) [(0, (.ref (qL 0))), (1, (.int (0 : Int32)))] [1, 0] (by decide) rfl rfl C dX0_openNode_1 ?_
  show zJ X 2 res _ 2 [(0, (.ref (qL 0))), (1, (.int (0 : Int32)))] [] [(0, qL, sL)]
  exact zit_J (P := Int32 × zOS) (B := (fun kc9 p9 => bX0_openNode_2 F kc9 p9.1 p9.2)) (fun p9 => [(0, (.ref (qL 0))), (1, (.int p9.1))]) (fun p9 => [(0, qL, p9.2)]) (fun kc9 hk9 p9 => vX0_openNode_2 C hR   (fun a0 a1 => hk9 (a0, a1)) p9.1 p9.2) F _
theorem mX0_openNode {F : Nat} {qL : Nat → Nat} {sL : zOS} {res : zOS}  (hf : fX0_openNode F sL = some res) : zM yX0_openNode cX0_openNode 2 none 0 0 [(.ref (qL 0))] [(0, qL, sL)] none [(0, qL, res)] := zM_of (by decide +kernel) (Nat.le_of_ble_eq_true rfl) (fun X C hR => wX0_openNode (F := F) C hR  hf)
theorem dX0_numberNodes_0 : decode cX0_numberNodes 0 = .ok (.aload_n 0, 1) := by decide +kernel
theorem dX0_numberNodes_1 : decode cX0_numberNodes 1 = .ok (.iconst 0, 1) := by decide +kernel
theorem dX0_numberNodes_2 : decode cX0_numberNodes 2 = .ok (.putfield 55, 3) := by decide +kernel
theorem dX0_numberNodes_5 : decode cX0_numberNodes 5 = .ok (.iconst 0, 1) := by decide +kernel
theorem dX0_numberNodes_6 : decode cX0_numberNodes 6 = .ok (.istore_n 1, 1) := by decide +kernel
theorem dX0_numberNodes_7 : decode cX0_numberNodes 7 = .ok (.iload_n 1, 1) := by decide +kernel
theorem dX0_numberNodes_8 : decode cX0_numberNodes 8 = .ok (.aload_n 0, 1) := by decide +kernel
theorem dX0_numberNodes_9 : decode cX0_numberNodes 9 = .ok (.getfield 51, 3) := by decide +kernel
theorem dX0_numberNodes_12 : decode cX0_numberNodes 12 = .ok (.if_icmp .ge 79, 3) := by decide +kernel
theorem dX0_numberNodes_15 : decode cX0_numberNodes 15 = .ok (.aload_n 0, 1) := by decide +kernel
theorem dX0_numberNodes_16 : decode cX0_numberNodes 16 = .ok (.getfield 22, 3) := by decide +kernel
theorem dX0_numberNodes_19 : decode cX0_numberNodes 19 = .ok (.iload_n 1, 1) := by decide +kernel
theorem dX0_numberNodes_20 : decode cX0_numberNodes 20 = .ok (.iaload, 1) := by decide +kernel
theorem dX0_numberNodes_21 : decode cX0_numberNodes 21 = .ok (.istore_n 2, 1) := by decide +kernel
theorem dX0_numberNodes_22 : decode cX0_numberNodes 22 = .ok (.iload_n 2, 1) := by decide +kernel
theorem dX0_numberNodes_23 : decode cX0_numberNodes 23 = .ok (.iload_n 1, 1) := by decide +kernel
theorem dX0_numberNodes_24 : decode cX0_numberNodes 24 = .ok (.if_icmp .ne 22, 3) := by decide +kernel
theorem dX0_numberNodes_27 : decode cX0_numberNodes 27 = .ok (.aload_n 0, 1) := by decide +kernel
theorem dX0_numberNodes_28 : decode cX0_numberNodes 28 = .ok (.invokevirtual 160, 3) := by decide +kernel
theorem dX0_numberNodes_31 : decode cX0_numberNodes 31 = .ok (.aload_n 0, 1) := by decide +kernel
theorem dX0_numberNodes_32 : decode cX0_numberNodes 32 = .ok (.getfield 25, 3) := by decide +kernel
theorem dX0_numberNodes_35 : decode cX0_numberNodes 35 = .ok (.iload_n 1, 1) := by decide +kernel
theorem dX0_numberNodes_36 : decode cX0_numberNodes 36 = .ok (.aload_n 0, 1) := by decide +kernel
theorem dX0_numberNodes_37 : decode cX0_numberNodes 37 = .ok (.getfield 55, 3) := by decide +kernel
theorem dX0_numberNodes_40 : decode cX0_numberNodes 40 = .ok (.iconst 1, 1) := by decide +kernel
theorem dX0_numberNodes_41 : decode cX0_numberNodes 41 = .ok (.isub, 1) := by decide +kernel
theorem dX0_numberNodes_42 : decode cX0_numberNodes 42 = .ok (.iastore, 1) := by decide +kernel
theorem dX0_numberNodes_43 : decode cX0_numberNodes 43 = .ok (.goto 15, 3) := by decide +kernel
theorem dX0_numberNodes_46 : decode cX0_numberNodes 46 = .ok (.aload_n 0, 1) := by decide +kernel
theorem dX0_numberNodes_47 : decode cX0_numberNodes 47 = .ok (.getfield 25, 3) := by decide +kernel
theorem dX0_numberNodes_50 : decode cX0_numberNodes 50 = .ok (.iload_n 1, 1) := by decide +kernel
theorem dX0_numberNodes_51 : decode cX0_numberNodes 51 = .ok (.aload_n 0, 1) := by decide +kernel
theorem dX0_numberNodes_52 : decode cX0_numberNodes 52 = .ok (.getfield 25, 3) := by decide +kernel
theorem dX0_numberNodes_55 : decode cX0_numberNodes 55 = .ok (.iload_n 2, 1) := by decide +kernel
theorem dX0_numberNodes_56 : decode cX0_numberNodes 56 = .ok (.iaload, 1) := by decide +kernel
theorem dX0_numberNodes_57 : decode cX0_numberNodes 57 = .ok (.iastore, 1) := by decide +kernel
theorem dX0_numberNodes_58 : decode cX0_numberNodes 58 = .ok (.aload_n 0, 1) := by decide +kernel
theorem dX0_numberNodes_59 : decode cX0_numberNodes 59 = .ok (.getfield 30, 3) := by decide +kernel
theorem dX0_numberNodes_62 : decode cX0_numberNodes 62 = .ok (.aload_n 0, 1) := by decide +kernel
theorem dX0_numberNodes_63 : decode cX0_numberNodes 63 = .ok (.getfield 18, 3) := by decide +kernel
theorem dX0_numberNodes_66 : decode cX0_numberNodes 66 = .ok (.iload_n 1, 1) := by decide +kernel
theorem dX0_numberNodes_67 : decode cX0_numberNodes 67 = .ok (.iaload, 1) := by decide +kernel
theorem dX0_numberNodes_68 : decode cX0_numberNodes 68 = .ok (.aaload, 1) := by decide +kernel
theorem dX0_numberNodes_69 : decode cX0_numberNodes 69 = .ok (.aload_n 0, 1) := by decide +kernel
theorem dX0_numberNodes_70 : decode cX0_numberNodes 70 = .ok (.getfield 25, 3) := by decide +kernel
theorem dX0_numberNodes_73 : decode cX0_numberNodes 73 = .ok (.iload_n 1, 1) := by decide +kernel
theorem dX0_numberNodes_74 : decode cX0_numberNodes 74 = .ok (.iaload, 1) := by decide +kernel
theorem dX0_numberNodes_75 : decode cX0_numberNodes 75 = .ok (.dup2, 1) := by decide +kernel
theorem dX0_numberNodes_76 : decode cX0_numberNodes 76 = .ok (.laload, 1) := by decide +kernel
theorem dX0_numberNodes_77 : decode cX0_numberNodes 77 = .ok (.aload_n 0, 1) := by decide +kernel
theorem dX0_numberNodes_78 : decode cX0_numberNodes 78 = .ok (.getfield 15, 3) := by decide +kernel
theorem dX0_numberNodes_81 : decode cX0_numberNodes 81 = .ok (.iload_n 1, 1) := by decide +kernel
theorem dX0_numberNodes_82 : decode cX0_numberNodes 82 = .ok (.laload, 1) := by decide +kernel
theorem dX0_numberNodes_83 : decode cX0_numberNodes 83 = .ok (.lor, 1) := by decide +kernel
theorem dX0_numberNodes_84 : decode cX0_numberNodes 84 = .ok (.lastore, 1) := by decide +kernel
theorem dX0_numberNodes_85 : decode cX0_numberNodes 85 = .ok (.iinc 1 1, 3) := by decide +kernel
theorem dX0_numberNodes_88 : decode cX0_numberNodes 88 = .ok (.goto (-81), 3) := by decide +kernel
theorem dX0_numberNodes_91 : decode cX0_numberNodes 91 = .ok (.return_, 1) := by decide +kernel
def jX0_numberNodes_58 (F : Nat) (kc_7 : (Int32 × zOS) → Option (zOS)) (x1 : Int32) (sL : zOS) : Option (zOS) := (zchk x1 96 (zchk (zI sL 3 x1.toNatClampNeg) 3 (zchk x1 96 (zchk (zI sL 5 x1.toNatClampNeg) 96 (zchk x1 96 (zchk (zI sL 5 x1.toNatClampNeg) 96 (zlet (zsL sL (zbs 0 + (zI sL 3 x1.toNatClampNeg).toNatClampNeg) (vp_updL (zL sL (zbs 0 + (zI sL 3 x1.toNatClampNeg).toNatClampNeg)) (zI sL 5 x1.toNatClampNeg).toNatClampNeg ((zL sL (zbs 0 + (zI sL 3 x1.toNatClampNeg).toNatClampNeg) (zI sL 5 x1.toNatClampNeg).toNatClampNeg) ||| (zL sL 2 x1.toNatClampNeg)))) (fun sL_7 : zOS => (kc_7 ((x1 + 1), sL_7))))))))))
set_option maxRecDepth 20000 in
theorem wX0_numberNodes_58 {X : zCx} {res : zOS} {F : Nat} {qL : Nat → Nat} {kc_7 : (Int32 × zOS) → Option (zOS)} (C : zC X RX0 cX0_numberNodes 3 1 21) (hR : zR X none none [(0, qL, res)]) (hk_7 : ∀ (y1 : Int32) (tL : zOS), zJ X 3 res (kc_7 (y1, tL)) 7 [(0, (.ref (qL 0))), (1, (.int y1))] [] [(0, qL, tL)]) (x1 : Int32) (sL : zOS) : zJ X 3 res (jX0_numberNodes_58 F kc_7 x1 sL) 58 [(0, (.ref (qL 0))), (1, (.int x1))] [] [(0, qL, sL)] := by
  unfold jX0_numberNodes_58
  refine z_aload_n (pc := 58) 0 rfl rfl C dX0_numberNodes_58 ?_
  refine z_getR (pc := 59) 0 5 6 C dX0_numberNodes_59 rfl (by decide) (by decide) rfl zw_148 ?_
  refine z_aload_n (pc := 62) 0 rfl rfl C dX0_numberNodes_62 ?_
  refine z_getR (pc := 63) 0 2 3 C dX0_numberNodes_63 rfl (by decide) (by decide) rfl zw_145 ?_
  refine z_iload_n (pc := 66) 1 rfl rfl C dX0_numberNodes_66 ?_
  refine z_iald (pc := 67) 0 C dX0_numberNodes_67 rfl (by unfold zAr; decide) ?_
  refine z_aal (kd := 4) (pc := 68) 0 C dX0_numberNodes_68 rfl (by unfold zAr; decide) (by decide) (fun hi_6 => ?_)
  refine z_aload_n (pc := 69) 0 rfl rfl C dX0_numberNodes_69 ?_
  refine z_getR (pc := 70) 0 4 5 C dX0_numberNodes_70 rfl (by decide) (by decide) rfl zw_147 ?_
  refine z_iload_n (pc := 73) 1 rfl rfl C dX0_numberNodes_73 ?_
  refine z_iald (pc := 74) 0 C dX0_numberNodes_74 rfl (by unfold zAr; decide) ?_
  refine z_dup2 (pc := 75) rfl rfl C dX0_numberNodes_75 ?_
  refine z_lald (pc := 76) 0 C dX0_numberNodes_76 rfl (zAr_w hi_6) ?_
  refine z_aload_n (pc := 77) 0 rfl rfl C dX0_numberNodes_77 ?_
  refine z_getR (pc := 78) 0 1 2 C dX0_numberNodes_78 rfl (by decide) (by decide) rfl zw_144 ?_
  refine z_iload_n (pc := 81) 1 rfl rfl C dX0_numberNodes_81 ?_
  refine z_lald (pc := 82) 0 C dX0_numberNodes_82 rfl (by unfold zAr; decide) ?_
  refine z_lor (pc := 83) C dX0_numberNodes_83 ?_
  refine z_last (pc := 84) 0 C dX0_numberNodes_84 rfl (zAr_w hi_6) [(0, qL, (zsL sL (zbs 0 + (zI sL 3 x1.toNatClampNeg).toNatClampNeg) (vp_updL (zL sL (zbs 0 + (zI sL 3 x1.toNatClampNeg).toNatClampNeg)) (zI sL 5 x1.toNatClampNeg).toNatClampNeg ((zL sL (zbs 0 + (zI sL 3 x1.toNatClampNeg).toNatClampNeg) (zI sL 5 x1.toNatClampNeg).toNatClampNeg) ||| (zL sL 2 x1.toNatClampNeg)))))] rfl ?_
  refine z_letc (fun z9 => [(0, qL, z9)]) (fun sL_7 => ?_)
  refine z_iinc (pc := 85) (x1 + 1) 1 rfl rfl [(0, (.ref (qL 0))), (1, (.int (x1 + 1)))] [1, 0] (by decide) rfl C dX0_numberNodes_85 ?_
  refine z_goto (pc := 88) 7 C dX0_numberNodes_88 (by decide) ?_
  exact hk_7 _ _
def bX0_numberNodes_7 (F : Nat) (kc_7 : (Int32 × zOS) → Option (zOS)) (x1 : Int32) (sL : zOS) : Option (zOS) := (if (zF sL 12) ≤ x1 then (some (sL)) else (zchk x1 96 (zlet (zI sL 4 x1.toNatClampNeg) (fun x2_2 : Int32 => (if x2_2 = x1 then (Option.bind (fX0_openNode F sL) (fun r_3 : zOS => (zchk x1 96 (zlet (zsI r_3 5 (upd (zI r_3 5) x1.toNatClampNeg ((zF r_3 13) - (1 : Int32)))) (fun sL_5 : zOS => (jX0_numberNodes_58 F kc_7 x1 sL_5)))))) else (zchk x2_2 96 (zchk x1 96 (zlet (zsI sL 5 (upd (zI sL 5) x1.toNatClampNeg (zI sL 5 x2_2.toNatClampNeg))) (fun sL_8 : zOS => (jX0_numberNodes_58 F kc_7 x1 sL_8))))))))))
set_option maxRecDepth 20000 in
theorem vX0_numberNodes_7 {X : zCx} {res : zOS} {F : Nat} {qL : Nat → Nat} {kc_7 : (Int32 × zOS) → Option (zOS)} (C : zC X RX0 cX0_numberNodes 3 1 21) (hR : zR X none none [(0, qL, res)]) (hk_7 : ∀ (y1 : Int32) (tL : zOS), zJ X 3 res (kc_7 (y1, tL)) 7 [(0, (.ref (qL 0))), (1, (.int y1))] [] [(0, qL, tL)]) (x1 : Int32) (sL : zOS) : zJ X 3 res (bX0_numberNodes_7 F kc_7 x1 sL) 7 [(0, (.ref (qL 0))), (1, (.int x1))] [] [(0, qL, sL)] := by
  unfold bX0_numberNodes_7
  refine z_iload_n (pc := 7) 1 rfl rfl C dX0_numberNodes_7 ?_
  refine z_aload_n (pc := 8) 0 rfl rfl C dX0_numberNodes_8 ?_
  refine z_getI (pc := 9) 0 12 C dX0_numberNodes_9 rfl (by decide) (by decide) rfl zw_158 ?_
  refine z_icmp_ge (pc := 12) 91 C dX0_numberNodes_12 (by decide) ?_ ?_
  · exact z_return (pc := 91) C hR dX0_numberNodes_91 (fun h => by subst h; exact ⟨rfl, rfl⟩)
  · refine z_aload_n (pc := 15) 0 rfl rfl C dX0_numberNodes_15 ?_
    refine z_getR (pc := 16) 0 3 4 C dX0_numberNodes_16 rfl (by decide) (by decide) rfl zw_146 ?_
    refine z_iload_n (pc := 19) 1 rfl rfl C dX0_numberNodes_19 ?_
    refine z_iald (pc := 20) 0 C dX0_numberNodes_20 rfl (by unfold zAr; decide) ?_
    refine z_leti (fun x2_2 => ?_)
    refine z_istore_n (pc := 21) [(0, (.ref (qL 0))), (1, (.int x1)), (2, (.int x2_2))] [1, 2, 0] (by decide) rfl rfl C dX0_numberNodes_21 ?_
    refine z_iload_n (pc := 22) 2 rfl rfl C dX0_numberNodes_22 ?_
    refine z_iload_n (pc := 23) 1 rfl rfl C dX0_numberNodes_23 ?_
    refine z_icmp_ne (pc := 24) 46 C dX0_numberNodes_24 (by decide) ?_ ?_
    · refine z_aload_n (pc := 27) 0 rfl rfl C dX0_numberNodes_27 ?_
      refine z_callV (pc := 28) (rf' := 0) (rl' := 0) (fX0_openNode F sL) [] [] [(0, qL, sL)] (fun r_3 => none) (fun r_3 => [(0, qL, r_3)]) [] (fun r_3 => [(0, qL, r_3)]) C dX0_numberNodes_28 zy_X0_openNode zw_451 (fun _ hr9 => mX0_openNode  hr9) (by decide) rfl rfl (by decide) rfl (Nat.le_of_ble_eq_true rfl) (List.Perm.refl _) (fun _ => List.Perm.refl _) rfl (fun r_3 hr_4 => ?_)
      show zJ X 3 res _ 31 [(0, (.ref (qL 0))), (1, (.int x1)), (2, (.int x2_2))] [] [(0, qL, r_3)]
      refine z_aload_n (pc := 31) 0 rfl rfl C dX0_numberNodes_31 ?_
      refine z_getR (pc := 32) 0 4 5 C dX0_numberNodes_32 rfl (by decide) (by decide) rfl zw_147 ?_
      refine z_iload_n (pc := 35) 1 rfl rfl C dX0_numberNodes_35 ?_
      refine z_aload_n (pc := 36) 0 rfl rfl C dX0_numberNodes_36 ?_
      refine z_getI (pc := 37) 0 13 C dX0_numberNodes_37 rfl (by decide) (by decide) rfl zw_160 ?_
      refine z_iconst (pc := 40) (1 : Int32) (by decide) C dX0_numberNodes_40 ?_
      refine z_isub (pc := 41) C dX0_numberNodes_41 ?_
      refine z_iast (pc := 42) 0 C dX0_numberNodes_42 rfl (by unfold zAr; decide) [(0, qL, (zsI r_3 5 (upd (zI r_3 5) x1.toNatClampNeg ((zF r_3 13) - (1 : Int32)))))] rfl ?_
      refine z_letc (fun z9 => [(0, qL, z9)]) (fun sL_5 => ?_)
      refine z_goto (pc := 43) 58 C dX0_numberNodes_43 (by decide) ?_
      refine z_lv [(0, (.ref (qL 0))), (1, (.int x1))] [0, 1] rfl ?_
      exact wX0_numberNodes_58 C hR  hk_7 _ _
    · refine z_aload_n (pc := 46) 0 rfl rfl C dX0_numberNodes_46 ?_
      refine z_getR (pc := 47) 0 4 5 C dX0_numberNodes_47 rfl (by decide) (by decide) rfl zw_147 ?_
      refine z_iload_n (pc := 50) 1 rfl rfl C dX0_numberNodes_50 ?_
      refine z_aload_n (pc := 51) 0 rfl rfl C dX0_numberNodes_51 ?_
      refine z_getR (pc := 52) 0 4 5 C dX0_numberNodes_52 rfl (by decide) (by decide) rfl zw_147 ?_
      refine z_iload_n (pc := 55) 2 rfl rfl C dX0_numberNodes_55 ?_
      refine z_iald (pc := 56) 0 C dX0_numberNodes_56 rfl (by unfold zAr; decide) ?_
      refine z_iast (pc := 57) 0 C dX0_numberNodes_57 rfl (by unfold zAr; decide) [(0, qL, (zsI sL 5 (upd (zI sL 5) x1.toNatClampNeg (zI sL 5 x2_2.toNatClampNeg))))] rfl ?_
      refine z_letc (fun z9 => [(0, qL, z9)]) (fun sL_8 => ?_)
      refine z_lv [(0, (.ref (qL 0))), (1, (.int x1))] [0, 1] rfl ?_
      exact wX0_numberNodes_58 C hR  hk_7 _ _
def fX0_numberNodes (F : Nat) (sL : zOS) : Option (zOS) := (zlet (zsF sL 13 (0 : Int32)) (fun sL_1 : zOS => (zit (P := Int32 × zOS) (R := zOS) (fun kc9 p9 => bX0_numberNodes_7 F kc9 p9.1 p9.2) F ((0 : Int32), sL_1))))
set_option maxRecDepth 20000 in
theorem wX0_numberNodes {X : zCx} {res : zOS} {F : Nat} {qL : Nat → Nat} {sL : zOS} (C : zC X RX0 cX0_numberNodes 3 1 21) (hR : zR X none none [(0, qL, res)])  : zJ X 3 res (fX0_numberNodes F sL) 0 [(0, (.ref (qL 0)))] [] [(0, qL, sL)] := by
  unfold fX0_numberNodes
  refine z_aload_n (pc := 0) 0 rfl rfl C dX0_numberNodes_0 ?_
  refine z_iconst (pc := 1) (0 : Int32) (by decide) C dX0_numberNodes_1 ?_
  refine z_putI (pc := 2) 0 13 C dX0_numberNodes_2 rfl (by decide) (by decide) rfl zw_160 rfl rfl rfl [(0, qL, (zsF sL 13 (0 : Int32)))] rfl ?_
  refine z_letc (fun z9 => [(0, qL, z9)]) (fun sL_1 => ?_)
  refine z_iconst (pc := 5) (0 : Int32) (by decide) C dX0_numberNodes_5 ?_
  refine z_istore_n (pc := 6) [(0, (.ref (qL 0))), (1, (.int (0 : Int32)))] [1, 0] (by decide) rfl rfl C dX0_numberNodes_6 ?_
  show zJ X 3 res _ 7 [(0, (.ref (qL 0))), (1, (.int (0 : Int32)))] [] [(0, qL, sL_1)]
  exact zit_J (P := Int32 × zOS) (B := (fun kc9 p9 => bX0_numberNodes_7 F kc9 p9.1 p9.2)) (fun p9 => [(0, (.ref (qL 0))), (1, (.int p9.1))]) (fun p9 => [(0, qL, p9.2)]) (fun kc9 hk9 p9 => vX0_numberNodes_7 C hR   (fun a0 a1 => hk9 (a0, a1)) p9.1 p9.2) F _
theorem mX0_numberNodes {F : Nat} {qL : Nat → Nat} {sL : zOS} {res : zOS}  (hf : fX0_numberNodes F sL = some res) : zM yX0_numberNodes cX0_numberNodes 3 none 1 21 [(.ref (qL 0))] [(0, qL, sL)] none [(0, qL, res)] := zM_of (by decide +kernel) (Nat.le_of_ble_eq_true rfl) (fun X C hR => wX0_numberNodes (F := F) C hR  hf)
theorem dX0_findSides_0 : decode cX0_findSides 0 = .ok (.aload_n 0, 1) := by decide +kernel
theorem dX0_findSides_1 : decode cX0_findSides 1 = .ok (.getfield 36, 3) := by decide +kernel
theorem dX0_findSides_4 : decode cX0_findSides 4 = .ok (.iload_n 1, 1) := by decide +kernel
theorem dX0_findSides_5 : decode cX0_findSides 5 = .ok (.laload, 1) := by decide +kernel
theorem dX0_findSides_6 : decode cX0_findSides 6 = .ok (.invokestatic 166, 3) := by decide +kernel
theorem dX0_findSides_9 : decode cX0_findSides 9 = .ok (.lstore_n 2, 1) := by decide +kernel
theorem dX0_findSides_10 : decode cX0_findSides 10 = .ok (.iconst 0, 1) := by decide +kernel
theorem dX0_findSides_11 : decode cX0_findSides 11 = .ok (.istore 4, 2) := by decide +kernel
theorem dX0_findSides_13 : decode cX0_findSides 13 = .ok (.iconst (-1), 1) := by decide +kernel
theorem dX0_findSides_14 : decode cX0_findSides 14 = .ok (.istore 5, 2) := by decide +kernel
theorem dX0_findSides_16 : decode cX0_findSides 16 = .ok (.iconst (-1), 1) := by decide +kernel
theorem dX0_findSides_17 : decode cX0_findSides 17 = .ok (.istore 6, 2) := by decide +kernel
theorem dX0_findSides_19 : decode cX0_findSides 19 = .ok (.iconst 0, 1) := by decide +kernel
theorem dX0_findSides_20 : decode cX0_findSides 20 = .ok (.istore 7, 2) := by decide +kernel
theorem dX0_findSides_22 : decode cX0_findSides 22 = .ok (.iload 7, 2) := by decide +kernel
theorem dX0_findSides_24 : decode cX0_findSides 24 = .ok (.aload_n 0, 1) := by decide +kernel
theorem dX0_findSides_25 : decode cX0_findSides 25 = .ok (.getfield 55, 3) := by decide +kernel
theorem dX0_findSides_28 : decode cX0_findSides 28 = .ok (.if_icmp .ge 46, 3) := by decide +kernel
theorem dX0_findSides_31 : decode cX0_findSides 31 = .ok (.aload_n 0, 1) := by decide +kernel
theorem dX0_findSides_32 : decode cX0_findSides 32 = .ok (.getfield 30, 3) := by decide +kernel
theorem dX0_findSides_35 : decode cX0_findSides 35 = .ok (.iconst 0, 1) := by decide +kernel
theorem dX0_findSides_36 : decode cX0_findSides 36 = .ok (.aaload, 1) := by decide +kernel
theorem dX0_findSides_37 : decode cX0_findSides 37 = .ok (.iload 7, 2) := by decide +kernel
theorem dX0_findSides_39 : decode cX0_findSides 39 = .ok (.laload, 1) := by decide +kernel
theorem dX0_findSides_40 : decode cX0_findSides 40 = .ok (.lload_n 2, 1) := by decide +kernel
theorem dX0_findSides_41 : decode cX0_findSides 41 = .ok (.land, 1) := by decide +kernel
theorem dX0_findSides_42 : decode cX0_findSides 42 = .ok (.lconst 0, 1) := by decide +kernel
theorem dX0_findSides_43 : decode cX0_findSides 43 = .ok (.lcmp, 1) := by decide +kernel
theorem dX0_findSides_44 : decode cX0_findSides 44 = .ok (.ifCond .eq 24, 3) := by decide +kernel
theorem dX0_findSides_47 : decode cX0_findSides 47 = .ok (.iload 4, 2) := by decide +kernel
theorem dX0_findSides_49 : decode cX0_findSides 49 = .ok (.ifCond .ne 8, 3) := by decide +kernel
theorem dX0_findSides_52 : decode cX0_findSides 52 = .ok (.iload 7, 2) := by decide +kernel
theorem dX0_findSides_54 : decode cX0_findSides 54 = .ok (.goto 5, 3) := by decide +kernel
theorem dX0_findSides_57 : decode cX0_findSides 57 = .ok (.iload 5, 2) := by decide +kernel
theorem dX0_findSides_59 : decode cX0_findSides 59 = .ok (.istore 5, 2) := by decide +kernel
theorem dX0_findSides_61 : decode cX0_findSides 61 = .ok (.iload 7, 2) := by decide +kernel
theorem dX0_findSides_63 : decode cX0_findSides 63 = .ok (.istore 6, 2) := by decide +kernel
theorem dX0_findSides_65 : decode cX0_findSides 65 = .ok (.iinc 4 1, 3) := by decide +kernel
theorem dX0_findSides_68 : decode cX0_findSides 68 = .ok (.iinc 7 1, 3) := by decide +kernel
theorem dX0_findSides_71 : decode cX0_findSides 71 = .ok (.goto (-49), 3) := by decide +kernel
theorem dX0_findSides_74 : decode cX0_findSides 74 = .ok (.aload_n 0, 1) := by decide +kernel
theorem dX0_findSides_75 : decode cX0_findSides 75 = .ok (.getfield 48, 3) := by decide +kernel
theorem dX0_findSides_78 : decode cX0_findSides 78 = .ok (.iload_n 1, 1) := by decide +kernel
theorem dX0_findSides_79 : decode cX0_findSides 79 = .ok (.iload 4, 2) := by decide +kernel
theorem dX0_findSides_81 : decode cX0_findSides 81 = .ok (.iastore, 1) := by decide +kernel
theorem dX0_findSides_82 : decode cX0_findSides 82 = .ok (.aload_n 0, 1) := by decide +kernel
theorem dX0_findSides_83 : decode cX0_findSides 83 = .ok (.iload_n 1, 1) := by decide +kernel
theorem dX0_findSides_84 : decode cX0_findSides 84 = .ok (.invokevirtual 169, 3) := by decide +kernel
theorem dX0_findSides_87 : decode cX0_findSides 87 = .ok (.istore 7, 2) := by decide +kernel
theorem dX0_findSides_89 : decode cX0_findSides 89 = .ok (.aload_n 0, 1) := by decide +kernel
theorem dX0_findSides_90 : decode cX0_findSides 90 = .ok (.getfield 42, 3) := by decide +kernel
theorem dX0_findSides_93 : decode cX0_findSides 93 = .ok (.iload_n 1, 1) := by decide +kernel
theorem dX0_findSides_94 : decode cX0_findSides 94 = .ok (.iload 7, 2) := by decide +kernel
theorem dX0_findSides_96 : decode cX0_findSides 96 = .ok (.ifCond .eq 8, 3) := by decide +kernel
theorem dX0_findSides_99 : decode cX0_findSides 99 = .ok (.iload 5, 2) := by decide +kernel
theorem dX0_findSides_101 : decode cX0_findSides 101 = .ok (.goto 4, 3) := by decide +kernel
theorem dX0_findSides_104 : decode cX0_findSides 104 = .ok (.iconst (-1), 1) := by decide +kernel
theorem dX0_findSides_105 : decode cX0_findSides 105 = .ok (.iastore, 1) := by decide +kernel
theorem dX0_findSides_106 : decode cX0_findSides 106 = .ok (.aload_n 0, 1) := by decide +kernel
theorem dX0_findSides_107 : decode cX0_findSides 107 = .ok (.getfield 45, 3) := by decide +kernel
theorem dX0_findSides_110 : decode cX0_findSides 110 = .ok (.iload_n 1, 1) := by decide +kernel
theorem dX0_findSides_111 : decode cX0_findSides 111 = .ok (.iload 7, 2) := by decide +kernel
theorem dX0_findSides_113 : decode cX0_findSides 113 = .ok (.ifCond .eq 8, 3) := by decide +kernel
theorem dX0_findSides_116 : decode cX0_findSides 116 = .ok (.iload 6, 2) := by decide +kernel
theorem dX0_findSides_118 : decode cX0_findSides 118 = .ok (.goto 4, 3) := by decide +kernel
theorem dX0_findSides_121 : decode cX0_findSides 121 = .ok (.iconst (-1), 1) := by decide +kernel
theorem dX0_findSides_122 : decode cX0_findSides 122 = .ok (.iastore, 1) := by decide +kernel
theorem dX0_findSides_123 : decode cX0_findSides 123 = .ok (.aload_n 0, 1) := by decide +kernel
theorem dX0_findSides_124 : decode cX0_findSides 124 = .ok (.dup, 1) := by decide +kernel
theorem dX0_findSides_125 : decode cX0_findSides 125 = .ok (.getfield 61, 3) := by decide +kernel
theorem dX0_findSides_128 : decode cX0_findSides 128 = .ok (.iload 7, 2) := by decide +kernel
theorem dX0_findSides_130 : decode cX0_findSides 130 = .ok (.ifCond .eq 7, 3) := by decide +kernel
theorem dX0_findSides_133 : decode cX0_findSides 133 = .ok (.iconst 0, 1) := by decide +kernel
theorem dX0_findSides_134 : decode cX0_findSides 134 = .ok (.goto 4, 3) := by decide +kernel
theorem dX0_findSides_137 : decode cX0_findSides 137 = .ok (.iconst 1, 1) := by decide +kernel
theorem dX0_findSides_138 : decode cX0_findSides 138 = .ok (.iadd, 1) := by decide +kernel
theorem dX0_findSides_139 : decode cX0_findSides 139 = .ok (.putfield 61, 3) := by decide +kernel
theorem dX0_findSides_142 : decode cX0_findSides 142 = .ok (.return_, 1) := by decide +kernel
def jX0_findSides_138 (F : Nat) (v0 : Int32) (v1 : Int32) (sL : zOS) : Option (zOS) := (zlet (zsF sL 15 (v1 + v0)) (fun sL_8 : zOS => (some (sL_8))))
set_option maxRecDepth 20000 in
theorem wX0_findSides_138 {X : zCx} {res : zOS} {F : Nat} {qL : Nat → Nat} (C : zC X RX0 cX0_findSides 8 1 25) (hR : zR X none none [(0, qL, res)]) (sL : zOS) (v0 : Int32) (v1 : Int32) : zJ X 8 res (jX0_findSides_138 F v0 v1 sL) 138 [] [(.int v0), (.int v1), (.ref (qL 0))] [(0, qL, sL)] := by
  unfold jX0_findSides_138
  refine z_iadd (pc := 138) C dX0_findSides_138 ?_
  refine z_putI (pc := 139) 0 15 C dX0_findSides_139 rfl (by decide) (by decide) rfl zw_165 rfl rfl rfl [(0, qL, (zsF sL 15 (v1 + v0)))] rfl ?_
  refine z_letc (fun z9 => [(0, qL, z9)]) (fun sL_8 => ?_)
  exact z_return (pc := 142) C hR dX0_findSides_142 (fun h => by subst h; exact ⟨rfl, rfl⟩)
def jX0_findSides_122 (F : Nat) (x7 : Int32) (v0 : Int32) (v1 : Int32) (sL : zOS) : Option (zOS) := (zchk v1 32 (zlet (zsI sL 11 (upd (zI sL 11) v1.toNatClampNeg v0)) (fun sL_7 : zOS => (if x7 = 0 then (jX0_findSides_138 F (1 : Int32) (zF sL_7 15) sL_7) else (jX0_findSides_138 F (0 : Int32) (zF sL_7 15) sL_7)))))
set_option maxRecDepth 20000 in
theorem wX0_findSides_122 {X : zCx} {res : zOS} {F : Nat} {qL : Nat → Nat} (C : zC X RX0 cX0_findSides 8 1 25) (hR : zR X none none [(0, qL, res)]) (x7 : Int32) (sL : zOS) (v0 : Int32) (v1 : Int32) : zJ X 8 res (jX0_findSides_122 F x7 v0 v1 sL) 122 [(0, (.ref (qL 0))), (7, (.int x7))] [(.int v0), (.int v1), (.ref (qL 11))] [(0, qL, sL)] := by
  unfold jX0_findSides_122
  refine z_iast (pc := 122) 0 C dX0_findSides_122 rfl (by unfold zAr; decide) [(0, qL, (zsI sL 11 (upd (zI sL 11) v1.toNatClampNeg v0)))] rfl ?_
  refine z_letc (fun z9 => [(0, qL, z9)]) (fun sL_7 => ?_)
  refine z_aload_n (pc := 123) 0 rfl rfl C dX0_findSides_123 ?_
  refine z_dup (pc := 124) rfl C dX0_findSides_124 ?_
  refine z_getI (pc := 125) 0 15 C dX0_findSides_125 rfl (by decide) (by decide) rfl zw_165 ?_
  refine z_iload (pc := 128) 1 rfl C dX0_findSides_128 ?_
  refine z_if_eq (pc := 130) 137 C dX0_findSides_130 (by decide) ?_ ?_
  · refine z_iconst (pc := 137) (1 : Int32) (by decide) C dX0_findSides_137 ?_
    refine z_lv [] [] rfl ?_
    exact wX0_findSides_138 C hR   _ _ _
  · refine z_iconst (pc := 133) (0 : Int32) (by decide) C dX0_findSides_133 ?_
    refine z_goto (pc := 134) 138 C dX0_findSides_134 (by decide) ?_
    refine z_lv [] [] rfl ?_
    exact wX0_findSides_138 C hR   _ _ _
def jX0_findSides_105 (F : Nat) (x1 : Int32) (x6 : Int32) (x7 : Int32) (v0 : Int32) (v1 : Int32) (sL : zOS) : Option (zOS) := (zchk v1 32 (zlet (zsI sL 10 (upd (zI sL 10) v1.toNatClampNeg v0)) (fun sL_6 : zOS => (if x7 = 0 then (jX0_findSides_122 F x7 (-1 : Int32) x1 sL_6) else (jX0_findSides_122 F x7 x6 x1 sL_6)))))
set_option maxRecDepth 20000 in
theorem wX0_findSides_105 {X : zCx} {res : zOS} {F : Nat} {qL : Nat → Nat} (C : zC X RX0 cX0_findSides 8 1 25) (hR : zR X none none [(0, qL, res)]) (x1 : Int32) (x6 : Int32) (x7 : Int32) (sL : zOS) (v0 : Int32) (v1 : Int32) : zJ X 8 res (jX0_findSides_105 F x1 x6 x7 v0 v1 sL) 105 [(0, (.ref (qL 0))), (1, (.int x1)), (6, (.int x6)), (7, (.int x7))] [(.int v0), (.int v1), (.ref (qL 10))] [(0, qL, sL)] := by
  unfold jX0_findSides_105
  refine z_iast (pc := 105) 0 C dX0_findSides_105 rfl (by unfold zAr; decide) [(0, qL, (zsI sL 10 (upd (zI sL 10) v1.toNatClampNeg v0)))] rfl ?_
  refine z_letc (fun z9 => [(0, qL, z9)]) (fun sL_6 => ?_)
  refine z_aload_n (pc := 106) 0 rfl rfl C dX0_findSides_106 ?_
  refine z_getR (pc := 107) 0 10 11 C dX0_findSides_107 rfl (by decide) (by decide) rfl zw_155 ?_
  refine z_iload_n (pc := 110) 1 rfl rfl C dX0_findSides_110 ?_
  refine z_iload (pc := 111) 3 rfl C dX0_findSides_111 ?_
  refine z_if_eq (pc := 113) 121 C dX0_findSides_113 (by decide) ?_ ?_
  · refine z_iconst (pc := 121) (-1 : Int32) (by decide) C dX0_findSides_121 ?_
    refine z_lv [(0, (.ref (qL 0))), (7, (.int x7))] [0, 3] rfl ?_
    exact wX0_findSides_122 C hR   _ _ _ _
  · refine z_iload (pc := 116) 2 rfl C dX0_findSides_116 ?_
    refine z_goto (pc := 118) 122 C dX0_findSides_118 (by decide) ?_
    refine z_lv [(0, (.ref (qL 0))), (7, (.int x7))] [0, 3] rfl ?_
    exact wX0_findSides_122 C hR   _ _ _ _
def bX0_findSides_22 (F : Nat) (x1 : Int32) (x2 : Int64) (sL : zOS) (kc_22 : (Int32 × Int32 × Int32 × Int32) → Option (zOS)) (x4 : Int32) (x5 : Int32) (x6 : Int32) (x7 : Int32) : Option (zOS) := (if (zF sL 13) ≤ x7 then (zchk x1 32 (zlet (zsI sL 12 (upd (zI sL 12) x1.toNatClampNeg x4)) (fun sL_3 : zOS => (Option.bind (fX0_isWell x1 sL_3) (fun r_4 : Int32 => (if r_4 = 0 then (jX0_findSides_105 F x1 x6 r_4 (-1 : Int32) x1 sL_3) else (jX0_findSides_105 F x1 x6 r_4 x5 x1 sL_3))))))) else (zchk (0 : Int32) 3 (zchk x7 96 (if (lg_cmp ((zL sL (zbs 0 + (0 : Int32).toNatClampNeg) x7.toNatClampNeg) &&& x2) (0 : Int64)) = 0 then (kc_22 (x4, x5, x6, (x7 + 1))) else (if x4 = 0 then (kc_22 ((x4 + 1), x7, x7, (x7 + 1))) else (kc_22 ((x4 + 1), x5, x7, (x7 + 1))))))))
set_option maxRecDepth 20000 in
theorem vX0_findSides_22 {X : zCx} {res : zOS} {F : Nat} {qL : Nat → Nat} {sL : zOS} {x1 : Int32} {x2 : Int64} {kc_22 : (Int32 × Int32 × Int32 × Int32) → Option (zOS)} (C : zC X RX0 cX0_findSides 8 1 25) (hR : zR X none none [(0, qL, res)]) (hk_22 : ∀ (y4 : Int32) (y5 : Int32) (y6 : Int32) (y7 : Int32), zJ X 8 res (kc_22 (y4, y5, y6, y7)) 22 [(0, (.ref (qL 0))), (1, (.int x1)), (2, (.long x2)), (4, (.int y4)), (5, (.int y5)), (6, (.int y6)), (7, (.int y7))] [] [(0, qL, sL)]) (x4 : Int32) (x5 : Int32) (x6 : Int32) (x7 : Int32) : zJ X 8 res (bX0_findSides_22 F x1 x2 sL kc_22 x4 x5 x6 x7) 22 [(0, (.ref (qL 0))), (1, (.int x1)), (2, (.long x2)), (4, (.int x4)), (5, (.int x5)), (6, (.int x6)), (7, (.int x7))] [] [(0, qL, sL)] := by
  unfold bX0_findSides_22
  refine z_iload (pc := 22) 6 rfl C dX0_findSides_22 ?_
  refine z_aload_n (pc := 24) 0 rfl rfl C dX0_findSides_24 ?_
  refine z_getI (pc := 25) 0 13 C dX0_findSides_25 rfl (by decide) (by decide) rfl zw_160 ?_
  refine z_icmp_ge (pc := 28) 74 C dX0_findSides_28 (by decide) ?_ ?_
  · refine z_aload_n (pc := 74) 0 rfl rfl C dX0_findSides_74 ?_
    refine z_getR (pc := 75) 0 11 12 C dX0_findSides_75 rfl (by decide) (by decide) rfl zw_157 ?_
    refine z_iload_n (pc := 78) 1 rfl rfl C dX0_findSides_78 ?_
    refine z_iload (pc := 79) 3 rfl C dX0_findSides_79 ?_
    refine z_iast (pc := 81) 0 C dX0_findSides_81 rfl (by unfold zAr; decide) [(0, qL, (zsI sL 12 (upd (zI sL 12) x1.toNatClampNeg x4)))] rfl ?_
    refine z_letc (fun z9 => [(0, qL, z9)]) (fun sL_3 => ?_)
    refine z_aload_n (pc := 82) 0 rfl rfl C dX0_findSides_82 ?_
    refine z_iload_n (pc := 83) 1 rfl rfl C dX0_findSides_83 ?_
    refine z_callV (pc := 84) (rf' := 0) (rl' := 0) (fX0_isWell x1 sL_3) [(.int x1)] [] [(0, qL, sL_3)] (fun r_4 => (some (.int r_4))) (fun r_4 => [(0, qL, sL_3)]) [] (fun r_4 => [(0, qL, sL_3)]) C dX0_findSides_84 zy_X0_isWell zw_467 (fun _ hr9 => mX0_isWell  hr9) (by decide) rfl rfl (by decide) rfl (Nat.le_of_ble_eq_true rfl) (List.Perm.refl _) (fun _ => List.Perm.refl _) rfl (fun r_4 hr_5 => ?_)
    show zJ X 8 res _ 87 [(0, (.ref (qL 0))), (1, (.int x1)), (2, (.long x2)), (4, (.int x4)), (5, (.int x5)), (6, (.int x6)), (7, (.int x7))] [(.int r_4)] [(0, qL, sL_3)]
    refine z_istore (pc := 87) [(0, (.ref (qL 0))), (1, (.int x1)), (2, (.long x2)), (4, (.int x4)), (5, (.int x5)), (6, (.int x6)), (7, (.int r_4))] [1, 2, 3, 4, 5, 6, 0] (by decide) rfl C dX0_findSides_87 ?_
    refine z_aload_n (pc := 89) 0 rfl rfl C dX0_findSides_89 ?_
    refine z_getR (pc := 90) 0 9 10 C dX0_findSides_90 rfl (by decide) (by decide) rfl zw_153 ?_
    refine z_iload_n (pc := 93) 1 rfl rfl C dX0_findSides_93 ?_
    refine z_iload (pc := 94) 6 rfl C dX0_findSides_94 ?_
    refine z_if_eq (pc := 96) 104 C dX0_findSides_96 (by decide) ?_ ?_
    · refine z_iconst (pc := 104) (-1 : Int32) (by decide) C dX0_findSides_104 ?_
      refine z_lv [(0, (.ref (qL 0))), (1, (.int x1)), (6, (.int x6)), (7, (.int r_4))] [0, 1, 5, 6] rfl ?_
      exact wX0_findSides_105 C hR   _ _ _ _ _ _
    · refine z_iload (pc := 99) 4 rfl C dX0_findSides_99 ?_
      refine z_goto (pc := 101) 105 C dX0_findSides_101 (by decide) ?_
      refine z_lv [(0, (.ref (qL 0))), (1, (.int x1)), (6, (.int x6)), (7, (.int r_4))] [0, 1, 5, 6] rfl ?_
      exact wX0_findSides_105 C hR   _ _ _ _ _ _
  · refine z_aload_n (pc := 31) 0 rfl rfl C dX0_findSides_31 ?_
    refine z_getR (pc := 32) 0 5 6 C dX0_findSides_32 rfl (by decide) (by decide) rfl zw_148 ?_
    refine z_iconst (pc := 35) (0 : Int32) (by decide) C dX0_findSides_35 ?_
    refine z_aal (kd := 4) (pc := 36) 0 C dX0_findSides_36 rfl (by unfold zAr; decide) (by decide) (fun hi_9 => ?_)
    refine z_iload (pc := 37) 6 rfl C dX0_findSides_37 ?_
    refine z_lald (pc := 39) 0 C dX0_findSides_39 rfl (zAr_w hi_9) ?_
    refine z_lload_n (pc := 40) 2 rfl rfl C dX0_findSides_40 ?_
    refine z_land (pc := 41) C dX0_findSides_41 ?_
    refine z_lconst (pc := 42) (0 : Int64) (by decide) C dX0_findSides_42 ?_
    refine z_lcmp (pc := 43) C dX0_findSides_43 ?_
    refine z_if_eq (pc := 44) 68 C dX0_findSides_44 (by decide) ?_ ?_
    · refine z_iinc (pc := 68) (x7 + 1) 6 rfl rfl [(0, (.ref (qL 0))), (1, (.int x1)), (2, (.long x2)), (4, (.int x4)), (5, (.int x5)), (6, (.int x6)), (7, (.int (x7 + 1)))] [1, 2, 3, 4, 5, 6, 0] (by decide) rfl C dX0_findSides_68 ?_
      refine z_goto (pc := 71) 22 C dX0_findSides_71 (by decide) ?_
      exact hk_22 _ _ _ _
    · refine z_iload (pc := 47) 3 rfl C dX0_findSides_47 ?_
      refine z_if_ne (pc := 49) 57 C dX0_findSides_49 (by decide) ?_ ?_
      · refine z_iload (pc := 52) 6 rfl C dX0_findSides_52 ?_
        refine z_goto (pc := 54) 59 C dX0_findSides_54 (by decide) ?_
        refine z_istore (pc := 59) [(0, (.ref (qL 0))), (1, (.int x1)), (2, (.long x2)), (4, (.int x4)), (5, (.int x7)), (6, (.int x6)), (7, (.int x7))] [1, 2, 3, 4, 0, 5, 6] (by decide) rfl C dX0_findSides_59 ?_
        refine z_iload (pc := 61) 6 rfl C dX0_findSides_61 ?_
        refine z_istore (pc := 63) [(0, (.ref (qL 0))), (1, (.int x1)), (2, (.long x2)), (4, (.int x4)), (5, (.int x7)), (6, (.int x7)), (7, (.int x7))] [1, 2, 3, 4, 5, 0, 6] (by decide) rfl C dX0_findSides_63 ?_
        refine z_iinc (pc := 65) (x4 + 1) 3 rfl rfl [(0, (.ref (qL 0))), (1, (.int x1)), (2, (.long x2)), (4, (.int (x4 + 1))), (5, (.int x7)), (6, (.int x7)), (7, (.int x7))] [1, 2, 3, 0, 4, 5, 6] (by decide) rfl C dX0_findSides_65 ?_
        refine z_iinc (pc := 68) (x7 + 1) 6 rfl rfl [(0, (.ref (qL 0))), (1, (.int x1)), (2, (.long x2)), (4, (.int (x4 + 1))), (5, (.int x7)), (6, (.int x7)), (7, (.int (x7 + 1)))] [1, 2, 3, 4, 5, 6, 0] (by decide) rfl C dX0_findSides_68 ?_
        refine z_goto (pc := 71) 22 C dX0_findSides_71 (by decide) ?_
        exact hk_22 _ _ _ _
      · refine z_iload (pc := 57) 4 rfl C dX0_findSides_57 ?_
        refine z_istore (pc := 59) [(0, (.ref (qL 0))), (1, (.int x1)), (2, (.long x2)), (4, (.int x4)), (5, (.int x5)), (6, (.int x6)), (7, (.int x7))] [1, 2, 3, 4, 0, 5, 6] (by decide) rfl C dX0_findSides_59 ?_
        refine z_iload (pc := 61) 6 rfl C dX0_findSides_61 ?_
        refine z_istore (pc := 63) [(0, (.ref (qL 0))), (1, (.int x1)), (2, (.long x2)), (4, (.int x4)), (5, (.int x5)), (6, (.int x7)), (7, (.int x7))] [1, 2, 3, 4, 5, 0, 6] (by decide) rfl C dX0_findSides_63 ?_
        refine z_iinc (pc := 65) (x4 + 1) 3 rfl rfl [(0, (.ref (qL 0))), (1, (.int x1)), (2, (.long x2)), (4, (.int (x4 + 1))), (5, (.int x5)), (6, (.int x7)), (7, (.int x7))] [1, 2, 3, 0, 4, 5, 6] (by decide) rfl C dX0_findSides_65 ?_
        refine z_iinc (pc := 68) (x7 + 1) 6 rfl rfl [(0, (.ref (qL 0))), (1, (.int x1)), (2, (.long x2)), (4, (.int (x4 + 1))), (5, (.int x5)), (6, (.int x7)), (7, (.int (x7 + 1)))] [1, 2, 3, 4, 5, 6, 0] (by decide) rfl C dX0_findSides_68 ?_
        refine z_goto (pc := 71) 22 C dX0_findSides_71 (by decide) ?_
        exact hk_22 _ _ _ _
def fX0_findSides (F : Nat) (x1 : Int32) (sL : zOS) : Option (zOS) := (zchk x1 32 (Option.bind (fX0_besideOf (zL sL 8 x1.toNatClampNeg)) (fun r_1 : Int64 => (zit (P := Int32 × Int32 × Int32 × Int32) (R := zOS) (fun kc9 p9 => bX0_findSides_22 F x1 r_1 sL kc9 p9.1 p9.2.1 p9.2.2.1 p9.2.2.2) F ((0 : Int32), (-1 : Int32), (-1 : Int32), (0 : Int32))))))
set_option maxRecDepth 20000 in
theorem wX0_findSides {X : zCx} {res : zOS} {F : Nat} {qL : Nat → Nat} {x1 : Int32} {sL : zOS} (C : zC X RX0 cX0_findSides 8 1 25) (hR : zR X none none [(0, qL, res)])  : zJ X 8 res (fX0_findSides F x1 sL) 0 [(0, (.ref (qL 0))), (1, (.int x1))] [] [(0, qL, sL)] := by
  unfold fX0_findSides
  refine z_aload_n (pc := 0) 0 rfl rfl C dX0_findSides_0 ?_
  refine z_getR (pc := 1) 0 7 8 C dX0_findSides_1 rfl (by decide) (by decide) rfl zw_150 ?_
  refine z_iload_n (pc := 4) 1 rfl rfl C dX0_findSides_4 ?_
  refine z_lald (pc := 5) 0 C dX0_findSides_5 rfl (by unfold zAr; decide) ?_
  refine z_callS (pc := 6) (rf' := 0) (rl' := 0) (fX0_besideOf (zL sL 8 x1.toNatClampNeg)) [(.long (zL sL 8 x1.toNatClampNeg))] [] [] (fun r_1 => (some (.long r_1))) (fun r_1 => []) [(0, qL, sL)] (fun r_1 => [(0, qL, sL)]) C dX0_findSides_6 zy_X0_besideOf zw_424 (fun _ hr9 => mX0_besideOf  hr9) (by decide) rfl (Nat.le_of_ble_eq_true rfl) (List.Perm.refl _) (fun _ => List.Perm.refl _) rfl (fun r_1 hr_2 => ?_)
  show zJ X 8 res _ 9 [(0, (.ref (qL 0))), (1, (.int x1))] [(.long r_1)] [(0, qL, sL)]
  refine z_lstore_n (pc := 9) [(0, (.ref (qL 0))), (1, (.int x1)), (2, (.long r_1))] [1, 2, 0] (by decide) rfl rfl C dX0_findSides_9 ?_
  refine z_iconst (pc := 10) (0 : Int32) (by decide) C dX0_findSides_10 ?_
  refine z_istore (pc := 11) [(0, (.ref (qL 0))), (1, (.int x1)), (2, (.long r_1)), (4, (.int (0 : Int32)))] [1, 2, 3, 0] (by decide) rfl C dX0_findSides_11 ?_
  refine z_iconst (pc := 13) (-1 : Int32) (by decide) C dX0_findSides_13 ?_
  refine z_istore (pc := 14) [(0, (.ref (qL 0))), (1, (.int x1)), (2, (.long r_1)), (4, (.int (0 : Int32))), (5, (.int (-1 : Int32)))] [1, 2, 3, 4, 0] (by decide) rfl C dX0_findSides_14 ?_
  refine z_iconst (pc := 16) (-1 : Int32) (by decide) C dX0_findSides_16 ?_
  refine z_istore (pc := 17) [(0, (.ref (qL 0))), (1, (.int x1)), (2, (.long r_1)), (4, (.int (0 : Int32))), (5, (.int (-1 : Int32))), (6, (.int (-1 : Int32)))] [1, 2, 3, 4, 5, 0] (by decide) rfl C dX0_findSides_17 ?_
  refine z_iconst (pc := 19) (0 : Int32) (by decide) C dX0_findSides_19 ?_
  refine z_istore (pc := 20) [(0, (.ref (qL 0))), (1, (.int x1)), (2, (.long r_1)), (4, (.int (0 : Int32))), (5, (.int (-1 : Int32))), (6, (.int (-1 : Int32))), (7, (.int (0 : Int32)))] [1, 2, 3, 4, 5, 6, 0] (by decide) rfl C dX0_findSides_20 ?_
  show zJ X 8 res _ 22 [(0, (.ref (qL 0))), (1, (.int x1)), (2, (.long r_1)), (4, (.int (0 : Int32))), (5, (.int (-1 : Int32))), (6, (.int (-1 : Int32))), (7, (.int (0 : Int32)))] [] [(0, qL, sL)]
  exact zit_J (P := Int32 × Int32 × Int32 × Int32) (B := (fun kc9 p9 => bX0_findSides_22 F x1 r_1 sL kc9 p9.1 p9.2.1 p9.2.2.1 p9.2.2.2)) (fun p9 => [(0, (.ref (qL 0))), (1, (.int x1)), (2, (.long r_1)), (4, (.int p9.1)), (5, (.int p9.2.1)), (6, (.int p9.2.2.1)), (7, (.int p9.2.2.2))]) (fun p9 => [(0, qL, sL)]) (fun kc9 hk9 p9 => vX0_findSides_22 C hR   (fun a0 a1 a2 a3 => hk9 (a0, a1, a2, a3)) p9.1 p9.2.1 p9.2.2.1 p9.2.2.2) F _
theorem mX0_findSides {F : Nat} {qL : Nat → Nat} {x1 : Int32} {sL : zOS} {res : zOS}  (hf : fX0_findSides F x1 sL = some res) : zM yX0_findSides cX0_findSides 8 none 1 25 [(.ref (qL 0)), (.int x1)] [(0, qL, sL)] none [(0, qL, res)] := zM_of (by decide +kernel) (Nat.le_of_ble_eq_true rfl) (fun X C hR => wX0_findSides (F := F) C hR  hf)
theorem dX0_findGates_0 : decode cX0_findGates 0 = .ok (.aload_n 0, 1) := by decide +kernel
theorem dX0_findGates_1 : decode cX0_findGates 1 = .ok (.iconst 0, 1) := by decide +kernel
theorem dX0_findGates_2 : decode cX0_findGates 2 = .ok (.putfield 58, 3) := by decide +kernel
theorem dX0_findGates_5 : decode cX0_findGates 5 = .ok (.aload_n 0, 1) := by decide +kernel
theorem dX0_findGates_6 : decode cX0_findGates 6 = .ok (.iconst 0, 1) := by decide +kernel
theorem dX0_findGates_7 : decode cX0_findGates 7 = .ok (.putfield 61, 3) := by decide +kernel
theorem dX0_findGates_10 : decode cX0_findGates 10 = .ok (.aload_n 0, 1) := by decide +kernel
theorem dX0_findGates_11 : decode cX0_findGates 11 = .ok (.getfield 9, 3) := by decide +kernel
theorem dX0_findGates_14 : decode cX0_findGates 14 = .ok (.iconst 0, 1) := by decide +kernel
theorem dX0_findGates_15 : decode cX0_findGates 15 = .ok (.laload, 1) := by decide +kernel
theorem dX0_findGates_16 : decode cX0_findGates 16 = .ok (.aload_n 0, 1) := by decide +kernel
theorem dX0_findGates_17 : decode cX0_findGates 17 = .ok (.getfield 9, 3) := by decide +kernel
theorem dX0_findGates_20 : decode cX0_findGates 20 = .ok (.iconst 1, 1) := by decide +kernel
theorem dX0_findGates_21 : decode cX0_findGates 21 = .ok (.laload, 1) := by decide +kernel
theorem dX0_findGates_22 : decode cX0_findGates 22 = .ok (.land, 1) := by decide +kernel
theorem dX0_findGates_23 : decode cX0_findGates 23 = .ok (.lstore_n 1, 1) := by decide +kernel
theorem dX0_findGates_24 : decode cX0_findGates 24 = .ok (.iconst 0, 1) := by decide +kernel
theorem dX0_findGates_25 : decode cX0_findGates 25 = .ok (.istore_n 3, 1) := by decide +kernel
theorem dX0_findGates_26 : decode cX0_findGates 26 = .ok (.iload_n 3, 1) := by decide +kernel
theorem dX0_findGates_27 : decode cX0_findGates 27 = .ok (.bipush 64, 2) := by decide +kernel
theorem dX0_findGates_29 : decode cX0_findGates 29 = .ok (.if_icmp .ge 84, 3) := by decide +kernel
theorem dX0_findGates_32 : decode cX0_findGates 32 = .ok (.lload_n 1, 1) := by decide +kernel
theorem dX0_findGates_33 : decode cX0_findGates 33 = .ok (.lconst 0, 1) := by decide +kernel
theorem dX0_findGates_34 : decode cX0_findGates 34 = .ok (.lcmp, 1) := by decide +kernel
theorem dX0_findGates_35 : decode cX0_findGates 35 = .ok (.ifCond .eq 78, 3) := by decide +kernel
theorem dX0_findGates_38 : decode cX0_findGates 38 = .ok (.aload_n 0, 1) := by decide +kernel
theorem dX0_findGates_39 : decode cX0_findGates 39 = .ok (.getfield 58, 3) := by decide +kernel
theorem dX0_findGates_42 : decode cX0_findGates 42 = .ok (.bipush 32, 2) := by decide +kernel
theorem dX0_findGates_44 : decode cX0_findGates 44 = .ok (.if_icmp .ge 69, 3) := by decide +kernel
theorem dX0_findGates_47 : decode cX0_findGates 47 = .ok (.lload_n 1, 1) := by decide +kernel
theorem dX0_findGates_48 : decode cX0_findGates 48 = .ok (.invokestatic 140, 3) := by decide +kernel
theorem dX0_findGates_51 : decode cX0_findGates 51 = .ok (.lstore 4, 2) := by decide +kernel
theorem dX0_findGates_53 : decode cX0_findGates 53 = .ok (.aload_n 0, 1) := by decide +kernel
theorem dX0_findGates_54 : decode cX0_findGates 54 = .ok (.getfield 36, 3) := by decide +kernel
theorem dX0_findGates_57 : decode cX0_findGates 57 = .ok (.aload_n 0, 1) := by decide +kernel
theorem dX0_findGates_58 : decode cX0_findGates 58 = .ok (.getfield 58, 3) := by decide +kernel
theorem dX0_findGates_61 : decode cX0_findGates 61 = .ok (.lload 4, 2) := by decide +kernel
theorem dX0_findGates_63 : decode cX0_findGates 63 = .ok (.lastore, 1) := by decide +kernel
theorem dX0_findGates_64 : decode cX0_findGates 64 = .ok (.aload_n 0, 1) := by decide +kernel
theorem dX0_findGates_65 : decode cX0_findGates 65 = .ok (.getfield 39, 3) := by decide +kernel
theorem dX0_findGates_68 : decode cX0_findGates 68 = .ok (.aload_n 0, 1) := by decide +kernel
theorem dX0_findGates_69 : decode cX0_findGates 69 = .ok (.getfield 58, 3) := by decide +kernel
theorem dX0_findGates_72 : decode cX0_findGates 72 = .ok (.aload_n 0, 1) := by decide +kernel
theorem dX0_findGates_73 : decode cX0_findGates 73 = .ok (.iconst 1, 1) := by decide +kernel
theorem dX0_findGates_74 : decode cX0_findGates 74 = .ok (.lload 4, 2) := by decide +kernel
theorem dX0_findGates_76 : decode cX0_findGates 76 = .ok (.invokevirtual 95, 3) := by decide +kernel
theorem dX0_findGates_79 : decode cX0_findGates 79 = .ok (.iastore, 1) := by decide +kernel
theorem dX0_findGates_80 : decode cX0_findGates 80 = .ok (.aload_n 0, 1) := by decide +kernel
theorem dX0_findGates_81 : decode cX0_findGates 81 = .ok (.aload_n 0, 1) := by decide +kernel
theorem dX0_findGates_82 : decode cX0_findGates 82 = .ok (.getfield 58, 3) := by decide +kernel
theorem dX0_findGates_85 : decode cX0_findGates 85 = .ok (.invokevirtual 163, 3) := by decide +kernel
theorem dX0_findGates_88 : decode cX0_findGates 88 = .ok (.aload_n 0, 1) := by decide +kernel
theorem dX0_findGates_89 : decode cX0_findGates 89 = .ok (.dup, 1) := by decide +kernel
theorem dX0_findGates_90 : decode cX0_findGates 90 = .ok (.getfield 58, 3) := by decide +kernel
theorem dX0_findGates_93 : decode cX0_findGates 93 = .ok (.iconst 1, 1) := by decide +kernel
theorem dX0_findGates_94 : decode cX0_findGates 94 = .ok (.iadd, 1) := by decide +kernel
theorem dX0_findGates_95 : decode cX0_findGates 95 = .ok (.putfield 58, 3) := by decide +kernel
theorem dX0_findGates_98 : decode cX0_findGates 98 = .ok (.lload_n 1, 1) := by decide +kernel
theorem dX0_findGates_99 : decode cX0_findGates 99 = .ok (.lload 4, 2) := by decide +kernel
theorem dX0_findGates_101 : decode cX0_findGates 101 = .ok (.ldc2_w 135, 3) := by decide +kernel
theorem dX0_findGates_104 : decode cX0_findGates 104 = .ok (.lxor, 1) := by decide +kernel
theorem dX0_findGates_105 : decode cX0_findGates 105 = .ok (.land, 1) := by decide +kernel
theorem dX0_findGates_106 : decode cX0_findGates 106 = .ok (.lstore_n 1, 1) := by decide +kernel
theorem dX0_findGates_107 : decode cX0_findGates 107 = .ok (.iinc 3 1, 3) := by decide +kernel
theorem dX0_findGates_110 : decode cX0_findGates 110 = .ok (.goto (-84), 3) := by decide +kernel
theorem dX0_findGates_113 : decode cX0_findGates 113 = .ok (.return_, 1) := by decide +kernel
def bX0_findGates_26 (F : Nat) (kc_26 : (Int64 × Int32 × zOS) → Option (zOS)) (x1 : Int64) (x3 : Int32) (sL : zOS) : Option (zOS) := (if (64 : Int32) ≤ x3 then (some (sL)) else (if (lg_cmp x1 (0 : Int64)) = 0 then (some (sL)) else (if (32 : Int32) ≤ (zF sL 14) then (some (sL)) else (Option.bind (fX0_hangingTogether F x1) (fun r_4 : Int64 => (zchk (zF sL 14) 32 (zlet (zsL sL 8 (vp_updL (zL sL 8) (zF sL 14).toNatClampNeg r_4)) (fun sL_6 : zOS => (Option.bind (fX0_nodeWith F (1 : Int32) r_4 sL_6) (fun r_7 : Int32 => (zchk (zF sL_6 14) 32 (zlet (zsI sL_6 9 (upd (zI sL_6 9) (zF sL_6 14).toNatClampNeg r_7)) (fun sL_9 : zOS => (Option.bind (fX0_findSides F (zF sL_9 14) sL_9) (fun r_10 : zOS => (zlet (zsF r_10 14 ((zF r_10 14) + (1 : Int32))) (fun sL_12 : zOS => (zlet (x1 &&& (r_4 ^^^ (-1 : Int64))) (fun x1_13 : Int64 => (kc_26 (x1_13, (x3 + 1), sL_12)))))))))))))))))))))
set_option maxRecDepth 20000 in
theorem vX0_findGates_26 {X : zCx} {res : zOS} {F : Nat} {qL : Nat → Nat} {kc_26 : (Int64 × Int32 × zOS) → Option (zOS)} (C : zC X RX0 cX0_findGates 6 2 52) (hR : zR X none none [(0, qL, res)]) (hk_26 : ∀ (y1 : Int64) (y3 : Int32) (tL : zOS), zJ X 6 res (kc_26 (y1, y3, tL)) 26 [(0, (.ref (qL 0))), (1, (.long y1)), (3, (.int y3))] [] [(0, qL, tL)]) (x1 : Int64) (x3 : Int32) (sL : zOS) : zJ X 6 res (bX0_findGates_26 F kc_26 x1 x3 sL) 26 [(0, (.ref (qL 0))), (1, (.long x1)), (3, (.int x3))] [] [(0, qL, sL)] := by
  unfold bX0_findGates_26
  refine z_iload_n (pc := 26) 2 rfl rfl C dX0_findGates_26 ?_
  refine z_bipush (pc := 27) (64 : Int32) (by decide) C dX0_findGates_27 ?_
  refine z_icmp_ge (pc := 29) 113 C dX0_findGates_29 (by decide) ?_ ?_
  · exact z_return (pc := 113) C hR dX0_findGates_113 (fun h => by subst h; exact ⟨rfl, rfl⟩)
  · refine z_lload_n (pc := 32) 1 rfl rfl C dX0_findGates_32 ?_
    refine z_lconst (pc := 33) (0 : Int64) (by decide) C dX0_findGates_33 ?_
    refine z_lcmp (pc := 34) C dX0_findGates_34 ?_
    refine z_if_eq (pc := 35) 113 C dX0_findGates_35 (by decide) ?_ ?_
    · exact z_return (pc := 113) C hR dX0_findGates_113 (fun h => by subst h; exact ⟨rfl, rfl⟩)
    · refine z_aload_n (pc := 38) 0 rfl rfl C dX0_findGates_38 ?_
      refine z_getI (pc := 39) 0 14 C dX0_findGates_39 rfl (by decide) (by decide) rfl zw_162 ?_
      refine z_bipush (pc := 42) (32 : Int32) (by decide) C dX0_findGates_42 ?_
      refine z_icmp_ge (pc := 44) 113 C dX0_findGates_44 (by decide) ?_ ?_
      · exact z_return (pc := 113) C hR dX0_findGates_113 (fun h => by subst h; exact ⟨rfl, rfl⟩)
      · refine z_lload_n (pc := 47) 1 rfl rfl C dX0_findGates_47 ?_
        refine z_callS (pc := 48) (rf' := 1) (rl' := 25) (fX0_hangingTogether F x1) [(.long x1)] [] [] (fun r_4 => (some (.long r_4))) (fun r_4 => []) [(0, qL, sL)] (fun r_4 => [(0, qL, sL)]) C dX0_findGates_48 zy_X0_hangingTogether zw_421 (fun _ hr9 => mX0_hangingTogether  hr9) (by decide) rfl (Nat.le_of_ble_eq_true rfl) (List.Perm.refl _) (fun _ => List.Perm.refl _) rfl (fun r_4 hr_5 => ?_)
        show zJ X 6 res _ 51 [(0, (.ref (qL 0))), (1, (.long x1)), (3, (.int x3))] [(.long r_4)] [(0, qL, sL)]
        refine z_lstore (pc := 51) [(0, (.ref (qL 0))), (1, (.long x1)), (3, (.int x3)), (4, (.long r_4))] [1, 2, 3, 0] (by decide) rfl C dX0_findGates_51 ?_
        refine z_aload_n (pc := 53) 0 rfl rfl C dX0_findGates_53 ?_
        refine z_getR (pc := 54) 0 7 8 C dX0_findGates_54 rfl (by decide) (by decide) rfl zw_150 ?_
        refine z_aload_n (pc := 57) 0 rfl rfl C dX0_findGates_57 ?_
        refine z_getI (pc := 58) 0 14 C dX0_findGates_58 rfl (by decide) (by decide) rfl zw_162 ?_
        refine z_lload (pc := 61) 3 rfl C dX0_findGates_61 ?_
        refine z_last (pc := 63) 0 C dX0_findGates_63 rfl (by unfold zAr; decide) [(0, qL, (zsL sL 8 (vp_updL (zL sL 8) (zF sL 14).toNatClampNeg r_4)))] rfl ?_
        refine z_letc (fun z9 => [(0, qL, z9)]) (fun sL_6 => ?_)
        refine z_aload_n (pc := 64) 0 rfl rfl C dX0_findGates_64 ?_
        refine z_getR (pc := 65) 0 8 9 C dX0_findGates_65 rfl (by decide) (by decide) rfl zw_151 ?_
        refine z_aload_n (pc := 68) 0 rfl rfl C dX0_findGates_68 ?_
        refine z_getI (pc := 69) 0 14 C dX0_findGates_69 rfl (by decide) (by decide) rfl zw_162 ?_
        refine z_aload_n (pc := 72) 0 rfl rfl C dX0_findGates_72 ?_
        refine z_iconst (pc := 73) (1 : Int32) (by decide) C dX0_findGates_73 ?_
        refine z_lload (pc := 74) 3 rfl C dX0_findGates_74 ?_
        refine z_callV (pc := 76) (rf' := 0) (rl' := 0) (fX0_nodeWith F (1 : Int32) r_4 sL_6) [(.int (1 : Int32)), (.long r_4)] [(.int (zF sL_6 14)), (.ref (qL 9))] [(0, qL, sL_6)] (fun r_7 => (some (.int r_7))) (fun r_7 => [(0, qL, sL_6)]) [] (fun r_7 => [(0, qL, sL_6)]) C dX0_findGates_76 zy_X0_nodeWith zw_459 (fun _ hr9 => mX0_nodeWith  hr9) (by decide) rfl rfl (by decide) rfl (Nat.le_of_ble_eq_true rfl) (List.Perm.refl _) (fun _ => List.Perm.refl _) rfl (fun r_7 hr_8 => ?_)
        show zJ X 6 res _ 79 [(0, (.ref (qL 0))), (1, (.long x1)), (3, (.int x3)), (4, (.long r_4))] [(.int r_7), (.int (zF sL_6 14)), (.ref (qL 9))] [(0, qL, sL_6)]
        refine z_iast (pc := 79) 0 C dX0_findGates_79 rfl (by unfold zAr; decide) [(0, qL, (zsI sL_6 9 (upd (zI sL_6 9) (zF sL_6 14).toNatClampNeg r_7)))] rfl ?_
        refine z_letc (fun z9 => [(0, qL, z9)]) (fun sL_9 => ?_)
        refine z_aload_n (pc := 80) 0 rfl rfl C dX0_findGates_80 ?_
        refine z_aload_n (pc := 81) 0 rfl rfl C dX0_findGates_81 ?_
        refine z_getI (pc := 82) 0 14 C dX0_findGates_82 rfl (by decide) (by decide) rfl zw_162 ?_
        refine z_callV (pc := 85) (rf' := 1) (rl' := 25) (fX0_findSides F (zF sL_9 14) sL_9) [(.int (zF sL_9 14))] [] [(0, qL, sL_9)] (fun r_10 => none) (fun r_10 => [(0, qL, r_10)]) [] (fun r_10 => [(0, qL, r_10)]) C dX0_findGates_85 zy_X0_findSides zw_463 (fun _ hr9 => mX0_findSides  hr9) (by decide) rfl rfl (by decide) rfl (Nat.le_of_ble_eq_true rfl) (List.Perm.refl _) (fun _ => List.Perm.refl _) rfl (fun r_10 hr_11 => ?_)
        show zJ X 6 res _ 88 [(0, (.ref (qL 0))), (1, (.long x1)), (3, (.int x3)), (4, (.long r_4))] [] [(0, qL, r_10)]
        refine z_aload_n (pc := 88) 0 rfl rfl C dX0_findGates_88 ?_
        refine z_dup (pc := 89) rfl C dX0_findGates_89 ?_
        refine z_getI (pc := 90) 0 14 C dX0_findGates_90 rfl (by decide) (by decide) rfl zw_162 ?_
        refine z_iconst (pc := 93) (1 : Int32) (by decide) C dX0_findGates_93 ?_
        refine z_iadd (pc := 94) C dX0_findGates_94 ?_
        refine z_putI (pc := 95) 0 14 C dX0_findGates_95 rfl (by decide) (by decide) rfl zw_162 rfl rfl rfl [(0, qL, (zsF r_10 14 ((zF r_10 14) + (1 : Int32))))] rfl ?_
        refine z_letc (fun z9 => [(0, qL, z9)]) (fun sL_12 => ?_)
        refine z_lload_n (pc := 98) 1 rfl rfl C dX0_findGates_98 ?_
        refine z_lload (pc := 99) 3 rfl C dX0_findGates_99 ?_
        refine z_ldc2_w (pc := 101) (-1 : Int64) zw_420 C dX0_findGates_101 ?_
        refine z_lxor (pc := 104) C dX0_findGates_104 ?_
        refine z_land (pc := 105) C dX0_findGates_105 ?_
        refine z_letl (fun x1_13 => ?_)
        refine z_lstore_n (pc := 106) [(0, (.ref (qL 0))), (1, (.long x1_13)), (3, (.int x3)), (4, (.long r_4))] [1, 0, 2, 3] (by decide) rfl rfl C dX0_findGates_106 ?_
        refine z_iinc (pc := 107) (x3 + 1) 2 rfl rfl [(0, (.ref (qL 0))), (1, (.long x1_13)), (3, (.int (x3 + 1))), (4, (.long r_4))] [1, 2, 0, 3] (by decide) rfl C dX0_findGates_107 ?_
        refine z_goto (pc := 110) 26 C dX0_findGates_110 (by decide) ?_
        refine z_lv [(0, (.ref (qL 0))), (1, (.long x1_13)), (3, (.int (x3 + 1)))] [0, 1, 2] rfl ?_
        exact hk_26 _ _ _
def fX0_findGates (F : Nat) (sL : zOS) : Option (zOS) := (zlet (zsF sL 14 (0 : Int32)) (fun sL_1 : zOS => (zlet (zsF sL_1 15 (0 : Int32)) (fun sL_2 : zOS => (zchk (0 : Int32) 4 (zchk (1 : Int32) 4 (zlet ((zL sL_2 1 (0 : Int32).toNatClampNeg) &&& (zL sL_2 1 (1 : Int32).toNatClampNeg)) (fun x1_3 : Int64 => (zit (P := Int64 × Int32 × zOS) (R := zOS) (fun kc9 p9 => bX0_findGates_26 F kc9 p9.1 p9.2.1 p9.2.2) F (x1_3, (0 : Int32), sL_2))))))))))
set_option maxRecDepth 20000 in
theorem wX0_findGates {X : zCx} {res : zOS} {F : Nat} {qL : Nat → Nat} {sL : zOS} (C : zC X RX0 cX0_findGates 6 2 52) (hR : zR X none none [(0, qL, res)])  : zJ X 6 res (fX0_findGates F sL) 0 [(0, (.ref (qL 0)))] [] [(0, qL, sL)] := by
  unfold fX0_findGates
  refine z_aload_n (pc := 0) 0 rfl rfl C dX0_findGates_0 ?_
  refine z_iconst (pc := 1) (0 : Int32) (by decide) C dX0_findGates_1 ?_
  refine z_putI (pc := 2) 0 14 C dX0_findGates_2 rfl (by decide) (by decide) rfl zw_162 rfl rfl rfl [(0, qL, (zsF sL 14 (0 : Int32)))] rfl ?_
  refine z_letc (fun z9 => [(0, qL, z9)]) (fun sL_1 => ?_)
  refine z_aload_n (pc := 5) 0 rfl rfl C dX0_findGates_5 ?_
  refine z_iconst (pc := 6) (0 : Int32) (by decide) C dX0_findGates_6 ?_
  refine z_putI (pc := 7) 0 15 C dX0_findGates_7 rfl (by decide) (by decide) rfl zw_165 rfl rfl rfl [(0, qL, (zsF sL_1 15 (0 : Int32)))] rfl ?_
  refine z_letc (fun z9 => [(0, qL, z9)]) (fun sL_2 => ?_)
  refine z_aload_n (pc := 10) 0 rfl rfl C dX0_findGates_10 ?_
  refine z_getR (pc := 11) 0 0 1 C dX0_findGates_11 rfl (by decide) (by decide) rfl zw_143 ?_
  refine z_iconst (pc := 14) (0 : Int32) (by decide) C dX0_findGates_14 ?_
  refine z_lald (pc := 15) 0 C dX0_findGates_15 rfl (by unfold zAr; decide) ?_
  refine z_aload_n (pc := 16) 0 rfl rfl C dX0_findGates_16 ?_
  refine z_getR (pc := 17) 0 0 1 C dX0_findGates_17 rfl (by decide) (by decide) rfl zw_143 ?_
  refine z_iconst (pc := 20) (1 : Int32) (by decide) C dX0_findGates_20 ?_
  refine z_lald (pc := 21) 0 C dX0_findGates_21 rfl (by unfold zAr; decide) ?_
  refine z_land (pc := 22) C dX0_findGates_22 ?_
  refine z_letl (fun x1_3 => ?_)
  refine z_lstore_n (pc := 23) [(0, (.ref (qL 0))), (1, (.long x1_3))] [1, 0] (by decide) rfl rfl C dX0_findGates_23 ?_
  refine z_iconst (pc := 24) (0 : Int32) (by decide) C dX0_findGates_24 ?_
  refine z_istore_n (pc := 25) [(0, (.ref (qL 0))), (1, (.long x1_3)), (3, (.int (0 : Int32)))] [1, 2, 0] (by decide) rfl rfl C dX0_findGates_25 ?_
  show zJ X 6 res _ 26 [(0, (.ref (qL 0))), (1, (.long x1_3)), (3, (.int (0 : Int32)))] [] [(0, qL, sL_2)]
  exact zit_J (P := Int64 × Int32 × zOS) (B := (fun kc9 p9 => bX0_findGates_26 F kc9 p9.1 p9.2.1 p9.2.2)) (fun p9 => [(0, (.ref (qL 0))), (1, (.long p9.1)), (3, (.int p9.2.1))]) (fun p9 => [(0, qL, p9.2.2)]) (fun kc9 hk9 p9 => vX0_findGates_26 C hR   (fun a0 a1 a2 => hk9 (a0, a1, a2)) p9.1 p9.2.1 p9.2.2) F _
theorem mX0_findGates {F : Nat} {qL : Nat → Nat} {sL : zOS} {res : zOS}  (hf : fX0_findGates F sL = some res) : zM yX0_findGates cX0_findGates 6 none 2 52 [(.ref (qL 0))] [(0, qL, sL)] none [(0, qL, res)] := zM_of (by decide +kernel) (Nat.le_of_ble_eq_true rfl) (fun X C hR => wX0_findGates (F := F) C hR  hf)
theorem dX0_addHang_0 : decode cX0_addHang 0 = .ok (.iload_n 1, 1) := by decide +kernel
theorem dX0_addHang_1 : decode cX0_addHang 1 = .ok (.aload_n 0, 1) := by decide +kernel
theorem dX0_addHang_2 : decode cX0_addHang 2 = .ok (.getfield 55, 3) := by decide +kernel
theorem dX0_addHang_5 : decode cX0_addHang 5 = .ok (.invokestatic 131, 3) := by decide +kernel
theorem dX0_addHang_8 : decode cX0_addHang 8 = .ok (.ifCond .eq 13, 3) := by decide +kernel
theorem dX0_addHang_11 : decode cX0_addHang 11 = .ok (.aload_n 0, 1) := by decide +kernel
theorem dX0_addHang_12 : decode cX0_addHang 12 = .ok (.getfield 33, 3) := by decide +kernel
theorem dX0_addHang_15 : decode cX0_addHang 15 = .ok (.iload_n 1, 1) := by decide +kernel
theorem dX0_addHang_16 : decode cX0_addHang 16 = .ok (.dup2, 1) := by decide +kernel
theorem dX0_addHang_17 : decode cX0_addHang 17 = .ok (.iaload, 1) := by decide +kernel
theorem dX0_addHang_18 : decode cX0_addHang 18 = .ok (.iload_n 2, 1) := by decide +kernel
theorem dX0_addHang_19 : decode cX0_addHang 19 = .ok (.iadd, 1) := by decide +kernel
theorem dX0_addHang_20 : decode cX0_addHang 20 = .ok (.iastore, 1) := by decide +kernel
theorem dX0_addHang_21 : decode cX0_addHang 21 = .ok (.return_, 1) := by decide +kernel
def fX0_addHang (x1 : Int32) (x2 : Int32) (sL : zOS) : Option (zOS) := (Option.bind (fX4_isWithin x1 (zF sL 13)) (fun r_1 : Int32 => (if r_1 = 0 then (some (sL)) else (zchk x1 96 (zchk x1 96 (zlet (zsI sL 7 (upd (zI sL 7) x1.toNatClampNeg ((zI sL 7 x1.toNatClampNeg) + x2))) (fun sL_3 : zOS => (some (sL_3)))))))))
set_option maxRecDepth 20000 in
theorem wX0_addHang {X : zCx} {res : zOS}  {qL : Nat → Nat} {x1 : Int32} {x2 : Int32} {sL : zOS} (C : zC X RX0 cX0_addHang 3 1 21) (hR : zR X none none [(0, qL, res)])  : zJ X 3 res (fX0_addHang x1 x2 sL) 0 [(0, (.ref (qL 0))), (1, (.int x1)), (2, (.int x2))] [] [(0, qL, sL)] := by
  unfold fX0_addHang
  refine z_iload_n (pc := 0) 1 rfl rfl C dX0_addHang_0 ?_
  refine z_aload_n (pc := 1) 0 rfl rfl C dX0_addHang_1 ?_
  refine z_getI (pc := 2) 0 13 C dX0_addHang_2 rfl (by decide) (by decide) rfl zw_160 ?_
  refine z_callN (pc := 5) (rf' := 0) (rl' := 0) (fX4_isWithin x1 (zF sL 13)) [(.int x1), (.int (zF sL 13))] [] (fun r_1 => (some (.int r_1))) C dX0_addHang_5 zy_X4_isWithin (fun U h => h.2.2.2) (fun _ hr9 => mX4_isWithin  hr9) (by decide) rfl (Nat.le_of_ble_eq_true rfl) rfl (fun r_1 hr_2 => ?_)
  show zJ X 3 res _ 8 [(0, (.ref (qL 0))), (1, (.int x1)), (2, (.int x2))] [(.int r_1)] [(0, qL, sL)]
  refine z_if_eq (pc := 8) 21 C dX0_addHang_8 (by decide) ?_ ?_
  · exact z_return (pc := 21) C hR dX0_addHang_21 (fun h => by subst h; exact ⟨rfl, rfl⟩)
  · refine z_aload_n (pc := 11) 0 rfl rfl C dX0_addHang_11 ?_
    refine z_getR (pc := 12) 0 6 7 C dX0_addHang_12 rfl (by decide) (by decide) rfl zw_149 ?_
    refine z_iload_n (pc := 15) 1 rfl rfl C dX0_addHang_15 ?_
    refine z_dup2 (pc := 16) rfl rfl C dX0_addHang_16 ?_
    refine z_iald (pc := 17) 0 C dX0_addHang_17 rfl (by unfold zAr; decide) ?_
    refine z_iload_n (pc := 18) 2 rfl rfl C dX0_addHang_18 ?_
    refine z_iadd (pc := 19) C dX0_addHang_19 ?_
    refine z_iast (pc := 20) 0 C dX0_addHang_20 rfl (by unfold zAr; decide) [(0, qL, (zsI sL 7 (upd (zI sL 7) x1.toNatClampNeg ((zI sL 7 x1.toNatClampNeg) + x2))))] rfl ?_
    refine z_letc (fun z9 => [(0, qL, z9)]) (fun sL_3 => ?_)
    exact z_return (pc := 21) C hR dX0_addHang_21 (fun h => by subst h; exact ⟨rfl, rfl⟩)
theorem mX0_addHang  {qL : Nat → Nat} {x1 : Int32} {x2 : Int32} {sL : zOS} {res : zOS}  (hf : fX0_addHang x1 x2 sL = some res) : zM yX0_addHang cX0_addHang 3 none 1 21 [(.ref (qL 0)), (.int x1), (.int x2)] [(0, qL, sL)] none [(0, qL, res)] := zM_of (by decide +kernel) (Nat.le_of_ble_eq_true rfl) (fun X C hR => wX0_addHang C hR  hf)
theorem dX0_weighNodes_0 : decode cX0_weighNodes 0 = .ok (.aload_n 0, 1) := by decide +kernel
theorem dX0_weighNodes_1 : decode cX0_weighNodes 1 = .ok (.getfield 33, 3) := by decide +kernel
theorem dX0_weighNodes_4 : decode cX0_weighNodes 4 = .ok (.iconst 0, 1) := by decide +kernel
theorem dX0_weighNodes_5 : decode cX0_weighNodes 5 = .ok (.invokestatic 173, 3) := by decide +kernel
theorem dX0_weighNodes_8 : decode cX0_weighNodes 8 = .ok (.iconst 0, 1) := by decide +kernel
theorem dX0_weighNodes_9 : decode cX0_weighNodes 9 = .ok (.istore_n 1, 1) := by decide +kernel
theorem dX0_weighNodes_10 : decode cX0_weighNodes 10 = .ok (.iload_n 1, 1) := by decide +kernel
theorem dX0_weighNodes_11 : decode cX0_weighNodes 11 = .ok (.aload_n 0, 1) := by decide +kernel
theorem dX0_weighNodes_12 : decode cX0_weighNodes 12 = .ok (.getfield 58, 3) := by decide +kernel
theorem dX0_weighNodes_15 : decode cX0_weighNodes 15 = .ok (.if_icmp .ge 51, 3) := by decide +kernel
theorem dX0_weighNodes_18 : decode cX0_weighNodes 18 = .ok (.aload_n 0, 1) := by decide +kernel
theorem dX0_weighNodes_19 : decode cX0_weighNodes 19 = .ok (.iload_n 1, 1) := by decide +kernel
theorem dX0_weighNodes_20 : decode cX0_weighNodes 20 = .ok (.invokevirtual 169, 3) := by decide +kernel
theorem dX0_weighNodes_23 : decode cX0_weighNodes 23 = .ok (.ifCond .eq 37, 3) := by decide +kernel
theorem dX0_weighNodes_26 : decode cX0_weighNodes 26 = .ok (.aload_n 0, 1) := by decide +kernel
theorem dX0_weighNodes_27 : decode cX0_weighNodes 27 = .ok (.aload_n 0, 1) := by decide +kernel
theorem dX0_weighNodes_28 : decode cX0_weighNodes 28 = .ok (.getfield 39, 3) := by decide +kernel
theorem dX0_weighNodes_31 : decode cX0_weighNodes 31 = .ok (.iload_n 1, 1) := by decide +kernel
theorem dX0_weighNodes_32 : decode cX0_weighNodes 32 = .ok (.iaload, 1) := by decide +kernel
theorem dX0_weighNodes_33 : decode cX0_weighNodes 33 = .ok (.bipush 10, 2) := by decide +kernel
theorem dX0_weighNodes_35 : decode cX0_weighNodes 35 = .ok (.invokevirtual 179, 3) := by decide +kernel
theorem dX0_weighNodes_38 : decode cX0_weighNodes 38 = .ok (.aload_n 0, 1) := by decide +kernel
theorem dX0_weighNodes_39 : decode cX0_weighNodes 39 = .ok (.aload_n 0, 1) := by decide +kernel
theorem dX0_weighNodes_40 : decode cX0_weighNodes 40 = .ok (.getfield 42, 3) := by decide +kernel
theorem dX0_weighNodes_43 : decode cX0_weighNodes 43 = .ok (.iload_n 1, 1) := by decide +kernel
theorem dX0_weighNodes_44 : decode cX0_weighNodes 44 = .ok (.iaload, 1) := by decide +kernel
theorem dX0_weighNodes_45 : decode cX0_weighNodes 45 = .ok (.iconst 1, 1) := by decide +kernel
theorem dX0_weighNodes_46 : decode cX0_weighNodes 46 = .ok (.invokevirtual 179, 3) := by decide +kernel
theorem dX0_weighNodes_49 : decode cX0_weighNodes 49 = .ok (.aload_n 0, 1) := by decide +kernel
theorem dX0_weighNodes_50 : decode cX0_weighNodes 50 = .ok (.aload_n 0, 1) := by decide +kernel
theorem dX0_weighNodes_51 : decode cX0_weighNodes 51 = .ok (.getfield 45, 3) := by decide +kernel
theorem dX0_weighNodes_54 : decode cX0_weighNodes 54 = .ok (.iload_n 1, 1) := by decide +kernel
theorem dX0_weighNodes_55 : decode cX0_weighNodes 55 = .ok (.iaload, 1) := by decide +kernel
theorem dX0_weighNodes_56 : decode cX0_weighNodes 56 = .ok (.iconst 1, 1) := by decide +kernel
theorem dX0_weighNodes_57 : decode cX0_weighNodes 57 = .ok (.invokevirtual 179, 3) := by decide +kernel
theorem dX0_weighNodes_60 : decode cX0_weighNodes 60 = .ok (.iinc 1 1, 3) := by decide +kernel
theorem dX0_weighNodes_63 : decode cX0_weighNodes 63 = .ok (.goto (-53), 3) := by decide +kernel
theorem dX0_weighNodes_66 : decode cX0_weighNodes 66 = .ok (.return_, 1) := by decide +kernel
def bX0_weighNodes_10 (F : Nat) (kc_10 : (Int32 × zOS) → Option (zOS)) (x1 : Int32) (sL : zOS) : Option (zOS) := (if (zF sL 14) ≤ x1 then (some (sL)) else (Option.bind (fX0_isWell x1 sL) (fun r_3 : Int32 => (if r_3 = 0 then (kc_10 ((x1 + 1), sL)) else (zchk x1 32 (Option.bind (fX0_addHang (zI sL 9 x1.toNatClampNeg) (10 : Int32) sL) (fun r_5 : zOS => (zchk x1 32 (Option.bind (fX0_addHang (zI r_5 10 x1.toNatClampNeg) (1 : Int32) r_5) (fun r_7 : zOS => (zchk x1 32 (Option.bind (fX0_addHang (zI r_7 11 x1.toNatClampNeg) (1 : Int32) r_7) (fun r_9 : zOS => (kc_10 ((x1 + 1), r_9)))))))))))))))
set_option maxRecDepth 20000 in
theorem vX0_weighNodes_10 {X : zCx} {res : zOS} {F : Nat} {qL : Nat → Nat} {kc_10 : (Int32 × zOS) → Option (zOS)} (C : zC X RX0 cX0_weighNodes 2 2 43) (hR : zR X none none [(0, qL, res)]) (hk_10 : ∀ (y1 : Int32) (tL : zOS), zJ X 2 res (kc_10 (y1, tL)) 10 [(0, (.ref (qL 0))), (1, (.int y1))] [] [(0, qL, tL)]) (x1 : Int32) (sL : zOS) : zJ X 2 res (bX0_weighNodes_10 F kc_10 x1 sL) 10 [(0, (.ref (qL 0))), (1, (.int x1))] [] [(0, qL, sL)] := by
  unfold bX0_weighNodes_10
  refine z_iload_n (pc := 10) 1 rfl rfl C dX0_weighNodes_10 ?_
  refine z_aload_n (pc := 11) 0 rfl rfl C dX0_weighNodes_11 ?_
  refine z_getI (pc := 12) 0 14 C dX0_weighNodes_12 rfl (by decide) (by decide) rfl zw_162 ?_
  refine z_icmp_ge (pc := 15) 66 C dX0_weighNodes_15 (by decide) ?_ ?_
  · exact z_return (pc := 66) C hR dX0_weighNodes_66 (fun h => by subst h; exact ⟨rfl, rfl⟩)
  · refine z_aload_n (pc := 18) 0 rfl rfl C dX0_weighNodes_18 ?_
    refine z_iload_n (pc := 19) 1 rfl rfl C dX0_weighNodes_19 ?_
    refine z_callV (pc := 20) (rf' := 0) (rl' := 0) (fX0_isWell x1 sL) [(.int x1)] [] [(0, qL, sL)] (fun r_3 => (some (.int r_3))) (fun r_3 => [(0, qL, sL)]) [] (fun r_3 => [(0, qL, sL)]) C dX0_weighNodes_20 zy_X0_isWell zw_467 (fun _ hr9 => mX0_isWell  hr9) (by decide) rfl rfl (by decide) rfl (Nat.le_of_ble_eq_true rfl) (List.Perm.refl _) (fun _ => List.Perm.refl _) rfl (fun r_3 hr_4 => ?_)
    show zJ X 2 res _ 23 [(0, (.ref (qL 0))), (1, (.int x1))] [(.int r_3)] [(0, qL, sL)]
    refine z_if_eq (pc := 23) 60 C dX0_weighNodes_23 (by decide) ?_ ?_
    · refine z_iinc (pc := 60) (x1 + 1) 1 rfl rfl [(0, (.ref (qL 0))), (1, (.int (x1 + 1)))] [1, 0] (by decide) rfl C dX0_weighNodes_60 ?_
      refine z_goto (pc := 63) 10 C dX0_weighNodes_63 (by decide) ?_
      exact hk_10 _ _
    · refine z_aload_n (pc := 26) 0 rfl rfl C dX0_weighNodes_26 ?_
      refine z_aload_n (pc := 27) 0 rfl rfl C dX0_weighNodes_27 ?_
      refine z_getR (pc := 28) 0 8 9 C dX0_weighNodes_28 rfl (by decide) (by decide) rfl zw_151 ?_
      refine z_iload_n (pc := 31) 1 rfl rfl C dX0_weighNodes_31 ?_
      refine z_iald (pc := 32) 0 C dX0_weighNodes_32 rfl (by unfold zAr; decide) ?_
      refine z_bipush (pc := 33) (10 : Int32) (by decide) C dX0_weighNodes_33 ?_
      refine z_callV (pc := 35) (rf' := 1) (rl' := 21) (fX0_addHang (zI sL 9 x1.toNatClampNeg) (10 : Int32) sL) [(.int (zI sL 9 x1.toNatClampNeg)), (.int (10 : Int32))] [] [(0, qL, sL)] (fun r_5 => none) (fun r_5 => [(0, qL, r_5)]) [] (fun r_5 => [(0, qL, r_5)]) C dX0_weighNodes_35 zy_X0_addHang zw_478 (fun _ hr9 => mX0_addHang  hr9) (by decide) rfl rfl (by decide) rfl (Nat.le_of_ble_eq_true rfl) (List.Perm.refl _) (fun _ => List.Perm.refl _) rfl (fun r_5 hr_6 => ?_)
      show zJ X 2 res _ 38 [(0, (.ref (qL 0))), (1, (.int x1))] [] [(0, qL, r_5)]
      refine z_aload_n (pc := 38) 0 rfl rfl C dX0_weighNodes_38 ?_
      refine z_aload_n (pc := 39) 0 rfl rfl C dX0_weighNodes_39 ?_
      refine z_getR (pc := 40) 0 9 10 C dX0_weighNodes_40 rfl (by decide) (by decide) rfl zw_153 ?_
      refine z_iload_n (pc := 43) 1 rfl rfl C dX0_weighNodes_43 ?_
      refine z_iald (pc := 44) 0 C dX0_weighNodes_44 rfl (by unfold zAr; decide) ?_
      refine z_iconst (pc := 45) (1 : Int32) (by decide) C dX0_weighNodes_45 ?_
      refine z_callV (pc := 46) (rf' := 1) (rl' := 21) (fX0_addHang (zI r_5 10 x1.toNatClampNeg) (1 : Int32) r_5) [(.int (zI r_5 10 x1.toNatClampNeg)), (.int (1 : Int32))] [] [(0, qL, r_5)] (fun r_7 => none) (fun r_7 => [(0, qL, r_7)]) [] (fun r_7 => [(0, qL, r_7)]) C dX0_weighNodes_46 zy_X0_addHang zw_478 (fun _ hr9 => mX0_addHang  hr9) (by decide) rfl rfl (by decide) rfl (Nat.le_of_ble_eq_true rfl) (List.Perm.refl _) (fun _ => List.Perm.refl _) rfl (fun r_7 hr_8 => ?_)
      show zJ X 2 res _ 49 [(0, (.ref (qL 0))), (1, (.int x1))] [] [(0, qL, r_7)]
      refine z_aload_n (pc := 49) 0 rfl rfl C dX0_weighNodes_49 ?_
      refine z_aload_n (pc := 50) 0 rfl rfl C dX0_weighNodes_50 ?_
      refine z_getR (pc := 51) 0 10 11 C dX0_weighNodes_51 rfl (by decide) (by decide) rfl zw_155 ?_
      refine z_iload_n (pc := 54) 1 rfl rfl C dX0_weighNodes_54 ?_
      refine z_iald (pc := 55) 0 C dX0_weighNodes_55 rfl (by unfold zAr; decide) ?_
      refine z_iconst (pc := 56) (1 : Int32) (by decide) C dX0_weighNodes_56 ?_
      refine z_callV (pc := 57) (rf' := 1) (rl' := 21) (fX0_addHang (zI r_7 11 x1.toNatClampNeg) (1 : Int32) r_7) [(.int (zI r_7 11 x1.toNatClampNeg)), (.int (1 : Int32))] [] [(0, qL, r_7)] (fun r_9 => none) (fun r_9 => [(0, qL, r_9)]) [] (fun r_9 => [(0, qL, r_9)]) C dX0_weighNodes_57 zy_X0_addHang zw_478 (fun _ hr9 => mX0_addHang  hr9) (by decide) rfl rfl (by decide) rfl (Nat.le_of_ble_eq_true rfl) (List.Perm.refl _) (fun _ => List.Perm.refl _) rfl (fun r_9 hr_10 => ?_)
      show zJ X 2 res _ 60 [(0, (.ref (qL 0))), (1, (.int x1))] [] [(0, qL, r_9)]
      refine z_iinc (pc := 60) (x1 + 1) 1 rfl rfl [(0, (.ref (qL 0))), (1, (.int (x1 + 1)))] [1, 0] (by decide) rfl C dX0_weighNodes_60 ?_
      refine z_goto (pc := 63) 10 C dX0_weighNodes_63 (by decide) ?_
      exact hk_10 _ _
def fX0_weighNodes (F : Nat) (sL : zOS) : Option (zOS) := (Option.bind (fJ7_fill_53178 F 96 7 (0 : Int32) sL) (fun r_1 : zOS => (zit (P := Int32 × zOS) (R := zOS) (fun kc9 p9 => bX0_weighNodes_10 F kc9 p9.1 p9.2) F ((0 : Int32), r_1))))
set_option maxRecDepth 20000 in
theorem wX0_weighNodes {X : zCx} {res : zOS} {F : Nat} {qL : Nat → Nat} {sL : zOS} (C : zC X RX0 cX0_weighNodes 2 2 43) (hR : zR X none none [(0, qL, res)])  : zJ X 2 res (fX0_weighNodes F sL) 0 [(0, (.ref (qL 0)))] [] [(0, qL, sL)] := by
  unfold fX0_weighNodes
  refine z_aload_n (pc := 0) 0 rfl rfl C dX0_weighNodes_0 ?_
  refine z_getR (pc := 1) 0 6 7 C dX0_weighNodes_1 rfl (by decide) (by decide) rfl zw_149 ?_
  refine z_iconst (pc := 4) (0 : Int32) (by decide) C dX0_weighNodes_4 ?_
  refine z_callS (pc := 5) (rf' := 0) (rl' := 0) (fJ7_fill_53178 F 96 7 (0 : Int32) sL) [(.ref (qL 7)), (.int (0 : Int32))] [] [(0, qL, sL)] (fun r_1 => none) (fun r_1 => [(0, qL, r_1)]) [] (fun r_1 => [(0, qL, r_1)]) C dX0_weighNodes_5 zy_J7_fill_53178 zw_475 (fun _ hr9 => mJ7_fill_53178 (by unfold zAr; decide) hr9) (by decide) rfl (Nat.le_of_ble_eq_true rfl) (List.Perm.refl _) (fun _ => List.Perm.refl _) rfl (fun r_1 hr_2 => ?_)
  show zJ X 2 res _ 8 [(0, (.ref (qL 0)))] [] [(0, qL, r_1)]
  refine z_iconst (pc := 8) (0 : Int32) (by decide) C dX0_weighNodes_8 ?_
  refine z_istore_n (pc := 9) [(0, (.ref (qL 0))), (1, (.int (0 : Int32)))] [1, 0] (by decide) rfl rfl C dX0_weighNodes_9 ?_
  show zJ X 2 res _ 10 [(0, (.ref (qL 0))), (1, (.int (0 : Int32)))] [] [(0, qL, r_1)]
  exact zit_J (P := Int32 × zOS) (B := (fun kc9 p9 => bX0_weighNodes_10 F kc9 p9.1 p9.2)) (fun p9 => [(0, (.ref (qL 0))), (1, (.int p9.1))]) (fun p9 => [(0, qL, p9.2)]) (fun kc9 hk9 p9 => vX0_weighNodes_10 C hR   (fun a0 a1 => hk9 (a0, a1)) p9.1 p9.2) F _
theorem mX0_weighNodes {F : Nat} {qL : Nat → Nat} {sL : zOS} {res : zOS}  (hf : fX0_weighNodes F sL = some res) : zM yX0_weighNodes cX0_weighNodes 2 none 2 43 [(.ref (qL 0))] [(0, qL, sL)] none [(0, qL, res)] := zM_of (by decide +kernel) (Nat.le_of_ble_eq_true rfl) (fun X C hR => wX0_weighNodes (F := F) C hR  hf)
theorem dX0_refresh_0 : decode cX0_refresh 0 = .ok (.aload_n 0, 1) := by decide +kernel
theorem dX0_refresh_1 : decode cX0_refresh 1 = .ok (.aload_n 1, 1) := by decide +kernel
theorem dX0_refresh_2 : decode cX0_refresh 2 = .ok (.invokevirtual 64, 3) := by decide +kernel
theorem dX0_refresh_5 : decode cX0_refresh 5 = .ok (.ifCond .eq 4, 3) := by decide +kernel
theorem dX0_refresh_8 : decode cX0_refresh 8 = .ok (.return_, 1) := by decide +kernel
theorem dX0_refresh_9 : decode cX0_refresh 9 = .ok (.aload_n 1, 1) := by decide +kernel
theorem dX0_refresh_10 : decode cX0_refresh 10 = .ok (.iconst 0, 1) := by decide +kernel
theorem dX0_refresh_11 : decode cX0_refresh 11 = .ok (.aload_n 0, 1) := by decide +kernel
theorem dX0_refresh_12 : decode cX0_refresh 12 = .ok (.getfield 9, 3) := by decide +kernel
theorem dX0_refresh_15 : decode cX0_refresh 15 = .ok (.iconst 0, 1) := by decide +kernel
theorem dX0_refresh_16 : decode cX0_refresh 16 = .ok (.iconst 4, 1) := by decide +kernel
theorem dX0_refresh_17 : decode cX0_refresh 17 = .ok (.invokestatic 68, 3) := by decide +kernel
theorem dX0_refresh_20 : decode cX0_refresh 20 = .ok (.aload_n 0, 1) := by decide +kernel
theorem dX0_refresh_21 : decode cX0_refresh 21 = .ok (.invokevirtual 74, 3) := by decide +kernel
theorem dX0_refresh_24 : decode cX0_refresh 24 = .ok (.aload_n 0, 1) := by decide +kernel
theorem dX0_refresh_25 : decode cX0_refresh 25 = .ok (.invokevirtual 77, 3) := by decide +kernel
theorem dX0_refresh_28 : decode cX0_refresh 28 = .ok (.aload_n 0, 1) := by decide +kernel
theorem dX0_refresh_29 : decode cX0_refresh 29 = .ok (.invokevirtual 80, 3) := by decide +kernel
theorem dX0_refresh_32 : decode cX0_refresh 32 = .ok (.aload_n 0, 1) := by decide +kernel
theorem dX0_refresh_33 : decode cX0_refresh 33 = .ok (.invokevirtual 83, 3) := by decide +kernel
theorem dX0_refresh_36 : decode cX0_refresh 36 = .ok (.aload_n 0, 1) := by decide +kernel
theorem dX0_refresh_37 : decode cX0_refresh 37 = .ok (.invokevirtual 86, 3) := by decide +kernel
theorem dX0_refresh_40 : decode cX0_refresh 40 = .ok (.return_, 1) := by decide +kernel
def fX0_refresh (F : Nat) (sL : zOS) (sP : zOS) : Option (zOS) := (Option.bind (fX0_isAsRead F sL sP) (fun r_1 : Int32 => (if r_1 = 0 then (zlet (zsL sL 1 (va_cpy (zL sP 1) (zL sL 1) (0 : Int32).toNatClampNeg (0 : Int32).toNatClampNeg (4 : Int32).toNatClampNeg)) (fun sL_3 : zOS => (Option.bind (fX0_findPieces F sL_3) (fun r_4 : zOS => (Option.bind (fX0_joinPieces F r_4) (fun r_6 : zOS => (Option.bind (fX0_numberNodes F r_6) (fun r_8 : zOS => (Option.bind (fX0_findGates F r_8) (fun r_10 : zOS => (Option.bind (fX0_weighNodes F r_10) (fun r_12 : zOS => (some (r_12)))))))))))))) else (some (sL)))))
set_option maxRecDepth 20000 in
theorem wX0_refresh {X : zCx} {res : zOS} {F : Nat} {qL : Nat → Nat} {qP : Nat → Nat} {sL : zOS} {sP : zOS} (C : zC X RX0 cX0_refresh 2 4 91) (hR : zR X none none [(0, qL, res), (2, qP, sP)])  : zJ X 2 res (fX0_refresh F sL sP) 0 [(0, (.ref (qL 0))), (1, (.ref (qP 1)))] [] [(0, qL, sL), (2, qP, sP)] := by
  unfold fX0_refresh
  refine z_aload_n (pc := 0) 0 rfl rfl C dX0_refresh_0 ?_
  refine z_aload_n (pc := 1) 1 rfl rfl C dX0_refresh_1 ?_
  refine z_callV (pc := 2) (rf' := 0) (rl' := 0) (fX0_isAsRead F sL sP) [(.ref (qP 1))] [] [(0, qL, sL), (2, qP, sP)] (fun r_1 => (some (.int r_1))) (fun r_1 => [(0, qL, sL), (2, qP, sP)]) [] (fun r_1 => [(0, qL, sL), (2, qP, sP)]) C dX0_refresh_2 zy_X0_isAsRead zw_407 (fun _ hr9 => mX0_isAsRead  hr9) (by decide) rfl rfl (by decide) rfl (Nat.le_of_ble_eq_true rfl) (List.Perm.refl _) (fun _ => List.Perm.refl _) rfl (fun r_1 hr_2 => ?_)
  show zJ X 2 res _ 5 [(0, (.ref (qL 0))), (1, (.ref (qP 1)))] [(.int r_1)] [(0, qL, sL), (2, qP, sP)]
  refine z_if_eq (pc := 5) 9 C dX0_refresh_5 (by decide) ?_ ?_
  · refine z_aload_n (pc := 9) 1 rfl rfl C dX0_refresh_9 ?_
    refine z_iconst (pc := 10) (0 : Int32) (by decide) C dX0_refresh_10 ?_
    refine z_aload_n (pc := 11) 0 rfl rfl C dX0_refresh_11 ?_
    refine z_getR (pc := 12) 0 0 1 C dX0_refresh_12 rfl (by decide) (by decide) rfl zw_143 ?_
    refine z_iconst (pc := 15) (0 : Int32) (by decide) C dX0_refresh_15 ?_
    refine z_iconst (pc := 16) (4 : Int32) (by decide) C dX0_refresh_16 ?_
    refine z_copyl (n0 := 4) (n1 := 4) (pc := 17) 1 0 C dX0_refresh_17 zw_411 zw_299 zw_298 zw_83 rfl rfl (by unfold zAr; decide) (by unfold zAr; decide) (by decide) (by decide) (by decide) (by decide) (by decide) (by decide) (Nat.le_of_ble_eq_true rfl) [(0, qL, (zsL sL 1 (va_cpy (zL sP 1) (zL sL 1) (0 : Int32).toNatClampNeg (0 : Int32).toNatClampNeg (4 : Int32).toNatClampNeg))), (2, qP, sP)] rfl ?_
    refine z_letc (fun z9 => [(0, qL, z9), (2, qP, sP)]) (fun sL_3 => ?_)
    refine z_aload_n (pc := 20) 0 rfl rfl C dX0_refresh_20 ?_
    refine z_callV (pc := 21) (rf' := 2) (rl' := 51) (fX0_findPieces F sL_3) [] [] [(0, qL, sL_3)] (fun r_4 => none) (fun r_4 => [(0, qL, r_4)]) [(2, qP, sP)] (fun r_4 => [(0, qL, r_4), (2, qP, sP)]) C dX0_refresh_21 zy_X0_findPieces zw_412 (fun _ hr9 => mX0_findPieces  hr9) (by decide) rfl rfl (by decide) rfl (Nat.le_of_ble_eq_true rfl) (List.Perm.refl _) (fun _ => List.Perm.refl _) rfl (fun r_4 hr_5 => ?_)
    show zJ X 2 res _ 24 [(0, (.ref (qL 0))), (1, (.ref (qP 1)))] [] [(0, qL, r_4), (2, qP, sP)]
    refine z_aload_n (pc := 24) 0 rfl rfl C dX0_refresh_24 ?_
    refine z_callV (pc := 25) (rf' := 3) (rl' := 70) (fX0_joinPieces F r_4) [] [] [(0, qL, r_4)] (fun r_6 => none) (fun r_6 => [(0, qL, r_6)]) [(2, qP, sP)] (fun r_6 => [(0, qL, r_6), (2, qP, sP)]) C dX0_refresh_25 zy_X0_joinPieces zw_429 (fun _ hr9 => mX0_joinPieces  hr9) (by decide) rfl rfl (by decide) rfl (Nat.le_of_ble_eq_true rfl) (List.Perm.refl _) (fun _ => List.Perm.refl _) rfl (fun r_6 hr_7 => ?_)
    show zJ X 2 res _ 28 [(0, (.ref (qL 0))), (1, (.ref (qP 1)))] [] [(0, qL, r_6), (2, qP, sP)]
    refine z_aload_n (pc := 28) 0 rfl rfl C dX0_refresh_28 ?_
    refine z_callV (pc := 29) (rf' := 1) (rl' := 21) (fX0_numberNodes F r_6) [] [] [(0, qL, r_6)] (fun r_8 => none) (fun r_8 => [(0, qL, r_8)]) [(2, qP, sP)] (fun r_8 => [(0, qL, r_8), (2, qP, sP)]) C dX0_refresh_29 zy_X0_numberNodes zw_447 (fun _ hr9 => mX0_numberNodes  hr9) (by decide) rfl rfl (by decide) rfl (Nat.le_of_ble_eq_true rfl) (List.Perm.refl _) (fun _ => List.Perm.refl _) rfl (fun r_8 hr_9 => ?_)
    show zJ X 2 res _ 32 [(0, (.ref (qL 0))), (1, (.ref (qP 1)))] [] [(0, qL, r_8), (2, qP, sP)]
    refine z_aload_n (pc := 32) 0 rfl rfl C dX0_refresh_32 ?_
    refine z_callV (pc := 33) (rf' := 2) (rl' := 52) (fX0_findGates F r_8) [] [] [(0, qL, r_8)] (fun r_10 => none) (fun r_10 => [(0, qL, r_10)]) [(2, qP, sP)] (fun r_10 => [(0, qL, r_10), (2, qP, sP)]) C dX0_refresh_33 zy_X0_findGates zw_455 (fun _ hr9 => mX0_findGates  hr9) (by decide) rfl rfl (by decide) rfl (Nat.le_of_ble_eq_true rfl) (List.Perm.refl _) (fun _ => List.Perm.refl _) rfl (fun r_10 hr_11 => ?_)
    show zJ X 2 res _ 36 [(0, (.ref (qL 0))), (1, (.ref (qP 1)))] [] [(0, qL, r_10), (2, qP, sP)]
    refine z_aload_n (pc := 36) 0 rfl rfl C dX0_refresh_36 ?_
    refine z_callV (pc := 37) (rf' := 2) (rl' := 43) (fX0_weighNodes F r_10) [] [] [(0, qL, r_10)] (fun r_12 => none) (fun r_12 => [(0, qL, r_12)]) [(2, qP, sP)] (fun r_12 => [(0, qL, r_12), (2, qP, sP)]) C dX0_refresh_37 zy_X0_weighNodes zw_471 (fun _ hr9 => mX0_weighNodes  hr9) (by decide) rfl rfl (by decide) rfl (Nat.le_of_ble_eq_true rfl) (List.Perm.refl _) (fun _ => List.Perm.refl _) rfl (fun r_12 hr_13 => ?_)
    show zJ X 2 res _ 40 [(0, (.ref (qL 0))), (1, (.ref (qP 1)))] [] [(0, qL, r_12), (2, qP, sP)]
    exact z_return (pc := 40) C hR dX0_refresh_40 (fun h => by subst h; exact ⟨rfl, rfl⟩)
  · exact z_return (pc := 8) C hR dX0_refresh_8 (fun h => by subst h; exact ⟨rfl, rfl⟩)
theorem mX0_refresh {F : Nat} {qL : Nat → Nat} {qP : Nat → Nat} {sL : zOS} {sP : zOS} {res : zOS}  (hf : fX0_refresh F sL sP = some res) : zM yX0_refresh cX0_refresh 2 none 4 91 [(.ref (qL 0)), (.ref (qP 1))] [(0, qL, sL), (2, qP, sP)] none [(0, qL, res), (2, qP, sP)] := zM_of (by decide +kernel) (Nat.le_of_ble_eq_true rfl) (fun X C hR => wX0_refresh (F := F) C hR  hf)
