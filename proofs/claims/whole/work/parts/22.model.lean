theorem dX5_ofDevice_0 : decode cX5_ofDevice 0 = .ok (.aload_n 0, 1) := by decide +kernel
theorem dX5_ofDevice_1 : decode cX5_ofDevice 1 = .ok (.getfield 7, 3) := by decide +kernel
theorem dX5_ofDevice_4 : decode cX5_ofDevice 4 = .ok (.bipush 9, 2) := by decide +kernel
theorem dX5_ofDevice_6 : decode cX5_ofDevice 6 = .ok (.iconst 3, 1) := by decide +kernel
theorem dX5_ofDevice_7 : decode cX5_ofDevice 7 = .ok (.iload_n 1, 1) := by decide +kernel
theorem dX5_ofDevice_8 : decode cX5_ofDevice 8 = .ok (.imul, 1) := by decide +kernel
theorem dX5_ofDevice_9 : decode cX5_ofDevice 9 = .ok (.iadd, 1) := by decide +kernel
theorem dX5_ofDevice_10 : decode cX5_ofDevice 10 = .ok (.iload_n 2, 1) := by decide +kernel
theorem dX5_ofDevice_11 : decode cX5_ofDevice 11 = .ok (.iadd, 1) := by decide +kernel
theorem dX5_ofDevice_12 : decode cX5_ofDevice 12 = .ok (.iaload, 1) := by decide +kernel
theorem dX5_ofDevice_13 : decode cX5_ofDevice 13 = .ok (.ireturn, 1) := by decide +kernel
def fX5_ofDevice (x1 : Int32) (x2 : Int32) (sD : zOS) : Option (Int32) := (zchk (((9 : Int32) + ((3 : Int32) * x1)) + x2) 46 (some (zI sD 1 (((9 : Int32) + ((3 : Int32) * x1)) + x2).toNatClampNeg)))
set_option maxRecDepth 20000 in
theorem wX5_ofDevice {X : zCx} {res : Int32}  {qD : Nat → Nat} {x1 : Int32} {x2 : Int32} {sD : zOS} (C : zC X RX5 cX5_ofDevice 3 0 0) (hR : zR X (some .int) (some (.int res)) [(5, qD, sD)])  : zJ X 3 res (fX5_ofDevice x1 x2 sD) 0 [(0, (.ref (qD 0))), (1, (.int x1)), (2, (.int x2))] [] [(5, qD, sD)] := by
  unfold fX5_ofDevice
  refine z_aload_n (pc := 0) 0 rfl rfl C dX5_ofDevice_0 ?_
  refine z_getR (pc := 1) 0 0 1 C dX5_ofDevice_1 rfl (by decide) (by decide) rfl zw_715 ?_
  refine z_bipush (pc := 4) (9 : Int32) (by decide) C dX5_ofDevice_4 ?_
  refine z_iconst (pc := 6) (3 : Int32) (by decide) C dX5_ofDevice_6 ?_
  refine z_iload_n (pc := 7) 1 rfl rfl C dX5_ofDevice_7 ?_
  refine z_imul (pc := 8) C dX5_ofDevice_8 ?_
  refine z_iadd (pc := 9) C dX5_ofDevice_9 ?_
  refine z_iload_n (pc := 10) 2 rfl rfl C dX5_ofDevice_10 ?_
  refine z_iadd (pc := 11) C dX5_ofDevice_11 ?_
  refine z_iald (pc := 12) 0 C dX5_ofDevice_12 rfl (by unfold zAr; decide) ?_
  exact z_ireturn (pc := 13) C hR dX5_ofDevice_13 (fun h => by subst h; exact ⟨rfl, rfl⟩)
theorem mX5_ofDevice  {qD : Nat → Nat} {x1 : Int32} {x2 : Int32} {sD : zOS} {res : Int32}  (hf : fX5_ofDevice x1 x2 sD = some res) : zM yX5_ofDevice cX5_ofDevice 3 (some .int) 0 0 [(.ref (qD 0)), (.int x1), (.int x2)] [(5, qD, sD)] (some (.int res)) [(5, qD, sD)] := zM_of (by decide +kernel) (Nat.le_of_ble_eq_true rfl) (fun X C hR => wX5_ofDevice C hR  hf)
theorem dX5_ofPin_0 : decode cX5_ofPin 0 = .ok (.aload_n 0, 1) := by decide +kernel
theorem dX5_ofPin_1 : decode cX5_ofPin 1 = .ok (.getfield 7, 3) := by decide +kernel
theorem dX5_ofPin_4 : decode cX5_ofPin 4 = .ok (.bipush 28, 2) := by decide +kernel
theorem dX5_ofPin_6 : decode cX5_ofPin 6 = .ok (.iconst 3, 1) := by decide +kernel
theorem dX5_ofPin_7 : decode cX5_ofPin 7 = .ok (.iload_n 1, 1) := by decide +kernel
theorem dX5_ofPin_8 : decode cX5_ofPin 8 = .ok (.imul, 1) := by decide +kernel
theorem dX5_ofPin_9 : decode cX5_ofPin 9 = .ok (.iadd, 1) := by decide +kernel
theorem dX5_ofPin_10 : decode cX5_ofPin 10 = .ok (.iload_n 2, 1) := by decide +kernel
theorem dX5_ofPin_11 : decode cX5_ofPin 11 = .ok (.iadd, 1) := by decide +kernel
theorem dX5_ofPin_12 : decode cX5_ofPin 12 = .ok (.iaload, 1) := by decide +kernel
theorem dX5_ofPin_13 : decode cX5_ofPin 13 = .ok (.ireturn, 1) := by decide +kernel
def fX5_ofPin (x1 : Int32) (x2 : Int32) (sD : zOS) : Option (Int32) := (zchk (((28 : Int32) + ((3 : Int32) * x1)) + x2) 46 (some (zI sD 1 (((28 : Int32) + ((3 : Int32) * x1)) + x2).toNatClampNeg)))
set_option maxRecDepth 20000 in
theorem wX5_ofPin {X : zCx} {res : Int32}  {qD : Nat → Nat} {x1 : Int32} {x2 : Int32} {sD : zOS} (C : zC X RX5 cX5_ofPin 3 0 0) (hR : zR X (some .int) (some (.int res)) [(5, qD, sD)])  : zJ X 3 res (fX5_ofPin x1 x2 sD) 0 [(0, (.ref (qD 0))), (1, (.int x1)), (2, (.int x2))] [] [(5, qD, sD)] := by
  unfold fX5_ofPin
  refine z_aload_n (pc := 0) 0 rfl rfl C dX5_ofPin_0 ?_
  refine z_getR (pc := 1) 0 0 1 C dX5_ofPin_1 rfl (by decide) (by decide) rfl zw_715 ?_
  refine z_bipush (pc := 4) (28 : Int32) (by decide) C dX5_ofPin_4 ?_
  refine z_iconst (pc := 6) (3 : Int32) (by decide) C dX5_ofPin_6 ?_
  refine z_iload_n (pc := 7) 1 rfl rfl C dX5_ofPin_7 ?_
  refine z_imul (pc := 8) C dX5_ofPin_8 ?_
  refine z_iadd (pc := 9) C dX5_ofPin_9 ?_
  refine z_iload_n (pc := 10) 2 rfl rfl C dX5_ofPin_10 ?_
  refine z_iadd (pc := 11) C dX5_ofPin_11 ?_
  refine z_iald (pc := 12) 0 C dX5_ofPin_12 rfl (by unfold zAr; decide) ?_
  exact z_ireturn (pc := 13) C hR dX5_ofPin_13 (fun h => by subst h; exact ⟨rfl, rfl⟩)
theorem mX5_ofPin  {qD : Nat → Nat} {x1 : Int32} {x2 : Int32} {sD : zOS} {res : Int32}  (hf : fX5_ofPin x1 x2 sD = some res) : zM yX5_ofPin cX5_ofPin 3 (some .int) 0 0 [(.ref (qD 0)), (.int x1), (.int x2)] [(5, qD, sD)] (some (.int res)) [(5, qD, sD)] := zM_of (by decide +kernel) (Nat.le_of_ble_eq_true rfl) (fun X C hR => wX5_ofPin C hR  hf)
theorem dX5_pinNode_0 : decode cX5_pinNode 0 = .ok (.aload_n 0, 1) := by decide +kernel
theorem dX5_pinNode_1 : decode cX5_pinNode 1 = .ok (.getfield 22, 3) := by decide +kernel
theorem dX5_pinNode_4 : decode cX5_pinNode 4 = .ok (.sipush 128, 3) := by decide +kernel
theorem dX5_pinNode_7 : decode cX5_pinNode 7 = .ok (.bipush 8, 2) := by decide +kernel
theorem dX5_pinNode_9 : decode cX5_pinNode 9 = .ok (.aload_n 0, 1) := by decide +kernel
theorem dX5_pinNode_10 : decode cX5_pinNode 10 = .ok (.iload_n 1, 1) := by decide +kernel
theorem dX5_pinNode_11 : decode cX5_pinNode 11 = .ok (.iconst 1, 1) := by decide +kernel
theorem dX5_pinNode_12 : decode cX5_pinNode 12 = .ok (.invokevirtual 172, 3) := by decide +kernel
theorem dX5_pinNode_15 : decode cX5_pinNode 15 = .ok (.imul, 1) := by decide +kernel
theorem dX5_pinNode_16 : decode cX5_pinNode 16 = .ok (.iadd, 1) := by decide +kernel
theorem dX5_pinNode_17 : decode cX5_pinNode 17 = .ok (.aload_n 0, 1) := by decide +kernel
theorem dX5_pinNode_18 : decode cX5_pinNode 18 = .ok (.iload_n 1, 1) := by decide +kernel
theorem dX5_pinNode_19 : decode cX5_pinNode 19 = .ok (.iconst 0, 1) := by decide +kernel
theorem dX5_pinNode_20 : decode cX5_pinNode 20 = .ok (.invokevirtual 172, 3) := by decide +kernel
theorem dX5_pinNode_23 : decode cX5_pinNode 23 = .ok (.iadd, 1) := by decide +kernel
theorem dX5_pinNode_24 : decode cX5_pinNode 24 = .ok (.iaload, 1) := by decide +kernel
theorem dX5_pinNode_25 : decode cX5_pinNode 25 = .ok (.ireturn, 1) := by decide +kernel
def fX5_pinNode (x1 : Int32) (sD : zOS) : Option (Int32) := (Option.bind (fX5_ofPin x1 (1 : Int32) sD) (fun r_1 : Int32 => (Option.bind (fX5_ofPin x1 (0 : Int32) sD) (fun r_3 : Int32 => (zchk (((128 : Int32) + ((8 : Int32) * r_1)) + r_3) 192 (some (zI sD 5 (((128 : Int32) + ((8 : Int32) * r_1)) + r_3).toNatClampNeg)))))))
set_option maxRecDepth 20000 in
theorem wX5_pinNode {X : zCx} {res : Int32}  {qD : Nat → Nat} {x1 : Int32} {sD : zOS} (C : zC X RX5 cX5_pinNode 2 1 22) (hR : zR X (some .int) (some (.int res)) [(5, qD, sD)])  : zJ X 2 res (fX5_pinNode x1 sD) 0 [(0, (.ref (qD 0))), (1, (.int x1))] [] [(5, qD, sD)] := by
  unfold fX5_pinNode
  refine z_aload_n (pc := 0) 0 rfl rfl C dX5_pinNode_0 ?_
  refine z_getR (pc := 1) 0 6 5 C dX5_pinNode_1 rfl (by decide) (by decide) rfl zw_721 ?_
  refine z_sipush (pc := 4) (128 : Int32) (by decide) C dX5_pinNode_4 ?_
  refine z_bipush (pc := 7) (8 : Int32) (by decide) C dX5_pinNode_7 ?_
  refine z_aload_n (pc := 9) 0 rfl rfl C dX5_pinNode_9 ?_
  refine z_iload_n (pc := 10) 1 rfl rfl C dX5_pinNode_10 ?_
  refine z_iconst (pc := 11) (1 : Int32) (by decide) C dX5_pinNode_11 ?_
  refine z_callV (pc := 12) (rf' := 0) (rl' := 0) (fX5_ofPin x1 (1 : Int32) sD) [(.int x1), (.int (1 : Int32))] [(.int (8 : Int32)), (.int (128 : Int32)), (.ref (qD 5))] [(5, qD, sD)] (fun r_1 => (some (.int r_1))) (fun r_1 => [(5, qD, sD)]) [] (fun r_1 => [(5, qD, sD)]) C dX5_pinNode_12 zy_X5_ofPin zw_958 (fun _ hr9 => mX5_ofPin  hr9) (by decide) rfl rfl (by decide) rfl (Nat.le_of_ble_eq_true rfl) (List.Perm.refl _) (fun _ => List.Perm.refl _) rfl (fun r_1 hr_2 => ?_)
  show zJ X 2 res _ 15 [(0, (.ref (qD 0))), (1, (.int x1))] [(.int r_1), (.int (8 : Int32)), (.int (128 : Int32)), (.ref (qD 5))] [(5, qD, sD)]
  refine z_imul (pc := 15) C dX5_pinNode_15 ?_
  refine z_iadd (pc := 16) C dX5_pinNode_16 ?_
  refine z_aload_n (pc := 17) 0 rfl rfl C dX5_pinNode_17 ?_
  refine z_iload_n (pc := 18) 1 rfl rfl C dX5_pinNode_18 ?_
  refine z_iconst (pc := 19) (0 : Int32) (by decide) C dX5_pinNode_19 ?_
  refine z_callV (pc := 20) (rf' := 0) (rl' := 0) (fX5_ofPin x1 (0 : Int32) sD) [(.int x1), (.int (0 : Int32))] [(.int ((128 : Int32) + ((8 : Int32) * r_1))), (.ref (qD 5))] [(5, qD, sD)] (fun r_3 => (some (.int r_3))) (fun r_3 => [(5, qD, sD)]) [] (fun r_3 => [(5, qD, sD)]) C dX5_pinNode_20 zy_X5_ofPin zw_958 (fun _ hr9 => mX5_ofPin  hr9) (by decide) rfl rfl (by decide) rfl (Nat.le_of_ble_eq_true rfl) (List.Perm.refl _) (fun _ => List.Perm.refl _) rfl (fun r_3 hr_4 => ?_)
  show zJ X 2 res _ 23 [(0, (.ref (qD 0))), (1, (.int x1))] [(.int r_3), (.int ((128 : Int32) + ((8 : Int32) * r_1))), (.ref (qD 5))] [(5, qD, sD)]
  refine z_iadd (pc := 23) C dX5_pinNode_23 ?_
  refine z_iald (pc := 24) 0 C dX5_pinNode_24 rfl (by unfold zAr; decide) ?_
  exact z_ireturn (pc := 25) C hR dX5_pinNode_25 (fun h => by subst h; exact ⟨rfl, rfl⟩)
theorem mX5_pinNode  {qD : Nat → Nat} {x1 : Int32} {sD : zOS} {res : Int32}  (hf : fX5_pinNode x1 sD = some res) : zM yX5_pinNode cX5_pinNode 2 (some .int) 1 22 [(.ref (qD 0)), (.int x1)] [(5, qD, sD)] (some (.int res)) [(5, qD, sD)] := zM_of (by decide +kernel) (Nat.le_of_ble_eq_true rfl) (fun X C hR => wX5_pinNode C hR  hf)
theorem dX5_isPut_0 : decode cX5_isPut 0 = .ok (.bipush 10, 2) := by decide +kernel
theorem dX5_isPut_2 : decode cX5_isPut 2 = .ok (.iload_n 1, 1) := by decide +kernel
theorem dX5_isPut_3 : decode cX5_isPut 3 = .ok (.imul, 1) := by decide +kernel
theorem dX5_isPut_4 : decode cX5_isPut 4 = .ok (.istore 4, 2) := by decide +kernel
theorem dX5_isPut_6 : decode cX5_isPut 6 = .ok (.iconst 1, 1) := by decide +kernel
theorem dX5_isPut_7 : decode cX5_isPut 7 = .ok (.istore 5, 2) := by decide +kernel
theorem dX5_isPut_9 : decode cX5_isPut 9 = .ok (.iconst 0, 1) := by decide +kernel
theorem dX5_isPut_10 : decode cX5_isPut 10 = .ok (.istore 6, 2) := by decide +kernel
theorem dX5_isPut_12 : decode cX5_isPut 12 = .ok (.iload 6, 2) := by decide +kernel
theorem dX5_isPut_14 : decode cX5_isPut 14 = .ok (.bipush 10, 2) := by decide +kernel
theorem dX5_isPut_16 : decode cX5_isPut 16 = .ok (.if_icmp .ge 72, 3) := by decide +kernel
theorem dX5_isPut_19 : decode cX5_isPut 19 = .ok (.iload 5, 2) := by decide +kernel
theorem dX5_isPut_21 : decode cX5_isPut 21 = .ok (.ifCond .eq 58, 3) := by decide +kernel
theorem dX5_isPut_24 : decode cX5_isPut 24 = .ok (.iload 6, 2) := by decide +kernel
theorem dX5_isPut_26 : decode cX5_isPut 26 = .ok (.iload_n 2, 1) := by decide +kernel
theorem dX5_isPut_27 : decode cX5_isPut 27 = .ok (.if_icmp .ne 34, 3) := by decide +kernel
theorem dX5_isPut_30 : decode cX5_isPut 30 = .ok (.aload_n 0, 1) := by decide +kernel
theorem dX5_isPut_31 : decode cX5_isPut 31 = .ok (.getfield 40, 3) := by decide +kernel
theorem dX5_isPut_34 : decode cX5_isPut 34 = .ok (.iload 4, 2) := by decide +kernel
theorem dX5_isPut_36 : decode cX5_isPut 36 = .ok (.iload 6, 2) := by decide +kernel
theorem dX5_isPut_38 : decode cX5_isPut 38 = .ok (.iadd, 1) := by decide +kernel
theorem dX5_isPut_39 : decode cX5_isPut 39 = .ok (.iaload, 1) := by decide +kernel
theorem dX5_isPut_40 : decode cX5_isPut 40 = .ok (.iconst (-1), 1) := by decide +kernel
theorem dX5_isPut_41 : decode cX5_isPut 41 = .ok (.if_icmp .eq 34, 3) := by decide +kernel
theorem dX5_isPut_44 : decode cX5_isPut 44 = .ok (.aload_n 0, 1) := by decide +kernel
theorem dX5_isPut_45 : decode cX5_isPut 45 = .ok (.getfield 40, 3) := by decide +kernel
theorem dX5_isPut_48 : decode cX5_isPut 48 = .ok (.iload 4, 2) := by decide +kernel
theorem dX5_isPut_50 : decode cX5_isPut 50 = .ok (.iload 6, 2) := by decide +kernel
theorem dX5_isPut_52 : decode cX5_isPut 52 = .ok (.iadd, 1) := by decide +kernel
theorem dX5_isPut_53 : decode cX5_isPut 53 = .ok (.iaload, 1) := by decide +kernel
theorem dX5_isPut_54 : decode cX5_isPut 54 = .ok (.iload_n 3, 1) := by decide +kernel
theorem dX5_isPut_55 : decode cX5_isPut 55 = .ok (.if_icmp .ne 24, 3) := by decide +kernel
theorem dX5_isPut_58 : decode cX5_isPut 58 = .ok (.goto 17, 3) := by decide +kernel
theorem dX5_isPut_61 : decode cX5_isPut 61 = .ok (.aload_n 0, 1) := by decide +kernel
theorem dX5_isPut_62 : decode cX5_isPut 62 = .ok (.getfield 40, 3) := by decide +kernel
theorem dX5_isPut_65 : decode cX5_isPut 65 = .ok (.iload 4, 2) := by decide +kernel
theorem dX5_isPut_67 : decode cX5_isPut 67 = .ok (.iload 6, 2) := by decide +kernel
theorem dX5_isPut_69 : decode cX5_isPut 69 = .ok (.iadd, 1) := by decide +kernel
theorem dX5_isPut_70 : decode cX5_isPut 70 = .ok (.iaload, 1) := by decide +kernel
theorem dX5_isPut_71 : decode cX5_isPut 71 = .ok (.iload_n 3, 1) := by decide +kernel
theorem dX5_isPut_72 : decode cX5_isPut 72 = .ok (.if_icmp .eq 7, 3) := by decide +kernel
theorem dX5_isPut_75 : decode cX5_isPut 75 = .ok (.iconst 1, 1) := by decide +kernel
theorem dX5_isPut_76 : decode cX5_isPut 76 = .ok (.goto 4, 3) := by decide +kernel
theorem dX5_isPut_79 : decode cX5_isPut 79 = .ok (.iconst 0, 1) := by decide +kernel
theorem dX5_isPut_80 : decode cX5_isPut 80 = .ok (.istore 5, 2) := by decide +kernel
theorem dX5_isPut_82 : decode cX5_isPut 82 = .ok (.iinc 6 1, 3) := by decide +kernel
theorem dX5_isPut_85 : decode cX5_isPut 85 = .ok (.goto (-73), 3) := by decide +kernel
theorem dX5_isPut_88 : decode cX5_isPut 88 = .ok (.aload_n 0, 1) := by decide +kernel
theorem dX5_isPut_89 : decode cX5_isPut 89 = .ok (.getfield 40, 3) := by decide +kernel
theorem dX5_isPut_92 : decode cX5_isPut 92 = .ok (.iload 4, 2) := by decide +kernel
theorem dX5_isPut_94 : decode cX5_isPut 94 = .ok (.iload_n 2, 1) := by decide +kernel
theorem dX5_isPut_95 : decode cX5_isPut 95 = .ok (.iadd, 1) := by decide +kernel
theorem dX5_isPut_96 : decode cX5_isPut 96 = .ok (.iload 5, 2) := by decide +kernel
theorem dX5_isPut_98 : decode cX5_isPut 98 = .ok (.ifCond .eq 7, 3) := by decide +kernel
theorem dX5_isPut_101 : decode cX5_isPut 101 = .ok (.iload_n 3, 1) := by decide +kernel
theorem dX5_isPut_102 : decode cX5_isPut 102 = .ok (.goto 12, 3) := by decide +kernel
theorem dX5_isPut_105 : decode cX5_isPut 105 = .ok (.aload_n 0, 1) := by decide +kernel
theorem dX5_isPut_106 : decode cX5_isPut 106 = .ok (.getfield 40, 3) := by decide +kernel
theorem dX5_isPut_109 : decode cX5_isPut 109 = .ok (.iload 4, 2) := by decide +kernel
theorem dX5_isPut_111 : decode cX5_isPut 111 = .ok (.iload_n 2, 1) := by decide +kernel
theorem dX5_isPut_112 : decode cX5_isPut 112 = .ok (.iadd, 1) := by decide +kernel
theorem dX5_isPut_113 : decode cX5_isPut 113 = .ok (.iaload, 1) := by decide +kernel
theorem dX5_isPut_114 : decode cX5_isPut 114 = .ok (.iastore, 1) := by decide +kernel
theorem dX5_isPut_115 : decode cX5_isPut 115 = .ok (.iload 5, 2) := by decide +kernel
theorem dX5_isPut_117 : decode cX5_isPut 117 = .ok (.ireturn, 1) := by decide +kernel
def jX5_isPut_114 (F : Nat) (x5 : Int32) (v0 : Int32) (v1 : Int32) (sD : zOS) : Option (Int32 × zOS) := (zchk v1 70 (zlet (zsI sD 11 (upd (zI sD 11) v1.toNatClampNeg v0)) (fun sD_2 : zOS => (zbk x5 (some (x5, sD_2))))))
set_option maxRecDepth 20000 in
theorem wX5_isPut_114 {X : zCx} {res : Int32 × zOS} {F : Nat} {qD : Nat → Nat} (C : zC X RX5 cX5_isPut 7 0 0) (hR : zR X (some .boolean) (some (.int res.1)) [(5, qD, res.2)]) (x5 : Int32) (sD : zOS) (v0 : Int32) (v1 : Int32) : zJ X 7 res (jX5_isPut_114 F x5 v0 v1 sD) 114 [(5, (.int x5))] [(.int v0), (.int v1), (.ref (qD 11))] [(5, qD, sD)] := by
  unfold jX5_isPut_114
  refine z_iast (pc := 114) 0 C dX5_isPut_114 rfl (by unfold zAr; decide) [(5, qD, (zsI sD 11 (upd (zI sD 11) v1.toNatClampNeg v0)))] rfl ?_
  refine z_letc (fun z9 => [(5, qD, z9)]) (fun sD_2 => ?_)
  refine z_iload (pc := 115) 0 rfl C dX5_isPut_115 ?_
  exact z_zreturn (pc := 117) C hR dX5_isPut_117 (fun h => by subst h; exact ⟨rfl, rfl⟩)
def bX5_isPut_12 (F : Nat) (x2 : Int32) (x3 : Int32) (x4 : Int32) (sD : zOS) (kc_12 : (Int32 × Int32) → Option (Int32 × zOS)) (x5 : Int32) (x6 : Int32) : Option (Int32 × zOS) := (if (10 : Int32) ≤ x6 then (if x5 = 0 then (zchk (x4 + x2) 70 (jX5_isPut_114 F x5 (zI sD 11 (x4 + x2).toNatClampNeg) (x4 + x2) sD)) else (jX5_isPut_114 F x5 x3 (x4 + x2) sD)) else (if x5 = 0 then (kc_12 ((0 : Int32), (x6 + 1))) else (if x6 = x2 then (zchk (x4 + x6) 70 (if (zI sD 11 (x4 + x6).toNatClampNeg) = (-1 : Int32) then (kc_12 ((1 : Int32), (x6 + 1))) else (zchk (x4 + x6) 70 (if (zI sD 11 (x4 + x6).toNatClampNeg) = x3 then (kc_12 ((1 : Int32), (x6 + 1))) else (kc_12 ((0 : Int32), (x6 + 1))))))) else (zchk (x4 + x6) 70 (if (zI sD 11 (x4 + x6).toNatClampNeg) = x3 then (kc_12 ((0 : Int32), (x6 + 1))) else (kc_12 ((1 : Int32), (x6 + 1))))))))
set_option maxRecDepth 20000 in
theorem vX5_isPut_12 {X : zCx} {res : Int32 × zOS} {F : Nat} {qD : Nat → Nat} {sD : zOS} {x2 : Int32} {x3 : Int32} {x4 : Int32} {kc_12 : (Int32 × Int32) → Option (Int32 × zOS)} (C : zC X RX5 cX5_isPut 7 0 0) (hR : zR X (some .boolean) (some (.int res.1)) [(5, qD, res.2)]) (hk_12 : ∀ (y5 : Int32) (y6 : Int32), zJ X 7 res (kc_12 (y5, y6)) 12 [(0, (.ref (qD 0))), (2, (.int x2)), (3, (.int x3)), (4, (.int x4)), (5, (.int y5)), (6, (.int y6))] [] [(5, qD, sD)]) (x5 : Int32) (x6 : Int32) : zJ X 7 res (bX5_isPut_12 F x2 x3 x4 sD kc_12 x5 x6) 12 [(0, (.ref (qD 0))), (2, (.int x2)), (3, (.int x3)), (4, (.int x4)), (5, (.int x5)), (6, (.int x6))] [] [(5, qD, sD)] := by
  unfold bX5_isPut_12
  refine z_iload (pc := 12) 5 rfl C dX5_isPut_12 ?_
  refine z_bipush (pc := 14) (10 : Int32) (by decide) C dX5_isPut_14 ?_
  refine z_icmp_ge (pc := 16) 88 C dX5_isPut_16 (by decide) ?_ ?_
  · refine z_aload_n (pc := 88) 0 rfl rfl C dX5_isPut_88 ?_
    refine z_getR (pc := 89) 0 17 11 C dX5_isPut_89 rfl (by decide) (by decide) rfl zw_732 ?_
    refine z_iload (pc := 92) 3 rfl C dX5_isPut_92 ?_
    refine z_iload_n (pc := 94) 1 rfl rfl C dX5_isPut_94 ?_
    refine z_iadd (pc := 95) C dX5_isPut_95 ?_
    refine z_iload (pc := 96) 4 rfl C dX5_isPut_96 ?_
    refine z_if_eq (pc := 98) 105 C dX5_isPut_98 (by decide) ?_ ?_
    · refine z_aload_n (pc := 105) 0 rfl rfl C dX5_isPut_105 ?_
      refine z_getR (pc := 106) 0 17 11 C dX5_isPut_106 rfl (by decide) (by decide) rfl zw_732 ?_
      refine z_iload (pc := 109) 3 rfl C dX5_isPut_109 ?_
      refine z_iload_n (pc := 111) 1 rfl rfl C dX5_isPut_111 ?_
      refine z_iadd (pc := 112) C dX5_isPut_112 ?_
      refine z_iald (pc := 113) 0 C dX5_isPut_113 rfl (by unfold zAr; decide) ?_
      refine z_lv [(5, (.int x5))] [4] rfl ?_
      exact wX5_isPut_114 C hR   _ _ _ _
    · refine z_iload_n (pc := 101) 2 rfl rfl C dX5_isPut_101 ?_
      refine z_goto (pc := 102) 114 C dX5_isPut_102 (by decide) ?_
      refine z_lv [(5, (.int x5))] [4] rfl ?_
      exact wX5_isPut_114 C hR   _ _ _ _
  · refine z_iload (pc := 19) 4 rfl C dX5_isPut_19 ?_
    refine z_if_eq (pc := 21) 79 C dX5_isPut_21 (by decide) ?_ ?_
    · refine z_iconst (pc := 79) (0 : Int32) (by decide) C dX5_isPut_79 ?_
      refine z_istore (pc := 80) [(0, (.ref (qD 0))), (2, (.int x2)), (3, (.int x3)), (4, (.int x4)), (5, (.int (0 : Int32))), (6, (.int x6))] [1, 2, 3, 4, 0, 5] (by decide) rfl C dX5_isPut_80 ?_
      refine z_iinc (pc := 82) (x6 + 1) 5 rfl rfl [(0, (.ref (qD 0))), (2, (.int x2)), (3, (.int x3)), (4, (.int x4)), (5, (.int (0 : Int32))), (6, (.int (x6 + 1)))] [1, 2, 3, 4, 5, 0] (by decide) rfl C dX5_isPut_82 ?_
      refine z_goto (pc := 85) 12 C dX5_isPut_85 (by decide) ?_
      exact hk_12 _ _
    · refine z_iload (pc := 24) 5 rfl C dX5_isPut_24 ?_
      refine z_iload_n (pc := 26) 1 rfl rfl C dX5_isPut_26 ?_
      refine z_icmp_ne (pc := 27) 61 C dX5_isPut_27 (by decide) ?_ ?_
      · refine z_aload_n (pc := 30) 0 rfl rfl C dX5_isPut_30 ?_
        refine z_getR (pc := 31) 0 17 11 C dX5_isPut_31 rfl (by decide) (by decide) rfl zw_732 ?_
        refine z_iload (pc := 34) 3 rfl C dX5_isPut_34 ?_
        refine z_iload (pc := 36) 5 rfl C dX5_isPut_36 ?_
        refine z_iadd (pc := 38) C dX5_isPut_38 ?_
        refine z_iald (pc := 39) 0 C dX5_isPut_39 rfl (by unfold zAr; decide) ?_
        refine z_iconst (pc := 40) (-1 : Int32) (by decide) C dX5_isPut_40 ?_
        refine z_icmp_eq (pc := 41) 75 C dX5_isPut_41 (by decide) ?_ ?_
        · refine z_iconst (pc := 75) (1 : Int32) (by decide) C dX5_isPut_75 ?_
          refine z_goto (pc := 76) 80 C dX5_isPut_76 (by decide) ?_
          refine z_istore (pc := 80) [(0, (.ref (qD 0))), (2, (.int x2)), (3, (.int x3)), (4, (.int x4)), (5, (.int (1 : Int32))), (6, (.int x6))] [1, 2, 3, 4, 0, 5] (by decide) rfl C dX5_isPut_80 ?_
          refine z_iinc (pc := 82) (x6 + 1) 5 rfl rfl [(0, (.ref (qD 0))), (2, (.int x2)), (3, (.int x3)), (4, (.int x4)), (5, (.int (1 : Int32))), (6, (.int (x6 + 1)))] [1, 2, 3, 4, 5, 0] (by decide) rfl C dX5_isPut_82 ?_
          refine z_goto (pc := 85) 12 C dX5_isPut_85 (by decide) ?_
          exact hk_12 _ _
        · refine z_aload_n (pc := 44) 0 rfl rfl C dX5_isPut_44 ?_
          refine z_getR (pc := 45) 0 17 11 C dX5_isPut_45 rfl (by decide) (by decide) rfl zw_732 ?_
          refine z_iload (pc := 48) 3 rfl C dX5_isPut_48 ?_
          refine z_iload (pc := 50) 5 rfl C dX5_isPut_50 ?_
          refine z_iadd (pc := 52) C dX5_isPut_52 ?_
          refine z_iald (pc := 53) 0 C dX5_isPut_53 rfl (by unfold zAr; decide) ?_
          refine z_iload_n (pc := 54) 2 rfl rfl C dX5_isPut_54 ?_
          refine z_icmp_ne (pc := 55) 79 C dX5_isPut_55 (by decide) ?_ ?_
          · refine z_goto (pc := 58) 75 C dX5_isPut_58 (by decide) ?_
            refine z_iconst (pc := 75) (1 : Int32) (by decide) C dX5_isPut_75 ?_
            refine z_goto (pc := 76) 80 C dX5_isPut_76 (by decide) ?_
            refine z_istore (pc := 80) [(0, (.ref (qD 0))), (2, (.int x2)), (3, (.int x3)), (4, (.int x4)), (5, (.int (1 : Int32))), (6, (.int x6))] [1, 2, 3, 4, 0, 5] (by decide) rfl C dX5_isPut_80 ?_
            refine z_iinc (pc := 82) (x6 + 1) 5 rfl rfl [(0, (.ref (qD 0))), (2, (.int x2)), (3, (.int x3)), (4, (.int x4)), (5, (.int (1 : Int32))), (6, (.int (x6 + 1)))] [1, 2, 3, 4, 5, 0] (by decide) rfl C dX5_isPut_82 ?_
            refine z_goto (pc := 85) 12 C dX5_isPut_85 (by decide) ?_
            exact hk_12 _ _
          · refine z_iconst (pc := 79) (0 : Int32) (by decide) C dX5_isPut_79 ?_
            refine z_istore (pc := 80) [(0, (.ref (qD 0))), (2, (.int x2)), (3, (.int x3)), (4, (.int x4)), (5, (.int (0 : Int32))), (6, (.int x6))] [1, 2, 3, 4, 0, 5] (by decide) rfl C dX5_isPut_80 ?_
            refine z_iinc (pc := 82) (x6 + 1) 5 rfl rfl [(0, (.ref (qD 0))), (2, (.int x2)), (3, (.int x3)), (4, (.int x4)), (5, (.int (0 : Int32))), (6, (.int (x6 + 1)))] [1, 2, 3, 4, 5, 0] (by decide) rfl C dX5_isPut_82 ?_
            refine z_goto (pc := 85) 12 C dX5_isPut_85 (by decide) ?_
            exact hk_12 _ _
      · refine z_aload_n (pc := 61) 0 rfl rfl C dX5_isPut_61 ?_
        refine z_getR (pc := 62) 0 17 11 C dX5_isPut_62 rfl (by decide) (by decide) rfl zw_732 ?_
        refine z_iload (pc := 65) 3 rfl C dX5_isPut_65 ?_
        refine z_iload (pc := 67) 5 rfl C dX5_isPut_67 ?_
        refine z_iadd (pc := 69) C dX5_isPut_69 ?_
        refine z_iald (pc := 70) 0 C dX5_isPut_70 rfl (by unfold zAr; decide) ?_
        refine z_iload_n (pc := 71) 2 rfl rfl C dX5_isPut_71 ?_
        refine z_icmp_eq (pc := 72) 79 C dX5_isPut_72 (by decide) ?_ ?_
        · refine z_iconst (pc := 79) (0 : Int32) (by decide) C dX5_isPut_79 ?_
          refine z_istore (pc := 80) [(0, (.ref (qD 0))), (2, (.int x2)), (3, (.int x3)), (4, (.int x4)), (5, (.int (0 : Int32))), (6, (.int x6))] [1, 2, 3, 4, 0, 5] (by decide) rfl C dX5_isPut_80 ?_
          refine z_iinc (pc := 82) (x6 + 1) 5 rfl rfl [(0, (.ref (qD 0))), (2, (.int x2)), (3, (.int x3)), (4, (.int x4)), (5, (.int (0 : Int32))), (6, (.int (x6 + 1)))] [1, 2, 3, 4, 5, 0] (by decide) rfl C dX5_isPut_82 ?_
          refine z_goto (pc := 85) 12 C dX5_isPut_85 (by decide) ?_
          exact hk_12 _ _
        · refine z_iconst (pc := 75) (1 : Int32) (by decide) C dX5_isPut_75 ?_
          refine z_goto (pc := 76) 80 C dX5_isPut_76 (by decide) ?_
          refine z_istore (pc := 80) [(0, (.ref (qD 0))), (2, (.int x2)), (3, (.int x3)), (4, (.int x4)), (5, (.int (1 : Int32))), (6, (.int x6))] [1, 2, 3, 4, 0, 5] (by decide) rfl C dX5_isPut_80 ?_
          refine z_iinc (pc := 82) (x6 + 1) 5 rfl rfl [(0, (.ref (qD 0))), (2, (.int x2)), (3, (.int x3)), (4, (.int x4)), (5, (.int (1 : Int32))), (6, (.int (x6 + 1)))] [1, 2, 3, 4, 5, 0] (by decide) rfl C dX5_isPut_82 ?_
          refine z_goto (pc := 85) 12 C dX5_isPut_85 (by decide) ?_
          exact hk_12 _ _
def fX5_isPut (F : Nat) (x1 : Int32) (x2 : Int32) (x3 : Int32) (sD : zOS) : Option (Int32 × zOS) := (zlet ((10 : Int32) * x1) (fun x4_1 : Int32 => (zit (P := Int32 × Int32) (R := Int32 × zOS) (fun kc9 p9 => bX5_isPut_12 F x2 x3 x4_1 sD kc9 p9.1 p9.2) F ((1 : Int32), (0 : Int32)))))
set_option maxRecDepth 20000 in
theorem wX5_isPut {X : zCx} {res : Int32 × zOS} {F : Nat} {qD : Nat → Nat} {x1 : Int32} {x2 : Int32} {x3 : Int32} {sD : zOS} (C : zC X RX5 cX5_isPut 7 0 0) (hR : zR X (some .boolean) (some (.int res.1)) [(5, qD, res.2)])  : zJ X 7 res (fX5_isPut F x1 x2 x3 sD) 0 [(0, (.ref (qD 0))), (1, (.int x1)), (2, (.int x2)), (3, (.int x3))] [] [(5, qD, sD)] := by
  unfold fX5_isPut
  refine z_bipush (pc := 0) (10 : Int32) (by decide) C dX5_isPut_0 ?_
  refine z_iload_n (pc := 2) 1 rfl rfl C dX5_isPut_2 ?_
  refine z_imul (pc := 3) C dX5_isPut_3 ?_
  refine z_leti (fun x4_1 => ?_)
  refine z_istore (pc := 4) [(0, (.ref (qD 0))), (1, (.int x1)), (2, (.int x2)), (3, (.int x3)), (4, (.int x4_1))] [1, 2, 3, 4, 0] (by decide) rfl C dX5_isPut_4 ?_
  refine z_iconst (pc := 6) (1 : Int32) (by decide) C dX5_isPut_6 ?_
  refine z_istore (pc := 7) [(0, (.ref (qD 0))), (1, (.int x1)), (2, (.int x2)), (3, (.int x3)), (4, (.int x4_1)), (5, (.int (1 : Int32)))] [1, 2, 3, 4, 5, 0] (by decide) rfl C dX5_isPut_7 ?_
  refine z_iconst (pc := 9) (0 : Int32) (by decide) C dX5_isPut_9 ?_
  refine z_istore (pc := 10) [(0, (.ref (qD 0))), (1, (.int x1)), (2, (.int x2)), (3, (.int x3)), (4, (.int x4_1)), (5, (.int (1 : Int32))), (6, (.int (0 : Int32)))] [1, 2, 3, 4, 5, 6, 0] (by decide) rfl C dX5_isPut_10 ?_
  refine z_lv [(0, (.ref (qD 0))), (2, (.int x2)), (3, (.int x3)), (4, (.int x4_1)), (5, (.int (1 : Int32))), (6, (.int (0 : Int32)))] [0, 2, 3, 4, 5, 6] rfl ?_
  show zJ X 7 res _ 12 [(0, (.ref (qD 0))), (2, (.int x2)), (3, (.int x3)), (4, (.int x4_1)), (5, (.int (1 : Int32))), (6, (.int (0 : Int32)))] [] [(5, qD, sD)]
  exact zit_J (P := Int32 × Int32) (B := (fun kc9 p9 => bX5_isPut_12 F x2 x3 x4_1 sD kc9 p9.1 p9.2)) (fun p9 => [(0, (.ref (qD 0))), (2, (.int x2)), (3, (.int x3)), (4, (.int x4_1)), (5, (.int p9.1)), (6, (.int p9.2))]) (fun p9 => [(5, qD, sD)]) (fun kc9 hk9 p9 => vX5_isPut_12 C hR   (fun a0 a1 => hk9 (a0, a1)) p9.1 p9.2) F _
theorem mX5_isPut {F : Nat} {qD : Nat → Nat} {x1 : Int32} {x2 : Int32} {x3 : Int32} {sD : zOS} {res : Int32 × zOS}  (hf : fX5_isPut F x1 x2 x3 sD = some res) : zM yX5_isPut cX5_isPut 7 (some .boolean) 0 0 [(.ref (qD 0)), (.int x1), (.int x2), (.int x3)] [(5, qD, sD)] (some (.int res.1)) [(5, qD, res.2)] := zM_of (by decide +kernel) (Nat.le_of_ble_eq_true rfl) (fun X C hR => wX5_isPut (F := F) C hR  hf)
theorem dX5_isBegun_0 : decode cX5_isBegun 0 = .ok (.iconst 0, 1) := by decide +kernel
theorem dX5_isBegun_1 : decode cX5_isBegun 1 = .ok (.istore_n 1, 1) := by decide +kernel
theorem dX5_isBegun_2 : decode cX5_isBegun 2 = .ok (.iload_n 1, 1) := by decide +kernel
theorem dX5_isBegun_3 : decode cX5_isBegun 3 = .ok (.bipush 10, 2) := by decide +kernel
theorem dX5_isBegun_5 : decode cX5_isBegun 5 = .ok (.if_icmp .ge 16, 3) := by decide +kernel
theorem dX5_isBegun_8 : decode cX5_isBegun 8 = .ok (.aload_n 0, 1) := by decide +kernel
theorem dX5_isBegun_9 : decode cX5_isBegun 9 = .ok (.getfield 40, 3) := by decide +kernel
theorem dX5_isBegun_12 : decode cX5_isBegun 12 = .ok (.iload_n 1, 1) := by decide +kernel
theorem dX5_isBegun_13 : decode cX5_isBegun 13 = .ok (.iconst (-1), 1) := by decide +kernel
theorem dX5_isBegun_14 : decode cX5_isBegun 14 = .ok (.iastore, 1) := by decide +kernel
theorem dX5_isBegun_15 : decode cX5_isBegun 15 = .ok (.iinc 1 1, 3) := by decide +kernel
theorem dX5_isBegun_18 : decode cX5_isBegun 18 = .ok (.goto (-16), 3) := by decide +kernel
theorem dX5_isBegun_21 : decode cX5_isBegun 21 = .ok (.iconst 1, 1) := by decide +kernel
theorem dX5_isBegun_22 : decode cX5_isBegun 22 = .ok (.istore_n 1, 1) := by decide +kernel
theorem dX5_isBegun_23 : decode cX5_isBegun 23 = .ok (.iconst 0, 1) := by decide +kernel
theorem dX5_isBegun_24 : decode cX5_isBegun 24 = .ok (.istore_n 2, 1) := by decide +kernel
theorem dX5_isBegun_25 : decode cX5_isBegun 25 = .ok (.iload_n 2, 1) := by decide +kernel
theorem dX5_isBegun_26 : decode cX5_isBegun 26 = .ok (.aload_n 0, 1) := by decide +kernel
theorem dX5_isBegun_27 : decode cX5_isBegun 27 = .ok (.getfield 7, 3) := by decide +kernel
theorem dX5_isBegun_30 : decode cX5_isBegun 30 = .ok (.bipush 27, 2) := by decide +kernel
theorem dX5_isBegun_32 : decode cX5_isBegun 32 = .ok (.iaload, 1) := by decide +kernel
theorem dX5_isBegun_33 : decode cX5_isBegun 33 = .ok (.if_icmp .ge 45, 3) := by decide +kernel
theorem dX5_isBegun_36 : decode cX5_isBegun 36 = .ok (.aload_n 0, 1) := by decide +kernel
theorem dX5_isBegun_37 : decode cX5_isBegun 37 = .ok (.iload_n 2, 1) := by decide +kernel
theorem dX5_isBegun_38 : decode cX5_isBegun 38 = .ok (.invokevirtual 175, 3) := by decide +kernel
theorem dX5_isBegun_41 : decode cX5_isBegun 41 = .ok (.istore_n 3, 1) := by decide +kernel
theorem dX5_isBegun_42 : decode cX5_isBegun 42 = .ok (.iload_n 1, 1) := by decide +kernel
theorem dX5_isBegun_43 : decode cX5_isBegun 43 = .ok (.ifCond .eq 27, 3) := by decide +kernel
theorem dX5_isBegun_46 : decode cX5_isBegun 46 = .ok (.iload_n 3, 1) := by decide +kernel
theorem dX5_isBegun_47 : decode cX5_isBegun 47 = .ok (.iconst (-1), 1) := by decide +kernel
theorem dX5_isBegun_48 : decode cX5_isBegun 48 = .ok (.if_icmp .eq 18, 3) := by decide +kernel
theorem dX5_isBegun_51 : decode cX5_isBegun 51 = .ok (.aload_n 0, 1) := by decide +kernel
theorem dX5_isBegun_52 : decode cX5_isBegun 52 = .ok (.iconst 0, 1) := by decide +kernel
theorem dX5_isBegun_53 : decode cX5_isBegun 53 = .ok (.aload_n 0, 1) := by decide +kernel
theorem dX5_isBegun_54 : decode cX5_isBegun 54 = .ok (.iload_n 2, 1) := by decide +kernel
theorem dX5_isBegun_55 : decode cX5_isBegun 55 = .ok (.iconst 2, 1) := by decide +kernel
theorem dX5_isBegun_56 : decode cX5_isBegun 56 = .ok (.invokevirtual 172, 3) := by decide +kernel
theorem dX5_isBegun_59 : decode cX5_isBegun 59 = .ok (.iload_n 3, 1) := by decide +kernel
theorem dX5_isBegun_60 : decode cX5_isBegun 60 = .ok (.invokevirtual 215, 3) := by decide +kernel
theorem dX5_isBegun_63 : decode cX5_isBegun 63 = .ok (.ifCond .eq 7, 3) := by decide +kernel
theorem dX5_isBegun_66 : decode cX5_isBegun 66 = .ok (.iconst 1, 1) := by decide +kernel
theorem dX5_isBegun_67 : decode cX5_isBegun 67 = .ok (.goto 4, 3) := by decide +kernel
theorem dX5_isBegun_70 : decode cX5_isBegun 70 = .ok (.iconst 0, 1) := by decide +kernel
theorem dX5_isBegun_71 : decode cX5_isBegun 71 = .ok (.istore_n 1, 1) := by decide +kernel
theorem dX5_isBegun_72 : decode cX5_isBegun 72 = .ok (.iinc 2 1, 3) := by decide +kernel
theorem dX5_isBegun_75 : decode cX5_isBegun 75 = .ok (.goto (-50), 3) := by decide +kernel
theorem dX5_isBegun_78 : decode cX5_isBegun 78 = .ok (.iload_n 1, 1) := by decide +kernel
theorem dX5_isBegun_79 : decode cX5_isBegun 79 = .ok (.ireturn, 1) := by decide +kernel
def bX5_isBegun_25 (F : Nat) (kc_25 : (Int32 × Int32 × zOS) → Option (Int32 × zOS)) (x1 : Int32) (x2 : Int32) (sD : zOS) : Option (Int32 × zOS) := (zchk (27 : Int32) 46 (if (zI sD 1 (27 : Int32).toNatClampNeg) ≤ x2 then (zbk x1 (some (x1, sD))) else (Option.bind (fX5_pinNode x2 sD) (fun r_1 : Int32 => (if x1 = 0 then (kc_25 ((0 : Int32), (x2 + 1), sD)) else (if r_1 = (-1 : Int32) then (kc_25 ((1 : Int32), (x2 + 1), sD)) else (Option.bind (fX5_ofPin x2 (2 : Int32) sD) (fun r_3 : Int32 => (Option.bind (fX5_isPut F (0 : Int32) r_3 r_1 sD) (fun r_5 : Int32 × zOS => (if r_5.1 = 0 then (kc_25 ((0 : Int32), (x2 + 1), r_5.2)) else (kc_25 ((1 : Int32), (x2 + 1), r_5.2)))))))))))))
set_option maxRecDepth 20000 in
theorem vX5_isBegun_25 {X : zCx} {res : Int32 × zOS} {F : Nat} {qD : Nat → Nat} {kc_25 : (Int32 × Int32 × zOS) → Option (Int32 × zOS)} (C : zC X RX5 cX5_isBegun 4 2 43) (hR : zR X (some .boolean) (some (.int res.1)) [(5, qD, res.2)]) (hk_25 : ∀ (y1 : Int32) (y2 : Int32) (tD : zOS), zJ X 4 res (kc_25 (y1, y2, tD)) 25 [(0, (.ref (qD 0))), (1, (.int y1)), (2, (.int y2))] [] [(5, qD, tD)]) (x1 : Int32) (x2 : Int32) (sD : zOS) : zJ X 4 res (bX5_isBegun_25 F kc_25 x1 x2 sD) 25 [(0, (.ref (qD 0))), (1, (.int x1)), (2, (.int x2))] [] [(5, qD, sD)] := by
  unfold bX5_isBegun_25
  refine z_iload_n (pc := 25) 2 rfl rfl C dX5_isBegun_25 ?_
  refine z_aload_n (pc := 26) 0 rfl rfl C dX5_isBegun_26 ?_
  refine z_getR (pc := 27) 0 0 1 C dX5_isBegun_27 rfl (by decide) (by decide) rfl zw_715 ?_
  refine z_bipush (pc := 30) (27 : Int32) (by decide) C dX5_isBegun_30 ?_
  refine z_iald (pc := 32) 0 C dX5_isBegun_32 rfl (by unfold zAr; decide) ?_
  refine z_icmp_ge (pc := 33) 78 C dX5_isBegun_33 (by decide) ?_ ?_
  · refine z_iload_n (pc := 78) 1 rfl rfl C dX5_isBegun_78 ?_
    exact z_zreturn (pc := 79) C hR dX5_isBegun_79 (fun h => by subst h; exact ⟨rfl, rfl⟩)
  · refine z_aload_n (pc := 36) 0 rfl rfl C dX5_isBegun_36 ?_
    refine z_iload_n (pc := 37) 2 rfl rfl C dX5_isBegun_37 ?_
    refine z_callV (pc := 38) (rf' := 1) (rl' := 22) (fX5_pinNode x2 sD) [(.int x2)] [] [(5, qD, sD)] (fun r_1 => (some (.int r_1))) (fun r_1 => [(5, qD, sD)]) [] (fun r_1 => [(5, qD, sD)]) C dX5_isBegun_38 zy_X5_pinNode zw_954 (fun _ hr9 => mX5_pinNode  hr9) (by decide) rfl rfl (by decide) rfl (Nat.le_of_ble_eq_true rfl) (List.Perm.refl _) (fun _ => List.Perm.refl _) rfl (fun r_1 hr_2 => ?_)
    show zJ X 4 res _ 41 [(0, (.ref (qD 0))), (1, (.int x1)), (2, (.int x2))] [(.int r_1)] [(5, qD, sD)]
    refine z_istore_n (pc := 41) [(0, (.ref (qD 0))), (1, (.int x1)), (2, (.int x2)), (3, (.int r_1))] [1, 2, 3, 0] (by decide) rfl rfl C dX5_isBegun_41 ?_
    refine z_iload_n (pc := 42) 1 rfl rfl C dX5_isBegun_42 ?_
    refine z_if_eq (pc := 43) 70 C dX5_isBegun_43 (by decide) ?_ ?_
    · refine z_iconst (pc := 70) (0 : Int32) (by decide) C dX5_isBegun_70 ?_
      refine z_istore_n (pc := 71) [(0, (.ref (qD 0))), (1, (.int (0 : Int32))), (2, (.int x2)), (3, (.int r_1))] [1, 0, 2, 3] (by decide) rfl rfl C dX5_isBegun_71 ?_
      refine z_iinc (pc := 72) (x2 + 1) 2 rfl rfl [(0, (.ref (qD 0))), (1, (.int (0 : Int32))), (2, (.int (x2 + 1))), (3, (.int r_1))] [1, 2, 0, 3] (by decide) rfl C dX5_isBegun_72 ?_
      refine z_goto (pc := 75) 25 C dX5_isBegun_75 (by decide) ?_
      refine z_lv [(0, (.ref (qD 0))), (1, (.int (0 : Int32))), (2, (.int (x2 + 1)))] [0, 1, 2] rfl ?_
      exact hk_25 _ _ _
    · refine z_iload_n (pc := 46) 3 rfl rfl C dX5_isBegun_46 ?_
      refine z_iconst (pc := 47) (-1 : Int32) (by decide) C dX5_isBegun_47 ?_
      refine z_icmp_eq (pc := 48) 66 C dX5_isBegun_48 (by decide) ?_ ?_
      · refine z_iconst (pc := 66) (1 : Int32) (by decide) C dX5_isBegun_66 ?_
        refine z_goto (pc := 67) 71 C dX5_isBegun_67 (by decide) ?_
        refine z_istore_n (pc := 71) [(0, (.ref (qD 0))), (1, (.int (1 : Int32))), (2, (.int x2)), (3, (.int r_1))] [1, 0, 2, 3] (by decide) rfl rfl C dX5_isBegun_71 ?_
        refine z_iinc (pc := 72) (x2 + 1) 2 rfl rfl [(0, (.ref (qD 0))), (1, (.int (1 : Int32))), (2, (.int (x2 + 1))), (3, (.int r_1))] [1, 2, 0, 3] (by decide) rfl C dX5_isBegun_72 ?_
        refine z_goto (pc := 75) 25 C dX5_isBegun_75 (by decide) ?_
        refine z_lv [(0, (.ref (qD 0))), (1, (.int (1 : Int32))), (2, (.int (x2 + 1)))] [0, 1, 2] rfl ?_
        exact hk_25 _ _ _
      · refine z_aload_n (pc := 51) 0 rfl rfl C dX5_isBegun_51 ?_
        refine z_iconst (pc := 52) (0 : Int32) (by decide) C dX5_isBegun_52 ?_
        refine z_aload_n (pc := 53) 0 rfl rfl C dX5_isBegun_53 ?_
        refine z_iload_n (pc := 54) 2 rfl rfl C dX5_isBegun_54 ?_
        refine z_iconst (pc := 55) (2 : Int32) (by decide) C dX5_isBegun_55 ?_
        refine z_callV (pc := 56) (rf' := 0) (rl' := 0) (fX5_ofPin x2 (2 : Int32) sD) [(.int x2), (.int (2 : Int32))] [(.int (0 : Int32)), (.ref (qD 0))] [(5, qD, sD)] (fun r_3 => (some (.int r_3))) (fun r_3 => [(5, qD, sD)]) [] (fun r_3 => [(5, qD, sD)]) C dX5_isBegun_56 zy_X5_ofPin zw_958 (fun _ hr9 => mX5_ofPin  hr9) (by decide) rfl rfl (by decide) rfl (Nat.le_of_ble_eq_true rfl) (List.Perm.refl _) (fun _ => List.Perm.refl _) rfl (fun r_3 hr_4 => ?_)
        show zJ X 4 res _ 59 [(0, (.ref (qD 0))), (1, (.int x1)), (2, (.int x2)), (3, (.int r_1))] [(.int r_3), (.int (0 : Int32)), (.ref (qD 0))] [(5, qD, sD)]
        refine z_iload_n (pc := 59) 3 rfl rfl C dX5_isBegun_59 ?_
        refine z_callV (pc := 60) (rf' := 0) (rl' := 0) (fX5_isPut F (0 : Int32) r_3 r_1 sD) [(.int (0 : Int32)), (.int r_3), (.int r_1)] [] [(5, qD, sD)] (fun r_5 => (some (.int r_5.1))) (fun r_5 => [(5, qD, r_5.2)]) [] (fun r_5 => [(5, qD, r_5.2)]) C dX5_isBegun_60 zy_X5_isPut zw_962 (fun _ hr9 => mX5_isPut  hr9) (by decide) rfl rfl (by decide) rfl (Nat.le_of_ble_eq_true rfl) (List.Perm.refl _) (fun _ => List.Perm.refl _) rfl (fun r_5 hr_6 => ?_)
        show zJ X 4 res _ 63 [(0, (.ref (qD 0))), (1, (.int x1)), (2, (.int x2)), (3, (.int r_1))] [(.int r_5.1)] [(5, qD, r_5.2)]
        refine z_if_eq (pc := 63) 70 C dX5_isBegun_63 (by decide) ?_ ?_
        · refine z_iconst (pc := 70) (0 : Int32) (by decide) C dX5_isBegun_70 ?_
          refine z_istore_n (pc := 71) [(0, (.ref (qD 0))), (1, (.int (0 : Int32))), (2, (.int x2)), (3, (.int r_1))] [1, 0, 2, 3] (by decide) rfl rfl C dX5_isBegun_71 ?_
          refine z_iinc (pc := 72) (x2 + 1) 2 rfl rfl [(0, (.ref (qD 0))), (1, (.int (0 : Int32))), (2, (.int (x2 + 1))), (3, (.int r_1))] [1, 2, 0, 3] (by decide) rfl C dX5_isBegun_72 ?_
          refine z_goto (pc := 75) 25 C dX5_isBegun_75 (by decide) ?_
          refine z_lv [(0, (.ref (qD 0))), (1, (.int (0 : Int32))), (2, (.int (x2 + 1)))] [0, 1, 2] rfl ?_
          exact hk_25 _ _ _
        · refine z_iconst (pc := 66) (1 : Int32) (by decide) C dX5_isBegun_66 ?_
          refine z_goto (pc := 67) 71 C dX5_isBegun_67 (by decide) ?_
          refine z_istore_n (pc := 71) [(0, (.ref (qD 0))), (1, (.int (1 : Int32))), (2, (.int x2)), (3, (.int r_1))] [1, 0, 2, 3] (by decide) rfl rfl C dX5_isBegun_71 ?_
          refine z_iinc (pc := 72) (x2 + 1) 2 rfl rfl [(0, (.ref (qD 0))), (1, (.int (1 : Int32))), (2, (.int (x2 + 1))), (3, (.int r_1))] [1, 2, 0, 3] (by decide) rfl C dX5_isBegun_72 ?_
          refine z_goto (pc := 75) 25 C dX5_isBegun_75 (by decide) ?_
          refine z_lv [(0, (.ref (qD 0))), (1, (.int (1 : Int32))), (2, (.int (x2 + 1)))] [0, 1, 2] rfl ?_
          exact hk_25 _ _ _
def bX5_isBegun_2 (F : Nat) (kc_2 : (Int32 × zOS) → Option (Int32 × zOS)) (x1 : Int32) (sD : zOS) : Option (Int32 × zOS) := (if (10 : Int32) ≤ x1 then (zit (P := Int32 × Int32 × zOS) (R := Int32 × zOS) (fun kc9 p9 => bX5_isBegun_25 F kc9 p9.1 p9.2.1 p9.2.2) F ((1 : Int32), (0 : Int32), sD)) else (zchk x1 70 (zlet (zsI sD 11 (upd (zI sD 11) x1.toNatClampNeg (-1 : Int32))) (fun sD_7 : zOS => (kc_2 ((x1 + 1), sD_7))))))
set_option maxRecDepth 20000 in
theorem vX5_isBegun_2 {X : zCx} {res : Int32 × zOS} {F : Nat} {qD : Nat → Nat} {kc_2 : (Int32 × zOS) → Option (Int32 × zOS)} (C : zC X RX5 cX5_isBegun 4 2 43) (hR : zR X (some .boolean) (some (.int res.1)) [(5, qD, res.2)]) (hk_2 : ∀ (y1 : Int32) (tD : zOS), zJ X 4 res (kc_2 (y1, tD)) 2 [(0, (.ref (qD 0))), (1, (.int y1))] [] [(5, qD, tD)]) (x1 : Int32) (sD : zOS) : zJ X 4 res (bX5_isBegun_2 F kc_2 x1 sD) 2 [(0, (.ref (qD 0))), (1, (.int x1))] [] [(5, qD, sD)] := by
  unfold bX5_isBegun_2
  refine z_iload_n (pc := 2) 1 rfl rfl C dX5_isBegun_2 ?_
  refine z_bipush (pc := 3) (10 : Int32) (by decide) C dX5_isBegun_3 ?_
  refine z_icmp_ge (pc := 5) 21 C dX5_isBegun_5 (by decide) ?_ ?_
  · refine z_iconst (pc := 21) (1 : Int32) (by decide) C dX5_isBegun_21 ?_
    refine z_istore_n (pc := 22) [(0, (.ref (qD 0))), (1, (.int (1 : Int32)))] [1, 0] (by decide) rfl rfl C dX5_isBegun_22 ?_
    refine z_iconst (pc := 23) (0 : Int32) (by decide) C dX5_isBegun_23 ?_
    refine z_istore_n (pc := 24) [(0, (.ref (qD 0))), (1, (.int (1 : Int32))), (2, (.int (0 : Int32)))] [1, 2, 0] (by decide) rfl rfl C dX5_isBegun_24 ?_
    show zJ X 4 res _ 25 [(0, (.ref (qD 0))), (1, (.int (1 : Int32))), (2, (.int (0 : Int32)))] [] [(5, qD, sD)]
    exact zit_J (P := Int32 × Int32 × zOS) (B := (fun kc9 p9 => bX5_isBegun_25 F kc9 p9.1 p9.2.1 p9.2.2)) (fun p9 => [(0, (.ref (qD 0))), (1, (.int p9.1)), (2, (.int p9.2.1))]) (fun p9 => [(5, qD, p9.2.2)]) (fun kc9 hk9 p9 => vX5_isBegun_25 C hR   (fun a0 a1 a2 => hk9 (a0, a1, a2)) p9.1 p9.2.1 p9.2.2) F _
  · refine z_aload_n (pc := 8) 0 rfl rfl C dX5_isBegun_8 ?_
    refine z_getR (pc := 9) 0 17 11 C dX5_isBegun_9 rfl (by decide) (by decide) rfl zw_732 ?_
    refine z_iload_n (pc := 12) 1 rfl rfl C dX5_isBegun_12 ?_
    refine z_iconst (pc := 13) (-1 : Int32) (by decide) C dX5_isBegun_13 ?_
    refine z_iast (pc := 14) 0 C dX5_isBegun_14 rfl (by unfold zAr; decide) [(5, qD, (zsI sD 11 (upd (zI sD 11) x1.toNatClampNeg (-1 : Int32))))] rfl ?_
    refine z_letc (fun z9 => [(5, qD, z9)]) (fun sD_7 => ?_)
    refine z_iinc (pc := 15) (x1 + 1) 1 rfl rfl [(0, (.ref (qD 0))), (1, (.int (x1 + 1)))] [1, 0] (by decide) rfl C dX5_isBegun_15 ?_
    refine z_goto (pc := 18) 2 C dX5_isBegun_18 (by decide) ?_
    exact hk_2 _ _
def fX5_isBegun (F : Nat) (sD : zOS) : Option (Int32 × zOS) := (zit (P := Int32 × zOS) (R := Int32 × zOS) (fun kc9 p9 => bX5_isBegun_2 F kc9 p9.1 p9.2) F ((0 : Int32), sD))
set_option maxRecDepth 20000 in
theorem wX5_isBegun {X : zCx} {res : Int32 × zOS} {F : Nat} {qD : Nat → Nat} {sD : zOS} (C : zC X RX5 cX5_isBegun 4 2 43) (hR : zR X (some .boolean) (some (.int res.1)) [(5, qD, res.2)])  : zJ X 4 res (fX5_isBegun F sD) 0 [(0, (.ref (qD 0)))] [] [(5, qD, sD)] := by
  unfold fX5_isBegun
  refine z_iconst (pc := 0) (0 : Int32) (by decide) C dX5_isBegun_0 ?_
  refine z_istore_n (pc := 1) [(0, (.ref (qD 0))), (1, (.int (0 : Int32)))] [1, 0] (by decide) rfl rfl C dX5_isBegun_1 ?_
  show zJ X 4 res _ 2 [(0, (.ref (qD 0))), (1, (.int (0 : Int32)))] [] [(5, qD, sD)]
  exact zit_J (P := Int32 × zOS) (B := (fun kc9 p9 => bX5_isBegun_2 F kc9 p9.1 p9.2)) (fun p9 => [(0, (.ref (qD 0))), (1, (.int p9.1))]) (fun p9 => [(5, qD, p9.2)]) (fun kc9 hk9 p9 => vX5_isBegun_2 C hR   (fun a0 a1 => hk9 (a0, a1)) p9.1 p9.2) F _
theorem mX5_isBegun {F : Nat} {qD : Nat → Nat} {sD : zOS} {res : Int32 × zOS}  (hf : fX5_isBegun F sD = some res) : zM yX5_isBegun cX5_isBegun 4 (some .boolean) 2 43 [(.ref (qD 0))] [(5, qD, sD)] (some (.int res.1)) [(5, qD, res.2)] := zM_of (by decide +kernel) (Nat.le_of_ble_eq_true rfl) (fun X C hR => wX5_isBegun (F := F) C hR  hf)
theorem dX5_isChosen_0 : decode cX5_isChosen 0 = .ok (.iload_n 2, 1) := by decide +kernel
theorem dX5_isChosen_1 : decode cX5_isChosen 1 = .ok (.iconst 2, 1) := by decide +kernel
theorem dX5_isChosen_2 : decode cX5_isChosen 2 = .ok (.idiv, 1) := by decide +kernel
theorem dX5_isChosen_3 : decode cX5_isChosen 3 = .ok (.istore_n 3, 1) := by decide +kernel
theorem dX5_isChosen_4 : decode cX5_isChosen 4 = .ok (.aload_n 0, 1) := by decide +kernel
theorem dX5_isChosen_5 : decode cX5_isChosen 5 = .ok (.iload_n 3, 1) := by decide +kernel
theorem dX5_isChosen_6 : decode cX5_isChosen 6 = .ok (.iconst 1, 1) := by decide +kernel
theorem dX5_isChosen_7 : decode cX5_isChosen 7 = .ok (.invokevirtual 150, 3) := by decide +kernel
theorem dX5_isChosen_10 : decode cX5_isChosen 10 = .ok (.istore 4, 2) := by decide +kernel
theorem dX5_isChosen_12 : decode cX5_isChosen 12 = .ok (.aload_n 0, 1) := by decide +kernel
theorem dX5_isChosen_13 : decode cX5_isChosen 13 = .ok (.iload_n 3, 1) := by decide +kernel
theorem dX5_isChosen_14 : decode cX5_isChosen 14 = .ok (.iconst 2, 1) := by decide +kernel
theorem dX5_isChosen_15 : decode cX5_isChosen 15 = .ok (.invokevirtual 150, 3) := by decide +kernel
theorem dX5_isChosen_18 : decode cX5_isChosen 18 = .ok (.istore 5, 2) := by decide +kernel
theorem dX5_isChosen_20 : decode cX5_isChosen 20 = .ok (.aload_n 0, 1) := by decide +kernel
theorem dX5_isChosen_21 : decode cX5_isChosen 21 = .ok (.iload_n 3, 1) := by decide +kernel
theorem dX5_isChosen_22 : decode cX5_isChosen 22 = .ok (.invokevirtual 181, 3) := by decide +kernel
theorem dX5_isChosen_25 : decode cX5_isChosen 25 = .ok (.ifCond .eq 20, 3) := by decide +kernel
theorem dX5_isChosen_28 : decode cX5_isChosen 28 = .ok (.iload_n 2, 1) := by decide +kernel
theorem dX5_isChosen_29 : decode cX5_isChosen 29 = .ok (.iconst 2, 1) := by decide +kernel
theorem dX5_isChosen_30 : decode cX5_isChosen 30 = .ok (.irem, 1) := by decide +kernel
theorem dX5_isChosen_31 : decode cX5_isChosen 31 = .ok (.ifCond .eq 10, 3) := by decide +kernel
theorem dX5_isChosen_34 : decode cX5_isChosen 34 = .ok (.iload 4, 2) := by decide +kernel
theorem dX5_isChosen_36 : decode cX5_isChosen 36 = .ok (.iload 5, 2) := by decide +kernel
theorem dX5_isChosen_38 : decode cX5_isChosen 38 = .ok (.if_icmp .eq 7, 3) := by decide +kernel
theorem dX5_isChosen_41 : decode cX5_isChosen 41 = .ok (.iconst 1, 1) := by decide +kernel
theorem dX5_isChosen_42 : decode cX5_isChosen 42 = .ok (.goto 4, 3) := by decide +kernel
theorem dX5_isChosen_45 : decode cX5_isChosen 45 = .ok (.iconst 0, 1) := by decide +kernel
theorem dX5_isChosen_46 : decode cX5_isChosen 46 = .ok (.istore 6, 2) := by decide +kernel
theorem dX5_isChosen_48 : decode cX5_isChosen 48 = .ok (.iconst 0, 1) := by decide +kernel
theorem dX5_isChosen_49 : decode cX5_isChosen 49 = .ok (.istore 7, 2) := by decide +kernel
theorem dX5_isChosen_51 : decode cX5_isChosen 51 = .ok (.iload 7, 2) := by decide +kernel
theorem dX5_isChosen_53 : decode cX5_isChosen 53 = .ok (.iload_n 1, 1) := by decide +kernel
theorem dX5_isChosen_54 : decode cX5_isChosen 54 = .ok (.if_icmp .ge 34, 3) := by decide +kernel
theorem dX5_isChosen_57 : decode cX5_isChosen 57 = .ok (.iload 6, 2) := by decide +kernel
theorem dX5_isChosen_59 : decode cX5_isChosen 59 = .ok (.ifCond .eq 20, 3) := by decide +kernel
theorem dX5_isChosen_62 : decode cX5_isChosen 62 = .ok (.aload_n 0, 1) := by decide +kernel
theorem dX5_isChosen_63 : decode cX5_isChosen 63 = .ok (.getfield 37, 3) := by decide +kernel
theorem dX5_isChosen_66 : decode cX5_isChosen 66 = .ok (.iload 7, 2) := by decide +kernel
theorem dX5_isChosen_68 : decode cX5_isChosen 68 = .ok (.iaload, 1) := by decide +kernel
theorem dX5_isChosen_69 : decode cX5_isChosen 69 = .ok (.iconst 2, 1) := by decide +kernel
theorem dX5_isChosen_70 : decode cX5_isChosen 70 = .ok (.idiv, 1) := by decide +kernel
theorem dX5_isChosen_71 : decode cX5_isChosen 71 = .ok (.iload_n 3, 1) := by decide +kernel
theorem dX5_isChosen_72 : decode cX5_isChosen 72 = .ok (.if_icmp .eq 7, 3) := by decide +kernel
theorem dX5_isChosen_75 : decode cX5_isChosen 75 = .ok (.iconst 1, 1) := by decide +kernel
theorem dX5_isChosen_76 : decode cX5_isChosen 76 = .ok (.goto 4, 3) := by decide +kernel
theorem dX5_isChosen_79 : decode cX5_isChosen 79 = .ok (.iconst 0, 1) := by decide +kernel
theorem dX5_isChosen_80 : decode cX5_isChosen 80 = .ok (.istore 6, 2) := by decide +kernel
theorem dX5_isChosen_82 : decode cX5_isChosen 82 = .ok (.iinc 7 1, 3) := by decide +kernel
theorem dX5_isChosen_85 : decode cX5_isChosen 85 = .ok (.goto (-34), 3) := by decide +kernel
theorem dX5_isChosen_88 : decode cX5_isChosen 88 = .ok (.iconst 0, 1) := by decide +kernel
theorem dX5_isChosen_89 : decode cX5_isChosen 89 = .ok (.istore 7, 2) := by decide +kernel
theorem dX5_isChosen_91 : decode cX5_isChosen 91 = .ok (.iload 7, 2) := by decide +kernel
theorem dX5_isChosen_93 : decode cX5_isChosen 93 = .ok (.bipush 10, 2) := by decide +kernel
theorem dX5_isChosen_95 : decode cX5_isChosen 95 = .ok (.if_icmp .ge 35, 3) := by decide +kernel
theorem dX5_isChosen_98 : decode cX5_isChosen 98 = .ok (.aload_n 0, 1) := by decide +kernel
theorem dX5_isChosen_99 : decode cX5_isChosen 99 = .ok (.getfield 40, 3) := by decide +kernel
theorem dX5_isChosen_102 : decode cX5_isChosen 102 = .ok (.bipush 10, 2) := by decide +kernel
theorem dX5_isChosen_104 : decode cX5_isChosen 104 = .ok (.iload_n 1, 1) := by decide +kernel
theorem dX5_isChosen_105 : decode cX5_isChosen 105 = .ok (.iconst 1, 1) := by decide +kernel
theorem dX5_isChosen_106 : decode cX5_isChosen 106 = .ok (.iadd, 1) := by decide +kernel
theorem dX5_isChosen_107 : decode cX5_isChosen 107 = .ok (.imul, 1) := by decide +kernel
theorem dX5_isChosen_108 : decode cX5_isChosen 108 = .ok (.iload 7, 2) := by decide +kernel
theorem dX5_isChosen_110 : decode cX5_isChosen 110 = .ok (.iadd, 1) := by decide +kernel
theorem dX5_isChosen_111 : decode cX5_isChosen 111 = .ok (.aload_n 0, 1) := by decide +kernel
theorem dX5_isChosen_112 : decode cX5_isChosen 112 = .ok (.getfield 40, 3) := by decide +kernel
theorem dX5_isChosen_115 : decode cX5_isChosen 115 = .ok (.bipush 10, 2) := by decide +kernel
theorem dX5_isChosen_117 : decode cX5_isChosen 117 = .ok (.iload_n 1, 1) := by decide +kernel
theorem dX5_isChosen_118 : decode cX5_isChosen 118 = .ok (.imul, 1) := by decide +kernel
theorem dX5_isChosen_119 : decode cX5_isChosen 119 = .ok (.iload 7, 2) := by decide +kernel
theorem dX5_isChosen_121 : decode cX5_isChosen 121 = .ok (.iadd, 1) := by decide +kernel
theorem dX5_isChosen_122 : decode cX5_isChosen 122 = .ok (.iaload, 1) := by decide +kernel
theorem dX5_isChosen_123 : decode cX5_isChosen 123 = .ok (.iastore, 1) := by decide +kernel
theorem dX5_isChosen_124 : decode cX5_isChosen 124 = .ok (.iinc 7 1, 3) := by decide +kernel
theorem dX5_isChosen_127 : decode cX5_isChosen 127 = .ok (.goto (-36), 3) := by decide +kernel
theorem dX5_isChosen_130 : decode cX5_isChosen 130 = .ok (.iload 6, 2) := by decide +kernel
theorem dX5_isChosen_132 : decode cX5_isChosen 132 = .ok (.ifCond .eq 87, 3) := by decide +kernel
theorem dX5_isChosen_135 : decode cX5_isChosen 135 = .ok (.aload_n 0, 1) := by decide +kernel
theorem dX5_isChosen_136 : decode cX5_isChosen 136 = .ok (.iload_n 1, 1) := by decide +kernel
theorem dX5_isChosen_137 : decode cX5_isChosen 137 = .ok (.iconst 1, 1) := by decide +kernel
theorem dX5_isChosen_138 : decode cX5_isChosen 138 = .ok (.iadd, 1) := by decide +kernel
theorem dX5_isChosen_139 : decode cX5_isChosen 139 = .ok (.aload_n 0, 1) := by decide +kernel
theorem dX5_isChosen_140 : decode cX5_isChosen 140 = .ok (.iload_n 1, 1) := by decide +kernel
theorem dX5_isChosen_141 : decode cX5_isChosen 141 = .ok (.iconst 0, 1) := by decide +kernel
theorem dX5_isChosen_142 : decode cX5_isChosen 142 = .ok (.invokevirtual 178, 3) := by decide +kernel
theorem dX5_isChosen_145 : decode cX5_isChosen 145 = .ok (.aload_n 0, 1) := by decide +kernel
theorem dX5_isChosen_146 : decode cX5_isChosen 146 = .ok (.iload_n 3, 1) := by decide +kernel
theorem dX5_isChosen_147 : decode cX5_isChosen 147 = .ok (.iconst 0, 1) := by decide +kernel
theorem dX5_isChosen_148 : decode cX5_isChosen 148 = .ok (.invokevirtual 150, 3) := by decide +kernel
theorem dX5_isChosen_151 : decode cX5_isChosen 151 = .ok (.invokevirtual 215, 3) := by decide +kernel
theorem dX5_isChosen_154 : decode cX5_isChosen 154 = .ok (.ifCond .eq 65, 3) := by decide +kernel
theorem dX5_isChosen_157 : decode cX5_isChosen 157 = .ok (.aload_n 0, 1) := by decide +kernel
theorem dX5_isChosen_158 : decode cX5_isChosen 158 = .ok (.iload_n 1, 1) := by decide +kernel
theorem dX5_isChosen_159 : decode cX5_isChosen 159 = .ok (.iconst 1, 1) := by decide +kernel
theorem dX5_isChosen_160 : decode cX5_isChosen 160 = .ok (.iadd, 1) := by decide +kernel
theorem dX5_isChosen_161 : decode cX5_isChosen 161 = .ok (.aload_n 0, 1) := by decide +kernel
theorem dX5_isChosen_162 : decode cX5_isChosen 162 = .ok (.iload_n 1, 1) := by decide +kernel
theorem dX5_isChosen_163 : decode cX5_isChosen 163 = .ok (.iconst 1, 1) := by decide +kernel
theorem dX5_isChosen_164 : decode cX5_isChosen 164 = .ok (.invokevirtual 178, 3) := by decide +kernel
theorem dX5_isChosen_167 : decode cX5_isChosen 167 = .ok (.iload_n 2, 1) := by decide +kernel
theorem dX5_isChosen_168 : decode cX5_isChosen 168 = .ok (.iconst 2, 1) := by decide +kernel
theorem dX5_isChosen_169 : decode cX5_isChosen 169 = .ok (.irem, 1) := by decide +kernel
theorem dX5_isChosen_170 : decode cX5_isChosen 170 = .ok (.ifCond .ne 8, 3) := by decide +kernel
theorem dX5_isChosen_173 : decode cX5_isChosen 173 = .ok (.iload 4, 2) := by decide +kernel
theorem dX5_isChosen_175 : decode cX5_isChosen 175 = .ok (.goto 5, 3) := by decide +kernel
theorem dX5_isChosen_178 : decode cX5_isChosen 178 = .ok (.iload 5, 2) := by decide +kernel
theorem dX5_isChosen_180 : decode cX5_isChosen 180 = .ok (.invokevirtual 215, 3) := by decide +kernel
theorem dX5_isChosen_183 : decode cX5_isChosen 183 = .ok (.ifCond .eq 36, 3) := by decide +kernel
theorem dX5_isChosen_186 : decode cX5_isChosen 186 = .ok (.aload_n 0, 1) := by decide +kernel
theorem dX5_isChosen_187 : decode cX5_isChosen 187 = .ok (.iload_n 1, 1) := by decide +kernel
theorem dX5_isChosen_188 : decode cX5_isChosen 188 = .ok (.iconst 1, 1) := by decide +kernel
theorem dX5_isChosen_189 : decode cX5_isChosen 189 = .ok (.iadd, 1) := by decide +kernel
theorem dX5_isChosen_190 : decode cX5_isChosen 190 = .ok (.aload_n 0, 1) := by decide +kernel
theorem dX5_isChosen_191 : decode cX5_isChosen 191 = .ok (.iload_n 1, 1) := by decide +kernel
theorem dX5_isChosen_192 : decode cX5_isChosen 192 = .ok (.iconst 2, 1) := by decide +kernel
theorem dX5_isChosen_193 : decode cX5_isChosen 193 = .ok (.invokevirtual 178, 3) := by decide +kernel
theorem dX5_isChosen_196 : decode cX5_isChosen 196 = .ok (.iload_n 2, 1) := by decide +kernel
theorem dX5_isChosen_197 : decode cX5_isChosen 197 = .ok (.iconst 2, 1) := by decide +kernel
theorem dX5_isChosen_198 : decode cX5_isChosen 198 = .ok (.irem, 1) := by decide +kernel
theorem dX5_isChosen_199 : decode cX5_isChosen 199 = .ok (.ifCond .ne 8, 3) := by decide +kernel
theorem dX5_isChosen_202 : decode cX5_isChosen 202 = .ok (.iload 5, 2) := by decide +kernel
theorem dX5_isChosen_204 : decode cX5_isChosen 204 = .ok (.goto 5, 3) := by decide +kernel
theorem dX5_isChosen_207 : decode cX5_isChosen 207 = .ok (.iload 4, 2) := by decide +kernel
theorem dX5_isChosen_209 : decode cX5_isChosen 209 = .ok (.invokevirtual 215, 3) := by decide +kernel
theorem dX5_isChosen_212 : decode cX5_isChosen 212 = .ok (.ifCond .eq 7, 3) := by decide +kernel
theorem dX5_isChosen_215 : decode cX5_isChosen 215 = .ok (.iconst 1, 1) := by decide +kernel
theorem dX5_isChosen_216 : decode cX5_isChosen 216 = .ok (.goto 4, 3) := by decide +kernel
theorem dX5_isChosen_219 : decode cX5_isChosen 219 = .ok (.iconst 0, 1) := by decide +kernel
theorem dX5_isChosen_220 : decode cX5_isChosen 220 = .ok (.ireturn, 1) := by decide +kernel
def jX5_isChosen_209 (F : Nat) (v0 : Int32) (v1 : Int32) (v2 : Int32) (sD : zOS) : Option (Int32 × zOS) := (Option.bind (fX5_isPut F v2 v1 v0 sD) (fun r_20 : Int32 × zOS => (if r_20.1 = 0 then (zbk (0 : Int32) (some ((0 : Int32), r_20.2))) else (zbk (1 : Int32) (some ((1 : Int32), r_20.2))))))
set_option maxRecDepth 20000 in
theorem wX5_isChosen_209 {X : zCx} {res : Int32 × zOS} {F : Nat} {qD : Nat → Nat} (C : zC X RX5 cX5_isChosen 8 2 43) (hR : zR X (some .boolean) (some (.int res.1)) [(5, qD, res.2)]) (sD : zOS) (v0 : Int32) (v1 : Int32) (v2 : Int32) : zJ X 8 res (jX5_isChosen_209 F v0 v1 v2 sD) 209 [] [(.int v0), (.int v1), (.int v2), (.ref (qD 0))] [(5, qD, sD)] := by
  unfold jX5_isChosen_209
  refine z_callV (pc := 209) (rf' := 0) (rl' := 0) (fX5_isPut F v2 v1 v0 sD) [(.int v2), (.int v1), (.int v0)] [] [(5, qD, sD)] (fun r_20 => (some (.int r_20.1))) (fun r_20 => [(5, qD, r_20.2)]) [] (fun r_20 => [(5, qD, r_20.2)]) C dX5_isChosen_209 zy_X5_isPut zw_962 (fun _ hr9 => mX5_isPut  hr9) (by decide) rfl rfl (by decide) rfl (Nat.le_of_ble_eq_true rfl) (List.Perm.refl _) (fun _ => List.Perm.refl _) rfl (fun r_20 hr_21 => ?_)
  show zJ X 8 res _ 212 [] [(.int r_20.1)] [(5, qD, r_20.2)]
  refine z_if_eq (pc := 212) 219 C dX5_isChosen_212 (by decide) ?_ ?_
  · refine z_iconst (pc := 219) (0 : Int32) (by decide) C dX5_isChosen_219 ?_
    exact z_zreturn (pc := 220) C hR dX5_isChosen_220 (fun h => by subst h; exact ⟨rfl, rfl⟩)
  · refine z_iconst (pc := 215) (1 : Int32) (by decide) C dX5_isChosen_215 ?_
    refine z_goto (pc := 216) 220 C dX5_isChosen_216 (by decide) ?_
    exact z_zreturn (pc := 220) C hR dX5_isChosen_220 (fun h => by subst h; exact ⟨rfl, rfl⟩)
def jX5_isChosen_180 (F : Nat) (x1 : Int32) (x2 : Int32) (x4 : Int32) (x5 : Int32) (v0 : Int32) (v1 : Int32) (v2 : Int32) (sD : zOS) : Option (Int32 × zOS) := (Option.bind (fX5_isPut F v2 v1 v0 sD) (fun r_16 : Int32 × zOS => (if r_16.1 = 0 then (zbk (0 : Int32) (some ((0 : Int32), r_16.2))) else (Option.bind (fX5_ofDevice x1 (2 : Int32) r_16.2) (fun r_18 : Int32 => (zdvk (2 : Int32) (if (x2 - x2 / (2 : Int32) * (2 : Int32)) = 0 then (jX5_isChosen_209 F x5 r_18 (x1 + (1 : Int32)) r_16.2) else (jX5_isChosen_209 F x4 r_18 (x1 + (1 : Int32)) r_16.2))))))))
set_option maxRecDepth 20000 in
theorem wX5_isChosen_180 {X : zCx} {res : Int32 × zOS} {F : Nat} {qD : Nat → Nat} (C : zC X RX5 cX5_isChosen 8 2 43) (hR : zR X (some .boolean) (some (.int res.1)) [(5, qD, res.2)]) (x1 : Int32) (x2 : Int32) (x4 : Int32) (x5 : Int32) (sD : zOS) (v0 : Int32) (v1 : Int32) (v2 : Int32) : zJ X 8 res (jX5_isChosen_180 F x1 x2 x4 x5 v0 v1 v2 sD) 180 [(0, (.ref (qD 0))), (1, (.int x1)), (2, (.int x2)), (4, (.int x4)), (5, (.int x5))] [(.int v0), (.int v1), (.int v2), (.ref (qD 0))] [(5, qD, sD)] := by
  unfold jX5_isChosen_180
  refine z_callV (pc := 180) (rf' := 0) (rl' := 0) (fX5_isPut F v2 v1 v0 sD) [(.int v2), (.int v1), (.int v0)] [] [(5, qD, sD)] (fun r_16 => (some (.int r_16.1))) (fun r_16 => [(5, qD, r_16.2)]) [] (fun r_16 => [(5, qD, r_16.2)]) C dX5_isChosen_180 zy_X5_isPut zw_962 (fun _ hr9 => mX5_isPut  hr9) (by decide) rfl rfl (by decide) rfl (Nat.le_of_ble_eq_true rfl) (List.Perm.refl _) (fun _ => List.Perm.refl _) rfl (fun r_16 hr_17 => ?_)
  show zJ X 8 res _ 183 [(0, (.ref (qD 0))), (1, (.int x1)), (2, (.int x2)), (4, (.int x4)), (5, (.int x5))] [(.int r_16.1)] [(5, qD, r_16.2)]
  refine z_if_eq (pc := 183) 219 C dX5_isChosen_183 (by decide) ?_ ?_
  · refine z_iconst (pc := 219) (0 : Int32) (by decide) C dX5_isChosen_219 ?_
    exact z_zreturn (pc := 220) C hR dX5_isChosen_220 (fun h => by subst h; exact ⟨rfl, rfl⟩)
  · refine z_aload_n (pc := 186) 0 rfl rfl C dX5_isChosen_186 ?_
    refine z_iload_n (pc := 187) 1 rfl rfl C dX5_isChosen_187 ?_
    refine z_iconst (pc := 188) (1 : Int32) (by decide) C dX5_isChosen_188 ?_
    refine z_iadd (pc := 189) C dX5_isChosen_189 ?_
    refine z_aload_n (pc := 190) 0 rfl rfl C dX5_isChosen_190 ?_
    refine z_iload_n (pc := 191) 1 rfl rfl C dX5_isChosen_191 ?_
    refine z_iconst (pc := 192) (2 : Int32) (by decide) C dX5_isChosen_192 ?_
    refine z_callV (pc := 193) (rf' := 0) (rl' := 0) (fX5_ofDevice x1 (2 : Int32) r_16.2) [(.int x1), (.int (2 : Int32))] [(.int (x1 + (1 : Int32))), (.ref (qD 0))] [(5, qD, r_16.2)] (fun r_18 => (some (.int r_18))) (fun r_18 => [(5, qD, r_16.2)]) [] (fun r_18 => [(5, qD, r_16.2)]) C dX5_isChosen_193 zy_X5_ofDevice zw_974 (fun _ hr9 => mX5_ofDevice  hr9) (by decide) rfl rfl (by decide) rfl (Nat.le_of_ble_eq_true rfl) (List.Perm.refl _) (fun _ => List.Perm.refl _) rfl (fun r_18 hr_19 => ?_)
    show zJ X 8 res _ 196 [(0, (.ref (qD 0))), (1, (.int x1)), (2, (.int x2)), (4, (.int x4)), (5, (.int x5))] [(.int r_18), (.int (x1 + (1 : Int32))), (.ref (qD 0))] [(5, qD, r_16.2)]
    refine z_iload_n (pc := 196) 2 rfl rfl C dX5_isChosen_196 ?_
    refine z_iconst (pc := 197) (2 : Int32) (by decide) C dX5_isChosen_197 ?_
    refine z_irem (pc := 198) C dX5_isChosen_198 ?_
    refine z_if_ne (pc := 199) 207 C dX5_isChosen_199 (by decide) ?_ ?_
    · refine z_iload (pc := 202) 4 rfl C dX5_isChosen_202 ?_
      refine z_goto (pc := 204) 209 C dX5_isChosen_204 (by decide) ?_
      refine z_lv [] [] rfl ?_
      exact wX5_isChosen_209 C hR   _ _ _ _
    · refine z_iload (pc := 207) 3 rfl C dX5_isChosen_207 ?_
      refine z_lv [] [] rfl ?_
      exact wX5_isChosen_209 C hR   _ _ _ _
def bX5_isChosen_91 (F : Nat) (x1 : Int32) (x2 : Int32) (x3 : Int32) (x4 : Int32) (x5 : Int32) (x6 : Int32) (kc_91 : (Int32 × zOS) → Option (Int32 × zOS)) (x7 : Int32) (sD : zOS) : Option (Int32 × zOS) := (if (10 : Int32) ≤ x7 then (if x6 = 0 then (zbk (0 : Int32) (some ((0 : Int32), sD))) else (Option.bind (fX5_ofDevice x1 (0 : Int32) sD) (fun r_8 : Int32 => (Option.bind (fX5_ofGate x3 (0 : Int32) sD) (fun r_10 : Int32 => (Option.bind (fX5_isPut F (x1 + (1 : Int32)) r_8 r_10 sD) (fun r_12 : Int32 × zOS => (if r_12.1 = 0 then (zbk (0 : Int32) (some ((0 : Int32), r_12.2))) else (Option.bind (fX5_ofDevice x1 (1 : Int32) r_12.2) (fun r_14 : Int32 => (zdvk (2 : Int32) (if (x2 - x2 / (2 : Int32) * (2 : Int32)) = 0 then (jX5_isChosen_180 F x1 x2 x4 x5 x4 r_14 (x1 + (1 : Int32)) r_12.2) else (jX5_isChosen_180 F x1 x2 x4 x5 x5 r_14 (x1 + (1 : Int32)) r_12.2))))))))))))) else (zchk (((10 : Int32) * x1) + x7) 70 (zchk (((10 : Int32) * (x1 + (1 : Int32))) + x7) 70 (zlet (zsI sD 11 (upd (zI sD 11) (((10 : Int32) * (x1 + (1 : Int32))) + x7).toNatClampNeg (zI sD 11 (((10 : Int32) * x1) + x7).toNatClampNeg))) (fun sD_22 : zOS => (kc_91 ((x7 + 1), sD_22)))))))
set_option maxRecDepth 20000 in
theorem vX5_isChosen_91 {X : zCx} {res : Int32 × zOS} {F : Nat} {qD : Nat → Nat} {x1 : Int32} {x2 : Int32} {x3 : Int32} {x4 : Int32} {x5 : Int32} {x6 : Int32} {kc_91 : (Int32 × zOS) → Option (Int32 × zOS)} (C : zC X RX5 cX5_isChosen 8 2 43) (hR : zR X (some .boolean) (some (.int res.1)) [(5, qD, res.2)]) (hk_91 : ∀ (y7 : Int32) (tD : zOS), zJ X 8 res (kc_91 (y7, tD)) 91 [(0, (.ref (qD 0))), (1, (.int x1)), (2, (.int x2)), (3, (.int x3)), (4, (.int x4)), (5, (.int x5)), (6, (.int x6)), (7, (.int y7))] [] [(5, qD, tD)]) (x7 : Int32) (sD : zOS) : zJ X 8 res (bX5_isChosen_91 F x1 x2 x3 x4 x5 x6 kc_91 x7 sD) 91 [(0, (.ref (qD 0))), (1, (.int x1)), (2, (.int x2)), (3, (.int x3)), (4, (.int x4)), (5, (.int x5)), (6, (.int x6)), (7, (.int x7))] [] [(5, qD, sD)] := by
  unfold bX5_isChosen_91
  refine z_iload (pc := 91) 7 rfl C dX5_isChosen_91 ?_
  refine z_bipush (pc := 93) (10 : Int32) (by decide) C dX5_isChosen_93 ?_
  refine z_icmp_ge (pc := 95) 130 C dX5_isChosen_95 (by decide) ?_ ?_
  · refine z_iload (pc := 130) 6 rfl C dX5_isChosen_130 ?_
    refine z_if_eq (pc := 132) 219 C dX5_isChosen_132 (by decide) ?_ ?_
    · refine z_iconst (pc := 219) (0 : Int32) (by decide) C dX5_isChosen_219 ?_
      exact z_zreturn (pc := 220) C hR dX5_isChosen_220 (fun h => by subst h; exact ⟨rfl, rfl⟩)
    · refine z_aload_n (pc := 135) 0 rfl rfl C dX5_isChosen_135 ?_
      refine z_iload_n (pc := 136) 1 rfl rfl C dX5_isChosen_136 ?_
      refine z_iconst (pc := 137) (1 : Int32) (by decide) C dX5_isChosen_137 ?_
      refine z_iadd (pc := 138) C dX5_isChosen_138 ?_
      refine z_aload_n (pc := 139) 0 rfl rfl C dX5_isChosen_139 ?_
      refine z_iload_n (pc := 140) 1 rfl rfl C dX5_isChosen_140 ?_
      refine z_iconst (pc := 141) (0 : Int32) (by decide) C dX5_isChosen_141 ?_
      refine z_callV (pc := 142) (rf' := 0) (rl' := 0) (fX5_ofDevice x1 (0 : Int32) sD) [(.int x1), (.int (0 : Int32))] [(.int (x1 + (1 : Int32))), (.ref (qD 0))] [(5, qD, sD)] (fun r_8 => (some (.int r_8))) (fun r_8 => [(5, qD, sD)]) [] (fun r_8 => [(5, qD, sD)]) C dX5_isChosen_142 zy_X5_ofDevice zw_974 (fun _ hr9 => mX5_ofDevice  hr9) (by decide) rfl rfl (by decide) rfl (Nat.le_of_ble_eq_true rfl) (List.Perm.refl _) (fun _ => List.Perm.refl _) rfl (fun r_8 hr_9 => ?_)
      show zJ X 8 res _ 145 [(0, (.ref (qD 0))), (1, (.int x1)), (2, (.int x2)), (3, (.int x3)), (4, (.int x4)), (5, (.int x5)), (6, (.int x6)), (7, (.int x7))] [(.int r_8), (.int (x1 + (1 : Int32))), (.ref (qD 0))] [(5, qD, sD)]
      refine z_aload_n (pc := 145) 0 rfl rfl C dX5_isChosen_145 ?_
      refine z_iload_n (pc := 146) 3 rfl rfl C dX5_isChosen_146 ?_
      refine z_iconst (pc := 147) (0 : Int32) (by decide) C dX5_isChosen_147 ?_
      refine z_callV (pc := 148) (rf' := 0) (rl' := 0) (fX5_ofGate x3 (0 : Int32) sD) [(.int x3), (.int (0 : Int32))] [(.int r_8), (.int (x1 + (1 : Int32))), (.ref (qD 0))] [(5, qD, sD)] (fun r_10 => (some (.int r_10))) (fun r_10 => [(5, qD, sD)]) [] (fun r_10 => [(5, qD, sD)]) C dX5_isChosen_148 zy_X5_ofGate zw_946 (fun _ hr9 => mX5_ofGate  hr9) (by decide) rfl rfl (by decide) rfl (Nat.le_of_ble_eq_true rfl) (List.Perm.refl _) (fun _ => List.Perm.refl _) rfl (fun r_10 hr_11 => ?_)
      show zJ X 8 res _ 151 [(0, (.ref (qD 0))), (1, (.int x1)), (2, (.int x2)), (3, (.int x3)), (4, (.int x4)), (5, (.int x5)), (6, (.int x6)), (7, (.int x7))] [(.int r_10), (.int r_8), (.int (x1 + (1 : Int32))), (.ref (qD 0))] [(5, qD, sD)]
      refine z_callV (pc := 151) (rf' := 0) (rl' := 0) (fX5_isPut F (x1 + (1 : Int32)) r_8 r_10 sD) [(.int (x1 + (1 : Int32))), (.int r_8), (.int r_10)] [] [(5, qD, sD)] (fun r_12 => (some (.int r_12.1))) (fun r_12 => [(5, qD, r_12.2)]) [] (fun r_12 => [(5, qD, r_12.2)]) C dX5_isChosen_151 zy_X5_isPut zw_962 (fun _ hr9 => mX5_isPut  hr9) (by decide) rfl rfl (by decide) rfl (Nat.le_of_ble_eq_true rfl) (List.Perm.refl _) (fun _ => List.Perm.refl _) rfl (fun r_12 hr_13 => ?_)
      show zJ X 8 res _ 154 [(0, (.ref (qD 0))), (1, (.int x1)), (2, (.int x2)), (3, (.int x3)), (4, (.int x4)), (5, (.int x5)), (6, (.int x6)), (7, (.int x7))] [(.int r_12.1)] [(5, qD, r_12.2)]
      refine z_if_eq (pc := 154) 219 C dX5_isChosen_154 (by decide) ?_ ?_
      · refine z_iconst (pc := 219) (0 : Int32) (by decide) C dX5_isChosen_219 ?_
        exact z_zreturn (pc := 220) C hR dX5_isChosen_220 (fun h => by subst h; exact ⟨rfl, rfl⟩)
      · refine z_aload_n (pc := 157) 0 rfl rfl C dX5_isChosen_157 ?_
        refine z_iload_n (pc := 158) 1 rfl rfl C dX5_isChosen_158 ?_
        refine z_iconst (pc := 159) (1 : Int32) (by decide) C dX5_isChosen_159 ?_
        refine z_iadd (pc := 160) C dX5_isChosen_160 ?_
        refine z_aload_n (pc := 161) 0 rfl rfl C dX5_isChosen_161 ?_
        refine z_iload_n (pc := 162) 1 rfl rfl C dX5_isChosen_162 ?_
        refine z_iconst (pc := 163) (1 : Int32) (by decide) C dX5_isChosen_163 ?_
        refine z_callV (pc := 164) (rf' := 0) (rl' := 0) (fX5_ofDevice x1 (1 : Int32) r_12.2) [(.int x1), (.int (1 : Int32))] [(.int (x1 + (1 : Int32))), (.ref (qD 0))] [(5, qD, r_12.2)] (fun r_14 => (some (.int r_14))) (fun r_14 => [(5, qD, r_12.2)]) [] (fun r_14 => [(5, qD, r_12.2)]) C dX5_isChosen_164 zy_X5_ofDevice zw_974 (fun _ hr9 => mX5_ofDevice  hr9) (by decide) rfl rfl (by decide) rfl (Nat.le_of_ble_eq_true rfl) (List.Perm.refl _) (fun _ => List.Perm.refl _) rfl (fun r_14 hr_15 => ?_)
        show zJ X 8 res _ 167 [(0, (.ref (qD 0))), (1, (.int x1)), (2, (.int x2)), (3, (.int x3)), (4, (.int x4)), (5, (.int x5)), (6, (.int x6)), (7, (.int x7))] [(.int r_14), (.int (x1 + (1 : Int32))), (.ref (qD 0))] [(5, qD, r_12.2)]
        refine z_iload_n (pc := 167) 2 rfl rfl C dX5_isChosen_167 ?_
        refine z_iconst (pc := 168) (2 : Int32) (by decide) C dX5_isChosen_168 ?_
        refine z_irem (pc := 169) C dX5_isChosen_169 ?_
        refine z_if_ne (pc := 170) 178 C dX5_isChosen_170 (by decide) ?_ ?_
        · refine z_iload (pc := 173) 4 rfl C dX5_isChosen_173 ?_
          refine z_goto (pc := 175) 180 C dX5_isChosen_175 (by decide) ?_
          refine z_lv [(0, (.ref (qD 0))), (1, (.int x1)), (2, (.int x2)), (4, (.int x4)), (5, (.int x5))] [0, 1, 2, 4, 5] rfl ?_
          exact wX5_isChosen_180 C hR   _ _ _ _ _ _ _ _
        · refine z_iload (pc := 178) 5 rfl C dX5_isChosen_178 ?_
          refine z_lv [(0, (.ref (qD 0))), (1, (.int x1)), (2, (.int x2)), (4, (.int x4)), (5, (.int x5))] [0, 1, 2, 4, 5] rfl ?_
          exact wX5_isChosen_180 C hR   _ _ _ _ _ _ _ _
  · refine z_aload_n (pc := 98) 0 rfl rfl C dX5_isChosen_98 ?_
    refine z_getR (pc := 99) 0 17 11 C dX5_isChosen_99 rfl (by decide) (by decide) rfl zw_732 ?_
    refine z_bipush (pc := 102) (10 : Int32) (by decide) C dX5_isChosen_102 ?_
    refine z_iload_n (pc := 104) 1 rfl rfl C dX5_isChosen_104 ?_
    refine z_iconst (pc := 105) (1 : Int32) (by decide) C dX5_isChosen_105 ?_
    refine z_iadd (pc := 106) C dX5_isChosen_106 ?_
    refine z_imul (pc := 107) C dX5_isChosen_107 ?_
    refine z_iload (pc := 108) 7 rfl C dX5_isChosen_108 ?_
    refine z_iadd (pc := 110) C dX5_isChosen_110 ?_
    refine z_aload_n (pc := 111) 0 rfl rfl C dX5_isChosen_111 ?_
    refine z_getR (pc := 112) 0 17 11 C dX5_isChosen_112 rfl (by decide) (by decide) rfl zw_732 ?_
    refine z_bipush (pc := 115) (10 : Int32) (by decide) C dX5_isChosen_115 ?_
    refine z_iload_n (pc := 117) 1 rfl rfl C dX5_isChosen_117 ?_
    refine z_imul (pc := 118) C dX5_isChosen_118 ?_
    refine z_iload (pc := 119) 7 rfl C dX5_isChosen_119 ?_
    refine z_iadd (pc := 121) C dX5_isChosen_121 ?_
    refine z_iald (pc := 122) 0 C dX5_isChosen_122 rfl (by unfold zAr; decide) ?_
    refine z_iast (pc := 123) 0 C dX5_isChosen_123 rfl (by unfold zAr; decide) [(5, qD, (zsI sD 11 (upd (zI sD 11) (((10 : Int32) * (x1 + (1 : Int32))) + x7).toNatClampNeg (zI sD 11 (((10 : Int32) * x1) + x7).toNatClampNeg))))] rfl ?_
    refine z_letc (fun z9 => [(5, qD, z9)]) (fun sD_22 => ?_)
    refine z_iinc (pc := 124) (x7 + 1) 7 rfl rfl [(0, (.ref (qD 0))), (1, (.int x1)), (2, (.int x2)), (3, (.int x3)), (4, (.int x4)), (5, (.int x5)), (6, (.int x6)), (7, (.int (x7 + 1)))] [1, 2, 3, 4, 5, 6, 7, 0] (by decide) rfl C dX5_isChosen_124 ?_
    refine z_goto (pc := 127) 91 C dX5_isChosen_127 (by decide) ?_
    exact hk_91 _ _
def bX5_isChosen_51 (F : Nat) (x1 : Int32) (x2 : Int32) (x3 : Int32) (x4 : Int32) (x5 : Int32) (sD : zOS) (kc_51 : (Int32 × Int32) → Option (Int32 × zOS)) (x6 : Int32) (x7 : Int32) : Option (Int32 × zOS) := (if x1 ≤ x7 then (zit (P := Int32 × zOS) (R := Int32 × zOS) (fun kc9 p9 => bX5_isChosen_91 F x1 x2 x3 x4 x5 x6 kc9 p9.1 p9.2) F ((0 : Int32), sD)) else (if x6 = 0 then (kc_51 ((0 : Int32), (x7 + 1))) else (zchk x7 7 (zdvk (2 : Int32) (if ((zI sD 10 x7.toNatClampNeg) / (2 : Int32)) = x3 then (kc_51 ((0 : Int32), (x7 + 1))) else (kc_51 ((1 : Int32), (x7 + 1))))))))
set_option maxRecDepth 20000 in
theorem vX5_isChosen_51 {X : zCx} {res : Int32 × zOS} {F : Nat} {qD : Nat → Nat} {sD : zOS} {x1 : Int32} {x2 : Int32} {x3 : Int32} {x4 : Int32} {x5 : Int32} {kc_51 : (Int32 × Int32) → Option (Int32 × zOS)} (C : zC X RX5 cX5_isChosen 8 2 43) (hR : zR X (some .boolean) (some (.int res.1)) [(5, qD, res.2)]) (hk_51 : ∀ (y6 : Int32) (y7 : Int32), zJ X 8 res (kc_51 (y6, y7)) 51 [(0, (.ref (qD 0))), (1, (.int x1)), (2, (.int x2)), (3, (.int x3)), (4, (.int x4)), (5, (.int x5)), (6, (.int y6)), (7, (.int y7))] [] [(5, qD, sD)]) (x6 : Int32) (x7 : Int32) : zJ X 8 res (bX5_isChosen_51 F x1 x2 x3 x4 x5 sD kc_51 x6 x7) 51 [(0, (.ref (qD 0))), (1, (.int x1)), (2, (.int x2)), (3, (.int x3)), (4, (.int x4)), (5, (.int x5)), (6, (.int x6)), (7, (.int x7))] [] [(5, qD, sD)] := by
  unfold bX5_isChosen_51
  refine z_iload (pc := 51) 7 rfl C dX5_isChosen_51 ?_
  refine z_iload_n (pc := 53) 1 rfl rfl C dX5_isChosen_53 ?_
  refine z_icmp_ge (pc := 54) 88 C dX5_isChosen_54 (by decide) ?_ ?_
  · refine z_iconst (pc := 88) (0 : Int32) (by decide) C dX5_isChosen_88 ?_
    refine z_istore (pc := 89) [(0, (.ref (qD 0))), (1, (.int x1)), (2, (.int x2)), (3, (.int x3)), (4, (.int x4)), (5, (.int x5)), (6, (.int x6)), (7, (.int (0 : Int32)))] [1, 2, 3, 4, 5, 6, 7, 0] (by decide) rfl C dX5_isChosen_89 ?_
    show zJ X 8 res _ 91 [(0, (.ref (qD 0))), (1, (.int x1)), (2, (.int x2)), (3, (.int x3)), (4, (.int x4)), (5, (.int x5)), (6, (.int x6)), (7, (.int (0 : Int32)))] [] [(5, qD, sD)]
    exact zit_J (P := Int32 × zOS) (B := (fun kc9 p9 => bX5_isChosen_91 F x1 x2 x3 x4 x5 x6 kc9 p9.1 p9.2)) (fun p9 => [(0, (.ref (qD 0))), (1, (.int x1)), (2, (.int x2)), (3, (.int x3)), (4, (.int x4)), (5, (.int x5)), (6, (.int x6)), (7, (.int p9.1))]) (fun p9 => [(5, qD, p9.2)]) (fun kc9 hk9 p9 => vX5_isChosen_91 C hR   (fun a0 a1 => hk9 (a0, a1)) p9.1 p9.2) F _
  · refine z_iload (pc := 57) 6 rfl C dX5_isChosen_57 ?_
    refine z_if_eq (pc := 59) 79 C dX5_isChosen_59 (by decide) ?_ ?_
    · refine z_iconst (pc := 79) (0 : Int32) (by decide) C dX5_isChosen_79 ?_
      refine z_istore (pc := 80) [(0, (.ref (qD 0))), (1, (.int x1)), (2, (.int x2)), (3, (.int x3)), (4, (.int x4)), (5, (.int x5)), (6, (.int (0 : Int32))), (7, (.int x7))] [1, 2, 3, 4, 5, 6, 0, 7] (by decide) rfl C dX5_isChosen_80 ?_
      refine z_iinc (pc := 82) (x7 + 1) 7 rfl rfl [(0, (.ref (qD 0))), (1, (.int x1)), (2, (.int x2)), (3, (.int x3)), (4, (.int x4)), (5, (.int x5)), (6, (.int (0 : Int32))), (7, (.int (x7 + 1)))] [1, 2, 3, 4, 5, 6, 7, 0] (by decide) rfl C dX5_isChosen_82 ?_
      refine z_goto (pc := 85) 51 C dX5_isChosen_85 (by decide) ?_
      exact hk_51 _ _
    · refine z_aload_n (pc := 62) 0 rfl rfl C dX5_isChosen_62 ?_
      refine z_getR (pc := 63) 0 16 10 C dX5_isChosen_63 rfl (by decide) (by decide) rfl zw_731 ?_
      refine z_iload (pc := 66) 7 rfl C dX5_isChosen_66 ?_
      refine z_iald (pc := 68) 0 C dX5_isChosen_68 rfl (by unfold zAr; decide) ?_
      refine z_iconst (pc := 69) (2 : Int32) (by decide) C dX5_isChosen_69 ?_
      refine z_idiv (pc := 70) C dX5_isChosen_70 ?_
      refine z_iload_n (pc := 71) 3 rfl rfl C dX5_isChosen_71 ?_
      refine z_icmp_eq (pc := 72) 79 C dX5_isChosen_72 (by decide) ?_ ?_
      · refine z_iconst (pc := 79) (0 : Int32) (by decide) C dX5_isChosen_79 ?_
        refine z_istore (pc := 80) [(0, (.ref (qD 0))), (1, (.int x1)), (2, (.int x2)), (3, (.int x3)), (4, (.int x4)), (5, (.int x5)), (6, (.int (0 : Int32))), (7, (.int x7))] [1, 2, 3, 4, 5, 6, 0, 7] (by decide) rfl C dX5_isChosen_80 ?_
        refine z_iinc (pc := 82) (x7 + 1) 7 rfl rfl [(0, (.ref (qD 0))), (1, (.int x1)), (2, (.int x2)), (3, (.int x3)), (4, (.int x4)), (5, (.int x5)), (6, (.int (0 : Int32))), (7, (.int (x7 + 1)))] [1, 2, 3, 4, 5, 6, 7, 0] (by decide) rfl C dX5_isChosen_82 ?_
        refine z_goto (pc := 85) 51 C dX5_isChosen_85 (by decide) ?_
        exact hk_51 _ _
      · refine z_iconst (pc := 75) (1 : Int32) (by decide) C dX5_isChosen_75 ?_
        refine z_goto (pc := 76) 80 C dX5_isChosen_76 (by decide) ?_
        refine z_istore (pc := 80) [(0, (.ref (qD 0))), (1, (.int x1)), (2, (.int x2)), (3, (.int x3)), (4, (.int x4)), (5, (.int x5)), (6, (.int (1 : Int32))), (7, (.int x7))] [1, 2, 3, 4, 5, 6, 0, 7] (by decide) rfl C dX5_isChosen_80 ?_
        refine z_iinc (pc := 82) (x7 + 1) 7 rfl rfl [(0, (.ref (qD 0))), (1, (.int x1)), (2, (.int x2)), (3, (.int x3)), (4, (.int x4)), (5, (.int x5)), (6, (.int (1 : Int32))), (7, (.int (x7 + 1)))] [1, 2, 3, 4, 5, 6, 7, 0] (by decide) rfl C dX5_isChosen_82 ?_
        refine z_goto (pc := 85) 51 C dX5_isChosen_85 (by decide) ?_
        exact hk_51 _ _
def jX5_isChosen_46 (F : Nat) (x1 : Int32) (x2 : Int32) (x3 : Int32) (x4 : Int32) (x5 : Int32) (v0 : Int32) (sD : zOS) : Option (Int32 × zOS) := (zit (P := Int32 × Int32) (R := Int32 × zOS) (fun kc9 p9 => bX5_isChosen_51 F x1 x2 x3 x4 x5 sD kc9 p9.1 p9.2) F (v0, (0 : Int32)))
set_option maxRecDepth 20000 in
theorem wX5_isChosen_46 {X : zCx} {res : Int32 × zOS} {F : Nat} {qD : Nat → Nat} (C : zC X RX5 cX5_isChosen 8 2 43) (hR : zR X (some .boolean) (some (.int res.1)) [(5, qD, res.2)]) (x1 : Int32) (x2 : Int32) (x3 : Int32) (x4 : Int32) (x5 : Int32) (sD : zOS) (v0 : Int32) : zJ X 8 res (jX5_isChosen_46 F x1 x2 x3 x4 x5 v0 sD) 46 [(0, (.ref (qD 0))), (1, (.int x1)), (2, (.int x2)), (3, (.int x3)), (4, (.int x4)), (5, (.int x5))] [(.int v0)] [(5, qD, sD)] := by
  unfold jX5_isChosen_46
  refine z_istore (pc := 46) [(0, (.ref (qD 0))), (1, (.int x1)), (2, (.int x2)), (3, (.int x3)), (4, (.int x4)), (5, (.int x5)), (6, (.int v0))] [1, 2, 3, 4, 5, 6, 0] (by decide) rfl C dX5_isChosen_46 ?_
  refine z_iconst (pc := 48) (0 : Int32) (by decide) C dX5_isChosen_48 ?_
  refine z_istore (pc := 49) [(0, (.ref (qD 0))), (1, (.int x1)), (2, (.int x2)), (3, (.int x3)), (4, (.int x4)), (5, (.int x5)), (6, (.int v0)), (7, (.int (0 : Int32)))] [1, 2, 3, 4, 5, 6, 7, 0] (by decide) rfl C dX5_isChosen_49 ?_
  show zJ X 8 res _ 51 [(0, (.ref (qD 0))), (1, (.int x1)), (2, (.int x2)), (3, (.int x3)), (4, (.int x4)), (5, (.int x5)), (6, (.int v0)), (7, (.int (0 : Int32)))] [] [(5, qD, sD)]
  exact zit_J (P := Int32 × Int32) (B := (fun kc9 p9 => bX5_isChosen_51 F x1 x2 x3 x4 x5 sD kc9 p9.1 p9.2)) (fun p9 => [(0, (.ref (qD 0))), (1, (.int x1)), (2, (.int x2)), (3, (.int x3)), (4, (.int x4)), (5, (.int x5)), (6, (.int p9.1)), (7, (.int p9.2))]) (fun p9 => [(5, qD, sD)]) (fun kc9 hk9 p9 => vX5_isChosen_51 C hR   (fun a0 a1 => hk9 (a0, a1)) p9.1 p9.2) F _
def jX5_isChosen_45 (F : Nat) (x1 : Int32) (x2 : Int32) (x3 : Int32) (x4 : Int32) (x5 : Int32) (sD : zOS) : Option (Int32 × zOS) := (jX5_isChosen_46 F x1 x2 x3 x4 x5 (0 : Int32) sD)
set_option maxRecDepth 20000 in
theorem wX5_isChosen_45 {X : zCx} {res : Int32 × zOS} {F : Nat} {qD : Nat → Nat} (C : zC X RX5 cX5_isChosen 8 2 43) (hR : zR X (some .boolean) (some (.int res.1)) [(5, qD, res.2)]) (x1 : Int32) (x2 : Int32) (x3 : Int32) (x4 : Int32) (x5 : Int32) (sD : zOS) : zJ X 8 res (jX5_isChosen_45 F x1 x2 x3 x4 x5 sD) 45 [(0, (.ref (qD 0))), (1, (.int x1)), (2, (.int x2)), (3, (.int x3)), (4, (.int x4)), (5, (.int x5))] [] [(5, qD, sD)] := by
  unfold jX5_isChosen_45
  refine z_iconst (pc := 45) (0 : Int32) (by decide) C dX5_isChosen_45 ?_
  exact wX5_isChosen_46 C hR   _ _ _ _ _ _ _
def jX5_isChosen_41 (F : Nat) (x1 : Int32) (x2 : Int32) (x3 : Int32) (x4 : Int32) (x5 : Int32) (sD : zOS) : Option (Int32 × zOS) := (jX5_isChosen_46 F x1 x2 x3 x4 x5 (1 : Int32) sD)
set_option maxRecDepth 20000 in
theorem wX5_isChosen_41 {X : zCx} {res : Int32 × zOS} {F : Nat} {qD : Nat → Nat} (C : zC X RX5 cX5_isChosen 8 2 43) (hR : zR X (some .boolean) (some (.int res.1)) [(5, qD, res.2)]) (x1 : Int32) (x2 : Int32) (x3 : Int32) (x4 : Int32) (x5 : Int32) (sD : zOS) : zJ X 8 res (jX5_isChosen_41 F x1 x2 x3 x4 x5 sD) 41 [(0, (.ref (qD 0))), (1, (.int x1)), (2, (.int x2)), (3, (.int x3)), (4, (.int x4)), (5, (.int x5))] [] [(5, qD, sD)] := by
  unfold jX5_isChosen_41
  refine z_iconst (pc := 41) (1 : Int32) (by decide) C dX5_isChosen_41 ?_
  refine z_goto (pc := 42) 46 C dX5_isChosen_42 (by decide) ?_
  exact wX5_isChosen_46 C hR   _ _ _ _ _ _ _
def fX5_isChosen (F : Nat) (x1 : Int32) (x2 : Int32) (sD : zOS) : Option (Int32 × zOS) := (zdvk (2 : Int32) (zlet (x2 / (2 : Int32)) (fun x3_1 : Int32 => (Option.bind (fX5_ofGate x3_1 (1 : Int32) sD) (fun r_2 : Int32 => (Option.bind (fX5_ofGate x3_1 (2 : Int32) sD) (fun r_4 : Int32 => (Option.bind (fX5_isWell x3_1 sD) (fun r_6 : Int32 => (if r_6 = 0 then (jX5_isChosen_45 F x1 x2 x3_1 r_2 r_4 sD) else (zdvk (2 : Int32) (if (x2 - x2 / (2 : Int32) * (2 : Int32)) = 0 then (jX5_isChosen_41 F x1 x2 x3_1 r_2 r_4 sD) else (if r_2 = r_4 then (jX5_isChosen_45 F x1 x2 x3_1 r_2 r_4 sD) else (jX5_isChosen_41 F x1 x2 x3_1 r_2 r_4 sD))))))))))))))
set_option maxRecDepth 20000 in
theorem wX5_isChosen {X : zCx} {res : Int32 × zOS} {F : Nat} {qD : Nat → Nat} {x1 : Int32} {x2 : Int32} {sD : zOS} (C : zC X RX5 cX5_isChosen 8 2 43) (hR : zR X (some .boolean) (some (.int res.1)) [(5, qD, res.2)])  : zJ X 8 res (fX5_isChosen F x1 x2 sD) 0 [(0, (.ref (qD 0))), (1, (.int x1)), (2, (.int x2))] [] [(5, qD, sD)] := by
  unfold fX5_isChosen
  refine z_iload_n (pc := 0) 2 rfl rfl C dX5_isChosen_0 ?_
  refine z_iconst (pc := 1) (2 : Int32) (by decide) C dX5_isChosen_1 ?_
  refine z_idiv (pc := 2) C dX5_isChosen_2 ?_
  refine z_leti (fun x3_1 => ?_)
  refine z_istore_n (pc := 3) [(0, (.ref (qD 0))), (1, (.int x1)), (2, (.int x2)), (3, (.int x3_1))] [1, 2, 3, 0] (by decide) rfl rfl C dX5_isChosen_3 ?_
  refine z_aload_n (pc := 4) 0 rfl rfl C dX5_isChosen_4 ?_
  refine z_iload_n (pc := 5) 3 rfl rfl C dX5_isChosen_5 ?_
  refine z_iconst (pc := 6) (1 : Int32) (by decide) C dX5_isChosen_6 ?_
  refine z_callV (pc := 7) (rf' := 0) (rl' := 0) (fX5_ofGate x3_1 (1 : Int32) sD) [(.int x3_1), (.int (1 : Int32))] [] [(5, qD, sD)] (fun r_2 => (some (.int r_2))) (fun r_2 => [(5, qD, sD)]) [] (fun r_2 => [(5, qD, sD)]) C dX5_isChosen_7 zy_X5_ofGate zw_946 (fun _ hr9 => mX5_ofGate  hr9) (by decide) rfl rfl (by decide) rfl (Nat.le_of_ble_eq_true rfl) (List.Perm.refl _) (fun _ => List.Perm.refl _) rfl (fun r_2 hr_3 => ?_)
  show zJ X 8 res _ 10 [(0, (.ref (qD 0))), (1, (.int x1)), (2, (.int x2)), (3, (.int x3_1))] [(.int r_2)] [(5, qD, sD)]
  refine z_istore (pc := 10) [(0, (.ref (qD 0))), (1, (.int x1)), (2, (.int x2)), (3, (.int x3_1)), (4, (.int r_2))] [1, 2, 3, 4, 0] (by decide) rfl C dX5_isChosen_10 ?_
  refine z_aload_n (pc := 12) 0 rfl rfl C dX5_isChosen_12 ?_
  refine z_iload_n (pc := 13) 3 rfl rfl C dX5_isChosen_13 ?_
  refine z_iconst (pc := 14) (2 : Int32) (by decide) C dX5_isChosen_14 ?_
  refine z_callV (pc := 15) (rf' := 0) (rl' := 0) (fX5_ofGate x3_1 (2 : Int32) sD) [(.int x3_1), (.int (2 : Int32))] [] [(5, qD, sD)] (fun r_4 => (some (.int r_4))) (fun r_4 => [(5, qD, sD)]) [] (fun r_4 => [(5, qD, sD)]) C dX5_isChosen_15 zy_X5_ofGate zw_946 (fun _ hr9 => mX5_ofGate  hr9) (by decide) rfl rfl (by decide) rfl (Nat.le_of_ble_eq_true rfl) (List.Perm.refl _) (fun _ => List.Perm.refl _) rfl (fun r_4 hr_5 => ?_)
  show zJ X 8 res _ 18 [(0, (.ref (qD 0))), (1, (.int x1)), (2, (.int x2)), (3, (.int x3_1)), (4, (.int r_2))] [(.int r_4)] [(5, qD, sD)]
  refine z_istore (pc := 18) [(0, (.ref (qD 0))), (1, (.int x1)), (2, (.int x2)), (3, (.int x3_1)), (4, (.int r_2)), (5, (.int r_4))] [1, 2, 3, 4, 5, 0] (by decide) rfl C dX5_isChosen_18 ?_
  refine z_aload_n (pc := 20) 0 rfl rfl C dX5_isChosen_20 ?_
  refine z_iload_n (pc := 21) 3 rfl rfl C dX5_isChosen_21 ?_
  refine z_callV (pc := 22) (rf' := 1) (rl' := 22) (fX5_isWell x3_1 sD) [(.int x3_1)] [] [(5, qD, sD)] (fun r_6 => (some (.int r_6))) (fun r_6 => [(5, qD, sD)]) [] (fun r_6 => [(5, qD, sD)]) C dX5_isChosen_22 zy_X5_isWell zw_942 (fun _ hr9 => mX5_isWell  hr9) (by decide) rfl rfl (by decide) rfl (Nat.le_of_ble_eq_true rfl) (List.Perm.refl _) (fun _ => List.Perm.refl _) rfl (fun r_6 hr_7 => ?_)
  show zJ X 8 res _ 25 [(0, (.ref (qD 0))), (1, (.int x1)), (2, (.int x2)), (3, (.int x3_1)), (4, (.int r_2)), (5, (.int r_4))] [(.int r_6)] [(5, qD, sD)]
  refine z_if_eq (pc := 25) 45 C dX5_isChosen_25 (by decide) ?_ ?_
  · exact wX5_isChosen_45 C hR   _ _ _ _ _ _
  · refine z_iload_n (pc := 28) 2 rfl rfl C dX5_isChosen_28 ?_
    refine z_iconst (pc := 29) (2 : Int32) (by decide) C dX5_isChosen_29 ?_
    refine z_irem (pc := 30) C dX5_isChosen_30 ?_
    refine z_if_eq (pc := 31) 41 C dX5_isChosen_31 (by decide) ?_ ?_
    · exact wX5_isChosen_41 C hR   _ _ _ _ _ _
    · refine z_iload (pc := 34) 4 rfl C dX5_isChosen_34 ?_
      refine z_iload (pc := 36) 5 rfl C dX5_isChosen_36 ?_
      refine z_icmp_eq (pc := 38) 45 C dX5_isChosen_38 (by decide) ?_ ?_
      · exact wX5_isChosen_45 C hR   _ _ _ _ _ _
      · exact wX5_isChosen_41 C hR   _ _ _ _ _ _
theorem mX5_isChosen {F : Nat} {qD : Nat → Nat} {x1 : Int32} {x2 : Int32} {sD : zOS} {res : Int32 × zOS}  (hf : fX5_isChosen F x1 x2 sD = some res) : zM yX5_isChosen cX5_isChosen 8 (some .boolean) 2 43 [(.ref (qD 0)), (.int x1), (.int x2)] [(5, qD, sD)] (some (.int res.1)) [(5, qD, res.2)] := zM_of (by decide +kernel) (Nat.le_of_ble_eq_true rfl) (fun X C hR => wX5_isChosen (F := F) C hR  hf)
theorem dX5_found_0 : decode cX5_found 0 = .ok (.aload_n 0, 1) := by decide +kernel
theorem dX5_found_1 : decode cX5_found 1 = .ok (.getfield 7, 3) := by decide +kernel
theorem dX5_found_4 : decode cX5_found 4 = .ok (.bipush 8, 2) := by decide +kernel
theorem dX5_found_6 : decode cX5_found 6 = .ok (.iaload, 1) := by decide +kernel
theorem dX5_found_7 : decode cX5_found 7 = .ok (.istore_n 1, 1) := by decide +kernel
theorem dX5_found_8 : decode cX5_found 8 = .ok (.aload_n 0, 1) := by decide +kernel
theorem dX5_found_9 : decode cX5_found 9 = .ok (.getfield 218, 3) := by decide +kernel
theorem dX5_found_12 : decode cX5_found 12 = .ok (.ifCond .ne 7, 3) := by decide +kernel
theorem dX5_found_15 : decode cX5_found 15 = .ok (.iconst 1, 1) := by decide +kernel
theorem dX5_found_16 : decode cX5_found 16 = .ok (.goto 4, 3) := by decide +kernel
theorem dX5_found_19 : decode cX5_found 19 = .ok (.iconst 0, 1) := by decide +kernel
theorem dX5_found_20 : decode cX5_found 20 = .ok (.istore_n 2, 1) := by decide +kernel
theorem dX5_found_21 : decode cX5_found 21 = .ok (.iload_n 2, 1) := by decide +kernel
theorem dX5_found_22 : decode cX5_found 22 = .ok (.ifCond .ne 7, 3) := by decide +kernel
theorem dX5_found_25 : decode cX5_found 25 = .ok (.iconst 1, 1) := by decide +kernel
theorem dX5_found_26 : decode cX5_found 26 = .ok (.goto 4, 3) := by decide +kernel
theorem dX5_found_29 : decode cX5_found 29 = .ok (.iconst 0, 1) := by decide +kernel
theorem dX5_found_30 : decode cX5_found 30 = .ok (.istore_n 3, 1) := by decide +kernel
theorem dX5_found_31 : decode cX5_found 31 = .ok (.iconst 0, 1) := by decide +kernel
theorem dX5_found_32 : decode cX5_found 32 = .ok (.istore 4, 2) := by decide +kernel
theorem dX5_found_34 : decode cX5_found 34 = .ok (.iload 4, 2) := by decide +kernel
theorem dX5_found_36 : decode cX5_found 36 = .ok (.iload_n 1, 1) := by decide +kernel
theorem dX5_found_37 : decode cX5_found 37 = .ok (.bipush 10, 2) := by decide +kernel
theorem dX5_found_39 : decode cX5_found 39 = .ok (.iadd, 1) := by decide +kernel
theorem dX5_found_40 : decode cX5_found 40 = .ok (.if_icmp .ge 83, 3) := by decide +kernel
theorem dX5_found_43 : decode cX5_found 43 = .ok (.iload_n 3, 1) := by decide +kernel
theorem dX5_found_44 : decode cX5_found 44 = .ok (.ifCond .eq 79, 3) := by decide +kernel
theorem dX5_found_47 : decode cX5_found 47 = .ok (.iload 4, 2) := by decide +kernel
theorem dX5_found_49 : decode cX5_found 49 = .ok (.iload_n 1, 1) := by decide +kernel
theorem dX5_found_50 : decode cX5_found 50 = .ok (.if_icmp .ge 15, 3) := by decide +kernel
theorem dX5_found_53 : decode cX5_found 53 = .ok (.aload_n 0, 1) := by decide +kernel
theorem dX5_found_54 : decode cX5_found 54 = .ok (.getfield 37, 3) := by decide +kernel
theorem dX5_found_57 : decode cX5_found 57 = .ok (.iload 4, 2) := by decide +kernel
theorem dX5_found_59 : decode cX5_found 59 = .ok (.iaload, 1) := by decide +kernel
theorem dX5_found_60 : decode cX5_found 60 = .ok (.iconst 2, 1) := by decide +kernel
theorem dX5_found_61 : decode cX5_found 61 = .ok (.idiv, 1) := by decide +kernel
theorem dX5_found_62 : decode cX5_found 62 = .ok (.goto 17, 3) := by decide +kernel
theorem dX5_found_65 : decode cX5_found 65 = .ok (.aload_n 0, 1) := by decide +kernel
theorem dX5_found_66 : decode cX5_found 66 = .ok (.getfield 40, 3) := by decide +kernel
theorem dX5_found_69 : decode cX5_found 69 = .ok (.bipush 10, 2) := by decide +kernel
theorem dX5_found_71 : decode cX5_found 71 = .ok (.iload_n 1, 1) := by decide +kernel
theorem dX5_found_72 : decode cX5_found 72 = .ok (.imul, 1) := by decide +kernel
theorem dX5_found_73 : decode cX5_found 73 = .ok (.iload 4, 2) := by decide +kernel
theorem dX5_found_75 : decode cX5_found 75 = .ok (.iadd, 1) := by decide +kernel
theorem dX5_found_76 : decode cX5_found 76 = .ok (.iload_n 1, 1) := by decide +kernel
theorem dX5_found_77 : decode cX5_found 77 = .ok (.isub, 1) := by decide +kernel
theorem dX5_found_78 : decode cX5_found 78 = .ok (.iaload, 1) := by decide +kernel
theorem dX5_found_79 : decode cX5_found 79 = .ok (.istore 5, 2) := by decide +kernel
theorem dX5_found_81 : decode cX5_found 81 = .ok (.iload 5, 2) := by decide +kernel
theorem dX5_found_83 : decode cX5_found 83 = .ok (.aload_n 0, 1) := by decide +kernel
theorem dX5_found_84 : decode cX5_found 84 = .ok (.getfield 34, 3) := by decide +kernel
theorem dX5_found_87 : decode cX5_found 87 = .ok (.iload 4, 2) := by decide +kernel
theorem dX5_found_89 : decode cX5_found 89 = .ok (.iaload, 1) := by decide +kernel
theorem dX5_found_90 : decode cX5_found 90 = .ok (.if_icmp .ge 7, 3) := by decide +kernel
theorem dX5_found_93 : decode cX5_found 93 = .ok (.iconst 1, 1) := by decide +kernel
theorem dX5_found_94 : decode cX5_found 94 = .ok (.goto 4, 3) := by decide +kernel
theorem dX5_found_97 : decode cX5_found 97 = .ok (.iconst 0, 1) := by decide +kernel
theorem dX5_found_98 : decode cX5_found 98 = .ok (.istore_n 2, 1) := by decide +kernel
theorem dX5_found_99 : decode cX5_found 99 = .ok (.iload 5, 2) := by decide +kernel
theorem dX5_found_101 : decode cX5_found 101 = .ok (.aload_n 0, 1) := by decide +kernel
theorem dX5_found_102 : decode cX5_found 102 = .ok (.getfield 34, 3) := by decide +kernel
theorem dX5_found_105 : decode cX5_found 105 = .ok (.iload 4, 2) := by decide +kernel
theorem dX5_found_107 : decode cX5_found 107 = .ok (.iaload, 1) := by decide +kernel
theorem dX5_found_108 : decode cX5_found 108 = .ok (.if_icmp .ne 7, 3) := by decide +kernel
theorem dX5_found_111 : decode cX5_found 111 = .ok (.iconst 1, 1) := by decide +kernel
theorem dX5_found_112 : decode cX5_found 112 = .ok (.goto 4, 3) := by decide +kernel
theorem dX5_found_115 : decode cX5_found 115 = .ok (.iconst 0, 1) := by decide +kernel
theorem dX5_found_116 : decode cX5_found 116 = .ok (.istore_n 3, 1) := by decide +kernel
theorem dX5_found_117 : decode cX5_found 117 = .ok (.iinc 4 1, 3) := by decide +kernel
theorem dX5_found_120 : decode cX5_found 120 = .ok (.goto (-86), 3) := by decide +kernel
theorem dX5_found_123 : decode cX5_found 123 = .ok (.iconst 0, 1) := by decide +kernel
theorem dX5_found_124 : decode cX5_found 124 = .ok (.istore 4, 2) := by decide +kernel
theorem dX5_found_126 : decode cX5_found 126 = .ok (.iload 4, 2) := by decide +kernel
theorem dX5_found_128 : decode cX5_found 128 = .ok (.iload_n 1, 1) := by decide +kernel
theorem dX5_found_129 : decode cX5_found 129 = .ok (.bipush 10, 2) := by decide +kernel
theorem dX5_found_131 : decode cX5_found 131 = .ok (.iadd, 1) := by decide +kernel
theorem dX5_found_132 : decode cX5_found 132 = .ok (.if_icmp .ge 52, 3) := by decide +kernel
theorem dX5_found_135 : decode cX5_found 135 = .ok (.iload_n 2, 1) := by decide +kernel
theorem dX5_found_136 : decode cX5_found 136 = .ok (.ifCond .eq 48, 3) := by decide +kernel
theorem dX5_found_139 : decode cX5_found 139 = .ok (.aload_n 0, 1) := by decide +kernel
theorem dX5_found_140 : decode cX5_found 140 = .ok (.getfield 34, 3) := by decide +kernel
theorem dX5_found_143 : decode cX5_found 143 = .ok (.iload 4, 2) := by decide +kernel
theorem dX5_found_145 : decode cX5_found 145 = .ok (.iload 4, 2) := by decide +kernel
theorem dX5_found_147 : decode cX5_found 147 = .ok (.iload_n 1, 1) := by decide +kernel
theorem dX5_found_148 : decode cX5_found 148 = .ok (.if_icmp .ge 15, 3) := by decide +kernel
theorem dX5_found_151 : decode cX5_found 151 = .ok (.aload_n 0, 1) := by decide +kernel
theorem dX5_found_152 : decode cX5_found 152 = .ok (.getfield 37, 3) := by decide +kernel
theorem dX5_found_155 : decode cX5_found 155 = .ok (.iload 4, 2) := by decide +kernel
theorem dX5_found_157 : decode cX5_found 157 = .ok (.iaload, 1) := by decide +kernel
theorem dX5_found_158 : decode cX5_found 158 = .ok (.iconst 2, 1) := by decide +kernel
theorem dX5_found_159 : decode cX5_found 159 = .ok (.idiv, 1) := by decide +kernel
theorem dX5_found_160 : decode cX5_found 160 = .ok (.goto 17, 3) := by decide +kernel
theorem dX5_found_163 : decode cX5_found 163 = .ok (.aload_n 0, 1) := by decide +kernel
theorem dX5_found_164 : decode cX5_found 164 = .ok (.getfield 40, 3) := by decide +kernel
theorem dX5_found_167 : decode cX5_found 167 = .ok (.bipush 10, 2) := by decide +kernel
theorem dX5_found_169 : decode cX5_found 169 = .ok (.iload_n 1, 1) := by decide +kernel
theorem dX5_found_170 : decode cX5_found 170 = .ok (.imul, 1) := by decide +kernel
theorem dX5_found_171 : decode cX5_found 171 = .ok (.iload 4, 2) := by decide +kernel
theorem dX5_found_173 : decode cX5_found 173 = .ok (.iadd, 1) := by decide +kernel
theorem dX5_found_174 : decode cX5_found 174 = .ok (.iload_n 1, 1) := by decide +kernel
theorem dX5_found_175 : decode cX5_found 175 = .ok (.isub, 1) := by decide +kernel
theorem dX5_found_176 : decode cX5_found 176 = .ok (.iaload, 1) := by decide +kernel
theorem dX5_found_177 : decode cX5_found 177 = .ok (.iastore, 1) := by decide +kernel
theorem dX5_found_178 : decode cX5_found 178 = .ok (.iinc 4 1, 3) := by decide +kernel
theorem dX5_found_181 : decode cX5_found 181 = .ok (.goto (-55), 3) := by decide +kernel
theorem dX5_found_184 : decode cX5_found 184 = .ok (.aload_n 0, 1) := by decide +kernel
theorem dX5_found_185 : decode cX5_found 185 = .ok (.dup, 1) := by decide +kernel
theorem dX5_found_186 : decode cX5_found 186 = .ok (.getfield 218, 3) := by decide +kernel
theorem dX5_found_189 : decode cX5_found 189 = .ok (.iconst 1, 1) := by decide +kernel
theorem dX5_found_190 : decode cX5_found 190 = .ok (.iadd, 1) := by decide +kernel
theorem dX5_found_191 : decode cX5_found 191 = .ok (.putfield 218, 3) := by decide +kernel
theorem dX5_found_194 : decode cX5_found 194 = .ok (.return_, 1) := by decide +kernel
def jX5_found_184 (F : Nat) (sD : zOS) : Option (zOS) := (zlet (zsF sD 14 ((zF sD 14) + (1 : Int32))) (fun sD_2 : zOS => (some (sD_2))))
set_option maxRecDepth 20000 in
theorem wX5_found_184 {X : zCx} {res : zOS} {F : Nat} {qD : Nat → Nat} (C : zC X RX5 cX5_found 6 0 0) (hR : zR X none none [(5, qD, res)]) (sD : zOS) : zJ X 6 res (jX5_found_184 F sD) 184 [(0, (.ref (qD 0)))] [] [(5, qD, sD)] := by
  unfold jX5_found_184
  refine z_aload_n (pc := 184) 0 rfl rfl C dX5_found_184 ?_
  refine z_dup (pc := 185) rfl C dX5_found_185 ?_
  refine z_getI (pc := 186) 0 14 C dX5_found_186 rfl (by decide) (by decide) rfl zw_729 ?_
  refine z_iconst (pc := 189) (1 : Int32) (by decide) C dX5_found_189 ?_
  refine z_iadd (pc := 190) C dX5_found_190 ?_
  refine z_putI (pc := 191) 0 14 C dX5_found_191 rfl (by decide) (by decide) rfl zw_729 rfl rfl rfl [(5, qD, (zsF sD 14 ((zF sD 14) + (1 : Int32))))] rfl ?_
  refine z_letc (fun z9 => [(5, qD, z9)]) (fun sD_2 => ?_)
  exact z_return (pc := 194) C hR dX5_found_194 (fun h => by subst h; exact ⟨rfl, rfl⟩)
def jX5_found_177 (F : Nat) (kc_126 : (Int32 × zOS) → Option (zOS)) (x4 : Int32) (v0 : Int32) (v1 : Int32) (sD : zOS) : Option (zOS) := (zchk v1 16 (zlet (zsI sD 9 (upd (zI sD 9) v1.toNatClampNeg v0)) (fun sD_3 : zOS => (kc_126 ((x4 + 1), sD_3)))))
set_option maxRecDepth 20000 in
theorem wX5_found_177 {X : zCx} {res : zOS} {F : Nat} {qD : Nat → Nat} {x1 : Int32} {x2 : Int32} {kc_126 : (Int32 × zOS) → Option (zOS)} (C : zC X RX5 cX5_found 6 0 0) (hR : zR X none none [(5, qD, res)]) (hk_126 : ∀ (y4 : Int32) (tD : zOS), zJ X 6 res (kc_126 (y4, tD)) 126 [(0, (.ref (qD 0))), (1, (.int x1)), (2, (.int x2)), (4, (.int y4))] [] [(5, qD, tD)]) (x4 : Int32) (sD : zOS) (v0 : Int32) (v1 : Int32) : zJ X 6 res (jX5_found_177 F kc_126 x4 v0 v1 sD) 177 [(0, (.ref (qD 0))), (1, (.int x1)), (2, (.int x2)), (4, (.int x4))] [(.int v0), (.int v1), (.ref (qD 9))] [(5, qD, sD)] := by
  unfold jX5_found_177
  refine z_iast (pc := 177) 0 C dX5_found_177 rfl (by unfold zAr; decide) [(5, qD, (zsI sD 9 (upd (zI sD 9) v1.toNatClampNeg v0)))] rfl ?_
  refine z_letc (fun z9 => [(5, qD, z9)]) (fun sD_3 => ?_)
  refine z_iinc (pc := 178) (x4 + 1) 3 rfl rfl [(0, (.ref (qD 0))), (1, (.int x1)), (2, (.int x2)), (4, (.int (x4 + 1)))] [1, 2, 3, 0] (by decide) rfl C dX5_found_178 ?_
  refine z_goto (pc := 181) 126 C dX5_found_181 (by decide) ?_
  exact hk_126 _ _
def bX5_found_126 (F : Nat) (x1 : Int32) (x2 : Int32) (kc_126 : (Int32 × zOS) → Option (zOS)) (x4 : Int32) (sD : zOS) : Option (zOS) := (if (x1 + (10 : Int32)) ≤ x4 then (jX5_found_184 F sD) else (if x2 = 0 then (jX5_found_184 F sD) else (if x1 ≤ x4 then (zchk ((((10 : Int32) * x1) + x4) - x1) 70 (jX5_found_177 F kc_126 x4 (zI sD 11 ((((10 : Int32) * x1) + x4) - x1).toNatClampNeg) x4 sD)) else (zchk x4 7 (zdvk (2 : Int32) (jX5_found_177 F kc_126 x4 ((zI sD 10 x4.toNatClampNeg) / (2 : Int32)) x4 sD))))))
set_option maxRecDepth 20000 in
theorem vX5_found_126 {X : zCx} {res : zOS} {F : Nat} {qD : Nat → Nat} {x1 : Int32} {x2 : Int32} {kc_126 : (Int32 × zOS) → Option (zOS)} (C : zC X RX5 cX5_found 6 0 0) (hR : zR X none none [(5, qD, res)]) (hk_126 : ∀ (y4 : Int32) (tD : zOS), zJ X 6 res (kc_126 (y4, tD)) 126 [(0, (.ref (qD 0))), (1, (.int x1)), (2, (.int x2)), (4, (.int y4))] [] [(5, qD, tD)]) (x4 : Int32) (sD : zOS) : zJ X 6 res (bX5_found_126 F x1 x2 kc_126 x4 sD) 126 [(0, (.ref (qD 0))), (1, (.int x1)), (2, (.int x2)), (4, (.int x4))] [] [(5, qD, sD)] := by
  unfold bX5_found_126
  refine z_iload (pc := 126) 3 rfl C dX5_found_126 ?_
  refine z_iload_n (pc := 128) 1 rfl rfl C dX5_found_128 ?_
  refine z_bipush (pc := 129) (10 : Int32) (by decide) C dX5_found_129 ?_
  refine z_iadd (pc := 131) C dX5_found_131 ?_
  refine z_icmp_ge (pc := 132) 184 C dX5_found_132 (by decide) ?_ ?_
  · refine z_lv [(0, (.ref (qD 0)))] [0] rfl ?_
    exact wX5_found_184 C hR   _
  · refine z_iload_n (pc := 135) 2 rfl rfl C dX5_found_135 ?_
    refine z_if_eq (pc := 136) 184 C dX5_found_136 (by decide) ?_ ?_
    · refine z_lv [(0, (.ref (qD 0)))] [0] rfl ?_
      exact wX5_found_184 C hR   _
    · refine z_aload_n (pc := 139) 0 rfl rfl C dX5_found_139 ?_
      refine z_getR (pc := 140) 0 15 9 C dX5_found_140 rfl (by decide) (by decide) rfl zw_730 ?_
      refine z_iload (pc := 143) 3 rfl C dX5_found_143 ?_
      refine z_iload (pc := 145) 3 rfl C dX5_found_145 ?_
      refine z_iload_n (pc := 147) 1 rfl rfl C dX5_found_147 ?_
      refine z_icmp_ge (pc := 148) 163 C dX5_found_148 (by decide) ?_ ?_
      · refine z_aload_n (pc := 163) 0 rfl rfl C dX5_found_163 ?_
        refine z_getR (pc := 164) 0 17 11 C dX5_found_164 rfl (by decide) (by decide) rfl zw_732 ?_
        refine z_bipush (pc := 167) (10 : Int32) (by decide) C dX5_found_167 ?_
        refine z_iload_n (pc := 169) 1 rfl rfl C dX5_found_169 ?_
        refine z_imul (pc := 170) C dX5_found_170 ?_
        refine z_iload (pc := 171) 3 rfl C dX5_found_171 ?_
        refine z_iadd (pc := 173) C dX5_found_173 ?_
        refine z_iload_n (pc := 174) 1 rfl rfl C dX5_found_174 ?_
        refine z_isub (pc := 175) C dX5_found_175 ?_
        refine z_iald (pc := 176) 0 C dX5_found_176 rfl (by unfold zAr; decide) ?_
        exact wX5_found_177 C hR  hk_126 _ _ _ _
      · refine z_aload_n (pc := 151) 0 rfl rfl C dX5_found_151 ?_
        refine z_getR (pc := 152) 0 16 10 C dX5_found_152 rfl (by decide) (by decide) rfl zw_731 ?_
        refine z_iload (pc := 155) 3 rfl C dX5_found_155 ?_
        refine z_iald (pc := 157) 0 C dX5_found_157 rfl (by unfold zAr; decide) ?_
        refine z_iconst (pc := 158) (2 : Int32) (by decide) C dX5_found_158 ?_
        refine z_idiv (pc := 159) C dX5_found_159 ?_
        refine z_goto (pc := 160) 177 C dX5_found_160 (by decide) ?_
        exact wX5_found_177 C hR  hk_126 _ _ _ _
def jX5_found_123 (F : Nat) (x1 : Int32) (x2 : Int32) (sD : zOS) : Option (zOS) := (zit (P := Int32 × zOS) (R := zOS) (fun kc9 p9 => bX5_found_126 F x1 x2 kc9 p9.1 p9.2) F ((0 : Int32), sD))
set_option maxRecDepth 20000 in
theorem wX5_found_123 {X : zCx} {res : zOS} {F : Nat} {qD : Nat → Nat} (C : zC X RX5 cX5_found 6 0 0) (hR : zR X none none [(5, qD, res)]) (x1 : Int32) (x2 : Int32) (sD : zOS) : zJ X 6 res (jX5_found_123 F x1 x2 sD) 123 [(0, (.ref (qD 0))), (1, (.int x1)), (2, (.int x2))] [] [(5, qD, sD)] := by
  unfold jX5_found_123
  refine z_iconst (pc := 123) (0 : Int32) (by decide) C dX5_found_123 ?_
  refine z_istore (pc := 124) [(0, (.ref (qD 0))), (1, (.int x1)), (2, (.int x2)), (4, (.int (0 : Int32)))] [1, 2, 3, 0] (by decide) rfl C dX5_found_124 ?_
  show zJ X 6 res _ 126 [(0, (.ref (qD 0))), (1, (.int x1)), (2, (.int x2)), (4, (.int (0 : Int32)))] [] [(5, qD, sD)]
  exact zit_J (P := Int32 × zOS) (B := (fun kc9 p9 => bX5_found_126 F x1 x2 kc9 p9.1 p9.2)) (fun p9 => [(0, (.ref (qD 0))), (1, (.int x1)), (2, (.int x2)), (4, (.int p9.1))]) (fun p9 => [(5, qD, p9.2)]) (fun kc9 hk9 p9 => vX5_found_126 C hR   (fun a0 a1 => hk9 (a0, a1)) p9.1 p9.2) F _
def jX5_found_98 (F : Nat) (kc_34 : (Int32 × Int32 × Int32) → Option (zOS)) (x4 : Int32) (x5 : Int32) (v0 : Int32) (sD : zOS) : Option (zOS) := (zchk x4 16 (if x5 = (zI sD 9 x4.toNatClampNeg) then (kc_34 (v0, (1 : Int32), (x4 + 1))) else (kc_34 (v0, (0 : Int32), (x4 + 1)))))
set_option maxRecDepth 20000 in
theorem wX5_found_98 {X : zCx} {res : zOS} {F : Nat} {qD : Nat → Nat} {sD : zOS} {x1 : Int32} {kc_34 : (Int32 × Int32 × Int32) → Option (zOS)} (C : zC X RX5 cX5_found 6 0 0) (hR : zR X none none [(5, qD, res)]) (hk_34 : ∀ (y2 : Int32) (y3 : Int32) (y4 : Int32), zJ X 6 res (kc_34 (y2, y3, y4)) 34 [(0, (.ref (qD 0))), (1, (.int x1)), (2, (.int y2)), (3, (.int y3)), (4, (.int y4))] [] [(5, qD, sD)]) (x4 : Int32) (x5 : Int32) (v0 : Int32) : zJ X 6 res (jX5_found_98 F kc_34 x4 x5 v0 sD) 98 [(0, (.ref (qD 0))), (1, (.int x1)), (4, (.int x4)), (5, (.int x5))] [(.int v0)] [(5, qD, sD)] := by
  unfold jX5_found_98
  refine z_istore_n (pc := 98) [(0, (.ref (qD 0))), (1, (.int x1)), (2, (.int v0)), (4, (.int x4)), (5, (.int x5))] [1, 2, 0, 3, 4] (by decide) rfl rfl C dX5_found_98 ?_
  refine z_iload (pc := 99) 4 rfl C dX5_found_99 ?_
  refine z_aload_n (pc := 101) 0 rfl rfl C dX5_found_101 ?_
  refine z_getR (pc := 102) 0 15 9 C dX5_found_102 rfl (by decide) (by decide) rfl zw_730 ?_
  refine z_iload (pc := 105) 3 rfl C dX5_found_105 ?_
  refine z_iald (pc := 107) 0 C dX5_found_107 rfl (by unfold zAr; decide) ?_
  refine z_icmp_ne (pc := 108) 115 C dX5_found_108 (by decide) ?_ ?_
  · refine z_iconst (pc := 111) (1 : Int32) (by decide) C dX5_found_111 ?_
    refine z_goto (pc := 112) 116 C dX5_found_112 (by decide) ?_
    refine z_istore_n (pc := 116) [(0, (.ref (qD 0))), (1, (.int x1)), (2, (.int v0)), (3, (.int (1 : Int32))), (4, (.int x4)), (5, (.int x5))] [1, 2, 3, 0, 4, 5] (by decide) rfl rfl C dX5_found_116 ?_
    refine z_iinc (pc := 117) (x4 + 1) 4 rfl rfl [(0, (.ref (qD 0))), (1, (.int x1)), (2, (.int v0)), (3, (.int (1 : Int32))), (4, (.int (x4 + 1))), (5, (.int x5))] [1, 2, 3, 4, 0, 5] (by decide) rfl C dX5_found_117 ?_
    refine z_goto (pc := 120) 34 C dX5_found_120 (by decide) ?_
    refine z_lv [(0, (.ref (qD 0))), (1, (.int x1)), (2, (.int v0)), (3, (.int (1 : Int32))), (4, (.int (x4 + 1)))] [0, 1, 2, 3, 4] rfl ?_
    exact hk_34 _ _ _
  · refine z_iconst (pc := 115) (0 : Int32) (by decide) C dX5_found_115 ?_
    refine z_istore_n (pc := 116) [(0, (.ref (qD 0))), (1, (.int x1)), (2, (.int v0)), (3, (.int (0 : Int32))), (4, (.int x4)), (5, (.int x5))] [1, 2, 3, 0, 4, 5] (by decide) rfl rfl C dX5_found_116 ?_
    refine z_iinc (pc := 117) (x4 + 1) 4 rfl rfl [(0, (.ref (qD 0))), (1, (.int x1)), (2, (.int v0)), (3, (.int (0 : Int32))), (4, (.int (x4 + 1))), (5, (.int x5))] [1, 2, 3, 4, 0, 5] (by decide) rfl C dX5_found_117 ?_
    refine z_goto (pc := 120) 34 C dX5_found_120 (by decide) ?_
    refine z_lv [(0, (.ref (qD 0))), (1, (.int x1)), (2, (.int v0)), (3, (.int (0 : Int32))), (4, (.int (x4 + 1)))] [0, 1, 2, 3, 4] rfl ?_
    exact hk_34 _ _ _
def jX5_found_79 (F : Nat) (kc_34 : (Int32 × Int32 × Int32) → Option (zOS)) (x4 : Int32) (v0 : Int32) (sD : zOS) : Option (zOS) := (zchk x4 16 (if (zI sD 9 x4.toNatClampNeg) ≤ v0 then (jX5_found_98 F kc_34 x4 v0 (0 : Int32) sD) else (jX5_found_98 F kc_34 x4 v0 (1 : Int32) sD)))
set_option maxRecDepth 20000 in
theorem wX5_found_79 {X : zCx} {res : zOS} {F : Nat} {qD : Nat → Nat} {sD : zOS} {x1 : Int32} {kc_34 : (Int32 × Int32 × Int32) → Option (zOS)} (C : zC X RX5 cX5_found 6 0 0) (hR : zR X none none [(5, qD, res)]) (hk_34 : ∀ (y2 : Int32) (y3 : Int32) (y4 : Int32), zJ X 6 res (kc_34 (y2, y3, y4)) 34 [(0, (.ref (qD 0))), (1, (.int x1)), (2, (.int y2)), (3, (.int y3)), (4, (.int y4))] [] [(5, qD, sD)]) (x4 : Int32) (v0 : Int32) : zJ X 6 res (jX5_found_79 F kc_34 x4 v0 sD) 79 [(0, (.ref (qD 0))), (1, (.int x1)), (4, (.int x4))] [(.int v0)] [(5, qD, sD)] := by
  unfold jX5_found_79
  refine z_istore (pc := 79) [(0, (.ref (qD 0))), (1, (.int x1)), (4, (.int x4)), (5, (.int v0))] [1, 2, 3, 0] (by decide) rfl C dX5_found_79 ?_
  refine z_iload (pc := 81) 3 rfl C dX5_found_81 ?_
  refine z_aload_n (pc := 83) 0 rfl rfl C dX5_found_83 ?_
  refine z_getR (pc := 84) 0 15 9 C dX5_found_84 rfl (by decide) (by decide) rfl zw_730 ?_
  refine z_iload (pc := 87) 2 rfl C dX5_found_87 ?_
  refine z_iald (pc := 89) 0 C dX5_found_89 rfl (by unfold zAr; decide) ?_
  refine z_icmp_ge (pc := 90) 97 C dX5_found_90 (by decide) ?_ ?_
  · refine z_iconst (pc := 97) (0 : Int32) (by decide) C dX5_found_97 ?_
    exact wX5_found_98 C hR  hk_34 _ _ _
  · refine z_iconst (pc := 93) (1 : Int32) (by decide) C dX5_found_93 ?_
    refine z_goto (pc := 94) 98 C dX5_found_94 (by decide) ?_
    exact wX5_found_98 C hR  hk_34 _ _ _
def bX5_found_34 (F : Nat) (x1 : Int32) (sD : zOS) (kc_34 : (Int32 × Int32 × Int32) → Option (zOS)) (x2 : Int32) (x3 : Int32) (x4 : Int32) : Option (zOS) := (if (x1 + (10 : Int32)) ≤ x4 then (jX5_found_123 F x1 x2 sD) else (if x3 = 0 then (jX5_found_123 F x1 x2 sD) else (if x1 ≤ x4 then (zchk ((((10 : Int32) * x1) + x4) - x1) 70 (jX5_found_79 F kc_34 x4 (zI sD 11 ((((10 : Int32) * x1) + x4) - x1).toNatClampNeg) sD)) else (zchk x4 7 (zdvk (2 : Int32) (jX5_found_79 F kc_34 x4 ((zI sD 10 x4.toNatClampNeg) / (2 : Int32)) sD))))))
set_option maxRecDepth 20000 in
theorem vX5_found_34 {X : zCx} {res : zOS} {F : Nat} {qD : Nat → Nat} {sD : zOS} {x1 : Int32} {kc_34 : (Int32 × Int32 × Int32) → Option (zOS)} (C : zC X RX5 cX5_found 6 0 0) (hR : zR X none none [(5, qD, res)]) (hk_34 : ∀ (y2 : Int32) (y3 : Int32) (y4 : Int32), zJ X 6 res (kc_34 (y2, y3, y4)) 34 [(0, (.ref (qD 0))), (1, (.int x1)), (2, (.int y2)), (3, (.int y3)), (4, (.int y4))] [] [(5, qD, sD)]) (x2 : Int32) (x3 : Int32) (x4 : Int32) : zJ X 6 res (bX5_found_34 F x1 sD kc_34 x2 x3 x4) 34 [(0, (.ref (qD 0))), (1, (.int x1)), (2, (.int x2)), (3, (.int x3)), (4, (.int x4))] [] [(5, qD, sD)] := by
  unfold bX5_found_34
  refine z_iload (pc := 34) 4 rfl C dX5_found_34 ?_
  refine z_iload_n (pc := 36) 1 rfl rfl C dX5_found_36 ?_
  refine z_bipush (pc := 37) (10 : Int32) (by decide) C dX5_found_37 ?_
  refine z_iadd (pc := 39) C dX5_found_39 ?_
  refine z_icmp_ge (pc := 40) 123 C dX5_found_40 (by decide) ?_ ?_
  · refine z_lv [(0, (.ref (qD 0))), (1, (.int x1)), (2, (.int x2))] [0, 1, 2] rfl ?_
    exact wX5_found_123 C hR   _ _ _
  · refine z_iload_n (pc := 43) 3 rfl rfl C dX5_found_43 ?_
    refine z_if_eq (pc := 44) 123 C dX5_found_44 (by decide) ?_ ?_
    · refine z_lv [(0, (.ref (qD 0))), (1, (.int x1)), (2, (.int x2))] [0, 1, 2] rfl ?_
      exact wX5_found_123 C hR   _ _ _
    · refine z_iload (pc := 47) 4 rfl C dX5_found_47 ?_
      refine z_iload_n (pc := 49) 1 rfl rfl C dX5_found_49 ?_
      refine z_icmp_ge (pc := 50) 65 C dX5_found_50 (by decide) ?_ ?_
      · refine z_aload_n (pc := 65) 0 rfl rfl C dX5_found_65 ?_
        refine z_getR (pc := 66) 0 17 11 C dX5_found_66 rfl (by decide) (by decide) rfl zw_732 ?_
        refine z_bipush (pc := 69) (10 : Int32) (by decide) C dX5_found_69 ?_
        refine z_iload_n (pc := 71) 1 rfl rfl C dX5_found_71 ?_
        refine z_imul (pc := 72) C dX5_found_72 ?_
        refine z_iload (pc := 73) 4 rfl C dX5_found_73 ?_
        refine z_iadd (pc := 75) C dX5_found_75 ?_
        refine z_iload_n (pc := 76) 1 rfl rfl C dX5_found_76 ?_
        refine z_isub (pc := 77) C dX5_found_77 ?_
        refine z_iald (pc := 78) 0 C dX5_found_78 rfl (by unfold zAr; decide) ?_
        refine z_lv [(0, (.ref (qD 0))), (1, (.int x1)), (4, (.int x4))] [0, 1, 4] rfl ?_
        exact wX5_found_79 C hR  hk_34 _ _
      · refine z_aload_n (pc := 53) 0 rfl rfl C dX5_found_53 ?_
        refine z_getR (pc := 54) 0 16 10 C dX5_found_54 rfl (by decide) (by decide) rfl zw_731 ?_
        refine z_iload (pc := 57) 4 rfl C dX5_found_57 ?_
        refine z_iald (pc := 59) 0 C dX5_found_59 rfl (by unfold zAr; decide) ?_
        refine z_iconst (pc := 60) (2 : Int32) (by decide) C dX5_found_60 ?_
        refine z_idiv (pc := 61) C dX5_found_61 ?_
        refine z_goto (pc := 62) 79 C dX5_found_62 (by decide) ?_
        refine z_lv [(0, (.ref (qD 0))), (1, (.int x1)), (4, (.int x4))] [0, 1, 4] rfl ?_
        exact wX5_found_79 C hR  hk_34 _ _
def jX5_found_30 (F : Nat) (x1 : Int32) (x2 : Int32) (v0 : Int32) (sD : zOS) : Option (zOS) := (zit (P := Int32 × Int32 × Int32) (R := zOS) (fun kc9 p9 => bX5_found_34 F x1 sD kc9 p9.1 p9.2.1 p9.2.2) F (x2, v0, (0 : Int32)))
set_option maxRecDepth 20000 in
theorem wX5_found_30 {X : zCx} {res : zOS} {F : Nat} {qD : Nat → Nat} (C : zC X RX5 cX5_found 6 0 0) (hR : zR X none none [(5, qD, res)]) (x1 : Int32) (x2 : Int32) (sD : zOS) (v0 : Int32) : zJ X 6 res (jX5_found_30 F x1 x2 v0 sD) 30 [(0, (.ref (qD 0))), (1, (.int x1)), (2, (.int x2))] [(.int v0)] [(5, qD, sD)] := by
  unfold jX5_found_30
  refine z_istore_n (pc := 30) [(0, (.ref (qD 0))), (1, (.int x1)), (2, (.int x2)), (3, (.int v0))] [1, 2, 3, 0] (by decide) rfl rfl C dX5_found_30 ?_
  refine z_iconst (pc := 31) (0 : Int32) (by decide) C dX5_found_31 ?_
  refine z_istore (pc := 32) [(0, (.ref (qD 0))), (1, (.int x1)), (2, (.int x2)), (3, (.int v0)), (4, (.int (0 : Int32)))] [1, 2, 3, 4, 0] (by decide) rfl C dX5_found_32 ?_
  show zJ X 6 res _ 34 [(0, (.ref (qD 0))), (1, (.int x1)), (2, (.int x2)), (3, (.int v0)), (4, (.int (0 : Int32)))] [] [(5, qD, sD)]
  exact zit_J (P := Int32 × Int32 × Int32) (B := (fun kc9 p9 => bX5_found_34 F x1 sD kc9 p9.1 p9.2.1 p9.2.2)) (fun p9 => [(0, (.ref (qD 0))), (1, (.int x1)), (2, (.int p9.1)), (3, (.int p9.2.1)), (4, (.int p9.2.2))]) (fun p9 => [(5, qD, sD)]) (fun kc9 hk9 p9 => vX5_found_34 C hR   (fun a0 a1 a2 => hk9 (a0, a1, a2)) p9.1 p9.2.1 p9.2.2) F _
def jX5_found_20 (F : Nat) (x1 : Int32) (v0 : Int32) (sD : zOS) : Option (zOS) := (if v0 = 0 then (jX5_found_30 F x1 v0 (1 : Int32) sD) else (jX5_found_30 F x1 v0 (0 : Int32) sD))
set_option maxRecDepth 20000 in
theorem wX5_found_20 {X : zCx} {res : zOS} {F : Nat} {qD : Nat → Nat} (C : zC X RX5 cX5_found 6 0 0) (hR : zR X none none [(5, qD, res)]) (x1 : Int32) (sD : zOS) (v0 : Int32) : zJ X 6 res (jX5_found_20 F x1 v0 sD) 20 [(0, (.ref (qD 0))), (1, (.int x1))] [(.int v0)] [(5, qD, sD)] := by
  unfold jX5_found_20
  refine z_istore_n (pc := 20) [(0, (.ref (qD 0))), (1, (.int x1)), (2, (.int v0))] [1, 2, 0] (by decide) rfl rfl C dX5_found_20 ?_
  refine z_iload_n (pc := 21) 2 rfl rfl C dX5_found_21 ?_
  refine z_if_ne (pc := 22) 29 C dX5_found_22 (by decide) ?_ ?_
  · refine z_iconst (pc := 25) (1 : Int32) (by decide) C dX5_found_25 ?_
    refine z_goto (pc := 26) 30 C dX5_found_26 (by decide) ?_
    exact wX5_found_30 C hR   _ _ _ _
  · refine z_iconst (pc := 29) (0 : Int32) (by decide) C dX5_found_29 ?_
    exact wX5_found_30 C hR   _ _ _ _
def fX5_found (F : Nat) (sD : zOS) : Option (zOS) := (zchk (8 : Int32) 46 (zlet (zI sD 1 (8 : Int32).toNatClampNeg) (fun x1_1 : Int32 => (if (zF sD 14) = 0 then (jX5_found_20 F x1_1 (1 : Int32) sD) else (jX5_found_20 F x1_1 (0 : Int32) sD)))))
set_option maxRecDepth 20000 in
theorem wX5_found {X : zCx} {res : zOS} {F : Nat} {qD : Nat → Nat} {sD : zOS} (C : zC X RX5 cX5_found 6 0 0) (hR : zR X none none [(5, qD, res)])  : zJ X 6 res (fX5_found F sD) 0 [(0, (.ref (qD 0)))] [] [(5, qD, sD)] := by
  unfold fX5_found
  refine z_aload_n (pc := 0) 0 rfl rfl C dX5_found_0 ?_
  refine z_getR (pc := 1) 0 0 1 C dX5_found_1 rfl (by decide) (by decide) rfl zw_715 ?_
  refine z_bipush (pc := 4) (8 : Int32) (by decide) C dX5_found_4 ?_
  refine z_iald (pc := 6) 0 C dX5_found_6 rfl (by unfold zAr; decide) ?_
  refine z_leti (fun x1_1 => ?_)
  refine z_istore_n (pc := 7) [(0, (.ref (qD 0))), (1, (.int x1_1))] [1, 0] (by decide) rfl rfl C dX5_found_7 ?_
  refine z_aload_n (pc := 8) 0 rfl rfl C dX5_found_8 ?_
  refine z_getI (pc := 9) 0 14 C dX5_found_9 rfl (by decide) (by decide) rfl zw_729 ?_
  refine z_if_ne (pc := 12) 19 C dX5_found_12 (by decide) ?_ ?_
  · refine z_iconst (pc := 15) (1 : Int32) (by decide) C dX5_found_15 ?_
    refine z_goto (pc := 16) 20 C dX5_found_16 (by decide) ?_
    exact wX5_found_20 C hR   _ _ _
  · refine z_iconst (pc := 19) (0 : Int32) (by decide) C dX5_found_19 ?_
    exact wX5_found_20 C hR   _ _ _
theorem mX5_found {F : Nat} {qD : Nat → Nat} {sD : zOS} {res : zOS}  (hf : fX5_found F sD = some res) : zM yX5_found cX5_found 6 none 0 0 [(.ref (qD 0))] [(5, qD, sD)] none [(5, qD, res)] := zM_of (by decide +kernel) (Nat.le_of_ble_eq_true rfl) (fun X C hR => wX5_found (F := F) C hR  hf)
theorem dX5_findMatches_0 : decode cX5_findMatches 0 = .ok (.aload_n 0, 1) := by decide +kernel
theorem dX5_findMatches_1 : decode cX5_findMatches 1 = .ok (.iconst 0, 1) := by decide +kernel
theorem dX5_findMatches_2 : decode cX5_findMatches 2 = .ok (.putfield 218, 3) := by decide +kernel
theorem dX5_findMatches_5 : decode cX5_findMatches 5 = .ok (.aload_n 0, 1) := by decide +kernel
theorem dX5_findMatches_6 : decode cX5_findMatches 6 = .ok (.getfield 7, 3) := by decide +kernel
theorem dX5_findMatches_9 : decode cX5_findMatches 9 = .ok (.bipush 8, 2) := by decide +kernel
theorem dX5_findMatches_11 : decode cX5_findMatches 11 = .ok (.iaload, 1) := by decide +kernel
theorem dX5_findMatches_12 : decode cX5_findMatches 12 = .ok (.istore_n 1, 1) := by decide +kernel
theorem dX5_findMatches_13 : decode cX5_findMatches 13 = .ok (.aload_n 0, 1) := by decide +kernel
theorem dX5_findMatches_14 : decode cX5_findMatches 14 = .ok (.getfield 131, 3) := by decide +kernel
theorem dX5_findMatches_17 : decode cX5_findMatches 17 = .ok (.iload_n 1, 1) := by decide +kernel
theorem dX5_findMatches_18 : decode cX5_findMatches 18 = .ok (.if_icmp .ne 18, 3) := by decide +kernel
theorem dX5_findMatches_21 : decode cX5_findMatches 21 = .ok (.aload_n 0, 1) := by decide +kernel
theorem dX5_findMatches_22 : decode cX5_findMatches 22 = .ok (.invokevirtual 200, 3) := by decide +kernel
theorem dX5_findMatches_25 : decode cX5_findMatches 25 = .ok (.iload_n 1, 1) := by decide +kernel
theorem dX5_findMatches_26 : decode cX5_findMatches 26 = .ok (.if_icmp .ne 10, 3) := by decide +kernel
theorem dX5_findMatches_29 : decode cX5_findMatches 29 = .ok (.aload_n 0, 1) := by decide +kernel
theorem dX5_findMatches_30 : decode cX5_findMatches 30 = .ok (.invokevirtual 221, 3) := by decide +kernel
theorem dX5_findMatches_33 : decode cX5_findMatches 33 = .ok (.ifCond .ne 4, 3) := by decide +kernel
theorem dX5_findMatches_36 : decode cX5_findMatches 36 = .ok (.return_, 1) := by decide +kernel
theorem dX5_findMatches_37 : decode cX5_findMatches 37 = .ok (.iconst 0, 1) := by decide +kernel
theorem dX5_findMatches_38 : decode cX5_findMatches 38 = .ok (.istore_n 2, 1) := by decide +kernel
theorem dX5_findMatches_39 : decode cX5_findMatches 39 = .ok (.aload_n 0, 1) := by decide +kernel
theorem dX5_findMatches_40 : decode cX5_findMatches 40 = .ok (.getfield 37, 3) := by decide +kernel
theorem dX5_findMatches_43 : decode cX5_findMatches 43 = .ok (.iconst 0, 1) := by decide +kernel
theorem dX5_findMatches_44 : decode cX5_findMatches 44 = .ok (.iconst (-1), 1) := by decide +kernel
theorem dX5_findMatches_45 : decode cX5_findMatches 45 = .ok (.iastore, 1) := by decide +kernel
theorem dX5_findMatches_46 : decode cX5_findMatches 46 = .ok (.iload_n 2, 1) := by decide +kernel
theorem dX5_findMatches_47 : decode cX5_findMatches 47 = .ok (.ifCond .lt 104, 3) := by decide +kernel
theorem dX5_findMatches_50 : decode cX5_findMatches 50 = .ok (.iload_n 2, 1) := by decide +kernel
theorem dX5_findMatches_51 : decode cX5_findMatches 51 = .ok (.iload_n 1, 1) := by decide +kernel
theorem dX5_findMatches_52 : decode cX5_findMatches 52 = .ok (.if_icmp .ne 13, 3) := by decide +kernel
theorem dX5_findMatches_55 : decode cX5_findMatches 55 = .ok (.aload_n 0, 1) := by decide +kernel
theorem dX5_findMatches_56 : decode cX5_findMatches 56 = .ok (.invokevirtual 225, 3) := by decide +kernel
theorem dX5_findMatches_59 : decode cX5_findMatches 59 = .ok (.iinc 2 (-1), 3) := by decide +kernel
theorem dX5_findMatches_62 : decode cX5_findMatches 62 = .ok (.goto (-16), 3) := by decide +kernel
theorem dX5_findMatches_65 : decode cX5_findMatches 65 = .ok (.aload_n 0, 1) := by decide +kernel
theorem dX5_findMatches_66 : decode cX5_findMatches 66 = .ok (.getfield 37, 3) := by decide +kernel
theorem dX5_findMatches_69 : decode cX5_findMatches 69 = .ok (.iload_n 2, 1) := by decide +kernel
theorem dX5_findMatches_70 : decode cX5_findMatches 70 = .ok (.dup2, 1) := by decide +kernel
theorem dX5_findMatches_71 : decode cX5_findMatches 71 = .ok (.iaload, 1) := by decide +kernel
theorem dX5_findMatches_72 : decode cX5_findMatches 72 = .ok (.iconst 1, 1) := by decide +kernel
theorem dX5_findMatches_73 : decode cX5_findMatches 73 = .ok (.iadd, 1) := by decide +kernel
theorem dX5_findMatches_74 : decode cX5_findMatches 74 = .ok (.iastore, 1) := by decide +kernel
theorem dX5_findMatches_75 : decode cX5_findMatches 75 = .ok (.aload_n 0, 1) := by decide +kernel
theorem dX5_findMatches_76 : decode cX5_findMatches 76 = .ok (.getfield 37, 3) := by decide +kernel
theorem dX5_findMatches_79 : decode cX5_findMatches 79 = .ok (.iload_n 2, 1) := by decide +kernel
theorem dX5_findMatches_80 : decode cX5_findMatches 80 = .ok (.iaload, 1) := by decide +kernel
theorem dX5_findMatches_81 : decode cX5_findMatches 81 = .ok (.iconst 2, 1) := by decide +kernel
theorem dX5_findMatches_82 : decode cX5_findMatches 82 = .ok (.aload_n 0, 1) := by decide +kernel
theorem dX5_findMatches_83 : decode cX5_findMatches 83 = .ok (.getfield 131, 3) := by decide +kernel
theorem dX5_findMatches_86 : decode cX5_findMatches 86 = .ok (.imul, 1) := by decide +kernel
theorem dX5_findMatches_87 : decode cX5_findMatches 87 = .ok (.if_icmp .ge 30, 3) := by decide +kernel
theorem dX5_findMatches_90 : decode cX5_findMatches 90 = .ok (.aload_n 0, 1) := by decide +kernel
theorem dX5_findMatches_91 : decode cX5_findMatches 91 = .ok (.iload_n 2, 1) := by decide +kernel
theorem dX5_findMatches_92 : decode cX5_findMatches 92 = .ok (.aload_n 0, 1) := by decide +kernel
theorem dX5_findMatches_93 : decode cX5_findMatches 93 = .ok (.getfield 37, 3) := by decide +kernel
theorem dX5_findMatches_96 : decode cX5_findMatches 96 = .ok (.iload_n 2, 1) := by decide +kernel
theorem dX5_findMatches_97 : decode cX5_findMatches 97 = .ok (.iaload, 1) := by decide +kernel
theorem dX5_findMatches_98 : decode cX5_findMatches 98 = .ok (.invokevirtual 228, 3) := by decide +kernel
theorem dX5_findMatches_101 : decode cX5_findMatches 101 = .ok (.ifCond .ne 16, 3) := by decide +kernel
theorem dX5_findMatches_104 : decode cX5_findMatches 104 = .ok (.aload_n 0, 1) := by decide +kernel
theorem dX5_findMatches_105 : decode cX5_findMatches 105 = .ok (.getfield 37, 3) := by decide +kernel
theorem dX5_findMatches_108 : decode cX5_findMatches 108 = .ok (.iload_n 2, 1) := by decide +kernel
theorem dX5_findMatches_109 : decode cX5_findMatches 109 = .ok (.dup2, 1) := by decide +kernel
theorem dX5_findMatches_110 : decode cX5_findMatches 110 = .ok (.iaload, 1) := by decide +kernel
theorem dX5_findMatches_111 : decode cX5_findMatches 111 = .ok (.iconst 1, 1) := by decide +kernel
theorem dX5_findMatches_112 : decode cX5_findMatches 112 = .ok (.iadd, 1) := by decide +kernel
theorem dX5_findMatches_113 : decode cX5_findMatches 113 = .ok (.iastore, 1) := by decide +kernel
theorem dX5_findMatches_114 : decode cX5_findMatches 114 = .ok (.goto (-39), 3) := by decide +kernel
theorem dX5_findMatches_117 : decode cX5_findMatches 117 = .ok (.aload_n 0, 1) := by decide +kernel
theorem dX5_findMatches_118 : decode cX5_findMatches 118 = .ok (.getfield 37, 3) := by decide +kernel
theorem dX5_findMatches_121 : decode cX5_findMatches 121 = .ok (.iload_n 2, 1) := by decide +kernel
theorem dX5_findMatches_122 : decode cX5_findMatches 122 = .ok (.iaload, 1) := by decide +kernel
theorem dX5_findMatches_123 : decode cX5_findMatches 123 = .ok (.iconst 2, 1) := by decide +kernel
theorem dX5_findMatches_124 : decode cX5_findMatches 124 = .ok (.aload_n 0, 1) := by decide +kernel
theorem dX5_findMatches_125 : decode cX5_findMatches 125 = .ok (.getfield 131, 3) := by decide +kernel
theorem dX5_findMatches_128 : decode cX5_findMatches 128 = .ok (.imul, 1) := by decide +kernel
theorem dX5_findMatches_129 : decode cX5_findMatches 129 = .ok (.if_icmp .ge 16, 3) := by decide +kernel
theorem dX5_findMatches_132 : decode cX5_findMatches 132 = .ok (.iinc 2 1, 3) := by decide +kernel
theorem dX5_findMatches_135 : decode cX5_findMatches 135 = .ok (.aload_n 0, 1) := by decide +kernel
theorem dX5_findMatches_136 : decode cX5_findMatches 136 = .ok (.getfield 37, 3) := by decide +kernel
theorem dX5_findMatches_139 : decode cX5_findMatches 139 = .ok (.iload_n 2, 1) := by decide +kernel
theorem dX5_findMatches_140 : decode cX5_findMatches 140 = .ok (.iconst (-1), 1) := by decide +kernel
theorem dX5_findMatches_141 : decode cX5_findMatches 141 = .ok (.iastore, 1) := by decide +kernel
theorem dX5_findMatches_142 : decode cX5_findMatches 142 = .ok (.goto (-96), 3) := by decide +kernel
theorem dX5_findMatches_145 : decode cX5_findMatches 145 = .ok (.iinc 2 (-1), 3) := by decide +kernel
theorem dX5_findMatches_148 : decode cX5_findMatches 148 = .ok (.goto (-102), 3) := by decide +kernel
theorem dX5_findMatches_151 : decode cX5_findMatches 151 = .ok (.return_, 1) := by decide +kernel
def jX5_findMatches_117 (F : Nat) (kc_46 : (Int32 × zOS) → Option (zOS)) (x2 : Int32) (sD : zOS) : Option (zOS) := (zchk x2 7 (if ((2 : Int32) * (zF sD 10)) ≤ (zI sD 10 x2.toNatClampNeg) then (kc_46 ((x2 + (-1)), sD)) else (zchk (x2 + 1) 7 (zlet (zsI sD 10 (upd (zI sD 10) (x2 + 1).toNatClampNeg (-1 : Int32))) (fun sD_11 : zOS => (kc_46 ((x2 + 1), sD_11)))))))
set_option maxRecDepth 20000 in
theorem wX5_findMatches_117 {X : zCx} {res : zOS} {F : Nat} {qD : Nat → Nat} {x1 : Int32} {kc_46 : (Int32 × zOS) → Option (zOS)} (C : zC X RX5 cX5_findMatches 3 3 70) (hR : zR X none none [(5, qD, res)]) (hk_46 : ∀ (y2 : Int32) (tD : zOS), zJ X 3 res (kc_46 (y2, tD)) 46 [(0, (.ref (qD 0))), (1, (.int x1)), (2, (.int y2))] [] [(5, qD, tD)]) (x2 : Int32) (sD : zOS) : zJ X 3 res (jX5_findMatches_117 F kc_46 x2 sD) 117 [(0, (.ref (qD 0))), (1, (.int x1)), (2, (.int x2))] [] [(5, qD, sD)] := by
  unfold jX5_findMatches_117
  refine z_aload_n (pc := 117) 0 rfl rfl C dX5_findMatches_117 ?_
  refine z_getR (pc := 118) 0 16 10 C dX5_findMatches_118 rfl (by decide) (by decide) rfl zw_731 ?_
  refine z_iload_n (pc := 121) 2 rfl rfl C dX5_findMatches_121 ?_
  refine z_iald (pc := 122) 0 C dX5_findMatches_122 rfl (by unfold zAr; decide) ?_
  refine z_iconst (pc := 123) (2 : Int32) (by decide) C dX5_findMatches_123 ?_
  refine z_aload_n (pc := 124) 0 rfl rfl C dX5_findMatches_124 ?_
  refine z_getI (pc := 125) 0 10 C dX5_findMatches_125 rfl (by decide) (by decide) rfl zw_725 ?_
  refine z_imul (pc := 128) C dX5_findMatches_128 ?_
  refine z_icmp_ge (pc := 129) 145 C dX5_findMatches_129 (by decide) ?_ ?_
  · refine z_iinc (pc := 145) (x2 + (-1)) 2 rfl (congrArg (_ + ·) (show Int32.ofInt (-1) = (-1 : Int32) by decide)) [(0, (.ref (qD 0))), (1, (.int x1)), (2, (.int (x2 + (-1))))] [1, 2, 0] (by decide) rfl C dX5_findMatches_145 ?_
    refine z_goto (pc := 148) 46 C dX5_findMatches_148 (by decide) ?_
    exact hk_46 _ _
  · refine z_iinc (pc := 132) (x2 + 1) 2 rfl rfl [(0, (.ref (qD 0))), (1, (.int x1)), (2, (.int (x2 + 1)))] [1, 2, 0] (by decide) rfl C dX5_findMatches_132 ?_
    refine z_aload_n (pc := 135) 0 rfl rfl C dX5_findMatches_135 ?_
    refine z_getR (pc := 136) 0 16 10 C dX5_findMatches_136 rfl (by decide) (by decide) rfl zw_731 ?_
    refine z_iload_n (pc := 139) 2 rfl rfl C dX5_findMatches_139 ?_
    refine z_iconst (pc := 140) (-1 : Int32) (by decide) C dX5_findMatches_140 ?_
    refine z_iast (pc := 141) 0 C dX5_findMatches_141 rfl (by unfold zAr; decide) [(5, qD, (zsI sD 10 (upd (zI sD 10) (x2 + 1).toNatClampNeg (-1 : Int32))))] rfl ?_
    refine z_letc (fun z9 => [(5, qD, z9)]) (fun sD_11 => ?_)
    refine z_goto (pc := 142) 46 C dX5_findMatches_142 (by decide) ?_
    exact hk_46 _ _
def bX5_findMatches_75 (F : Nat) (kc_46 : (Int32 × zOS) → Option (zOS)) (x2 : Int32) (kc_75 : zOS → Option (zOS)) (sD : zOS) : Option (zOS) := (zchk x2 7 (if ((2 : Int32) * (zF sD 10)) ≤ (zI sD 10 x2.toNatClampNeg) then (jX5_findMatches_117 F kc_46 x2 sD) else (zchk x2 7 (Option.bind (fX5_isChosen F x2 (zI sD 10 x2.toNatClampNeg) sD) (fun r_12 : Int32 × zOS => (if r_12.1 = 0 then (zchk x2 7 (zchk x2 7 (zlet (zsI r_12.2 10 (upd (zI r_12.2 10) x2.toNatClampNeg ((zI r_12.2 10 x2.toNatClampNeg) + (1 : Int32)))) (fun sD_14 : zOS => (kc_75 sD_14))))) else (jX5_findMatches_117 F kc_46 x2 r_12.2)))))))
set_option maxRecDepth 20000 in
theorem vX5_findMatches_75 {X : zCx} {res : zOS} {F : Nat} {qD : Nat → Nat} {x1 : Int32} {x2 : Int32} {kc_46 : (Int32 × zOS) → Option (zOS)} {kc_75 : zOS → Option (zOS)} (C : zC X RX5 cX5_findMatches 3 3 70) (hR : zR X none none [(5, qD, res)]) (hk_46 : ∀ (y2 : Int32) (tD : zOS), zJ X 3 res (kc_46 (y2, tD)) 46 [(0, (.ref (qD 0))), (1, (.int x1)), (2, (.int y2))] [] [(5, qD, tD)]) (hk_75 : ∀ (tD : zOS), zJ X 3 res (kc_75 tD) 75 [(0, (.ref (qD 0))), (1, (.int x1)), (2, (.int x2))] [] [(5, qD, tD)]) (sD : zOS) : zJ X 3 res (bX5_findMatches_75 F kc_46 x2 kc_75 sD) 75 [(0, (.ref (qD 0))), (1, (.int x1)), (2, (.int x2))] [] [(5, qD, sD)] := by
  unfold bX5_findMatches_75
  refine z_aload_n (pc := 75) 0 rfl rfl C dX5_findMatches_75 ?_
  refine z_getR (pc := 76) 0 16 10 C dX5_findMatches_76 rfl (by decide) (by decide) rfl zw_731 ?_
  refine z_iload_n (pc := 79) 2 rfl rfl C dX5_findMatches_79 ?_
  refine z_iald (pc := 80) 0 C dX5_findMatches_80 rfl (by unfold zAr; decide) ?_
  refine z_iconst (pc := 81) (2 : Int32) (by decide) C dX5_findMatches_81 ?_
  refine z_aload_n (pc := 82) 0 rfl rfl C dX5_findMatches_82 ?_
  refine z_getI (pc := 83) 0 10 C dX5_findMatches_83 rfl (by decide) (by decide) rfl zw_725 ?_
  refine z_imul (pc := 86) C dX5_findMatches_86 ?_
  refine z_icmp_ge (pc := 87) 117 C dX5_findMatches_87 (by decide) ?_ ?_
  · exact wX5_findMatches_117 C hR  hk_46 _ _
  · refine z_aload_n (pc := 90) 0 rfl rfl C dX5_findMatches_90 ?_
    refine z_iload_n (pc := 91) 2 rfl rfl C dX5_findMatches_91 ?_
    refine z_aload_n (pc := 92) 0 rfl rfl C dX5_findMatches_92 ?_
    refine z_getR (pc := 93) 0 16 10 C dX5_findMatches_93 rfl (by decide) (by decide) rfl zw_731 ?_
    refine z_iload_n (pc := 96) 2 rfl rfl C dX5_findMatches_96 ?_
    refine z_iald (pc := 97) 0 C dX5_findMatches_97 rfl (by unfold zAr; decide) ?_
    refine z_callV (pc := 98) (rf' := 2) (rl' := 43) (fX5_isChosen F x2 (zI sD 10 x2.toNatClampNeg) sD) [(.int x2), (.int (zI sD 10 x2.toNatClampNeg))] [] [(5, qD, sD)] (fun r_12 => (some (.int r_12.1))) (fun r_12 => [(5, qD, r_12.2)]) [] (fun r_12 => [(5, qD, r_12.2)]) C dX5_findMatches_98 zy_X5_isChosen zw_970 (fun _ hr9 => mX5_isChosen  hr9) (by decide) rfl rfl (by decide) rfl (Nat.le_of_ble_eq_true rfl) (List.Perm.refl _) (fun _ => List.Perm.refl _) rfl (fun r_12 hr_13 => ?_)
    show zJ X 3 res _ 101 [(0, (.ref (qD 0))), (1, (.int x1)), (2, (.int x2))] [(.int r_12.1)] [(5, qD, r_12.2)]
    refine z_if_ne (pc := 101) 117 C dX5_findMatches_101 (by decide) ?_ ?_
    · refine z_aload_n (pc := 104) 0 rfl rfl C dX5_findMatches_104 ?_
      refine z_getR (pc := 105) 0 16 10 C dX5_findMatches_105 rfl (by decide) (by decide) rfl zw_731 ?_
      refine z_iload_n (pc := 108) 2 rfl rfl C dX5_findMatches_108 ?_
      refine z_dup2 (pc := 109) rfl rfl C dX5_findMatches_109 ?_
      refine z_iald (pc := 110) 0 C dX5_findMatches_110 rfl (by unfold zAr; decide) ?_
      refine z_iconst (pc := 111) (1 : Int32) (by decide) C dX5_findMatches_111 ?_
      refine z_iadd (pc := 112) C dX5_findMatches_112 ?_
      refine z_iast (pc := 113) 0 C dX5_findMatches_113 rfl (by unfold zAr; decide) [(5, qD, (zsI r_12.2 10 (upd (zI r_12.2 10) x2.toNatClampNeg ((zI r_12.2 10 x2.toNatClampNeg) + (1 : Int32)))))] rfl ?_
      refine z_letc (fun z9 => [(5, qD, z9)]) (fun sD_14 => ?_)
      refine z_goto (pc := 114) 75 C dX5_findMatches_114 (by decide) ?_
      exact hk_75 _
    · exact wX5_findMatches_117 C hR  hk_46 _ _
def bX5_findMatches_46 (F : Nat) (x1 : Int32) (kc_46 : (Int32 × zOS) → Option (zOS)) (x2 : Int32) (sD : zOS) : Option (zOS) := (if x2 < 0 then (some (sD)) else (if x2 = x1 then (Option.bind (fX5_found F sD) (fun r_8 : zOS => (kc_46 ((x2 + (-1)), r_8)))) else (zchk x2 7 (zchk x2 7 (zlet (zsI sD 10 (upd (zI sD 10) x2.toNatClampNeg ((zI sD 10 x2.toNatClampNeg) + (1 : Int32)))) (fun sD_10 : zOS => (zit (P := zOS) (R := zOS) (fun kc9 p9 => bX5_findMatches_75 F kc_46 x2 kc9 p9) F sD_10)))))))
set_option maxRecDepth 20000 in
theorem vX5_findMatches_46 {X : zCx} {res : zOS} {F : Nat} {qD : Nat → Nat} {x1 : Int32} {kc_46 : (Int32 × zOS) → Option (zOS)} (C : zC X RX5 cX5_findMatches 3 3 70) (hR : zR X none none [(5, qD, res)]) (hk_46 : ∀ (y2 : Int32) (tD : zOS), zJ X 3 res (kc_46 (y2, tD)) 46 [(0, (.ref (qD 0))), (1, (.int x1)), (2, (.int y2))] [] [(5, qD, tD)]) (x2 : Int32) (sD : zOS) : zJ X 3 res (bX5_findMatches_46 F x1 kc_46 x2 sD) 46 [(0, (.ref (qD 0))), (1, (.int x1)), (2, (.int x2))] [] [(5, qD, sD)] := by
  unfold bX5_findMatches_46
  refine z_iload_n (pc := 46) 2 rfl rfl C dX5_findMatches_46 ?_
  refine z_if_lt (pc := 47) 151 C dX5_findMatches_47 (by decide) ?_ ?_
  · exact z_return (pc := 151) C hR dX5_findMatches_151 (fun h => by subst h; exact ⟨rfl, rfl⟩)
  · refine z_iload_n (pc := 50) 2 rfl rfl C dX5_findMatches_50 ?_
    refine z_iload_n (pc := 51) 1 rfl rfl C dX5_findMatches_51 ?_
    refine z_icmp_ne (pc := 52) 65 C dX5_findMatches_52 (by decide) ?_ ?_
    · refine z_aload_n (pc := 55) 0 rfl rfl C dX5_findMatches_55 ?_
      refine z_callV (pc := 56) (rf' := 0) (rl' := 0) (fX5_found F sD) [] [] [(5, qD, sD)] (fun r_8 => none) (fun r_8 => [(5, qD, r_8)]) [] (fun r_8 => [(5, qD, r_8)]) C dX5_findMatches_56 zy_X5_found zw_966 (fun _ hr9 => mX5_found  hr9) (by decide) rfl rfl (by decide) rfl (Nat.le_of_ble_eq_true rfl) (List.Perm.refl _) (fun _ => List.Perm.refl _) rfl (fun r_8 hr_9 => ?_)
      show zJ X 3 res _ 59 [(0, (.ref (qD 0))), (1, (.int x1)), (2, (.int x2))] [] [(5, qD, r_8)]
      refine z_iinc (pc := 59) (x2 + (-1)) 2 rfl (congrArg (_ + ·) (show Int32.ofInt (-1) = (-1 : Int32) by decide)) [(0, (.ref (qD 0))), (1, (.int x1)), (2, (.int (x2 + (-1))))] [1, 2, 0] (by decide) rfl C dX5_findMatches_59 ?_
      refine z_goto (pc := 62) 46 C dX5_findMatches_62 (by decide) ?_
      exact hk_46 _ _
    · refine z_aload_n (pc := 65) 0 rfl rfl C dX5_findMatches_65 ?_
      refine z_getR (pc := 66) 0 16 10 C dX5_findMatches_66 rfl (by decide) (by decide) rfl zw_731 ?_
      refine z_iload_n (pc := 69) 2 rfl rfl C dX5_findMatches_69 ?_
      refine z_dup2 (pc := 70) rfl rfl C dX5_findMatches_70 ?_
      refine z_iald (pc := 71) 0 C dX5_findMatches_71 rfl (by unfold zAr; decide) ?_
      refine z_iconst (pc := 72) (1 : Int32) (by decide) C dX5_findMatches_72 ?_
      refine z_iadd (pc := 73) C dX5_findMatches_73 ?_
      refine z_iast (pc := 74) 0 C dX5_findMatches_74 rfl (by unfold zAr; decide) [(5, qD, (zsI sD 10 (upd (zI sD 10) x2.toNatClampNeg ((zI sD 10 x2.toNatClampNeg) + (1 : Int32)))))] rfl ?_
      refine z_letc (fun z9 => [(5, qD, z9)]) (fun sD_10 => ?_)
      show zJ X 3 res _ 75 [(0, (.ref (qD 0))), (1, (.int x1)), (2, (.int x2))] [] [(5, qD, sD_10)]
      exact zit_J (P := zOS) (B := (fun kc9 p9 => bX5_findMatches_75 F kc_46 x2 kc9 p9)) (fun p9 => [(0, (.ref (qD 0))), (1, (.int x1)), (2, (.int x2))]) (fun p9 => [(5, qD, p9)]) (fun kc9 hk9 p9 => vX5_findMatches_75 C hR  hk_46 (fun a0 => hk9 a0) p9) F _
def fX5_findMatches (F : Nat) (sD : zOS) : Option (zOS) := (zlet (zsF sD 14 (0 : Int32)) (fun sD_1 : zOS => (zchk (8 : Int32) 46 (zlet (zI sD_1 1 (8 : Int32).toNatClampNeg) (fun x1_2 : Int32 => (if (zF sD_1 10) = x1_2 then (Option.bind (fX5_wells F sD_1) (fun r_3 : Int32 => (if r_3 = x1_2 then (Option.bind (fX5_isBegun F sD_1) (fun r_5 : Int32 × zOS => (if r_5.1 = 0 then (some (r_5.2)) else (zchk (0 : Int32) 7 (zlet (zsI r_5.2 10 (upd (zI r_5.2 10) (0 : Int32).toNatClampNeg (-1 : Int32))) (fun sD_7 : zOS => (zit (P := Int32 × zOS) (R := zOS) (fun kc9 p9 => bX5_findMatches_46 F x1_2 kc9 p9.1 p9.2) F ((0 : Int32), sD_7)))))))) else (some (sD_1))))) else (some (sD_1))))))))
set_option maxRecDepth 20000 in
theorem wX5_findMatches {X : zCx} {res : zOS} {F : Nat} {qD : Nat → Nat} {sD : zOS} (C : zC X RX5 cX5_findMatches 3 3 70) (hR : zR X none none [(5, qD, res)])  : zJ X 3 res (fX5_findMatches F sD) 0 [(0, (.ref (qD 0)))] [] [(5, qD, sD)] := by
  unfold fX5_findMatches
  refine z_aload_n (pc := 0) 0 rfl rfl C dX5_findMatches_0 ?_
  refine z_iconst (pc := 1) (0 : Int32) (by decide) C dX5_findMatches_1 ?_
  refine z_putI (pc := 2) 0 14 C dX5_findMatches_2 rfl (by decide) (by decide) rfl zw_729 rfl rfl rfl [(5, qD, (zsF sD 14 (0 : Int32)))] rfl ?_
  refine z_letc (fun z9 => [(5, qD, z9)]) (fun sD_1 => ?_)
  refine z_aload_n (pc := 5) 0 rfl rfl C dX5_findMatches_5 ?_
  refine z_getR (pc := 6) 0 0 1 C dX5_findMatches_6 rfl (by decide) (by decide) rfl zw_715 ?_
  refine z_bipush (pc := 9) (8 : Int32) (by decide) C dX5_findMatches_9 ?_
  refine z_iald (pc := 11) 0 C dX5_findMatches_11 rfl (by unfold zAr; decide) ?_
  refine z_leti (fun x1_2 => ?_)
  refine z_istore_n (pc := 12) [(0, (.ref (qD 0))), (1, (.int x1_2))] [1, 0] (by decide) rfl rfl C dX5_findMatches_12 ?_
  refine z_aload_n (pc := 13) 0 rfl rfl C dX5_findMatches_13 ?_
  refine z_getI (pc := 14) 0 10 C dX5_findMatches_14 rfl (by decide) (by decide) rfl zw_725 ?_
  refine z_iload_n (pc := 17) 1 rfl rfl C dX5_findMatches_17 ?_
  refine z_icmp_ne (pc := 18) 36 C dX5_findMatches_18 (by decide) ?_ ?_
  · refine z_aload_n (pc := 21) 0 rfl rfl C dX5_findMatches_21 ?_
    refine z_callV (pc := 22) (rf' := 2) (rl' := 43) (fX5_wells F sD_1) [] [] [(5, qD, sD_1)] (fun r_3 => (some (.int r_3))) (fun r_3 => [(5, qD, sD_1)]) [] (fun r_3 => [(5, qD, sD_1)]) C dX5_findMatches_22 zy_X5_wells zw_938 (fun _ hr9 => mX5_wells  hr9) (by decide) rfl rfl (by decide) rfl (Nat.le_of_ble_eq_true rfl) (List.Perm.refl _) (fun _ => List.Perm.refl _) rfl (fun r_3 hr_4 => ?_)
    show zJ X 3 res _ 25 [(0, (.ref (qD 0))), (1, (.int x1_2))] [(.int r_3)] [(5, qD, sD_1)]
    refine z_iload_n (pc := 25) 1 rfl rfl C dX5_findMatches_25 ?_
    refine z_icmp_ne (pc := 26) 36 C dX5_findMatches_26 (by decide) ?_ ?_
    · refine z_aload_n (pc := 29) 0 rfl rfl C dX5_findMatches_29 ?_
      refine z_callV (pc := 30) (rf' := 2) (rl' := 43) (fX5_isBegun F sD_1) [] [] [(5, qD, sD_1)] (fun r_5 => (some (.int r_5.1))) (fun r_5 => [(5, qD, r_5.2)]) [] (fun r_5 => [(5, qD, r_5.2)]) C dX5_findMatches_30 zy_X5_isBegun zw_950 (fun _ hr9 => mX5_isBegun  hr9) (by decide) rfl rfl (by decide) rfl (Nat.le_of_ble_eq_true rfl) (List.Perm.refl _) (fun _ => List.Perm.refl _) rfl (fun r_5 hr_6 => ?_)
      show zJ X 3 res _ 33 [(0, (.ref (qD 0))), (1, (.int x1_2))] [(.int r_5.1)] [(5, qD, r_5.2)]
      refine z_if_ne (pc := 33) 37 C dX5_findMatches_33 (by decide) ?_ ?_
      · exact z_return (pc := 36) C hR dX5_findMatches_36 (fun h => by subst h; exact ⟨rfl, rfl⟩)
      · refine z_iconst (pc := 37) (0 : Int32) (by decide) C dX5_findMatches_37 ?_
        refine z_istore_n (pc := 38) [(0, (.ref (qD 0))), (1, (.int x1_2)), (2, (.int (0 : Int32)))] [1, 2, 0] (by decide) rfl rfl C dX5_findMatches_38 ?_
        refine z_aload_n (pc := 39) 0 rfl rfl C dX5_findMatches_39 ?_
        refine z_getR (pc := 40) 0 16 10 C dX5_findMatches_40 rfl (by decide) (by decide) rfl zw_731 ?_
        refine z_iconst (pc := 43) (0 : Int32) (by decide) C dX5_findMatches_43 ?_
        refine z_iconst (pc := 44) (-1 : Int32) (by decide) C dX5_findMatches_44 ?_
        refine z_iast (pc := 45) 0 C dX5_findMatches_45 rfl (by unfold zAr; decide) [(5, qD, (zsI r_5.2 10 (upd (zI r_5.2 10) (0 : Int32).toNatClampNeg (-1 : Int32))))] rfl ?_
        refine z_letc (fun z9 => [(5, qD, z9)]) (fun sD_7 => ?_)
        show zJ X 3 res _ 46 [(0, (.ref (qD 0))), (1, (.int x1_2)), (2, (.int (0 : Int32)))] [] [(5, qD, sD_7)]
        exact zit_J (P := Int32 × zOS) (B := (fun kc9 p9 => bX5_findMatches_46 F x1_2 kc9 p9.1 p9.2)) (fun p9 => [(0, (.ref (qD 0))), (1, (.int x1_2)), (2, (.int p9.1))]) (fun p9 => [(5, qD, p9.2)]) (fun kc9 hk9 p9 => vX5_findMatches_46 C hR   (fun a0 a1 => hk9 (a0, a1)) p9.1 p9.2) F _
    · exact z_return (pc := 36) C hR dX5_findMatches_36 (fun h => by subst h; exact ⟨rfl, rfl⟩)
  · exact z_return (pc := 36) C hR dX5_findMatches_36 (fun h => by subst h; exact ⟨rfl, rfl⟩)
theorem mX5_findMatches {F : Nat} {qD : Nat → Nat} {sD : zOS} {res : zOS}  (hf : fX5_findMatches F sD = some res) : zM yX5_findMatches cX5_findMatches 3 none 3 70 [(.ref (qD 0))] [(5, qD, sD)] none [(5, qD, res)] := zM_of (by decide +kernel) (Nat.le_of_ble_eq_true rfl) (fun X C hR => wX5_findMatches (F := F) C hR  hf)
theorem dX5_lay_0 : decode cX5_lay 0 = .ok (.aload_n 0, 1) := by decide +kernel
theorem dX5_lay_1 : decode cX5_lay 1 = .ok (.getfield 56, 3) := by decide +kernel
theorem dX5_lay_4 : decode cX5_lay 4 = .ok (.ifCond .eq 4, 3) := by decide +kernel
theorem dX5_lay_7 : decode cX5_lay 7 = .ok (.return_, 1) := by decide +kernel
theorem dX5_lay_8 : decode cX5_lay 8 = .ok (.aload_n 0, 1) := by decide +kernel
theorem dX5_lay_9 : decode cX5_lay 9 = .ok (.iconst 1, 1) := by decide +kernel
theorem dX5_lay_10 : decode cX5_lay 10 = .ok (.putfield 56, 3) := by decide +kernel
theorem dX5_lay_13 : decode cX5_lay 13 = .ok (.aload_n 0, 1) := by decide +kernel
theorem dX5_lay_14 : decode cX5_lay 14 = .ok (.aload_n 0, 1) := by decide +kernel
theorem dX5_lay_15 : decode cX5_lay 15 = .ok (.iconst 0, 1) := by decide +kernel
theorem dX5_lay_16 : decode cX5_lay 16 = .ok (.invokevirtual 153, 3) := by decide +kernel
theorem dX5_lay_19 : decode cX5_lay 19 = .ok (.putfield 157, 3) := by decide +kernel
theorem dX5_lay_22 : decode cX5_lay 22 = .ok (.aload_n 0, 1) := by decide +kernel
theorem dX5_lay_23 : decode cX5_lay 23 = .ok (.aload_n 0, 1) := by decide +kernel
theorem dX5_lay_24 : decode cX5_lay 24 = .ok (.iconst 1, 1) := by decide +kernel
theorem dX5_lay_25 : decode cX5_lay 25 = .ok (.invokevirtual 153, 3) := by decide +kernel
theorem dX5_lay_28 : decode cX5_lay 28 = .ok (.putfield 144, 3) := by decide +kernel
theorem dX5_lay_31 : decode cX5_lay 31 = .ok (.aload_n 0, 1) := by decide +kernel
theorem dX5_lay_32 : decode cX5_lay 32 = .ok (.invokevirtual 160, 3) := by decide +kernel
theorem dX5_lay_35 : decode cX5_lay 35 = .ok (.aload_n 0, 1) := by decide +kernel
theorem dX5_lay_36 : decode cX5_lay 36 = .ok (.invokevirtual 163, 3) := by decide +kernel
theorem dX5_lay_39 : decode cX5_lay 39 = .ok (.aload_n 0, 1) := by decide +kernel
theorem dX5_lay_40 : decode cX5_lay 40 = .ok (.invokevirtual 166, 3) := by decide +kernel
theorem dX5_lay_43 : decode cX5_lay 43 = .ok (.return_, 1) := by decide +kernel
def fX5_lay (F : Nat) (sD : zOS) : Option (zOS) := (if (zF sD 5) = 0 then (zlet (zsF sD 5 (1 : Int32)) (fun sD_1 : zOS => (Option.bind (fX5_hang F (0 : Int32) sD_1) (fun r_2 : Int32 × zOS => (zlet (zsF r_2.2 8 r_2.1) (fun sD_4 : zOS => (Option.bind (fX5_hang F (1 : Int32) sD_4) (fun r_5 : Int32 × zOS => (zlet (zsF r_5.2 7 r_5.1) (fun sD_7 : zOS => (Option.bind (fX5_findGates F sD_7) (fun r_8 : zOS => (Option.bind (fX5_findSides F r_8) (fun r_10 : zOS => (Option.bind (fX5_findMatches F r_10) (fun r_12 : zOS => (some (r_12)))))))))))))))))) else (some (sD)))
set_option maxRecDepth 20000 in
theorem wX5_lay {X : zCx} {res : zOS} {F : Nat} {qD : Nat → Nat} {sD : zOS} (C : zC X RX5 cX5_lay 1 6 140) (hR : zR X none none [(5, qD, res)])  : zJ X 1 res (fX5_lay F sD) 0 [(0, (.ref (qD 0)))] [] [(5, qD, sD)] := by
  unfold fX5_lay
  refine z_aload_n (pc := 0) 0 rfl rfl C dX5_lay_0 ?_
  refine z_getI (pc := 1) 0 5 C dX5_lay_1 rfl (by decide) (by decide) rfl zw_720 ?_
  refine z_if_eq (pc := 4) 8 C dX5_lay_4 (by decide) ?_ ?_
  · refine z_aload_n (pc := 8) 0 rfl rfl C dX5_lay_8 ?_
    refine z_iconst (pc := 9) (1 : Int32) (by decide) C dX5_lay_9 ?_
    refine z_putI (pc := 10) 0 5 C dX5_lay_10 rfl (by decide) (by decide) rfl zw_720 rfl (by decide) (by decide) [(5, qD, (zsF sD 5 (1 : Int32)))] rfl ?_
    refine z_letc (fun z9 => [(5, qD, z9)]) (fun sD_1 => ?_)
    refine z_aload_n (pc := 13) 0 rfl rfl C dX5_lay_13 ?_
    refine z_aload_n (pc := 14) 0 rfl rfl C dX5_lay_14 ?_
    refine z_iconst (pc := 15) (0 : Int32) (by decide) C dX5_lay_15 ?_
    refine z_callV (pc := 16) (rf' := 4) (rl' := 92) (fX5_hang F (0 : Int32) sD_1) [(.int (0 : Int32))] [(.ref (qD 0))] [(5, qD, sD_1)] (fun r_2 => (some (.int r_2.1))) (fun r_2 => [(5, qD, r_2.2)]) [] (fun r_2 => [(5, qD, r_2.2)]) C dX5_lay_16 zy_X5_hang zw_891 (fun _ hr9 => mX5_hang  hr9) (by decide) rfl rfl (by decide) rfl (Nat.le_of_ble_eq_true rfl) (List.Perm.refl _) (fun _ => List.Perm.refl _) rfl (fun r_2 hr_3 => ?_)
    show zJ X 1 res _ 19 [(0, (.ref (qD 0)))] [(.int r_2.1), (.ref (qD 0))] [(5, qD, r_2.2)]
    refine z_putI (pc := 19) 0 8 C dX5_lay_19 rfl (by decide) (by decide) rfl zw_723 rfl rfl rfl [(5, qD, (zsF r_2.2 8 r_2.1))] rfl ?_
    refine z_letc (fun z9 => [(5, qD, z9)]) (fun sD_4 => ?_)
    refine z_aload_n (pc := 22) 0 rfl rfl C dX5_lay_22 ?_
    refine z_aload_n (pc := 23) 0 rfl rfl C dX5_lay_23 ?_
    refine z_iconst (pc := 24) (1 : Int32) (by decide) C dX5_lay_24 ?_
    refine z_callV (pc := 25) (rf' := 4) (rl' := 92) (fX5_hang F (1 : Int32) sD_4) [(.int (1 : Int32))] [(.ref (qD 0))] [(5, qD, sD_4)] (fun r_5 => (some (.int r_5.1))) (fun r_5 => [(5, qD, r_5.2)]) [] (fun r_5 => [(5, qD, r_5.2)]) C dX5_lay_25 zy_X5_hang zw_891 (fun _ hr9 => mX5_hang  hr9) (by decide) rfl rfl (by decide) rfl (Nat.le_of_ble_eq_true rfl) (List.Perm.refl _) (fun _ => List.Perm.refl _) rfl (fun r_5 hr_6 => ?_)
    show zJ X 1 res _ 28 [(0, (.ref (qD 0)))] [(.int r_5.1), (.ref (qD 0))] [(5, qD, r_5.2)]
    refine z_putI (pc := 28) 0 7 C dX5_lay_28 rfl (by decide) (by decide) rfl zw_722 rfl rfl rfl [(5, qD, (zsF r_5.2 7 r_5.1))] rfl ?_
    refine z_letc (fun z9 => [(5, qD, z9)]) (fun sD_7 => ?_)
    refine z_aload_n (pc := 31) 0 rfl rfl C dX5_lay_31 ?_
    refine z_callV (pc := 32) (rf' := 4) (rl' := 89) (fX5_findGates F sD_7) [] [] [(5, qD, sD_7)] (fun r_8 => none) (fun r_8 => [(5, qD, r_8)]) [] (fun r_8 => [(5, qD, r_8)]) C dX5_lay_32 zy_X5_findGates zw_910 (fun _ hr9 => mX5_findGates  hr9) (by decide) rfl rfl (by decide) rfl (Nat.le_of_ble_eq_true rfl) (List.Perm.refl _) (fun _ => List.Perm.refl _) rfl (fun r_8 hr_9 => ?_)
    show zJ X 1 res _ 35 [(0, (.ref (qD 0)))] [] [(5, qD, r_8)]
    refine z_aload_n (pc := 35) 0 rfl rfl C dX5_lay_35 ?_
    refine z_callV (pc := 36) (rf' := 5) (rl' := 117) (fX5_findSides F r_8) [] [] [(5, qD, r_8)] (fun r_10 => none) (fun r_10 => [(5, qD, r_10)]) [] (fun r_10 => [(5, qD, r_10)]) C dX5_lay_36 zy_X5_findSides zw_922 (fun _ hr9 => mX5_findSides  hr9) (by decide) rfl rfl (by decide) rfl (Nat.le_of_ble_eq_true rfl) (List.Perm.refl _) (fun _ => List.Perm.refl _) rfl (fun r_10 hr_11 => ?_)
    show zJ X 1 res _ 39 [(0, (.ref (qD 0)))] [] [(5, qD, r_10)]
    refine z_aload_n (pc := 39) 0 rfl rfl C dX5_lay_39 ?_
    refine z_callV (pc := 40) (rf' := 3) (rl' := 70) (fX5_findMatches F r_10) [] [] [(5, qD, r_10)] (fun r_12 => none) (fun r_12 => [(5, qD, r_12)]) [] (fun r_12 => [(5, qD, r_12)]) C dX5_lay_40 zy_X5_findMatches zw_934 (fun _ hr9 => mX5_findMatches  hr9) (by decide) rfl rfl (by decide) rfl (Nat.le_of_ble_eq_true rfl) (List.Perm.refl _) (fun _ => List.Perm.refl _) rfl (fun r_12 hr_13 => ?_)
    show zJ X 1 res _ 43 [(0, (.ref (qD 0)))] [] [(5, qD, r_12)]
    exact z_return (pc := 43) C hR dX5_lay_43 (fun h => by subst h; exact ⟨rfl, rfl⟩)
  · exact z_return (pc := 7) C hR dX5_lay_7 (fun h => by subst h; exact ⟨rfl, rfl⟩)
theorem mX5_lay {F : Nat} {qD : Nat → Nat} {sD : zOS} {res : zOS}  (hf : fX5_lay F sD = some res) : zM yX5_lay cX5_lay 1 none 6 140 [(.ref (qD 0))] [(5, qD, sD)] none [(5, qD, res)] := zM_of (by decide +kernel) (Nat.le_of_ble_eq_true rfl) (fun X C hR => wX5_lay (F := F) C hR  hf)
