theorem dX5_in_0 : decode cX5_in 0 = .ok (.iload_n 0, 1) := by decide +kernel
theorem dX5_in_1 : decode cX5_in 1 = .ok (.iload_n 1, 1) := by decide +kernel
theorem dX5_in_2 : decode cX5_in 2 = .ok (.if_icmp .lt 12, 3) := by decide +kernel
theorem dX5_in_5 : decode cX5_in 5 = .ok (.iload_n 0, 1) := by decide +kernel
theorem dX5_in_6 : decode cX5_in 6 = .ok (.iload_n 2, 1) := by decide +kernel
theorem dX5_in_7 : decode cX5_in 7 = .ok (.if_icmp .gt 7, 3) := by decide +kernel
theorem dX5_in_10 : decode cX5_in 10 = .ok (.iconst 1, 1) := by decide +kernel
theorem dX5_in_11 : decode cX5_in 11 = .ok (.goto 4, 3) := by decide +kernel
theorem dX5_in_14 : decode cX5_in 14 = .ok (.iconst 0, 1) := by decide +kernel
theorem dX5_in_15 : decode cX5_in 15 = .ok (.ireturn, 1) := by decide +kernel
def fX5_in (x0 : Int32) (x1 : Int32) (x2 : Int32) : Option (Int32) := (if x0 < x1 then (zbk (0 : Int32) (some ((0 : Int32)))) else (if x2 < x0 then (zbk (0 : Int32) (some ((0 : Int32)))) else (zbk (1 : Int32) (some ((1 : Int32))))))
set_option maxRecDepth 20000 in
theorem wX5_in {X : zCx} {res : Int32}   {x0 : Int32} {x1 : Int32} {x2 : Int32} (C : zC X RX5 cX5_in 3 0 0) (hR : zR X (some .boolean) (some (.int res)) [])  : zJ X 3 res (fX5_in x0 x1 x2) 0 [(0, (.int x0)), (1, (.int x1)), (2, (.int x2))] [] [] := by
  unfold fX5_in
  refine z_iload_n (pc := 0) 0 rfl rfl C dX5_in_0 ?_
  refine z_iload_n (pc := 1) 1 rfl rfl C dX5_in_1 ?_
  refine z_icmp_lt (pc := 2) 14 C dX5_in_2 (by decide) ?_ ?_
  · refine z_iconst (pc := 14) (0 : Int32) (by decide) C dX5_in_14 ?_
    exact z_zreturn (pc := 15) C hR dX5_in_15 (fun h => by subst h; exact ⟨rfl, rfl⟩)
  · refine z_iload_n (pc := 5) 0 rfl rfl C dX5_in_5 ?_
    refine z_iload_n (pc := 6) 2 rfl rfl C dX5_in_6 ?_
    refine z_icmp_gt (pc := 7) 14 C dX5_in_7 (by decide) ?_ ?_
    · refine z_iconst (pc := 14) (0 : Int32) (by decide) C dX5_in_14 ?_
      exact z_zreturn (pc := 15) C hR dX5_in_15 (fun h => by subst h; exact ⟨rfl, rfl⟩)
    · refine z_iconst (pc := 10) (1 : Int32) (by decide) C dX5_in_10 ?_
      refine z_goto (pc := 11) 15 C dX5_in_11 (by decide) ?_
      exact z_zreturn (pc := 15) C hR dX5_in_15 (fun h => by subst h; exact ⟨rfl, rfl⟩)
theorem mX5_in   {x0 : Int32} {x1 : Int32} {x2 : Int32} {res : Int32}  (hf : fX5_in x0 x1 x2 = some res) : zM yX5_in cX5_in 3 (some .boolean) 0 0 [(.int x0), (.int x1), (.int x2)] [] (some (.int res)) [] := zM_of (by decide +kernel) (Nat.le_of_ble_eq_true rfl) (fun X C hR => wX5_in C hR  hf)
theorem dX5_refuses_0 : decode cX5_refuses 0 = .ok (.aload_n 0, 1) := by decide +kernel
theorem dX5_refuses_1 : decode cX5_refuses 1 = .ok (.getfield 19, 3) := by decide +kernel
theorem dX5_refuses_4 : decode cX5_refuses 4 = .ok (.bipush (-2), 2) := by decide +kernel
theorem dX5_refuses_6 : decode cX5_refuses 6 = .ok (.iload_n 1, 1) := by decide +kernel
theorem dX5_refuses_7 : decode cX5_refuses 7 = .ok (.isub, 1) := by decide +kernel
theorem dX5_refuses_8 : decode cX5_refuses 8 = .ok (.dup2, 1) := by decide +kernel
theorem dX5_refuses_9 : decode cX5_refuses 9 = .ok (.iaload, 1) := by decide +kernel
theorem dX5_refuses_10 : decode cX5_refuses 10 = .ok (.iconst 1, 1) := by decide +kernel
theorem dX5_refuses_11 : decode cX5_refuses 11 = .ok (.iadd, 1) := by decide +kernel
theorem dX5_refuses_12 : decode cX5_refuses 12 = .ok (.iastore, 1) := by decide +kernel
theorem dX5_refuses_13 : decode cX5_refuses 13 = .ok (.iload_n 1, 1) := by decide +kernel
theorem dX5_refuses_14 : decode cX5_refuses 14 = .ok (.ireturn, 1) := by decide +kernel
def fX5_refuses (x1 : Int32) (sD : zOS) : Option (Int32 × zOS) := (zchk ((-2 : Int32) - x1) 3 (zchk ((-2 : Int32) - x1) 3 (zlet (zsI sD 4 (upd (zI sD 4) ((-2 : Int32) - x1).toNatClampNeg ((zI sD 4 ((-2 : Int32) - x1).toNatClampNeg) + (1 : Int32)))) (fun sD_1 : zOS => (some (x1, sD_1))))))
set_option maxRecDepth 20000 in
theorem wX5_refuses {X : zCx} {res : Int32 × zOS}  {qD : Nat → Nat} {x1 : Int32} {sD : zOS} (C : zC X RX5 cX5_refuses 2 0 0) (hR : zR X (some .int) (some (.int res.1)) [(5, qD, res.2)])  : zJ X 2 res (fX5_refuses x1 sD) 0 [(0, (.ref (qD 0))), (1, (.int x1))] [] [(5, qD, sD)] := by
  unfold fX5_refuses
  refine z_aload_n (pc := 0) 0 rfl rfl C dX5_refuses_0 ?_
  refine z_getR (pc := 1) 0 4 4 C dX5_refuses_1 rfl (by decide) (by decide) rfl zw_719 ?_
  refine z_bipush (pc := 4) (-2 : Int32) (by decide) C dX5_refuses_4 ?_
  refine z_iload_n (pc := 6) 1 rfl rfl C dX5_refuses_6 ?_
  refine z_isub (pc := 7) C dX5_refuses_7 ?_
  refine z_dup2 (pc := 8) rfl rfl C dX5_refuses_8 ?_
  refine z_iald (pc := 9) 0 C dX5_refuses_9 rfl (by unfold zAr; decide) ?_
  refine z_iconst (pc := 10) (1 : Int32) (by decide) C dX5_refuses_10 ?_
  refine z_iadd (pc := 11) C dX5_refuses_11 ?_
  refine z_iast (pc := 12) 0 C dX5_refuses_12 rfl (by unfold zAr; decide) [(5, qD, (zsI sD 4 (upd (zI sD 4) ((-2 : Int32) - x1).toNatClampNeg ((zI sD 4 ((-2 : Int32) - x1).toNatClampNeg) + (1 : Int32)))))] rfl ?_
  refine z_letc (fun z9 => [(5, qD, z9)]) (fun sD_1 => ?_)
  refine z_iload_n (pc := 13) 1 rfl rfl C dX5_refuses_13 ?_
  exact z_ireturn (pc := 14) C hR dX5_refuses_14 (fun h => by subst h; exact ⟨rfl, rfl⟩)
theorem mX5_refuses  {qD : Nat → Nat} {x1 : Int32} {sD : zOS} {res : Int32 × zOS}  (hf : fX5_refuses x1 sD = some res) : zM yX5_refuses cX5_refuses 2 (some .int) 0 0 [(.ref (qD 0)), (.int x1)] [(5, qD, sD)] (some (.int res.1)) [(5, qD, res.2)] := zM_of (by decide +kernel) (Nat.le_of_ble_eq_true rfl) (fun X C hR => wX5_refuses C hR  hf)
theorem dX5_hold_0 : decode cX5_hold 0 = .ok (.iconst 0, 1) := by decide +kernel
theorem dX5_hold_1 : decode cX5_hold 1 = .ok (.istore_n 1, 1) := by decide +kernel
theorem dX5_hold_2 : decode cX5_hold 2 = .ok (.iload_n 1, 1) := by decide +kernel
theorem dX5_hold_3 : decode cX5_hold 3 = .ok (.bipush 46, 2) := by decide +kernel
theorem dX5_hold_5 : decode cX5_hold 5 = .ok (.if_icmp .ge 21, 3) := by decide +kernel
theorem dX5_hold_8 : decode cX5_hold 8 = .ok (.aload_n 0, 1) := by decide +kernel
theorem dX5_hold_9 : decode cX5_hold 9 = .ok (.getfield 13, 3) := by decide +kernel
theorem dX5_hold_12 : decode cX5_hold 12 = .ok (.iload_n 1, 1) := by decide +kernel
theorem dX5_hold_13 : decode cX5_hold 13 = .ok (.aload_n 0, 1) := by decide +kernel
theorem dX5_hold_14 : decode cX5_hold 14 = .ok (.getfield 7, 3) := by decide +kernel
theorem dX5_hold_17 : decode cX5_hold 17 = .ok (.iload_n 1, 1) := by decide +kernel
theorem dX5_hold_18 : decode cX5_hold 18 = .ok (.iaload, 1) := by decide +kernel
theorem dX5_hold_19 : decode cX5_hold 19 = .ok (.iastore, 1) := by decide +kernel
theorem dX5_hold_20 : decode cX5_hold 20 = .ok (.iinc 1 1, 3) := by decide +kernel
theorem dX5_hold_23 : decode cX5_hold 23 = .ok (.goto (-21), 3) := by decide +kernel
theorem dX5_hold_26 : decode cX5_hold 26 = .ok (.return_, 1) := by decide +kernel
def bX5_hold_2 (F : Nat) (kc_2 : (Int32 × zOS) → Option (zOS)) (x1 : Int32) (sD : zOS) : Option (zOS) := (if (46 : Int32) ≤ x1 then (some (sD)) else (zchk x1 46 (zchk x1 46 (zlet (zsI sD 2 (upd (zI sD 2) x1.toNatClampNeg (zI sD 1 x1.toNatClampNeg))) (fun sD_1 : zOS => (kc_2 ((x1 + 1), sD_1)))))))
set_option maxRecDepth 20000 in
theorem vX5_hold_2 {X : zCx} {res : zOS} {F : Nat} {qD : Nat → Nat} {kc_2 : (Int32 × zOS) → Option (zOS)} (C : zC X RX5 cX5_hold 2 0 0) (hR : zR X none none [(5, qD, res)]) (hk_2 : ∀ (y1 : Int32) (tD : zOS), zJ X 2 res (kc_2 (y1, tD)) 2 [(0, (.ref (qD 0))), (1, (.int y1))] [] [(5, qD, tD)]) (x1 : Int32) (sD : zOS) : zJ X 2 res (bX5_hold_2 F kc_2 x1 sD) 2 [(0, (.ref (qD 0))), (1, (.int x1))] [] [(5, qD, sD)] := by
  unfold bX5_hold_2
  refine z_iload_n (pc := 2) 1 rfl rfl C dX5_hold_2 ?_
  refine z_bipush (pc := 3) (46 : Int32) (by decide) C dX5_hold_3 ?_
  refine z_icmp_ge (pc := 5) 26 C dX5_hold_5 (by decide) ?_ ?_
  · exact z_return (pc := 26) C hR dX5_hold_26 (fun h => by subst h; exact ⟨rfl, rfl⟩)
  · refine z_aload_n (pc := 8) 0 rfl rfl C dX5_hold_8 ?_
    refine z_getR (pc := 9) 0 1 2 C dX5_hold_9 rfl (by decide) (by decide) rfl zw_716 ?_
    refine z_iload_n (pc := 12) 1 rfl rfl C dX5_hold_12 ?_
    refine z_aload_n (pc := 13) 0 rfl rfl C dX5_hold_13 ?_
    refine z_getR (pc := 14) 0 0 1 C dX5_hold_14 rfl (by decide) (by decide) rfl zw_715 ?_
    refine z_iload_n (pc := 17) 1 rfl rfl C dX5_hold_17 ?_
    refine z_iald (pc := 18) 0 C dX5_hold_18 rfl (by unfold zAr; decide) ?_
    refine z_iast (pc := 19) 0 C dX5_hold_19 rfl (by unfold zAr; decide) [(5, qD, (zsI sD 2 (upd (zI sD 2) x1.toNatClampNeg (zI sD 1 x1.toNatClampNeg))))] rfl ?_
    refine z_letc (fun z9 => [(5, qD, z9)]) (fun sD_1 => ?_)
    refine z_iinc (pc := 20) (x1 + 1) 1 rfl rfl [(0, (.ref (qD 0))), (1, (.int (x1 + 1)))] [1, 0] (by decide) rfl C dX5_hold_20 ?_
    refine z_goto (pc := 23) 2 C dX5_hold_23 (by decide) ?_
    exact hk_2 _ _
def fX5_hold (F : Nat) (sD : zOS) : Option (zOS) := (zit (P := Int32 × zOS) (R := zOS) (fun kc9 p9 => bX5_hold_2 F kc9 p9.1 p9.2) F ((0 : Int32), sD))
set_option maxRecDepth 20000 in
theorem wX5_hold {X : zCx} {res : zOS} {F : Nat} {qD : Nat → Nat} {sD : zOS} (C : zC X RX5 cX5_hold 2 0 0) (hR : zR X none none [(5, qD, res)])  : zJ X 2 res (fX5_hold F sD) 0 [(0, (.ref (qD 0)))] [] [(5, qD, sD)] := by
  unfold fX5_hold
  refine z_iconst (pc := 0) (0 : Int32) (by decide) C dX5_hold_0 ?_
  refine z_istore_n (pc := 1) [(0, (.ref (qD 0))), (1, (.int (0 : Int32)))] [1, 0] (by decide) rfl rfl C dX5_hold_1 ?_
  show zJ X 2 res _ 2 [(0, (.ref (qD 0))), (1, (.int (0 : Int32)))] [] [(5, qD, sD)]
  exact zit_J (P := Int32 × zOS) (B := (fun kc9 p9 => bX5_hold_2 F kc9 p9.1 p9.2)) (fun p9 => [(0, (.ref (qD 0))), (1, (.int p9.1))]) (fun p9 => [(5, qD, p9.2)]) (fun kc9 hk9 p9 => vX5_hold_2 C hR   (fun a0 a1 => hk9 (a0, a1)) p9.1 p9.2) F _
theorem mX5_hold {F : Nat} {qD : Nat → Nat} {sD : zOS} {res : zOS}  (hf : fX5_hold F sD = some res) : zM yX5_hold cX5_hold 2 none 0 0 [(.ref (qD 0))] [(5, qD, sD)] none [(5, qD, res)] := zM_of (by decide +kernel) (Nat.le_of_ble_eq_true rfl) (fun X C hR => wX5_hold (F := F) C hR  hf)
theorem dX5_push_0 : decode cX5_push 0 = .ok (.aload_n 0, 1) := by decide +kernel
theorem dX5_push_1 : decode cX5_push 1 = .ok (.getfield 52, 3) := by decide +kernel
theorem dX5_push_4 : decode cX5_push 4 = .ok (.iconst 5, 1) := by decide +kernel
theorem dX5_push_5 : decode cX5_push 5 = .ok (.if_icmp .ne 43, 3) := by decide +kernel
theorem dX5_push_8 : decode cX5_push 8 = .ok (.iconst 0, 1) := by decide +kernel
theorem dX5_push_9 : decode cX5_push 9 = .ok (.istore_n 1, 1) := by decide +kernel
theorem dX5_push_10 : decode cX5_push 10 = .ok (.iload_n 1, 1) := by decide +kernel
theorem dX5_push_11 : decode cX5_push 11 = .ok (.sipush 184, 3) := by decide +kernel
theorem dX5_push_14 : decode cX5_push 14 = .ok (.if_icmp .ge 24, 3) := by decide +kernel
theorem dX5_push_17 : decode cX5_push 17 = .ok (.aload_n 0, 1) := by decide +kernel
theorem dX5_push_18 : decode cX5_push 18 = .ok (.getfield 16, 3) := by decide +kernel
theorem dX5_push_21 : decode cX5_push 21 = .ok (.iload_n 1, 1) := by decide +kernel
theorem dX5_push_22 : decode cX5_push 22 = .ok (.aload_n 0, 1) := by decide +kernel
theorem dX5_push_23 : decode cX5_push 23 = .ok (.getfield 16, 3) := by decide +kernel
theorem dX5_push_26 : decode cX5_push 26 = .ok (.iload_n 1, 1) := by decide +kernel
theorem dX5_push_27 : decode cX5_push 27 = .ok (.bipush 46, 2) := by decide +kernel
theorem dX5_push_29 : decode cX5_push 29 = .ok (.iadd, 1) := by decide +kernel
theorem dX5_push_30 : decode cX5_push 30 = .ok (.iaload, 1) := by decide +kernel
theorem dX5_push_31 : decode cX5_push 31 = .ok (.iastore, 1) := by decide +kernel
theorem dX5_push_32 : decode cX5_push 32 = .ok (.iinc 1 1, 3) := by decide +kernel
theorem dX5_push_35 : decode cX5_push 35 = .ok (.goto (-25), 3) := by decide +kernel
theorem dX5_push_38 : decode cX5_push 38 = .ok (.aload_n 0, 1) := by decide +kernel
theorem dX5_push_39 : decode cX5_push 39 = .ok (.dup, 1) := by decide +kernel
theorem dX5_push_40 : decode cX5_push 40 = .ok (.getfield 52, 3) := by decide +kernel
theorem dX5_push_43 : decode cX5_push 43 = .ok (.iconst 1, 1) := by decide +kernel
theorem dX5_push_44 : decode cX5_push 44 = .ok (.isub, 1) := by decide +kernel
theorem dX5_push_45 : decode cX5_push 45 = .ok (.putfield 52, 3) := by decide +kernel
theorem dX5_push_48 : decode cX5_push 48 = .ok (.iconst 0, 1) := by decide +kernel
theorem dX5_push_49 : decode cX5_push 49 = .ok (.istore_n 1, 1) := by decide +kernel
theorem dX5_push_50 : decode cX5_push 50 = .ok (.iload_n 1, 1) := by decide +kernel
theorem dX5_push_51 : decode cX5_push 51 = .ok (.bipush 46, 2) := by decide +kernel
theorem dX5_push_53 : decode cX5_push 53 = .ok (.if_icmp .ge 29, 3) := by decide +kernel
theorem dX5_push_56 : decode cX5_push 56 = .ok (.aload_n 0, 1) := by decide +kernel
theorem dX5_push_57 : decode cX5_push 57 = .ok (.getfield 16, 3) := by decide +kernel
theorem dX5_push_60 : decode cX5_push 60 = .ok (.bipush 46, 2) := by decide +kernel
theorem dX5_push_62 : decode cX5_push 62 = .ok (.aload_n 0, 1) := by decide +kernel
theorem dX5_push_63 : decode cX5_push 63 = .ok (.getfield 52, 3) := by decide +kernel
theorem dX5_push_66 : decode cX5_push 66 = .ok (.imul, 1) := by decide +kernel
theorem dX5_push_67 : decode cX5_push 67 = .ok (.iload_n 1, 1) := by decide +kernel
theorem dX5_push_68 : decode cX5_push 68 = .ok (.iadd, 1) := by decide +kernel
theorem dX5_push_69 : decode cX5_push 69 = .ok (.aload_n 0, 1) := by decide +kernel
theorem dX5_push_70 : decode cX5_push 70 = .ok (.getfield 13, 3) := by decide +kernel
theorem dX5_push_73 : decode cX5_push 73 = .ok (.iload_n 1, 1) := by decide +kernel
theorem dX5_push_74 : decode cX5_push 74 = .ok (.iaload, 1) := by decide +kernel
theorem dX5_push_75 : decode cX5_push 75 = .ok (.iastore, 1) := by decide +kernel
theorem dX5_push_76 : decode cX5_push 76 = .ok (.iinc 1 1, 3) := by decide +kernel
theorem dX5_push_79 : decode cX5_push 79 = .ok (.goto (-29), 3) := by decide +kernel
theorem dX5_push_82 : decode cX5_push 82 = .ok (.aload_n 0, 1) := by decide +kernel
theorem dX5_push_83 : decode cX5_push 83 = .ok (.dup, 1) := by decide +kernel
theorem dX5_push_84 : decode cX5_push 84 = .ok (.getfield 52, 3) := by decide +kernel
theorem dX5_push_87 : decode cX5_push 87 = .ok (.iconst 1, 1) := by decide +kernel
theorem dX5_push_88 : decode cX5_push 88 = .ok (.iadd, 1) := by decide +kernel
theorem dX5_push_89 : decode cX5_push 89 = .ok (.putfield 52, 3) := by decide +kernel
theorem dX5_push_92 : decode cX5_push 92 = .ok (.aload_n 0, 1) := by decide +kernel
theorem dX5_push_93 : decode cX5_push 93 = .ok (.iconst 0, 1) := by decide +kernel
theorem dX5_push_94 : decode cX5_push 94 = .ok (.putfield 56, 3) := by decide +kernel
theorem dX5_push_97 : decode cX5_push 97 = .ok (.return_, 1) := by decide +kernel
def bX5_push_50 (F : Nat) (kc_50 : (Int32 × zOS) → Option (zOS)) (x1 : Int32) (sD : zOS) : Option (zOS) := (if (46 : Int32) ≤ x1 then (zlet (zsF sD 3 ((zF sD 3) + (1 : Int32))) (fun sD_2 : zOS => (zlet (zsF sD_2 5 (0 : Int32)) (fun sD_3 : zOS => (some (sD_3)))))) else (zchk x1 46 (zchk (((46 : Int32) * (zF sD 3)) + x1) 230 (zlet (zsI sD 3 (upd (zI sD 3) (((46 : Int32) * (zF sD 3)) + x1).toNatClampNeg (zI sD 2 x1.toNatClampNeg))) (fun sD_4 : zOS => (kc_50 ((x1 + 1), sD_4)))))))
set_option maxRecDepth 20000 in
theorem vX5_push_50 {X : zCx} {res : zOS} {F : Nat} {qD : Nat → Nat} {kc_50 : (Int32 × zOS) → Option (zOS)} (C : zC X RX5 cX5_push 2 0 0) (hR : zR X none none [(5, qD, res)]) (hk_50 : ∀ (y1 : Int32) (tD : zOS), zJ X 2 res (kc_50 (y1, tD)) 50 [(0, (.ref (qD 0))), (1, (.int y1))] [] [(5, qD, tD)]) (x1 : Int32) (sD : zOS) : zJ X 2 res (bX5_push_50 F kc_50 x1 sD) 50 [(0, (.ref (qD 0))), (1, (.int x1))] [] [(5, qD, sD)] := by
  unfold bX5_push_50
  refine z_iload_n (pc := 50) 1 rfl rfl C dX5_push_50 ?_
  refine z_bipush (pc := 51) (46 : Int32) (by decide) C dX5_push_51 ?_
  refine z_icmp_ge (pc := 53) 82 C dX5_push_53 (by decide) ?_ ?_
  · refine z_aload_n (pc := 82) 0 rfl rfl C dX5_push_82 ?_
    refine z_dup (pc := 83) rfl C dX5_push_83 ?_
    refine z_getI (pc := 84) 0 3 C dX5_push_84 rfl (by decide) (by decide) rfl zw_718 ?_
    refine z_iconst (pc := 87) (1 : Int32) (by decide) C dX5_push_87 ?_
    refine z_iadd (pc := 88) C dX5_push_88 ?_
    refine z_putI (pc := 89) 0 3 C dX5_push_89 rfl (by decide) (by decide) rfl zw_718 rfl rfl rfl [(5, qD, (zsF sD 3 ((zF sD 3) + (1 : Int32))))] rfl ?_
    refine z_letc (fun z9 => [(5, qD, z9)]) (fun sD_2 => ?_)
    refine z_aload_n (pc := 92) 0 rfl rfl C dX5_push_92 ?_
    refine z_iconst (pc := 93) (0 : Int32) (by decide) C dX5_push_93 ?_
    refine z_putI (pc := 94) 0 5 C dX5_push_94 rfl (by decide) (by decide) rfl zw_720 rfl (by decide) (by decide) [(5, qD, (zsF sD_2 5 (0 : Int32)))] rfl ?_
    refine z_letc (fun z9 => [(5, qD, z9)]) (fun sD_3 => ?_)
    exact z_return (pc := 97) C hR dX5_push_97 (fun h => by subst h; exact ⟨rfl, rfl⟩)
  · refine z_aload_n (pc := 56) 0 rfl rfl C dX5_push_56 ?_
    refine z_getR (pc := 57) 0 2 3 C dX5_push_57 rfl (by decide) (by decide) rfl zw_717 ?_
    refine z_bipush (pc := 60) (46 : Int32) (by decide) C dX5_push_60 ?_
    refine z_aload_n (pc := 62) 0 rfl rfl C dX5_push_62 ?_
    refine z_getI (pc := 63) 0 3 C dX5_push_63 rfl (by decide) (by decide) rfl zw_718 ?_
    refine z_imul (pc := 66) C dX5_push_66 ?_
    refine z_iload_n (pc := 67) 1 rfl rfl C dX5_push_67 ?_
    refine z_iadd (pc := 68) C dX5_push_68 ?_
    refine z_aload_n (pc := 69) 0 rfl rfl C dX5_push_69 ?_
    refine z_getR (pc := 70) 0 1 2 C dX5_push_70 rfl (by decide) (by decide) rfl zw_716 ?_
    refine z_iload_n (pc := 73) 1 rfl rfl C dX5_push_73 ?_
    refine z_iald (pc := 74) 0 C dX5_push_74 rfl (by unfold zAr; decide) ?_
    refine z_iast (pc := 75) 0 C dX5_push_75 rfl (by unfold zAr; decide) [(5, qD, (zsI sD 3 (upd (zI sD 3) (((46 : Int32) * (zF sD 3)) + x1).toNatClampNeg (zI sD 2 x1.toNatClampNeg))))] rfl ?_
    refine z_letc (fun z9 => [(5, qD, z9)]) (fun sD_4 => ?_)
    refine z_iinc (pc := 76) (x1 + 1) 1 rfl rfl [(0, (.ref (qD 0))), (1, (.int (x1 + 1)))] [1, 0] (by decide) rfl C dX5_push_76 ?_
    refine z_goto (pc := 79) 50 C dX5_push_79 (by decide) ?_
    exact hk_50 _ _
def jX5_push_48 (F : Nat) (sD : zOS) : Option (zOS) := (zit (P := Int32 × zOS) (R := zOS) (fun kc9 p9 => bX5_push_50 F kc9 p9.1 p9.2) F ((0 : Int32), sD))
set_option maxRecDepth 20000 in
theorem wX5_push_48 {X : zCx} {res : zOS} {F : Nat} {qD : Nat → Nat} (C : zC X RX5 cX5_push 2 0 0) (hR : zR X none none [(5, qD, res)]) (sD : zOS) : zJ X 2 res (jX5_push_48 F sD) 48 [(0, (.ref (qD 0)))] [] [(5, qD, sD)] := by
  unfold jX5_push_48
  refine z_iconst (pc := 48) (0 : Int32) (by decide) C dX5_push_48 ?_
  refine z_istore_n (pc := 49) [(0, (.ref (qD 0))), (1, (.int (0 : Int32)))] [1, 0] (by decide) rfl rfl C dX5_push_49 ?_
  show zJ X 2 res _ 50 [(0, (.ref (qD 0))), (1, (.int (0 : Int32)))] [] [(5, qD, sD)]
  exact zit_J (P := Int32 × zOS) (B := (fun kc9 p9 => bX5_push_50 F kc9 p9.1 p9.2)) (fun p9 => [(0, (.ref (qD 0))), (1, (.int p9.1))]) (fun p9 => [(5, qD, p9.2)]) (fun kc9 hk9 p9 => vX5_push_50 C hR   (fun a0 a1 => hk9 (a0, a1)) p9.1 p9.2) F _
def bX5_push_10 (F : Nat) (kc_10 : (Int32 × zOS) → Option (zOS)) (x1 : Int32) (sD : zOS) : Option (zOS) := (if (184 : Int32) ≤ x1 then (zlet (zsF sD 3 ((zF sD 3) - (1 : Int32))) (fun sD_1 : zOS => (jX5_push_48 F sD_1))) else (zchk (x1 + (46 : Int32)) 230 (zchk x1 230 (zlet (zsI sD 3 (upd (zI sD 3) x1.toNatClampNeg (zI sD 3 (x1 + (46 : Int32)).toNatClampNeg))) (fun sD_5 : zOS => (kc_10 ((x1 + 1), sD_5)))))))
set_option maxRecDepth 20000 in
theorem vX5_push_10 {X : zCx} {res : zOS} {F : Nat} {qD : Nat → Nat} {kc_10 : (Int32 × zOS) → Option (zOS)} (C : zC X RX5 cX5_push 2 0 0) (hR : zR X none none [(5, qD, res)]) (hk_10 : ∀ (y1 : Int32) (tD : zOS), zJ X 2 res (kc_10 (y1, tD)) 10 [(0, (.ref (qD 0))), (1, (.int y1))] [] [(5, qD, tD)]) (x1 : Int32) (sD : zOS) : zJ X 2 res (bX5_push_10 F kc_10 x1 sD) 10 [(0, (.ref (qD 0))), (1, (.int x1))] [] [(5, qD, sD)] := by
  unfold bX5_push_10
  refine z_iload_n (pc := 10) 1 rfl rfl C dX5_push_10 ?_
  refine z_sipush (pc := 11) (184 : Int32) (by decide) C dX5_push_11 ?_
  refine z_icmp_ge (pc := 14) 38 C dX5_push_14 (by decide) ?_ ?_
  · refine z_aload_n (pc := 38) 0 rfl rfl C dX5_push_38 ?_
    refine z_dup (pc := 39) rfl C dX5_push_39 ?_
    refine z_getI (pc := 40) 0 3 C dX5_push_40 rfl (by decide) (by decide) rfl zw_718 ?_
    refine z_iconst (pc := 43) (1 : Int32) (by decide) C dX5_push_43 ?_
    refine z_isub (pc := 44) C dX5_push_44 ?_
    refine z_putI (pc := 45) 0 3 C dX5_push_45 rfl (by decide) (by decide) rfl zw_718 rfl rfl rfl [(5, qD, (zsF sD 3 ((zF sD 3) - (1 : Int32))))] rfl ?_
    refine z_letc (fun z9 => [(5, qD, z9)]) (fun sD_1 => ?_)
    refine z_lv [(0, (.ref (qD 0)))] [0] rfl ?_
    exact wX5_push_48 C hR   _
  · refine z_aload_n (pc := 17) 0 rfl rfl C dX5_push_17 ?_
    refine z_getR (pc := 18) 0 2 3 C dX5_push_18 rfl (by decide) (by decide) rfl zw_717 ?_
    refine z_iload_n (pc := 21) 1 rfl rfl C dX5_push_21 ?_
    refine z_aload_n (pc := 22) 0 rfl rfl C dX5_push_22 ?_
    refine z_getR (pc := 23) 0 2 3 C dX5_push_23 rfl (by decide) (by decide) rfl zw_717 ?_
    refine z_iload_n (pc := 26) 1 rfl rfl C dX5_push_26 ?_
    refine z_bipush (pc := 27) (46 : Int32) (by decide) C dX5_push_27 ?_
    refine z_iadd (pc := 29) C dX5_push_29 ?_
    refine z_iald (pc := 30) 0 C dX5_push_30 rfl (by unfold zAr; decide) ?_
    refine z_iast (pc := 31) 0 C dX5_push_31 rfl (by unfold zAr; decide) [(5, qD, (zsI sD 3 (upd (zI sD 3) x1.toNatClampNeg (zI sD 3 (x1 + (46 : Int32)).toNatClampNeg))))] rfl ?_
    refine z_letc (fun z9 => [(5, qD, z9)]) (fun sD_5 => ?_)
    refine z_iinc (pc := 32) (x1 + 1) 1 rfl rfl [(0, (.ref (qD 0))), (1, (.int (x1 + 1)))] [1, 0] (by decide) rfl C dX5_push_32 ?_
    refine z_goto (pc := 35) 10 C dX5_push_35 (by decide) ?_
    exact hk_10 _ _
def fX5_push (F : Nat) (sD : zOS) : Option (zOS) := (if (zF sD 3) = (5 : Int32) then (zit (P := Int32 × zOS) (R := zOS) (fun kc9 p9 => bX5_push_10 F kc9 p9.1 p9.2) F ((0 : Int32), sD)) else (jX5_push_48 F sD))
set_option maxRecDepth 20000 in
theorem wX5_push {X : zCx} {res : zOS} {F : Nat} {qD : Nat → Nat} {sD : zOS} (C : zC X RX5 cX5_push 2 0 0) (hR : zR X none none [(5, qD, res)])  : zJ X 2 res (fX5_push F sD) 0 [(0, (.ref (qD 0)))] [] [(5, qD, sD)] := by
  unfold fX5_push
  refine z_aload_n (pc := 0) 0 rfl rfl C dX5_push_0 ?_
  refine z_getI (pc := 1) 0 3 C dX5_push_1 rfl (by decide) (by decide) rfl zw_718 ?_
  refine z_iconst (pc := 4) (5 : Int32) (by decide) C dX5_push_4 ?_
  refine z_icmp_ne (pc := 5) 48 C dX5_push_5 (by decide) ?_ ?_
  · refine z_iconst (pc := 8) (0 : Int32) (by decide) C dX5_push_8 ?_
    refine z_istore_n (pc := 9) [(0, (.ref (qD 0))), (1, (.int (0 : Int32)))] [1, 0] (by decide) rfl rfl C dX5_push_9 ?_
    show zJ X 2 res _ 10 [(0, (.ref (qD 0))), (1, (.int (0 : Int32)))] [] [(5, qD, sD)]
    exact zit_J (P := Int32 × zOS) (B := (fun kc9 p9 => bX5_push_10 F kc9 p9.1 p9.2)) (fun p9 => [(0, (.ref (qD 0))), (1, (.int p9.1))]) (fun p9 => [(5, qD, p9.2)]) (fun kc9 hk9 p9 => vX5_push_10 C hR   (fun a0 a1 => hk9 (a0, a1)) p9.1 p9.2) F _
  · exact wX5_push_48 C hR   _
theorem mX5_push {F : Nat} {qD : Nat → Nat} {sD : zOS} {res : zOS}  (hf : fX5_push F sD = some res) : zM yX5_push cX5_push 2 none 0 0 [(.ref (qD 0))] [(5, qD, sD)] none [(5, qD, res)] := zM_of (by decide +kernel) (Nat.le_of_ble_eq_true rfl) (fun X C hR => wX5_push (F := F) C hR  hf)
theorem dX5_ends_0 : decode cX5_ends 0 = .ok (.iload_n 1, 1) := by decide +kernel
theorem dX5_ends_1 : decode cX5_ends 1 = .ok (.ifCond .ge 9, 3) := by decide +kernel
theorem dX5_ends_4 : decode cX5_ends 4 = .ok (.aload_n 0, 1) := by decide +kernel
theorem dX5_ends_5 : decode cX5_ends 5 = .ok (.iload_n 1, 1) := by decide +kernel
theorem dX5_ends_6 : decode cX5_ends 6 = .ok (.invokevirtual 60, 3) := by decide +kernel
theorem dX5_ends_9 : decode cX5_ends 9 = .ok (.ireturn, 1) := by decide +kernel
theorem dX5_ends_10 : decode cX5_ends 10 = .ok (.aload_n 0, 1) := by decide +kernel
theorem dX5_ends_11 : decode cX5_ends 11 = .ok (.invokevirtual 64, 3) := by decide +kernel
theorem dX5_ends_14 : decode cX5_ends 14 = .ok (.iload_n 1, 1) := by decide +kernel
theorem dX5_ends_15 : decode cX5_ends 15 = .ok (.ireturn, 1) := by decide +kernel
def fX5_ends (F : Nat) (x1 : Int32) (sD : zOS) : Option (Int32 × zOS) := (if 0 ≤ x1 then (Option.bind (fX5_push F sD) (fun r_1 : zOS => (some (x1, r_1)))) else (Option.bind (fX5_refuses x1 sD) (fun r_3 : Int32 × zOS => (some (r_3.1, r_3.2)))))
set_option maxRecDepth 20000 in
theorem wX5_ends {X : zCx} {res : Int32 × zOS} {F : Nat} {qD : Nat → Nat} {x1 : Int32} {sD : zOS} (C : zC X RX5 cX5_ends 2 1 21) (hR : zR X (some .int) (some (.int res.1)) [(5, qD, res.2)])  : zJ X 2 res (fX5_ends F x1 sD) 0 [(0, (.ref (qD 0))), (1, (.int x1))] [] [(5, qD, sD)] := by
  unfold fX5_ends
  refine z_iload_n (pc := 0) 1 rfl rfl C dX5_ends_0 ?_
  refine z_if_ge (pc := 1) 10 C dX5_ends_1 (by decide) ?_ ?_
  · refine z_aload_n (pc := 10) 0 rfl rfl C dX5_ends_10 ?_
    refine z_callV (pc := 11) (rf' := 0) (rl' := 0) (fX5_push F sD) [] [] [(5, qD, sD)] (fun r_1 => none) (fun r_1 => [(5, qD, r_1)]) [] (fun r_1 => [(5, qD, r_1)]) C dX5_ends_11 zy_X5_push zw_832 (fun _ hr9 => mX5_push  hr9) (by decide) rfl rfl (by decide) rfl (Nat.le_of_ble_eq_true rfl) (List.Perm.refl _) (fun _ => List.Perm.refl _) rfl (fun r_1 hr_2 => ?_)
    show zJ X 2 res _ 14 [(0, (.ref (qD 0))), (1, (.int x1))] [] [(5, qD, r_1)]
    refine z_iload_n (pc := 14) 1 rfl rfl C dX5_ends_14 ?_
    exact z_ireturn (pc := 15) C hR dX5_ends_15 (fun h => by subst h; exact ⟨rfl, rfl⟩)
  · refine z_aload_n (pc := 4) 0 rfl rfl C dX5_ends_4 ?_
    refine z_iload_n (pc := 5) 1 rfl rfl C dX5_ends_5 ?_
    refine z_callV (pc := 6) (rf' := 0) (rl' := 0) (fX5_refuses x1 sD) [(.int x1)] [] [(5, qD, sD)] (fun r_3 => (some (.int r_3.1))) (fun r_3 => [(5, qD, r_3.2)]) [] (fun r_3 => [(5, qD, r_3.2)]) C dX5_ends_6 zy_X5_refuses zw_798 (fun _ hr9 => mX5_refuses  hr9) (by decide) rfl rfl (by decide) rfl (Nat.le_of_ble_eq_true rfl) (List.Perm.refl _) (fun _ => List.Perm.refl _) rfl (fun r_3 hr_4 => ?_)
    show zJ X 2 res _ 9 [(0, (.ref (qD 0))), (1, (.int x1))] [(.int r_3.1)] [(5, qD, r_3.2)]
    exact z_ireturn (pc := 9) C hR dX5_ends_9 (fun h => by subst h; exact ⟨rfl, rfl⟩)
theorem mX5_ends {F : Nat} {qD : Nat → Nat} {x1 : Int32} {sD : zOS} {res : Int32 × zOS}  (hf : fX5_ends F x1 sD = some res) : zM yX5_ends cX5_ends 2 (some .int) 1 21 [(.ref (qD 0)), (.int x1)] [(5, qD, sD)] (some (.int res.1)) [(5, qD, res.2)] := zM_of (by decide +kernel) (Nat.le_of_ble_eq_true rfl) (fun X C hR => wX5_ends (F := F) C hR  hf)
theorem dX5_back_0 : decode cX5_back 0 = .ok (.aload_n 0, 1) := by decide +kernel
theorem dX5_back_1 : decode cX5_back 1 = .ok (.getfield 52, 3) := by decide +kernel
theorem dX5_back_4 : decode cX5_back 4 = .ok (.ifCond .ne 10, 3) := by decide +kernel
theorem dX5_back_7 : decode cX5_back 7 = .ok (.aload_n 0, 1) := by decide +kernel
theorem dX5_back_8 : decode cX5_back 8 = .ok (.bipush (-3), 2) := by decide +kernel
theorem dX5_back_10 : decode cX5_back 10 = .ok (.invokevirtual 60, 3) := by decide +kernel
theorem dX5_back_13 : decode cX5_back 13 = .ok (.ireturn, 1) := by decide +kernel
theorem dX5_back_14 : decode cX5_back 14 = .ok (.aload_n 0, 1) := by decide +kernel
theorem dX5_back_15 : decode cX5_back 15 = .ok (.dup, 1) := by decide +kernel
theorem dX5_back_16 : decode cX5_back 16 = .ok (.getfield 52, 3) := by decide +kernel
theorem dX5_back_19 : decode cX5_back 19 = .ok (.iconst 1, 1) := by decide +kernel
theorem dX5_back_20 : decode cX5_back 20 = .ok (.isub, 1) := by decide +kernel
theorem dX5_back_21 : decode cX5_back 21 = .ok (.putfield 52, 3) := by decide +kernel
theorem dX5_back_24 : decode cX5_back 24 = .ok (.iconst 0, 1) := by decide +kernel
theorem dX5_back_25 : decode cX5_back 25 = .ok (.istore_n 1, 1) := by decide +kernel
theorem dX5_back_26 : decode cX5_back 26 = .ok (.iload_n 1, 1) := by decide +kernel
theorem dX5_back_27 : decode cX5_back 27 = .ok (.bipush 46, 2) := by decide +kernel
theorem dX5_back_29 : decode cX5_back 29 = .ok (.if_icmp .ge 29, 3) := by decide +kernel
theorem dX5_back_32 : decode cX5_back 32 = .ok (.aload_n 0, 1) := by decide +kernel
theorem dX5_back_33 : decode cX5_back 33 = .ok (.getfield 7, 3) := by decide +kernel
theorem dX5_back_36 : decode cX5_back 36 = .ok (.iload_n 1, 1) := by decide +kernel
theorem dX5_back_37 : decode cX5_back 37 = .ok (.aload_n 0, 1) := by decide +kernel
theorem dX5_back_38 : decode cX5_back 38 = .ok (.getfield 16, 3) := by decide +kernel
theorem dX5_back_41 : decode cX5_back 41 = .ok (.bipush 46, 2) := by decide +kernel
theorem dX5_back_43 : decode cX5_back 43 = .ok (.aload_n 0, 1) := by decide +kernel
theorem dX5_back_44 : decode cX5_back 44 = .ok (.getfield 52, 3) := by decide +kernel
theorem dX5_back_47 : decode cX5_back 47 = .ok (.imul, 1) := by decide +kernel
theorem dX5_back_48 : decode cX5_back 48 = .ok (.iload_n 1, 1) := by decide +kernel
theorem dX5_back_49 : decode cX5_back 49 = .ok (.iadd, 1) := by decide +kernel
theorem dX5_back_50 : decode cX5_back 50 = .ok (.iaload, 1) := by decide +kernel
theorem dX5_back_51 : decode cX5_back 51 = .ok (.iastore, 1) := by decide +kernel
theorem dX5_back_52 : decode cX5_back 52 = .ok (.iinc 1 1, 3) := by decide +kernel
theorem dX5_back_55 : decode cX5_back 55 = .ok (.goto (-29), 3) := by decide +kernel
theorem dX5_back_58 : decode cX5_back 58 = .ok (.aload_n 0, 1) := by decide +kernel
theorem dX5_back_59 : decode cX5_back 59 = .ok (.iconst 0, 1) := by decide +kernel
theorem dX5_back_60 : decode cX5_back 60 = .ok (.putfield 56, 3) := by decide +kernel
theorem dX5_back_63 : decode cX5_back 63 = .ok (.aload_n 0, 1) := by decide +kernel
theorem dX5_back_64 : decode cX5_back 64 = .ok (.getfield 52, 3) := by decide +kernel
theorem dX5_back_67 : decode cX5_back 67 = .ok (.ireturn, 1) := by decide +kernel
def bX5_back_26 (F : Nat) (kc_26 : (Int32 × zOS) → Option (Int32 × zOS)) (x1 : Int32) (sD : zOS) : Option (Int32 × zOS) := (if (46 : Int32) ≤ x1 then (zlet (zsF sD 5 (0 : Int32)) (fun sD_4 : zOS => (some (zF sD_4 3, sD_4)))) else (zchk (((46 : Int32) * (zF sD 3)) + x1) 230 (zchk x1 46 (zlet (zsI sD 1 (upd (zI sD 1) x1.toNatClampNeg (zI sD 3 (((46 : Int32) * (zF sD 3)) + x1).toNatClampNeg))) (fun sD_5 : zOS => (kc_26 ((x1 + 1), sD_5)))))))
set_option maxRecDepth 20000 in
theorem vX5_back_26 {X : zCx} {res : Int32 × zOS} {F : Nat} {qD : Nat → Nat} {kc_26 : (Int32 × zOS) → Option (Int32 × zOS)} (C : zC X RX5 cX5_back 2 1 21) (hR : zR X (some .int) (some (.int res.1)) [(5, qD, res.2)]) (hk_26 : ∀ (y1 : Int32) (tD : zOS), zJ X 2 res (kc_26 (y1, tD)) 26 [(0, (.ref (qD 0))), (1, (.int y1))] [] [(5, qD, tD)]) (x1 : Int32) (sD : zOS) : zJ X 2 res (bX5_back_26 F kc_26 x1 sD) 26 [(0, (.ref (qD 0))), (1, (.int x1))] [] [(5, qD, sD)] := by
  unfold bX5_back_26
  refine z_iload_n (pc := 26) 1 rfl rfl C dX5_back_26 ?_
  refine z_bipush (pc := 27) (46 : Int32) (by decide) C dX5_back_27 ?_
  refine z_icmp_ge (pc := 29) 58 C dX5_back_29 (by decide) ?_ ?_
  · refine z_aload_n (pc := 58) 0 rfl rfl C dX5_back_58 ?_
    refine z_iconst (pc := 59) (0 : Int32) (by decide) C dX5_back_59 ?_
    refine z_putI (pc := 60) 0 5 C dX5_back_60 rfl (by decide) (by decide) rfl zw_720 rfl (by decide) (by decide) [(5, qD, (zsF sD 5 (0 : Int32)))] rfl ?_
    refine z_letc (fun z9 => [(5, qD, z9)]) (fun sD_4 => ?_)
    refine z_aload_n (pc := 63) 0 rfl rfl C dX5_back_63 ?_
    refine z_getI (pc := 64) 0 3 C dX5_back_64 rfl (by decide) (by decide) rfl zw_718 ?_
    exact z_ireturn (pc := 67) C hR dX5_back_67 (fun h => by subst h; exact ⟨rfl, rfl⟩)
  · refine z_aload_n (pc := 32) 0 rfl rfl C dX5_back_32 ?_
    refine z_getR (pc := 33) 0 0 1 C dX5_back_33 rfl (by decide) (by decide) rfl zw_715 ?_
    refine z_iload_n (pc := 36) 1 rfl rfl C dX5_back_36 ?_
    refine z_aload_n (pc := 37) 0 rfl rfl C dX5_back_37 ?_
    refine z_getR (pc := 38) 0 2 3 C dX5_back_38 rfl (by decide) (by decide) rfl zw_717 ?_
    refine z_bipush (pc := 41) (46 : Int32) (by decide) C dX5_back_41 ?_
    refine z_aload_n (pc := 43) 0 rfl rfl C dX5_back_43 ?_
    refine z_getI (pc := 44) 0 3 C dX5_back_44 rfl (by decide) (by decide) rfl zw_718 ?_
    refine z_imul (pc := 47) C dX5_back_47 ?_
    refine z_iload_n (pc := 48) 1 rfl rfl C dX5_back_48 ?_
    refine z_iadd (pc := 49) C dX5_back_49 ?_
    refine z_iald (pc := 50) 0 C dX5_back_50 rfl (by unfold zAr; decide) ?_
    refine z_iast (pc := 51) 0 C dX5_back_51 rfl (by unfold zAr; decide) [(5, qD, (zsI sD 1 (upd (zI sD 1) x1.toNatClampNeg (zI sD 3 (((46 : Int32) * (zF sD 3)) + x1).toNatClampNeg))))] rfl ?_
    refine z_letc (fun z9 => [(5, qD, z9)]) (fun sD_5 => ?_)
    refine z_iinc (pc := 52) (x1 + 1) 1 rfl rfl [(0, (.ref (qD 0))), (1, (.int (x1 + 1)))] [1, 0] (by decide) rfl C dX5_back_52 ?_
    refine z_goto (pc := 55) 26 C dX5_back_55 (by decide) ?_
    exact hk_26 _ _
def fX5_back (F : Nat) (sD : zOS) : Option (Int32 × zOS) := (if (zF sD 3) = 0 then (Option.bind (fX5_refuses (-3 : Int32) sD) (fun r_1 : Int32 × zOS => (some (r_1.1, r_1.2)))) else (zlet (zsF sD 3 ((zF sD 3) - (1 : Int32))) (fun sD_3 : zOS => (zit (P := Int32 × zOS) (R := Int32 × zOS) (fun kc9 p9 => bX5_back_26 F kc9 p9.1 p9.2) F ((0 : Int32), sD_3)))))
set_option maxRecDepth 20000 in
theorem wX5_back {X : zCx} {res : Int32 × zOS} {F : Nat} {qD : Nat → Nat} {sD : zOS} (C : zC X RX5 cX5_back 2 1 21) (hR : zR X (some .int) (some (.int res.1)) [(5, qD, res.2)])  : zJ X 2 res (fX5_back F sD) 0 [(0, (.ref (qD 0)))] [] [(5, qD, sD)] := by
  unfold fX5_back
  refine z_aload_n (pc := 0) 0 rfl rfl C dX5_back_0 ?_
  refine z_getI (pc := 1) 0 3 C dX5_back_1 rfl (by decide) (by decide) rfl zw_718 ?_
  refine z_if_ne (pc := 4) 14 C dX5_back_4 (by decide) ?_ ?_
  · refine z_aload_n (pc := 7) 0 rfl rfl C dX5_back_7 ?_
    refine z_bipush (pc := 8) (-3 : Int32) (by decide) C dX5_back_8 ?_
    refine z_callV (pc := 10) (rf' := 0) (rl' := 0) (fX5_refuses (-3 : Int32) sD) [(.int (-3 : Int32))] [] [(5, qD, sD)] (fun r_1 => (some (.int r_1.1))) (fun r_1 => [(5, qD, r_1.2)]) [] (fun r_1 => [(5, qD, r_1.2)]) C dX5_back_10 zy_X5_refuses zw_798 (fun _ hr9 => mX5_refuses  hr9) (by decide) rfl rfl (by decide) rfl (Nat.le_of_ble_eq_true rfl) (List.Perm.refl _) (fun _ => List.Perm.refl _) rfl (fun r_1 hr_2 => ?_)
    show zJ X 2 res _ 13 [(0, (.ref (qD 0)))] [(.int r_1.1)] [(5, qD, r_1.2)]
    exact z_ireturn (pc := 13) C hR dX5_back_13 (fun h => by subst h; exact ⟨rfl, rfl⟩)
  · refine z_aload_n (pc := 14) 0 rfl rfl C dX5_back_14 ?_
    refine z_dup (pc := 15) rfl C dX5_back_15 ?_
    refine z_getI (pc := 16) 0 3 C dX5_back_16 rfl (by decide) (by decide) rfl zw_718 ?_
    refine z_iconst (pc := 19) (1 : Int32) (by decide) C dX5_back_19 ?_
    refine z_isub (pc := 20) C dX5_back_20 ?_
    refine z_putI (pc := 21) 0 3 C dX5_back_21 rfl (by decide) (by decide) rfl zw_718 rfl rfl rfl [(5, qD, (zsF sD 3 ((zF sD 3) - (1 : Int32))))] rfl ?_
    refine z_letc (fun z9 => [(5, qD, z9)]) (fun sD_3 => ?_)
    refine z_iconst (pc := 24) (0 : Int32) (by decide) C dX5_back_24 ?_
    refine z_istore_n (pc := 25) [(0, (.ref (qD 0))), (1, (.int (0 : Int32)))] [1, 0] (by decide) rfl rfl C dX5_back_25 ?_
    show zJ X 2 res _ 26 [(0, (.ref (qD 0))), (1, (.int (0 : Int32)))] [] [(5, qD, sD_3)]
    exact zit_J (P := Int32 × zOS) (B := (fun kc9 p9 => bX5_back_26 F kc9 p9.1 p9.2)) (fun p9 => [(0, (.ref (qD 0))), (1, (.int p9.1))]) (fun p9 => [(5, qD, p9.2)]) (fun kc9 hk9 p9 => vX5_back_26 C hR   (fun a0 a1 => hk9 (a0, a1)) p9.1 p9.2) F _
theorem mX5_back {F : Nat} {qD : Nat → Nat} {sD : zOS} {res : Int32 × zOS}  (hf : fX5_back F sD = some res) : zM yX5_back cX5_back 2 (some .int) 1 21 [(.ref (qD 0))] [(5, qD, sD)] (some (.int res.1)) [(5, qD, res.2)] := zM_of (by decide +kernel) (Nat.le_of_ble_eq_true rfl) (fun X C hR => wX5_back (F := F) C hR  hf)
theorem dX5_isDrawn_0 : decode cX5_isDrawn 0 = .ok (.aload_n 0, 1) := by decide +kernel
theorem dX5_isDrawn_1 : decode cX5_isDrawn 1 = .ok (.getfield 7, 3) := by decide +kernel
theorem dX5_isDrawn_4 : decode cX5_isDrawn 4 = .ok (.iconst 2, 1) := by decide +kernel
theorem dX5_isDrawn_5 : decode cX5_isDrawn 5 = .ok (.iload_n 1, 1) := by decide +kernel
theorem dX5_isDrawn_6 : decode cX5_isDrawn 6 = .ok (.imul, 1) := by decide +kernel
theorem dX5_isDrawn_7 : decode cX5_isDrawn 7 = .ok (.iload_n 2, 1) := by decide +kernel
theorem dX5_isDrawn_8 : decode cX5_isDrawn 8 = .ok (.bipush 32, 2) := by decide +kernel
theorem dX5_isDrawn_10 : decode cX5_isDrawn 10 = .ok (.idiv, 1) := by decide +kernel
theorem dX5_isDrawn_11 : decode cX5_isDrawn 11 = .ok (.iadd, 1) := by decide +kernel
theorem dX5_isDrawn_12 : decode cX5_isDrawn 12 = .ok (.iaload, 1) := by decide +kernel
theorem dX5_isDrawn_13 : decode cX5_isDrawn 13 = .ok (.iload_n 2, 1) := by decide +kernel
theorem dX5_isDrawn_14 : decode cX5_isDrawn 14 = .ok (.bipush 32, 2) := by decide +kernel
theorem dX5_isDrawn_16 : decode cX5_isDrawn 16 = .ok (.irem, 1) := by decide +kernel
theorem dX5_isDrawn_17 : decode cX5_isDrawn 17 = .ok (.ishr, 1) := by decide +kernel
theorem dX5_isDrawn_18 : decode cX5_isDrawn 18 = .ok (.iconst 1, 1) := by decide +kernel
theorem dX5_isDrawn_19 : decode cX5_isDrawn 19 = .ok (.iand, 1) := by decide +kernel
theorem dX5_isDrawn_20 : decode cX5_isDrawn 20 = .ok (.iconst 1, 1) := by decide +kernel
theorem dX5_isDrawn_21 : decode cX5_isDrawn 21 = .ok (.if_icmp .ne 7, 3) := by decide +kernel
theorem dX5_isDrawn_24 : decode cX5_isDrawn 24 = .ok (.iconst 1, 1) := by decide +kernel
theorem dX5_isDrawn_25 : decode cX5_isDrawn 25 = .ok (.goto 4, 3) := by decide +kernel
theorem dX5_isDrawn_28 : decode cX5_isDrawn 28 = .ok (.iconst 0, 1) := by decide +kernel
theorem dX5_isDrawn_29 : decode cX5_isDrawn 29 = .ok (.ireturn, 1) := by decide +kernel
def fX5_isDrawn (x1 : Int32) (x2 : Int32) (sD : zOS) : Option (Int32) := (zdvk (32 : Int32) (zchk (((2 : Int32) * x1) + (x2 / (32 : Int32))) 46 (zdvk (32 : Int32) (if (((zI sD 1 (((2 : Int32) * x1) + (x2 / (32 : Int32))).toNatClampNeg) >>> ((x2 - x2 / (32 : Int32) * (32 : Int32)) &&& 31)) &&& (1 : Int32)) = (1 : Int32) then (zbk (1 : Int32) (some ((1 : Int32)))) else (zbk (0 : Int32) (some ((0 : Int32))))))))
set_option maxRecDepth 20000 in
theorem wX5_isDrawn {X : zCx} {res : Int32}  {qD : Nat → Nat} {x1 : Int32} {x2 : Int32} {sD : zOS} (C : zC X RX5 cX5_isDrawn 3 0 0) (hR : zR X (some .boolean) (some (.int res)) [(5, qD, sD)])  : zJ X 3 res (fX5_isDrawn x1 x2 sD) 0 [(0, (.ref (qD 0))), (1, (.int x1)), (2, (.int x2))] [] [(5, qD, sD)] := by
  unfold fX5_isDrawn
  refine z_aload_n (pc := 0) 0 rfl rfl C dX5_isDrawn_0 ?_
  refine z_getR (pc := 1) 0 0 1 C dX5_isDrawn_1 rfl (by decide) (by decide) rfl zw_715 ?_
  refine z_iconst (pc := 4) (2 : Int32) (by decide) C dX5_isDrawn_4 ?_
  refine z_iload_n (pc := 5) 1 rfl rfl C dX5_isDrawn_5 ?_
  refine z_imul (pc := 6) C dX5_isDrawn_6 ?_
  refine z_iload_n (pc := 7) 2 rfl rfl C dX5_isDrawn_7 ?_
  refine z_bipush (pc := 8) (32 : Int32) (by decide) C dX5_isDrawn_8 ?_
  refine z_idiv (pc := 10) C dX5_isDrawn_10 ?_
  refine z_iadd (pc := 11) C dX5_isDrawn_11 ?_
  refine z_iald (pc := 12) 0 C dX5_isDrawn_12 rfl (by unfold zAr; decide) ?_
  refine z_iload_n (pc := 13) 2 rfl rfl C dX5_isDrawn_13 ?_
  refine z_bipush (pc := 14) (32 : Int32) (by decide) C dX5_isDrawn_14 ?_
  refine z_irem (pc := 16) C dX5_isDrawn_16 ?_
  refine z_ishr (pc := 17) C dX5_isDrawn_17 ?_
  refine z_iconst (pc := 18) (1 : Int32) (by decide) C dX5_isDrawn_18 ?_
  refine z_iand (pc := 19) C dX5_isDrawn_19 ?_
  refine z_iconst (pc := 20) (1 : Int32) (by decide) C dX5_isDrawn_20 ?_
  refine z_icmp_ne (pc := 21) 28 C dX5_isDrawn_21 (by decide) ?_ ?_
  · refine z_iconst (pc := 24) (1 : Int32) (by decide) C dX5_isDrawn_24 ?_
    refine z_goto (pc := 25) 29 C dX5_isDrawn_25 (by decide) ?_
    exact z_zreturn (pc := 29) C hR dX5_isDrawn_29 (fun h => by subst h; exact ⟨rfl, rfl⟩)
  · refine z_iconst (pc := 28) (0 : Int32) (by decide) C dX5_isDrawn_28 ?_
    exact z_zreturn (pc := 29) C hR dX5_isDrawn_29 (fun h => by subst h; exact ⟨rfl, rfl⟩)
theorem mX5_isDrawn  {qD : Nat → Nat} {x1 : Int32} {x2 : Int32} {sD : zOS} {res : Int32}  (hf : fX5_isDrawn x1 x2 sD = some res) : zM yX5_isDrawn cX5_isDrawn 3 (some .boolean) 0 0 [(.ref (qD 0)), (.int x1), (.int x2)] [(5, qD, sD)] (some (.int res)) [(5, qD, sD)] := zM_of (by decide +kernel) (Nat.le_of_ble_eq_true rfl) (fun X C hR => wX5_isDrawn C hR  hf)
theorem dX5_flip_0 : decode cX5_flip 0 = .ok (.aload_n 0, 1) := by decide +kernel
theorem dX5_flip_1 : decode cX5_flip 1 = .ok (.getfield 7, 3) := by decide +kernel
theorem dX5_flip_4 : decode cX5_flip 4 = .ok (.iconst 2, 1) := by decide +kernel
theorem dX5_flip_5 : decode cX5_flip 5 = .ok (.iload_n 1, 1) := by decide +kernel
theorem dX5_flip_6 : decode cX5_flip 6 = .ok (.imul, 1) := by decide +kernel
theorem dX5_flip_7 : decode cX5_flip 7 = .ok (.iload_n 2, 1) := by decide +kernel
theorem dX5_flip_8 : decode cX5_flip 8 = .ok (.bipush 32, 2) := by decide +kernel
theorem dX5_flip_10 : decode cX5_flip 10 = .ok (.idiv, 1) := by decide +kernel
theorem dX5_flip_11 : decode cX5_flip 11 = .ok (.iadd, 1) := by decide +kernel
theorem dX5_flip_12 : decode cX5_flip 12 = .ok (.dup2, 1) := by decide +kernel
theorem dX5_flip_13 : decode cX5_flip 13 = .ok (.iaload, 1) := by decide +kernel
theorem dX5_flip_14 : decode cX5_flip 14 = .ok (.iconst 1, 1) := by decide +kernel
theorem dX5_flip_15 : decode cX5_flip 15 = .ok (.iload_n 2, 1) := by decide +kernel
theorem dX5_flip_16 : decode cX5_flip 16 = .ok (.bipush 32, 2) := by decide +kernel
theorem dX5_flip_18 : decode cX5_flip 18 = .ok (.irem, 1) := by decide +kernel
theorem dX5_flip_19 : decode cX5_flip 19 = .ok (.ishl, 1) := by decide +kernel
theorem dX5_flip_20 : decode cX5_flip 20 = .ok (.ixor, 1) := by decide +kernel
theorem dX5_flip_21 : decode cX5_flip 21 = .ok (.iastore, 1) := by decide +kernel
theorem dX5_flip_22 : decode cX5_flip 22 = .ok (.return_, 1) := by decide +kernel
def fX5_flip (x1 : Int32) (x2 : Int32) (sD : zOS) : Option (zOS) := (zdvk (32 : Int32) (zchk (((2 : Int32) * x1) + (x2 / (32 : Int32))) 46 (zdvk (32 : Int32) (zchk (((2 : Int32) * x1) + (x2 / (32 : Int32))) 46 (zlet (zsI sD 1 (upd (zI sD 1) (((2 : Int32) * x1) + (x2 / (32 : Int32))).toNatClampNeg ((zI sD 1 (((2 : Int32) * x1) + (x2 / (32 : Int32))).toNatClampNeg) ^^^ ((1 : Int32) <<< ((x2 - x2 / (32 : Int32) * (32 : Int32)) &&& 31))))) (fun sD_1 : zOS => (some (sD_1))))))))
set_option maxRecDepth 20000 in
theorem wX5_flip {X : zCx} {res : zOS}  {qD : Nat → Nat} {x1 : Int32} {x2 : Int32} {sD : zOS} (C : zC X RX5 cX5_flip 3 0 0) (hR : zR X none none [(5, qD, res)])  : zJ X 3 res (fX5_flip x1 x2 sD) 0 [(0, (.ref (qD 0))), (1, (.int x1)), (2, (.int x2))] [] [(5, qD, sD)] := by
  unfold fX5_flip
  refine z_aload_n (pc := 0) 0 rfl rfl C dX5_flip_0 ?_
  refine z_getR (pc := 1) 0 0 1 C dX5_flip_1 rfl (by decide) (by decide) rfl zw_715 ?_
  refine z_iconst (pc := 4) (2 : Int32) (by decide) C dX5_flip_4 ?_
  refine z_iload_n (pc := 5) 1 rfl rfl C dX5_flip_5 ?_
  refine z_imul (pc := 6) C dX5_flip_6 ?_
  refine z_iload_n (pc := 7) 2 rfl rfl C dX5_flip_7 ?_
  refine z_bipush (pc := 8) (32 : Int32) (by decide) C dX5_flip_8 ?_
  refine z_idiv (pc := 10) C dX5_flip_10 ?_
  refine z_iadd (pc := 11) C dX5_flip_11 ?_
  refine z_dup2 (pc := 12) rfl rfl C dX5_flip_12 ?_
  refine z_iald (pc := 13) 0 C dX5_flip_13 rfl (by unfold zAr; decide) ?_
  refine z_iconst (pc := 14) (1 : Int32) (by decide) C dX5_flip_14 ?_
  refine z_iload_n (pc := 15) 2 rfl rfl C dX5_flip_15 ?_
  refine z_bipush (pc := 16) (32 : Int32) (by decide) C dX5_flip_16 ?_
  refine z_irem (pc := 18) C dX5_flip_18 ?_
  refine z_ishl (pc := 19) C dX5_flip_19 ?_
  refine z_ixor (pc := 20) C dX5_flip_20 ?_
  refine z_iast (pc := 21) 0 C dX5_flip_21 rfl (by unfold zAr; decide) [(5, qD, (zsI sD 1 (upd (zI sD 1) (((2 : Int32) * x1) + (x2 / (32 : Int32))).toNatClampNeg ((zI sD 1 (((2 : Int32) * x1) + (x2 / (32 : Int32))).toNatClampNeg) ^^^ ((1 : Int32) <<< ((x2 - x2 / (32 : Int32) * (32 : Int32)) &&& 31))))))] rfl ?_
  refine z_letc (fun z9 => [(5, qD, z9)]) (fun sD_1 => ?_)
  exact z_return (pc := 22) C hR dX5_flip_22 (fun h => by subst h; exact ⟨rfl, rfl⟩)
theorem mX5_flip  {qD : Nat → Nat} {x1 : Int32} {x2 : Int32} {sD : zOS} {res : zOS}  (hf : fX5_flip x1 x2 sD = some res) : zM yX5_flip cX5_flip 3 none 0 0 [(.ref (qD 0)), (.int x1), (.int x2)] [(5, qD, sD)] none [(5, qD, res)] := zM_of (by decide +kernel) (Nat.le_of_ble_eq_true rfl) (fun X C hR => wX5_flip C hR  hf)
theorem dX5_isCell_0 : decode cX5_isCell 0 = .ok (.iload_n 0, 1) := by decide +kernel
theorem dX5_isCell_1 : decode cX5_isCell 1 = .ok (.iconst 0, 1) := by decide +kernel
theorem dX5_isCell_2 : decode cX5_isCell 2 = .ok (.bipush 7, 2) := by decide +kernel
theorem dX5_isCell_4 : decode cX5_isCell 4 = .ok (.invokestatic 67, 3) := by decide +kernel
theorem dX5_isCell_7 : decode cX5_isCell 7 = .ok (.ifCond .eq 17, 3) := by decide +kernel
theorem dX5_isCell_10 : decode cX5_isCell 10 = .ok (.iload_n 1, 1) := by decide +kernel
theorem dX5_isCell_11 : decode cX5_isCell 11 = .ok (.iconst 0, 1) := by decide +kernel
theorem dX5_isCell_12 : decode cX5_isCell 12 = .ok (.bipush 7, 2) := by decide +kernel
theorem dX5_isCell_14 : decode cX5_isCell 14 = .ok (.invokestatic 67, 3) := by decide +kernel
theorem dX5_isCell_17 : decode cX5_isCell 17 = .ok (.ifCond .eq 7, 3) := by decide +kernel
theorem dX5_isCell_20 : decode cX5_isCell 20 = .ok (.iconst 1, 1) := by decide +kernel
theorem dX5_isCell_21 : decode cX5_isCell 21 = .ok (.goto 4, 3) := by decide +kernel
theorem dX5_isCell_24 : decode cX5_isCell 24 = .ok (.iconst 0, 1) := by decide +kernel
theorem dX5_isCell_25 : decode cX5_isCell 25 = .ok (.ireturn, 1) := by decide +kernel
def fX5_isCell (x0 : Int32) (x1 : Int32) : Option (Int32) := (Option.bind (fX5_in x0 (0 : Int32) (7 : Int32)) (fun r_1 : Int32 => (if r_1 = 0 then (zbk (0 : Int32) (some ((0 : Int32)))) else (Option.bind (fX5_in x1 (0 : Int32) (7 : Int32)) (fun r_3 : Int32 => (if r_3 = 0 then (zbk (0 : Int32) (some ((0 : Int32)))) else (zbk (1 : Int32) (some ((1 : Int32))))))))))
set_option maxRecDepth 20000 in
theorem wX5_isCell {X : zCx} {res : Int32}   {x0 : Int32} {x1 : Int32} (C : zC X RX5 cX5_isCell 2 1 22) (hR : zR X (some .boolean) (some (.int res)) [])  : zJ X 2 res (fX5_isCell x0 x1) 0 [(0, (.int x0)), (1, (.int x1))] [] [] := by
  unfold fX5_isCell
  refine z_iload_n (pc := 0) 0 rfl rfl C dX5_isCell_0 ?_
  refine z_iconst (pc := 1) (0 : Int32) (by decide) C dX5_isCell_1 ?_
  refine z_bipush (pc := 2) (7 : Int32) (by decide) C dX5_isCell_2 ?_
  refine z_callS (pc := 4) (rf' := 0) (rl' := 0) (fX5_in x0 (0 : Int32) (7 : Int32)) [(.int x0), (.int (0 : Int32)), (.int (7 : Int32))] [] [] (fun r_1 => (some (.int r_1))) (fun r_1 => []) [] (fun r_1 => []) C dX5_isCell_4 zy_X5_in zw_814 (fun _ hr9 => mX5_in  hr9) (by decide) rfl (Nat.le_of_ble_eq_true rfl) (List.Perm.refl _) (fun _ => List.Perm.refl _) rfl (fun r_1 hr_2 => ?_)
  show zJ X 2 res _ 7 [(0, (.int x0)), (1, (.int x1))] [(.int r_1)] []
  refine z_if_eq (pc := 7) 24 C dX5_isCell_7 (by decide) ?_ ?_
  · refine z_iconst (pc := 24) (0 : Int32) (by decide) C dX5_isCell_24 ?_
    exact z_zreturn (pc := 25) C hR dX5_isCell_25 (fun h => by subst h; exact ⟨rfl, rfl⟩)
  · refine z_iload_n (pc := 10) 1 rfl rfl C dX5_isCell_10 ?_
    refine z_iconst (pc := 11) (0 : Int32) (by decide) C dX5_isCell_11 ?_
    refine z_bipush (pc := 12) (7 : Int32) (by decide) C dX5_isCell_12 ?_
    refine z_callS (pc := 14) (rf' := 0) (rl' := 0) (fX5_in x1 (0 : Int32) (7 : Int32)) [(.int x1), (.int (0 : Int32)), (.int (7 : Int32))] [] [] (fun r_3 => (some (.int r_3))) (fun r_3 => []) [] (fun r_3 => []) C dX5_isCell_14 zy_X5_in zw_814 (fun _ hr9 => mX5_in  hr9) (by decide) rfl (Nat.le_of_ble_eq_true rfl) (List.Perm.refl _) (fun _ => List.Perm.refl _) rfl (fun r_3 hr_4 => ?_)
    show zJ X 2 res _ 17 [(0, (.int x0)), (1, (.int x1))] [(.int r_3)] []
    refine z_if_eq (pc := 17) 24 C dX5_isCell_17 (by decide) ?_ ?_
    · refine z_iconst (pc := 24) (0 : Int32) (by decide) C dX5_isCell_24 ?_
      exact z_zreturn (pc := 25) C hR dX5_isCell_25 (fun h => by subst h; exact ⟨rfl, rfl⟩)
    · refine z_iconst (pc := 20) (1 : Int32) (by decide) C dX5_isCell_20 ?_
      refine z_goto (pc := 21) 25 C dX5_isCell_21 (by decide) ?_
      exact z_zreturn (pc := 25) C hR dX5_isCell_25 (fun h => by subst h; exact ⟨rfl, rfl⟩)
theorem mX5_isCell   {x0 : Int32} {x1 : Int32} {res : Int32}  (hf : fX5_isCell x0 x1 = some res) : zM yX5_isCell cX5_isCell 2 (some .boolean) 1 22 [(.int x0), (.int x1)] [] (some (.int res)) [] := zM_of (by decide +kernel) (Nat.le_of_ble_eq_true rfl) (fun X C hR => wX5_isCell C hR  hf)
theorem dX5_paint_0 : decode cX5_paint 0 = .ok (.iload_n 1, 1) := by decide +kernel
theorem dX5_paint_1 : decode cX5_paint 1 = .ok (.iconst 0, 1) := by decide +kernel
theorem dX5_paint_2 : decode cX5_paint 2 = .ok (.iconst 3, 1) := by decide +kernel
theorem dX5_paint_3 : decode cX5_paint 3 = .ok (.invokestatic 67, 3) := by decide +kernel
theorem dX5_paint_6 : decode cX5_paint 6 = .ok (.ifCond .eq 37, 3) := by decide +kernel
theorem dX5_paint_9 : decode cX5_paint 9 = .ok (.iload_n 2, 1) := by decide +kernel
theorem dX5_paint_10 : decode cX5_paint 10 = .ok (.iload_n 3, 1) := by decide +kernel
theorem dX5_paint_11 : decode cX5_paint 11 = .ok (.invokestatic 71, 3) := by decide +kernel
theorem dX5_paint_14 : decode cX5_paint 14 = .ok (.ifCond .eq 29, 3) := by decide +kernel
theorem dX5_paint_17 : decode cX5_paint 17 = .ok (.iload 4, 2) := by decide +kernel
theorem dX5_paint_19 : decode cX5_paint 19 = .ok (.iconst 1, 1) := by decide +kernel
theorem dX5_paint_20 : decode cX5_paint 20 = .ok (.bipush 8, 2) := by decide +kernel
theorem dX5_paint_22 : decode cX5_paint 22 = .ok (.iload_n 2, 1) := by decide +kernel
theorem dX5_paint_23 : decode cX5_paint 23 = .ok (.isub, 1) := by decide +kernel
theorem dX5_paint_24 : decode cX5_paint 24 = .ok (.invokestatic 67, 3) := by decide +kernel
theorem dX5_paint_27 : decode cX5_paint 27 = .ok (.ifCond .eq 16, 3) := by decide +kernel
theorem dX5_paint_30 : decode cX5_paint 30 = .ok (.iload 5, 2) := by decide +kernel
theorem dX5_paint_32 : decode cX5_paint 32 = .ok (.iconst 1, 1) := by decide +kernel
theorem dX5_paint_33 : decode cX5_paint 33 = .ok (.bipush 8, 2) := by decide +kernel
theorem dX5_paint_35 : decode cX5_paint 35 = .ok (.iload_n 3, 1) := by decide +kernel
theorem dX5_paint_36 : decode cX5_paint 36 = .ok (.isub, 1) := by decide +kernel
theorem dX5_paint_37 : decode cX5_paint 37 = .ok (.invokestatic 67, 3) := by decide +kernel
theorem dX5_paint_40 : decode cX5_paint 40 = .ok (.ifCond .ne 6, 3) := by decide +kernel
theorem dX5_paint_43 : decode cX5_paint 43 = .ok (.bipush (-2), 2) := by decide +kernel
theorem dX5_paint_45 : decode cX5_paint 45 = .ok (.ireturn, 1) := by decide +kernel
theorem dX5_paint_46 : decode cX5_paint 46 = .ok (.iconst 0, 1) := by decide +kernel
theorem dX5_paint_47 : decode cX5_paint 47 = .ok (.istore 7, 2) := by decide +kernel
theorem dX5_paint_49 : decode cX5_paint 49 = .ok (.iconst 0, 1) := by decide +kernel
theorem dX5_paint_50 : decode cX5_paint 50 = .ok (.istore 8, 2) := by decide +kernel
theorem dX5_paint_52 : decode cX5_paint 52 = .ok (.iload 8, 2) := by decide +kernel
theorem dX5_paint_54 : decode cX5_paint 54 = .ok (.iload 4, 2) := by decide +kernel
theorem dX5_paint_56 : decode cX5_paint 56 = .ok (.iload 5, 2) := by decide +kernel
theorem dX5_paint_58 : decode cX5_paint 58 = .ok (.imul, 1) := by decide +kernel
theorem dX5_paint_59 : decode cX5_paint 59 = .ok (.if_icmp .ge 51, 3) := by decide +kernel
theorem dX5_paint_62 : decode cX5_paint 62 = .ok (.bipush 8, 2) := by decide +kernel
theorem dX5_paint_64 : decode cX5_paint 64 = .ok (.iload_n 3, 1) := by decide +kernel
theorem dX5_paint_65 : decode cX5_paint 65 = .ok (.iload 8, 2) := by decide +kernel
theorem dX5_paint_67 : decode cX5_paint 67 = .ok (.iload 4, 2) := by decide +kernel
theorem dX5_paint_69 : decode cX5_paint 69 = .ok (.idiv, 1) := by decide +kernel
theorem dX5_paint_70 : decode cX5_paint 70 = .ok (.iadd, 1) := by decide +kernel
theorem dX5_paint_71 : decode cX5_paint 71 = .ok (.imul, 1) := by decide +kernel
theorem dX5_paint_72 : decode cX5_paint 72 = .ok (.iload_n 2, 1) := by decide +kernel
theorem dX5_paint_73 : decode cX5_paint 73 = .ok (.iadd, 1) := by decide +kernel
theorem dX5_paint_74 : decode cX5_paint 74 = .ok (.iload 8, 2) := by decide +kernel
theorem dX5_paint_76 : decode cX5_paint 76 = .ok (.iload 4, 2) := by decide +kernel
theorem dX5_paint_78 : decode cX5_paint 78 = .ok (.irem, 1) := by decide +kernel
theorem dX5_paint_79 : decode cX5_paint 79 = .ok (.iadd, 1) := by decide +kernel
theorem dX5_paint_80 : decode cX5_paint 80 = .ok (.istore 9, 2) := by decide +kernel
theorem dX5_paint_82 : decode cX5_paint 82 = .ok (.aload_n 0, 1) := by decide +kernel
theorem dX5_paint_83 : decode cX5_paint 83 = .ok (.iload_n 1, 1) := by decide +kernel
theorem dX5_paint_84 : decode cX5_paint 84 = .ok (.iload 9, 2) := by decide +kernel
theorem dX5_paint_86 : decode cX5_paint 86 = .ok (.invokevirtual 75, 3) := by decide +kernel
theorem dX5_paint_89 : decode cX5_paint 89 = .ok (.iload 6, 2) := by decide +kernel
theorem dX5_paint_91 : decode cX5_paint 91 = .ok (.if_icmp .eq 13, 3) := by decide +kernel
theorem dX5_paint_94 : decode cX5_paint 94 = .ok (.aload_n 0, 1) := by decide +kernel
theorem dX5_paint_95 : decode cX5_paint 95 = .ok (.iload_n 1, 1) := by decide +kernel
theorem dX5_paint_96 : decode cX5_paint 96 = .ok (.iload 9, 2) := by decide +kernel
theorem dX5_paint_98 : decode cX5_paint 98 = .ok (.invokevirtual 78, 3) := by decide +kernel
theorem dX5_paint_101 : decode cX5_paint 101 = .ok (.iinc 7 1, 3) := by decide +kernel
theorem dX5_paint_104 : decode cX5_paint 104 = .ok (.iinc 8 1, 3) := by decide +kernel
theorem dX5_paint_107 : decode cX5_paint 107 = .ok (.goto (-55), 3) := by decide +kernel
theorem dX5_paint_110 : decode cX5_paint 110 = .ok (.iload 7, 2) := by decide +kernel
theorem dX5_paint_112 : decode cX5_paint 112 = .ok (.ireturn, 1) := by decide +kernel
def bX5_paint_52 (F : Nat) (x1 : Int32) (x2 : Int32) (x3 : Int32) (x4 : Int32) (x5 : Int32) (x6 : Int32) (kc_52 : (Int32 × Int32 × zOS) → Option (Int32 × zOS)) (x7 : Int32) (x8 : Int32) (sD : zOS) : Option (Int32 × zOS) := (if (x4 * x5) ≤ x8 then (some (x7, sD)) else (zdvk x4 (zdvk x4 (zlet ((((8 : Int32) * (x3 + (x8 / x4))) + x2) + (x8 - x8 / x4 * x4)) (fun x9_9 : Int32 => (Option.bind (fX5_isDrawn x1 x9_9 sD) (fun r_10 : Int32 => (if r_10 = x6 then (kc_52 (x7, (x8 + 1), sD)) else (Option.bind (fX5_flip x1 x9_9 sD) (fun r_12 : zOS => (kc_52 ((x7 + 1), (x8 + 1), r_12))))))))))))
set_option maxRecDepth 20000 in
theorem vX5_paint_52 {X : zCx} {res : Int32 × zOS} {F : Nat} {qD : Nat → Nat} {x1 : Int32} {x2 : Int32} {x3 : Int32} {x4 : Int32} {x5 : Int32} {x6 : Int32} {kc_52 : (Int32 × Int32 × zOS) → Option (Int32 × zOS)} (C : zC X RX5 cX5_paint 10 2 43) (hR : zR X (some .int) (some (.int res.1)) [(5, qD, res.2)]) (hk_52 : ∀ (y7 : Int32) (y8 : Int32) (tD : zOS), zJ X 10 res (kc_52 (y7, y8, tD)) 52 [(0, (.ref (qD 0))), (1, (.int x1)), (2, (.int x2)), (3, (.int x3)), (4, (.int x4)), (5, (.int x5)), (6, (.int x6)), (7, (.int y7)), (8, (.int y8))] [] [(5, qD, tD)]) (x7 : Int32) (x8 : Int32) (sD : zOS) : zJ X 10 res (bX5_paint_52 F x1 x2 x3 x4 x5 x6 kc_52 x7 x8 sD) 52 [(0, (.ref (qD 0))), (1, (.int x1)), (2, (.int x2)), (3, (.int x3)), (4, (.int x4)), (5, (.int x5)), (6, (.int x6)), (7, (.int x7)), (8, (.int x8))] [] [(5, qD, sD)] := by
  unfold bX5_paint_52
  refine z_iload (pc := 52) 8 rfl C dX5_paint_52 ?_
  refine z_iload (pc := 54) 4 rfl C dX5_paint_54 ?_
  refine z_iload (pc := 56) 5 rfl C dX5_paint_56 ?_
  refine z_imul (pc := 58) C dX5_paint_58 ?_
  refine z_icmp_ge (pc := 59) 110 C dX5_paint_59 (by decide) ?_ ?_
  · refine z_iload (pc := 110) 7 rfl C dX5_paint_110 ?_
    exact z_ireturn (pc := 112) C hR dX5_paint_112 (fun h => by subst h; exact ⟨rfl, rfl⟩)
  · refine z_bipush (pc := 62) (8 : Int32) (by decide) C dX5_paint_62 ?_
    refine z_iload_n (pc := 64) 3 rfl rfl C dX5_paint_64 ?_
    refine z_iload (pc := 65) 8 rfl C dX5_paint_65 ?_
    refine z_iload (pc := 67) 4 rfl C dX5_paint_67 ?_
    refine z_idiv (pc := 69) C dX5_paint_69 ?_
    refine z_iadd (pc := 70) C dX5_paint_70 ?_
    refine z_imul (pc := 71) C dX5_paint_71 ?_
    refine z_iload_n (pc := 72) 2 rfl rfl C dX5_paint_72 ?_
    refine z_iadd (pc := 73) C dX5_paint_73 ?_
    refine z_iload (pc := 74) 8 rfl C dX5_paint_74 ?_
    refine z_iload (pc := 76) 4 rfl C dX5_paint_76 ?_
    refine z_irem (pc := 78) C dX5_paint_78 ?_
    refine z_iadd (pc := 79) C dX5_paint_79 ?_
    refine z_leti (fun x9_9 => ?_)
    refine z_istore (pc := 80) [(0, (.ref (qD 0))), (1, (.int x1)), (2, (.int x2)), (3, (.int x3)), (4, (.int x4)), (5, (.int x5)), (6, (.int x6)), (7, (.int x7)), (8, (.int x8)), (9, (.int x9_9))] [1, 2, 3, 4, 5, 6, 7, 8, 9, 0] (by decide) rfl C dX5_paint_80 ?_
    refine z_aload_n (pc := 82) 0 rfl rfl C dX5_paint_82 ?_
    refine z_iload_n (pc := 83) 1 rfl rfl C dX5_paint_83 ?_
    refine z_iload (pc := 84) 9 rfl C dX5_paint_84 ?_
    refine z_callV (pc := 86) (rf' := 0) (rl' := 0) (fX5_isDrawn x1 x9_9 sD) [(.int x1), (.int x9_9)] [] [(5, qD, sD)] (fun r_10 => (some (.int r_10))) (fun r_10 => [(5, qD, sD)]) [] (fun r_10 => [(5, qD, sD)]) C dX5_paint_86 zy_X5_isDrawn zw_820 (fun _ hr9 => mX5_isDrawn  hr9) (by decide) rfl rfl (by decide) rfl (Nat.le_of_ble_eq_true rfl) (List.Perm.refl _) (fun _ => List.Perm.refl _) rfl (fun r_10 hr_11 => ?_)
    show zJ X 10 res _ 89 [(0, (.ref (qD 0))), (1, (.int x1)), (2, (.int x2)), (3, (.int x3)), (4, (.int x4)), (5, (.int x5)), (6, (.int x6)), (7, (.int x7)), (8, (.int x8)), (9, (.int x9_9))] [(.int r_10)] [(5, qD, sD)]
    refine z_iload (pc := 89) 6 rfl C dX5_paint_89 ?_
    refine z_icmp_eq (pc := 91) 104 C dX5_paint_91 (by decide) ?_ ?_
    · refine z_iinc (pc := 104) (x8 + 1) 8 rfl rfl [(0, (.ref (qD 0))), (1, (.int x1)), (2, (.int x2)), (3, (.int x3)), (4, (.int x4)), (5, (.int x5)), (6, (.int x6)), (7, (.int x7)), (8, (.int (x8 + 1))), (9, (.int x9_9))] [1, 2, 3, 4, 5, 6, 7, 8, 0, 9] (by decide) rfl C dX5_paint_104 ?_
      refine z_goto (pc := 107) 52 C dX5_paint_107 (by decide) ?_
      refine z_lv [(0, (.ref (qD 0))), (1, (.int x1)), (2, (.int x2)), (3, (.int x3)), (4, (.int x4)), (5, (.int x5)), (6, (.int x6)), (7, (.int x7)), (8, (.int (x8 + 1)))] [0, 1, 2, 3, 4, 5, 6, 7, 8] rfl ?_
      exact hk_52 _ _ _
    · refine z_aload_n (pc := 94) 0 rfl rfl C dX5_paint_94 ?_
      refine z_iload_n (pc := 95) 1 rfl rfl C dX5_paint_95 ?_
      refine z_iload (pc := 96) 9 rfl C dX5_paint_96 ?_
      refine z_callV (pc := 98) (rf' := 0) (rl' := 0) (fX5_flip x1 x9_9 sD) [(.int x1), (.int x9_9)] [] [(5, qD, sD)] (fun r_12 => none) (fun r_12 => [(5, qD, r_12)]) [] (fun r_12 => [(5, qD, r_12)]) C dX5_paint_98 zy_X5_flip zw_824 (fun _ hr9 => mX5_flip  hr9) (by decide) rfl rfl (by decide) rfl (Nat.le_of_ble_eq_true rfl) (List.Perm.refl _) (fun _ => List.Perm.refl _) rfl (fun r_12 hr_13 => ?_)
      show zJ X 10 res _ 101 [(0, (.ref (qD 0))), (1, (.int x1)), (2, (.int x2)), (3, (.int x3)), (4, (.int x4)), (5, (.int x5)), (6, (.int x6)), (7, (.int x7)), (8, (.int x8)), (9, (.int x9_9))] [] [(5, qD, r_12)]
      refine z_iinc (pc := 101) (x7 + 1) 7 rfl rfl [(0, (.ref (qD 0))), (1, (.int x1)), (2, (.int x2)), (3, (.int x3)), (4, (.int x4)), (5, (.int x5)), (6, (.int x6)), (7, (.int (x7 + 1))), (8, (.int x8)), (9, (.int x9_9))] [1, 2, 3, 4, 5, 6, 7, 0, 8, 9] (by decide) rfl C dX5_paint_101 ?_
      refine z_iinc (pc := 104) (x8 + 1) 8 rfl rfl [(0, (.ref (qD 0))), (1, (.int x1)), (2, (.int x2)), (3, (.int x3)), (4, (.int x4)), (5, (.int x5)), (6, (.int x6)), (7, (.int (x7 + 1))), (8, (.int (x8 + 1))), (9, (.int x9_9))] [1, 2, 3, 4, 5, 6, 7, 8, 0, 9] (by decide) rfl C dX5_paint_104 ?_
      refine z_goto (pc := 107) 52 C dX5_paint_107 (by decide) ?_
      refine z_lv [(0, (.ref (qD 0))), (1, (.int x1)), (2, (.int x2)), (3, (.int x3)), (4, (.int x4)), (5, (.int x5)), (6, (.int x6)), (7, (.int (x7 + 1))), (8, (.int (x8 + 1)))] [0, 1, 2, 3, 4, 5, 6, 7, 8] rfl ?_
      exact hk_52 _ _ _
def fX5_paint (F : Nat) (x1 : Int32) (x2 : Int32) (x3 : Int32) (x4 : Int32) (x5 : Int32) (x6 : Int32) (sD : zOS) : Option (Int32 × zOS) := (Option.bind (fX5_in x1 (0 : Int32) (3 : Int32)) (fun r_1 : Int32 => (if r_1 = 0 then (some ((-2 : Int32), sD)) else (Option.bind (fX5_isCell x2 x3) (fun r_3 : Int32 => (if r_3 = 0 then (some ((-2 : Int32), sD)) else (Option.bind (fX5_in x4 (1 : Int32) ((8 : Int32) - x2)) (fun r_5 : Int32 => (if r_5 = 0 then (some ((-2 : Int32), sD)) else (Option.bind (fX5_in x5 (1 : Int32) ((8 : Int32) - x3)) (fun r_7 : Int32 => (if r_7 = 0 then (some ((-2 : Int32), sD)) else (zit (P := Int32 × Int32 × zOS) (R := Int32 × zOS) (fun kc9 p9 => bX5_paint_52 F x1 x2 x3 x4 x5 x6 kc9 p9.1 p9.2.1 p9.2.2) F ((0 : Int32), (0 : Int32), sD))))))))))))))
set_option maxRecDepth 20000 in
theorem wX5_paint {X : zCx} {res : Int32 × zOS} {F : Nat} {qD : Nat → Nat} {x1 : Int32} {x2 : Int32} {x3 : Int32} {x4 : Int32} {x5 : Int32} {x6 : Int32} {sD : zOS} (C : zC X RX5 cX5_paint 10 2 43) (hR : zR X (some .int) (some (.int res.1)) [(5, qD, res.2)])  : zJ X 10 res (fX5_paint F x1 x2 x3 x4 x5 x6 sD) 0 [(0, (.ref (qD 0))), (1, (.int x1)), (2, (.int x2)), (3, (.int x3)), (4, (.int x4)), (5, (.int x5)), (6, (.int x6))] [] [(5, qD, sD)] := by
  unfold fX5_paint
  refine z_iload_n (pc := 0) 1 rfl rfl C dX5_paint_0 ?_
  refine z_iconst (pc := 1) (0 : Int32) (by decide) C dX5_paint_1 ?_
  refine z_iconst (pc := 2) (3 : Int32) (by decide) C dX5_paint_2 ?_
  refine z_callS (pc := 3) (rf' := 0) (rl' := 0) (fX5_in x1 (0 : Int32) (3 : Int32)) [(.int x1), (.int (0 : Int32)), (.int (3 : Int32))] [] [] (fun r_1 => (some (.int r_1))) (fun r_1 => []) [(5, qD, sD)] (fun r_1 => [(5, qD, sD)]) C dX5_paint_3 zy_X5_in zw_814 (fun _ hr9 => mX5_in  hr9) (by decide) rfl (Nat.le_of_ble_eq_true rfl) (List.Perm.refl _) (fun _ => List.Perm.refl _) rfl (fun r_1 hr_2 => ?_)
  show zJ X 10 res _ 6 [(0, (.ref (qD 0))), (1, (.int x1)), (2, (.int x2)), (3, (.int x3)), (4, (.int x4)), (5, (.int x5)), (6, (.int x6))] [(.int r_1)] [(5, qD, sD)]
  refine z_if_eq (pc := 6) 43 C dX5_paint_6 (by decide) ?_ ?_
  · refine z_bipush (pc := 43) (-2 : Int32) (by decide) C dX5_paint_43 ?_
    exact z_ireturn (pc := 45) C hR dX5_paint_45 (fun h => by subst h; exact ⟨rfl, rfl⟩)
  · refine z_iload_n (pc := 9) 2 rfl rfl C dX5_paint_9 ?_
    refine z_iload_n (pc := 10) 3 rfl rfl C dX5_paint_10 ?_
    refine z_callS (pc := 11) (rf' := 1) (rl' := 22) (fX5_isCell x2 x3) [(.int x2), (.int x3)] [] [] (fun r_3 => (some (.int r_3))) (fun r_3 => []) [(5, qD, sD)] (fun r_3 => [(5, qD, sD)]) C dX5_paint_11 zy_X5_isCell zw_817 (fun _ hr9 => mX5_isCell  hr9) (by decide) rfl (Nat.le_of_ble_eq_true rfl) (List.Perm.refl _) (fun _ => List.Perm.refl _) rfl (fun r_3 hr_4 => ?_)
    show zJ X 10 res _ 14 [(0, (.ref (qD 0))), (1, (.int x1)), (2, (.int x2)), (3, (.int x3)), (4, (.int x4)), (5, (.int x5)), (6, (.int x6))] [(.int r_3)] [(5, qD, sD)]
    refine z_if_eq (pc := 14) 43 C dX5_paint_14 (by decide) ?_ ?_
    · refine z_bipush (pc := 43) (-2 : Int32) (by decide) C dX5_paint_43 ?_
      exact z_ireturn (pc := 45) C hR dX5_paint_45 (fun h => by subst h; exact ⟨rfl, rfl⟩)
    · refine z_iload (pc := 17) 4 rfl C dX5_paint_17 ?_
      refine z_iconst (pc := 19) (1 : Int32) (by decide) C dX5_paint_19 ?_
      refine z_bipush (pc := 20) (8 : Int32) (by decide) C dX5_paint_20 ?_
      refine z_iload_n (pc := 22) 2 rfl rfl C dX5_paint_22 ?_
      refine z_isub (pc := 23) C dX5_paint_23 ?_
      refine z_callS (pc := 24) (rf' := 0) (rl' := 0) (fX5_in x4 (1 : Int32) ((8 : Int32) - x2)) [(.int x4), (.int (1 : Int32)), (.int ((8 : Int32) - x2))] [] [] (fun r_5 => (some (.int r_5))) (fun r_5 => []) [(5, qD, sD)] (fun r_5 => [(5, qD, sD)]) C dX5_paint_24 zy_X5_in zw_814 (fun _ hr9 => mX5_in  hr9) (by decide) rfl (Nat.le_of_ble_eq_true rfl) (List.Perm.refl _) (fun _ => List.Perm.refl _) rfl (fun r_5 hr_6 => ?_)
      show zJ X 10 res _ 27 [(0, (.ref (qD 0))), (1, (.int x1)), (2, (.int x2)), (3, (.int x3)), (4, (.int x4)), (5, (.int x5)), (6, (.int x6))] [(.int r_5)] [(5, qD, sD)]
      refine z_if_eq (pc := 27) 43 C dX5_paint_27 (by decide) ?_ ?_
      · refine z_bipush (pc := 43) (-2 : Int32) (by decide) C dX5_paint_43 ?_
        exact z_ireturn (pc := 45) C hR dX5_paint_45 (fun h => by subst h; exact ⟨rfl, rfl⟩)
      · refine z_iload (pc := 30) 5 rfl C dX5_paint_30 ?_
        refine z_iconst (pc := 32) (1 : Int32) (by decide) C dX5_paint_32 ?_
        refine z_bipush (pc := 33) (8 : Int32) (by decide) C dX5_paint_33 ?_
        refine z_iload_n (pc := 35) 3 rfl rfl C dX5_paint_35 ?_
        refine z_isub (pc := 36) C dX5_paint_36 ?_
        refine z_callS (pc := 37) (rf' := 0) (rl' := 0) (fX5_in x5 (1 : Int32) ((8 : Int32) - x3)) [(.int x5), (.int (1 : Int32)), (.int ((8 : Int32) - x3))] [] [] (fun r_7 => (some (.int r_7))) (fun r_7 => []) [(5, qD, sD)] (fun r_7 => [(5, qD, sD)]) C dX5_paint_37 zy_X5_in zw_814 (fun _ hr9 => mX5_in  hr9) (by decide) rfl (Nat.le_of_ble_eq_true rfl) (List.Perm.refl _) (fun _ => List.Perm.refl _) rfl (fun r_7 hr_8 => ?_)
        show zJ X 10 res _ 40 [(0, (.ref (qD 0))), (1, (.int x1)), (2, (.int x2)), (3, (.int x3)), (4, (.int x4)), (5, (.int x5)), (6, (.int x6))] [(.int r_7)] [(5, qD, sD)]
        refine z_if_ne (pc := 40) 46 C dX5_paint_40 (by decide) ?_ ?_
        · refine z_bipush (pc := 43) (-2 : Int32) (by decide) C dX5_paint_43 ?_
          exact z_ireturn (pc := 45) C hR dX5_paint_45 (fun h => by subst h; exact ⟨rfl, rfl⟩)
        · refine z_iconst (pc := 46) (0 : Int32) (by decide) C dX5_paint_46 ?_
          refine z_istore (pc := 47) [(0, (.ref (qD 0))), (1, (.int x1)), (2, (.int x2)), (3, (.int x3)), (4, (.int x4)), (5, (.int x5)), (6, (.int x6)), (7, (.int (0 : Int32)))] [1, 2, 3, 4, 5, 6, 7, 0] (by decide) rfl C dX5_paint_47 ?_
          refine z_iconst (pc := 49) (0 : Int32) (by decide) C dX5_paint_49 ?_
          refine z_istore (pc := 50) [(0, (.ref (qD 0))), (1, (.int x1)), (2, (.int x2)), (3, (.int x3)), (4, (.int x4)), (5, (.int x5)), (6, (.int x6)), (7, (.int (0 : Int32))), (8, (.int (0 : Int32)))] [1, 2, 3, 4, 5, 6, 7, 8, 0] (by decide) rfl C dX5_paint_50 ?_
          show zJ X 10 res _ 52 [(0, (.ref (qD 0))), (1, (.int x1)), (2, (.int x2)), (3, (.int x3)), (4, (.int x4)), (5, (.int x5)), (6, (.int x6)), (7, (.int (0 : Int32))), (8, (.int (0 : Int32)))] [] [(5, qD, sD)]
          exact zit_J (P := Int32 × Int32 × zOS) (B := (fun kc9 p9 => bX5_paint_52 F x1 x2 x3 x4 x5 x6 kc9 p9.1 p9.2.1 p9.2.2)) (fun p9 => [(0, (.ref (qD 0))), (1, (.int x1)), (2, (.int x2)), (3, (.int x3)), (4, (.int x4)), (5, (.int x5)), (6, (.int x6)), (7, (.int p9.1)), (8, (.int p9.2.1))]) (fun p9 => [(5, qD, p9.2.2)]) (fun kc9 hk9 p9 => vX5_paint_52 C hR   (fun a0 a1 a2 => hk9 (a0, a1, a2)) p9.1 p9.2.1 p9.2.2) F _
theorem mX5_paint {F : Nat} {qD : Nat → Nat} {x1 : Int32} {x2 : Int32} {x3 : Int32} {x4 : Int32} {x5 : Int32} {x6 : Int32} {sD : zOS} {res : Int32 × zOS}  (hf : fX5_paint F x1 x2 x3 x4 x5 x6 sD = some res) : zM yX5_paint cX5_paint 10 (some .int) 2 43 [(.ref (qD 0)), (.int x1), (.int x2), (.int x3), (.int x4), (.int x5), (.int x6)] [(5, qD, sD)] (some (.int res.1)) [(5, qD, res.2)] := zM_of (by decide +kernel) (Nat.le_of_ble_eq_true rfl) (fun X C hR => wX5_paint (F := F) C hR  hf)
theorem dX5_doMoves_0 : decode cX5_doMoves 0 = .ok (.iload_n 1, 1) := by decide +kernel
theorem dX5_doMoves_1 : decode cX5_doMoves 1 = .ok (.iconst 0, 1) := by decide +kernel
theorem dX5_doMoves_2 : decode cX5_doMoves 2 = .ok (.iconst 3, 1) := by decide +kernel
theorem dX5_doMoves_3 : decode cX5_doMoves 3 = .ok (.invokestatic 67, 3) := by decide +kernel
theorem dX5_doMoves_6 : decode cX5_doMoves 6 = .ok (.ifCond .eq 25, 3) := by decide +kernel
theorem dX5_doMoves_9 : decode cX5_doMoves 9 = .ok (.iload_n 2, 1) := by decide +kernel
theorem dX5_doMoves_10 : decode cX5_doMoves 10 = .ok (.bipush (-7), 2) := by decide +kernel
theorem dX5_doMoves_12 : decode cX5_doMoves 12 = .ok (.bipush 7, 2) := by decide +kernel
theorem dX5_doMoves_14 : decode cX5_doMoves 14 = .ok (.invokestatic 67, 3) := by decide +kernel
theorem dX5_doMoves_17 : decode cX5_doMoves 17 = .ok (.ifCond .eq 14, 3) := by decide +kernel
theorem dX5_doMoves_20 : decode cX5_doMoves 20 = .ok (.iload_n 3, 1) := by decide +kernel
theorem dX5_doMoves_21 : decode cX5_doMoves 21 = .ok (.bipush (-7), 2) := by decide +kernel
theorem dX5_doMoves_23 : decode cX5_doMoves 23 = .ok (.bipush 7, 2) := by decide +kernel
theorem dX5_doMoves_25 : decode cX5_doMoves 25 = .ok (.invokestatic 67, 3) := by decide +kernel
theorem dX5_doMoves_28 : decode cX5_doMoves 28 = .ok (.ifCond .ne 6, 3) := by decide +kernel
theorem dX5_doMoves_31 : decode cX5_doMoves 31 = .ok (.bipush (-2), 2) := by decide +kernel
theorem dX5_doMoves_33 : decode cX5_doMoves 33 = .ok (.ireturn, 1) := by decide +kernel
theorem dX5_doMoves_34 : decode cX5_doMoves 34 = .ok (.iconst 0, 1) := by decide +kernel
theorem dX5_doMoves_35 : decode cX5_doMoves 35 = .ok (.istore 4, 2) := by decide +kernel
theorem dX5_doMoves_37 : decode cX5_doMoves 37 = .ok (.iconst 0, 1) := by decide +kernel
theorem dX5_doMoves_38 : decode cX5_doMoves 38 = .ok (.istore 5, 2) := by decide +kernel
theorem dX5_doMoves_40 : decode cX5_doMoves 40 = .ok (.iconst 0, 1) := by decide +kernel
theorem dX5_doMoves_41 : decode cX5_doMoves 41 = .ok (.istore 6, 2) := by decide +kernel
theorem dX5_doMoves_43 : decode cX5_doMoves 43 = .ok (.iconst 0, 1) := by decide +kernel
theorem dX5_doMoves_44 : decode cX5_doMoves 44 = .ok (.istore 7, 2) := by decide +kernel
theorem dX5_doMoves_46 : decode cX5_doMoves 46 = .ok (.iload 7, 2) := by decide +kernel
theorem dX5_doMoves_48 : decode cX5_doMoves 48 = .ok (.bipush 64, 2) := by decide +kernel
theorem dX5_doMoves_50 : decode cX5_doMoves 50 = .ok (.if_icmp .ge 103, 3) := by decide +kernel
theorem dX5_doMoves_53 : decode cX5_doMoves 53 = .ok (.iload 7, 2) := by decide +kernel
theorem dX5_doMoves_55 : decode cX5_doMoves 55 = .ok (.bipush 8, 2) := by decide +kernel
theorem dX5_doMoves_57 : decode cX5_doMoves 57 = .ok (.irem, 1) := by decide +kernel
theorem dX5_doMoves_58 : decode cX5_doMoves 58 = .ok (.iload_n 2, 1) := by decide +kernel
theorem dX5_doMoves_59 : decode cX5_doMoves 59 = .ok (.iadd, 1) := by decide +kernel
theorem dX5_doMoves_60 : decode cX5_doMoves 60 = .ok (.istore 8, 2) := by decide +kernel
theorem dX5_doMoves_62 : decode cX5_doMoves 62 = .ok (.iload 7, 2) := by decide +kernel
theorem dX5_doMoves_64 : decode cX5_doMoves 64 = .ok (.bipush 8, 2) := by decide +kernel
theorem dX5_doMoves_66 : decode cX5_doMoves 66 = .ok (.idiv, 1) := by decide +kernel
theorem dX5_doMoves_67 : decode cX5_doMoves 67 = .ok (.iload_n 3, 1) := by decide +kernel
theorem dX5_doMoves_68 : decode cX5_doMoves 68 = .ok (.iadd, 1) := by decide +kernel
theorem dX5_doMoves_69 : decode cX5_doMoves 69 = .ok (.istore 9, 2) := by decide +kernel
theorem dX5_doMoves_71 : decode cX5_doMoves 71 = .ok (.aload_n 0, 1) := by decide +kernel
theorem dX5_doMoves_72 : decode cX5_doMoves 72 = .ok (.iload_n 1, 1) := by decide +kernel
theorem dX5_doMoves_73 : decode cX5_doMoves 73 = .ok (.iload 7, 2) := by decide +kernel
theorem dX5_doMoves_75 : decode cX5_doMoves 75 = .ok (.invokevirtual 75, 3) := by decide +kernel
theorem dX5_doMoves_78 : decode cX5_doMoves 78 = .ok (.ifCond .eq 69, 3) := by decide +kernel
theorem dX5_doMoves_81 : decode cX5_doMoves 81 = .ok (.iload 8, 2) := by decide +kernel
theorem dX5_doMoves_83 : decode cX5_doMoves 83 = .ok (.iload 9, 2) := by decide +kernel
theorem dX5_doMoves_85 : decode cX5_doMoves 85 = .ok (.invokestatic 71, 3) := by decide +kernel
theorem dX5_doMoves_88 : decode cX5_doMoves 88 = .ok (.ifCond .eq 59, 3) := by decide +kernel
theorem dX5_doMoves_91 : decode cX5_doMoves 91 = .ok (.bipush 8, 2) := by decide +kernel
theorem dX5_doMoves_93 : decode cX5_doMoves 93 = .ok (.iload 9, 2) := by decide +kernel
theorem dX5_doMoves_95 : decode cX5_doMoves 95 = .ok (.imul, 1) := by decide +kernel
theorem dX5_doMoves_96 : decode cX5_doMoves 96 = .ok (.iload 8, 2) := by decide +kernel
theorem dX5_doMoves_98 : decode cX5_doMoves 98 = .ok (.iadd, 1) := by decide +kernel
theorem dX5_doMoves_99 : decode cX5_doMoves 99 = .ok (.istore 10, 2) := by decide +kernel
theorem dX5_doMoves_101 : decode cX5_doMoves 101 = .ok (.iload 4, 2) := by decide +kernel
theorem dX5_doMoves_103 : decode cX5_doMoves 103 = .ok (.iload 10, 2) := by decide +kernel
theorem dX5_doMoves_105 : decode cX5_doMoves 105 = .ok (.bipush 32, 2) := by decide +kernel
theorem dX5_doMoves_107 : decode cX5_doMoves 107 = .ok (.if_icmp .ge 10, 3) := by decide +kernel
theorem dX5_doMoves_110 : decode cX5_doMoves 110 = .ok (.iconst 1, 1) := by decide +kernel
theorem dX5_doMoves_111 : decode cX5_doMoves 111 = .ok (.iload 10, 2) := by decide +kernel
theorem dX5_doMoves_113 : decode cX5_doMoves 113 = .ok (.ishl, 1) := by decide +kernel
theorem dX5_doMoves_114 : decode cX5_doMoves 114 = .ok (.goto 4, 3) := by decide +kernel
theorem dX5_doMoves_117 : decode cX5_doMoves 117 = .ok (.iconst 0, 1) := by decide +kernel
theorem dX5_doMoves_118 : decode cX5_doMoves 118 = .ok (.ior, 1) := by decide +kernel
theorem dX5_doMoves_119 : decode cX5_doMoves 119 = .ok (.istore 4, 2) := by decide +kernel
theorem dX5_doMoves_121 : decode cX5_doMoves 121 = .ok (.iload 5, 2) := by decide +kernel
theorem dX5_doMoves_123 : decode cX5_doMoves 123 = .ok (.iload 10, 2) := by decide +kernel
theorem dX5_doMoves_125 : decode cX5_doMoves 125 = .ok (.bipush 32, 2) := by decide +kernel
theorem dX5_doMoves_127 : decode cX5_doMoves 127 = .ok (.if_icmp .ge 7, 3) := by decide +kernel
theorem dX5_doMoves_130 : decode cX5_doMoves 130 = .ok (.iconst 0, 1) := by decide +kernel
theorem dX5_doMoves_131 : decode cX5_doMoves 131 = .ok (.goto 10, 3) := by decide +kernel
theorem dX5_doMoves_134 : decode cX5_doMoves 134 = .ok (.iconst 1, 1) := by decide +kernel
theorem dX5_doMoves_135 : decode cX5_doMoves 135 = .ok (.iload 10, 2) := by decide +kernel
theorem dX5_doMoves_137 : decode cX5_doMoves 137 = .ok (.bipush 32, 2) := by decide +kernel
theorem dX5_doMoves_139 : decode cX5_doMoves 139 = .ok (.isub, 1) := by decide +kernel
theorem dX5_doMoves_140 : decode cX5_doMoves 140 = .ok (.ishl, 1) := by decide +kernel
theorem dX5_doMoves_141 : decode cX5_doMoves 141 = .ok (.ior, 1) := by decide +kernel
theorem dX5_doMoves_142 : decode cX5_doMoves 142 = .ok (.istore 5, 2) := by decide +kernel
theorem dX5_doMoves_144 : decode cX5_doMoves 144 = .ok (.iinc 6 1, 3) := by decide +kernel
theorem dX5_doMoves_147 : decode cX5_doMoves 147 = .ok (.iinc 7 1, 3) := by decide +kernel
theorem dX5_doMoves_150 : decode cX5_doMoves 150 = .ok (.goto (-104), 3) := by decide +kernel
theorem dX5_doMoves_153 : decode cX5_doMoves 153 = .ok (.aload_n 0, 1) := by decide +kernel
theorem dX5_doMoves_154 : decode cX5_doMoves 154 = .ok (.getfield 7, 3) := by decide +kernel
theorem dX5_doMoves_157 : decode cX5_doMoves 157 = .ok (.iconst 2, 1) := by decide +kernel
theorem dX5_doMoves_158 : decode cX5_doMoves 158 = .ok (.iload_n 1, 1) := by decide +kernel
theorem dX5_doMoves_159 : decode cX5_doMoves 159 = .ok (.imul, 1) := by decide +kernel
theorem dX5_doMoves_160 : decode cX5_doMoves 160 = .ok (.iload 4, 2) := by decide +kernel
theorem dX5_doMoves_162 : decode cX5_doMoves 162 = .ok (.iastore, 1) := by decide +kernel
theorem dX5_doMoves_163 : decode cX5_doMoves 163 = .ok (.aload_n 0, 1) := by decide +kernel
theorem dX5_doMoves_164 : decode cX5_doMoves 164 = .ok (.getfield 7, 3) := by decide +kernel
theorem dX5_doMoves_167 : decode cX5_doMoves 167 = .ok (.iconst 2, 1) := by decide +kernel
theorem dX5_doMoves_168 : decode cX5_doMoves 168 = .ok (.iload_n 1, 1) := by decide +kernel
theorem dX5_doMoves_169 : decode cX5_doMoves 169 = .ok (.imul, 1) := by decide +kernel
theorem dX5_doMoves_170 : decode cX5_doMoves 170 = .ok (.iconst 1, 1) := by decide +kernel
theorem dX5_doMoves_171 : decode cX5_doMoves 171 = .ok (.iadd, 1) := by decide +kernel
theorem dX5_doMoves_172 : decode cX5_doMoves 172 = .ok (.iload 5, 2) := by decide +kernel
theorem dX5_doMoves_174 : decode cX5_doMoves 174 = .ok (.iastore, 1) := by decide +kernel
theorem dX5_doMoves_175 : decode cX5_doMoves 175 = .ok (.iload 6, 2) := by decide +kernel
theorem dX5_doMoves_177 : decode cX5_doMoves 177 = .ok (.ireturn, 1) := by decide +kernel
def jX5_doMoves_118 (F : Nat) (kc_46 : (Int32 × Int32 × Int32 × Int32) → Option (Int32 × zOS)) (x5 : Int32) (x6 : Int32) (x7 : Int32) (x10 : Int32) (v0 : Int32) (v1 : Int32) : Option (Int32 × zOS) := (zlet (v1 ||| v0) (fun x4_16 : Int32 => (if (32 : Int32) ≤ x10 then (zlet (x5 ||| ((1 : Int32) <<< ((x10 - (32 : Int32)) &&& 31))) (fun x5_17 : Int32 => (kc_46 (x4_16, x5_17, (x6 + 1), (x7 + 1))))) else (zlet (x5 ||| (0 : Int32)) (fun x5_18 : Int32 => (kc_46 (x4_16, x5_18, (x6 + 1), (x7 + 1))))))))
set_option maxRecDepth 20000 in
theorem wX5_doMoves_118 {X : zCx} {res : Int32 × zOS} {F : Nat} {qD : Nat → Nat} {sD : zOS} {x1 : Int32} {x2 : Int32} {x3 : Int32} {kc_46 : (Int32 × Int32 × Int32 × Int32) → Option (Int32 × zOS)} (C : zC X RX5 cX5_doMoves 11 2 43) (hR : zR X (some .int) (some (.int res.1)) [(5, qD, res.2)]) (hk_46 : ∀ (y4 : Int32) (y5 : Int32) (y6 : Int32) (y7 : Int32), zJ X 11 res (kc_46 (y4, y5, y6, y7)) 46 [(0, (.ref (qD 0))), (1, (.int x1)), (2, (.int x2)), (3, (.int x3)), (4, (.int y4)), (5, (.int y5)), (6, (.int y6)), (7, (.int y7))] [] [(5, qD, sD)]) (x5 : Int32) (x6 : Int32) (x7 : Int32) (x10 : Int32) (v0 : Int32) (v1 : Int32) : zJ X 11 res (jX5_doMoves_118 F kc_46 x5 x6 x7 x10 v0 v1) 118 [(0, (.ref (qD 0))), (1, (.int x1)), (2, (.int x2)), (3, (.int x3)), (5, (.int x5)), (6, (.int x6)), (7, (.int x7)), (10, (.int x10))] [(.int v0), (.int v1)] [(5, qD, sD)] := by
  unfold jX5_doMoves_118
  refine z_ior (pc := 118) C dX5_doMoves_118 ?_
  refine z_leti (fun x4_16 => ?_)
  refine z_istore (pc := 119) [(0, (.ref (qD 0))), (1, (.int x1)), (2, (.int x2)), (3, (.int x3)), (4, (.int x4_16)), (5, (.int x5)), (6, (.int x6)), (7, (.int x7)), (10, (.int x10))] [1, 2, 3, 4, 0, 5, 6, 7, 8] (by decide) rfl C dX5_doMoves_119 ?_
  refine z_iload (pc := 121) 5 rfl C dX5_doMoves_121 ?_
  refine z_iload (pc := 123) 8 rfl C dX5_doMoves_123 ?_
  refine z_bipush (pc := 125) (32 : Int32) (by decide) C dX5_doMoves_125 ?_
  refine z_icmp_ge (pc := 127) 134 C dX5_doMoves_127 (by decide) ?_ ?_
  · refine z_iconst (pc := 134) (1 : Int32) (by decide) C dX5_doMoves_134 ?_
    refine z_iload (pc := 135) 8 rfl C dX5_doMoves_135 ?_
    refine z_bipush (pc := 137) (32 : Int32) (by decide) C dX5_doMoves_137 ?_
    refine z_isub (pc := 139) C dX5_doMoves_139 ?_
    refine z_ishl (pc := 140) C dX5_doMoves_140 ?_
    refine z_ior (pc := 141) C dX5_doMoves_141 ?_
    refine z_leti (fun x5_17 => ?_)
    refine z_istore (pc := 142) [(0, (.ref (qD 0))), (1, (.int x1)), (2, (.int x2)), (3, (.int x3)), (4, (.int x4_16)), (5, (.int x5_17)), (6, (.int x6)), (7, (.int x7)), (10, (.int x10))] [1, 2, 3, 4, 5, 0, 6, 7, 8] (by decide) rfl C dX5_doMoves_142 ?_
    refine z_iinc (pc := 144) (x6 + 1) 6 rfl rfl [(0, (.ref (qD 0))), (1, (.int x1)), (2, (.int x2)), (3, (.int x3)), (4, (.int x4_16)), (5, (.int x5_17)), (6, (.int (x6 + 1))), (7, (.int x7)), (10, (.int x10))] [1, 2, 3, 4, 5, 6, 0, 7, 8] (by decide) rfl C dX5_doMoves_144 ?_
    refine z_iinc (pc := 147) (x7 + 1) 7 rfl rfl [(0, (.ref (qD 0))), (1, (.int x1)), (2, (.int x2)), (3, (.int x3)), (4, (.int x4_16)), (5, (.int x5_17)), (6, (.int (x6 + 1))), (7, (.int (x7 + 1))), (10, (.int x10))] [1, 2, 3, 4, 5, 6, 7, 0, 8] (by decide) rfl C dX5_doMoves_147 ?_
    refine z_goto (pc := 150) 46 C dX5_doMoves_150 (by decide) ?_
    refine z_lv [(0, (.ref (qD 0))), (1, (.int x1)), (2, (.int x2)), (3, (.int x3)), (4, (.int x4_16)), (5, (.int x5_17)), (6, (.int (x6 + 1))), (7, (.int (x7 + 1)))] [0, 1, 2, 3, 4, 5, 6, 7] rfl ?_
    exact hk_46 _ _ _ _
  · refine z_iconst (pc := 130) (0 : Int32) (by decide) C dX5_doMoves_130 ?_
    refine z_goto (pc := 131) 141 C dX5_doMoves_131 (by decide) ?_
    refine z_ior (pc := 141) C dX5_doMoves_141 ?_
    refine z_leti (fun x5_18 => ?_)
    refine z_istore (pc := 142) [(0, (.ref (qD 0))), (1, (.int x1)), (2, (.int x2)), (3, (.int x3)), (4, (.int x4_16)), (5, (.int x5_18)), (6, (.int x6)), (7, (.int x7)), (10, (.int x10))] [1, 2, 3, 4, 5, 0, 6, 7, 8] (by decide) rfl C dX5_doMoves_142 ?_
    refine z_iinc (pc := 144) (x6 + 1) 6 rfl rfl [(0, (.ref (qD 0))), (1, (.int x1)), (2, (.int x2)), (3, (.int x3)), (4, (.int x4_16)), (5, (.int x5_18)), (6, (.int (x6 + 1))), (7, (.int x7)), (10, (.int x10))] [1, 2, 3, 4, 5, 6, 0, 7, 8] (by decide) rfl C dX5_doMoves_144 ?_
    refine z_iinc (pc := 147) (x7 + 1) 7 rfl rfl [(0, (.ref (qD 0))), (1, (.int x1)), (2, (.int x2)), (3, (.int x3)), (4, (.int x4_16)), (5, (.int x5_18)), (6, (.int (x6 + 1))), (7, (.int (x7 + 1))), (10, (.int x10))] [1, 2, 3, 4, 5, 6, 7, 0, 8] (by decide) rfl C dX5_doMoves_147 ?_
    refine z_goto (pc := 150) 46 C dX5_doMoves_150 (by decide) ?_
    refine z_lv [(0, (.ref (qD 0))), (1, (.int x1)), (2, (.int x2)), (3, (.int x3)), (4, (.int x4_16)), (5, (.int x5_18)), (6, (.int (x6 + 1))), (7, (.int (x7 + 1)))] [0, 1, 2, 3, 4, 5, 6, 7] rfl ?_
    exact hk_46 _ _ _ _
def bX5_doMoves_46 (F : Nat) (x1 : Int32) (x2 : Int32) (x3 : Int32) (sD : zOS) (kc_46 : (Int32 × Int32 × Int32 × Int32) → Option (Int32 × zOS)) (x4 : Int32) (x5 : Int32) (x6 : Int32) (x7 : Int32) : Option (Int32 × zOS) := (if (64 : Int32) ≤ x7 then (zchk ((2 : Int32) * x1) 46 (zlet (zsI sD 1 (upd (zI sD 1) ((2 : Int32) * x1).toNatClampNeg x4)) (fun sD_7 : zOS => (zchk (((2 : Int32) * x1) + (1 : Int32)) 46 (zlet (zsI sD_7 1 (upd (zI sD_7 1) (((2 : Int32) * x1) + (1 : Int32)).toNatClampNeg x5)) (fun sD_8 : zOS => (some (x6, sD_8)))))))) else (zdvk (8 : Int32) (zlet ((x7 - x7 / (8 : Int32) * (8 : Int32)) + x2) (fun x8_9 : Int32 => (zdvk (8 : Int32) (zlet ((x7 / (8 : Int32)) + x3) (fun x9_10 : Int32 => (Option.bind (fX5_isDrawn x1 x7 sD) (fun r_11 : Int32 => (if r_11 = 0 then (kc_46 (x4, x5, x6, (x7 + 1))) else (Option.bind (fX5_isCell x8_9 x9_10) (fun r_13 : Int32 => (if r_13 = 0 then (kc_46 (x4, x5, x6, (x7 + 1))) else (zlet (((8 : Int32) * x9_10) + x8_9) (fun x10_15 : Int32 => (if (32 : Int32) ≤ x10_15 then (jX5_doMoves_118 F kc_46 x5 x6 x7 x10_15 (0 : Int32) x4) else (jX5_doMoves_118 F kc_46 x5 x6 x7 x10_15 ((1 : Int32) <<< (x10_15 &&& 31)) x4)))))))))))))))))
set_option maxRecDepth 20000 in
theorem vX5_doMoves_46 {X : zCx} {res : Int32 × zOS} {F : Nat} {qD : Nat → Nat} {sD : zOS} {x1 : Int32} {x2 : Int32} {x3 : Int32} {kc_46 : (Int32 × Int32 × Int32 × Int32) → Option (Int32 × zOS)} (C : zC X RX5 cX5_doMoves 11 2 43) (hR : zR X (some .int) (some (.int res.1)) [(5, qD, res.2)]) (hk_46 : ∀ (y4 : Int32) (y5 : Int32) (y6 : Int32) (y7 : Int32), zJ X 11 res (kc_46 (y4, y5, y6, y7)) 46 [(0, (.ref (qD 0))), (1, (.int x1)), (2, (.int x2)), (3, (.int x3)), (4, (.int y4)), (5, (.int y5)), (6, (.int y6)), (7, (.int y7))] [] [(5, qD, sD)]) (x4 : Int32) (x5 : Int32) (x6 : Int32) (x7 : Int32) : zJ X 11 res (bX5_doMoves_46 F x1 x2 x3 sD kc_46 x4 x5 x6 x7) 46 [(0, (.ref (qD 0))), (1, (.int x1)), (2, (.int x2)), (3, (.int x3)), (4, (.int x4)), (5, (.int x5)), (6, (.int x6)), (7, (.int x7))] [] [(5, qD, sD)] := by
  unfold bX5_doMoves_46
  refine z_iload (pc := 46) 7 rfl C dX5_doMoves_46 ?_
  refine z_bipush (pc := 48) (64 : Int32) (by decide) C dX5_doMoves_48 ?_
  refine z_icmp_ge (pc := 50) 153 C dX5_doMoves_50 (by decide) ?_ ?_
  · refine z_aload_n (pc := 153) 0 rfl rfl C dX5_doMoves_153 ?_
    refine z_getR (pc := 154) 0 0 1 C dX5_doMoves_154 rfl (by decide) (by decide) rfl zw_715 ?_
    refine z_iconst (pc := 157) (2 : Int32) (by decide) C dX5_doMoves_157 ?_
    refine z_iload_n (pc := 158) 1 rfl rfl C dX5_doMoves_158 ?_
    refine z_imul (pc := 159) C dX5_doMoves_159 ?_
    refine z_iload (pc := 160) 4 rfl C dX5_doMoves_160 ?_
    refine z_iast (pc := 162) 0 C dX5_doMoves_162 rfl (by unfold zAr; decide) [(5, qD, (zsI sD 1 (upd (zI sD 1) ((2 : Int32) * x1).toNatClampNeg x4)))] rfl ?_
    refine z_letc (fun z9 => [(5, qD, z9)]) (fun sD_7 => ?_)
    refine z_aload_n (pc := 163) 0 rfl rfl C dX5_doMoves_163 ?_
    refine z_getR (pc := 164) 0 0 1 C dX5_doMoves_164 rfl (by decide) (by decide) rfl zw_715 ?_
    refine z_iconst (pc := 167) (2 : Int32) (by decide) C dX5_doMoves_167 ?_
    refine z_iload_n (pc := 168) 1 rfl rfl C dX5_doMoves_168 ?_
    refine z_imul (pc := 169) C dX5_doMoves_169 ?_
    refine z_iconst (pc := 170) (1 : Int32) (by decide) C dX5_doMoves_170 ?_
    refine z_iadd (pc := 171) C dX5_doMoves_171 ?_
    refine z_iload (pc := 172) 5 rfl C dX5_doMoves_172 ?_
    refine z_iast (pc := 174) 0 C dX5_doMoves_174 rfl (by unfold zAr; decide) [(5, qD, (zsI sD_7 1 (upd (zI sD_7 1) (((2 : Int32) * x1) + (1 : Int32)).toNatClampNeg x5)))] rfl ?_
    refine z_letc (fun z9 => [(5, qD, z9)]) (fun sD_8 => ?_)
    refine z_iload (pc := 175) 6 rfl C dX5_doMoves_175 ?_
    exact z_ireturn (pc := 177) C hR dX5_doMoves_177 (fun h => by subst h; exact ⟨rfl, rfl⟩)
  · refine z_iload (pc := 53) 7 rfl C dX5_doMoves_53 ?_
    refine z_bipush (pc := 55) (8 : Int32) (by decide) C dX5_doMoves_55 ?_
    refine z_irem (pc := 57) C dX5_doMoves_57 ?_
    refine z_iload_n (pc := 58) 2 rfl rfl C dX5_doMoves_58 ?_
    refine z_iadd (pc := 59) C dX5_doMoves_59 ?_
    refine z_leti (fun x8_9 => ?_)
    refine z_istore (pc := 60) [(0, (.ref (qD 0))), (1, (.int x1)), (2, (.int x2)), (3, (.int x3)), (4, (.int x4)), (5, (.int x5)), (6, (.int x6)), (7, (.int x7)), (8, (.int x8_9))] [1, 2, 3, 4, 5, 6, 7, 8, 0] (by decide) rfl C dX5_doMoves_60 ?_
    refine z_iload (pc := 62) 7 rfl C dX5_doMoves_62 ?_
    refine z_bipush (pc := 64) (8 : Int32) (by decide) C dX5_doMoves_64 ?_
    refine z_idiv (pc := 66) C dX5_doMoves_66 ?_
    refine z_iload_n (pc := 67) 3 rfl rfl C dX5_doMoves_67 ?_
    refine z_iadd (pc := 68) C dX5_doMoves_68 ?_
    refine z_leti (fun x9_10 => ?_)
    refine z_istore (pc := 69) [(0, (.ref (qD 0))), (1, (.int x1)), (2, (.int x2)), (3, (.int x3)), (4, (.int x4)), (5, (.int x5)), (6, (.int x6)), (7, (.int x7)), (8, (.int x8_9)), (9, (.int x9_10))] [1, 2, 3, 4, 5, 6, 7, 8, 9, 0] (by decide) rfl C dX5_doMoves_69 ?_
    refine z_aload_n (pc := 71) 0 rfl rfl C dX5_doMoves_71 ?_
    refine z_iload_n (pc := 72) 1 rfl rfl C dX5_doMoves_72 ?_
    refine z_iload (pc := 73) 7 rfl C dX5_doMoves_73 ?_
    refine z_callV (pc := 75) (rf' := 0) (rl' := 0) (fX5_isDrawn x1 x7 sD) [(.int x1), (.int x7)] [] [(5, qD, sD)] (fun r_11 => (some (.int r_11))) (fun r_11 => [(5, qD, sD)]) [] (fun r_11 => [(5, qD, sD)]) C dX5_doMoves_75 zy_X5_isDrawn zw_820 (fun _ hr9 => mX5_isDrawn  hr9) (by decide) rfl rfl (by decide) rfl (Nat.le_of_ble_eq_true rfl) (List.Perm.refl _) (fun _ => List.Perm.refl _) rfl (fun r_11 hr_12 => ?_)
    show zJ X 11 res _ 78 [(0, (.ref (qD 0))), (1, (.int x1)), (2, (.int x2)), (3, (.int x3)), (4, (.int x4)), (5, (.int x5)), (6, (.int x6)), (7, (.int x7)), (8, (.int x8_9)), (9, (.int x9_10))] [(.int r_11)] [(5, qD, sD)]
    refine z_if_eq (pc := 78) 147 C dX5_doMoves_78 (by decide) ?_ ?_
    · refine z_iinc (pc := 147) (x7 + 1) 7 rfl rfl [(0, (.ref (qD 0))), (1, (.int x1)), (2, (.int x2)), (3, (.int x3)), (4, (.int x4)), (5, (.int x5)), (6, (.int x6)), (7, (.int (x7 + 1))), (8, (.int x8_9)), (9, (.int x9_10))] [1, 2, 3, 4, 5, 6, 7, 0, 8, 9] (by decide) rfl C dX5_doMoves_147 ?_
      refine z_goto (pc := 150) 46 C dX5_doMoves_150 (by decide) ?_
      refine z_lv [(0, (.ref (qD 0))), (1, (.int x1)), (2, (.int x2)), (3, (.int x3)), (4, (.int x4)), (5, (.int x5)), (6, (.int x6)), (7, (.int (x7 + 1)))] [0, 1, 2, 3, 4, 5, 6, 7] rfl ?_
      exact hk_46 _ _ _ _
    · refine z_iload (pc := 81) 8 rfl C dX5_doMoves_81 ?_
      refine z_iload (pc := 83) 9 rfl C dX5_doMoves_83 ?_
      refine z_callS (pc := 85) (rf' := 1) (rl' := 22) (fX5_isCell x8_9 x9_10) [(.int x8_9), (.int x9_10)] [] [] (fun r_13 => (some (.int r_13))) (fun r_13 => []) [(5, qD, sD)] (fun r_13 => [(5, qD, sD)]) C dX5_doMoves_85 zy_X5_isCell zw_817 (fun _ hr9 => mX5_isCell  hr9) (by decide) rfl (Nat.le_of_ble_eq_true rfl) (List.Perm.refl _) (fun _ => List.Perm.refl _) rfl (fun r_13 hr_14 => ?_)
      show zJ X 11 res _ 88 [(0, (.ref (qD 0))), (1, (.int x1)), (2, (.int x2)), (3, (.int x3)), (4, (.int x4)), (5, (.int x5)), (6, (.int x6)), (7, (.int x7)), (8, (.int x8_9)), (9, (.int x9_10))] [(.int r_13)] [(5, qD, sD)]
      refine z_if_eq (pc := 88) 147 C dX5_doMoves_88 (by decide) ?_ ?_
      · refine z_iinc (pc := 147) (x7 + 1) 7 rfl rfl [(0, (.ref (qD 0))), (1, (.int x1)), (2, (.int x2)), (3, (.int x3)), (4, (.int x4)), (5, (.int x5)), (6, (.int x6)), (7, (.int (x7 + 1))), (8, (.int x8_9)), (9, (.int x9_10))] [1, 2, 3, 4, 5, 6, 7, 0, 8, 9] (by decide) rfl C dX5_doMoves_147 ?_
        refine z_goto (pc := 150) 46 C dX5_doMoves_150 (by decide) ?_
        refine z_lv [(0, (.ref (qD 0))), (1, (.int x1)), (2, (.int x2)), (3, (.int x3)), (4, (.int x4)), (5, (.int x5)), (6, (.int x6)), (7, (.int (x7 + 1)))] [0, 1, 2, 3, 4, 5, 6, 7] rfl ?_
        exact hk_46 _ _ _ _
      · refine z_bipush (pc := 91) (8 : Int32) (by decide) C dX5_doMoves_91 ?_
        refine z_iload (pc := 93) 9 rfl C dX5_doMoves_93 ?_
        refine z_imul (pc := 95) C dX5_doMoves_95 ?_
        refine z_iload (pc := 96) 8 rfl C dX5_doMoves_96 ?_
        refine z_iadd (pc := 98) C dX5_doMoves_98 ?_
        refine z_leti (fun x10_15 => ?_)
        refine z_istore (pc := 99) [(0, (.ref (qD 0))), (1, (.int x1)), (2, (.int x2)), (3, (.int x3)), (4, (.int x4)), (5, (.int x5)), (6, (.int x6)), (7, (.int x7)), (8, (.int x8_9)), (9, (.int x9_10)), (10, (.int x10_15))] [1, 2, 3, 4, 5, 6, 7, 8, 9, 10, 0] (by decide) rfl C dX5_doMoves_99 ?_
        refine z_iload (pc := 101) 4 rfl C dX5_doMoves_101 ?_
        refine z_iload (pc := 103) 10 rfl C dX5_doMoves_103 ?_
        refine z_bipush (pc := 105) (32 : Int32) (by decide) C dX5_doMoves_105 ?_
        refine z_icmp_ge (pc := 107) 117 C dX5_doMoves_107 (by decide) ?_ ?_
        · refine z_iconst (pc := 117) (0 : Int32) (by decide) C dX5_doMoves_117 ?_
          refine z_lv [(0, (.ref (qD 0))), (1, (.int x1)), (2, (.int x2)), (3, (.int x3)), (5, (.int x5)), (6, (.int x6)), (7, (.int x7)), (10, (.int x10_15))] [0, 1, 2, 3, 5, 6, 7, 10] rfl ?_
          exact wX5_doMoves_118 C hR  hk_46 _ _ _ _ _ _
        · refine z_iconst (pc := 110) (1 : Int32) (by decide) C dX5_doMoves_110 ?_
          refine z_iload (pc := 111) 10 rfl C dX5_doMoves_111 ?_
          refine z_ishl (pc := 113) C dX5_doMoves_113 ?_
          refine z_goto (pc := 114) 118 C dX5_doMoves_114 (by decide) ?_
          refine z_lv [(0, (.ref (qD 0))), (1, (.int x1)), (2, (.int x2)), (3, (.int x3)), (5, (.int x5)), (6, (.int x6)), (7, (.int x7)), (10, (.int x10_15))] [0, 1, 2, 3, 5, 6, 7, 10] rfl ?_
          exact wX5_doMoves_118 C hR  hk_46 _ _ _ _ _ _
def fX5_doMoves (F : Nat) (x1 : Int32) (x2 : Int32) (x3 : Int32) (sD : zOS) : Option (Int32 × zOS) := (Option.bind (fX5_in x1 (0 : Int32) (3 : Int32)) (fun r_1 : Int32 => (if r_1 = 0 then (some ((-2 : Int32), sD)) else (Option.bind (fX5_in x2 (-7 : Int32) (7 : Int32)) (fun r_3 : Int32 => (if r_3 = 0 then (some ((-2 : Int32), sD)) else (Option.bind (fX5_in x3 (-7 : Int32) (7 : Int32)) (fun r_5 : Int32 => (if r_5 = 0 then (some ((-2 : Int32), sD)) else (zit (P := Int32 × Int32 × Int32 × Int32) (R := Int32 × zOS) (fun kc9 p9 => bX5_doMoves_46 F x1 x2 x3 sD kc9 p9.1 p9.2.1 p9.2.2.1 p9.2.2.2) F ((0 : Int32), (0 : Int32), (0 : Int32), (0 : Int32))))))))))))
set_option maxRecDepth 20000 in
theorem wX5_doMoves {X : zCx} {res : Int32 × zOS} {F : Nat} {qD : Nat → Nat} {x1 : Int32} {x2 : Int32} {x3 : Int32} {sD : zOS} (C : zC X RX5 cX5_doMoves 11 2 43) (hR : zR X (some .int) (some (.int res.1)) [(5, qD, res.2)])  : zJ X 11 res (fX5_doMoves F x1 x2 x3 sD) 0 [(0, (.ref (qD 0))), (1, (.int x1)), (2, (.int x2)), (3, (.int x3))] [] [(5, qD, sD)] := by
  unfold fX5_doMoves
  refine z_iload_n (pc := 0) 1 rfl rfl C dX5_doMoves_0 ?_
  refine z_iconst (pc := 1) (0 : Int32) (by decide) C dX5_doMoves_1 ?_
  refine z_iconst (pc := 2) (3 : Int32) (by decide) C dX5_doMoves_2 ?_
  refine z_callS (pc := 3) (rf' := 0) (rl' := 0) (fX5_in x1 (0 : Int32) (3 : Int32)) [(.int x1), (.int (0 : Int32)), (.int (3 : Int32))] [] [] (fun r_1 => (some (.int r_1))) (fun r_1 => []) [(5, qD, sD)] (fun r_1 => [(5, qD, sD)]) C dX5_doMoves_3 zy_X5_in zw_814 (fun _ hr9 => mX5_in  hr9) (by decide) rfl (Nat.le_of_ble_eq_true rfl) (List.Perm.refl _) (fun _ => List.Perm.refl _) rfl (fun r_1 hr_2 => ?_)
  show zJ X 11 res _ 6 [(0, (.ref (qD 0))), (1, (.int x1)), (2, (.int x2)), (3, (.int x3))] [(.int r_1)] [(5, qD, sD)]
  refine z_if_eq (pc := 6) 31 C dX5_doMoves_6 (by decide) ?_ ?_
  · refine z_bipush (pc := 31) (-2 : Int32) (by decide) C dX5_doMoves_31 ?_
    exact z_ireturn (pc := 33) C hR dX5_doMoves_33 (fun h => by subst h; exact ⟨rfl, rfl⟩)
  · refine z_iload_n (pc := 9) 2 rfl rfl C dX5_doMoves_9 ?_
    refine z_bipush (pc := 10) (-7 : Int32) (by decide) C dX5_doMoves_10 ?_
    refine z_bipush (pc := 12) (7 : Int32) (by decide) C dX5_doMoves_12 ?_
    refine z_callS (pc := 14) (rf' := 0) (rl' := 0) (fX5_in x2 (-7 : Int32) (7 : Int32)) [(.int x2), (.int (-7 : Int32)), (.int (7 : Int32))] [] [] (fun r_3 => (some (.int r_3))) (fun r_3 => []) [(5, qD, sD)] (fun r_3 => [(5, qD, sD)]) C dX5_doMoves_14 zy_X5_in zw_814 (fun _ hr9 => mX5_in  hr9) (by decide) rfl (Nat.le_of_ble_eq_true rfl) (List.Perm.refl _) (fun _ => List.Perm.refl _) rfl (fun r_3 hr_4 => ?_)
    show zJ X 11 res _ 17 [(0, (.ref (qD 0))), (1, (.int x1)), (2, (.int x2)), (3, (.int x3))] [(.int r_3)] [(5, qD, sD)]
    refine z_if_eq (pc := 17) 31 C dX5_doMoves_17 (by decide) ?_ ?_
    · refine z_bipush (pc := 31) (-2 : Int32) (by decide) C dX5_doMoves_31 ?_
      exact z_ireturn (pc := 33) C hR dX5_doMoves_33 (fun h => by subst h; exact ⟨rfl, rfl⟩)
    · refine z_iload_n (pc := 20) 3 rfl rfl C dX5_doMoves_20 ?_
      refine z_bipush (pc := 21) (-7 : Int32) (by decide) C dX5_doMoves_21 ?_
      refine z_bipush (pc := 23) (7 : Int32) (by decide) C dX5_doMoves_23 ?_
      refine z_callS (pc := 25) (rf' := 0) (rl' := 0) (fX5_in x3 (-7 : Int32) (7 : Int32)) [(.int x3), (.int (-7 : Int32)), (.int (7 : Int32))] [] [] (fun r_5 => (some (.int r_5))) (fun r_5 => []) [(5, qD, sD)] (fun r_5 => [(5, qD, sD)]) C dX5_doMoves_25 zy_X5_in zw_814 (fun _ hr9 => mX5_in  hr9) (by decide) rfl (Nat.le_of_ble_eq_true rfl) (List.Perm.refl _) (fun _ => List.Perm.refl _) rfl (fun r_5 hr_6 => ?_)
      show zJ X 11 res _ 28 [(0, (.ref (qD 0))), (1, (.int x1)), (2, (.int x2)), (3, (.int x3))] [(.int r_5)] [(5, qD, sD)]
      refine z_if_ne (pc := 28) 34 C dX5_doMoves_28 (by decide) ?_ ?_
      · refine z_bipush (pc := 31) (-2 : Int32) (by decide) C dX5_doMoves_31 ?_
        exact z_ireturn (pc := 33) C hR dX5_doMoves_33 (fun h => by subst h; exact ⟨rfl, rfl⟩)
      · refine z_iconst (pc := 34) (0 : Int32) (by decide) C dX5_doMoves_34 ?_
        refine z_istore (pc := 35) [(0, (.ref (qD 0))), (1, (.int x1)), (2, (.int x2)), (3, (.int x3)), (4, (.int (0 : Int32)))] [1, 2, 3, 4, 0] (by decide) rfl C dX5_doMoves_35 ?_
        refine z_iconst (pc := 37) (0 : Int32) (by decide) C dX5_doMoves_37 ?_
        refine z_istore (pc := 38) [(0, (.ref (qD 0))), (1, (.int x1)), (2, (.int x2)), (3, (.int x3)), (4, (.int (0 : Int32))), (5, (.int (0 : Int32)))] [1, 2, 3, 4, 5, 0] (by decide) rfl C dX5_doMoves_38 ?_
        refine z_iconst (pc := 40) (0 : Int32) (by decide) C dX5_doMoves_40 ?_
        refine z_istore (pc := 41) [(0, (.ref (qD 0))), (1, (.int x1)), (2, (.int x2)), (3, (.int x3)), (4, (.int (0 : Int32))), (5, (.int (0 : Int32))), (6, (.int (0 : Int32)))] [1, 2, 3, 4, 5, 6, 0] (by decide) rfl C dX5_doMoves_41 ?_
        refine z_iconst (pc := 43) (0 : Int32) (by decide) C dX5_doMoves_43 ?_
        refine z_istore (pc := 44) [(0, (.ref (qD 0))), (1, (.int x1)), (2, (.int x2)), (3, (.int x3)), (4, (.int (0 : Int32))), (5, (.int (0 : Int32))), (6, (.int (0 : Int32))), (7, (.int (0 : Int32)))] [1, 2, 3, 4, 5, 6, 7, 0] (by decide) rfl C dX5_doMoves_44 ?_
        show zJ X 11 res _ 46 [(0, (.ref (qD 0))), (1, (.int x1)), (2, (.int x2)), (3, (.int x3)), (4, (.int (0 : Int32))), (5, (.int (0 : Int32))), (6, (.int (0 : Int32))), (7, (.int (0 : Int32)))] [] [(5, qD, sD)]
        exact zit_J (P := Int32 × Int32 × Int32 × Int32) (B := (fun kc9 p9 => bX5_doMoves_46 F x1 x2 x3 sD kc9 p9.1 p9.2.1 p9.2.2.1 p9.2.2.2)) (fun p9 => [(0, (.ref (qD 0))), (1, (.int x1)), (2, (.int x2)), (3, (.int x3)), (4, (.int p9.1)), (5, (.int p9.2.1)), (6, (.int p9.2.2.1)), (7, (.int p9.2.2.2))]) (fun p9 => [(5, qD, sD)]) (fun kc9 hk9 p9 => vX5_doMoves_46 C hR   (fun a0 a1 a2 a3 => hk9 (a0, a1, a2, a3)) p9.1 p9.2.1 p9.2.2.1 p9.2.2.2) F _
theorem mX5_doMoves {F : Nat} {qD : Nat → Nat} {x1 : Int32} {x2 : Int32} {x3 : Int32} {sD : zOS} {res : Int32 × zOS}  (hf : fX5_doMoves F x1 x2 x3 sD = some res) : zM yX5_doMoves cX5_doMoves 11 (some .int) 2 43 [(.ref (qD 0)), (.int x1), (.int x2), (.int x3)] [(5, qD, sD)] (some (.int res.1)) [(5, qD, res.2)] := zM_of (by decide +kernel) (Nat.le_of_ble_eq_true rfl) (fun X C hR => wX5_doMoves (F := F) C hR  hf)
theorem dX5_isNet_0 : decode cX5_isNet 0 = .ok (.iload_n 0, 1) := by decide +kernel
theorem dX5_isNet_1 : decode cX5_isNet 1 = .ok (.iconst 0, 1) := by decide +kernel
theorem dX5_isNet_2 : decode cX5_isNet 2 = .ok (.bipush 9, 2) := by decide +kernel
theorem dX5_isNet_4 : decode cX5_isNet 4 = .ok (.invokestatic 67, 3) := by decide +kernel
theorem dX5_isNet_7 : decode cX5_isNet 7 = .ok (.ireturn, 1) := by decide +kernel
def fX5_isNet (x0 : Int32) : Option (Int32) := (Option.bind (fX5_in x0 (0 : Int32) (9 : Int32)) (fun r_1 : Int32 => (zbk r_1 (some (r_1)))))
set_option maxRecDepth 20000 in
theorem wX5_isNet {X : zCx} {res : Int32}   {x0 : Int32} (C : zC X RX5 cX5_isNet 1 1 22) (hR : zR X (some .boolean) (some (.int res)) [])  : zJ X 1 res (fX5_isNet x0) 0 [(0, (.int x0))] [] [] := by
  unfold fX5_isNet
  refine z_iload_n (pc := 0) 0 rfl rfl C dX5_isNet_0 ?_
  refine z_iconst (pc := 1) (0 : Int32) (by decide) C dX5_isNet_1 ?_
  refine z_bipush (pc := 2) (9 : Int32) (by decide) C dX5_isNet_2 ?_
  refine z_callS (pc := 4) (rf' := 0) (rl' := 0) (fX5_in x0 (0 : Int32) (9 : Int32)) [(.int x0), (.int (0 : Int32)), (.int (9 : Int32))] [] [] (fun r_1 => (some (.int r_1))) (fun r_1 => []) [] (fun r_1 => []) C dX5_isNet_4 zy_X5_in zw_814 (fun _ hr9 => mX5_in  hr9) (by decide) rfl (Nat.le_of_ble_eq_true rfl) (List.Perm.refl _) (fun _ => List.Perm.refl _) rfl (fun r_1 hr_2 => ?_)
  show zJ X 1 res _ 7 [(0, (.int x0))] [(.int r_1)] []
  exact z_zreturn (pc := 7) C hR dX5_isNet_7 (fun h => by subst h; exact ⟨rfl, rfl⟩)
theorem mX5_isNet   {x0 : Int32} {res : Int32}  (hf : fX5_isNet x0 = some res) : zM yX5_isNet cX5_isNet 1 (some .boolean) 1 22 [(.int x0)] [] (some (.int res)) [] := zM_of (by decide +kernel) (Nat.le_of_ble_eq_true rfl) (fun X C hR => wX5_isNet C hR  hf)
theorem dX5_add_0 : decode cX5_add 0 = .ok (.iload_n 1, 1) := by decide +kernel
theorem dX5_add_1 : decode cX5_add 1 = .ok (.iconst 1, 1) := by decide +kernel
theorem dX5_add_2 : decode cX5_add 2 = .ok (.iadd, 1) := by decide +kernel
theorem dX5_add_3 : decode cX5_add 3 = .ok (.iconst 3, 1) := by decide +kernel
theorem dX5_add_4 : decode cX5_add 4 = .ok (.aload_n 0, 1) := by decide +kernel
theorem dX5_add_5 : decode cX5_add 5 = .ok (.getfield 7, 3) := by decide +kernel
theorem dX5_add_8 : decode cX5_add 8 = .ok (.iload_n 1, 1) := by decide +kernel
theorem dX5_add_9 : decode cX5_add 9 = .ok (.iaload, 1) := by decide +kernel
theorem dX5_add_10 : decode cX5_add 10 = .ok (.imul, 1) := by decide +kernel
theorem dX5_add_11 : decode cX5_add 11 = .ok (.iadd, 1) := by decide +kernel
theorem dX5_add_12 : decode cX5_add 12 = .ok (.istore 5, 2) := by decide +kernel
theorem dX5_add_14 : decode cX5_add 14 = .ok (.aload_n 0, 1) := by decide +kernel
theorem dX5_add_15 : decode cX5_add 15 = .ok (.getfield 7, 3) := by decide +kernel
theorem dX5_add_18 : decode cX5_add 18 = .ok (.iload 5, 2) := by decide +kernel
theorem dX5_add_20 : decode cX5_add 20 = .ok (.iload_n 2, 1) := by decide +kernel
theorem dX5_add_21 : decode cX5_add 21 = .ok (.iastore, 1) := by decide +kernel
theorem dX5_add_22 : decode cX5_add 22 = .ok (.aload_n 0, 1) := by decide +kernel
theorem dX5_add_23 : decode cX5_add 23 = .ok (.getfield 7, 3) := by decide +kernel
theorem dX5_add_26 : decode cX5_add 26 = .ok (.iload 5, 2) := by decide +kernel
theorem dX5_add_28 : decode cX5_add 28 = .ok (.iconst 1, 1) := by decide +kernel
theorem dX5_add_29 : decode cX5_add 29 = .ok (.iadd, 1) := by decide +kernel
theorem dX5_add_30 : decode cX5_add 30 = .ok (.iload_n 3, 1) := by decide +kernel
theorem dX5_add_31 : decode cX5_add 31 = .ok (.iastore, 1) := by decide +kernel
theorem dX5_add_32 : decode cX5_add 32 = .ok (.aload_n 0, 1) := by decide +kernel
theorem dX5_add_33 : decode cX5_add 33 = .ok (.getfield 7, 3) := by decide +kernel
theorem dX5_add_36 : decode cX5_add 36 = .ok (.iload 5, 2) := by decide +kernel
theorem dX5_add_38 : decode cX5_add 38 = .ok (.iconst 2, 1) := by decide +kernel
theorem dX5_add_39 : decode cX5_add 39 = .ok (.iadd, 1) := by decide +kernel
theorem dX5_add_40 : decode cX5_add 40 = .ok (.iload 4, 2) := by decide +kernel
theorem dX5_add_42 : decode cX5_add 42 = .ok (.iastore, 1) := by decide +kernel
theorem dX5_add_43 : decode cX5_add 43 = .ok (.aload_n 0, 1) := by decide +kernel
theorem dX5_add_44 : decode cX5_add 44 = .ok (.getfield 7, 3) := by decide +kernel
theorem dX5_add_47 : decode cX5_add 47 = .ok (.iload_n 1, 1) := by decide +kernel
theorem dX5_add_48 : decode cX5_add 48 = .ok (.dup2, 1) := by decide +kernel
theorem dX5_add_49 : decode cX5_add 49 = .ok (.iaload, 1) := by decide +kernel
theorem dX5_add_50 : decode cX5_add 50 = .ok (.iconst 1, 1) := by decide +kernel
theorem dX5_add_51 : decode cX5_add 51 = .ok (.iadd, 1) := by decide +kernel
theorem dX5_add_52 : decode cX5_add 52 = .ok (.iastore, 1) := by decide +kernel
theorem dX5_add_53 : decode cX5_add 53 = .ok (.aload_n 0, 1) := by decide +kernel
theorem dX5_add_54 : decode cX5_add 54 = .ok (.getfield 7, 3) := by decide +kernel
theorem dX5_add_57 : decode cX5_add 57 = .ok (.iload_n 1, 1) := by decide +kernel
theorem dX5_add_58 : decode cX5_add 58 = .ok (.iaload, 1) := by decide +kernel
theorem dX5_add_59 : decode cX5_add 59 = .ok (.iconst 1, 1) := by decide +kernel
theorem dX5_add_60 : decode cX5_add 60 = .ok (.isub, 1) := by decide +kernel
theorem dX5_add_61 : decode cX5_add 61 = .ok (.ireturn, 1) := by decide +kernel
def fX5_add (x1 : Int32) (x2 : Int32) (x3 : Int32) (x4 : Int32) (sD : zOS) : Option (Int32 × zOS) := (zchk x1 46 (zlet ((x1 + (1 : Int32)) + ((3 : Int32) * (zI sD 1 x1.toNatClampNeg))) (fun x5_1 : Int32 => (zchk x5_1 46 (zlet (zsI sD 1 (upd (zI sD 1) x5_1.toNatClampNeg x2)) (fun sD_2 : zOS => (zchk (x5_1 + (1 : Int32)) 46 (zlet (zsI sD_2 1 (upd (zI sD_2 1) (x5_1 + (1 : Int32)).toNatClampNeg x3)) (fun sD_3 : zOS => (zchk (x5_1 + (2 : Int32)) 46 (zlet (zsI sD_3 1 (upd (zI sD_3 1) (x5_1 + (2 : Int32)).toNatClampNeg x4)) (fun sD_4 : zOS => (zchk x1 46 (zchk x1 46 (zlet (zsI sD_4 1 (upd (zI sD_4 1) x1.toNatClampNeg ((zI sD_4 1 x1.toNatClampNeg) + (1 : Int32)))) (fun sD_5 : zOS => (zchk x1 46 (some ((zI sD_5 1 x1.toNatClampNeg) - (1 : Int32), sD_5)))))))))))))))))))
set_option maxRecDepth 20000 in
theorem wX5_add {X : zCx} {res : Int32 × zOS}  {qD : Nat → Nat} {x1 : Int32} {x2 : Int32} {x3 : Int32} {x4 : Int32} {sD : zOS} (C : zC X RX5 cX5_add 6 0 0) (hR : zR X (some .int) (some (.int res.1)) [(5, qD, res.2)])  : zJ X 6 res (fX5_add x1 x2 x3 x4 sD) 0 [(0, (.ref (qD 0))), (1, (.int x1)), (2, (.int x2)), (3, (.int x3)), (4, (.int x4))] [] [(5, qD, sD)] := by
  unfold fX5_add
  refine z_iload_n (pc := 0) 1 rfl rfl C dX5_add_0 ?_
  refine z_iconst (pc := 1) (1 : Int32) (by decide) C dX5_add_1 ?_
  refine z_iadd (pc := 2) C dX5_add_2 ?_
  refine z_iconst (pc := 3) (3 : Int32) (by decide) C dX5_add_3 ?_
  refine z_aload_n (pc := 4) 0 rfl rfl C dX5_add_4 ?_
  refine z_getR (pc := 5) 0 0 1 C dX5_add_5 rfl (by decide) (by decide) rfl zw_715 ?_
  refine z_iload_n (pc := 8) 1 rfl rfl C dX5_add_8 ?_
  refine z_iald (pc := 9) 0 C dX5_add_9 rfl (by unfold zAr; decide) ?_
  refine z_imul (pc := 10) C dX5_add_10 ?_
  refine z_iadd (pc := 11) C dX5_add_11 ?_
  refine z_leti (fun x5_1 => ?_)
  refine z_istore (pc := 12) [(0, (.ref (qD 0))), (1, (.int x1)), (2, (.int x2)), (3, (.int x3)), (4, (.int x4)), (5, (.int x5_1))] [1, 2, 3, 4, 5, 0] (by decide) rfl C dX5_add_12 ?_
  refine z_aload_n (pc := 14) 0 rfl rfl C dX5_add_14 ?_
  refine z_getR (pc := 15) 0 0 1 C dX5_add_15 rfl (by decide) (by decide) rfl zw_715 ?_
  refine z_iload (pc := 18) 5 rfl C dX5_add_18 ?_
  refine z_iload_n (pc := 20) 2 rfl rfl C dX5_add_20 ?_
  refine z_iast (pc := 21) 0 C dX5_add_21 rfl (by unfold zAr; decide) [(5, qD, (zsI sD 1 (upd (zI sD 1) x5_1.toNatClampNeg x2)))] rfl ?_
  refine z_letc (fun z9 => [(5, qD, z9)]) (fun sD_2 => ?_)
  refine z_aload_n (pc := 22) 0 rfl rfl C dX5_add_22 ?_
  refine z_getR (pc := 23) 0 0 1 C dX5_add_23 rfl (by decide) (by decide) rfl zw_715 ?_
  refine z_iload (pc := 26) 5 rfl C dX5_add_26 ?_
  refine z_iconst (pc := 28) (1 : Int32) (by decide) C dX5_add_28 ?_
  refine z_iadd (pc := 29) C dX5_add_29 ?_
  refine z_iload_n (pc := 30) 3 rfl rfl C dX5_add_30 ?_
  refine z_iast (pc := 31) 0 C dX5_add_31 rfl (by unfold zAr; decide) [(5, qD, (zsI sD_2 1 (upd (zI sD_2 1) (x5_1 + (1 : Int32)).toNatClampNeg x3)))] rfl ?_
  refine z_letc (fun z9 => [(5, qD, z9)]) (fun sD_3 => ?_)
  refine z_aload_n (pc := 32) 0 rfl rfl C dX5_add_32 ?_
  refine z_getR (pc := 33) 0 0 1 C dX5_add_33 rfl (by decide) (by decide) rfl zw_715 ?_
  refine z_iload (pc := 36) 5 rfl C dX5_add_36 ?_
  refine z_iconst (pc := 38) (2 : Int32) (by decide) C dX5_add_38 ?_
  refine z_iadd (pc := 39) C dX5_add_39 ?_
  refine z_iload (pc := 40) 4 rfl C dX5_add_40 ?_
  refine z_iast (pc := 42) 0 C dX5_add_42 rfl (by unfold zAr; decide) [(5, qD, (zsI sD_3 1 (upd (zI sD_3 1) (x5_1 + (2 : Int32)).toNatClampNeg x4)))] rfl ?_
  refine z_letc (fun z9 => [(5, qD, z9)]) (fun sD_4 => ?_)
  refine z_aload_n (pc := 43) 0 rfl rfl C dX5_add_43 ?_
  refine z_getR (pc := 44) 0 0 1 C dX5_add_44 rfl (by decide) (by decide) rfl zw_715 ?_
  refine z_iload_n (pc := 47) 1 rfl rfl C dX5_add_47 ?_
  refine z_dup2 (pc := 48) rfl rfl C dX5_add_48 ?_
  refine z_iald (pc := 49) 0 C dX5_add_49 rfl (by unfold zAr; decide) ?_
  refine z_iconst (pc := 50) (1 : Int32) (by decide) C dX5_add_50 ?_
  refine z_iadd (pc := 51) C dX5_add_51 ?_
  refine z_iast (pc := 52) 0 C dX5_add_52 rfl (by unfold zAr; decide) [(5, qD, (zsI sD_4 1 (upd (zI sD_4 1) x1.toNatClampNeg ((zI sD_4 1 x1.toNatClampNeg) + (1 : Int32)))))] rfl ?_
  refine z_letc (fun z9 => [(5, qD, z9)]) (fun sD_5 => ?_)
  refine z_aload_n (pc := 53) 0 rfl rfl C dX5_add_53 ?_
  refine z_getR (pc := 54) 0 0 1 C dX5_add_54 rfl (by decide) (by decide) rfl zw_715 ?_
  refine z_iload_n (pc := 57) 1 rfl rfl C dX5_add_57 ?_
  refine z_iald (pc := 58) 0 C dX5_add_58 rfl (by unfold zAr; decide) ?_
  refine z_iconst (pc := 59) (1 : Int32) (by decide) C dX5_add_59 ?_
  refine z_isub (pc := 60) C dX5_add_60 ?_
  exact z_ireturn (pc := 61) C hR dX5_add_61 (fun h => by subst h; exact ⟨rfl, rfl⟩)
theorem mX5_add  {qD : Nat → Nat} {x1 : Int32} {x2 : Int32} {x3 : Int32} {x4 : Int32} {sD : zOS} {res : Int32 × zOS}  (hf : fX5_add x1 x2 x3 x4 sD = some res) : zM yX5_add cX5_add 6 (some .int) 0 0 [(.ref (qD 0)), (.int x1), (.int x2), (.int x3), (.int x4)] [(5, qD, sD)] (some (.int res.1)) [(5, qD, res.2)] := zM_of (by decide +kernel) (Nat.le_of_ble_eq_true rfl) (fun X C hR => wX5_add C hR  hf)
theorem dX5_doMeans_0 : decode cX5_doMeans 0 = .ok (.iload_n 1, 1) := by decide +kernel
theorem dX5_doMeans_1 : decode cX5_doMeans 1 = .ok (.invokestatic 82, 3) := by decide +kernel
theorem dX5_doMeans_4 : decode cX5_doMeans 4 = .ok (.ifCond .eq 17, 3) := by decide +kernel
theorem dX5_doMeans_7 : decode cX5_doMeans 7 = .ok (.iload_n 2, 1) := by decide +kernel
theorem dX5_doMeans_8 : decode cX5_doMeans 8 = .ok (.invokestatic 82, 3) := by decide +kernel
theorem dX5_doMeans_11 : decode cX5_doMeans 11 = .ok (.ifCond .eq 10, 3) := by decide +kernel
theorem dX5_doMeans_14 : decode cX5_doMeans 14 = .ok (.iload_n 3, 1) := by decide +kernel
theorem dX5_doMeans_15 : decode cX5_doMeans 15 = .ok (.invokestatic 82, 3) := by decide +kernel
theorem dX5_doMeans_18 : decode cX5_doMeans 18 = .ok (.ifCond .ne 6, 3) := by decide +kernel
theorem dX5_doMeans_21 : decode cX5_doMeans 21 = .ok (.bipush (-2), 2) := by decide +kernel
theorem dX5_doMeans_23 : decode cX5_doMeans 23 = .ok (.ireturn, 1) := by decide +kernel
theorem dX5_doMeans_24 : decode cX5_doMeans 24 = .ok (.aload_n 0, 1) := by decide +kernel
theorem dX5_doMeans_25 : decode cX5_doMeans 25 = .ok (.getfield 7, 3) := by decide +kernel
theorem dX5_doMeans_28 : decode cX5_doMeans 28 = .ok (.bipush 8, 2) := by decide +kernel
theorem dX5_doMeans_30 : decode cX5_doMeans 30 = .ok (.iaload, 1) := by decide +kernel
theorem dX5_doMeans_31 : decode cX5_doMeans 31 = .ok (.bipush 6, 2) := by decide +kernel
theorem dX5_doMeans_33 : decode cX5_doMeans 33 = .ok (.if_icmp .ne 6, 3) := by decide +kernel
theorem dX5_doMeans_36 : decode cX5_doMeans 36 = .ok (.bipush (-4), 2) := by decide +kernel
theorem dX5_doMeans_38 : decode cX5_doMeans 38 = .ok (.ireturn, 1) := by decide +kernel
theorem dX5_doMeans_39 : decode cX5_doMeans 39 = .ok (.aload_n 0, 1) := by decide +kernel
theorem dX5_doMeans_40 : decode cX5_doMeans 40 = .ok (.bipush 8, 2) := by decide +kernel
theorem dX5_doMeans_42 : decode cX5_doMeans 42 = .ok (.iload_n 1, 1) := by decide +kernel
theorem dX5_doMeans_43 : decode cX5_doMeans 43 = .ok (.iload_n 2, 1) := by decide +kernel
theorem dX5_doMeans_44 : decode cX5_doMeans 44 = .ok (.iload_n 3, 1) := by decide +kernel
theorem dX5_doMeans_45 : decode cX5_doMeans 45 = .ok (.invokevirtual 86, 3) := by decide +kernel
theorem dX5_doMeans_48 : decode cX5_doMeans 48 = .ok (.ireturn, 1) := by decide +kernel
def fX5_doMeans (x1 : Int32) (x2 : Int32) (x3 : Int32) (sD : zOS) : Option (Int32 × zOS) := (Option.bind (fX5_isNet x1) (fun r_1 : Int32 => (if r_1 = 0 then (some ((-2 : Int32), sD)) else (Option.bind (fX5_isNet x2) (fun r_3 : Int32 => (if r_3 = 0 then (some ((-2 : Int32), sD)) else (Option.bind (fX5_isNet x3) (fun r_5 : Int32 => (if r_5 = 0 then (some ((-2 : Int32), sD)) else (zchk (8 : Int32) 46 (if (zI sD 1 (8 : Int32).toNatClampNeg) = (6 : Int32) then (some ((-4 : Int32), sD)) else (Option.bind (fX5_add (8 : Int32) x1 x2 x3 sD) (fun r_7 : Int32 × zOS => (some (r_7.1, r_7.2)))))))))))))))
set_option maxRecDepth 20000 in
theorem wX5_doMeans {X : zCx} {res : Int32 × zOS}  {qD : Nat → Nat} {x1 : Int32} {x2 : Int32} {x3 : Int32} {sD : zOS} (C : zC X RX5 cX5_doMeans 4 2 42) (hR : zR X (some .int) (some (.int res.1)) [(5, qD, res.2)])  : zJ X 4 res (fX5_doMeans x1 x2 x3 sD) 0 [(0, (.ref (qD 0))), (1, (.int x1)), (2, (.int x2)), (3, (.int x3))] [] [(5, qD, sD)] := by
  unfold fX5_doMeans
  refine z_iload_n (pc := 0) 1 rfl rfl C dX5_doMeans_0 ?_
  refine z_callS (pc := 1) (rf' := 1) (rl' := 22) (fX5_isNet x1) [(.int x1)] [] [] (fun r_1 => (some (.int r_1))) (fun r_1 => []) [(5, qD, sD)] (fun r_1 => [(5, qD, sD)]) C dX5_doMeans_1 zy_X5_isNet zw_856 (fun _ hr9 => mX5_isNet  hr9) (by decide) rfl (Nat.le_of_ble_eq_true rfl) (List.Perm.refl _) (fun _ => List.Perm.refl _) rfl (fun r_1 hr_2 => ?_)
  show zJ X 4 res _ 4 [(0, (.ref (qD 0))), (1, (.int x1)), (2, (.int x2)), (3, (.int x3))] [(.int r_1)] [(5, qD, sD)]
  refine z_if_eq (pc := 4) 21 C dX5_doMeans_4 (by decide) ?_ ?_
  · refine z_bipush (pc := 21) (-2 : Int32) (by decide) C dX5_doMeans_21 ?_
    exact z_ireturn (pc := 23) C hR dX5_doMeans_23 (fun h => by subst h; exact ⟨rfl, rfl⟩)
  · refine z_iload_n (pc := 7) 2 rfl rfl C dX5_doMeans_7 ?_
    refine z_callS (pc := 8) (rf' := 1) (rl' := 22) (fX5_isNet x2) [(.int x2)] [] [] (fun r_3 => (some (.int r_3))) (fun r_3 => []) [(5, qD, sD)] (fun r_3 => [(5, qD, sD)]) C dX5_doMeans_8 zy_X5_isNet zw_856 (fun _ hr9 => mX5_isNet  hr9) (by decide) rfl (Nat.le_of_ble_eq_true rfl) (List.Perm.refl _) (fun _ => List.Perm.refl _) rfl (fun r_3 hr_4 => ?_)
    show zJ X 4 res _ 11 [(0, (.ref (qD 0))), (1, (.int x1)), (2, (.int x2)), (3, (.int x3))] [(.int r_3)] [(5, qD, sD)]
    refine z_if_eq (pc := 11) 21 C dX5_doMeans_11 (by decide) ?_ ?_
    · refine z_bipush (pc := 21) (-2 : Int32) (by decide) C dX5_doMeans_21 ?_
      exact z_ireturn (pc := 23) C hR dX5_doMeans_23 (fun h => by subst h; exact ⟨rfl, rfl⟩)
    · refine z_iload_n (pc := 14) 3 rfl rfl C dX5_doMeans_14 ?_
      refine z_callS (pc := 15) (rf' := 1) (rl' := 22) (fX5_isNet x3) [(.int x3)] [] [] (fun r_5 => (some (.int r_5))) (fun r_5 => []) [(5, qD, sD)] (fun r_5 => [(5, qD, sD)]) C dX5_doMeans_15 zy_X5_isNet zw_856 (fun _ hr9 => mX5_isNet  hr9) (by decide) rfl (Nat.le_of_ble_eq_true rfl) (List.Perm.refl _) (fun _ => List.Perm.refl _) rfl (fun r_5 hr_6 => ?_)
      show zJ X 4 res _ 18 [(0, (.ref (qD 0))), (1, (.int x1)), (2, (.int x2)), (3, (.int x3))] [(.int r_5)] [(5, qD, sD)]
      refine z_if_ne (pc := 18) 24 C dX5_doMeans_18 (by decide) ?_ ?_
      · refine z_bipush (pc := 21) (-2 : Int32) (by decide) C dX5_doMeans_21 ?_
        exact z_ireturn (pc := 23) C hR dX5_doMeans_23 (fun h => by subst h; exact ⟨rfl, rfl⟩)
      · refine z_aload_n (pc := 24) 0 rfl rfl C dX5_doMeans_24 ?_
        refine z_getR (pc := 25) 0 0 1 C dX5_doMeans_25 rfl (by decide) (by decide) rfl zw_715 ?_
        refine z_bipush (pc := 28) (8 : Int32) (by decide) C dX5_doMeans_28 ?_
        refine z_iald (pc := 30) 0 C dX5_doMeans_30 rfl (by unfold zAr; decide) ?_
        refine z_bipush (pc := 31) (6 : Int32) (by decide) C dX5_doMeans_31 ?_
        refine z_icmp_ne (pc := 33) 39 C dX5_doMeans_33 (by decide) ?_ ?_
        · refine z_bipush (pc := 36) (-4 : Int32) (by decide) C dX5_doMeans_36 ?_
          exact z_ireturn (pc := 38) C hR dX5_doMeans_38 (fun h => by subst h; exact ⟨rfl, rfl⟩)
        · refine z_aload_n (pc := 39) 0 rfl rfl C dX5_doMeans_39 ?_
          refine z_bipush (pc := 40) (8 : Int32) (by decide) C dX5_doMeans_40 ?_
          refine z_iload_n (pc := 42) 1 rfl rfl C dX5_doMeans_42 ?_
          refine z_iload_n (pc := 43) 2 rfl rfl C dX5_doMeans_43 ?_
          refine z_iload_n (pc := 44) 3 rfl rfl C dX5_doMeans_44 ?_
          refine z_callV (pc := 45) (rf' := 0) (rl' := 0) (fX5_add (8 : Int32) x1 x2 x3 sD) [(.int (8 : Int32)), (.int x1), (.int x2), (.int x3)] [] [(5, qD, sD)] (fun r_7 => (some (.int r_7.1))) (fun r_7 => [(5, qD, r_7.2)]) [] (fun r_7 => [(5, qD, r_7.2)]) C dX5_doMeans_45 zy_X5_add zw_859 (fun _ hr9 => mX5_add  hr9) (by decide) rfl rfl (by decide) rfl (Nat.le_of_ble_eq_true rfl) (List.Perm.refl _) (fun _ => List.Perm.refl _) rfl (fun r_7 hr_8 => ?_)
          show zJ X 4 res _ 48 [(0, (.ref (qD 0))), (1, (.int x1)), (2, (.int x2)), (3, (.int x3))] [(.int r_7.1)] [(5, qD, r_7.2)]
          exact z_ireturn (pc := 48) C hR dX5_doMeans_48 (fun h => by subst h; exact ⟨rfl, rfl⟩)
theorem mX5_doMeans  {qD : Nat → Nat} {x1 : Int32} {x2 : Int32} {x3 : Int32} {sD : zOS} {res : Int32 × zOS}  (hf : fX5_doMeans x1 x2 x3 sD = some res) : zM yX5_doMeans cX5_doMeans 4 (some .int) 2 42 [(.ref (qD 0)), (.int x1), (.int x2), (.int x3)] [(5, qD, sD)] (some (.int res.1)) [(5, qD, res.2)] := zM_of (by decide +kernel) (Nat.le_of_ble_eq_true rfl) (fun X C hR => wX5_doMeans C hR  hf)
theorem dX5_doPins_0 : decode cX5_doPins 0 = .ok (.iload_n 1, 1) := by decide +kernel
theorem dX5_doPins_1 : decode cX5_doPins 1 = .ok (.iload_n 2, 1) := by decide +kernel
theorem dX5_doPins_2 : decode cX5_doPins 2 = .ok (.invokestatic 71, 3) := by decide +kernel
theorem dX5_doPins_5 : decode cX5_doPins 5 = .ok (.ifCond .eq 10, 3) := by decide +kernel
theorem dX5_doPins_8 : decode cX5_doPins 8 = .ok (.iload_n 3, 1) := by decide +kernel
theorem dX5_doPins_9 : decode cX5_doPins 9 = .ok (.invokestatic 82, 3) := by decide +kernel
theorem dX5_doPins_12 : decode cX5_doPins 12 = .ok (.ifCond .ne 6, 3) := by decide +kernel
theorem dX5_doPins_15 : decode cX5_doPins 15 = .ok (.bipush (-2), 2) := by decide +kernel
theorem dX5_doPins_17 : decode cX5_doPins 17 = .ok (.ireturn, 1) := by decide +kernel
theorem dX5_doPins_18 : decode cX5_doPins 18 = .ok (.aload_n 0, 1) := by decide +kernel
theorem dX5_doPins_19 : decode cX5_doPins 19 = .ok (.getfield 7, 3) := by decide +kernel
theorem dX5_doPins_22 : decode cX5_doPins 22 = .ok (.bipush 27, 2) := by decide +kernel
theorem dX5_doPins_24 : decode cX5_doPins 24 = .ok (.iaload, 1) := by decide +kernel
theorem dX5_doPins_25 : decode cX5_doPins 25 = .ok (.bipush 6, 2) := by decide +kernel
theorem dX5_doPins_27 : decode cX5_doPins 27 = .ok (.if_icmp .ne 6, 3) := by decide +kernel
theorem dX5_doPins_30 : decode cX5_doPins 30 = .ok (.bipush (-4), 2) := by decide +kernel
theorem dX5_doPins_32 : decode cX5_doPins 32 = .ok (.ireturn, 1) := by decide +kernel
theorem dX5_doPins_33 : decode cX5_doPins 33 = .ok (.aload_n 0, 1) := by decide +kernel
theorem dX5_doPins_34 : decode cX5_doPins 34 = .ok (.bipush 27, 2) := by decide +kernel
theorem dX5_doPins_36 : decode cX5_doPins 36 = .ok (.iload_n 1, 1) := by decide +kernel
theorem dX5_doPins_37 : decode cX5_doPins 37 = .ok (.iload_n 2, 1) := by decide +kernel
theorem dX5_doPins_38 : decode cX5_doPins 38 = .ok (.iload_n 3, 1) := by decide +kernel
theorem dX5_doPins_39 : decode cX5_doPins 39 = .ok (.invokevirtual 86, 3) := by decide +kernel
theorem dX5_doPins_42 : decode cX5_doPins 42 = .ok (.ireturn, 1) := by decide +kernel
def fX5_doPins (x1 : Int32) (x2 : Int32) (x3 : Int32) (sD : zOS) : Option (Int32 × zOS) := (Option.bind (fX5_isCell x1 x2) (fun r_1 : Int32 => (if r_1 = 0 then (some ((-2 : Int32), sD)) else (Option.bind (fX5_isNet x3) (fun r_3 : Int32 => (if r_3 = 0 then (some ((-2 : Int32), sD)) else (zchk (27 : Int32) 46 (if (zI sD 1 (27 : Int32).toNatClampNeg) = (6 : Int32) then (some ((-4 : Int32), sD)) else (Option.bind (fX5_add (27 : Int32) x1 x2 x3 sD) (fun r_5 : Int32 × zOS => (some (r_5.1, r_5.2))))))))))))
set_option maxRecDepth 20000 in
theorem wX5_doPins {X : zCx} {res : Int32 × zOS}  {qD : Nat → Nat} {x1 : Int32} {x2 : Int32} {x3 : Int32} {sD : zOS} (C : zC X RX5 cX5_doPins 4 2 43) (hR : zR X (some .int) (some (.int res.1)) [(5, qD, res.2)])  : zJ X 4 res (fX5_doPins x1 x2 x3 sD) 0 [(0, (.ref (qD 0))), (1, (.int x1)), (2, (.int x2)), (3, (.int x3))] [] [(5, qD, sD)] := by
  unfold fX5_doPins
  refine z_iload_n (pc := 0) 1 rfl rfl C dX5_doPins_0 ?_
  refine z_iload_n (pc := 1) 2 rfl rfl C dX5_doPins_1 ?_
  refine z_callS (pc := 2) (rf' := 1) (rl' := 22) (fX5_isCell x1 x2) [(.int x1), (.int x2)] [] [] (fun r_1 => (some (.int r_1))) (fun r_1 => []) [(5, qD, sD)] (fun r_1 => [(5, qD, sD)]) C dX5_doPins_2 zy_X5_isCell zw_817 (fun _ hr9 => mX5_isCell  hr9) (by decide) rfl (Nat.le_of_ble_eq_true rfl) (List.Perm.refl _) (fun _ => List.Perm.refl _) rfl (fun r_1 hr_2 => ?_)
  show zJ X 4 res _ 5 [(0, (.ref (qD 0))), (1, (.int x1)), (2, (.int x2)), (3, (.int x3))] [(.int r_1)] [(5, qD, sD)]
  refine z_if_eq (pc := 5) 15 C dX5_doPins_5 (by decide) ?_ ?_
  · refine z_bipush (pc := 15) (-2 : Int32) (by decide) C dX5_doPins_15 ?_
    exact z_ireturn (pc := 17) C hR dX5_doPins_17 (fun h => by subst h; exact ⟨rfl, rfl⟩)
  · refine z_iload_n (pc := 8) 3 rfl rfl C dX5_doPins_8 ?_
    refine z_callS (pc := 9) (rf' := 1) (rl' := 22) (fX5_isNet x3) [(.int x3)] [] [] (fun r_3 => (some (.int r_3))) (fun r_3 => []) [(5, qD, sD)] (fun r_3 => [(5, qD, sD)]) C dX5_doPins_9 zy_X5_isNet zw_856 (fun _ hr9 => mX5_isNet  hr9) (by decide) rfl (Nat.le_of_ble_eq_true rfl) (List.Perm.refl _) (fun _ => List.Perm.refl _) rfl (fun r_3 hr_4 => ?_)
    show zJ X 4 res _ 12 [(0, (.ref (qD 0))), (1, (.int x1)), (2, (.int x2)), (3, (.int x3))] [(.int r_3)] [(5, qD, sD)]
    refine z_if_ne (pc := 12) 18 C dX5_doPins_12 (by decide) ?_ ?_
    · refine z_bipush (pc := 15) (-2 : Int32) (by decide) C dX5_doPins_15 ?_
      exact z_ireturn (pc := 17) C hR dX5_doPins_17 (fun h => by subst h; exact ⟨rfl, rfl⟩)
    · refine z_aload_n (pc := 18) 0 rfl rfl C dX5_doPins_18 ?_
      refine z_getR (pc := 19) 0 0 1 C dX5_doPins_19 rfl (by decide) (by decide) rfl zw_715 ?_
      refine z_bipush (pc := 22) (27 : Int32) (by decide) C dX5_doPins_22 ?_
      refine z_iald (pc := 24) 0 C dX5_doPins_24 rfl (by unfold zAr; decide) ?_
      refine z_bipush (pc := 25) (6 : Int32) (by decide) C dX5_doPins_25 ?_
      refine z_icmp_ne (pc := 27) 33 C dX5_doPins_27 (by decide) ?_ ?_
      · refine z_bipush (pc := 30) (-4 : Int32) (by decide) C dX5_doPins_30 ?_
        exact z_ireturn (pc := 32) C hR dX5_doPins_32 (fun h => by subst h; exact ⟨rfl, rfl⟩)
      · refine z_aload_n (pc := 33) 0 rfl rfl C dX5_doPins_33 ?_
        refine z_bipush (pc := 34) (27 : Int32) (by decide) C dX5_doPins_34 ?_
        refine z_iload_n (pc := 36) 1 rfl rfl C dX5_doPins_36 ?_
        refine z_iload_n (pc := 37) 2 rfl rfl C dX5_doPins_37 ?_
        refine z_iload_n (pc := 38) 3 rfl rfl C dX5_doPins_38 ?_
        refine z_callV (pc := 39) (rf' := 0) (rl' := 0) (fX5_add (27 : Int32) x1 x2 x3 sD) [(.int (27 : Int32)), (.int x1), (.int x2), (.int x3)] [] [(5, qD, sD)] (fun r_5 => (some (.int r_5.1))) (fun r_5 => [(5, qD, r_5.2)]) [] (fun r_5 => [(5, qD, r_5.2)]) C dX5_doPins_39 zy_X5_add zw_859 (fun _ hr9 => mX5_add  hr9) (by decide) rfl rfl (by decide) rfl (Nat.le_of_ble_eq_true rfl) (List.Perm.refl _) (fun _ => List.Perm.refl _) rfl (fun r_5 hr_6 => ?_)
        show zJ X 4 res _ 42 [(0, (.ref (qD 0))), (1, (.int x1)), (2, (.int x2)), (3, (.int x3))] [(.int r_5.1)] [(5, qD, r_5.2)]
        exact z_ireturn (pc := 42) C hR dX5_doPins_42 (fun h => by subst h; exact ⟨rfl, rfl⟩)
theorem mX5_doPins  {qD : Nat → Nat} {x1 : Int32} {x2 : Int32} {x3 : Int32} {sD : zOS} {res : Int32 × zOS}  (hf : fX5_doPins x1 x2 x3 sD = some res) : zM yX5_doPins cX5_doPins 4 (some .int) 2 43 [(.ref (qD 0)), (.int x1), (.int x2), (.int x3)] [(5, qD, sD)] (some (.int res.1)) [(5, qD, res.2)] := zM_of (by decide +kernel) (Nat.le_of_ble_eq_true rfl) (fun X C hR => wX5_doPins C hR  hf)
theorem dX5_doForgets_0 : decode cX5_doForgets 0 = .ok (.aload_n 0, 1) := by decide +kernel
theorem dX5_doForgets_1 : decode cX5_doForgets 1 = .ok (.getfield 7, 3) := by decide +kernel
theorem dX5_doForgets_4 : decode cX5_doForgets 4 = .ok (.bipush 8, 2) := by decide +kernel
theorem dX5_doForgets_6 : decode cX5_doForgets 6 = .ok (.iaload, 1) := by decide +kernel
theorem dX5_doForgets_7 : decode cX5_doForgets 7 = .ok (.aload_n 0, 1) := by decide +kernel
theorem dX5_doForgets_8 : decode cX5_doForgets 8 = .ok (.getfield 7, 3) := by decide +kernel
theorem dX5_doForgets_11 : decode cX5_doForgets 11 = .ok (.bipush 27, 2) := by decide +kernel
theorem dX5_doForgets_13 : decode cX5_doForgets 13 = .ok (.iaload, 1) := by decide +kernel
theorem dX5_doForgets_14 : decode cX5_doForgets 14 = .ok (.iadd, 1) := by decide +kernel
theorem dX5_doForgets_15 : decode cX5_doForgets 15 = .ok (.istore_n 1, 1) := by decide +kernel
theorem dX5_doForgets_16 : decode cX5_doForgets 16 = .ok (.aload_n 0, 1) := by decide +kernel
theorem dX5_doForgets_17 : decode cX5_doForgets 17 = .ok (.getfield 7, 3) := by decide +kernel
theorem dX5_doForgets_20 : decode cX5_doForgets 20 = .ok (.bipush 8, 2) := by decide +kernel
theorem dX5_doForgets_22 : decode cX5_doForgets 22 = .ok (.iconst 0, 1) := by decide +kernel
theorem dX5_doForgets_23 : decode cX5_doForgets 23 = .ok (.iastore, 1) := by decide +kernel
theorem dX5_doForgets_24 : decode cX5_doForgets 24 = .ok (.aload_n 0, 1) := by decide +kernel
theorem dX5_doForgets_25 : decode cX5_doForgets 25 = .ok (.getfield 7, 3) := by decide +kernel
theorem dX5_doForgets_28 : decode cX5_doForgets 28 = .ok (.bipush 27, 2) := by decide +kernel
theorem dX5_doForgets_30 : decode cX5_doForgets 30 = .ok (.iconst 0, 1) := by decide +kernel
theorem dX5_doForgets_31 : decode cX5_doForgets 31 = .ok (.iastore, 1) := by decide +kernel
theorem dX5_doForgets_32 : decode cX5_doForgets 32 = .ok (.iload_n 1, 1) := by decide +kernel
theorem dX5_doForgets_33 : decode cX5_doForgets 33 = .ok (.ireturn, 1) := by decide +kernel
def fX5_doForgets (sD : zOS) : Option (Int32 × zOS) := (zchk (8 : Int32) 46 (zchk (27 : Int32) 46 (zlet ((zI sD 1 (8 : Int32).toNatClampNeg) + (zI sD 1 (27 : Int32).toNatClampNeg)) (fun x1_1 : Int32 => (zchk (8 : Int32) 46 (zlet (zsI sD 1 (upd (zI sD 1) (8 : Int32).toNatClampNeg (0 : Int32))) (fun sD_2 : zOS => (zchk (27 : Int32) 46 (zlet (zsI sD_2 1 (upd (zI sD_2 1) (27 : Int32).toNatClampNeg (0 : Int32))) (fun sD_3 : zOS => (some (x1_1, sD_3))))))))))))
set_option maxRecDepth 20000 in
theorem wX5_doForgets {X : zCx} {res : Int32 × zOS}  {qD : Nat → Nat} {sD : zOS} (C : zC X RX5 cX5_doForgets 2 0 0) (hR : zR X (some .int) (some (.int res.1)) [(5, qD, res.2)])  : zJ X 2 res (fX5_doForgets sD) 0 [(0, (.ref (qD 0)))] [] [(5, qD, sD)] := by
  unfold fX5_doForgets
  refine z_aload_n (pc := 0) 0 rfl rfl C dX5_doForgets_0 ?_
  refine z_getR (pc := 1) 0 0 1 C dX5_doForgets_1 rfl (by decide) (by decide) rfl zw_715 ?_
  refine z_bipush (pc := 4) (8 : Int32) (by decide) C dX5_doForgets_4 ?_
  refine z_iald (pc := 6) 0 C dX5_doForgets_6 rfl (by unfold zAr; decide) ?_
  refine z_aload_n (pc := 7) 0 rfl rfl C dX5_doForgets_7 ?_
  refine z_getR (pc := 8) 0 0 1 C dX5_doForgets_8 rfl (by decide) (by decide) rfl zw_715 ?_
  refine z_bipush (pc := 11) (27 : Int32) (by decide) C dX5_doForgets_11 ?_
  refine z_iald (pc := 13) 0 C dX5_doForgets_13 rfl (by unfold zAr; decide) ?_
  refine z_iadd (pc := 14) C dX5_doForgets_14 ?_
  refine z_leti (fun x1_1 => ?_)
  refine z_istore_n (pc := 15) [(0, (.ref (qD 0))), (1, (.int x1_1))] [1, 0] (by decide) rfl rfl C dX5_doForgets_15 ?_
  refine z_aload_n (pc := 16) 0 rfl rfl C dX5_doForgets_16 ?_
  refine z_getR (pc := 17) 0 0 1 C dX5_doForgets_17 rfl (by decide) (by decide) rfl zw_715 ?_
  refine z_bipush (pc := 20) (8 : Int32) (by decide) C dX5_doForgets_20 ?_
  refine z_iconst (pc := 22) (0 : Int32) (by decide) C dX5_doForgets_22 ?_
  refine z_iast (pc := 23) 0 C dX5_doForgets_23 rfl (by unfold zAr; decide) [(5, qD, (zsI sD 1 (upd (zI sD 1) (8 : Int32).toNatClampNeg (0 : Int32))))] rfl ?_
  refine z_letc (fun z9 => [(5, qD, z9)]) (fun sD_2 => ?_)
  refine z_aload_n (pc := 24) 0 rfl rfl C dX5_doForgets_24 ?_
  refine z_getR (pc := 25) 0 0 1 C dX5_doForgets_25 rfl (by decide) (by decide) rfl zw_715 ?_
  refine z_bipush (pc := 28) (27 : Int32) (by decide) C dX5_doForgets_28 ?_
  refine z_iconst (pc := 30) (0 : Int32) (by decide) C dX5_doForgets_30 ?_
  refine z_iast (pc := 31) 0 C dX5_doForgets_31 rfl (by unfold zAr; decide) [(5, qD, (zsI sD_2 1 (upd (zI sD_2 1) (27 : Int32).toNatClampNeg (0 : Int32))))] rfl ?_
  refine z_letc (fun z9 => [(5, qD, z9)]) (fun sD_3 => ?_)
  refine z_iload_n (pc := 32) 1 rfl rfl C dX5_doForgets_32 ?_
  exact z_ireturn (pc := 33) C hR dX5_doForgets_33 (fun h => by subst h; exact ⟨rfl, rfl⟩)
theorem mX5_doForgets  {qD : Nat → Nat} {sD : zOS} {res : Int32 × zOS}  (hf : fX5_doForgets sD = some res) : zM yX5_doForgets cX5_doForgets 2 (some .int) 0 0 [(.ref (qD 0))] [(5, qD, sD)] (some (.int res.1)) [(5, qD, res.2)] := zM_of (by decide +kernel) (Nat.le_of_ble_eq_true rfl) (fun X C hR => wX5_doForgets C hR  hf)
theorem dX5_draws_0 : decode cX5_draws 0 = .ok (.aload_n 0, 1) := by decide +kernel
theorem dX5_draws_1 : decode cX5_draws 1 = .ok (.invokevirtual 90, 3) := by decide +kernel
theorem dX5_draws_4 : decode cX5_draws 4 = .ok (.aload_n 0, 1) := by decide +kernel
theorem dX5_draws_5 : decode cX5_draws 5 = .ok (.aload_n 0, 1) := by decide +kernel
theorem dX5_draws_6 : decode cX5_draws 6 = .ok (.iload_n 1, 1) := by decide +kernel
theorem dX5_draws_7 : decode cX5_draws 7 = .ok (.iload_n 2, 1) := by decide +kernel
theorem dX5_draws_8 : decode cX5_draws 8 = .ok (.iload_n 3, 1) := by decide +kernel
theorem dX5_draws_9 : decode cX5_draws 9 = .ok (.iload 4, 2) := by decide +kernel
theorem dX5_draws_11 : decode cX5_draws 11 = .ok (.iload 5, 2) := by decide +kernel
theorem dX5_draws_13 : decode cX5_draws 13 = .ok (.iconst 1, 1) := by decide +kernel
theorem dX5_draws_14 : decode cX5_draws 14 = .ok (.invokevirtual 93, 3) := by decide +kernel
theorem dX5_draws_17 : decode cX5_draws 17 = .ok (.invokevirtual 97, 3) := by decide +kernel
theorem dX5_draws_20 : decode cX5_draws 20 = .ok (.ireturn, 1) := by decide +kernel
def fX5_draws (F : Nat) (x1 : Int32) (x2 : Int32) (x3 : Int32) (x4 : Int32) (x5 : Int32) (sD : zOS) : Option (Int32 × zOS) := (Option.bind (fX5_hold F sD) (fun r_1 : zOS => (Option.bind (fX5_paint F x1 x2 x3 x4 x5 (1 : Int32) r_1) (fun r_3 : Int32 × zOS => (Option.bind (fX5_ends F r_3.1 r_3.2) (fun r_5 : Int32 × zOS => (some (r_5.1, r_5.2))))))))
set_option maxRecDepth 20000 in
theorem wX5_draws {X : zCx} {res : Int32 × zOS} {F : Nat} {qD : Nat → Nat} {x1 : Int32} {x2 : Int32} {x3 : Int32} {x4 : Int32} {x5 : Int32} {sD : zOS} (C : zC X RX5 cX5_draws 6 3 72) (hR : zR X (some .int) (some (.int res.1)) [(5, qD, res.2)])  : zJ X 6 res (fX5_draws F x1 x2 x3 x4 x5 sD) 0 [(0, (.ref (qD 0))), (1, (.int x1)), (2, (.int x2)), (3, (.int x3)), (4, (.int x4)), (5, (.int x5))] [] [(5, qD, sD)] := by
  unfold fX5_draws
  refine z_aload_n (pc := 0) 0 rfl rfl C dX5_draws_0 ?_
  refine z_callV (pc := 1) (rf' := 0) (rl' := 0) (fX5_hold F sD) [] [] [(5, qD, sD)] (fun r_1 => none) (fun r_1 => [(5, qD, r_1)]) [] (fun r_1 => [(5, qD, r_1)]) C dX5_draws_1 zy_X5_hold zw_806 (fun _ hr9 => mX5_hold  hr9) (by decide) rfl rfl (by decide) rfl (Nat.le_of_ble_eq_true rfl) (List.Perm.refl _) (fun _ => List.Perm.refl _) rfl (fun r_1 hr_2 => ?_)
  show zJ X 6 res _ 4 [(0, (.ref (qD 0))), (1, (.int x1)), (2, (.int x2)), (3, (.int x3)), (4, (.int x4)), (5, (.int x5))] [] [(5, qD, r_1)]
  refine z_aload_n (pc := 4) 0 rfl rfl C dX5_draws_4 ?_
  refine z_aload_n (pc := 5) 0 rfl rfl C dX5_draws_5 ?_
  refine z_iload_n (pc := 6) 1 rfl rfl C dX5_draws_6 ?_
  refine z_iload_n (pc := 7) 2 rfl rfl C dX5_draws_7 ?_
  refine z_iload_n (pc := 8) 3 rfl rfl C dX5_draws_8 ?_
  refine z_iload (pc := 9) 4 rfl C dX5_draws_9 ?_
  refine z_iload (pc := 11) 5 rfl C dX5_draws_11 ?_
  refine z_iconst (pc := 13) (1 : Int32) (by decide) C dX5_draws_13 ?_
  refine z_callV (pc := 14) (rf' := 2) (rl' := 43) (fX5_paint F x1 x2 x3 x4 x5 (1 : Int32) r_1) [(.int x1), (.int x2), (.int x3), (.int x4), (.int x5), (.int (1 : Int32))] [(.ref (qD 0))] [(5, qD, r_1)] (fun r_3 => (some (.int r_3.1))) (fun r_3 => [(5, qD, r_3.2)]) [] (fun r_3 => [(5, qD, r_3.2)]) C dX5_draws_14 zy_X5_paint zw_810 (fun _ hr9 => mX5_paint  hr9) (by decide) rfl rfl (by decide) rfl (Nat.le_of_ble_eq_true rfl) (List.Perm.refl _) (fun _ => List.Perm.refl _) rfl (fun r_3 hr_4 => ?_)
  show zJ X 6 res _ 17 [(0, (.ref (qD 0))), (1, (.int x1)), (2, (.int x2)), (3, (.int x3)), (4, (.int x4)), (5, (.int x5))] [(.int r_3.1), (.ref (qD 0))] [(5, qD, r_3.2)]
  refine z_callV (pc := 17) (rf' := 1) (rl' := 21) (fX5_ends F r_3.1 r_3.2) [(.int r_3.1)] [] [(5, qD, r_3.2)] (fun r_5 => (some (.int r_5.1))) (fun r_5 => [(5, qD, r_5.2)]) [] (fun r_5 => [(5, qD, r_5.2)]) C dX5_draws_17 zy_X5_ends zw_828 (fun _ hr9 => mX5_ends  hr9) (by decide) rfl rfl (by decide) rfl (Nat.le_of_ble_eq_true rfl) (List.Perm.refl _) (fun _ => List.Perm.refl _) rfl (fun r_5 hr_6 => ?_)
  show zJ X 6 res _ 20 [(0, (.ref (qD 0))), (1, (.int x1)), (2, (.int x2)), (3, (.int x3)), (4, (.int x4)), (5, (.int x5))] [(.int r_5.1)] [(5, qD, r_5.2)]
  exact z_ireturn (pc := 20) C hR dX5_draws_20 (fun h => by subst h; exact ⟨rfl, rfl⟩)
theorem mX5_draws {F : Nat} {qD : Nat → Nat} {x1 : Int32} {x2 : Int32} {x3 : Int32} {x4 : Int32} {x5 : Int32} {sD : zOS} {res : Int32 × zOS}  (hf : fX5_draws F x1 x2 x3 x4 x5 sD = some res) : zM yX5_draws cX5_draws 6 (some .int) 3 72 [(.ref (qD 0)), (.int x1), (.int x2), (.int x3), (.int x4), (.int x5)] [(5, qD, sD)] (some (.int res.1)) [(5, qD, res.2)] := zM_of (by decide +kernel) (Nat.le_of_ble_eq_true rfl) (fun X C hR => wX5_draws (F := F) C hR  hf)
theorem dX5_rubs_0 : decode cX5_rubs 0 = .ok (.aload_n 0, 1) := by decide +kernel
theorem dX5_rubs_1 : decode cX5_rubs 1 = .ok (.invokevirtual 90, 3) := by decide +kernel
theorem dX5_rubs_4 : decode cX5_rubs 4 = .ok (.aload_n 0, 1) := by decide +kernel
theorem dX5_rubs_5 : decode cX5_rubs 5 = .ok (.aload_n 0, 1) := by decide +kernel
theorem dX5_rubs_6 : decode cX5_rubs 6 = .ok (.iload_n 1, 1) := by decide +kernel
theorem dX5_rubs_7 : decode cX5_rubs 7 = .ok (.iload_n 2, 1) := by decide +kernel
theorem dX5_rubs_8 : decode cX5_rubs 8 = .ok (.iload_n 3, 1) := by decide +kernel
theorem dX5_rubs_9 : decode cX5_rubs 9 = .ok (.iload 4, 2) := by decide +kernel
theorem dX5_rubs_11 : decode cX5_rubs 11 = .ok (.iload 5, 2) := by decide +kernel
theorem dX5_rubs_13 : decode cX5_rubs 13 = .ok (.iconst 0, 1) := by decide +kernel
theorem dX5_rubs_14 : decode cX5_rubs 14 = .ok (.invokevirtual 93, 3) := by decide +kernel
theorem dX5_rubs_17 : decode cX5_rubs 17 = .ok (.invokevirtual 97, 3) := by decide +kernel
theorem dX5_rubs_20 : decode cX5_rubs 20 = .ok (.ireturn, 1) := by decide +kernel
def fX5_rubs (F : Nat) (x1 : Int32) (x2 : Int32) (x3 : Int32) (x4 : Int32) (x5 : Int32) (sD : zOS) : Option (Int32 × zOS) := (Option.bind (fX5_hold F sD) (fun r_1 : zOS => (Option.bind (fX5_paint F x1 x2 x3 x4 x5 (0 : Int32) r_1) (fun r_3 : Int32 × zOS => (Option.bind (fX5_ends F r_3.1 r_3.2) (fun r_5 : Int32 × zOS => (some (r_5.1, r_5.2))))))))
set_option maxRecDepth 20000 in
theorem wX5_rubs {X : zCx} {res : Int32 × zOS} {F : Nat} {qD : Nat → Nat} {x1 : Int32} {x2 : Int32} {x3 : Int32} {x4 : Int32} {x5 : Int32} {sD : zOS} (C : zC X RX5 cX5_rubs 6 3 72) (hR : zR X (some .int) (some (.int res.1)) [(5, qD, res.2)])  : zJ X 6 res (fX5_rubs F x1 x2 x3 x4 x5 sD) 0 [(0, (.ref (qD 0))), (1, (.int x1)), (2, (.int x2)), (3, (.int x3)), (4, (.int x4)), (5, (.int x5))] [] [(5, qD, sD)] := by
  unfold fX5_rubs
  refine z_aload_n (pc := 0) 0 rfl rfl C dX5_rubs_0 ?_
  refine z_callV (pc := 1) (rf' := 0) (rl' := 0) (fX5_hold F sD) [] [] [(5, qD, sD)] (fun r_1 => none) (fun r_1 => [(5, qD, r_1)]) [] (fun r_1 => [(5, qD, r_1)]) C dX5_rubs_1 zy_X5_hold zw_806 (fun _ hr9 => mX5_hold  hr9) (by decide) rfl rfl (by decide) rfl (Nat.le_of_ble_eq_true rfl) (List.Perm.refl _) (fun _ => List.Perm.refl _) rfl (fun r_1 hr_2 => ?_)
  show zJ X 6 res _ 4 [(0, (.ref (qD 0))), (1, (.int x1)), (2, (.int x2)), (3, (.int x3)), (4, (.int x4)), (5, (.int x5))] [] [(5, qD, r_1)]
  refine z_aload_n (pc := 4) 0 rfl rfl C dX5_rubs_4 ?_
  refine z_aload_n (pc := 5) 0 rfl rfl C dX5_rubs_5 ?_
  refine z_iload_n (pc := 6) 1 rfl rfl C dX5_rubs_6 ?_
  refine z_iload_n (pc := 7) 2 rfl rfl C dX5_rubs_7 ?_
  refine z_iload_n (pc := 8) 3 rfl rfl C dX5_rubs_8 ?_
  refine z_iload (pc := 9) 4 rfl C dX5_rubs_9 ?_
  refine z_iload (pc := 11) 5 rfl C dX5_rubs_11 ?_
  refine z_iconst (pc := 13) (0 : Int32) (by decide) C dX5_rubs_13 ?_
  refine z_callV (pc := 14) (rf' := 2) (rl' := 43) (fX5_paint F x1 x2 x3 x4 x5 (0 : Int32) r_1) [(.int x1), (.int x2), (.int x3), (.int x4), (.int x5), (.int (0 : Int32))] [(.ref (qD 0))] [(5, qD, r_1)] (fun r_3 => (some (.int r_3.1))) (fun r_3 => [(5, qD, r_3.2)]) [] (fun r_3 => [(5, qD, r_3.2)]) C dX5_rubs_14 zy_X5_paint zw_810 (fun _ hr9 => mX5_paint  hr9) (by decide) rfl rfl (by decide) rfl (Nat.le_of_ble_eq_true rfl) (List.Perm.refl _) (fun _ => List.Perm.refl _) rfl (fun r_3 hr_4 => ?_)
  show zJ X 6 res _ 17 [(0, (.ref (qD 0))), (1, (.int x1)), (2, (.int x2)), (3, (.int x3)), (4, (.int x4)), (5, (.int x5))] [(.int r_3.1), (.ref (qD 0))] [(5, qD, r_3.2)]
  refine z_callV (pc := 17) (rf' := 1) (rl' := 21) (fX5_ends F r_3.1 r_3.2) [(.int r_3.1)] [] [(5, qD, r_3.2)] (fun r_5 => (some (.int r_5.1))) (fun r_5 => [(5, qD, r_5.2)]) [] (fun r_5 => [(5, qD, r_5.2)]) C dX5_rubs_17 zy_X5_ends zw_828 (fun _ hr9 => mX5_ends  hr9) (by decide) rfl rfl (by decide) rfl (Nat.le_of_ble_eq_true rfl) (List.Perm.refl _) (fun _ => List.Perm.refl _) rfl (fun r_5 hr_6 => ?_)
  show zJ X 6 res _ 20 [(0, (.ref (qD 0))), (1, (.int x1)), (2, (.int x2)), (3, (.int x3)), (4, (.int x4)), (5, (.int x5))] [(.int r_5.1)] [(5, qD, r_5.2)]
  exact z_ireturn (pc := 20) C hR dX5_rubs_20 (fun h => by subst h; exact ⟨rfl, rfl⟩)
theorem mX5_rubs {F : Nat} {qD : Nat → Nat} {x1 : Int32} {x2 : Int32} {x3 : Int32} {x4 : Int32} {x5 : Int32} {sD : zOS} {res : Int32 × zOS}  (hf : fX5_rubs F x1 x2 x3 x4 x5 sD = some res) : zM yX5_rubs cX5_rubs 6 (some .int) 3 72 [(.ref (qD 0)), (.int x1), (.int x2), (.int x3), (.int x4), (.int x5)] [(5, qD, sD)] (some (.int res.1)) [(5, qD, res.2)] := zM_of (by decide +kernel) (Nat.le_of_ble_eq_true rfl) (fun X C hR => wX5_rubs (F := F) C hR  hf)
theorem dX5_moves_0 : decode cX5_moves 0 = .ok (.aload_n 0, 1) := by decide +kernel
theorem dX5_moves_1 : decode cX5_moves 1 = .ok (.invokevirtual 90, 3) := by decide +kernel
theorem dX5_moves_4 : decode cX5_moves 4 = .ok (.aload_n 0, 1) := by decide +kernel
theorem dX5_moves_5 : decode cX5_moves 5 = .ok (.aload_n 0, 1) := by decide +kernel
theorem dX5_moves_6 : decode cX5_moves 6 = .ok (.iload_n 1, 1) := by decide +kernel
theorem dX5_moves_7 : decode cX5_moves 7 = .ok (.iload_n 2, 1) := by decide +kernel
theorem dX5_moves_8 : decode cX5_moves 8 = .ok (.iload_n 3, 1) := by decide +kernel
theorem dX5_moves_9 : decode cX5_moves 9 = .ok (.invokevirtual 100, 3) := by decide +kernel
theorem dX5_moves_12 : decode cX5_moves 12 = .ok (.invokevirtual 97, 3) := by decide +kernel
theorem dX5_moves_15 : decode cX5_moves 15 = .ok (.ireturn, 1) := by decide +kernel
def fX5_moves (F : Nat) (x1 : Int32) (x2 : Int32) (x3 : Int32) (sD : zOS) : Option (Int32 × zOS) := (Option.bind (fX5_hold F sD) (fun r_1 : zOS => (Option.bind (fX5_doMoves F x1 x2 x3 r_1) (fun r_3 : Int32 × zOS => (Option.bind (fX5_ends F r_3.1 r_3.2) (fun r_5 : Int32 × zOS => (some (r_5.1, r_5.2))))))))
set_option maxRecDepth 20000 in
theorem wX5_moves {X : zCx} {res : Int32 × zOS} {F : Nat} {qD : Nat → Nat} {x1 : Int32} {x2 : Int32} {x3 : Int32} {sD : zOS} (C : zC X RX5 cX5_moves 4 3 73) (hR : zR X (some .int) (some (.int res.1)) [(5, qD, res.2)])  : zJ X 4 res (fX5_moves F x1 x2 x3 sD) 0 [(0, (.ref (qD 0))), (1, (.int x1)), (2, (.int x2)), (3, (.int x3))] [] [(5, qD, sD)] := by
  unfold fX5_moves
  refine z_aload_n (pc := 0) 0 rfl rfl C dX5_moves_0 ?_
  refine z_callV (pc := 1) (rf' := 0) (rl' := 0) (fX5_hold F sD) [] [] [(5, qD, sD)] (fun r_1 => none) (fun r_1 => [(5, qD, r_1)]) [] (fun r_1 => [(5, qD, r_1)]) C dX5_moves_1 zy_X5_hold zw_806 (fun _ hr9 => mX5_hold  hr9) (by decide) rfl rfl (by decide) rfl (Nat.le_of_ble_eq_true rfl) (List.Perm.refl _) (fun _ => List.Perm.refl _) rfl (fun r_1 hr_2 => ?_)
  show zJ X 4 res _ 4 [(0, (.ref (qD 0))), (1, (.int x1)), (2, (.int x2)), (3, (.int x3))] [] [(5, qD, r_1)]
  refine z_aload_n (pc := 4) 0 rfl rfl C dX5_moves_4 ?_
  refine z_aload_n (pc := 5) 0 rfl rfl C dX5_moves_5 ?_
  refine z_iload_n (pc := 6) 1 rfl rfl C dX5_moves_6 ?_
  refine z_iload_n (pc := 7) 2 rfl rfl C dX5_moves_7 ?_
  refine z_iload_n (pc := 8) 3 rfl rfl C dX5_moves_8 ?_
  refine z_callV (pc := 9) (rf' := 2) (rl' := 43) (fX5_doMoves F x1 x2 x3 r_1) [(.int x1), (.int x2), (.int x3)] [(.ref (qD 0))] [(5, qD, r_1)] (fun r_3 => (some (.int r_3.1))) (fun r_3 => [(5, qD, r_3.2)]) [] (fun r_3 => [(5, qD, r_3.2)]) C dX5_moves_9 zy_X5_doMoves zw_844 (fun _ hr9 => mX5_doMoves  hr9) (by decide) rfl rfl (by decide) rfl (Nat.le_of_ble_eq_true rfl) (List.Perm.refl _) (fun _ => List.Perm.refl _) rfl (fun r_3 hr_4 => ?_)
  show zJ X 4 res _ 12 [(0, (.ref (qD 0))), (1, (.int x1)), (2, (.int x2)), (3, (.int x3))] [(.int r_3.1), (.ref (qD 0))] [(5, qD, r_3.2)]
  refine z_callV (pc := 12) (rf' := 1) (rl' := 21) (fX5_ends F r_3.1 r_3.2) [(.int r_3.1)] [] [(5, qD, r_3.2)] (fun r_5 => (some (.int r_5.1))) (fun r_5 => [(5, qD, r_5.2)]) [] (fun r_5 => [(5, qD, r_5.2)]) C dX5_moves_12 zy_X5_ends zw_828 (fun _ hr9 => mX5_ends  hr9) (by decide) rfl rfl (by decide) rfl (Nat.le_of_ble_eq_true rfl) (List.Perm.refl _) (fun _ => List.Perm.refl _) rfl (fun r_5 hr_6 => ?_)
  show zJ X 4 res _ 15 [(0, (.ref (qD 0))), (1, (.int x1)), (2, (.int x2)), (3, (.int x3))] [(.int r_5.1)] [(5, qD, r_5.2)]
  exact z_ireturn (pc := 15) C hR dX5_moves_15 (fun h => by subst h; exact ⟨rfl, rfl⟩)
theorem mX5_moves {F : Nat} {qD : Nat → Nat} {x1 : Int32} {x2 : Int32} {x3 : Int32} {sD : zOS} {res : Int32 × zOS}  (hf : fX5_moves F x1 x2 x3 sD = some res) : zM yX5_moves cX5_moves 4 (some .int) 3 73 [(.ref (qD 0)), (.int x1), (.int x2), (.int x3)] [(5, qD, sD)] (some (.int res.1)) [(5, qD, res.2)] := zM_of (by decide +kernel) (Nat.le_of_ble_eq_true rfl) (fun X C hR => wX5_moves (F := F) C hR  hf)
theorem dX5_means_0 : decode cX5_means 0 = .ok (.aload_n 0, 1) := by decide +kernel
theorem dX5_means_1 : decode cX5_means 1 = .ok (.invokevirtual 90, 3) := by decide +kernel
theorem dX5_means_4 : decode cX5_means 4 = .ok (.aload_n 0, 1) := by decide +kernel
theorem dX5_means_5 : decode cX5_means 5 = .ok (.aload_n 0, 1) := by decide +kernel
theorem dX5_means_6 : decode cX5_means 6 = .ok (.iload_n 1, 1) := by decide +kernel
theorem dX5_means_7 : decode cX5_means 7 = .ok (.iload_n 2, 1) := by decide +kernel
theorem dX5_means_8 : decode cX5_means 8 = .ok (.iload_n 3, 1) := by decide +kernel
theorem dX5_means_9 : decode cX5_means 9 = .ok (.invokevirtual 104, 3) := by decide +kernel
theorem dX5_means_12 : decode cX5_means 12 = .ok (.invokevirtual 97, 3) := by decide +kernel
theorem dX5_means_15 : decode cX5_means 15 = .ok (.ireturn, 1) := by decide +kernel
def fX5_means (F : Nat) (x1 : Int32) (x2 : Int32) (x3 : Int32) (sD : zOS) : Option (Int32 × zOS) := (Option.bind (fX5_hold F sD) (fun r_1 : zOS => (Option.bind (fX5_doMeans x1 x2 x3 r_1) (fun r_3 : Int32 × zOS => (Option.bind (fX5_ends F r_3.1 r_3.2) (fun r_5 : Int32 × zOS => (some (r_5.1, r_5.2))))))))
set_option maxRecDepth 20000 in
theorem wX5_means {X : zCx} {res : Int32 × zOS} {F : Nat} {qD : Nat → Nat} {x1 : Int32} {x2 : Int32} {x3 : Int32} {sD : zOS} (C : zC X RX5 cX5_means 4 3 65) (hR : zR X (some .int) (some (.int res.1)) [(5, qD, res.2)])  : zJ X 4 res (fX5_means F x1 x2 x3 sD) 0 [(0, (.ref (qD 0))), (1, (.int x1)), (2, (.int x2)), (3, (.int x3))] [] [(5, qD, sD)] := by
  unfold fX5_means
  refine z_aload_n (pc := 0) 0 rfl rfl C dX5_means_0 ?_
  refine z_callV (pc := 1) (rf' := 0) (rl' := 0) (fX5_hold F sD) [] [] [(5, qD, sD)] (fun r_1 => none) (fun r_1 => [(5, qD, r_1)]) [] (fun r_1 => [(5, qD, r_1)]) C dX5_means_1 zy_X5_hold zw_806 (fun _ hr9 => mX5_hold  hr9) (by decide) rfl rfl (by decide) rfl (Nat.le_of_ble_eq_true rfl) (List.Perm.refl _) (fun _ => List.Perm.refl _) rfl (fun r_1 hr_2 => ?_)
  show zJ X 4 res _ 4 [(0, (.ref (qD 0))), (1, (.int x1)), (2, (.int x2)), (3, (.int x3))] [] [(5, qD, r_1)]
  refine z_aload_n (pc := 4) 0 rfl rfl C dX5_means_4 ?_
  refine z_aload_n (pc := 5) 0 rfl rfl C dX5_means_5 ?_
  refine z_iload_n (pc := 6) 1 rfl rfl C dX5_means_6 ?_
  refine z_iload_n (pc := 7) 2 rfl rfl C dX5_means_7 ?_
  refine z_iload_n (pc := 8) 3 rfl rfl C dX5_means_8 ?_
  refine z_callV (pc := 9) (rf' := 2) (rl' := 42) (fX5_doMeans x1 x2 x3 r_1) [(.int x1), (.int x2), (.int x3)] [(.ref (qD 0))] [(5, qD, r_1)] (fun r_3 => (some (.int r_3.1))) (fun r_3 => [(5, qD, r_3.2)]) [] (fun r_3 => [(5, qD, r_3.2)]) C dX5_means_9 zy_X5_doMeans zw_852 (fun _ hr9 => mX5_doMeans  hr9) (by decide) rfl rfl (by decide) rfl (Nat.le_of_ble_eq_true rfl) (List.Perm.refl _) (fun _ => List.Perm.refl _) rfl (fun r_3 hr_4 => ?_)
  show zJ X 4 res _ 12 [(0, (.ref (qD 0))), (1, (.int x1)), (2, (.int x2)), (3, (.int x3))] [(.int r_3.1), (.ref (qD 0))] [(5, qD, r_3.2)]
  refine z_callV (pc := 12) (rf' := 1) (rl' := 21) (fX5_ends F r_3.1 r_3.2) [(.int r_3.1)] [] [(5, qD, r_3.2)] (fun r_5 => (some (.int r_5.1))) (fun r_5 => [(5, qD, r_5.2)]) [] (fun r_5 => [(5, qD, r_5.2)]) C dX5_means_12 zy_X5_ends zw_828 (fun _ hr9 => mX5_ends  hr9) (by decide) rfl rfl (by decide) rfl (Nat.le_of_ble_eq_true rfl) (List.Perm.refl _) (fun _ => List.Perm.refl _) rfl (fun r_5 hr_6 => ?_)
  show zJ X 4 res _ 15 [(0, (.ref (qD 0))), (1, (.int x1)), (2, (.int x2)), (3, (.int x3))] [(.int r_5.1)] [(5, qD, r_5.2)]
  exact z_ireturn (pc := 15) C hR dX5_means_15 (fun h => by subst h; exact ⟨rfl, rfl⟩)
theorem mX5_means {F : Nat} {qD : Nat → Nat} {x1 : Int32} {x2 : Int32} {x3 : Int32} {sD : zOS} {res : Int32 × zOS}  (hf : fX5_means F x1 x2 x3 sD = some res) : zM yX5_means cX5_means 4 (some .int) 3 65 [(.ref (qD 0)), (.int x1), (.int x2), (.int x3)] [(5, qD, sD)] (some (.int res.1)) [(5, qD, res.2)] := zM_of (by decide +kernel) (Nat.le_of_ble_eq_true rfl) (fun X C hR => wX5_means (F := F) C hR  hf)
theorem dX5_pins_0 : decode cX5_pins 0 = .ok (.aload_n 0, 1) := by decide +kernel
theorem dX5_pins_1 : decode cX5_pins 1 = .ok (.invokevirtual 90, 3) := by decide +kernel
theorem dX5_pins_4 : decode cX5_pins 4 = .ok (.aload_n 0, 1) := by decide +kernel
theorem dX5_pins_5 : decode cX5_pins 5 = .ok (.aload_n 0, 1) := by decide +kernel
theorem dX5_pins_6 : decode cX5_pins 6 = .ok (.iload_n 1, 1) := by decide +kernel
theorem dX5_pins_7 : decode cX5_pins 7 = .ok (.iload_n 2, 1) := by decide +kernel
theorem dX5_pins_8 : decode cX5_pins 8 = .ok (.iload_n 3, 1) := by decide +kernel
theorem dX5_pins_9 : decode cX5_pins 9 = .ok (.invokevirtual 107, 3) := by decide +kernel
theorem dX5_pins_12 : decode cX5_pins 12 = .ok (.invokevirtual 97, 3) := by decide +kernel
theorem dX5_pins_15 : decode cX5_pins 15 = .ok (.ireturn, 1) := by decide +kernel
def fX5_pins (F : Nat) (x1 : Int32) (x2 : Int32) (x3 : Int32) (sD : zOS) : Option (Int32 × zOS) := (Option.bind (fX5_hold F sD) (fun r_1 : zOS => (Option.bind (fX5_doPins x1 x2 x3 r_1) (fun r_3 : Int32 × zOS => (Option.bind (fX5_ends F r_3.1 r_3.2) (fun r_5 : Int32 × zOS => (some (r_5.1, r_5.2))))))))
set_option maxRecDepth 20000 in
theorem wX5_pins {X : zCx} {res : Int32 × zOS} {F : Nat} {qD : Nat → Nat} {x1 : Int32} {x2 : Int32} {x3 : Int32} {sD : zOS} (C : zC X RX5 cX5_pins 4 3 66) (hR : zR X (some .int) (some (.int res.1)) [(5, qD, res.2)])  : zJ X 4 res (fX5_pins F x1 x2 x3 sD) 0 [(0, (.ref (qD 0))), (1, (.int x1)), (2, (.int x2)), (3, (.int x3))] [] [(5, qD, sD)] := by
  unfold fX5_pins
  refine z_aload_n (pc := 0) 0 rfl rfl C dX5_pins_0 ?_
  refine z_callV (pc := 1) (rf' := 0) (rl' := 0) (fX5_hold F sD) [] [] [(5, qD, sD)] (fun r_1 => none) (fun r_1 => [(5, qD, r_1)]) [] (fun r_1 => [(5, qD, r_1)]) C dX5_pins_1 zy_X5_hold zw_806 (fun _ hr9 => mX5_hold  hr9) (by decide) rfl rfl (by decide) rfl (Nat.le_of_ble_eq_true rfl) (List.Perm.refl _) (fun _ => List.Perm.refl _) rfl (fun r_1 hr_2 => ?_)
  show zJ X 4 res _ 4 [(0, (.ref (qD 0))), (1, (.int x1)), (2, (.int x2)), (3, (.int x3))] [] [(5, qD, r_1)]
  refine z_aload_n (pc := 4) 0 rfl rfl C dX5_pins_4 ?_
  refine z_aload_n (pc := 5) 0 rfl rfl C dX5_pins_5 ?_
  refine z_iload_n (pc := 6) 1 rfl rfl C dX5_pins_6 ?_
  refine z_iload_n (pc := 7) 2 rfl rfl C dX5_pins_7 ?_
  refine z_iload_n (pc := 8) 3 rfl rfl C dX5_pins_8 ?_
  refine z_callV (pc := 9) (rf' := 2) (rl' := 43) (fX5_doPins x1 x2 x3 r_1) [(.int x1), (.int x2), (.int x3)] [(.ref (qD 0))] [(5, qD, r_1)] (fun r_3 => (some (.int r_3.1))) (fun r_3 => [(5, qD, r_3.2)]) [] (fun r_3 => [(5, qD, r_3.2)]) C dX5_pins_9 zy_X5_doPins zw_867 (fun _ hr9 => mX5_doPins  hr9) (by decide) rfl rfl (by decide) rfl (Nat.le_of_ble_eq_true rfl) (List.Perm.refl _) (fun _ => List.Perm.refl _) rfl (fun r_3 hr_4 => ?_)
  show zJ X 4 res _ 12 [(0, (.ref (qD 0))), (1, (.int x1)), (2, (.int x2)), (3, (.int x3))] [(.int r_3.1), (.ref (qD 0))] [(5, qD, r_3.2)]
  refine z_callV (pc := 12) (rf' := 1) (rl' := 21) (fX5_ends F r_3.1 r_3.2) [(.int r_3.1)] [] [(5, qD, r_3.2)] (fun r_5 => (some (.int r_5.1))) (fun r_5 => [(5, qD, r_5.2)]) [] (fun r_5 => [(5, qD, r_5.2)]) C dX5_pins_12 zy_X5_ends zw_828 (fun _ hr9 => mX5_ends  hr9) (by decide) rfl rfl (by decide) rfl (Nat.le_of_ble_eq_true rfl) (List.Perm.refl _) (fun _ => List.Perm.refl _) rfl (fun r_5 hr_6 => ?_)
  show zJ X 4 res _ 15 [(0, (.ref (qD 0))), (1, (.int x1)), (2, (.int x2)), (3, (.int x3))] [(.int r_5.1)] [(5, qD, r_5.2)]
  exact z_ireturn (pc := 15) C hR dX5_pins_15 (fun h => by subst h; exact ⟨rfl, rfl⟩)
theorem mX5_pins {F : Nat} {qD : Nat → Nat} {x1 : Int32} {x2 : Int32} {x3 : Int32} {sD : zOS} {res : Int32 × zOS}  (hf : fX5_pins F x1 x2 x3 sD = some res) : zM yX5_pins cX5_pins 4 (some .int) 3 66 [(.ref (qD 0)), (.int x1), (.int x2), (.int x3)] [(5, qD, sD)] (some (.int res.1)) [(5, qD, res.2)] := zM_of (by decide +kernel) (Nat.le_of_ble_eq_true rfl) (fun X C hR => wX5_pins (F := F) C hR  hf)
theorem dX5_forgets_0 : decode cX5_forgets 0 = .ok (.aload_n 0, 1) := by decide +kernel
theorem dX5_forgets_1 : decode cX5_forgets 1 = .ok (.invokevirtual 90, 3) := by decide +kernel
theorem dX5_forgets_4 : decode cX5_forgets 4 = .ok (.aload_n 0, 1) := by decide +kernel
theorem dX5_forgets_5 : decode cX5_forgets 5 = .ok (.aload_n 0, 1) := by decide +kernel
theorem dX5_forgets_6 : decode cX5_forgets 6 = .ok (.invokevirtual 110, 3) := by decide +kernel
theorem dX5_forgets_9 : decode cX5_forgets 9 = .ok (.invokevirtual 97, 3) := by decide +kernel
theorem dX5_forgets_12 : decode cX5_forgets 12 = .ok (.ireturn, 1) := by decide +kernel
def fX5_forgets (F : Nat) (sD : zOS) : Option (Int32 × zOS) := (Option.bind (fX5_hold F sD) (fun r_1 : zOS => (Option.bind (fX5_doForgets r_1) (fun r_3 : Int32 × zOS => (Option.bind (fX5_ends F r_3.1 r_3.2) (fun r_5 : Int32 × zOS => (some (r_5.1, r_5.2))))))))
set_option maxRecDepth 20000 in
theorem wX5_forgets {X : zCx} {res : Int32 × zOS} {F : Nat} {qD : Nat → Nat} {sD : zOS} (C : zC X RX5 cX5_forgets 1 2 42) (hR : zR X (some .int) (some (.int res.1)) [(5, qD, res.2)])  : zJ X 1 res (fX5_forgets F sD) 0 [(0, (.ref (qD 0)))] [] [(5, qD, sD)] := by
  unfold fX5_forgets
  refine z_aload_n (pc := 0) 0 rfl rfl C dX5_forgets_0 ?_
  refine z_callV (pc := 1) (rf' := 0) (rl' := 0) (fX5_hold F sD) [] [] [(5, qD, sD)] (fun r_1 => none) (fun r_1 => [(5, qD, r_1)]) [] (fun r_1 => [(5, qD, r_1)]) C dX5_forgets_1 zy_X5_hold zw_806 (fun _ hr9 => mX5_hold  hr9) (by decide) rfl rfl (by decide) rfl (Nat.le_of_ble_eq_true rfl) (List.Perm.refl _) (fun _ => List.Perm.refl _) rfl (fun r_1 hr_2 => ?_)
  show zJ X 1 res _ 4 [(0, (.ref (qD 0)))] [] [(5, qD, r_1)]
  refine z_aload_n (pc := 4) 0 rfl rfl C dX5_forgets_4 ?_
  refine z_aload_n (pc := 5) 0 rfl rfl C dX5_forgets_5 ?_
  refine z_callV (pc := 6) (rf' := 0) (rl' := 0) (fX5_doForgets r_1) [] [(.ref (qD 0))] [(5, qD, r_1)] (fun r_3 => (some (.int r_3.1))) (fun r_3 => [(5, qD, r_3.2)]) [] (fun r_3 => [(5, qD, r_3.2)]) C dX5_forgets_6 zy_X5_doForgets zw_875 (fun _ hr9 => mX5_doForgets  hr9) (by decide) rfl rfl (by decide) rfl (Nat.le_of_ble_eq_true rfl) (List.Perm.refl _) (fun _ => List.Perm.refl _) rfl (fun r_3 hr_4 => ?_)
  show zJ X 1 res _ 9 [(0, (.ref (qD 0)))] [(.int r_3.1), (.ref (qD 0))] [(5, qD, r_3.2)]
  refine z_callV (pc := 9) (rf' := 1) (rl' := 21) (fX5_ends F r_3.1 r_3.2) [(.int r_3.1)] [] [(5, qD, r_3.2)] (fun r_5 => (some (.int r_5.1))) (fun r_5 => [(5, qD, r_5.2)]) [] (fun r_5 => [(5, qD, r_5.2)]) C dX5_forgets_9 zy_X5_ends zw_828 (fun _ hr9 => mX5_ends  hr9) (by decide) rfl rfl (by decide) rfl (Nat.le_of_ble_eq_true rfl) (List.Perm.refl _) (fun _ => List.Perm.refl _) rfl (fun r_5 hr_6 => ?_)
  show zJ X 1 res _ 12 [(0, (.ref (qD 0)))] [(.int r_5.1)] [(5, qD, r_5.2)]
  exact z_ireturn (pc := 12) C hR dX5_forgets_12 (fun h => by subst h; exact ⟨rfl, rfl⟩)
theorem mX5_forgets {F : Nat} {qD : Nat → Nat} {sD : zOS} {res : Int32 × zOS}  (hf : fX5_forgets F sD = some res) : zM yX5_forgets cX5_forgets 1 (some .int) 2 42 [(.ref (qD 0))] [(5, qD, sD)] (some (.int res.1)) [(5, qD, res.2)] := zM_of (by decide +kernel) (Nat.le_of_ble_eq_true rfl) (fun X C hR => wX5_forgets (F := F) C hR  hf)
