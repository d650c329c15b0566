theorem dX5_type_0 : decode cX5_type 0 = .ok (.iload_n 1, 1) := by decide +kernel
theorem dX5_type_1 : decode cX5_type 1 = .ok (.iconst 0, 1) := by decide +kernel
theorem dX5_type_2 : decode cX5_type 2 = .ok (.bipush 127, 2) := by decide +kernel
theorem dX5_type_4 : decode cX5_type 4 = .ok (.invokestatic 67, 3) := by decide +kernel
theorem dX5_type_7 : decode cX5_type 7 = .ok (.ifCond .ne 10, 3) := by decide +kernel
theorem dX5_type_10 : decode cX5_type 10 = .ok (.aload_n 0, 1) := by decide +kernel
theorem dX5_type_11 : decode cX5_type 11 = .ok (.bipush (-2), 2) := by decide +kernel
theorem dX5_type_13 : decode cX5_type 13 = .ok (.invokevirtual 60, 3) := by decide +kernel
theorem dX5_type_16 : decode cX5_type 16 = .ok (.ireturn, 1) := by decide +kernel
theorem dX5_type_17 : decode cX5_type 17 = .ok (.aload_n 0, 1) := by decide +kernel
theorem dX5_type_18 : decode cX5_type 18 = .ok (.getfield 237, 3) := by decide +kernel
theorem dX5_type_21 : decode cX5_type 21 = .ok (.sipush 150, 3) := by decide +kernel
theorem dX5_type_24 : decode cX5_type 24 = .ok (.if_icmp .ne 10, 3) := by decide +kernel
theorem dX5_type_27 : decode cX5_type 27 = .ok (.aload_n 0, 1) := by decide +kernel
theorem dX5_type_28 : decode cX5_type 28 = .ok (.bipush (-4), 2) := by decide +kernel
theorem dX5_type_30 : decode cX5_type 30 = .ok (.invokevirtual 60, 3) := by decide +kernel
theorem dX5_type_33 : decode cX5_type 33 = .ok (.ireturn, 1) := by decide +kernel
theorem dX5_type_34 : decode cX5_type 34 = .ok (.aload_n 0, 1) := by decide +kernel
theorem dX5_type_35 : decode cX5_type 35 = .ok (.getfield 43, 3) := by decide +kernel
theorem dX5_type_38 : decode cX5_type 38 = .ok (.aload_n 0, 1) := by decide +kernel
theorem dX5_type_39 : decode cX5_type 39 = .ok (.getfield 237, 3) := by decide +kernel
theorem dX5_type_42 : decode cX5_type 42 = .ok (.iload_n 1, 1) := by decide +kernel
theorem dX5_type_43 : decode cX5_type 43 = .ok (.iastore, 1) := by decide +kernel
theorem dX5_type_44 : decode cX5_type 44 = .ok (.aload_n 0, 1) := by decide +kernel
theorem dX5_type_45 : decode cX5_type 45 = .ok (.dup, 1) := by decide +kernel
theorem dX5_type_46 : decode cX5_type 46 = .ok (.getfield 237, 3) := by decide +kernel
theorem dX5_type_49 : decode cX5_type 49 = .ok (.iconst 1, 1) := by decide +kernel
theorem dX5_type_50 : decode cX5_type 50 = .ok (.iadd, 1) := by decide +kernel
theorem dX5_type_51 : decode cX5_type 51 = .ok (.putfield 237, 3) := by decide +kernel
theorem dX5_type_54 : decode cX5_type 54 = .ok (.aload_n 0, 1) := by decide +kernel
theorem dX5_type_55 : decode cX5_type 55 = .ok (.getfield 237, 3) := by decide +kernel
theorem dX5_type_58 : decode cX5_type 58 = .ok (.ireturn, 1) := by decide +kernel
def fX5_type (x1 : Int32) (sD : zOS) : Option (Int32 × zOS) := (Option.bind (fX5_in x1 (0 : Int32) (127 : Int32)) (fun r_1 : Int32 => (if r_1 = 0 then (Option.bind (fX5_refuses (-2 : Int32) sD) (fun r_3 : Int32 × zOS => (some (r_3.1, r_3.2)))) else (if (zF sD 19) = (150 : Int32) then (Option.bind (fX5_refuses (-4 : Int32) sD) (fun r_5 : Int32 × zOS => (some (r_5.1, r_5.2)))) else (zchk (zF sD 19) 150 (zlet (zsI sD 12 (upd (zI sD 12) (zF sD 19).toNatClampNeg x1)) (fun sD_7 : zOS => (zlet (zsF sD_7 19 ((zF sD_7 19) + (1 : Int32))) (fun sD_8 : zOS => (some (zF sD_8 19, sD_8)))))))))))
set_option maxRecDepth 20000 in
theorem wX5_type {X : zCx} {res : Int32 × zOS}  {qD : Nat → Nat} {x1 : Int32} {sD : zOS} (C : zC X RX5 cX5_type 2 1 22) (hR : zR X (some .int) (some (.int res.1)) [(5, qD, res.2)])  : zJ X 2 res (fX5_type x1 sD) 0 [(0, (.ref (qD 0))), (1, (.int x1))] [] [(5, qD, sD)] := by
  unfold fX5_type
  refine z_iload_n (pc := 0) 1 rfl rfl C dX5_type_0 ?_
  refine z_iconst (pc := 1) (0 : Int32) (by decide) C dX5_type_1 ?_
  refine z_bipush (pc := 2) (127 : Int32) (by decide) C dX5_type_2 ?_
  refine z_callS (pc := 4) (rf' := 0) (rl' := 0) (fX5_in x1 (0 : Int32) (127 : Int32)) [(.int x1), (.int (0 : Int32)), (.int (127 : Int32))] [] [] (fun r_1 => (some (.int r_1))) (fun r_1 => []) [(5, qD, sD)] (fun r_1 => [(5, qD, sD)]) C dX5_type_4 zy_X5_in zw_814 (fun _ hr9 => mX5_in  hr9) (by decide) rfl (Nat.le_of_ble_eq_true rfl) (List.Perm.refl _) (fun _ => List.Perm.refl _) rfl (fun r_1 hr_2 => ?_)
  show zJ X 2 res _ 7 [(0, (.ref (qD 0))), (1, (.int x1))] [(.int r_1)] [(5, qD, sD)]
  refine z_if_ne (pc := 7) 17 C dX5_type_7 (by decide) ?_ ?_
  · refine z_aload_n (pc := 10) 0 rfl rfl C dX5_type_10 ?_
    refine z_bipush (pc := 11) (-2 : Int32) (by decide) C dX5_type_11 ?_
    refine z_callV (pc := 13) (rf' := 0) (rl' := 0) (fX5_refuses (-2 : Int32) sD) [(.int (-2 : Int32))] [] [(5, qD, sD)] (fun r_3 => (some (.int r_3.1))) (fun r_3 => [(5, qD, r_3.2)]) [] (fun r_3 => [(5, qD, r_3.2)]) C dX5_type_13 zy_X5_refuses zw_798 (fun _ hr9 => mX5_refuses  hr9) (by decide) rfl rfl (by decide) rfl (Nat.le_of_ble_eq_true rfl) (List.Perm.refl _) (fun _ => List.Perm.refl _) rfl (fun r_3 hr_4 => ?_)
    show zJ X 2 res _ 16 [(0, (.ref (qD 0))), (1, (.int x1))] [(.int r_3.1)] [(5, qD, r_3.2)]
    exact z_ireturn (pc := 16) C hR dX5_type_16 (fun h => by subst h; exact ⟨rfl, rfl⟩)
  · refine z_aload_n (pc := 17) 0 rfl rfl C dX5_type_17 ?_
    refine z_getI (pc := 18) 0 19 C dX5_type_18 rfl (by decide) (by decide) rfl zw_734 ?_
    refine z_sipush (pc := 21) (150 : Int32) (by decide) C dX5_type_21 ?_
    refine z_icmp_ne (pc := 24) 34 C dX5_type_24 (by decide) ?_ ?_
    · refine z_aload_n (pc := 27) 0 rfl rfl C dX5_type_27 ?_
      refine z_bipush (pc := 28) (-4 : Int32) (by decide) C dX5_type_28 ?_
      refine z_callV (pc := 30) (rf' := 0) (rl' := 0) (fX5_refuses (-4 : Int32) sD) [(.int (-4 : Int32))] [] [(5, qD, sD)] (fun r_5 => (some (.int r_5.1))) (fun r_5 => [(5, qD, r_5.2)]) [] (fun r_5 => [(5, qD, r_5.2)]) C dX5_type_30 zy_X5_refuses zw_798 (fun _ hr9 => mX5_refuses  hr9) (by decide) rfl rfl (by decide) rfl (Nat.le_of_ble_eq_true rfl) (List.Perm.refl _) (fun _ => List.Perm.refl _) rfl (fun r_5 hr_6 => ?_)
      show zJ X 2 res _ 33 [(0, (.ref (qD 0))), (1, (.int x1))] [(.int r_5.1)] [(5, qD, r_5.2)]
      exact z_ireturn (pc := 33) C hR dX5_type_33 (fun h => by subst h; exact ⟨rfl, rfl⟩)
    · refine z_aload_n (pc := 34) 0 rfl rfl C dX5_type_34 ?_
      refine z_getR (pc := 35) 0 18 12 C dX5_type_35 rfl (by decide) (by decide) rfl zw_733 ?_
      refine z_aload_n (pc := 38) 0 rfl rfl C dX5_type_38 ?_
      refine z_getI (pc := 39) 0 19 C dX5_type_39 rfl (by decide) (by decide) rfl zw_734 ?_
      refine z_iload_n (pc := 42) 1 rfl rfl C dX5_type_42 ?_
      refine z_iast (pc := 43) 0 C dX5_type_43 rfl (by unfold zAr; decide) [(5, qD, (zsI sD 12 (upd (zI sD 12) (zF sD 19).toNatClampNeg x1)))] rfl ?_
      refine z_letc (fun z9 => [(5, qD, z9)]) (fun sD_7 => ?_)
      refine z_aload_n (pc := 44) 0 rfl rfl C dX5_type_44 ?_
      refine z_dup (pc := 45) rfl C dX5_type_45 ?_
      refine z_getI (pc := 46) 0 19 C dX5_type_46 rfl (by decide) (by decide) rfl zw_734 ?_
      refine z_iconst (pc := 49) (1 : Int32) (by decide) C dX5_type_49 ?_
      refine z_iadd (pc := 50) C dX5_type_50 ?_
      refine z_putI (pc := 51) 0 19 C dX5_type_51 rfl (by decide) (by decide) rfl zw_734 rfl rfl rfl [(5, qD, (zsF sD_7 19 ((zF sD_7 19) + (1 : Int32))))] rfl ?_
      refine z_letc (fun z9 => [(5, qD, z9)]) (fun sD_8 => ?_)
      refine z_aload_n (pc := 54) 0 rfl rfl C dX5_type_54 ?_
      refine z_getI (pc := 55) 0 19 C dX5_type_55 rfl (by decide) (by decide) rfl zw_734 ?_
      exact z_ireturn (pc := 58) C hR dX5_type_58 (fun h => by subst h; exact ⟨rfl, rfl⟩)
theorem mX5_type  {qD : Nat → Nat} {x1 : Int32} {sD : zOS} {res : Int32 × zOS}  (hf : fX5_type x1 sD = some res) : zM yX5_type cX5_type 2 (some .int) 1 22 [(.ref (qD 0)), (.int x1)] [(5, qD, sD)] (some (.int res.1)) [(5, qD, res.2)] := zM_of (by decide +kernel) (Nat.le_of_ble_eq_true rfl) (fun X C hR => wX5_type C hR  hf)
theorem dX5_clear_0 : decode cX5_clear 0 = .ok (.aload_n 0, 1) := by decide +kernel
theorem dX5_clear_1 : decode cX5_clear 1 = .ok (.getfield 237, 3) := by decide +kernel
theorem dX5_clear_4 : decode cX5_clear 4 = .ok (.istore_n 1, 1) := by decide +kernel
theorem dX5_clear_5 : decode cX5_clear 5 = .ok (.aload_n 0, 1) := by decide +kernel
theorem dX5_clear_6 : decode cX5_clear 6 = .ok (.iconst 0, 1) := by decide +kernel
theorem dX5_clear_7 : decode cX5_clear 7 = .ok (.putfield 237, 3) := by decide +kernel
theorem dX5_clear_10 : decode cX5_clear 10 = .ok (.iload_n 1, 1) := by decide +kernel
theorem dX5_clear_11 : decode cX5_clear 11 = .ok (.ireturn, 1) := by decide +kernel
def fX5_clear (sD : zOS) : Option (Int32 × zOS) := (zlet (zF sD 19) (fun x1_1 : Int32 => (zlet (zsF sD 19 (0 : Int32)) (fun sD_2 : zOS => (some (x1_1, sD_2))))))
set_option maxRecDepth 20000 in
theorem wX5_clear {X : zCx} {res : Int32 × zOS}  {qD : Nat → Nat} {sD : zOS} (C : zC X RX5 cX5_clear 2 0 0) (hR : zR X (some .int) (some (.int res.1)) [(5, qD, res.2)])  : zJ X 2 res (fX5_clear sD) 0 [(0, (.ref (qD 0)))] [] [(5, qD, sD)] := by
  unfold fX5_clear
  refine z_aload_n (pc := 0) 0 rfl rfl C dX5_clear_0 ?_
  refine z_getI (pc := 1) 0 19 C dX5_clear_1 rfl (by decide) (by decide) rfl zw_734 ?_
  refine z_leti (fun x1_1 => ?_)
  refine z_istore_n (pc := 4) [(0, (.ref (qD 0))), (1, (.int x1_1))] [1, 0] (by decide) rfl rfl C dX5_clear_4 ?_
  refine z_aload_n (pc := 5) 0 rfl rfl C dX5_clear_5 ?_
  refine z_iconst (pc := 6) (0 : Int32) (by decide) C dX5_clear_6 ?_
  refine z_putI (pc := 7) 0 19 C dX5_clear_7 rfl (by decide) (by decide) rfl zw_734 rfl rfl rfl [(5, qD, (zsF sD 19 (0 : Int32)))] rfl ?_
  refine z_letc (fun z9 => [(5, qD, z9)]) (fun sD_2 => ?_)
  refine z_iload_n (pc := 10) 1 rfl rfl C dX5_clear_10 ?_
  exact z_ireturn (pc := 11) C hR dX5_clear_11 (fun h => by subst h; exact ⟨rfl, rfl⟩)
theorem mX5_clear  {qD : Nat → Nat} {sD : zOS} {res : Int32 × zOS}  (hf : fX5_clear sD = some res) : zM yX5_clear cX5_clear 2 (some .int) 0 0 [(.ref (qD 0))] [(5, qD, sD)] (some (.int res.1)) [(5, qD, res.2)] := zM_of (by decide +kernel) (Nat.le_of_ble_eq_true rfl) (fun X C hR => wX5_clear C hR  hf)
theorem dX5_here_0 : decode cX5_here 0 = .ok (.aload_n 0, 1) := by decide +kernel
theorem dX5_here_1 : decode cX5_here 1 = .ok (.getfield 240, 3) := by decide +kernel
theorem dX5_here_4 : decode cX5_here 4 = .ok (.aload_n 0, 1) := by decide +kernel
theorem dX5_here_5 : decode cX5_here 5 = .ok (.getfield 237, 3) := by decide +kernel
theorem dX5_here_8 : decode cX5_here 8 = .ok (.if_icmp .ge 30, 3) := by decide +kernel
theorem dX5_here_11 : decode cX5_here 11 = .ok (.aload_n 0, 1) := by decide +kernel
theorem dX5_here_12 : decode cX5_here 12 = .ok (.getfield 43, 3) := by decide +kernel
theorem dX5_here_15 : decode cX5_here 15 = .ok (.aload_n 0, 1) := by decide +kernel
theorem dX5_here_16 : decode cX5_here 16 = .ok (.getfield 240, 3) := by decide +kernel
theorem dX5_here_19 : decode cX5_here 19 = .ok (.iaload, 1) := by decide +kernel
theorem dX5_here_20 : decode cX5_here 20 = .ok (.bipush 32, 2) := by decide +kernel
theorem dX5_here_22 : decode cX5_here 22 = .ok (.if_icmp .ne 16, 3) := by decide +kernel
theorem dX5_here_25 : decode cX5_here 25 = .ok (.aload_n 0, 1) := by decide +kernel
theorem dX5_here_26 : decode cX5_here 26 = .ok (.dup, 1) := by decide +kernel
theorem dX5_here_27 : decode cX5_here 27 = .ok (.getfield 240, 3) := by decide +kernel
theorem dX5_here_30 : decode cX5_here 30 = .ok (.iconst 1, 1) := by decide +kernel
theorem dX5_here_31 : decode cX5_here 31 = .ok (.iadd, 1) := by decide +kernel
theorem dX5_here_32 : decode cX5_here 32 = .ok (.putfield 240, 3) := by decide +kernel
theorem dX5_here_35 : decode cX5_here 35 = .ok (.goto (-35), 3) := by decide +kernel
theorem dX5_here_38 : decode cX5_here 38 = .ok (.aload_n 0, 1) := by decide +kernel
theorem dX5_here_39 : decode cX5_here 39 = .ok (.getfield 240, 3) := by decide +kernel
theorem dX5_here_42 : decode cX5_here 42 = .ok (.aload_n 0, 1) := by decide +kernel
theorem dX5_here_43 : decode cX5_here 43 = .ok (.getfield 237, 3) := by decide +kernel
theorem dX5_here_46 : decode cX5_here 46 = .ok (.if_icmp .ge 15, 3) := by decide +kernel
theorem dX5_here_49 : decode cX5_here 49 = .ok (.aload_n 0, 1) := by decide +kernel
theorem dX5_here_50 : decode cX5_here 50 = .ok (.getfield 43, 3) := by decide +kernel
theorem dX5_here_53 : decode cX5_here 53 = .ok (.aload_n 0, 1) := by decide +kernel
theorem dX5_here_54 : decode cX5_here 54 = .ok (.getfield 240, 3) := by decide +kernel
theorem dX5_here_57 : decode cX5_here 57 = .ok (.iaload, 1) := by decide +kernel
theorem dX5_here_58 : decode cX5_here 58 = .ok (.goto 4, 3) := by decide +kernel
theorem dX5_here_61 : decode cX5_here 61 = .ok (.iconst (-1), 1) := by decide +kernel
theorem dX5_here_62 : decode cX5_here 62 = .ok (.ireturn, 1) := by decide +kernel
def jX5_here_38 (F : Nat) (sD : zOS) : Option (Int32 × zOS) := (if (zF sD 19) ≤ (zF sD 20) then (some ((-1 : Int32), sD)) else (zchk (zF sD 20) 150 (some (zI sD 12 (zF sD 20).toNatClampNeg, sD))))
set_option maxRecDepth 20000 in
theorem wX5_here_38 {X : zCx} {res : Int32 × zOS} {F : Nat} {qD : Nat → Nat} (C : zC X RX5 cX5_here 1 0 0) (hR : zR X (some .int) (some (.int res.1)) [(5, qD, res.2)]) (sD : zOS) : zJ X 1 res (jX5_here_38 F sD) 38 [(0, (.ref (qD 0)))] [] [(5, qD, sD)] := by
  unfold jX5_here_38
  refine z_aload_n (pc := 38) 0 rfl rfl C dX5_here_38 ?_
  refine z_getI (pc := 39) 0 20 C dX5_here_39 rfl (by decide) (by decide) rfl zw_735 ?_
  refine z_aload_n (pc := 42) 0 rfl rfl C dX5_here_42 ?_
  refine z_getI (pc := 43) 0 19 C dX5_here_43 rfl (by decide) (by decide) rfl zw_734 ?_
  refine z_icmp_ge (pc := 46) 61 C dX5_here_46 (by decide) ?_ ?_
  · refine z_iconst (pc := 61) (-1 : Int32) (by decide) C dX5_here_61 ?_
    exact z_ireturn (pc := 62) C hR dX5_here_62 (fun h => by subst h; exact ⟨rfl, rfl⟩)
  · refine z_aload_n (pc := 49) 0 rfl rfl C dX5_here_49 ?_
    refine z_getR (pc := 50) 0 18 12 C dX5_here_50 rfl (by decide) (by decide) rfl zw_733 ?_
    refine z_aload_n (pc := 53) 0 rfl rfl C dX5_here_53 ?_
    refine z_getI (pc := 54) 0 20 C dX5_here_54 rfl (by decide) (by decide) rfl zw_735 ?_
    refine z_iald (pc := 57) 0 C dX5_here_57 rfl (by unfold zAr; decide) ?_
    refine z_goto (pc := 58) 62 C dX5_here_58 (by decide) ?_
    exact z_ireturn (pc := 62) C hR dX5_here_62 (fun h => by subst h; exact ⟨rfl, rfl⟩)
def bX5_here_0 (F : Nat) (kc_0 : zOS → Option (Int32 × zOS)) (sD : zOS) : Option (Int32 × zOS) := (if (zF sD 19) ≤ (zF sD 20) then (jX5_here_38 F sD) else (zchk (zF sD 20) 150 (if (zI sD 12 (zF sD 20).toNatClampNeg) = (32 : Int32) then (zlet (zsF sD 20 ((zF sD 20) + (1 : Int32))) (fun sD_1 : zOS => (kc_0 sD_1))) else (jX5_here_38 F sD))))
set_option maxRecDepth 20000 in
theorem vX5_here_0 {X : zCx} {res : Int32 × zOS} {F : Nat} {qD : Nat → Nat} {kc_0 : zOS → Option (Int32 × zOS)} (C : zC X RX5 cX5_here 1 0 0) (hR : zR X (some .int) (some (.int res.1)) [(5, qD, res.2)]) (hk_0 : ∀ (tD : zOS), zJ X 1 res (kc_0 tD) 0 [(0, (.ref (qD 0)))] [] [(5, qD, tD)]) (sD : zOS) : zJ X 1 res (bX5_here_0 F kc_0 sD) 0 [(0, (.ref (qD 0)))] [] [(5, qD, sD)] := by
  unfold bX5_here_0
  refine z_aload_n (pc := 0) 0 rfl rfl C dX5_here_0 ?_
  refine z_getI (pc := 1) 0 20 C dX5_here_1 rfl (by decide) (by decide) rfl zw_735 ?_
  refine z_aload_n (pc := 4) 0 rfl rfl C dX5_here_4 ?_
  refine z_getI (pc := 5) 0 19 C dX5_here_5 rfl (by decide) (by decide) rfl zw_734 ?_
  refine z_icmp_ge (pc := 8) 38 C dX5_here_8 (by decide) ?_ ?_
  · exact wX5_here_38 C hR   _
  · refine z_aload_n (pc := 11) 0 rfl rfl C dX5_here_11 ?_
    refine z_getR (pc := 12) 0 18 12 C dX5_here_12 rfl (by decide) (by decide) rfl zw_733 ?_
    refine z_aload_n (pc := 15) 0 rfl rfl C dX5_here_15 ?_
    refine z_getI (pc := 16) 0 20 C dX5_here_16 rfl (by decide) (by decide) rfl zw_735 ?_
    refine z_iald (pc := 19) 0 C dX5_here_19 rfl (by unfold zAr; decide) ?_
    refine z_bipush (pc := 20) (32 : Int32) (by decide) C dX5_here_20 ?_
    refine z_icmp_ne (pc := 22) 38 C dX5_here_22 (by decide) ?_ ?_
    · refine z_aload_n (pc := 25) 0 rfl rfl C dX5_here_25 ?_
      refine z_dup (pc := 26) rfl C dX5_here_26 ?_
      refine z_getI (pc := 27) 0 20 C dX5_here_27 rfl (by decide) (by decide) rfl zw_735 ?_
      refine z_iconst (pc := 30) (1 : Int32) (by decide) C dX5_here_30 ?_
      refine z_iadd (pc := 31) C dX5_here_31 ?_
      refine z_putI (pc := 32) 0 20 C dX5_here_32 rfl (by decide) (by decide) rfl zw_735 rfl rfl rfl [(5, qD, (zsF sD 20 ((zF sD 20) + (1 : Int32))))] rfl ?_
      refine z_letc (fun z9 => [(5, qD, z9)]) (fun sD_1 => ?_)
      refine z_goto (pc := 35) 0 C dX5_here_35 (by decide) ?_
      exact hk_0 _
    · exact wX5_here_38 C hR   _
def fX5_here (F : Nat) (sD : zOS) : Option (Int32 × zOS) := (zit (P := zOS) (R := Int32 × zOS) (fun kc9 p9 => bX5_here_0 F kc9 p9) F sD)
set_option maxRecDepth 20000 in
theorem wX5_here {X : zCx} {res : Int32 × zOS} {F : Nat} {qD : Nat → Nat} {sD : zOS} (C : zC X RX5 cX5_here 1 0 0) (hR : zR X (some .int) (some (.int res.1)) [(5, qD, res.2)])  : zJ X 1 res (fX5_here F sD) 0 [(0, (.ref (qD 0)))] [] [(5, qD, sD)] := by
  unfold fX5_here
  show zJ X 1 res _ 0 [(0, (.ref (qD 0)))] [] [(5, qD, sD)]
  exact zit_J (P := zOS) (B := (fun kc9 p9 => bX5_here_0 F kc9 p9)) (fun p9 => [(0, (.ref (qD 0)))]) (fun p9 => [(5, qD, p9)]) (fun kc9 hk9 p9 => vX5_here_0 C hR   (fun a0 => hk9 a0) p9) F _
theorem mX5_here {F : Nat} {qD : Nat → Nat} {sD : zOS} {res : Int32 × zOS}  (hf : fX5_here F sD = some res) : zM yX5_here cX5_here 1 (some .int) 0 0 [(.ref (qD 0))] [(5, qD, sD)] (some (.int res.1)) [(5, qD, res.2)] := zM_of (by decide +kernel) (Nat.le_of_ble_eq_true rfl) (fun X C hR => wX5_here (F := F) C hR  hf)
theorem dX5_must_0 : decode cX5_must 0 = .ok (.aload_n 0, 1) := by decide +kernel
theorem dX5_must_1 : decode cX5_must 1 = .ok (.getfield 243, 3) := by decide +kernel
theorem dX5_must_4 : decode cX5_must 4 = .ok (.iconst (-1), 1) := by decide +kernel
theorem dX5_must_5 : decode cX5_must 5 = .ok (.if_icmp .ne 28, 3) := by decide +kernel
theorem dX5_must_8 : decode cX5_must 8 = .ok (.iload_n 1, 1) := by decide +kernel
theorem dX5_must_9 : decode cX5_must 9 = .ok (.ifCond .eq 16, 3) := by decide +kernel
theorem dX5_must_12 : decode cX5_must 12 = .ok (.aload_n 0, 1) := by decide +kernel
theorem dX5_must_13 : decode cX5_must 13 = .ok (.dup, 1) := by decide +kernel
theorem dX5_must_14 : decode cX5_must 14 = .ok (.getfield 240, 3) := by decide +kernel
theorem dX5_must_17 : decode cX5_must 17 = .ok (.iconst 1, 1) := by decide +kernel
theorem dX5_must_18 : decode cX5_must 18 = .ok (.iadd, 1) := by decide +kernel
theorem dX5_must_19 : decode cX5_must 19 = .ok (.putfield 240, 3) := by decide +kernel
theorem dX5_must_22 : decode cX5_must 22 = .ok (.goto 11, 3) := by decide +kernel
theorem dX5_must_25 : decode cX5_must 25 = .ok (.aload_n 0, 1) := by decide +kernel
theorem dX5_must_26 : decode cX5_must 26 = .ok (.aload_n 0, 1) := by decide +kernel
theorem dX5_must_27 : decode cX5_must 27 = .ok (.getfield 240, 3) := by decide +kernel
theorem dX5_must_30 : decode cX5_must 30 = .ok (.putfield 243, 3) := by decide +kernel
theorem dX5_must_33 : decode cX5_must 33 = .ok (.return_, 1) := by decide +kernel
def fX5_must (x1 : Int32) (sD : zOS) : Option (zOS) := (if (zF sD 21) = (-1 : Int32) then (if x1 = 0 then (zlet (zsF sD 21 (zF sD 20)) (fun sD_1 : zOS => (some (sD_1)))) else (zlet (zsF sD 20 ((zF sD 20) + (1 : Int32))) (fun sD_2 : zOS => (some (sD_2))))) else (some (sD)))
set_option maxRecDepth 20000 in
theorem wX5_must {X : zCx} {res : zOS}  {qD : Nat → Nat} {x1 : Int32} {sD : zOS} (C : zC X RX5 cX5_must 2 0 0) (hR : zR X none none [(5, qD, res)])  : zJ X 2 res (fX5_must x1 sD) 0 [(0, (.ref (qD 0))), (1, (.int x1))] [] [(5, qD, sD)] := by
  unfold fX5_must
  refine z_aload_n (pc := 0) 0 rfl rfl C dX5_must_0 ?_
  refine z_getI (pc := 1) 0 21 C dX5_must_1 rfl (by decide) (by decide) rfl zw_736 ?_
  refine z_iconst (pc := 4) (-1 : Int32) (by decide) C dX5_must_4 ?_
  refine z_icmp_ne (pc := 5) 33 C dX5_must_5 (by decide) ?_ ?_
  · refine z_iload_n (pc := 8) 1 rfl rfl C dX5_must_8 ?_
    refine z_if_eq (pc := 9) 25 C dX5_must_9 (by decide) ?_ ?_
    · refine z_aload_n (pc := 25) 0 rfl rfl C dX5_must_25 ?_
      refine z_aload_n (pc := 26) 0 rfl rfl C dX5_must_26 ?_
      refine z_getI (pc := 27) 0 20 C dX5_must_27 rfl (by decide) (by decide) rfl zw_735 ?_
      refine z_putI (pc := 30) 0 21 C dX5_must_30 rfl (by decide) (by decide) rfl zw_736 rfl rfl rfl [(5, qD, (zsF sD 21 (zF sD 20)))] rfl ?_
      refine z_letc (fun z9 => [(5, qD, z9)]) (fun sD_1 => ?_)
      exact z_return (pc := 33) C hR dX5_must_33 (fun h => by subst h; exact ⟨rfl, rfl⟩)
    · refine z_aload_n (pc := 12) 0 rfl rfl C dX5_must_12 ?_
      refine z_dup (pc := 13) rfl C dX5_must_13 ?_
      refine z_getI (pc := 14) 0 20 C dX5_must_14 rfl (by decide) (by decide) rfl zw_735 ?_
      refine z_iconst (pc := 17) (1 : Int32) (by decide) C dX5_must_17 ?_
      refine z_iadd (pc := 18) C dX5_must_18 ?_
      refine z_putI (pc := 19) 0 20 C dX5_must_19 rfl (by decide) (by decide) rfl zw_735 rfl rfl rfl [(5, qD, (zsF sD 20 ((zF sD 20) + (1 : Int32))))] rfl ?_
      refine z_letc (fun z9 => [(5, qD, z9)]) (fun sD_2 => ?_)
      refine z_goto (pc := 22) 33 C dX5_must_22 (by decide) ?_
      exact z_return (pc := 33) C hR dX5_must_33 (fun h => by subst h; exact ⟨rfl, rfl⟩)
  · exact z_return (pc := 33) C hR dX5_must_33 (fun h => by subst h; exact ⟨rfl, rfl⟩)
theorem mX5_must  {qD : Nat → Nat} {x1 : Int32} {sD : zOS} {res : zOS}  (hf : fX5_must x1 sD = some res) : zM yX5_must cX5_must 2 none 0 0 [(.ref (qD 0)), (.int x1)] [(5, qD, sD)] none [(5, qD, res)] := zM_of (by decide +kernel) (Nat.le_of_ble_eq_true rfl) (fun X C hR => wX5_must C hR  hf)
theorem dX5_numbersOf_0 : decode cX5_numbersOf 0 = .ok (.iload_n 0, 1) := by decide +kernel
theorem dX5_numbersOf_1 : decode cX5_numbersOf 1 = .ok (.tableswitch 81 100 114 #[75, 81, 79, 81, 81, 81, 81, 81, 81, 77, 81, 81, 77, 81, 75], 75) := by decide +kernel
theorem dX5_numbersOf_76 : decode cX5_numbersOf 76 = .ok (.iconst 5, 1) := by decide +kernel
theorem dX5_numbersOf_77 : decode cX5_numbersOf 77 = .ok (.ireturn, 1) := by decide +kernel
theorem dX5_numbersOf_78 : decode cX5_numbersOf 78 = .ok (.iconst 3, 1) := by decide +kernel
theorem dX5_numbersOf_79 : decode cX5_numbersOf 79 = .ok (.ireturn, 1) := by decide +kernel
theorem dX5_numbersOf_80 : decode cX5_numbersOf 80 = .ok (.iconst 0, 1) := by decide +kernel
theorem dX5_numbersOf_81 : decode cX5_numbersOf 81 = .ok (.ireturn, 1) := by decide +kernel
theorem dX5_numbersOf_82 : decode cX5_numbersOf 82 = .ok (.iconst (-1), 1) := by decide +kernel
theorem dX5_numbersOf_83 : decode cX5_numbersOf 83 = .ok (.ireturn, 1) := by decide +kernel
def fX5_numbersOf (x0 : Int32) : Option (Int32) := (if x0 = (100 : Int32) then (some ((5 : Int32))) else (if x0 = (102 : Int32) then (some ((0 : Int32))) else (if x0 = (109 : Int32) then (some ((3 : Int32))) else (if x0 = (112 : Int32) then (some ((3 : Int32))) else (if x0 = (114 : Int32) then (some ((5 : Int32))) else (some ((-1 : Int32))))))))
set_option maxRecDepth 20000 in
theorem wX5_numbersOf {X : zCx} {res : Int32}   {x0 : Int32} (C : zC X RX5 cX5_numbersOf 1 0 0) (hR : zR X (some .int) (some (.int res)) [])  : zJ X 1 res (fX5_numbersOf x0) 0 [(0, (.int x0))] [] [] := by
  unfold fX5_numbersOf
  refine z_iload_n (pc := 0) 0 rfl rfl C dX5_numbersOf_0 ?_
  refine z_if (fun hx_1 => ?_) (fun hx_1 => ?_)
  · refine z_tin (pc := 1) (100 : Int32) 76 hx_1 C dX5_numbersOf_1 (by decide) (by decide) rfl (by decide) ?_
    refine z_iconst (pc := 76) (5 : Int32) (by decide) C dX5_numbersOf_76 ?_
    exact z_ireturn (pc := 77) C hR dX5_numbersOf_77 (fun h => by subst h; exact ⟨rfl, rfl⟩)
  · refine z_if (fun hx_2 => ?_) (fun hx_2 => ?_)
    · refine z_tin (pc := 1) (102 : Int32) 80 hx_2 C dX5_numbersOf_1 (by decide) (by decide) rfl (by decide) ?_
      refine z_iconst (pc := 80) (0 : Int32) (by decide) C dX5_numbersOf_80 ?_
      exact z_ireturn (pc := 81) C hR dX5_numbersOf_81 (fun h => by subst h; exact ⟨rfl, rfl⟩)
    · refine z_if (fun hx_3 => ?_) (fun hx_3 => ?_)
      · refine z_tin (pc := 1) (109 : Int32) 78 hx_3 C dX5_numbersOf_1 (by decide) (by decide) rfl (by decide) ?_
        refine z_iconst (pc := 78) (3 : Int32) (by decide) C dX5_numbersOf_78 ?_
        exact z_ireturn (pc := 79) C hR dX5_numbersOf_79 (fun h => by subst h; exact ⟨rfl, rfl⟩)
      · refine z_if (fun hx_4 => ?_) (fun hx_4 => ?_)
        · refine z_tin (pc := 1) (112 : Int32) 78 hx_4 C dX5_numbersOf_1 (by decide) (by decide) rfl (by decide) ?_
          refine z_iconst (pc := 78) (3 : Int32) (by decide) C dX5_numbersOf_78 ?_
          exact z_ireturn (pc := 79) C hR dX5_numbersOf_79 (fun h => by subst h; exact ⟨rfl, rfl⟩)
        · refine z_if (fun hx_5 => ?_) (fun hx_5 => ?_)
          · refine z_tin (pc := 1) (114 : Int32) 76 hx_5 C dX5_numbersOf_1 (by decide) (by decide) rfl (by decide) ?_
            refine z_iconst (pc := 76) (5 : Int32) (by decide) C dX5_numbersOf_76 ?_
            exact z_ireturn (pc := 77) C hR dX5_numbersOf_77 (fun h => by subst h; exact ⟨rfl, rfl⟩)
          · refine z_tdef (pc := 1) [(100 : Int32), (102 : Int32), (109 : Int32), (112 : Int32), (114 : Int32)] 82 (by intro v hv; simp only [List.mem_cons, List.not_mem_nil, or_false] at hv; rcases hv with rfl | rfl | rfl | rfl | rfl <;> assumption) C dX5_numbersOf_1 (by decide) (by decide) ?_
            refine z_iconst (pc := 82) (-1 : Int32) (by decide) C dX5_numbersOf_82 ?_
            exact z_ireturn (pc := 83) C hR dX5_numbersOf_83 (fun h => by subst h; exact ⟨rfl, rfl⟩)
theorem mX5_numbersOf   {x0 : Int32} {res : Int32}  (hf : fX5_numbersOf x0 = some res) : zM yX5_numbersOf cX5_numbersOf 1 (some .int) 0 0 [(.int x0)] [] (some (.int res)) [] := zM_of (by decide +kernel) (Nat.le_of_ble_eq_true rfl) (fun X C hR => wX5_numbersOf C hR  hf)
theorem dX5_readOrder_0 : decode cX5_readOrder 0 = .ok (.aload_n 0, 1) := by decide +kernel
theorem dX5_readOrder_1 : decode cX5_readOrder 1 = .ok (.invokevirtual 246, 3) := by decide +kernel
theorem dX5_readOrder_4 : decode cX5_readOrder 4 = .ok (.istore_n 1, 1) := by decide +kernel
theorem dX5_readOrder_5 : decode cX5_readOrder 5 = .ok (.iload_n 1, 1) := by decide +kernel
theorem dX5_readOrder_6 : decode cX5_readOrder 6 = .ok (.invokestatic 249, 3) := by decide +kernel
theorem dX5_readOrder_9 : decode cX5_readOrder 9 = .ok (.istore_n 2, 1) := by decide +kernel
theorem dX5_readOrder_10 : decode cX5_readOrder 10 = .ok (.aload_n 0, 1) := by decide +kernel
theorem dX5_readOrder_11 : decode cX5_readOrder 11 = .ok (.iload_n 2, 1) := by decide +kernel
theorem dX5_readOrder_12 : decode cX5_readOrder 12 = .ok (.iconst (-1), 1) := by decide +kernel
theorem dX5_readOrder_13 : decode cX5_readOrder 13 = .ok (.if_icmp .eq 7, 3) := by decide +kernel
theorem dX5_readOrder_16 : decode cX5_readOrder 16 = .ok (.iconst 1, 1) := by decide +kernel
theorem dX5_readOrder_17 : decode cX5_readOrder 17 = .ok (.goto 4, 3) := by decide +kernel
theorem dX5_readOrder_20 : decode cX5_readOrder 20 = .ok (.iconst 0, 1) := by decide +kernel
theorem dX5_readOrder_21 : decode cX5_readOrder 21 = .ok (.invokevirtual 252, 3) := by decide +kernel
theorem dX5_readOrder_24 : decode cX5_readOrder 24 = .ok (.iconst 0, 1) := by decide +kernel
theorem dX5_readOrder_25 : decode cX5_readOrder 25 = .ok (.istore_n 3, 1) := by decide +kernel
theorem dX5_readOrder_26 : decode cX5_readOrder 26 = .ok (.iload_n 3, 1) := by decide +kernel
theorem dX5_readOrder_27 : decode cX5_readOrder 27 = .ok (.iload_n 2, 1) := by decide +kernel
theorem dX5_readOrder_28 : decode cX5_readOrder 28 = .ok (.if_icmp .ge 53, 3) := by decide +kernel
theorem dX5_readOrder_31 : decode cX5_readOrder 31 = .ok (.aload_n 0, 1) := by decide +kernel
theorem dX5_readOrder_32 : decode cX5_readOrder 32 = .ok (.getfield 243, 3) := by decide +kernel
theorem dX5_readOrder_35 : decode cX5_readOrder 35 = .ok (.iconst (-1), 1) := by decide +kernel
theorem dX5_readOrder_36 : decode cX5_readOrder 36 = .ok (.if_icmp .ne 45, 3) := by decide +kernel
theorem dX5_readOrder_39 : decode cX5_readOrder 39 = .ok (.aload_n 0, 1) := by decide +kernel
theorem dX5_readOrder_40 : decode cX5_readOrder 40 = .ok (.invokevirtual 246, 3) := by decide +kernel
theorem dX5_readOrder_43 : decode cX5_readOrder 43 = .ok (.bipush 48, 2) := by decide +kernel
theorem dX5_readOrder_45 : decode cX5_readOrder 45 = .ok (.isub, 1) := by decide +kernel
theorem dX5_readOrder_46 : decode cX5_readOrder 46 = .ok (.istore 4, 2) := by decide +kernel
theorem dX5_readOrder_48 : decode cX5_readOrder 48 = .ok (.aload_n 0, 1) := by decide +kernel
theorem dX5_readOrder_49 : decode cX5_readOrder 49 = .ok (.iload 4, 2) := by decide +kernel
theorem dX5_readOrder_51 : decode cX5_readOrder 51 = .ok (.iconst 0, 1) := by decide +kernel
theorem dX5_readOrder_52 : decode cX5_readOrder 52 = .ok (.bipush 9, 2) := by decide +kernel
theorem dX5_readOrder_54 : decode cX5_readOrder 54 = .ok (.invokestatic 67, 3) := by decide +kernel
theorem dX5_readOrder_57 : decode cX5_readOrder 57 = .ok (.invokevirtual 252, 3) := by decide +kernel
theorem dX5_readOrder_60 : decode cX5_readOrder 60 = .ok (.aload_n 0, 1) := by decide +kernel
theorem dX5_readOrder_61 : decode cX5_readOrder 61 = .ok (.getfield 49, 3) := by decide +kernel
theorem dX5_readOrder_64 : decode cX5_readOrder 64 = .ok (.iconst 5, 1) := by decide +kernel
theorem dX5_readOrder_65 : decode cX5_readOrder 65 = .ok (.aload_n 0, 1) := by decide +kernel
theorem dX5_readOrder_66 : decode cX5_readOrder 66 = .ok (.getfield 256, 3) := by decide +kernel
theorem dX5_readOrder_69 : decode cX5_readOrder 69 = .ok (.imul, 1) := by decide +kernel
theorem dX5_readOrder_70 : decode cX5_readOrder 70 = .ok (.iload_n 3, 1) := by decide +kernel
theorem dX5_readOrder_71 : decode cX5_readOrder 71 = .ok (.iadd, 1) := by decide +kernel
theorem dX5_readOrder_72 : decode cX5_readOrder 72 = .ok (.iload 4, 2) := by decide +kernel
theorem dX5_readOrder_74 : decode cX5_readOrder 74 = .ok (.iastore, 1) := by decide +kernel
theorem dX5_readOrder_75 : decode cX5_readOrder 75 = .ok (.iinc 3 1, 3) := by decide +kernel
theorem dX5_readOrder_78 : decode cX5_readOrder 78 = .ok (.goto (-52), 3) := by decide +kernel
theorem dX5_readOrder_81 : decode cX5_readOrder 81 = .ok (.aload_n 0, 1) := by decide +kernel
theorem dX5_readOrder_82 : decode cX5_readOrder 82 = .ok (.getfield 243, 3) := by decide +kernel
theorem dX5_readOrder_85 : decode cX5_readOrder 85 = .ok (.iconst (-1), 1) := by decide +kernel
theorem dX5_readOrder_86 : decode cX5_readOrder 86 = .ok (.if_icmp .ne 41, 3) := by decide +kernel
theorem dX5_readOrder_89 : decode cX5_readOrder 89 = .ok (.aload_n 0, 1) := by decide +kernel
theorem dX5_readOrder_90 : decode cX5_readOrder 90 = .ok (.getfield 46, 3) := by decide +kernel
theorem dX5_readOrder_93 : decode cX5_readOrder 93 = .ok (.aload_n 0, 1) := by decide +kernel
theorem dX5_readOrder_94 : decode cX5_readOrder 94 = .ok (.getfield 256, 3) := by decide +kernel
theorem dX5_readOrder_97 : decode cX5_readOrder 97 = .ok (.iload_n 1, 1) := by decide +kernel
theorem dX5_readOrder_98 : decode cX5_readOrder 98 = .ok (.iastore, 1) := by decide +kernel
theorem dX5_readOrder_99 : decode cX5_readOrder 99 = .ok (.aload_n 0, 1) := by decide +kernel
theorem dX5_readOrder_100 : decode cX5_readOrder 100 = .ok (.dup, 1) := by decide +kernel
theorem dX5_readOrder_101 : decode cX5_readOrder 101 = .ok (.getfield 256, 3) := by decide +kernel
theorem dX5_readOrder_104 : decode cX5_readOrder 104 = .ok (.iconst 1, 1) := by decide +kernel
theorem dX5_readOrder_105 : decode cX5_readOrder 105 = .ok (.iadd, 1) := by decide +kernel
theorem dX5_readOrder_106 : decode cX5_readOrder 106 = .ok (.putfield 256, 3) := by decide +kernel
theorem dX5_readOrder_109 : decode cX5_readOrder 109 = .ok (.aload_n 0, 1) := by decide +kernel
theorem dX5_readOrder_110 : decode cX5_readOrder 110 = .ok (.aload_n 0, 1) := by decide +kernel
theorem dX5_readOrder_111 : decode cX5_readOrder 111 = .ok (.invokevirtual 246, 3) := by decide +kernel
theorem dX5_readOrder_114 : decode cX5_readOrder 114 = .ok (.bipush 59, 2) := by decide +kernel
theorem dX5_readOrder_116 : decode cX5_readOrder 116 = .ok (.if_icmp .ne 7, 3) := by decide +kernel
theorem dX5_readOrder_119 : decode cX5_readOrder 119 = .ok (.iconst 1, 1) := by decide +kernel
theorem dX5_readOrder_120 : decode cX5_readOrder 120 = .ok (.goto 4, 3) := by decide +kernel
theorem dX5_readOrder_123 : decode cX5_readOrder 123 = .ok (.iconst 0, 1) := by decide +kernel
theorem dX5_readOrder_124 : decode cX5_readOrder 124 = .ok (.invokevirtual 252, 3) := by decide +kernel
theorem dX5_readOrder_127 : decode cX5_readOrder 127 = .ok (.return_, 1) := by decide +kernel
def jX5_readOrder_124 (F : Nat) (v0 : Int32) (sD : zOS) : Option (zOS) := (Option.bind (fX5_must v0 sD) (fun r_12 : zOS => (some (r_12))))
set_option maxRecDepth 20000 in
theorem wX5_readOrder_124 {X : zCx} {res : zOS} {F : Nat} {qD : Nat → Nat} (C : zC X RX5 cX5_readOrder 5 1 22) (hR : zR X none none [(5, qD, res)]) (sD : zOS) (v0 : Int32) : zJ X 5 res (jX5_readOrder_124 F v0 sD) 124 [] [(.int v0), (.ref (qD 0))] [(5, qD, sD)] := by
  unfold jX5_readOrder_124
  refine z_callV (pc := 124) (rf' := 0) (rl' := 0) (fX5_must v0 sD) [(.int v0)] [] [(5, qD, sD)] (fun r_12 => none) (fun r_12 => [(5, qD, r_12)]) [] (fun r_12 => [(5, qD, r_12)]) C dX5_readOrder_124 zy_X5_must zw_1085 (fun _ hr9 => mX5_must  hr9) (by decide) rfl rfl (by decide) rfl (Nat.le_of_ble_eq_true rfl) (List.Perm.refl _) (fun _ => List.Perm.refl _) rfl (fun r_12 hr_13 => ?_)
  show zJ X 5 res _ 127 [] [] [(5, qD, r_12)]
  exact z_return (pc := 127) C hR dX5_readOrder_127 (fun h => by subst h; exact ⟨rfl, rfl⟩)
def jX5_readOrder_81 (F : Nat) (x1 : Int32) (sD : zOS) : Option (zOS) := (if (zF sD 21) = (-1 : Int32) then (zchk (zF sD 22) 80 (zlet (zsI sD 13 (upd (zI sD 13) (zF sD 22).toNatClampNeg x1)) (fun sD_8 : zOS => (zlet (zsF sD_8 22 ((zF sD_8 22) + (1 : Int32))) (fun sD_9 : zOS => (Option.bind (fX5_here F sD_9) (fun r_10 : Int32 × zOS => (if r_10.1 = (59 : Int32) then (jX5_readOrder_124 F (1 : Int32) r_10.2) else (jX5_readOrder_124 F (0 : Int32) r_10.2))))))))) else (some (sD)))
set_option maxRecDepth 20000 in
theorem wX5_readOrder_81 {X : zCx} {res : zOS} {F : Nat} {qD : Nat → Nat} (C : zC X RX5 cX5_readOrder 5 1 22) (hR : zR X none none [(5, qD, res)]) (x1 : Int32) (sD : zOS) : zJ X 5 res (jX5_readOrder_81 F x1 sD) 81 [(0, (.ref (qD 0))), (1, (.int x1))] [] [(5, qD, sD)] := by
  unfold jX5_readOrder_81
  refine z_aload_n (pc := 81) 0 rfl rfl C dX5_readOrder_81 ?_
  refine z_getI (pc := 82) 0 21 C dX5_readOrder_82 rfl (by decide) (by decide) rfl zw_736 ?_
  refine z_iconst (pc := 85) (-1 : Int32) (by decide) C dX5_readOrder_85 ?_
  refine z_icmp_ne (pc := 86) 127 C dX5_readOrder_86 (by decide) ?_ ?_
  · refine z_aload_n (pc := 89) 0 rfl rfl C dX5_readOrder_89 ?_
    refine z_getR (pc := 90) 0 23 13 C dX5_readOrder_90 rfl (by decide) (by decide) rfl zw_738 ?_
    refine z_aload_n (pc := 93) 0 rfl rfl C dX5_readOrder_93 ?_
    refine z_getI (pc := 94) 0 22 C dX5_readOrder_94 rfl (by decide) (by decide) rfl zw_737 ?_
    refine z_iload_n (pc := 97) 1 rfl rfl C dX5_readOrder_97 ?_
    refine z_iast (pc := 98) 0 C dX5_readOrder_98 rfl (by unfold zAr; decide) [(5, qD, (zsI sD 13 (upd (zI sD 13) (zF sD 22).toNatClampNeg x1)))] rfl ?_
    refine z_letc (fun z9 => [(5, qD, z9)]) (fun sD_8 => ?_)
    refine z_aload_n (pc := 99) 0 rfl rfl C dX5_readOrder_99 ?_
    refine z_dup (pc := 100) rfl C dX5_readOrder_100 ?_
    refine z_getI (pc := 101) 0 22 C dX5_readOrder_101 rfl (by decide) (by decide) rfl zw_737 ?_
    refine z_iconst (pc := 104) (1 : Int32) (by decide) C dX5_readOrder_104 ?_
    refine z_iadd (pc := 105) C dX5_readOrder_105 ?_
    refine z_putI (pc := 106) 0 22 C dX5_readOrder_106 rfl (by decide) (by decide) rfl zw_737 rfl rfl rfl [(5, qD, (zsF sD_8 22 ((zF sD_8 22) + (1 : Int32))))] rfl ?_
    refine z_letc (fun z9 => [(5, qD, z9)]) (fun sD_9 => ?_)
    refine z_aload_n (pc := 109) 0 rfl rfl C dX5_readOrder_109 ?_
    refine z_aload_n (pc := 110) 0 rfl rfl C dX5_readOrder_110 ?_
    refine z_callV (pc := 111) (rf' := 0) (rl' := 0) (fX5_here F sD_9) [] [(.ref (qD 0))] [(5, qD, sD_9)] (fun r_10 => (some (.int r_10.1))) (fun r_10 => [(5, qD, r_10.2)]) [] (fun r_10 => [(5, qD, r_10.2)]) C dX5_readOrder_111 zy_X5_here zw_1074 (fun _ hr9 => mX5_here  hr9) (by decide) rfl rfl (by decide) rfl (Nat.le_of_ble_eq_true rfl) (List.Perm.refl _) (fun _ => List.Perm.refl _) rfl (fun r_10 hr_11 => ?_)
    show zJ X 5 res _ 114 [(0, (.ref (qD 0))), (1, (.int x1))] [(.int r_10.1), (.ref (qD 0))] [(5, qD, r_10.2)]
    refine z_bipush (pc := 114) (59 : Int32) (by decide) C dX5_readOrder_114 ?_
    refine z_icmp_ne (pc := 116) 123 C dX5_readOrder_116 (by decide) ?_ ?_
    · refine z_iconst (pc := 119) (1 : Int32) (by decide) C dX5_readOrder_119 ?_
      refine z_goto (pc := 120) 124 C dX5_readOrder_120 (by decide) ?_
      refine z_lv [] [] rfl ?_
      exact wX5_readOrder_124 C hR   _ _
    · refine z_iconst (pc := 123) (0 : Int32) (by decide) C dX5_readOrder_123 ?_
      refine z_lv [] [] rfl ?_
      exact wX5_readOrder_124 C hR   _ _
  · exact z_return (pc := 127) C hR dX5_readOrder_127 (fun h => by subst h; exact ⟨rfl, rfl⟩)
def bX5_readOrder_26 (F : Nat) (x1 : Int32) (x2 : Int32) (kc_26 : (Int32 × zOS) → Option (zOS)) (x3 : Int32) (sD : zOS) : Option (zOS) := (if x2 ≤ x3 then (jX5_readOrder_81 F x1 sD) else (if (zF sD 21) = (-1 : Int32) then (Option.bind (fX5_here F sD) (fun r_14 : Int32 × zOS => (zlet (r_14.1 - (48 : Int32)) (fun x4_16 : Int32 => (Option.bind (fX5_in x4_16 (0 : Int32) (9 : Int32)) (fun r_17 : Int32 => (Option.bind (fX5_must r_17 r_14.2) (fun r_19 : zOS => (zchk (((5 : Int32) * (zF r_19 22)) + x3) 400 (zlet (zsI r_19 14 (upd (zI r_19 14) (((5 : Int32) * (zF r_19 22)) + x3).toNatClampNeg x4_16)) (fun sD_21 : zOS => (kc_26 ((x3 + 1), sD_21))))))))))))) else (jX5_readOrder_81 F x1 sD)))
set_option maxRecDepth 20000 in
theorem vX5_readOrder_26 {X : zCx} {res : zOS} {F : Nat} {qD : Nat → Nat} {x1 : Int32} {x2 : Int32} {kc_26 : (Int32 × zOS) → Option (zOS)} (C : zC X RX5 cX5_readOrder 5 1 22) (hR : zR X none none [(5, qD, res)]) (hk_26 : ∀ (y3 : Int32) (tD : zOS), zJ X 5 res (kc_26 (y3, tD)) 26 [(0, (.ref (qD 0))), (1, (.int x1)), (2, (.int x2)), (3, (.int y3))] [] [(5, qD, tD)]) (x3 : Int32) (sD : zOS) : zJ X 5 res (bX5_readOrder_26 F x1 x2 kc_26 x3 sD) 26 [(0, (.ref (qD 0))), (1, (.int x1)), (2, (.int x2)), (3, (.int x3))] [] [(5, qD, sD)] := by
  unfold bX5_readOrder_26
  refine z_iload_n (pc := 26) 3 rfl rfl C dX5_readOrder_26 ?_
  refine z_iload_n (pc := 27) 2 rfl rfl C dX5_readOrder_27 ?_
  refine z_icmp_ge (pc := 28) 81 C dX5_readOrder_28 (by decide) ?_ ?_
  · refine z_lv [(0, (.ref (qD 0))), (1, (.int x1))] [0, 1] rfl ?_
    exact wX5_readOrder_81 C hR   _ _
  · refine z_aload_n (pc := 31) 0 rfl rfl C dX5_readOrder_31 ?_
    refine z_getI (pc := 32) 0 21 C dX5_readOrder_32 rfl (by decide) (by decide) rfl zw_736 ?_
    refine z_iconst (pc := 35) (-1 : Int32) (by decide) C dX5_readOrder_35 ?_
    refine z_icmp_ne (pc := 36) 81 C dX5_readOrder_36 (by decide) ?_ ?_
    · refine z_aload_n (pc := 39) 0 rfl rfl C dX5_readOrder_39 ?_
      refine z_callV (pc := 40) (rf' := 0) (rl' := 0) (fX5_here F sD) [] [] [(5, qD, sD)] (fun r_14 => (some (.int r_14.1))) (fun r_14 => [(5, qD, r_14.2)]) [] (fun r_14 => [(5, qD, r_14.2)]) C dX5_readOrder_40 zy_X5_here zw_1074 (fun _ hr9 => mX5_here  hr9) (by decide) rfl rfl (by decide) rfl (Nat.le_of_ble_eq_true rfl) (List.Perm.refl _) (fun _ => List.Perm.refl _) rfl (fun r_14 hr_15 => ?_)
      show zJ X 5 res _ 43 [(0, (.ref (qD 0))), (1, (.int x1)), (2, (.int x2)), (3, (.int x3))] [(.int r_14.1)] [(5, qD, r_14.2)]
      refine z_bipush (pc := 43) (48 : Int32) (by decide) C dX5_readOrder_43 ?_
      refine z_isub (pc := 45) C dX5_readOrder_45 ?_
      refine z_leti (fun x4_16 => ?_)
      refine z_istore (pc := 46) [(0, (.ref (qD 0))), (1, (.int x1)), (2, (.int x2)), (3, (.int x3)), (4, (.int x4_16))] [1, 2, 3, 4, 0] (by decide) rfl C dX5_readOrder_46 ?_
      refine z_aload_n (pc := 48) 0 rfl rfl C dX5_readOrder_48 ?_
      refine z_iload (pc := 49) 4 rfl C dX5_readOrder_49 ?_
      refine z_iconst (pc := 51) (0 : Int32) (by decide) C dX5_readOrder_51 ?_
      refine z_bipush (pc := 52) (9 : Int32) (by decide) C dX5_readOrder_52 ?_
      refine z_callS (pc := 54) (rf' := 0) (rl' := 0) (fX5_in x4_16 (0 : Int32) (9 : Int32)) [(.int x4_16), (.int (0 : Int32)), (.int (9 : Int32))] [(.ref (qD 0))] [] (fun r_17 => (some (.int r_17))) (fun r_17 => []) [(5, qD, r_14.2)] (fun r_17 => [(5, qD, r_14.2)]) C dX5_readOrder_54 zy_X5_in zw_814 (fun _ hr9 => mX5_in  hr9) (by decide) rfl (Nat.le_of_ble_eq_true rfl) (List.Perm.refl _) (fun _ => List.Perm.refl _) rfl (fun r_17 hr_18 => ?_)
      show zJ X 5 res _ 57 [(0, (.ref (qD 0))), (1, (.int x1)), (2, (.int x2)), (3, (.int x3)), (4, (.int x4_16))] [(.int r_17), (.ref (qD 0))] [(5, qD, r_14.2)]
      refine z_callV (pc := 57) (rf' := 0) (rl' := 0) (fX5_must r_17 r_14.2) [(.int r_17)] [] [(5, qD, r_14.2)] (fun r_19 => none) (fun r_19 => [(5, qD, r_19)]) [] (fun r_19 => [(5, qD, r_19)]) C dX5_readOrder_57 zy_X5_must zw_1085 (fun _ hr9 => mX5_must  hr9) (by decide) rfl rfl (by decide) rfl (Nat.le_of_ble_eq_true rfl) (List.Perm.refl _) (fun _ => List.Perm.refl _) rfl (fun r_19 hr_20 => ?_)
      show zJ X 5 res _ 60 [(0, (.ref (qD 0))), (1, (.int x1)), (2, (.int x2)), (3, (.int x3)), (4, (.int x4_16))] [] [(5, qD, r_19)]
      refine z_aload_n (pc := 60) 0 rfl rfl C dX5_readOrder_60 ?_
      refine z_getR (pc := 61) 0 24 14 C dX5_readOrder_61 rfl (by decide) (by decide) rfl zw_739 ?_
      refine z_iconst (pc := 64) (5 : Int32) (by decide) C dX5_readOrder_64 ?_
      refine z_aload_n (pc := 65) 0 rfl rfl C dX5_readOrder_65 ?_
      refine z_getI (pc := 66) 0 22 C dX5_readOrder_66 rfl (by decide) (by decide) rfl zw_737 ?_
      refine z_imul (pc := 69) C dX5_readOrder_69 ?_
      refine z_iload_n (pc := 70) 3 rfl rfl C dX5_readOrder_70 ?_
      refine z_iadd (pc := 71) C dX5_readOrder_71 ?_
      refine z_iload (pc := 72) 4 rfl C dX5_readOrder_72 ?_
      refine z_iast (pc := 74) 0 C dX5_readOrder_74 rfl (by unfold zAr; decide) [(5, qD, (zsI r_19 14 (upd (zI r_19 14) (((5 : Int32) * (zF r_19 22)) + x3).toNatClampNeg x4_16)))] rfl ?_
      refine z_letc (fun z9 => [(5, qD, z9)]) (fun sD_21 => ?_)
      refine z_iinc (pc := 75) (x3 + 1) 3 rfl rfl [(0, (.ref (qD 0))), (1, (.int x1)), (2, (.int x2)), (3, (.int (x3 + 1))), (4, (.int x4_16))] [1, 2, 3, 0, 4] (by decide) rfl C dX5_readOrder_75 ?_
      refine z_goto (pc := 78) 26 C dX5_readOrder_78 (by decide) ?_
      refine z_lv [(0, (.ref (qD 0))), (1, (.int x1)), (2, (.int x2)), (3, (.int (x3 + 1)))] [0, 1, 2, 3] rfl ?_
      exact hk_26 _ _
    · refine z_lv [(0, (.ref (qD 0))), (1, (.int x1))] [0, 1] rfl ?_
      exact wX5_readOrder_81 C hR   _ _
def jX5_readOrder_21 (F : Nat) (x1 : Int32) (x2 : Int32) (v0 : Int32) (sD : zOS) : Option (zOS) := (Option.bind (fX5_must v0 sD) (fun r_6 : zOS => (zit (P := Int32 × zOS) (R := zOS) (fun kc9 p9 => bX5_readOrder_26 F x1 x2 kc9 p9.1 p9.2) F ((0 : Int32), r_6))))
set_option maxRecDepth 20000 in
theorem wX5_readOrder_21 {X : zCx} {res : zOS} {F : Nat} {qD : Nat → Nat} (C : zC X RX5 cX5_readOrder 5 1 22) (hR : zR X none none [(5, qD, res)]) (x1 : Int32) (x2 : Int32) (sD : zOS) (v0 : Int32) : zJ X 5 res (jX5_readOrder_21 F x1 x2 v0 sD) 21 [(0, (.ref (qD 0))), (1, (.int x1)), (2, (.int x2))] [(.int v0), (.ref (qD 0))] [(5, qD, sD)] := by
  unfold jX5_readOrder_21
  refine z_callV (pc := 21) (rf' := 0) (rl' := 0) (fX5_must v0 sD) [(.int v0)] [] [(5, qD, sD)] (fun r_6 => none) (fun r_6 => [(5, qD, r_6)]) [] (fun r_6 => [(5, qD, r_6)]) C dX5_readOrder_21 zy_X5_must zw_1085 (fun _ hr9 => mX5_must  hr9) (by decide) rfl rfl (by decide) rfl (Nat.le_of_ble_eq_true rfl) (List.Perm.refl _) (fun _ => List.Perm.refl _) rfl (fun r_6 hr_7 => ?_)
  show zJ X 5 res _ 24 [(0, (.ref (qD 0))), (1, (.int x1)), (2, (.int x2))] [] [(5, qD, r_6)]
  refine z_iconst (pc := 24) (0 : Int32) (by decide) C dX5_readOrder_24 ?_
  refine z_istore_n (pc := 25) [(0, (.ref (qD 0))), (1, (.int x1)), (2, (.int x2)), (3, (.int (0 : Int32)))] [1, 2, 3, 0] (by decide) rfl rfl C dX5_readOrder_25 ?_
  show zJ X 5 res _ 26 [(0, (.ref (qD 0))), (1, (.int x1)), (2, (.int x2)), (3, (.int (0 : Int32)))] [] [(5, qD, r_6)]
  exact zit_J (P := Int32 × zOS) (B := (fun kc9 p9 => bX5_readOrder_26 F x1 x2 kc9 p9.1 p9.2)) (fun p9 => [(0, (.ref (qD 0))), (1, (.int x1)), (2, (.int x2)), (3, (.int p9.1))]) (fun p9 => [(5, qD, p9.2)]) (fun kc9 hk9 p9 => vX5_readOrder_26 C hR   (fun a0 a1 => hk9 (a0, a1)) p9.1 p9.2) F _
def fX5_readOrder (F : Nat) (sD : zOS) : Option (zOS) := (Option.bind (fX5_here F sD) (fun r_1 : Int32 × zOS => (zlet r_1.1 (fun x1_3 : Int32 => (Option.bind (fX5_numbersOf x1_3) (fun r_4 : Int32 => (if r_4 = (-1 : Int32) then (jX5_readOrder_21 F x1_3 r_4 (0 : Int32) r_1.2) else (jX5_readOrder_21 F x1_3 r_4 (1 : Int32) r_1.2))))))))
set_option maxRecDepth 20000 in
theorem wX5_readOrder {X : zCx} {res : zOS} {F : Nat} {qD : Nat → Nat} {sD : zOS} (C : zC X RX5 cX5_readOrder 5 1 22) (hR : zR X none none [(5, qD, res)])  : zJ X 5 res (fX5_readOrder F sD) 0 [(0, (.ref (qD 0)))] [] [(5, qD, sD)] := by
  unfold fX5_readOrder
  refine z_aload_n (pc := 0) 0 rfl rfl C dX5_readOrder_0 ?_
  refine z_callV (pc := 1) (rf' := 0) (rl' := 0) (fX5_here F sD) [] [] [(5, qD, sD)] (fun r_1 => (some (.int r_1.1))) (fun r_1 => [(5, qD, r_1.2)]) [] (fun r_1 => [(5, qD, r_1.2)]) C dX5_readOrder_1 zy_X5_here zw_1074 (fun _ hr9 => mX5_here  hr9) (by decide) rfl rfl (by decide) rfl (Nat.le_of_ble_eq_true rfl) (List.Perm.refl _) (fun _ => List.Perm.refl _) rfl (fun r_1 hr_2 => ?_)
  show zJ X 5 res _ 4 [(0, (.ref (qD 0)))] [(.int r_1.1)] [(5, qD, r_1.2)]
  refine z_leti (fun x1_3 => ?_)
  refine z_istore_n (pc := 4) [(0, (.ref (qD 0))), (1, (.int x1_3))] [1, 0] (by decide) rfl rfl C dX5_readOrder_4 ?_
  refine z_iload_n (pc := 5) 1 rfl rfl C dX5_readOrder_5 ?_
  refine z_callS (pc := 6) (rf' := 0) (rl' := 0) (fX5_numbersOf x1_3) [(.int x1_3)] [] [] (fun r_4 => (some (.int r_4))) (fun r_4 => []) [(5, qD, r_1.2)] (fun r_4 => [(5, qD, r_1.2)]) C dX5_readOrder_6 zy_X5_numbersOf zw_1082 (fun _ hr9 => mX5_numbersOf  hr9) (by decide) rfl (Nat.le_of_ble_eq_true rfl) (List.Perm.refl _) (fun _ => List.Perm.refl _) rfl (fun r_4 hr_5 => ?_)
  show zJ X 5 res _ 9 [(0, (.ref (qD 0))), (1, (.int x1_3))] [(.int r_4)] [(5, qD, r_1.2)]
  refine z_istore_n (pc := 9) [(0, (.ref (qD 0))), (1, (.int x1_3)), (2, (.int r_4))] [1, 2, 0] (by decide) rfl rfl C dX5_readOrder_9 ?_
  refine z_aload_n (pc := 10) 0 rfl rfl C dX5_readOrder_10 ?_
  refine z_iload_n (pc := 11) 2 rfl rfl C dX5_readOrder_11 ?_
  refine z_iconst (pc := 12) (-1 : Int32) (by decide) C dX5_readOrder_12 ?_
  refine z_icmp_eq (pc := 13) 20 C dX5_readOrder_13 (by decide) ?_ ?_
  · refine z_iconst (pc := 20) (0 : Int32) (by decide) C dX5_readOrder_20 ?_
    exact wX5_readOrder_21 C hR   _ _ _ _
  · refine z_iconst (pc := 16) (1 : Int32) (by decide) C dX5_readOrder_16 ?_
    refine z_goto (pc := 17) 21 C dX5_readOrder_17 (by decide) ?_
    exact wX5_readOrder_21 C hR   _ _ _ _
theorem mX5_readOrder {F : Nat} {qD : Nat → Nat} {sD : zOS} {res : zOS}  (hf : fX5_readOrder F sD = some res) : zM yX5_readOrder cX5_readOrder 5 none 1 22 [(.ref (qD 0))] [(5, qD, sD)] none [(5, qD, res)] := zM_of (by decide +kernel) (Nat.le_of_ble_eq_true rfl) (fun X C hR => wX5_readOrder (F := F) C hR  hf)
theorem dX5_doOrder_0 : decode cX5_doOrder 0 = .ok (.aload_n 0, 1) := by decide +kernel
theorem dX5_doOrder_1 : decode cX5_doOrder 1 = .ok (.getfield 49, 3) := by decide +kernel
theorem dX5_doOrder_4 : decode cX5_doOrder 4 = .ok (.iconst 5, 1) := by decide +kernel
theorem dX5_doOrder_5 : decode cX5_doOrder 5 = .ok (.iload_n 1, 1) := by decide +kernel
theorem dX5_doOrder_6 : decode cX5_doOrder 6 = .ok (.imul, 1) := by decide +kernel
theorem dX5_doOrder_7 : decode cX5_doOrder 7 = .ok (.iaload, 1) := by decide +kernel
theorem dX5_doOrder_8 : decode cX5_doOrder 8 = .ok (.istore_n 2, 1) := by decide +kernel
theorem dX5_doOrder_9 : decode cX5_doOrder 9 = .ok (.aload_n 0, 1) := by decide +kernel
theorem dX5_doOrder_10 : decode cX5_doOrder 10 = .ok (.getfield 49, 3) := by decide +kernel
theorem dX5_doOrder_13 : decode cX5_doOrder 13 = .ok (.iconst 5, 1) := by decide +kernel
theorem dX5_doOrder_14 : decode cX5_doOrder 14 = .ok (.iload_n 1, 1) := by decide +kernel
theorem dX5_doOrder_15 : decode cX5_doOrder 15 = .ok (.imul, 1) := by decide +kernel
theorem dX5_doOrder_16 : decode cX5_doOrder 16 = .ok (.iconst 1, 1) := by decide +kernel
theorem dX5_doOrder_17 : decode cX5_doOrder 17 = .ok (.iadd, 1) := by decide +kernel
theorem dX5_doOrder_18 : decode cX5_doOrder 18 = .ok (.iaload, 1) := by decide +kernel
theorem dX5_doOrder_19 : decode cX5_doOrder 19 = .ok (.istore_n 3, 1) := by decide +kernel
theorem dX5_doOrder_20 : decode cX5_doOrder 20 = .ok (.aload_n 0, 1) := by decide +kernel
theorem dX5_doOrder_21 : decode cX5_doOrder 21 = .ok (.getfield 49, 3) := by decide +kernel
theorem dX5_doOrder_24 : decode cX5_doOrder 24 = .ok (.iconst 5, 1) := by decide +kernel
theorem dX5_doOrder_25 : decode cX5_doOrder 25 = .ok (.iload_n 1, 1) := by decide +kernel
theorem dX5_doOrder_26 : decode cX5_doOrder 26 = .ok (.imul, 1) := by decide +kernel
theorem dX5_doOrder_27 : decode cX5_doOrder 27 = .ok (.iconst 2, 1) := by decide +kernel
theorem dX5_doOrder_28 : decode cX5_doOrder 28 = .ok (.iadd, 1) := by decide +kernel
theorem dX5_doOrder_29 : decode cX5_doOrder 29 = .ok (.iaload, 1) := by decide +kernel
theorem dX5_doOrder_30 : decode cX5_doOrder 30 = .ok (.istore 4, 2) := by decide +kernel
theorem dX5_doOrder_32 : decode cX5_doOrder 32 = .ok (.aload_n 0, 1) := by decide +kernel
theorem dX5_doOrder_33 : decode cX5_doOrder 33 = .ok (.getfield 46, 3) := by decide +kernel
theorem dX5_doOrder_36 : decode cX5_doOrder 36 = .ok (.iload_n 1, 1) := by decide +kernel
theorem dX5_doOrder_37 : decode cX5_doOrder 37 = .ok (.iaload, 1) := by decide +kernel
theorem dX5_doOrder_38 : decode cX5_doOrder 38 = .ok (.lookupswitch 120 #[(100, 42), (109, 102), (112, 111), (114, 72)], 42) := by decide +kernel
theorem dX5_doOrder_80 : decode cX5_doOrder 80 = .ok (.aload_n 0, 1) := by decide +kernel
theorem dX5_doOrder_81 : decode cX5_doOrder 81 = .ok (.iload_n 2, 1) := by decide +kernel
theorem dX5_doOrder_82 : decode cX5_doOrder 82 = .ok (.iload_n 3, 1) := by decide +kernel
theorem dX5_doOrder_83 : decode cX5_doOrder 83 = .ok (.iload 4, 2) := by decide +kernel
theorem dX5_doOrder_85 : decode cX5_doOrder 85 = .ok (.aload_n 0, 1) := by decide +kernel
theorem dX5_doOrder_86 : decode cX5_doOrder 86 = .ok (.getfield 49, 3) := by decide +kernel
theorem dX5_doOrder_89 : decode cX5_doOrder 89 = .ok (.iconst 5, 1) := by decide +kernel
theorem dX5_doOrder_90 : decode cX5_doOrder 90 = .ok (.iload_n 1, 1) := by decide +kernel
theorem dX5_doOrder_91 : decode cX5_doOrder 91 = .ok (.imul, 1) := by decide +kernel
theorem dX5_doOrder_92 : decode cX5_doOrder 92 = .ok (.iconst 3, 1) := by decide +kernel
theorem dX5_doOrder_93 : decode cX5_doOrder 93 = .ok (.iadd, 1) := by decide +kernel
theorem dX5_doOrder_94 : decode cX5_doOrder 94 = .ok (.iaload, 1) := by decide +kernel
theorem dX5_doOrder_95 : decode cX5_doOrder 95 = .ok (.aload_n 0, 1) := by decide +kernel
theorem dX5_doOrder_96 : decode cX5_doOrder 96 = .ok (.getfield 49, 3) := by decide +kernel
theorem dX5_doOrder_99 : decode cX5_doOrder 99 = .ok (.iconst 5, 1) := by decide +kernel
theorem dX5_doOrder_100 : decode cX5_doOrder 100 = .ok (.iload_n 1, 1) := by decide +kernel
theorem dX5_doOrder_101 : decode cX5_doOrder 101 = .ok (.imul, 1) := by decide +kernel
theorem dX5_doOrder_102 : decode cX5_doOrder 102 = .ok (.iconst 4, 1) := by decide +kernel
theorem dX5_doOrder_103 : decode cX5_doOrder 103 = .ok (.iadd, 1) := by decide +kernel
theorem dX5_doOrder_104 : decode cX5_doOrder 104 = .ok (.iaload, 1) := by decide +kernel
theorem dX5_doOrder_105 : decode cX5_doOrder 105 = .ok (.iconst 1, 1) := by decide +kernel
theorem dX5_doOrder_106 : decode cX5_doOrder 106 = .ok (.invokevirtual 93, 3) := by decide +kernel
theorem dX5_doOrder_109 : decode cX5_doOrder 109 = .ok (.ireturn, 1) := by decide +kernel
theorem dX5_doOrder_110 : decode cX5_doOrder 110 = .ok (.aload_n 0, 1) := by decide +kernel
theorem dX5_doOrder_111 : decode cX5_doOrder 111 = .ok (.iload_n 2, 1) := by decide +kernel
theorem dX5_doOrder_112 : decode cX5_doOrder 112 = .ok (.iload_n 3, 1) := by decide +kernel
theorem dX5_doOrder_113 : decode cX5_doOrder 113 = .ok (.iload 4, 2) := by decide +kernel
theorem dX5_doOrder_115 : decode cX5_doOrder 115 = .ok (.aload_n 0, 1) := by decide +kernel
theorem dX5_doOrder_116 : decode cX5_doOrder 116 = .ok (.getfield 49, 3) := by decide +kernel
theorem dX5_doOrder_119 : decode cX5_doOrder 119 = .ok (.iconst 5, 1) := by decide +kernel
theorem dX5_doOrder_120 : decode cX5_doOrder 120 = .ok (.iload_n 1, 1) := by decide +kernel
theorem dX5_doOrder_121 : decode cX5_doOrder 121 = .ok (.imul, 1) := by decide +kernel
theorem dX5_doOrder_122 : decode cX5_doOrder 122 = .ok (.iconst 3, 1) := by decide +kernel
theorem dX5_doOrder_123 : decode cX5_doOrder 123 = .ok (.iadd, 1) := by decide +kernel
theorem dX5_doOrder_124 : decode cX5_doOrder 124 = .ok (.iaload, 1) := by decide +kernel
theorem dX5_doOrder_125 : decode cX5_doOrder 125 = .ok (.aload_n 0, 1) := by decide +kernel
theorem dX5_doOrder_126 : decode cX5_doOrder 126 = .ok (.getfield 49, 3) := by decide +kernel
theorem dX5_doOrder_129 : decode cX5_doOrder 129 = .ok (.iconst 5, 1) := by decide +kernel
theorem dX5_doOrder_130 : decode cX5_doOrder 130 = .ok (.iload_n 1, 1) := by decide +kernel
theorem dX5_doOrder_131 : decode cX5_doOrder 131 = .ok (.imul, 1) := by decide +kernel
theorem dX5_doOrder_132 : decode cX5_doOrder 132 = .ok (.iconst 4, 1) := by decide +kernel
theorem dX5_doOrder_133 : decode cX5_doOrder 133 = .ok (.iadd, 1) := by decide +kernel
theorem dX5_doOrder_134 : decode cX5_doOrder 134 = .ok (.iaload, 1) := by decide +kernel
theorem dX5_doOrder_135 : decode cX5_doOrder 135 = .ok (.iconst 0, 1) := by decide +kernel
theorem dX5_doOrder_136 : decode cX5_doOrder 136 = .ok (.invokevirtual 93, 3) := by decide +kernel
theorem dX5_doOrder_139 : decode cX5_doOrder 139 = .ok (.ireturn, 1) := by decide +kernel
theorem dX5_doOrder_140 : decode cX5_doOrder 140 = .ok (.aload_n 0, 1) := by decide +kernel
theorem dX5_doOrder_141 : decode cX5_doOrder 141 = .ok (.iload_n 2, 1) := by decide +kernel
theorem dX5_doOrder_142 : decode cX5_doOrder 142 = .ok (.iload_n 3, 1) := by decide +kernel
theorem dX5_doOrder_143 : decode cX5_doOrder 143 = .ok (.iload 4, 2) := by decide +kernel
theorem dX5_doOrder_145 : decode cX5_doOrder 145 = .ok (.invokevirtual 104, 3) := by decide +kernel
theorem dX5_doOrder_148 : decode cX5_doOrder 148 = .ok (.ireturn, 1) := by decide +kernel
theorem dX5_doOrder_149 : decode cX5_doOrder 149 = .ok (.aload_n 0, 1) := by decide +kernel
theorem dX5_doOrder_150 : decode cX5_doOrder 150 = .ok (.iload_n 2, 1) := by decide +kernel
theorem dX5_doOrder_151 : decode cX5_doOrder 151 = .ok (.iload_n 3, 1) := by decide +kernel
theorem dX5_doOrder_152 : decode cX5_doOrder 152 = .ok (.iload 4, 2) := by decide +kernel
theorem dX5_doOrder_154 : decode cX5_doOrder 154 = .ok (.invokevirtual 107, 3) := by decide +kernel
theorem dX5_doOrder_157 : decode cX5_doOrder 157 = .ok (.ireturn, 1) := by decide +kernel
theorem dX5_doOrder_158 : decode cX5_doOrder 158 = .ok (.aload_n 0, 1) := by decide +kernel
theorem dX5_doOrder_159 : decode cX5_doOrder 159 = .ok (.invokevirtual 110, 3) := by decide +kernel
theorem dX5_doOrder_162 : decode cX5_doOrder 162 = .ok (.ireturn, 1) := by decide +kernel
def fX5_doOrder (F : Nat) (x1 : Int32) (sD : zOS) : Option (Int32 × zOS) := (zchk ((5 : Int32) * x1) 400 (zlet (zI sD 14 ((5 : Int32) * x1).toNatClampNeg) (fun x2_1 : Int32 => (zchk (((5 : Int32) * x1) + (1 : Int32)) 400 (zlet (zI sD 14 (((5 : Int32) * x1) + (1 : Int32)).toNatClampNeg) (fun x3_2 : Int32 => (zchk (((5 : Int32) * x1) + (2 : Int32)) 400 (zlet (zI sD 14 (((5 : Int32) * x1) + (2 : Int32)).toNatClampNeg) (fun x4_3 : Int32 => (zchk x1 80 (if (zI sD 13 x1.toNatClampNeg) = (100 : Int32) then (zchk (((5 : Int32) * x1) + (3 : Int32)) 400 (zchk (((5 : Int32) * x1) + (4 : Int32)) 400 (Option.bind (fX5_paint F x2_1 x3_2 x4_3 (zI sD 14 (((5 : Int32) * x1) + (3 : Int32)).toNatClampNeg) (zI sD 14 (((5 : Int32) * x1) + (4 : Int32)).toNatClampNeg) (1 : Int32) sD) (fun r_5 : Int32 × zOS => (some (r_5.1, r_5.2)))))) else (if (zI sD 13 x1.toNatClampNeg) = (109 : Int32) then (Option.bind (fX5_doMeans x2_1 x3_2 x4_3 sD) (fun r_8 : Int32 × zOS => (some (r_8.1, r_8.2)))) else (if (zI sD 13 x1.toNatClampNeg) = (112 : Int32) then (Option.bind (fX5_doPins x2_1 x3_2 x4_3 sD) (fun r_11 : Int32 × zOS => (some (r_11.1, r_11.2)))) else (if (zI sD 13 x1.toNatClampNeg) = (114 : Int32) then (zchk (((5 : Int32) * x1) + (3 : Int32)) 400 (zchk (((5 : Int32) * x1) + (4 : Int32)) 400 (Option.bind (fX5_paint F x2_1 x3_2 x4_3 (zI sD 14 (((5 : Int32) * x1) + (3 : Int32)).toNatClampNeg) (zI sD 14 (((5 : Int32) * x1) + (4 : Int32)).toNatClampNeg) (0 : Int32) sD) (fun r_14 : Int32 × zOS => (some (r_14.1, r_14.2)))))) else (Option.bind (fX5_doForgets sD) (fun r_16 : Int32 × zOS => (some (r_16.1, r_16.2))))))))))))))))))
set_option maxRecDepth 20000 in
theorem wX5_doOrder {X : zCx} {res : Int32 × zOS} {F : Nat} {qD : Nat → Nat} {x1 : Int32} {sD : zOS} (C : zC X RX5 cX5_doOrder 5 3 72) (hR : zR X (some .int) (some (.int res.1)) [(5, qD, res.2)])  : zJ X 5 res (fX5_doOrder F x1 sD) 0 [(0, (.ref (qD 0))), (1, (.int x1))] [] [(5, qD, sD)] := by
  unfold fX5_doOrder
  refine z_aload_n (pc := 0) 0 rfl rfl C dX5_doOrder_0 ?_
  refine z_getR (pc := 1) 0 24 14 C dX5_doOrder_1 rfl (by decide) (by decide) rfl zw_739 ?_
  refine z_iconst (pc := 4) (5 : Int32) (by decide) C dX5_doOrder_4 ?_
  refine z_iload_n (pc := 5) 1 rfl rfl C dX5_doOrder_5 ?_
  refine z_imul (pc := 6) C dX5_doOrder_6 ?_
  refine z_iald (pc := 7) 0 C dX5_doOrder_7 rfl (by unfold zAr; decide) ?_
  refine z_leti (fun x2_1 => ?_)
  refine z_istore_n (pc := 8) [(0, (.ref (qD 0))), (1, (.int x1)), (2, (.int x2_1))] [1, 2, 0] (by decide) rfl rfl C dX5_doOrder_8 ?_
  refine z_aload_n (pc := 9) 0 rfl rfl C dX5_doOrder_9 ?_
  refine z_getR (pc := 10) 0 24 14 C dX5_doOrder_10 rfl (by decide) (by decide) rfl zw_739 ?_
  refine z_iconst (pc := 13) (5 : Int32) (by decide) C dX5_doOrder_13 ?_
  refine z_iload_n (pc := 14) 1 rfl rfl C dX5_doOrder_14 ?_
  refine z_imul (pc := 15) C dX5_doOrder_15 ?_
  refine z_iconst (pc := 16) (1 : Int32) (by decide) C dX5_doOrder_16 ?_
  refine z_iadd (pc := 17) C dX5_doOrder_17 ?_
  refine z_iald (pc := 18) 0 C dX5_doOrder_18 rfl (by unfold zAr; decide) ?_
  refine z_leti (fun x3_2 => ?_)
  refine z_istore_n (pc := 19) [(0, (.ref (qD 0))), (1, (.int x1)), (2, (.int x2_1)), (3, (.int x3_2))] [1, 2, 3, 0] (by decide) rfl rfl C dX5_doOrder_19 ?_
  refine z_aload_n (pc := 20) 0 rfl rfl C dX5_doOrder_20 ?_
  refine z_getR (pc := 21) 0 24 14 C dX5_doOrder_21 rfl (by decide) (by decide) rfl zw_739 ?_
  refine z_iconst (pc := 24) (5 : Int32) (by decide) C dX5_doOrder_24 ?_
  refine z_iload_n (pc := 25) 1 rfl rfl C dX5_doOrder_25 ?_
  refine z_imul (pc := 26) C dX5_doOrder_26 ?_
  refine z_iconst (pc := 27) (2 : Int32) (by decide) C dX5_doOrder_27 ?_
  refine z_iadd (pc := 28) C dX5_doOrder_28 ?_
  refine z_iald (pc := 29) 0 C dX5_doOrder_29 rfl (by unfold zAr; decide) ?_
  refine z_leti (fun x4_3 => ?_)
  refine z_istore (pc := 30) [(0, (.ref (qD 0))), (1, (.int x1)), (2, (.int x2_1)), (3, (.int x3_2)), (4, (.int x4_3))] [1, 2, 3, 4, 0] (by decide) rfl C dX5_doOrder_30 ?_
  refine z_aload_n (pc := 32) 0 rfl rfl C dX5_doOrder_32 ?_
  refine z_getR (pc := 33) 0 23 13 C dX5_doOrder_33 rfl (by decide) (by decide) rfl zw_738 ?_
  refine z_iload_n (pc := 36) 1 rfl rfl C dX5_doOrder_36 ?_
  refine z_iald (pc := 37) 0 C dX5_doOrder_37 rfl (by unfold zAr; decide) ?_
  refine z_if (fun hx_4 => ?_) (fun hx_4 => ?_)
  · refine z_lin (off := 42) (pc := 38) (100 : Int32) 80 hx_4 C dX5_doOrder_38 (by decide) (by decide) (by decide) ?_
    refine z_aload_n (pc := 80) 0 rfl rfl C dX5_doOrder_80 ?_
    refine z_iload_n (pc := 81) 2 rfl rfl C dX5_doOrder_81 ?_
    refine z_iload_n (pc := 82) 3 rfl rfl C dX5_doOrder_82 ?_
    refine z_iload (pc := 83) 4 rfl C dX5_doOrder_83 ?_
    refine z_aload_n (pc := 85) 0 rfl rfl C dX5_doOrder_85 ?_
    refine z_getR (pc := 86) 0 24 14 C dX5_doOrder_86 rfl (by decide) (by decide) rfl zw_739 ?_
    refine z_iconst (pc := 89) (5 : Int32) (by decide) C dX5_doOrder_89 ?_
    refine z_iload_n (pc := 90) 1 rfl rfl C dX5_doOrder_90 ?_
    refine z_imul (pc := 91) C dX5_doOrder_91 ?_
    refine z_iconst (pc := 92) (3 : Int32) (by decide) C dX5_doOrder_92 ?_
    refine z_iadd (pc := 93) C dX5_doOrder_93 ?_
    refine z_iald (pc := 94) 0 C dX5_doOrder_94 rfl (by unfold zAr; decide) ?_
    refine z_aload_n (pc := 95) 0 rfl rfl C dX5_doOrder_95 ?_
    refine z_getR (pc := 96) 0 24 14 C dX5_doOrder_96 rfl (by decide) (by decide) rfl zw_739 ?_
    refine z_iconst (pc := 99) (5 : Int32) (by decide) C dX5_doOrder_99 ?_
    refine z_iload_n (pc := 100) 1 rfl rfl C dX5_doOrder_100 ?_
    refine z_imul (pc := 101) C dX5_doOrder_101 ?_
    refine z_iconst (pc := 102) (4 : Int32) (by decide) C dX5_doOrder_102 ?_
    refine z_iadd (pc := 103) C dX5_doOrder_103 ?_
    refine z_iald (pc := 104) 0 C dX5_doOrder_104 rfl (by unfold zAr; decide) ?_
    refine z_iconst (pc := 105) (1 : Int32) (by decide) C dX5_doOrder_105 ?_
    refine z_callV (pc := 106) (rf' := 2) (rl' := 43) (fX5_paint F x2_1 x3_2 x4_3 (zI sD 14 (((5 : Int32) * x1) + (3 : Int32)).toNatClampNeg) (zI sD 14 (((5 : Int32) * x1) + (4 : Int32)).toNatClampNeg) (1 : Int32) sD) [(.int x2_1), (.int x3_2), (.int x4_3), (.int (zI sD 14 (((5 : Int32) * x1) + (3 : Int32)).toNatClampNeg)), (.int (zI sD 14 (((5 : Int32) * x1) + (4 : Int32)).toNatClampNeg)), (.int (1 : Int32))] [] [(5, qD, sD)] (fun r_5 => (some (.int r_5.1))) (fun r_5 => [(5, qD, r_5.2)]) [] (fun r_5 => [(5, qD, r_5.2)]) C dX5_doOrder_106 zy_X5_paint zw_810 (fun _ hr9 => mX5_paint  hr9) (by decide) rfl rfl (by decide) rfl (Nat.le_of_ble_eq_true rfl) (List.Perm.refl _) (fun _ => List.Perm.refl _) rfl (fun r_5 hr_6 => ?_)
    show zJ X 5 res _ 109 [(0, (.ref (qD 0))), (1, (.int x1)), (2, (.int x2_1)), (3, (.int x3_2)), (4, (.int x4_3))] [(.int r_5.1)] [(5, qD, r_5.2)]
    exact z_ireturn (pc := 109) C hR dX5_doOrder_109 (fun h => by subst h; exact ⟨rfl, rfl⟩)
  · refine z_if (fun hx_7 => ?_) (fun hx_7 => ?_)
    · refine z_lin (off := 102) (pc := 38) (109 : Int32) 140 hx_7 C dX5_doOrder_38 (by decide) (by decide) (by decide) ?_
      refine z_aload_n (pc := 140) 0 rfl rfl C dX5_doOrder_140 ?_
      refine z_iload_n (pc := 141) 2 rfl rfl C dX5_doOrder_141 ?_
      refine z_iload_n (pc := 142) 3 rfl rfl C dX5_doOrder_142 ?_
      refine z_iload (pc := 143) 4 rfl C dX5_doOrder_143 ?_
      refine z_callV (pc := 145) (rf' := 2) (rl' := 42) (fX5_doMeans x2_1 x3_2 x4_3 sD) [(.int x2_1), (.int x3_2), (.int x4_3)] [] [(5, qD, sD)] (fun r_8 => (some (.int r_8.1))) (fun r_8 => [(5, qD, r_8.2)]) [] (fun r_8 => [(5, qD, r_8.2)]) C dX5_doOrder_145 zy_X5_doMeans zw_852 (fun _ hr9 => mX5_doMeans  hr9) (by decide) rfl rfl (by decide) rfl (Nat.le_of_ble_eq_true rfl) (List.Perm.refl _) (fun _ => List.Perm.refl _) rfl (fun r_8 hr_9 => ?_)
      show zJ X 5 res _ 148 [(0, (.ref (qD 0))), (1, (.int x1)), (2, (.int x2_1)), (3, (.int x3_2)), (4, (.int x4_3))] [(.int r_8.1)] [(5, qD, r_8.2)]
      exact z_ireturn (pc := 148) C hR dX5_doOrder_148 (fun h => by subst h; exact ⟨rfl, rfl⟩)
    · refine z_if (fun hx_10 => ?_) (fun hx_10 => ?_)
      · refine z_lin (off := 111) (pc := 38) (112 : Int32) 149 hx_10 C dX5_doOrder_38 (by decide) (by decide) (by decide) ?_
        refine z_aload_n (pc := 149) 0 rfl rfl C dX5_doOrder_149 ?_
        refine z_iload_n (pc := 150) 2 rfl rfl C dX5_doOrder_150 ?_
        refine z_iload_n (pc := 151) 3 rfl rfl C dX5_doOrder_151 ?_
        refine z_iload (pc := 152) 4 rfl C dX5_doOrder_152 ?_
        refine z_callV (pc := 154) (rf' := 2) (rl' := 43) (fX5_doPins x2_1 x3_2 x4_3 sD) [(.int x2_1), (.int x3_2), (.int x4_3)] [] [(5, qD, sD)] (fun r_11 => (some (.int r_11.1))) (fun r_11 => [(5, qD, r_11.2)]) [] (fun r_11 => [(5, qD, r_11.2)]) C dX5_doOrder_154 zy_X5_doPins zw_867 (fun _ hr9 => mX5_doPins  hr9) (by decide) rfl rfl (by decide) rfl (Nat.le_of_ble_eq_true rfl) (List.Perm.refl _) (fun _ => List.Perm.refl _) rfl (fun r_11 hr_12 => ?_)
        show zJ X 5 res _ 157 [(0, (.ref (qD 0))), (1, (.int x1)), (2, (.int x2_1)), (3, (.int x3_2)), (4, (.int x4_3))] [(.int r_11.1)] [(5, qD, r_11.2)]
        exact z_ireturn (pc := 157) C hR dX5_doOrder_157 (fun h => by subst h; exact ⟨rfl, rfl⟩)
      · refine z_if (fun hx_13 => ?_) (fun hx_13 => ?_)
        · refine z_lin (off := 72) (pc := 38) (114 : Int32) 110 hx_13 C dX5_doOrder_38 (by decide) (by decide) (by decide) ?_
          refine z_aload_n (pc := 110) 0 rfl rfl C dX5_doOrder_110 ?_
          refine z_iload_n (pc := 111) 2 rfl rfl C dX5_doOrder_111 ?_
          refine z_iload_n (pc := 112) 3 rfl rfl C dX5_doOrder_112 ?_
          refine z_iload (pc := 113) 4 rfl C dX5_doOrder_113 ?_
          refine z_aload_n (pc := 115) 0 rfl rfl C dX5_doOrder_115 ?_
          refine z_getR (pc := 116) 0 24 14 C dX5_doOrder_116 rfl (by decide) (by decide) rfl zw_739 ?_
          refine z_iconst (pc := 119) (5 : Int32) (by decide) C dX5_doOrder_119 ?_
          refine z_iload_n (pc := 120) 1 rfl rfl C dX5_doOrder_120 ?_
          refine z_imul (pc := 121) C dX5_doOrder_121 ?_
          refine z_iconst (pc := 122) (3 : Int32) (by decide) C dX5_doOrder_122 ?_
          refine z_iadd (pc := 123) C dX5_doOrder_123 ?_
          refine z_iald (pc := 124) 0 C dX5_doOrder_124 rfl (by unfold zAr; decide) ?_
          refine z_aload_n (pc := 125) 0 rfl rfl C dX5_doOrder_125 ?_
          refine z_getR (pc := 126) 0 24 14 C dX5_doOrder_126 rfl (by decide) (by decide) rfl zw_739 ?_
          refine z_iconst (pc := 129) (5 : Int32) (by decide) C dX5_doOrder_129 ?_
          refine z_iload_n (pc := 130) 1 rfl rfl C dX5_doOrder_130 ?_
          refine z_imul (pc := 131) C dX5_doOrder_131 ?_
          refine z_iconst (pc := 132) (4 : Int32) (by decide) C dX5_doOrder_132 ?_
          refine z_iadd (pc := 133) C dX5_doOrder_133 ?_
          refine z_iald (pc := 134) 0 C dX5_doOrder_134 rfl (by unfold zAr; decide) ?_
          refine z_iconst (pc := 135) (0 : Int32) (by decide) C dX5_doOrder_135 ?_
          refine z_callV (pc := 136) (rf' := 2) (rl' := 43) (fX5_paint F x2_1 x3_2 x4_3 (zI sD 14 (((5 : Int32) * x1) + (3 : Int32)).toNatClampNeg) (zI sD 14 (((5 : Int32) * x1) + (4 : Int32)).toNatClampNeg) (0 : Int32) sD) [(.int x2_1), (.int x3_2), (.int x4_3), (.int (zI sD 14 (((5 : Int32) * x1) + (3 : Int32)).toNatClampNeg)), (.int (zI sD 14 (((5 : Int32) * x1) + (4 : Int32)).toNatClampNeg)), (.int (0 : Int32))] [] [(5, qD, sD)] (fun r_14 => (some (.int r_14.1))) (fun r_14 => [(5, qD, r_14.2)]) [] (fun r_14 => [(5, qD, r_14.2)]) C dX5_doOrder_136 zy_X5_paint zw_810 (fun _ hr9 => mX5_paint  hr9) (by decide) rfl rfl (by decide) rfl (Nat.le_of_ble_eq_true rfl) (List.Perm.refl _) (fun _ => List.Perm.refl _) rfl (fun r_14 hr_15 => ?_)
          show zJ X 5 res _ 139 [(0, (.ref (qD 0))), (1, (.int x1)), (2, (.int x2_1)), (3, (.int x3_2)), (4, (.int x4_3))] [(.int r_14.1)] [(5, qD, r_14.2)]
          exact z_ireturn (pc := 139) C hR dX5_doOrder_139 (fun h => by subst h; exact ⟨rfl, rfl⟩)
        · refine z_ldef (pc := 38) [(100 : Int32), (109 : Int32), (112 : Int32), (114 : Int32)] 158 (by intro v hv; simp only [List.mem_cons, List.not_mem_nil, or_false] at hv; rcases hv with rfl | rfl | rfl | rfl <;> assumption) C dX5_doOrder_38 (by decide) (by decide) (by decide) ?_
          refine z_aload_n (pc := 158) 0 rfl rfl C dX5_doOrder_158 ?_
          refine z_callV (pc := 159) (rf' := 0) (rl' := 0) (fX5_doForgets sD) [] [] [(5, qD, sD)] (fun r_16 => (some (.int r_16.1))) (fun r_16 => [(5, qD, r_16.2)]) [] (fun r_16 => [(5, qD, r_16.2)]) C dX5_doOrder_159 zy_X5_doForgets zw_875 (fun _ hr9 => mX5_doForgets  hr9) (by decide) rfl rfl (by decide) rfl (Nat.le_of_ble_eq_true rfl) (List.Perm.refl _) (fun _ => List.Perm.refl _) rfl (fun r_16 hr_17 => ?_)
          show zJ X 5 res _ 162 [(0, (.ref (qD 0))), (1, (.int x1)), (2, (.int x2_1)), (3, (.int x3_2)), (4, (.int x4_3))] [(.int r_16.1)] [(5, qD, r_16.2)]
          exact z_ireturn (pc := 162) C hR dX5_doOrder_162 (fun h => by subst h; exact ⟨rfl, rfl⟩)
theorem mX5_doOrder {F : Nat} {qD : Nat → Nat} {x1 : Int32} {sD : zOS} {res : Int32 × zOS}  (hf : fX5_doOrder F x1 sD = some res) : zM yX5_doOrder cX5_doOrder 5 (some .int) 3 72 [(.ref (qD 0)), (.int x1)] [(5, qD, sD)] (some (.int res.1)) [(5, qD, res.2)] := zM_of (by decide +kernel) (Nat.le_of_ble_eq_true rfl) (fun X C hR => wX5_doOrder (F := F) C hR  hf)
theorem dX5_does_0 : decode cX5_does 0 = .ok (.aload_n 0, 1) := by decide +kernel
theorem dX5_does_1 : decode cX5_does 1 = .ok (.iconst 0, 1) := by decide +kernel
theorem dX5_does_2 : decode cX5_does 2 = .ok (.putfield 240, 3) := by decide +kernel
theorem dX5_does_5 : decode cX5_does 5 = .ok (.aload_n 0, 1) := by decide +kernel
theorem dX5_does_6 : decode cX5_does 6 = .ok (.iconst (-1), 1) := by decide +kernel
theorem dX5_does_7 : decode cX5_does 7 = .ok (.putfield 243, 3) := by decide +kernel
theorem dX5_does_10 : decode cX5_does 10 = .ok (.aload_n 0, 1) := by decide +kernel
theorem dX5_does_11 : decode cX5_does 11 = .ok (.iconst 0, 1) := by decide +kernel
theorem dX5_does_12 : decode cX5_does 12 = .ok (.putfield 256, 3) := by decide +kernel
theorem dX5_does_15 : decode cX5_does 15 = .ok (.aload_n 0, 1) := by decide +kernel
theorem dX5_does_16 : decode cX5_does 16 = .ok (.invokevirtual 246, 3) := by decide +kernel
theorem dX5_does_19 : decode cX5_does 19 = .ok (.iconst (-1), 1) := by decide +kernel
theorem dX5_does_20 : decode cX5_does 20 = .ok (.if_icmp .ne 11, 3) := by decide +kernel
theorem dX5_does_23 : decode cX5_does 23 = .ok (.bipush (-10), 2) := by decide +kernel
theorem dX5_does_25 : decode cX5_does 25 = .ok (.aload_n 0, 1) := by decide +kernel
theorem dX5_does_26 : decode cX5_does 26 = .ok (.getfield 237, 3) := by decide +kernel
theorem dX5_does_29 : decode cX5_does 29 = .ok (.isub, 1) := by decide +kernel
theorem dX5_does_30 : decode cX5_does 30 = .ok (.ireturn, 1) := by decide +kernel
theorem dX5_does_31 : decode cX5_does 31 = .ok (.aload_n 0, 1) := by decide +kernel
theorem dX5_does_32 : decode cX5_does 32 = .ok (.getfield 243, 3) := by decide +kernel
theorem dX5_does_35 : decode cX5_does 35 = .ok (.iconst (-1), 1) := by decide +kernel
theorem dX5_does_36 : decode cX5_does 36 = .ok (.if_icmp .ne 18, 3) := by decide +kernel
theorem dX5_does_39 : decode cX5_does 39 = .ok (.aload_n 0, 1) := by decide +kernel
theorem dX5_does_40 : decode cX5_does 40 = .ok (.invokevirtual 246, 3) := by decide +kernel
theorem dX5_does_43 : decode cX5_does 43 = .ok (.iconst (-1), 1) := by decide +kernel
theorem dX5_does_44 : decode cX5_does 44 = .ok (.if_icmp .eq 10, 3) := by decide +kernel
theorem dX5_does_47 : decode cX5_does 47 = .ok (.aload_n 0, 1) := by decide +kernel
theorem dX5_does_48 : decode cX5_does 48 = .ok (.invokevirtual 259, 3) := by decide +kernel
theorem dX5_does_51 : decode cX5_does 51 = .ok (.goto (-20), 3) := by decide +kernel
theorem dX5_does_54 : decode cX5_does 54 = .ok (.aload_n 0, 1) := by decide +kernel
theorem dX5_does_55 : decode cX5_does 55 = .ok (.getfield 243, 3) := by decide +kernel
theorem dX5_does_58 : decode cX5_does 58 = .ok (.iconst (-1), 1) := by decide +kernel
theorem dX5_does_59 : decode cX5_does 59 = .ok (.if_icmp .eq 11, 3) := by decide +kernel
theorem dX5_does_62 : decode cX5_does 62 = .ok (.bipush (-10), 2) := by decide +kernel
theorem dX5_does_64 : decode cX5_does 64 = .ok (.aload_n 0, 1) := by decide +kernel
theorem dX5_does_65 : decode cX5_does 65 = .ok (.getfield 243, 3) := by decide +kernel
theorem dX5_does_68 : decode cX5_does 68 = .ok (.isub, 1) := by decide +kernel
theorem dX5_does_69 : decode cX5_does 69 = .ok (.ireturn, 1) := by decide +kernel
theorem dX5_does_70 : decode cX5_does 70 = .ok (.aload_n 0, 1) := by decide +kernel
theorem dX5_does_71 : decode cX5_does 71 = .ok (.invokevirtual 90, 3) := by decide +kernel
theorem dX5_does_74 : decode cX5_does 74 = .ok (.iconst 0, 1) := by decide +kernel
theorem dX5_does_75 : decode cX5_does 75 = .ok (.istore_n 1, 1) := by decide +kernel
theorem dX5_does_76 : decode cX5_does 76 = .ok (.iload_n 1, 1) := by decide +kernel
theorem dX5_does_77 : decode cX5_does 77 = .ok (.aload_n 0, 1) := by decide +kernel
theorem dX5_does_78 : decode cX5_does 78 = .ok (.getfield 256, 3) := by decide +kernel
theorem dX5_does_81 : decode cX5_does 81 = .ok (.if_icmp .ge 49, 3) := by decide +kernel
theorem dX5_does_84 : decode cX5_does 84 = .ok (.aload_n 0, 1) := by decide +kernel
theorem dX5_does_85 : decode cX5_does 85 = .ok (.iload_n 1, 1) := by decide +kernel
theorem dX5_does_86 : decode cX5_does 86 = .ok (.invokevirtual 262, 3) := by decide +kernel
theorem dX5_does_89 : decode cX5_does 89 = .ok (.ifCond .ge 35, 3) := by decide +kernel
theorem dX5_does_92 : decode cX5_does 92 = .ok (.iconst 0, 1) := by decide +kernel
theorem dX5_does_93 : decode cX5_does 93 = .ok (.istore_n 2, 1) := by decide +kernel
theorem dX5_does_94 : decode cX5_does 94 = .ok (.iload_n 2, 1) := by decide +kernel
theorem dX5_does_95 : decode cX5_does 95 = .ok (.bipush 46, 2) := by decide +kernel
theorem dX5_does_97 : decode cX5_does 97 = .ok (.if_icmp .ge 21, 3) := by decide +kernel
theorem dX5_does_100 : decode cX5_does 100 = .ok (.aload_n 0, 1) := by decide +kernel
theorem dX5_does_101 : decode cX5_does 101 = .ok (.getfield 7, 3) := by decide +kernel
theorem dX5_does_104 : decode cX5_does 104 = .ok (.iload_n 2, 1) := by decide +kernel
theorem dX5_does_105 : decode cX5_does 105 = .ok (.aload_n 0, 1) := by decide +kernel
theorem dX5_does_106 : decode cX5_does 106 = .ok (.getfield 13, 3) := by decide +kernel
theorem dX5_does_109 : decode cX5_does 109 = .ok (.iload_n 2, 1) := by decide +kernel
theorem dX5_does_110 : decode cX5_does 110 = .ok (.iaload, 1) := by decide +kernel
theorem dX5_does_111 : decode cX5_does 111 = .ok (.iastore, 1) := by decide +kernel
theorem dX5_does_112 : decode cX5_does 112 = .ok (.iinc 2 1, 3) := by decide +kernel
theorem dX5_does_115 : decode cX5_does 115 = .ok (.goto (-21), 3) := by decide +kernel
theorem dX5_does_118 : decode cX5_does 118 = .ok (.sipush (-1000), 3) := by decide +kernel
theorem dX5_does_121 : decode cX5_does 121 = .ok (.iload_n 1, 1) := by decide +kernel
theorem dX5_does_122 : decode cX5_does 122 = .ok (.isub, 1) := by decide +kernel
theorem dX5_does_123 : decode cX5_does 123 = .ok (.ireturn, 1) := by decide +kernel
theorem dX5_does_124 : decode cX5_does 124 = .ok (.iinc 1 1, 3) := by decide +kernel
theorem dX5_does_127 : decode cX5_does 127 = .ok (.goto (-51), 3) := by decide +kernel
theorem dX5_does_130 : decode cX5_does 130 = .ok (.aload_n 0, 1) := by decide +kernel
theorem dX5_does_131 : decode cX5_does 131 = .ok (.invokevirtual 64, 3) := by decide +kernel
theorem dX5_does_134 : decode cX5_does 134 = .ok (.aload_n 0, 1) := by decide +kernel
theorem dX5_does_135 : decode cX5_does 135 = .ok (.getfield 256, 3) := by decide +kernel
theorem dX5_does_138 : decode cX5_does 138 = .ok (.ireturn, 1) := by decide +kernel
def bX5_does_94 (F : Nat) (x1 : Int32) (kc_94 : (Int32 × zOS) → Option (Int32 × zOS)) (x2 : Int32) (sD : zOS) : Option (Int32 × zOS) := (if (46 : Int32) ≤ x2 then (some ((-1000 : Int32) - x1, sD)) else (zchk x2 46 (zchk x2 46 (zlet (zsI sD 1 (upd (zI sD 1) x2.toNatClampNeg (zI sD 2 x2.toNatClampNeg))) (fun sD_14 : zOS => (kc_94 ((x2 + 1), sD_14)))))))
set_option maxRecDepth 20000 in
theorem vX5_does_94 {X : zCx} {res : Int32 × zOS} {F : Nat} {qD : Nat → Nat} {x1 : Int32} {kc_94 : (Int32 × zOS) → Option (Int32 × zOS)} (C : zC X RX5 cX5_does 3 4 96) (hR : zR X (some .int) (some (.int res.1)) [(5, qD, res.2)]) (hk_94 : ∀ (y2 : Int32) (tD : zOS), zJ X 3 res (kc_94 (y2, tD)) 94 [(0, (.ref (qD 0))), (1, (.int x1)), (2, (.int y2))] [] [(5, qD, tD)]) (x2 : Int32) (sD : zOS) : zJ X 3 res (bX5_does_94 F x1 kc_94 x2 sD) 94 [(0, (.ref (qD 0))), (1, (.int x1)), (2, (.int x2))] [] [(5, qD, sD)] := by
  unfold bX5_does_94
  refine z_iload_n (pc := 94) 2 rfl rfl C dX5_does_94 ?_
  refine z_bipush (pc := 95) (46 : Int32) (by decide) C dX5_does_95 ?_
  refine z_icmp_ge (pc := 97) 118 C dX5_does_97 (by decide) ?_ ?_
  · refine z_sipush (pc := 118) (-1000 : Int32) (by decide) C dX5_does_118 ?_
    refine z_iload_n (pc := 121) 1 rfl rfl C dX5_does_121 ?_
    refine z_isub (pc := 122) C dX5_does_122 ?_
    exact z_ireturn (pc := 123) C hR dX5_does_123 (fun h => by subst h; exact ⟨rfl, rfl⟩)
  · refine z_aload_n (pc := 100) 0 rfl rfl C dX5_does_100 ?_
    refine z_getR (pc := 101) 0 0 1 C dX5_does_101 rfl (by decide) (by decide) rfl zw_715 ?_
    refine z_iload_n (pc := 104) 2 rfl rfl C dX5_does_104 ?_
    refine z_aload_n (pc := 105) 0 rfl rfl C dX5_does_105 ?_
    refine z_getR (pc := 106) 0 1 2 C dX5_does_106 rfl (by decide) (by decide) rfl zw_716 ?_
    refine z_iload_n (pc := 109) 2 rfl rfl C dX5_does_109 ?_
    refine z_iald (pc := 110) 0 C dX5_does_110 rfl (by unfold zAr; decide) ?_
    refine z_iast (pc := 111) 0 C dX5_does_111 rfl (by unfold zAr; decide) [(5, qD, (zsI sD 1 (upd (zI sD 1) x2.toNatClampNeg (zI sD 2 x2.toNatClampNeg))))] rfl ?_
    refine z_letc (fun z9 => [(5, qD, z9)]) (fun sD_14 => ?_)
    refine z_iinc (pc := 112) (x2 + 1) 2 rfl rfl [(0, (.ref (qD 0))), (1, (.int x1)), (2, (.int (x2 + 1)))] [1, 2, 0] (by decide) rfl C dX5_does_112 ?_
    refine z_goto (pc := 115) 94 C dX5_does_115 (by decide) ?_
    exact hk_94 _ _
def bX5_does_76 (F : Nat) (kc_76 : (Int32 × zOS) → Option (Int32 × zOS)) (x1 : Int32) (sD : zOS) : Option (Int32 × zOS) := (if (zF sD 22) ≤ x1 then (Option.bind (fX5_push F sD) (fun r_10 : zOS => (some (zF r_10 22, r_10)))) else (Option.bind (fX5_doOrder F x1 sD) (fun r_12 : Int32 × zOS => (if 0 ≤ r_12.1 then (kc_76 ((x1 + 1), r_12.2)) else (zit (P := Int32 × zOS) (R := Int32 × zOS) (fun kc9 p9 => bX5_does_94 F x1 kc9 p9.1 p9.2) F ((0 : Int32), r_12.2))))))
set_option maxRecDepth 20000 in
theorem vX5_does_76 {X : zCx} {res : Int32 × zOS} {F : Nat} {qD : Nat → Nat} {kc_76 : (Int32 × zOS) → Option (Int32 × zOS)} (C : zC X RX5 cX5_does 3 4 96) (hR : zR X (some .int) (some (.int res.1)) [(5, qD, res.2)]) (hk_76 : ∀ (y1 : Int32) (tD : zOS), zJ X 3 res (kc_76 (y1, tD)) 76 [(0, (.ref (qD 0))), (1, (.int y1))] [] [(5, qD, tD)]) (x1 : Int32) (sD : zOS) : zJ X 3 res (bX5_does_76 F kc_76 x1 sD) 76 [(0, (.ref (qD 0))), (1, (.int x1))] [] [(5, qD, sD)] := by
  unfold bX5_does_76
  refine z_iload_n (pc := 76) 1 rfl rfl C dX5_does_76 ?_
  refine z_aload_n (pc := 77) 0 rfl rfl C dX5_does_77 ?_
  refine z_getI (pc := 78) 0 22 C dX5_does_78 rfl (by decide) (by decide) rfl zw_737 ?_
  refine z_icmp_ge (pc := 81) 130 C dX5_does_81 (by decide) ?_ ?_
  · refine z_aload_n (pc := 130) 0 rfl rfl C dX5_does_130 ?_
    refine z_callV (pc := 131) (rf' := 0) (rl' := 0) (fX5_push F sD) [] [] [(5, qD, sD)] (fun r_10 => none) (fun r_10 => [(5, qD, r_10)]) [] (fun r_10 => [(5, qD, r_10)]) C dX5_does_131 zy_X5_push zw_832 (fun _ hr9 => mX5_push  hr9) (by decide) rfl rfl (by decide) rfl (Nat.le_of_ble_eq_true rfl) (List.Perm.refl _) (fun _ => List.Perm.refl _) rfl (fun r_10 hr_11 => ?_)
    show zJ X 3 res _ 134 [(0, (.ref (qD 0))), (1, (.int x1))] [] [(5, qD, r_10)]
    refine z_aload_n (pc := 134) 0 rfl rfl C dX5_does_134 ?_
    refine z_getI (pc := 135) 0 22 C dX5_does_135 rfl (by decide) (by decide) rfl zw_737 ?_
    exact z_ireturn (pc := 138) C hR dX5_does_138 (fun h => by subst h; exact ⟨rfl, rfl⟩)
  · refine z_aload_n (pc := 84) 0 rfl rfl C dX5_does_84 ?_
    refine z_iload_n (pc := 85) 1 rfl rfl C dX5_does_85 ?_
    refine z_callV (pc := 86) (rf' := 3) (rl' := 72) (fX5_doOrder F x1 sD) [(.int x1)] [] [(5, qD, sD)] (fun r_12 => (some (.int r_12.1))) (fun r_12 => [(5, qD, r_12.2)]) [] (fun r_12 => [(5, qD, r_12.2)]) C dX5_does_86 zy_X5_doOrder zw_1089 (fun _ hr9 => mX5_doOrder  hr9) (by decide) rfl rfl (by decide) rfl (Nat.le_of_ble_eq_true rfl) (List.Perm.refl _) (fun _ => List.Perm.refl _) rfl (fun r_12 hr_13 => ?_)
    show zJ X 3 res _ 89 [(0, (.ref (qD 0))), (1, (.int x1))] [(.int r_12.1)] [(5, qD, r_12.2)]
    refine z_if_ge (pc := 89) 124 C dX5_does_89 (by decide) ?_ ?_
    · refine z_iinc (pc := 124) (x1 + 1) 1 rfl rfl [(0, (.ref (qD 0))), (1, (.int (x1 + 1)))] [1, 0] (by decide) rfl C dX5_does_124 ?_
      refine z_goto (pc := 127) 76 C dX5_does_127 (by decide) ?_
      exact hk_76 _ _
    · refine z_iconst (pc := 92) (0 : Int32) (by decide) C dX5_does_92 ?_
      refine z_istore_n (pc := 93) [(0, (.ref (qD 0))), (1, (.int x1)), (2, (.int (0 : Int32)))] [1, 2, 0] (by decide) rfl rfl C dX5_does_93 ?_
      show zJ X 3 res _ 94 [(0, (.ref (qD 0))), (1, (.int x1)), (2, (.int (0 : Int32)))] [] [(5, qD, r_12.2)]
      exact zit_J (P := Int32 × zOS) (B := (fun kc9 p9 => bX5_does_94 F x1 kc9 p9.1 p9.2)) (fun p9 => [(0, (.ref (qD 0))), (1, (.int x1)), (2, (.int p9.1))]) (fun p9 => [(5, qD, p9.2)]) (fun kc9 hk9 p9 => vX5_does_94 C hR   (fun a0 a1 => hk9 (a0, a1)) p9.1 p9.2) F _
def jX5_does_54 (F : Nat) (sD : zOS) : Option (Int32 × zOS) := (if (zF sD 21) = (-1 : Int32) then (Option.bind (fX5_hold F sD) (fun r_8 : zOS => (zit (P := Int32 × zOS) (R := Int32 × zOS) (fun kc9 p9 => bX5_does_76 F kc9 p9.1 p9.2) F ((0 : Int32), r_8)))) else (some ((-10 : Int32) - (zF sD 21), sD)))
set_option maxRecDepth 20000 in
theorem wX5_does_54 {X : zCx} {res : Int32 × zOS} {F : Nat} {qD : Nat → Nat} (C : zC X RX5 cX5_does 3 4 96) (hR : zR X (some .int) (some (.int res.1)) [(5, qD, res.2)]) (sD : zOS) : zJ X 3 res (jX5_does_54 F sD) 54 [(0, (.ref (qD 0)))] [] [(5, qD, sD)] := by
  unfold jX5_does_54
  refine z_aload_n (pc := 54) 0 rfl rfl C dX5_does_54 ?_
  refine z_getI (pc := 55) 0 21 C dX5_does_55 rfl (by decide) (by decide) rfl zw_736 ?_
  refine z_iconst (pc := 58) (-1 : Int32) (by decide) C dX5_does_58 ?_
  refine z_icmp_eq (pc := 59) 70 C dX5_does_59 (by decide) ?_ ?_
  · refine z_aload_n (pc := 70) 0 rfl rfl C dX5_does_70 ?_
    refine z_callV (pc := 71) (rf' := 0) (rl' := 0) (fX5_hold F sD) [] [] [(5, qD, sD)] (fun r_8 => none) (fun r_8 => [(5, qD, r_8)]) [] (fun r_8 => [(5, qD, r_8)]) C dX5_does_71 zy_X5_hold zw_806 (fun _ hr9 => mX5_hold  hr9) (by decide) rfl rfl (by decide) rfl (Nat.le_of_ble_eq_true rfl) (List.Perm.refl _) (fun _ => List.Perm.refl _) rfl (fun r_8 hr_9 => ?_)
    show zJ X 3 res _ 74 [(0, (.ref (qD 0)))] [] [(5, qD, r_8)]
    refine z_iconst (pc := 74) (0 : Int32) (by decide) C dX5_does_74 ?_
    refine z_istore_n (pc := 75) [(0, (.ref (qD 0))), (1, (.int (0 : Int32)))] [1, 0] (by decide) rfl rfl C dX5_does_75 ?_
    show zJ X 3 res _ 76 [(0, (.ref (qD 0))), (1, (.int (0 : Int32)))] [] [(5, qD, r_8)]
    exact zit_J (P := Int32 × zOS) (B := (fun kc9 p9 => bX5_does_76 F kc9 p9.1 p9.2)) (fun p9 => [(0, (.ref (qD 0))), (1, (.int p9.1))]) (fun p9 => [(5, qD, p9.2)]) (fun kc9 hk9 p9 => vX5_does_76 C hR   (fun a0 a1 => hk9 (a0, a1)) p9.1 p9.2) F _
  · refine z_bipush (pc := 62) (-10 : Int32) (by decide) C dX5_does_62 ?_
    refine z_aload_n (pc := 64) 0 rfl rfl C dX5_does_64 ?_
    refine z_getI (pc := 65) 0 21 C dX5_does_65 rfl (by decide) (by decide) rfl zw_736 ?_
    refine z_isub (pc := 68) C dX5_does_68 ?_
    exact z_ireturn (pc := 69) C hR dX5_does_69 (fun h => by subst h; exact ⟨rfl, rfl⟩)
def bX5_does_31 (F : Nat) (kc_31 : zOS → Option (Int32 × zOS)) (sD : zOS) : Option (Int32 × zOS) := (if (zF sD 21) = (-1 : Int32) then (Option.bind (fX5_here F sD) (fun r_6 : Int32 × zOS => (if r_6.1 = (-1 : Int32) then (jX5_does_54 F r_6.2) else (Option.bind (fX5_readOrder F r_6.2) (fun r_15 : zOS => (kc_31 r_15)))))) else (jX5_does_54 F sD))
set_option maxRecDepth 20000 in
theorem vX5_does_31 {X : zCx} {res : Int32 × zOS} {F : Nat} {qD : Nat → Nat} {kc_31 : zOS → Option (Int32 × zOS)} (C : zC X RX5 cX5_does 3 4 96) (hR : zR X (some .int) (some (.int res.1)) [(5, qD, res.2)]) (hk_31 : ∀ (tD : zOS), zJ X 3 res (kc_31 tD) 31 [(0, (.ref (qD 0)))] [] [(5, qD, tD)]) (sD : zOS) : zJ X 3 res (bX5_does_31 F kc_31 sD) 31 [(0, (.ref (qD 0)))] [] [(5, qD, sD)] := by
  unfold bX5_does_31
  refine z_aload_n (pc := 31) 0 rfl rfl C dX5_does_31 ?_
  refine z_getI (pc := 32) 0 21 C dX5_does_32 rfl (by decide) (by decide) rfl zw_736 ?_
  refine z_iconst (pc := 35) (-1 : Int32) (by decide) C dX5_does_35 ?_
  refine z_icmp_ne (pc := 36) 54 C dX5_does_36 (by decide) ?_ ?_
  · refine z_aload_n (pc := 39) 0 rfl rfl C dX5_does_39 ?_
    refine z_callV (pc := 40) (rf' := 0) (rl' := 0) (fX5_here F sD) [] [] [(5, qD, sD)] (fun r_6 => (some (.int r_6.1))) (fun r_6 => [(5, qD, r_6.2)]) [] (fun r_6 => [(5, qD, r_6.2)]) C dX5_does_40 zy_X5_here zw_1074 (fun _ hr9 => mX5_here  hr9) (by decide) rfl rfl (by decide) rfl (Nat.le_of_ble_eq_true rfl) (List.Perm.refl _) (fun _ => List.Perm.refl _) rfl (fun r_6 hr_7 => ?_)
    show zJ X 3 res _ 43 [(0, (.ref (qD 0)))] [(.int r_6.1)] [(5, qD, r_6.2)]
    refine z_iconst (pc := 43) (-1 : Int32) (by decide) C dX5_does_43 ?_
    refine z_icmp_eq (pc := 44) 54 C dX5_does_44 (by decide) ?_ ?_
    · exact wX5_does_54 C hR   _
    · refine z_aload_n (pc := 47) 0 rfl rfl C dX5_does_47 ?_
      refine z_callV (pc := 48) (rf' := 1) (rl' := 22) (fX5_readOrder F r_6.2) [] [] [(5, qD, r_6.2)] (fun r_15 => none) (fun r_15 => [(5, qD, r_15)]) [] (fun r_15 => [(5, qD, r_15)]) C dX5_does_48 zy_X5_readOrder zw_1078 (fun _ hr9 => mX5_readOrder  hr9) (by decide) rfl rfl (by decide) rfl (Nat.le_of_ble_eq_true rfl) (List.Perm.refl _) (fun _ => List.Perm.refl _) rfl (fun r_15 hr_16 => ?_)
      show zJ X 3 res _ 51 [(0, (.ref (qD 0)))] [] [(5, qD, r_15)]
      refine z_goto (pc := 51) 31 C dX5_does_51 (by decide) ?_
      exact hk_31 _
  · exact wX5_does_54 C hR   _
def fX5_does (F : Nat) (sD : zOS) : Option (Int32 × zOS) := (zlet (zsF sD 20 (0 : Int32)) (fun sD_1 : zOS => (zlet (zsF sD_1 21 (-1 : Int32)) (fun sD_2 : zOS => (zlet (zsF sD_2 22 (0 : Int32)) (fun sD_3 : zOS => (Option.bind (fX5_here F sD_3) (fun r_4 : Int32 × zOS => (if r_4.1 = (-1 : Int32) then (some ((-10 : Int32) - (zF r_4.2 19), r_4.2)) else (zit (P := zOS) (R := Int32 × zOS) (fun kc9 p9 => bX5_does_31 F kc9 p9) F r_4.2))))))))))
set_option maxRecDepth 20000 in
theorem wX5_does {X : zCx} {res : Int32 × zOS} {F : Nat} {qD : Nat → Nat} {sD : zOS} (C : zC X RX5 cX5_does 3 4 96) (hR : zR X (some .int) (some (.int res.1)) [(5, qD, res.2)])  : zJ X 3 res (fX5_does F sD) 0 [(0, (.ref (qD 0)))] [] [(5, qD, sD)] := by
  unfold fX5_does
  refine z_aload_n (pc := 0) 0 rfl rfl C dX5_does_0 ?_
  refine z_iconst (pc := 1) (0 : Int32) (by decide) C dX5_does_1 ?_
  refine z_putI (pc := 2) 0 20 C dX5_does_2 rfl (by decide) (by decide) rfl zw_735 rfl rfl rfl [(5, qD, (zsF sD 20 (0 : Int32)))] rfl ?_
  refine z_letc (fun z9 => [(5, qD, z9)]) (fun sD_1 => ?_)
  refine z_aload_n (pc := 5) 0 rfl rfl C dX5_does_5 ?_
  refine z_iconst (pc := 6) (-1 : Int32) (by decide) C dX5_does_6 ?_
  refine z_putI (pc := 7) 0 21 C dX5_does_7 rfl (by decide) (by decide) rfl zw_736 rfl rfl rfl [(5, qD, (zsF sD_1 21 (-1 : Int32)))] rfl ?_
  refine z_letc (fun z9 => [(5, qD, z9)]) (fun sD_2 => ?_)
  refine z_aload_n (pc := 10) 0 rfl rfl C dX5_does_10 ?_
  refine z_iconst (pc := 11) (0 : Int32) (by decide) C dX5_does_11 ?_
  refine z_putI (pc := 12) 0 22 C dX5_does_12 rfl (by decide) (by decide) rfl zw_737 rfl rfl rfl [(5, qD, (zsF sD_2 22 (0 : Int32)))] rfl ?_
  refine z_letc (fun z9 => [(5, qD, z9)]) (fun sD_3 => ?_)
  refine z_aload_n (pc := 15) 0 rfl rfl C dX5_does_15 ?_
  refine z_callV (pc := 16) (rf' := 0) (rl' := 0) (fX5_here F sD_3) [] [] [(5, qD, sD_3)] (fun r_4 => (some (.int r_4.1))) (fun r_4 => [(5, qD, r_4.2)]) [] (fun r_4 => [(5, qD, r_4.2)]) C dX5_does_16 zy_X5_here zw_1074 (fun _ hr9 => mX5_here  hr9) (by decide) rfl rfl (by decide) rfl (Nat.le_of_ble_eq_true rfl) (List.Perm.refl _) (fun _ => List.Perm.refl _) rfl (fun r_4 hr_5 => ?_)
  show zJ X 3 res _ 19 [(0, (.ref (qD 0)))] [(.int r_4.1)] [(5, qD, r_4.2)]
  refine z_iconst (pc := 19) (-1 : Int32) (by decide) C dX5_does_19 ?_
  refine z_icmp_ne (pc := 20) 31 C dX5_does_20 (by decide) ?_ ?_
  · refine z_bipush (pc := 23) (-10 : Int32) (by decide) C dX5_does_23 ?_
    refine z_aload_n (pc := 25) 0 rfl rfl C dX5_does_25 ?_
    refine z_getI (pc := 26) 0 19 C dX5_does_26 rfl (by decide) (by decide) rfl zw_734 ?_
    refine z_isub (pc := 29) C dX5_does_29 ?_
    exact z_ireturn (pc := 30) C hR dX5_does_30 (fun h => by subst h; exact ⟨rfl, rfl⟩)
  · show zJ X 3 res _ 31 [(0, (.ref (qD 0)))] [] [(5, qD, r_4.2)]
    exact zit_J (P := zOS) (B := (fun kc9 p9 => bX5_does_31 F kc9 p9)) (fun p9 => [(0, (.ref (qD 0)))]) (fun p9 => [(5, qD, p9)]) (fun kc9 hk9 p9 => vX5_does_31 C hR   (fun a0 => hk9 a0) p9) F _
theorem mX5_does {F : Nat} {qD : Nat → Nat} {sD : zOS} {res : Int32 × zOS}  (hf : fX5_does F sD = some res) : zM yX5_does cX5_does 3 (some .int) 4 96 [(.ref (qD 0))] [(5, qD, sD)] (some (.int res.1)) [(5, qD, res.2)] := zM_of (by decide +kernel) (Nat.le_of_ble_eq_true rfl) (fun X C hR => wX5_does (F := F) C hR  hf)
theorem dX5_toldOf_0 : decode cX5_toldOf 0 = .ok (.iload_n 1, 1) := by decide +kernel
theorem dX5_toldOf_1 : decode cX5_toldOf 1 = .ok (.iconst 3, 1) := by decide +kernel
theorem dX5_toldOf_2 : decode cX5_toldOf 2 = .ok (.if_icmp .ge 12, 3) := by decide +kernel
theorem dX5_toldOf_5 : decode cX5_toldOf 5 = .ok (.aload_n 0, 1) := by decide +kernel
theorem dX5_toldOf_6 : decode cX5_toldOf 6 = .ok (.getfield 19, 3) := by decide +kernel
theorem dX5_toldOf_9 : decode cX5_toldOf 9 = .ok (.iload_n 1, 1) := by decide +kernel
theorem dX5_toldOf_10 : decode cX5_toldOf 10 = .ok (.iaload, 1) := by decide +kernel
theorem dX5_toldOf_11 : decode cX5_toldOf 11 = .ok (.goto 19, 3) := by decide +kernel
theorem dX5_toldOf_14 : decode cX5_toldOf 14 = .ok (.iload_n 1, 1) := by decide +kernel
theorem dX5_toldOf_15 : decode cX5_toldOf 15 = .ok (.iconst 3, 1) := by decide +kernel
theorem dX5_toldOf_16 : decode cX5_toldOf 16 = .ok (.if_icmp .ne 10, 3) := by decide +kernel
theorem dX5_toldOf_19 : decode cX5_toldOf 19 = .ok (.aload_n 0, 1) := by decide +kernel
theorem dX5_toldOf_20 : decode cX5_toldOf 20 = .ok (.getfield 237, 3) := by decide +kernel
theorem dX5_toldOf_23 : decode cX5_toldOf 23 = .ok (.goto 7, 3) := by decide +kernel
theorem dX5_toldOf_26 : decode cX5_toldOf 26 = .ok (.aload_n 0, 1) := by decide +kernel
theorem dX5_toldOf_27 : decode cX5_toldOf 27 = .ok (.getfield 52, 3) := by decide +kernel
theorem dX5_toldOf_30 : decode cX5_toldOf 30 = .ok (.ireturn, 1) := by decide +kernel
def fX5_toldOf (x1 : Int32) (sD : zOS) : Option (Int32) := (if (3 : Int32) ≤ x1 then (if x1 = (3 : Int32) then (some (zF sD 19)) else (some (zF sD 3))) else (zchk x1 3 (some (zI sD 4 x1.toNatClampNeg))))
set_option maxRecDepth 20000 in
theorem wX5_toldOf {X : zCx} {res : Int32}  {qD : Nat → Nat} {x1 : Int32} {sD : zOS} (C : zC X RX5 cX5_toldOf 2 0 0) (hR : zR X (some .int) (some (.int res)) [(5, qD, sD)])  : zJ X 2 res (fX5_toldOf x1 sD) 0 [(0, (.ref (qD 0))), (1, (.int x1))] [] [(5, qD, sD)] := by
  unfold fX5_toldOf
  refine z_iload_n (pc := 0) 1 rfl rfl C dX5_toldOf_0 ?_
  refine z_iconst (pc := 1) (3 : Int32) (by decide) C dX5_toldOf_1 ?_
  refine z_icmp_ge (pc := 2) 14 C dX5_toldOf_2 (by decide) ?_ ?_
  · refine z_iload_n (pc := 14) 1 rfl rfl C dX5_toldOf_14 ?_
    refine z_iconst (pc := 15) (3 : Int32) (by decide) C dX5_toldOf_15 ?_
    refine z_icmp_ne (pc := 16) 26 C dX5_toldOf_16 (by decide) ?_ ?_
    · refine z_aload_n (pc := 19) 0 rfl rfl C dX5_toldOf_19 ?_
      refine z_getI (pc := 20) 0 19 C dX5_toldOf_20 rfl (by decide) (by decide) rfl zw_734 ?_
      refine z_goto (pc := 23) 30 C dX5_toldOf_23 (by decide) ?_
      exact z_ireturn (pc := 30) C hR dX5_toldOf_30 (fun h => by subst h; exact ⟨rfl, rfl⟩)
    · refine z_aload_n (pc := 26) 0 rfl rfl C dX5_toldOf_26 ?_
      refine z_getI (pc := 27) 0 3 C dX5_toldOf_27 rfl (by decide) (by decide) rfl zw_718 ?_
      exact z_ireturn (pc := 30) C hR dX5_toldOf_30 (fun h => by subst h; exact ⟨rfl, rfl⟩)
  · refine z_aload_n (pc := 5) 0 rfl rfl C dX5_toldOf_5 ?_
    refine z_getR (pc := 6) 0 4 4 C dX5_toldOf_6 rfl (by decide) (by decide) rfl zw_719 ?_
    refine z_iload_n (pc := 9) 1 rfl rfl C dX5_toldOf_9 ?_
    refine z_iald (pc := 10) 0 C dX5_toldOf_10 rfl (by unfold zAr; decide) ?_
    refine z_goto (pc := 11) 30 C dX5_toldOf_11 (by decide) ?_
    exact z_ireturn (pc := 30) C hR dX5_toldOf_30 (fun h => by subst h; exact ⟨rfl, rfl⟩)
theorem mX5_toldOf  {qD : Nat → Nat} {x1 : Int32} {sD : zOS} {res : Int32}  (hf : fX5_toldOf x1 sD = some res) : zM yX5_toldOf cX5_toldOf 2 (some .int) 0 0 [(.ref (qD 0)), (.int x1)] [(5, qD, sD)] (some (.int res)) [(5, qD, sD)] := zM_of (by decide +kernel) (Nat.le_of_ble_eq_true rfl) (fun X C hR => wX5_toldOf C hR  hf)
theorem dX5_told_0 : decode cX5_told 0 = .ok (.iload_n 1, 1) := by decide +kernel
theorem dX5_told_1 : decode cX5_told 1 = .ok (.iconst 0, 1) := by decide +kernel
theorem dX5_told_2 : decode cX5_told 2 = .ok (.iconst 4, 1) := by decide +kernel
theorem dX5_told_3 : decode cX5_told 3 = .ok (.invokestatic 67, 3) := by decide +kernel
theorem dX5_told_6 : decode cX5_told 6 = .ok (.ifCond .eq 11, 3) := by decide +kernel
theorem dX5_told_9 : decode cX5_told 9 = .ok (.aload_n 0, 1) := by decide +kernel
theorem dX5_told_10 : decode cX5_told 10 = .ok (.iload_n 1, 1) := by decide +kernel
theorem dX5_told_11 : decode cX5_told 11 = .ok (.invokevirtual 265, 3) := by decide +kernel
theorem dX5_told_14 : decode cX5_told 14 = .ok (.goto 9, 3) := by decide +kernel
theorem dX5_told_17 : decode cX5_told 17 = .ok (.aload_n 0, 1) := by decide +kernel
theorem dX5_told_18 : decode cX5_told 18 = .ok (.bipush (-2), 2) := by decide +kernel
theorem dX5_told_20 : decode cX5_told 20 = .ok (.invokevirtual 60, 3) := by decide +kernel
theorem dX5_told_23 : decode cX5_told 23 = .ok (.ireturn, 1) := by decide +kernel
def fX5_told (x1 : Int32) (sD : zOS) : Option (Int32 × zOS) := (Option.bind (fX5_in x1 (0 : Int32) (4 : Int32)) (fun r_1 : Int32 => (if r_1 = 0 then (Option.bind (fX5_refuses (-2 : Int32) sD) (fun r_3 : Int32 × zOS => (some (r_3.1, r_3.2)))) else (Option.bind (fX5_toldOf x1 sD) (fun r_5 : Int32 => (some (r_5, sD)))))))
set_option maxRecDepth 20000 in
theorem wX5_told {X : zCx} {res : Int32 × zOS}  {qD : Nat → Nat} {x1 : Int32} {sD : zOS} (C : zC X RX5 cX5_told 2 1 22) (hR : zR X (some .int) (some (.int res.1)) [(5, qD, res.2)])  : zJ X 2 res (fX5_told x1 sD) 0 [(0, (.ref (qD 0))), (1, (.int x1))] [] [(5, qD, sD)] := by
  unfold fX5_told
  refine z_iload_n (pc := 0) 1 rfl rfl C dX5_told_0 ?_
  refine z_iconst (pc := 1) (0 : Int32) (by decide) C dX5_told_1 ?_
  refine z_iconst (pc := 2) (4 : Int32) (by decide) C dX5_told_2 ?_
  refine z_callS (pc := 3) (rf' := 0) (rl' := 0) (fX5_in x1 (0 : Int32) (4 : Int32)) [(.int x1), (.int (0 : Int32)), (.int (4 : Int32))] [] [] (fun r_1 => (some (.int r_1))) (fun r_1 => []) [(5, qD, sD)] (fun r_1 => [(5, qD, sD)]) C dX5_told_3 zy_X5_in zw_814 (fun _ hr9 => mX5_in  hr9) (by decide) rfl (Nat.le_of_ble_eq_true rfl) (List.Perm.refl _) (fun _ => List.Perm.refl _) rfl (fun r_1 hr_2 => ?_)
  show zJ X 2 res _ 6 [(0, (.ref (qD 0))), (1, (.int x1))] [(.int r_1)] [(5, qD, sD)]
  refine z_if_eq (pc := 6) 17 C dX5_told_6 (by decide) ?_ ?_
  · refine z_aload_n (pc := 17) 0 rfl rfl C dX5_told_17 ?_
    refine z_bipush (pc := 18) (-2 : Int32) (by decide) C dX5_told_18 ?_
    refine z_callV (pc := 20) (rf' := 0) (rl' := 0) (fX5_refuses (-2 : Int32) sD) [(.int (-2 : Int32))] [] [(5, qD, sD)] (fun r_3 => (some (.int r_3.1))) (fun r_3 => [(5, qD, r_3.2)]) [] (fun r_3 => [(5, qD, r_3.2)]) C dX5_told_20 zy_X5_refuses zw_798 (fun _ hr9 => mX5_refuses  hr9) (by decide) rfl rfl (by decide) rfl (Nat.le_of_ble_eq_true rfl) (List.Perm.refl _) (fun _ => List.Perm.refl _) rfl (fun r_3 hr_4 => ?_)
    show zJ X 2 res _ 23 [(0, (.ref (qD 0))), (1, (.int x1))] [(.int r_3.1)] [(5, qD, r_3.2)]
    exact z_ireturn (pc := 23) C hR dX5_told_23 (fun h => by subst h; exact ⟨rfl, rfl⟩)
  · refine z_aload_n (pc := 9) 0 rfl rfl C dX5_told_9 ?_
    refine z_iload_n (pc := 10) 1 rfl rfl C dX5_told_10 ?_
    refine z_callV (pc := 11) (rf' := 0) (rl' := 0) (fX5_toldOf x1 sD) [(.int x1)] [] [(5, qD, sD)] (fun r_5 => (some (.int r_5))) (fun r_5 => [(5, qD, sD)]) [] (fun r_5 => [(5, qD, sD)]) C dX5_told_11 zy_X5_toldOf zw_1097 (fun _ hr9 => mX5_toldOf  hr9) (by decide) rfl rfl (by decide) rfl (Nat.le_of_ble_eq_true rfl) (List.Perm.refl _) (fun _ => List.Perm.refl _) rfl (fun r_5 hr_6 => ?_)
    show zJ X 2 res _ 14 [(0, (.ref (qD 0))), (1, (.int x1))] [(.int r_5)] [(5, qD, sD)]
    refine z_goto (pc := 14) 23 C dX5_told_14 (by decide) ?_
    exact z_ireturn (pc := 23) C hR dX5_told_23 (fun h => by subst h; exact ⟨rfl, rfl⟩)
theorem mX5_told  {qD : Nat → Nat} {x1 : Int32} {sD : zOS} {res : Int32 × zOS}  (hf : fX5_told x1 sD = some res) : zM yX5_told cX5_told 2 (some .int) 1 22 [(.ref (qD 0)), (.int x1)] [(5, qD, sD)] (some (.int res.1)) [(5, qD, res.2)] := zM_of (by decide +kernel) (Nat.le_of_ble_eq_true rfl) (fun X C hR => wX5_told C hR  hf)
theorem dX5_mix_0 : decode cX5_mix 0 = .ok (.aload_n 0, 1) := by decide +kernel
theorem dX5_mix_1 : decode cX5_mix 1 = .ok (.ldc2_w 268, 3) := by decide +kernel
theorem dX5_mix_4 : decode cX5_mix 4 = .ok (.aload_n 0, 1) := by decide +kernel
theorem dX5_mix_5 : decode cX5_mix 5 = .ok (.getfield 270, 3) := by decide +kernel
theorem dX5_mix_8 : decode cX5_mix 8 = .ok (.lmul, 1) := by decide +kernel
theorem dX5_mix_9 : decode cX5_mix 9 = .ok (.lload_n 1, 1) := by decide +kernel
theorem dX5_mix_10 : decode cX5_mix 10 = .ok (.ladd, 1) := by decide +kernel
theorem dX5_mix_11 : decode cX5_mix 11 = .ok (.putfield 270, 3) := by decide +kernel
theorem dX5_mix_14 : decode cX5_mix 14 = .ok (.return_, 1) := by decide +kernel
def fX5_mix (x1 : Int64) (sD : zOS) : Option (zOS) := (zlet (zsH sD (((31 : Int64) * (zH sD)) + x1)) (fun sD_1 : zOS => (some (sD_1))))
set_option maxRecDepth 20000 in
theorem wX5_mix {X : zCx} {res : zOS}  {qD : Nat → Nat} {x1 : Int64} {sD : zOS} (C : zC X RX5 cX5_mix 3 0 0) (hR : zR X none none [(5, qD, res)])  : zJ X 3 res (fX5_mix x1 sD) 0 [(0, (.ref (qD 0))), (1, (.long x1))] [] [(5, qD, sD)] := by
  unfold fX5_mix
  refine z_aload_n (pc := 0) 0 rfl rfl C dX5_mix_0 ?_
  refine z_ldc2_w (pc := 1) (31 : Int64) zw_1110 C dX5_mix_1 ?_
  refine z_aload_n (pc := 4) 0 rfl rfl C dX5_mix_4 ?_
  refine z_getH (pc := 5) 0 25 C dX5_mix_5 rfl (by decide) (by decide) rfl zw_740 ?_
  refine z_lmul (pc := 8) C dX5_mix_8 ?_
  refine z_lload_n (pc := 9) 1 rfl rfl C dX5_mix_9 ?_
  refine z_ladd (pc := 10) C dX5_mix_10 ?_
  refine z_putH (pc := 11) 0 25 C dX5_mix_11 rfl (by decide) (by decide) rfl (by decide) zw_740 rfl rfl rfl [(5, qD, (zsH sD (((31 : Int64) * (zH sD)) + x1)))] rfl ?_
  refine z_letc (fun z9 => [(5, qD, z9)]) (fun sD_1 => ?_)
  exact z_return (pc := 14) C hR dX5_mix_14 (fun h => by subst h; exact ⟨rfl, rfl⟩)
theorem mX5_mix  {qD : Nat → Nat} {x1 : Int64} {sD : zOS} {res : zOS}  (hf : fX5_mix x1 sD = some res) : zM yX5_mix cX5_mix 3 none 0 0 [(.ref (qD 0)), (.long x1)] [(5, qD, sD)] none [(5, qD, res)] := zM_of (by decide +kernel) (Nat.le_of_ble_eq_true rfl) (fun X C hR => wX5_mix C hR  hf)
theorem dX5_digest_0 : decode cX5_digest 0 = .ok (.aload_n 0, 1) := by decide +kernel
theorem dX5_digest_1 : decode cX5_digest 1 = .ok (.ldc2_w 274, 3) := by decide +kernel
theorem dX5_digest_4 : decode cX5_digest 4 = .ok (.putfield 270, 3) := by decide +kernel
theorem dX5_digest_7 : decode cX5_digest 7 = .ok (.iconst 0, 1) := by decide +kernel
theorem dX5_digest_8 : decode cX5_digest 8 = .ok (.istore_n 1, 1) := by decide +kernel
theorem dX5_digest_9 : decode cX5_digest 9 = .ok (.iload_n 1, 1) := by decide +kernel
theorem dX5_digest_10 : decode cX5_digest 10 = .ok (.iconst 5, 1) := by decide +kernel
theorem dX5_digest_11 : decode cX5_digest 11 = .ok (.if_icmp .ge 19, 3) := by decide +kernel
theorem dX5_digest_14 : decode cX5_digest 14 = .ok (.aload_n 0, 1) := by decide +kernel
theorem dX5_digest_15 : decode cX5_digest 15 = .ok (.aload_n 0, 1) := by decide +kernel
theorem dX5_digest_16 : decode cX5_digest 16 = .ok (.iload_n 1, 1) := by decide +kernel
theorem dX5_digest_17 : decode cX5_digest 17 = .ok (.invokevirtual 265, 3) := by decide +kernel
theorem dX5_digest_20 : decode cX5_digest 20 = .ok (.i2l, 1) := by decide +kernel
theorem dX5_digest_21 : decode cX5_digest 21 = .ok (.invokevirtual 276, 3) := by decide +kernel
theorem dX5_digest_24 : decode cX5_digest 24 = .ok (.iinc 1 1, 3) := by decide +kernel
theorem dX5_digest_27 : decode cX5_digest 27 = .ok (.goto (-18), 3) := by decide +kernel
theorem dX5_digest_30 : decode cX5_digest 30 = .ok (.iconst 0, 1) := by decide +kernel
theorem dX5_digest_31 : decode cX5_digest 31 = .ok (.istore_n 1, 1) := by decide +kernel
theorem dX5_digest_32 : decode cX5_digest 32 = .ok (.iload_n 1, 1) := by decide +kernel
theorem dX5_digest_33 : decode cX5_digest 33 = .ok (.bipush 9, 2) := by decide +kernel
theorem dX5_digest_35 : decode cX5_digest 35 = .ok (.if_icmp .ge 19, 3) := by decide +kernel
theorem dX5_digest_38 : decode cX5_digest 38 = .ok (.aload_n 0, 1) := by decide +kernel
theorem dX5_digest_39 : decode cX5_digest 39 = .ok (.aload_n 0, 1) := by decide +kernel
theorem dX5_digest_40 : decode cX5_digest 40 = .ok (.iload_n 1, 1) := by decide +kernel
theorem dX5_digest_41 : decode cX5_digest 41 = .ok (.invokevirtual 209, 3) := by decide +kernel
theorem dX5_digest_44 : decode cX5_digest 44 = .ok (.i2l, 1) := by decide +kernel
theorem dX5_digest_45 : decode cX5_digest 45 = .ok (.invokevirtual 276, 3) := by decide +kernel
theorem dX5_digest_48 : decode cX5_digest 48 = .ok (.iinc 1 1, 3) := by decide +kernel
theorem dX5_digest_51 : decode cX5_digest 51 = .ok (.goto (-19), 3) := by decide +kernel
theorem dX5_digest_54 : decode cX5_digest 54 = .ok (.iconst 0, 1) := by decide +kernel
theorem dX5_digest_55 : decode cX5_digest 55 = .ok (.istore_n 1, 1) := by decide +kernel
theorem dX5_digest_56 : decode cX5_digest 56 = .ok (.iload_n 1, 1) := by decide +kernel
theorem dX5_digest_57 : decode cX5_digest 57 = .ok (.iconst 4, 1) := by decide +kernel
theorem dX5_digest_58 : decode cX5_digest 58 = .ok (.if_icmp .ge 41, 3) := by decide +kernel
theorem dX5_digest_61 : decode cX5_digest 61 = .ok (.aload_n 0, 1) := by decide +kernel
theorem dX5_digest_62 : decode cX5_digest 62 = .ok (.aload_n 0, 1) := by decide +kernel
theorem dX5_digest_63 : decode cX5_digest 63 = .ok (.getfield 7, 3) := by decide +kernel
theorem dX5_digest_66 : decode cX5_digest 66 = .ok (.iconst 2, 1) := by decide +kernel
theorem dX5_digest_67 : decode cX5_digest 67 = .ok (.iload_n 1, 1) := by decide +kernel
theorem dX5_digest_68 : decode cX5_digest 68 = .ok (.imul, 1) := by decide +kernel
theorem dX5_digest_69 : decode cX5_digest 69 = .ok (.iconst 1, 1) := by decide +kernel
theorem dX5_digest_70 : decode cX5_digest 70 = .ok (.iadd, 1) := by decide +kernel
theorem dX5_digest_71 : decode cX5_digest 71 = .ok (.iaload, 1) := by decide +kernel
theorem dX5_digest_72 : decode cX5_digest 72 = .ok (.i2l, 1) := by decide +kernel
theorem dX5_digest_73 : decode cX5_digest 73 = .ok (.bipush 32, 2) := by decide +kernel
theorem dX5_digest_75 : decode cX5_digest 75 = .ok (.lshl, 1) := by decide +kernel
theorem dX5_digest_76 : decode cX5_digest 76 = .ok (.aload_n 0, 1) := by decide +kernel
theorem dX5_digest_77 : decode cX5_digest 77 = .ok (.getfield 7, 3) := by decide +kernel
theorem dX5_digest_80 : decode cX5_digest 80 = .ok (.iconst 2, 1) := by decide +kernel
theorem dX5_digest_81 : decode cX5_digest 81 = .ok (.iload_n 1, 1) := by decide +kernel
theorem dX5_digest_82 : decode cX5_digest 82 = .ok (.imul, 1) := by decide +kernel
theorem dX5_digest_83 : decode cX5_digest 83 = .ok (.iaload, 1) := by decide +kernel
theorem dX5_digest_84 : decode cX5_digest 84 = .ok (.i2l, 1) := by decide +kernel
theorem dX5_digest_85 : decode cX5_digest 85 = .ok (.ldc2_w 280, 3) := by decide +kernel
theorem dX5_digest_88 : decode cX5_digest 88 = .ok (.land, 1) := by decide +kernel
theorem dX5_digest_89 : decode cX5_digest 89 = .ok (.lor, 1) := by decide +kernel
theorem dX5_digest_90 : decode cX5_digest 90 = .ok (.invokevirtual 276, 3) := by decide +kernel
theorem dX5_digest_93 : decode cX5_digest 93 = .ok (.iinc 1 1, 3) := by decide +kernel
theorem dX5_digest_96 : decode cX5_digest 96 = .ok (.goto (-40), 3) := by decide +kernel
theorem dX5_digest_99 : decode cX5_digest 99 = .ok (.iconst 0, 1) := by decide +kernel
theorem dX5_digest_100 : decode cX5_digest 100 = .ok (.istore_n 1, 1) := by decide +kernel
theorem dX5_digest_101 : decode cX5_digest 101 = .ok (.iload_n 1, 1) := by decide +kernel
theorem dX5_digest_102 : decode cX5_digest 102 = .ok (.bipush 6, 2) := by decide +kernel
theorem dX5_digest_104 : decode cX5_digest 104 = .ok (.aload_n 0, 1) := by decide +kernel
theorem dX5_digest_105 : decode cX5_digest 105 = .ok (.getfield 131, 3) := by decide +kernel
theorem dX5_digest_108 : decode cX5_digest 108 = .ok (.imul, 1) := by decide +kernel
theorem dX5_digest_109 : decode cX5_digest 109 = .ok (.if_icmp .ge 26, 3) := by decide +kernel
theorem dX5_digest_112 : decode cX5_digest 112 = .ok (.aload_n 0, 1) := by decide +kernel
theorem dX5_digest_113 : decode cX5_digest 113 = .ok (.aload_n 0, 1) := by decide +kernel
theorem dX5_digest_114 : decode cX5_digest 114 = .ok (.iload_n 1, 1) := by decide +kernel
theorem dX5_digest_115 : decode cX5_digest 115 = .ok (.bipush 6, 2) := by decide +kernel
theorem dX5_digest_117 : decode cX5_digest 117 = .ok (.idiv, 1) := by decide +kernel
theorem dX5_digest_118 : decode cX5_digest 118 = .ok (.iload_n 1, 1) := by decide +kernel
theorem dX5_digest_119 : decode cX5_digest 119 = .ok (.bipush 6, 2) := by decide +kernel
theorem dX5_digest_121 : decode cX5_digest 121 = .ok (.irem, 1) := by decide +kernel
theorem dX5_digest_122 : decode cX5_digest 122 = .ok (.invokevirtual 150, 3) := by decide +kernel
theorem dX5_digest_125 : decode cX5_digest 125 = .ok (.i2l, 1) := by decide +kernel
theorem dX5_digest_126 : decode cX5_digest 126 = .ok (.invokevirtual 276, 3) := by decide +kernel
theorem dX5_digest_129 : decode cX5_digest 129 = .ok (.iinc 1 1, 3) := by decide +kernel
theorem dX5_digest_132 : decode cX5_digest 132 = .ok (.goto (-31), 3) := by decide +kernel
theorem dX5_digest_135 : decode cX5_digest 135 = .ok (.iconst 0, 1) := by decide +kernel
theorem dX5_digest_136 : decode cX5_digest 136 = .ok (.istore_n 1, 1) := by decide +kernel
theorem dX5_digest_137 : decode cX5_digest 137 = .ok (.iload_n 1, 1) := by decide +kernel
theorem dX5_digest_138 : decode cX5_digest 138 = .ok (.iconst 2, 1) := by decide +kernel
theorem dX5_digest_139 : decode cX5_digest 139 = .ok (.aload_n 0, 1) := by decide +kernel
theorem dX5_digest_140 : decode cX5_digest 140 = .ok (.getfield 144, 3) := by decide +kernel
theorem dX5_digest_143 : decode cX5_digest 143 = .ok (.imul, 1) := by decide +kernel
theorem dX5_digest_144 : decode cX5_digest 144 = .ok (.if_icmp .ge 24, 3) := by decide +kernel
theorem dX5_digest_147 : decode cX5_digest 147 = .ok (.aload_n 0, 1) := by decide +kernel
theorem dX5_digest_148 : decode cX5_digest 148 = .ok (.aload_n 0, 1) := by decide +kernel
theorem dX5_digest_149 : decode cX5_digest 149 = .ok (.iload_n 1, 1) := by decide +kernel
theorem dX5_digest_150 : decode cX5_digest 150 = .ok (.iconst 2, 1) := by decide +kernel
theorem dX5_digest_151 : decode cX5_digest 151 = .ok (.idiv, 1) := by decide +kernel
theorem dX5_digest_152 : decode cX5_digest 152 = .ok (.iload_n 1, 1) := by decide +kernel
theorem dX5_digest_153 : decode cX5_digest 153 = .ok (.iconst 2, 1) := by decide +kernel
theorem dX5_digest_154 : decode cX5_digest 154 = .ok (.irem, 1) := by decide +kernel
theorem dX5_digest_155 : decode cX5_digest 155 = .ok (.invokevirtual 212, 3) := by decide +kernel
theorem dX5_digest_158 : decode cX5_digest 158 = .ok (.i2l, 1) := by decide +kernel
theorem dX5_digest_159 : decode cX5_digest 159 = .ok (.invokevirtual 276, 3) := by decide +kernel
theorem dX5_digest_162 : decode cX5_digest 162 = .ok (.iinc 1 1, 3) := by decide +kernel
theorem dX5_digest_165 : decode cX5_digest 165 = .ok (.goto (-28), 3) := by decide +kernel
theorem dX5_digest_168 : decode cX5_digest 168 = .ok (.aload_n 0, 1) := by decide +kernel
theorem dX5_digest_169 : decode cX5_digest 169 = .ok (.aload_n 0, 1) := by decide +kernel
theorem dX5_digest_170 : decode cX5_digest 170 = .ok (.invokevirtual 231, 3) := by decide +kernel
theorem dX5_digest_173 : decode cX5_digest 173 = .ok (.i2l, 1) := by decide +kernel
theorem dX5_digest_174 : decode cX5_digest 174 = .ok (.invokevirtual 276, 3) := by decide +kernel
theorem dX5_digest_177 : decode cX5_digest 177 = .ok (.iconst 0, 1) := by decide +kernel
theorem dX5_digest_178 : decode cX5_digest 178 = .ok (.istore_n 1, 1) := by decide +kernel
theorem dX5_digest_179 : decode cX5_digest 179 = .ok (.iload_n 1, 1) := by decide +kernel
theorem dX5_digest_180 : decode cX5_digest 180 = .ok (.aload_n 0, 1) := by decide +kernel
theorem dX5_digest_181 : decode cX5_digest 181 = .ok (.getfield 7, 3) := by decide +kernel
theorem dX5_digest_184 : decode cX5_digest 184 = .ok (.bipush 8, 2) := by decide +kernel
theorem dX5_digest_186 : decode cX5_digest 186 = .ok (.iaload, 1) := by decide +kernel
theorem dX5_digest_187 : decode cX5_digest 187 = .ok (.bipush 10, 2) := by decide +kernel
theorem dX5_digest_189 : decode cX5_digest 189 = .ok (.iadd, 1) := by decide +kernel
theorem dX5_digest_190 : decode cX5_digest 190 = .ok (.if_icmp .ge 27, 3) := by decide +kernel
theorem dX5_digest_193 : decode cX5_digest 193 = .ok (.aload_n 0, 1) := by decide +kernel
theorem dX5_digest_194 : decode cX5_digest 194 = .ok (.getfield 218, 3) := by decide +kernel
theorem dX5_digest_197 : decode cX5_digest 197 = .ok (.ifCond .le 20, 3) := by decide +kernel
theorem dX5_digest_200 : decode cX5_digest 200 = .ok (.aload_n 0, 1) := by decide +kernel
theorem dX5_digest_201 : decode cX5_digest 201 = .ok (.aload_n 0, 1) := by decide +kernel
theorem dX5_digest_202 : decode cX5_digest 202 = .ok (.getfield 34, 3) := by decide +kernel
theorem dX5_digest_205 : decode cX5_digest 205 = .ok (.iload_n 1, 1) := by decide +kernel
theorem dX5_digest_206 : decode cX5_digest 206 = .ok (.iaload, 1) := by decide +kernel
theorem dX5_digest_207 : decode cX5_digest 207 = .ok (.i2l, 1) := by decide +kernel
theorem dX5_digest_208 : decode cX5_digest 208 = .ok (.invokevirtual 276, 3) := by decide +kernel
theorem dX5_digest_211 : decode cX5_digest 211 = .ok (.iinc 1 1, 3) := by decide +kernel
theorem dX5_digest_214 : decode cX5_digest 214 = .ok (.goto (-35), 3) := by decide +kernel
theorem dX5_digest_217 : decode cX5_digest 217 = .ok (.aload_n 0, 1) := by decide +kernel
theorem dX5_digest_218 : decode cX5_digest 218 = .ok (.getfield 270, 3) := by decide +kernel
theorem dX5_digest_221 : decode cX5_digest 221 = .ok (.lreturn, 1) := by decide +kernel
def bX5_digest_179 (F : Nat) (kc_179 : (Int32 × zOS) → Option (Int64 × zOS)) (x1 : Int32) (sD : zOS) : Option (Int64 × zOS) := (zchk (8 : Int32) 46 (if ((zI sD 1 (8 : Int32).toNatClampNeg) + (10 : Int32)) ≤ x1 then (some (zH sD, sD)) else (if (zF sD 14) ≤ 0 then (some (zH sD, sD)) else (zchk x1 16 (Option.bind (fX5_mix ((zI sD 9 x1.toNatClampNeg).toInt64) sD) (fun r_6 : zOS => (kc_179 ((x1 + 1), r_6))))))))
set_option maxRecDepth 20000 in
theorem vX5_digest_179 {X : zCx} {res : Int64 × zOS} {F : Nat} {qD : Nat → Nat} {kc_179 : (Int32 × zOS) → Option (Int64 × zOS)} (C : zC X RX5 cX5_digest 2 8 181) (hR : zR X (some .long) (some (.long res.1)) [(5, qD, res.2)]) (hk_179 : ∀ (y1 : Int32) (tD : zOS), zJ X 2 res (kc_179 (y1, tD)) 179 [(0, (.ref (qD 0))), (1, (.int y1))] [] [(5, qD, tD)]) (x1 : Int32) (sD : zOS) : zJ X 2 res (bX5_digest_179 F kc_179 x1 sD) 179 [(0, (.ref (qD 0))), (1, (.int x1))] [] [(5, qD, sD)] := by
  unfold bX5_digest_179
  refine z_iload_n (pc := 179) 1 rfl rfl C dX5_digest_179 ?_
  refine z_aload_n (pc := 180) 0 rfl rfl C dX5_digest_180 ?_
  refine z_getR (pc := 181) 0 0 1 C dX5_digest_181 rfl (by decide) (by decide) rfl zw_715 ?_
  refine z_bipush (pc := 184) (8 : Int32) (by decide) C dX5_digest_184 ?_
  refine z_iald (pc := 186) 0 C dX5_digest_186 rfl (by unfold zAr; decide) ?_
  refine z_bipush (pc := 187) (10 : Int32) (by decide) C dX5_digest_187 ?_
  refine z_iadd (pc := 189) C dX5_digest_189 ?_
  refine z_icmp_ge (pc := 190) 217 C dX5_digest_190 (by decide) ?_ ?_
  · refine z_aload_n (pc := 217) 0 rfl rfl C dX5_digest_217 ?_
    refine z_getH (pc := 218) 0 25 C dX5_digest_218 rfl (by decide) (by decide) rfl zw_740 ?_
    exact z_lreturn (pc := 221) C hR dX5_digest_221 (fun h => by subst h; exact ⟨rfl, rfl⟩)
  · refine z_aload_n (pc := 193) 0 rfl rfl C dX5_digest_193 ?_
    refine z_getI (pc := 194) 0 14 C dX5_digest_194 rfl (by decide) (by decide) rfl zw_729 ?_
    refine z_if_le (pc := 197) 217 C dX5_digest_197 (by decide) ?_ ?_
    · refine z_aload_n (pc := 217) 0 rfl rfl C dX5_digest_217 ?_
      refine z_getH (pc := 218) 0 25 C dX5_digest_218 rfl (by decide) (by decide) rfl zw_740 ?_
      exact z_lreturn (pc := 221) C hR dX5_digest_221 (fun h => by subst h; exact ⟨rfl, rfl⟩)
    · refine z_aload_n (pc := 200) 0 rfl rfl C dX5_digest_200 ?_
      refine z_aload_n (pc := 201) 0 rfl rfl C dX5_digest_201 ?_
      refine z_getR (pc := 202) 0 15 9 C dX5_digest_202 rfl (by decide) (by decide) rfl zw_730 ?_
      refine z_iload_n (pc := 205) 1 rfl rfl C dX5_digest_205 ?_
      refine z_iald (pc := 206) 0 C dX5_digest_206 rfl (by unfold zAr; decide) ?_
      refine z_i2l (pc := 207) C dX5_digest_207 ?_
      refine z_callV (pc := 208) (rf' := 0) (rl' := 0) (fX5_mix ((zI sD 9 x1.toNatClampNeg).toInt64) sD) [(.long ((zI sD 9 x1.toNatClampNeg).toInt64))] [] [(5, qD, sD)] (fun r_6 => none) (fun r_6 => [(5, qD, r_6)]) [] (fun r_6 => [(5, qD, r_6)]) C dX5_digest_208 zy_X5_mix zw_1106 (fun _ hr9 => mX5_mix  hr9) (by decide) rfl rfl (by decide) rfl (Nat.le_of_ble_eq_true rfl) (List.Perm.refl _) (fun _ => List.Perm.refl _) rfl (fun r_6 hr_7 => ?_)
      show zJ X 2 res _ 211 [(0, (.ref (qD 0))), (1, (.int x1))] [] [(5, qD, r_6)]
      refine z_iinc (pc := 211) (x1 + 1) 1 rfl rfl [(0, (.ref (qD 0))), (1, (.int (x1 + 1)))] [1, 0] (by decide) rfl C dX5_digest_211 ?_
      refine z_goto (pc := 214) 179 C dX5_digest_214 (by decide) ?_
      exact hk_179 _ _
def bX5_digest_137 (F : Nat) (kc_137 : (Int32 × zOS) → Option (Int64 × zOS)) (x1 : Int32) (sD : zOS) : Option (Int64 × zOS) := (if ((2 : Int32) * (zF sD 7)) ≤ x1 then (Option.bind (fX5_waysOf F sD) (fun r_2 : Int32 × zOS => (Option.bind (fX5_mix r_2.1.toInt64 r_2.2) (fun r_4 : zOS => (zit (P := Int32 × zOS) (R := Int64 × zOS) (fun kc9 p9 => bX5_digest_179 F kc9 p9.1 p9.2) F ((0 : Int32), r_4)))))) else (zdvk (2 : Int32) (zdvk (2 : Int32) (Option.bind (fX5_wireOf F (x1 / (2 : Int32)) (x1 - x1 / (2 : Int32) * (2 : Int32)) sD) (fun r_8 : Int32 => (Option.bind (fX5_mix r_8.toInt64 sD) (fun r_10 : zOS => (kc_137 ((x1 + 1), r_10)))))))))
set_option maxRecDepth 20000 in
theorem vX5_digest_137 {X : zCx} {res : Int64 × zOS} {F : Nat} {qD : Nat → Nat} {kc_137 : (Int32 × zOS) → Option (Int64 × zOS)} (C : zC X RX5 cX5_digest 2 8 181) (hR : zR X (some .long) (some (.long res.1)) [(5, qD, res.2)]) (hk_137 : ∀ (y1 : Int32) (tD : zOS), zJ X 2 res (kc_137 (y1, tD)) 137 [(0, (.ref (qD 0))), (1, (.int y1))] [] [(5, qD, tD)]) (x1 : Int32) (sD : zOS) : zJ X 2 res (bX5_digest_137 F kc_137 x1 sD) 137 [(0, (.ref (qD 0))), (1, (.int x1))] [] [(5, qD, sD)] := by
  unfold bX5_digest_137
  refine z_iload_n (pc := 137) 1 rfl rfl C dX5_digest_137 ?_
  refine z_iconst (pc := 138) (2 : Int32) (by decide) C dX5_digest_138 ?_
  refine z_aload_n (pc := 139) 0 rfl rfl C dX5_digest_139 ?_
  refine z_getI (pc := 140) 0 7 C dX5_digest_140 rfl (by decide) (by decide) rfl zw_722 ?_
  refine z_imul (pc := 143) C dX5_digest_143 ?_
  refine z_icmp_ge (pc := 144) 168 C dX5_digest_144 (by decide) ?_ ?_
  · refine z_aload_n (pc := 168) 0 rfl rfl C dX5_digest_168 ?_
    refine z_aload_n (pc := 169) 0 rfl rfl C dX5_digest_169 ?_
    refine z_callV (pc := 170) (rf' := 7) (rl' := 160) (fX5_waysOf F sD) [] [(.ref (qD 0))] [(5, qD, sD)] (fun r_2 => (some (.int r_2.1))) (fun r_2 => [(5, qD, r_2.2)]) [] (fun r_2 => [(5, qD, r_2.2)]) C dX5_digest_170 zy_X5_waysOf zw_1034 (fun _ hr9 => mX5_waysOf  hr9) (by decide) rfl rfl (by decide) rfl (Nat.le_of_ble_eq_true rfl) (List.Perm.refl _) (fun _ => List.Perm.refl _) rfl (fun r_2 hr_3 => ?_)
    show zJ X 2 res _ 173 [(0, (.ref (qD 0))), (1, (.int x1))] [(.int r_2.1), (.ref (qD 0))] [(5, qD, r_2.2)]
    refine z_i2l (pc := 173) C dX5_digest_173 ?_
    refine z_callV (pc := 174) (rf' := 0) (rl' := 0) (fX5_mix r_2.1.toInt64 r_2.2) [(.long r_2.1.toInt64)] [] [(5, qD, r_2.2)] (fun r_4 => none) (fun r_4 => [(5, qD, r_4)]) [] (fun r_4 => [(5, qD, r_4)]) C dX5_digest_174 zy_X5_mix zw_1106 (fun _ hr9 => mX5_mix  hr9) (by decide) rfl rfl (by decide) rfl (Nat.le_of_ble_eq_true rfl) (List.Perm.refl _) (fun _ => List.Perm.refl _) rfl (fun r_4 hr_5 => ?_)
    show zJ X 2 res _ 177 [(0, (.ref (qD 0))), (1, (.int x1))] [] [(5, qD, r_4)]
    refine z_iconst (pc := 177) (0 : Int32) (by decide) C dX5_digest_177 ?_
    refine z_istore_n (pc := 178) [(0, (.ref (qD 0))), (1, (.int (0 : Int32)))] [1, 0] (by decide) rfl rfl C dX5_digest_178 ?_
    show zJ X 2 res _ 179 [(0, (.ref (qD 0))), (1, (.int (0 : Int32)))] [] [(5, qD, r_4)]
    exact zit_J (P := Int32 × zOS) (B := (fun kc9 p9 => bX5_digest_179 F kc9 p9.1 p9.2)) (fun p9 => [(0, (.ref (qD 0))), (1, (.int p9.1))]) (fun p9 => [(5, qD, p9.2)]) (fun kc9 hk9 p9 => vX5_digest_179 C hR   (fun a0 a1 => hk9 (a0, a1)) p9.1 p9.2) F _
  · refine z_aload_n (pc := 147) 0 rfl rfl C dX5_digest_147 ?_
    refine z_aload_n (pc := 148) 0 rfl rfl C dX5_digest_148 ?_
    refine z_iload_n (pc := 149) 1 rfl rfl C dX5_digest_149 ?_
    refine z_iconst (pc := 150) (2 : Int32) (by decide) C dX5_digest_150 ?_
    refine z_idiv (pc := 151) C dX5_digest_151 ?_
    refine z_iload_n (pc := 152) 1 rfl rfl C dX5_digest_152 ?_
    refine z_iconst (pc := 153) (2 : Int32) (by decide) C dX5_digest_153 ?_
    refine z_irem (pc := 154) C dX5_digest_154 ?_
    refine z_callV (pc := 155) (rf' := 3) (rl' := 66) (fX5_wireOf F (x1 / (2 : Int32)) (x1 - x1 / (2 : Int32) * (2 : Int32)) sD) [(.int (x1 / (2 : Int32))), (.int (x1 - x1 / (2 : Int32) * (2 : Int32)))] [(.ref (qD 0))] [(5, qD, sD)] (fun r_8 => (some (.int r_8))) (fun r_8 => [(5, qD, sD)]) [] (fun r_8 => [(5, qD, sD)]) C dX5_digest_155 zy_X5_wireOf zw_1026 (fun _ hr9 => mX5_wireOf  hr9) (by decide) rfl rfl (by decide) rfl (Nat.le_of_ble_eq_true rfl) (List.Perm.refl _) (fun _ => List.Perm.refl _) rfl (fun r_8 hr_9 => ?_)
    show zJ X 2 res _ 158 [(0, (.ref (qD 0))), (1, (.int x1))] [(.int r_8), (.ref (qD 0))] [(5, qD, sD)]
    refine z_i2l (pc := 158) C dX5_digest_158 ?_
    refine z_callV (pc := 159) (rf' := 0) (rl' := 0) (fX5_mix r_8.toInt64 sD) [(.long r_8.toInt64)] [] [(5, qD, sD)] (fun r_10 => none) (fun r_10 => [(5, qD, r_10)]) [] (fun r_10 => [(5, qD, r_10)]) C dX5_digest_159 zy_X5_mix zw_1106 (fun _ hr9 => mX5_mix  hr9) (by decide) rfl rfl (by decide) rfl (Nat.le_of_ble_eq_true rfl) (List.Perm.refl _) (fun _ => List.Perm.refl _) rfl (fun r_10 hr_11 => ?_)
    show zJ X 2 res _ 162 [(0, (.ref (qD 0))), (1, (.int x1))] [] [(5, qD, r_10)]
    refine z_iinc (pc := 162) (x1 + 1) 1 rfl rfl [(0, (.ref (qD 0))), (1, (.int (x1 + 1)))] [1, 0] (by decide) rfl C dX5_digest_162 ?_
    refine z_goto (pc := 165) 137 C dX5_digest_165 (by decide) ?_
    exact hk_137 _ _
def bX5_digest_101 (F : Nat) (kc_101 : (Int32 × zOS) → Option (Int64 × zOS)) (x1 : Int32) (sD : zOS) : Option (Int64 × zOS) := (if ((6 : Int32) * (zF sD 10)) ≤ x1 then (zit (P := Int32 × zOS) (R := Int64 × zOS) (fun kc9 p9 => bX5_digest_137 F kc9 p9.1 p9.2) F ((0 : Int32), sD)) else (zdvk (6 : Int32) (zdvk (6 : Int32) (Option.bind (fX5_ofGate (x1 / (6 : Int32)) (x1 - x1 / (6 : Int32) * (6 : Int32)) sD) (fun r_12 : Int32 => (Option.bind (fX5_mix r_12.toInt64 sD) (fun r_14 : zOS => (kc_101 ((x1 + 1), r_14)))))))))
set_option maxRecDepth 20000 in
theorem vX5_digest_101 {X : zCx} {res : Int64 × zOS} {F : Nat} {qD : Nat → Nat} {kc_101 : (Int32 × zOS) → Option (Int64 × zOS)} (C : zC X RX5 cX5_digest 2 8 181) (hR : zR X (some .long) (some (.long res.1)) [(5, qD, res.2)]) (hk_101 : ∀ (y1 : Int32) (tD : zOS), zJ X 2 res (kc_101 (y1, tD)) 101 [(0, (.ref (qD 0))), (1, (.int y1))] [] [(5, qD, tD)]) (x1 : Int32) (sD : zOS) : zJ X 2 res (bX5_digest_101 F kc_101 x1 sD) 101 [(0, (.ref (qD 0))), (1, (.int x1))] [] [(5, qD, sD)] := by
  unfold bX5_digest_101
  refine z_iload_n (pc := 101) 1 rfl rfl C dX5_digest_101 ?_
  refine z_bipush (pc := 102) (6 : Int32) (by decide) C dX5_digest_102 ?_
  refine z_aload_n (pc := 104) 0 rfl rfl C dX5_digest_104 ?_
  refine z_getI (pc := 105) 0 10 C dX5_digest_105 rfl (by decide) (by decide) rfl zw_725 ?_
  refine z_imul (pc := 108) C dX5_digest_108 ?_
  refine z_icmp_ge (pc := 109) 135 C dX5_digest_109 (by decide) ?_ ?_
  · refine z_iconst (pc := 135) (0 : Int32) (by decide) C dX5_digest_135 ?_
    refine z_istore_n (pc := 136) [(0, (.ref (qD 0))), (1, (.int (0 : Int32)))] [1, 0] (by decide) rfl rfl C dX5_digest_136 ?_
    show zJ X 2 res _ 137 [(0, (.ref (qD 0))), (1, (.int (0 : Int32)))] [] [(5, qD, sD)]
    exact zit_J (P := Int32 × zOS) (B := (fun kc9 p9 => bX5_digest_137 F kc9 p9.1 p9.2)) (fun p9 => [(0, (.ref (qD 0))), (1, (.int p9.1))]) (fun p9 => [(5, qD, p9.2)]) (fun kc9 hk9 p9 => vX5_digest_137 C hR   (fun a0 a1 => hk9 (a0, a1)) p9.1 p9.2) F _
  · refine z_aload_n (pc := 112) 0 rfl rfl C dX5_digest_112 ?_
    refine z_aload_n (pc := 113) 0 rfl rfl C dX5_digest_113 ?_
    refine z_iload_n (pc := 114) 1 rfl rfl C dX5_digest_114 ?_
    refine z_bipush (pc := 115) (6 : Int32) (by decide) C dX5_digest_115 ?_
    refine z_idiv (pc := 117) C dX5_digest_117 ?_
    refine z_iload_n (pc := 118) 1 rfl rfl C dX5_digest_118 ?_
    refine z_bipush (pc := 119) (6 : Int32) (by decide) C dX5_digest_119 ?_
    refine z_irem (pc := 121) C dX5_digest_121 ?_
    refine z_callV (pc := 122) (rf' := 0) (rl' := 0) (fX5_ofGate (x1 / (6 : Int32)) (x1 - x1 / (6 : Int32) * (6 : Int32)) sD) [(.int (x1 / (6 : Int32))), (.int (x1 - x1 / (6 : Int32) * (6 : Int32)))] [(.ref (qD 0))] [(5, qD, sD)] (fun r_12 => (some (.int r_12))) (fun r_12 => [(5, qD, sD)]) [] (fun r_12 => [(5, qD, sD)]) C dX5_digest_122 zy_X5_ofGate zw_946 (fun _ hr9 => mX5_ofGate  hr9) (by decide) rfl rfl (by decide) rfl (Nat.le_of_ble_eq_true rfl) (List.Perm.refl _) (fun _ => List.Perm.refl _) rfl (fun r_12 hr_13 => ?_)
    show zJ X 2 res _ 125 [(0, (.ref (qD 0))), (1, (.int x1))] [(.int r_12), (.ref (qD 0))] [(5, qD, sD)]
    refine z_i2l (pc := 125) C dX5_digest_125 ?_
    refine z_callV (pc := 126) (rf' := 0) (rl' := 0) (fX5_mix r_12.toInt64 sD) [(.long r_12.toInt64)] [] [(5, qD, sD)] (fun r_14 => none) (fun r_14 => [(5, qD, r_14)]) [] (fun r_14 => [(5, qD, r_14)]) C dX5_digest_126 zy_X5_mix zw_1106 (fun _ hr9 => mX5_mix  hr9) (by decide) rfl rfl (by decide) rfl (Nat.le_of_ble_eq_true rfl) (List.Perm.refl _) (fun _ => List.Perm.refl _) rfl (fun r_14 hr_15 => ?_)
    show zJ X 2 res _ 129 [(0, (.ref (qD 0))), (1, (.int x1))] [] [(5, qD, r_14)]
    refine z_iinc (pc := 129) (x1 + 1) 1 rfl rfl [(0, (.ref (qD 0))), (1, (.int (x1 + 1)))] [1, 0] (by decide) rfl C dX5_digest_129 ?_
    refine z_goto (pc := 132) 101 C dX5_digest_132 (by decide) ?_
    exact hk_101 _ _
def bX5_digest_56 (F : Nat) (kc_56 : (Int32 × zOS) → Option (Int64 × zOS)) (x1 : Int32) (sD : zOS) : Option (Int64 × zOS) := (if (4 : Int32) ≤ x1 then (zit (P := Int32 × zOS) (R := Int64 × zOS) (fun kc9 p9 => bX5_digest_101 F kc9 p9.1 p9.2) F ((0 : Int32), sD)) else (zchk (((2 : Int32) * x1) + (1 : Int32)) 46 (zchk ((2 : Int32) * x1) 46 (Option.bind (fX5_mix ((((zI sD 1 (((2 : Int32) * x1) + (1 : Int32)).toNatClampNeg).toInt64) <<< ((32 : Int32).toInt64 &&& 63)) ||| (((zI sD 1 ((2 : Int32) * x1).toNatClampNeg).toInt64) &&& (4294967295 : Int64))) sD) (fun r_16 : zOS => (kc_56 ((x1 + 1), r_16)))))))
set_option maxRecDepth 20000 in
theorem vX5_digest_56 {X : zCx} {res : Int64 × zOS} {F : Nat} {qD : Nat → Nat} {kc_56 : (Int32 × zOS) → Option (Int64 × zOS)} (C : zC X RX5 cX5_digest 2 8 181) (hR : zR X (some .long) (some (.long res.1)) [(5, qD, res.2)]) (hk_56 : ∀ (y1 : Int32) (tD : zOS), zJ X 2 res (kc_56 (y1, tD)) 56 [(0, (.ref (qD 0))), (1, (.int y1))] [] [(5, qD, tD)]) (x1 : Int32) (sD : zOS) : zJ X 2 res (bX5_digest_56 F kc_56 x1 sD) 56 [(0, (.ref (qD 0))), (1, (.int x1))] [] [(5, qD, sD)] := by
  unfold bX5_digest_56
  refine z_iload_n (pc := 56) 1 rfl rfl C dX5_digest_56 ?_
  refine z_iconst (pc := 57) (4 : Int32) (by decide) C dX5_digest_57 ?_
  refine z_icmp_ge (pc := 58) 99 C dX5_digest_58 (by decide) ?_ ?_
  · refine z_iconst (pc := 99) (0 : Int32) (by decide) C dX5_digest_99 ?_
    refine z_istore_n (pc := 100) [(0, (.ref (qD 0))), (1, (.int (0 : Int32)))] [1, 0] (by decide) rfl rfl C dX5_digest_100 ?_
    show zJ X 2 res _ 101 [(0, (.ref (qD 0))), (1, (.int (0 : Int32)))] [] [(5, qD, sD)]
    exact zit_J (P := Int32 × zOS) (B := (fun kc9 p9 => bX5_digest_101 F kc9 p9.1 p9.2)) (fun p9 => [(0, (.ref (qD 0))), (1, (.int p9.1))]) (fun p9 => [(5, qD, p9.2)]) (fun kc9 hk9 p9 => vX5_digest_101 C hR   (fun a0 a1 => hk9 (a0, a1)) p9.1 p9.2) F _
  · refine z_aload_n (pc := 61) 0 rfl rfl C dX5_digest_61 ?_
    refine z_aload_n (pc := 62) 0 rfl rfl C dX5_digest_62 ?_
    refine z_getR (pc := 63) 0 0 1 C dX5_digest_63 rfl (by decide) (by decide) rfl zw_715 ?_
    refine z_iconst (pc := 66) (2 : Int32) (by decide) C dX5_digest_66 ?_
    refine z_iload_n (pc := 67) 1 rfl rfl C dX5_digest_67 ?_
    refine z_imul (pc := 68) C dX5_digest_68 ?_
    refine z_iconst (pc := 69) (1 : Int32) (by decide) C dX5_digest_69 ?_
    refine z_iadd (pc := 70) C dX5_digest_70 ?_
    refine z_iald (pc := 71) 0 C dX5_digest_71 rfl (by unfold zAr; decide) ?_
    refine z_i2l (pc := 72) C dX5_digest_72 ?_
    refine z_bipush (pc := 73) (32 : Int32) (by decide) C dX5_digest_73 ?_
    refine z_lshl (pc := 75) C dX5_digest_75 ?_
    refine z_aload_n (pc := 76) 0 rfl rfl C dX5_digest_76 ?_
    refine z_getR (pc := 77) 0 0 1 C dX5_digest_77 rfl (by decide) (by decide) rfl zw_715 ?_
    refine z_iconst (pc := 80) (2 : Int32) (by decide) C dX5_digest_80 ?_
    refine z_iload_n (pc := 81) 1 rfl rfl C dX5_digest_81 ?_
    refine z_imul (pc := 82) C dX5_digest_82 ?_
    refine z_iald (pc := 83) 0 C dX5_digest_83 rfl (by unfold zAr; decide) ?_
    refine z_i2l (pc := 84) C dX5_digest_84 ?_
    refine z_ldc2_w (pc := 85) (4294967295 : Int64) zw_1111 C dX5_digest_85 ?_
    refine z_land (pc := 88) C dX5_digest_88 ?_
    refine z_lor (pc := 89) C dX5_digest_89 ?_
    refine z_callV (pc := 90) (rf' := 0) (rl' := 0) (fX5_mix ((((zI sD 1 (((2 : Int32) * x1) + (1 : Int32)).toNatClampNeg).toInt64) <<< ((32 : Int32).toInt64 &&& 63)) ||| (((zI sD 1 ((2 : Int32) * x1).toNatClampNeg).toInt64) &&& (4294967295 : Int64))) sD) [(.long ((((zI sD 1 (((2 : Int32) * x1) + (1 : Int32)).toNatClampNeg).toInt64) <<< ((32 : Int32).toInt64 &&& 63)) ||| (((zI sD 1 ((2 : Int32) * x1).toNatClampNeg).toInt64) &&& (4294967295 : Int64))))] [] [(5, qD, sD)] (fun r_16 => none) (fun r_16 => [(5, qD, r_16)]) [] (fun r_16 => [(5, qD, r_16)]) C dX5_digest_90 zy_X5_mix zw_1106 (fun _ hr9 => mX5_mix  hr9) (by decide) rfl rfl (by decide) rfl (Nat.le_of_ble_eq_true rfl) (List.Perm.refl _) (fun _ => List.Perm.refl _) rfl (fun r_16 hr_17 => ?_)
    show zJ X 2 res _ 93 [(0, (.ref (qD 0))), (1, (.int x1))] [] [(5, qD, r_16)]
    refine z_iinc (pc := 93) (x1 + 1) 1 rfl rfl [(0, (.ref (qD 0))), (1, (.int (x1 + 1)))] [1, 0] (by decide) rfl C dX5_digest_93 ?_
    refine z_goto (pc := 96) 56 C dX5_digest_96 (by decide) ?_
    exact hk_56 _ _
def bX5_digest_32 (F : Nat) (kc_32 : (Int32 × zOS) → Option (Int64 × zOS)) (x1 : Int32) (sD : zOS) : Option (Int64 × zOS) := (if (9 : Int32) ≤ x1 then (zit (P := Int32 × zOS) (R := Int64 × zOS) (fun kc9 p9 => bX5_digest_56 F kc9 p9.1 p9.2) F ((0 : Int32), sD)) else (Option.bind (fX5_counted F x1 sD) (fun r_18 : Int32 × zOS => (Option.bind (fX5_mix r_18.1.toInt64 r_18.2) (fun r_20 : zOS => (kc_32 ((x1 + 1), r_20)))))))
set_option maxRecDepth 20000 in
theorem vX5_digest_32 {X : zCx} {res : Int64 × zOS} {F : Nat} {qD : Nat → Nat} {kc_32 : (Int32 × zOS) → Option (Int64 × zOS)} (C : zC X RX5 cX5_digest 2 8 181) (hR : zR X (some .long) (some (.long res.1)) [(5, qD, res.2)]) (hk_32 : ∀ (y1 : Int32) (tD : zOS), zJ X 2 res (kc_32 (y1, tD)) 32 [(0, (.ref (qD 0))), (1, (.int y1))] [] [(5, qD, tD)]) (x1 : Int32) (sD : zOS) : zJ X 2 res (bX5_digest_32 F kc_32 x1 sD) 32 [(0, (.ref (qD 0))), (1, (.int x1))] [] [(5, qD, sD)] := by
  unfold bX5_digest_32
  refine z_iload_n (pc := 32) 1 rfl rfl C dX5_digest_32 ?_
  refine z_bipush (pc := 33) (9 : Int32) (by decide) C dX5_digest_33 ?_
  refine z_icmp_ge (pc := 35) 54 C dX5_digest_35 (by decide) ?_ ?_
  · refine z_iconst (pc := 54) (0 : Int32) (by decide) C dX5_digest_54 ?_
    refine z_istore_n (pc := 55) [(0, (.ref (qD 0))), (1, (.int (0 : Int32)))] [1, 0] (by decide) rfl rfl C dX5_digest_55 ?_
    show zJ X 2 res _ 56 [(0, (.ref (qD 0))), (1, (.int (0 : Int32)))] [] [(5, qD, sD)]
    exact zit_J (P := Int32 × zOS) (B := (fun kc9 p9 => bX5_digest_56 F kc9 p9.1 p9.2)) (fun p9 => [(0, (.ref (qD 0))), (1, (.int p9.1))]) (fun p9 => [(5, qD, p9.2)]) (fun kc9 hk9 p9 => vX5_digest_56 C hR   (fun a0 a1 => hk9 (a0, a1)) p9.1 p9.2) F _
  · refine z_aload_n (pc := 38) 0 rfl rfl C dX5_digest_38 ?_
    refine z_aload_n (pc := 39) 0 rfl rfl C dX5_digest_39 ?_
    refine z_iload_n (pc := 40) 1 rfl rfl C dX5_digest_40 ?_
    refine z_callV (pc := 41) (rf' := 7) (rl' := 160) (fX5_counted F x1 sD) [(.int x1)] [(.ref (qD 0))] [(5, qD, sD)] (fun r_18 => (some (.int r_18.1))) (fun r_18 => [(5, qD, r_18.2)]) [] (fun r_18 => [(5, qD, r_18.2)]) C dX5_digest_41 zy_X5_counted zw_982 (fun _ hr9 => mX5_counted  hr9) (by decide) rfl rfl (by decide) rfl (Nat.le_of_ble_eq_true rfl) (List.Perm.refl _) (fun _ => List.Perm.refl _) rfl (fun r_18 hr_19 => ?_)
    show zJ X 2 res _ 44 [(0, (.ref (qD 0))), (1, (.int x1))] [(.int r_18.1), (.ref (qD 0))] [(5, qD, r_18.2)]
    refine z_i2l (pc := 44) C dX5_digest_44 ?_
    refine z_callV (pc := 45) (rf' := 0) (rl' := 0) (fX5_mix r_18.1.toInt64 r_18.2) [(.long r_18.1.toInt64)] [] [(5, qD, r_18.2)] (fun r_20 => none) (fun r_20 => [(5, qD, r_20)]) [] (fun r_20 => [(5, qD, r_20)]) C dX5_digest_45 zy_X5_mix zw_1106 (fun _ hr9 => mX5_mix  hr9) (by decide) rfl rfl (by decide) rfl (Nat.le_of_ble_eq_true rfl) (List.Perm.refl _) (fun _ => List.Perm.refl _) rfl (fun r_20 hr_21 => ?_)
    show zJ X 2 res _ 48 [(0, (.ref (qD 0))), (1, (.int x1))] [] [(5, qD, r_20)]
    refine z_iinc (pc := 48) (x1 + 1) 1 rfl rfl [(0, (.ref (qD 0))), (1, (.int (x1 + 1)))] [1, 0] (by decide) rfl C dX5_digest_48 ?_
    refine z_goto (pc := 51) 32 C dX5_digest_51 (by decide) ?_
    exact hk_32 _ _
def bX5_digest_9 (F : Nat) (kc_9 : (Int32 × zOS) → Option (Int64 × zOS)) (x1 : Int32) (sD : zOS) : Option (Int64 × zOS) := (if (5 : Int32) ≤ x1 then (zit (P := Int32 × zOS) (R := Int64 × zOS) (fun kc9 p9 => bX5_digest_32 F kc9 p9.1 p9.2) F ((0 : Int32), sD)) else (Option.bind (fX5_toldOf x1 sD) (fun r_22 : Int32 => (Option.bind (fX5_mix r_22.toInt64 sD) (fun r_24 : zOS => (kc_9 ((x1 + 1), r_24)))))))
set_option maxRecDepth 20000 in
theorem vX5_digest_9 {X : zCx} {res : Int64 × zOS} {F : Nat} {qD : Nat → Nat} {kc_9 : (Int32 × zOS) → Option (Int64 × zOS)} (C : zC X RX5 cX5_digest 2 8 181) (hR : zR X (some .long) (some (.long res.1)) [(5, qD, res.2)]) (hk_9 : ∀ (y1 : Int32) (tD : zOS), zJ X 2 res (kc_9 (y1, tD)) 9 [(0, (.ref (qD 0))), (1, (.int y1))] [] [(5, qD, tD)]) (x1 : Int32) (sD : zOS) : zJ X 2 res (bX5_digest_9 F kc_9 x1 sD) 9 [(0, (.ref (qD 0))), (1, (.int x1))] [] [(5, qD, sD)] := by
  unfold bX5_digest_9
  refine z_iload_n (pc := 9) 1 rfl rfl C dX5_digest_9 ?_
  refine z_iconst (pc := 10) (5 : Int32) (by decide) C dX5_digest_10 ?_
  refine z_icmp_ge (pc := 11) 30 C dX5_digest_11 (by decide) ?_ ?_
  · refine z_iconst (pc := 30) (0 : Int32) (by decide) C dX5_digest_30 ?_
    refine z_istore_n (pc := 31) [(0, (.ref (qD 0))), (1, (.int (0 : Int32)))] [1, 0] (by decide) rfl rfl C dX5_digest_31 ?_
    show zJ X 2 res _ 32 [(0, (.ref (qD 0))), (1, (.int (0 : Int32)))] [] [(5, qD, sD)]
    exact zit_J (P := Int32 × zOS) (B := (fun kc9 p9 => bX5_digest_32 F kc9 p9.1 p9.2)) (fun p9 => [(0, (.ref (qD 0))), (1, (.int p9.1))]) (fun p9 => [(5, qD, p9.2)]) (fun kc9 hk9 p9 => vX5_digest_32 C hR   (fun a0 a1 => hk9 (a0, a1)) p9.1 p9.2) F _
  · refine z_aload_n (pc := 14) 0 rfl rfl C dX5_digest_14 ?_
    refine z_aload_n (pc := 15) 0 rfl rfl C dX5_digest_15 ?_
    refine z_iload_n (pc := 16) 1 rfl rfl C dX5_digest_16 ?_
    refine z_callV (pc := 17) (rf' := 0) (rl' := 0) (fX5_toldOf x1 sD) [(.int x1)] [(.ref (qD 0))] [(5, qD, sD)] (fun r_22 => (some (.int r_22))) (fun r_22 => [(5, qD, sD)]) [] (fun r_22 => [(5, qD, sD)]) C dX5_digest_17 zy_X5_toldOf zw_1097 (fun _ hr9 => mX5_toldOf  hr9) (by decide) rfl rfl (by decide) rfl (Nat.le_of_ble_eq_true rfl) (List.Perm.refl _) (fun _ => List.Perm.refl _) rfl (fun r_22 hr_23 => ?_)
    show zJ X 2 res _ 20 [(0, (.ref (qD 0))), (1, (.int x1))] [(.int r_22), (.ref (qD 0))] [(5, qD, sD)]
    refine z_i2l (pc := 20) C dX5_digest_20 ?_
    refine z_callV (pc := 21) (rf' := 0) (rl' := 0) (fX5_mix r_22.toInt64 sD) [(.long r_22.toInt64)] [] [(5, qD, sD)] (fun r_24 => none) (fun r_24 => [(5, qD, r_24)]) [] (fun r_24 => [(5, qD, r_24)]) C dX5_digest_21 zy_X5_mix zw_1106 (fun _ hr9 => mX5_mix  hr9) (by decide) rfl rfl (by decide) rfl (Nat.le_of_ble_eq_true rfl) (List.Perm.refl _) (fun _ => List.Perm.refl _) rfl (fun r_24 hr_25 => ?_)
    show zJ X 2 res _ 24 [(0, (.ref (qD 0))), (1, (.int x1))] [] [(5, qD, r_24)]
    refine z_iinc (pc := 24) (x1 + 1) 1 rfl rfl [(0, (.ref (qD 0))), (1, (.int (x1 + 1)))] [1, 0] (by decide) rfl C dX5_digest_24 ?_
    refine z_goto (pc := 27) 9 C dX5_digest_27 (by decide) ?_
    exact hk_9 _ _
def fX5_digest (F : Nat) (sD : zOS) : Option (Int64 × zOS) := (zlet (zsH sD (1682 : Int64)) (fun sD_1 : zOS => (zit (P := Int32 × zOS) (R := Int64 × zOS) (fun kc9 p9 => bX5_digest_9 F kc9 p9.1 p9.2) F ((0 : Int32), sD_1))))
set_option maxRecDepth 20000 in
theorem wX5_digest {X : zCx} {res : Int64 × zOS} {F : Nat} {qD : Nat → Nat} {sD : zOS} (C : zC X RX5 cX5_digest 2 8 181) (hR : zR X (some .long) (some (.long res.1)) [(5, qD, res.2)])  : zJ X 2 res (fX5_digest F sD) 0 [(0, (.ref (qD 0)))] [] [(5, qD, sD)] := by
  unfold fX5_digest
  refine z_aload_n (pc := 0) 0 rfl rfl C dX5_digest_0 ?_
  refine z_ldc2_w (pc := 1) (1682 : Int64) zw_1105 C dX5_digest_1 ?_
  refine z_putH (pc := 4) 0 25 C dX5_digest_4 rfl (by decide) (by decide) rfl (by decide) zw_740 rfl rfl rfl [(5, qD, (zsH sD (1682 : Int64)))] rfl ?_
  refine z_letc (fun z9 => [(5, qD, z9)]) (fun sD_1 => ?_)
  refine z_iconst (pc := 7) (0 : Int32) (by decide) C dX5_digest_7 ?_
  refine z_istore_n (pc := 8) [(0, (.ref (qD 0))), (1, (.int (0 : Int32)))] [1, 0] (by decide) rfl rfl C dX5_digest_8 ?_
  show zJ X 2 res _ 9 [(0, (.ref (qD 0))), (1, (.int (0 : Int32)))] [] [(5, qD, sD_1)]
  exact zit_J (P := Int32 × zOS) (B := (fun kc9 p9 => bX5_digest_9 F kc9 p9.1 p9.2)) (fun p9 => [(0, (.ref (qD 0))), (1, (.int p9.1))]) (fun p9 => [(5, qD, p9.2)]) (fun kc9 hk9 p9 => vX5_digest_9 C hR   (fun a0 a1 => hk9 (a0, a1)) p9.1 p9.2) F _
theorem mX5_digest {F : Nat} {qD : Nat → Nat} {sD : zOS} {res : Int64 × zOS}  (hf : fX5_digest F sD = some res) : zM yX5_digest cX5_digest 2 (some .long) 8 181 [(.ref (qD 0))] [(5, qD, sD)] (some (.long res.1)) [(5, qD, res.2)] := zM_of (by decide +kernel) (Nat.le_of_ble_eq_true rfl) (fun X C hR => wX5_digest (F := F) C hR  hf)
