theorem dX5_at_0 : decode cX5_at 0 = .ok (.iload_n 1, 1) := by decide +kernel
theorem dX5_at_1 : decode cX5_at 1 = .ok (.iconst 0, 1) := by decide +kernel
theorem dX5_at_2 : decode cX5_at 2 = .ok (.iconst 3, 1) := by decide +kernel
theorem dX5_at_3 : decode cX5_at 3 = .ok (.invokestatic 67, 3) := by decide +kernel
theorem dX5_at_6 : decode cX5_at 6 = .ok (.ifCond .eq 11, 3) := by decide +kernel
theorem dX5_at_9 : decode cX5_at 9 = .ok (.iload_n 2, 1) := by decide +kernel
theorem dX5_at_10 : decode cX5_at 10 = .ok (.iload_n 3, 1) := by decide +kernel
theorem dX5_at_11 : decode cX5_at 11 = .ok (.invokestatic 71, 3) := by decide +kernel
theorem dX5_at_14 : decode cX5_at 14 = .ok (.ifCond .ne 10, 3) := by decide +kernel
theorem dX5_at_17 : decode cX5_at 17 = .ok (.aload_n 0, 1) := by decide +kernel
theorem dX5_at_18 : decode cX5_at 18 = .ok (.bipush (-2), 2) := by decide +kernel
theorem dX5_at_20 : decode cX5_at 20 = .ok (.invokevirtual 60, 3) := by decide +kernel
theorem dX5_at_23 : decode cX5_at 23 = .ok (.ireturn, 1) := by decide +kernel
theorem dX5_at_24 : decode cX5_at 24 = .ok (.aload_n 0, 1) := by decide +kernel
theorem dX5_at_25 : decode cX5_at 25 = .ok (.iload_n 1, 1) := by decide +kernel
theorem dX5_at_26 : decode cX5_at 26 = .ok (.bipush 8, 2) := by decide +kernel
theorem dX5_at_28 : decode cX5_at 28 = .ok (.iload_n 3, 1) := by decide +kernel
theorem dX5_at_29 : decode cX5_at 29 = .ok (.imul, 1) := by decide +kernel
theorem dX5_at_30 : decode cX5_at 30 = .ok (.iload_n 2, 1) := by decide +kernel
theorem dX5_at_31 : decode cX5_at 31 = .ok (.iadd, 1) := by decide +kernel
theorem dX5_at_32 : decode cX5_at 32 = .ok (.invokevirtual 75, 3) := by decide +kernel
theorem dX5_at_35 : decode cX5_at 35 = .ok (.ifCond .eq 7, 3) := by decide +kernel
theorem dX5_at_38 : decode cX5_at 38 = .ok (.iconst 1, 1) := by decide +kernel
theorem dX5_at_39 : decode cX5_at 39 = .ok (.goto 4, 3) := by decide +kernel
theorem dX5_at_42 : decode cX5_at 42 = .ok (.iconst 0, 1) := by decide +kernel
theorem dX5_at_43 : decode cX5_at 43 = .ok (.ireturn, 1) := by decide +kernel
def jX5_at_17 (sD : zOS) : Option (Int32 × zOS) := (Option.bind (fX5_refuses (-2 : Int32) sD) (fun r_3 : Int32 × zOS => (some (r_3.1, r_3.2))))
set_option maxRecDepth 20000 in
theorem wX5_at_17 {X : zCx} {res : Int32 × zOS} {qD : Nat → Nat} (C : zC X RX5 cX5_at 4 2 43) (hR : zR X (some .int) (some (.int res.1)) [(5, qD, res.2)]) (sD : zOS) : zJ X 4 res (jX5_at_17 sD) 17 [(0, (.ref (qD 0)))] [] [(5, qD, sD)] := by
  unfold jX5_at_17
  refine z_aload_n (pc := 17) 0 rfl rfl C dX5_at_17 ?_
  refine z_bipush (pc := 18) (-2 : Int32) (by decide) C dX5_at_18 ?_
  refine z_callV (pc := 20) (rf' := 0) (rl' := 0) (fX5_refuses (-2 : Int32) sD) [(.int (-2 : Int32))] [] [(5, qD, sD)] (fun r_3 => (some (.int r_3.1))) (fun r_3 => [(5, qD, r_3.2)]) [] (fun r_3 => [(5, qD, r_3.2)]) C dX5_at_20 zy_X5_refuses zw_798 (fun _ hr9 => mX5_refuses  hr9) (by decide) rfl rfl (by decide) rfl (Nat.le_of_ble_eq_true rfl) (List.Perm.refl _) (fun _ => List.Perm.refl _) rfl (fun r_3 hr_4 => ?_)
  show zJ X 4 res _ 23 [(0, (.ref (qD 0)))] [(.int r_3.1)] [(5, qD, r_3.2)]
  exact z_ireturn (pc := 23) C hR dX5_at_23 (fun h => by subst h; exact ⟨rfl, rfl⟩)
def fX5_at (x1 : Int32) (x2 : Int32) (x3 : Int32) (sD : zOS) : Option (Int32 × zOS) := (Option.bind (fX5_in x1 (0 : Int32) (3 : Int32)) (fun r_1 : Int32 => (if r_1 = 0 then (jX5_at_17 sD) else (Option.bind (fX5_isCell x2 x3) (fun r_5 : Int32 => (if r_5 = 0 then (jX5_at_17 sD) else (Option.bind (fX5_isDrawn x1 (((8 : Int32) * x3) + x2) sD) (fun r_7 : Int32 => (if r_7 = 0 then (some ((0 : Int32), sD)) else (some ((1 : Int32), sD)))))))))))
set_option maxRecDepth 20000 in
theorem wX5_at {X : zCx} {res : Int32 × zOS}  {qD : Nat → Nat} {x1 : Int32} {x2 : Int32} {x3 : Int32} {sD : zOS} (C : zC X RX5 cX5_at 4 2 43) (hR : zR X (some .int) (some (.int res.1)) [(5, qD, res.2)])  : zJ X 4 res (fX5_at x1 x2 x3 sD) 0 [(0, (.ref (qD 0))), (1, (.int x1)), (2, (.int x2)), (3, (.int x3))] [] [(5, qD, sD)] := by
  unfold fX5_at
  refine z_iload_n (pc := 0) 1 rfl rfl C dX5_at_0 ?_
  refine z_iconst (pc := 1) (0 : Int32) (by decide) C dX5_at_1 ?_
  refine z_iconst (pc := 2) (3 : Int32) (by decide) C dX5_at_2 ?_
  refine z_callS (pc := 3) (rf' := 0) (rl' := 0) (fX5_in x1 (0 : Int32) (3 : Int32)) [(.int x1), (.int (0 : Int32)), (.int (3 : Int32))] [] [] (fun r_1 => (some (.int r_1))) (fun r_1 => []) [(5, qD, sD)] (fun r_1 => [(5, qD, sD)]) C dX5_at_3 zy_X5_in zw_814 (fun _ hr9 => mX5_in  hr9) (by decide) rfl (Nat.le_of_ble_eq_true rfl) (List.Perm.refl _) (fun _ => List.Perm.refl _) rfl (fun r_1 hr_2 => ?_)
  show zJ X 4 res _ 6 [(0, (.ref (qD 0))), (1, (.int x1)), (2, (.int x2)), (3, (.int x3))] [(.int r_1)] [(5, qD, sD)]
  refine z_if_eq (pc := 6) 17 C dX5_at_6 (by decide) ?_ ?_
  · refine z_lv [(0, (.ref (qD 0)))] [0] rfl ?_
    exact wX5_at_17 C hR   _
  · refine z_iload_n (pc := 9) 2 rfl rfl C dX5_at_9 ?_
    refine z_iload_n (pc := 10) 3 rfl rfl C dX5_at_10 ?_
    refine z_callS (pc := 11) (rf' := 1) (rl' := 22) (fX5_isCell x2 x3) [(.int x2), (.int x3)] [] [] (fun r_5 => (some (.int r_5))) (fun r_5 => []) [(5, qD, sD)] (fun r_5 => [(5, qD, sD)]) C dX5_at_11 zy_X5_isCell zw_817 (fun _ hr9 => mX5_isCell  hr9) (by decide) rfl (Nat.le_of_ble_eq_true rfl) (List.Perm.refl _) (fun _ => List.Perm.refl _) rfl (fun r_5 hr_6 => ?_)
    show zJ X 4 res _ 14 [(0, (.ref (qD 0))), (1, (.int x1)), (2, (.int x2)), (3, (.int x3))] [(.int r_5)] [(5, qD, sD)]
    refine z_if_ne (pc := 14) 24 C dX5_at_14 (by decide) ?_ ?_
    · refine z_lv [(0, (.ref (qD 0)))] [0] rfl ?_
      exact wX5_at_17 C hR   _
    · refine z_aload_n (pc := 24) 0 rfl rfl C dX5_at_24 ?_
      refine z_iload_n (pc := 25) 1 rfl rfl C dX5_at_25 ?_
      refine z_bipush (pc := 26) (8 : Int32) (by decide) C dX5_at_26 ?_
      refine z_iload_n (pc := 28) 3 rfl rfl C dX5_at_28 ?_
      refine z_imul (pc := 29) C dX5_at_29 ?_
      refine z_iload_n (pc := 30) 2 rfl rfl C dX5_at_30 ?_
      refine z_iadd (pc := 31) C dX5_at_31 ?_
      refine z_callV (pc := 32) (rf' := 0) (rl' := 0) (fX5_isDrawn x1 (((8 : Int32) * x3) + x2) sD) [(.int x1), (.int (((8 : Int32) * x3) + x2))] [] [(5, qD, sD)] (fun r_7 => (some (.int r_7))) (fun r_7 => [(5, qD, sD)]) [] (fun r_7 => [(5, qD, sD)]) C dX5_at_32 zy_X5_isDrawn zw_820 (fun _ hr9 => mX5_isDrawn  hr9) (by decide) rfl rfl (by decide) rfl (Nat.le_of_ble_eq_true rfl) (List.Perm.refl _) (fun _ => List.Perm.refl _) rfl (fun r_7 hr_8 => ?_)
      show zJ X 4 res _ 35 [(0, (.ref (qD 0))), (1, (.int x1)), (2, (.int x2)), (3, (.int x3))] [(.int r_7)] [(5, qD, sD)]
      refine z_if_eq (pc := 35) 42 C dX5_at_35 (by decide) ?_ ?_
      · refine z_iconst (pc := 42) (0 : Int32) (by decide) C dX5_at_42 ?_
        exact z_ireturn (pc := 43) C hR dX5_at_43 (fun h => by subst h; exact ⟨rfl, rfl⟩)
      · refine z_iconst (pc := 38) (1 : Int32) (by decide) C dX5_at_38 ?_
        refine z_goto (pc := 39) 43 C dX5_at_39 (by decide) ?_
        exact z_ireturn (pc := 43) C hR dX5_at_43 (fun h => by subst h; exact ⟨rfl, rfl⟩)
theorem mX5_at  {qD : Nat → Nat} {x1 : Int32} {x2 : Int32} {x3 : Int32} {sD : zOS} {res : Int32 × zOS}  (hf : fX5_at x1 x2 x3 sD = some res) : zM yX5_at cX5_at 4 (some .int) 2 43 [(.ref (qD 0)), (.int x1), (.int x2), (.int x3)] [(5, qD, sD)] (some (.int res.1)) [(5, qD, res.2)] := zM_of (by decide +kernel) (Nat.le_of_ble_eq_true rfl) (fun X C hR => wX5_at C hR  hf)
theorem dX5_node_0 : decode cX5_node 0 = .ok (.iload_n 1, 1) := by decide +kernel
theorem dX5_node_1 : decode cX5_node 1 = .ok (.iconst 0, 1) := by decide +kernel
theorem dX5_node_2 : decode cX5_node 2 = .ok (.iconst 2, 1) := by decide +kernel
theorem dX5_node_3 : decode cX5_node 3 = .ok (.invokestatic 67, 3) := by decide +kernel
theorem dX5_node_6 : decode cX5_node 6 = .ok (.ifCond .eq 11, 3) := by decide +kernel
theorem dX5_node_9 : decode cX5_node 9 = .ok (.iload_n 2, 1) := by decide +kernel
theorem dX5_node_10 : decode cX5_node 10 = .ok (.iload_n 3, 1) := by decide +kernel
theorem dX5_node_11 : decode cX5_node 11 = .ok (.invokestatic 71, 3) := by decide +kernel
theorem dX5_node_14 : decode cX5_node 14 = .ok (.ifCond .ne 10, 3) := by decide +kernel
theorem dX5_node_17 : decode cX5_node 17 = .ok (.aload_n 0, 1) := by decide +kernel
theorem dX5_node_18 : decode cX5_node 18 = .ok (.bipush (-2), 2) := by decide +kernel
theorem dX5_node_20 : decode cX5_node 20 = .ok (.invokevirtual 60, 3) := by decide +kernel
theorem dX5_node_23 : decode cX5_node 23 = .ok (.ireturn, 1) := by decide +kernel
theorem dX5_node_24 : decode cX5_node 24 = .ok (.aload_n 0, 1) := by decide +kernel
theorem dX5_node_25 : decode cX5_node 25 = .ok (.invokevirtual 169, 3) := by decide +kernel
theorem dX5_node_28 : decode cX5_node 28 = .ok (.aload_n 0, 1) := by decide +kernel
theorem dX5_node_29 : decode cX5_node 29 = .ok (.getfield 22, 3) := by decide +kernel
theorem dX5_node_32 : decode cX5_node 32 = .ok (.bipush 64, 2) := by decide +kernel
theorem dX5_node_34 : decode cX5_node 34 = .ok (.iload_n 1, 1) := by decide +kernel
theorem dX5_node_35 : decode cX5_node 35 = .ok (.imul, 1) := by decide +kernel
theorem dX5_node_36 : decode cX5_node 36 = .ok (.bipush 8, 2) := by decide +kernel
theorem dX5_node_38 : decode cX5_node 38 = .ok (.iload_n 3, 1) := by decide +kernel
theorem dX5_node_39 : decode cX5_node 39 = .ok (.imul, 1) := by decide +kernel
theorem dX5_node_40 : decode cX5_node 40 = .ok (.iadd, 1) := by decide +kernel
theorem dX5_node_41 : decode cX5_node 41 = .ok (.iload_n 2, 1) := by decide +kernel
theorem dX5_node_42 : decode cX5_node 42 = .ok (.iadd, 1) := by decide +kernel
theorem dX5_node_43 : decode cX5_node 43 = .ok (.iaload, 1) := by decide +kernel
theorem dX5_node_44 : decode cX5_node 44 = .ok (.ireturn, 1) := by decide +kernel
def jX5_node_17 (F : Nat) (sD : zOS) : Option (Int32 × zOS) := (Option.bind (fX5_refuses (-2 : Int32) sD) (fun r_3 : Int32 × zOS => (some (r_3.1, r_3.2))))
set_option maxRecDepth 20000 in
theorem wX5_node_17 {X : zCx} {res : Int32 × zOS} {F : Nat} {qD : Nat → Nat} (C : zC X RX5 cX5_node 4 7 160) (hR : zR X (some .int) (some (.int res.1)) [(5, qD, res.2)]) (sD : zOS) : zJ X 4 res (jX5_node_17 F sD) 17 [(0, (.ref (qD 0)))] [] [(5, qD, sD)] := by
  unfold jX5_node_17
  refine z_aload_n (pc := 17) 0 rfl rfl C dX5_node_17 ?_
  refine z_bipush (pc := 18) (-2 : Int32) (by decide) C dX5_node_18 ?_
  refine z_callV (pc := 20) (rf' := 0) (rl' := 0) (fX5_refuses (-2 : Int32) sD) [(.int (-2 : Int32))] [] [(5, qD, sD)] (fun r_3 => (some (.int r_3.1))) (fun r_3 => [(5, qD, r_3.2)]) [] (fun r_3 => [(5, qD, r_3.2)]) C dX5_node_20 zy_X5_refuses zw_798 (fun _ hr9 => mX5_refuses  hr9) (by decide) rfl rfl (by decide) rfl (Nat.le_of_ble_eq_true rfl) (List.Perm.refl _) (fun _ => List.Perm.refl _) rfl (fun r_3 hr_4 => ?_)
  show zJ X 4 res _ 23 [(0, (.ref (qD 0)))] [(.int r_3.1)] [(5, qD, r_3.2)]
  exact z_ireturn (pc := 23) C hR dX5_node_23 (fun h => by subst h; exact ⟨rfl, rfl⟩)
def fX5_node (F : Nat) (x1 : Int32) (x2 : Int32) (x3 : Int32) (sD : zOS) : Option (Int32 × zOS) := (Option.bind (fX5_in x1 (0 : Int32) (2 : Int32)) (fun r_1 : Int32 => (if r_1 = 0 then (jX5_node_17 F sD) else (Option.bind (fX5_isCell x2 x3) (fun r_5 : Int32 => (if r_5 = 0 then (jX5_node_17 F sD) else (Option.bind (fX5_lay F sD) (fun r_7 : zOS => (zchk ((((64 : Int32) * x1) + ((8 : Int32) * x3)) + x2) 192 (some (zI r_7 5 ((((64 : Int32) * x1) + ((8 : Int32) * x3)) + x2).toNatClampNeg, r_7)))))))))))
set_option maxRecDepth 20000 in
theorem wX5_node {X : zCx} {res : Int32 × zOS} {F : Nat} {qD : Nat → Nat} {x1 : Int32} {x2 : Int32} {x3 : Int32} {sD : zOS} (C : zC X RX5 cX5_node 4 7 160) (hR : zR X (some .int) (some (.int res.1)) [(5, qD, res.2)])  : zJ X 4 res (fX5_node F x1 x2 x3 sD) 0 [(0, (.ref (qD 0))), (1, (.int x1)), (2, (.int x2)), (3, (.int x3))] [] [(5, qD, sD)] := by
  unfold fX5_node
  refine z_iload_n (pc := 0) 1 rfl rfl C dX5_node_0 ?_
  refine z_iconst (pc := 1) (0 : Int32) (by decide) C dX5_node_1 ?_
  refine z_iconst (pc := 2) (2 : Int32) (by decide) C dX5_node_2 ?_
  refine z_callS (pc := 3) (rf' := 0) (rl' := 0) (fX5_in x1 (0 : Int32) (2 : Int32)) [(.int x1), (.int (0 : Int32)), (.int (2 : Int32))] [] [] (fun r_1 => (some (.int r_1))) (fun r_1 => []) [(5, qD, sD)] (fun r_1 => [(5, qD, sD)]) C dX5_node_3 zy_X5_in zw_814 (fun _ hr9 => mX5_in  hr9) (by decide) rfl (Nat.le_of_ble_eq_true rfl) (List.Perm.refl _) (fun _ => List.Perm.refl _) rfl (fun r_1 hr_2 => ?_)
  show zJ X 4 res _ 6 [(0, (.ref (qD 0))), (1, (.int x1)), (2, (.int x2)), (3, (.int x3))] [(.int r_1)] [(5, qD, sD)]
  refine z_if_eq (pc := 6) 17 C dX5_node_6 (by decide) ?_ ?_
  · refine z_lv [(0, (.ref (qD 0)))] [0] rfl ?_
    exact wX5_node_17 C hR   _
  · refine z_iload_n (pc := 9) 2 rfl rfl C dX5_node_9 ?_
    refine z_iload_n (pc := 10) 3 rfl rfl C dX5_node_10 ?_
    refine z_callS (pc := 11) (rf' := 1) (rl' := 22) (fX5_isCell x2 x3) [(.int x2), (.int x3)] [] [] (fun r_5 => (some (.int r_5))) (fun r_5 => []) [(5, qD, sD)] (fun r_5 => [(5, qD, sD)]) C dX5_node_11 zy_X5_isCell zw_817 (fun _ hr9 => mX5_isCell  hr9) (by decide) rfl (Nat.le_of_ble_eq_true rfl) (List.Perm.refl _) (fun _ => List.Perm.refl _) rfl (fun r_5 hr_6 => ?_)
    show zJ X 4 res _ 14 [(0, (.ref (qD 0))), (1, (.int x1)), (2, (.int x2)), (3, (.int x3))] [(.int r_5)] [(5, qD, sD)]
    refine z_if_ne (pc := 14) 24 C dX5_node_14 (by decide) ?_ ?_
    · refine z_lv [(0, (.ref (qD 0)))] [0] rfl ?_
      exact wX5_node_17 C hR   _
    · refine z_aload_n (pc := 24) 0 rfl rfl C dX5_node_24 ?_
      refine z_callV (pc := 25) (rf' := 6) (rl' := 140) (fX5_lay F sD) [] [] [(5, qD, sD)] (fun r_7 => none) (fun r_7 => [(5, qD, r_7)]) [] (fun r_7 => [(5, qD, r_7)]) C dX5_node_25 zy_X5_lay zw_887 (fun _ hr9 => mX5_lay  hr9) (by decide) rfl rfl (by decide) rfl (Nat.le_of_ble_eq_true rfl) (List.Perm.refl _) (fun _ => List.Perm.refl _) rfl (fun r_7 hr_8 => ?_)
      show zJ X 4 res _ 28 [(0, (.ref (qD 0))), (1, (.int x1)), (2, (.int x2)), (3, (.int x3))] [] [(5, qD, r_7)]
      refine z_aload_n (pc := 28) 0 rfl rfl C dX5_node_28 ?_
      refine z_getR (pc := 29) 0 6 5 C dX5_node_29 rfl (by decide) (by decide) rfl zw_721 ?_
      refine z_bipush (pc := 32) (64 : Int32) (by decide) C dX5_node_32 ?_
      refine z_iload_n (pc := 34) 1 rfl rfl C dX5_node_34 ?_
      refine z_imul (pc := 35) C dX5_node_35 ?_
      refine z_bipush (pc := 36) (8 : Int32) (by decide) C dX5_node_36 ?_
      refine z_iload_n (pc := 38) 3 rfl rfl C dX5_node_38 ?_
      refine z_imul (pc := 39) C dX5_node_39 ?_
      refine z_iadd (pc := 40) C dX5_node_40 ?_
      refine z_iload_n (pc := 41) 2 rfl rfl C dX5_node_41 ?_
      refine z_iadd (pc := 42) C dX5_node_42 ?_
      refine z_iald (pc := 43) 0 C dX5_node_43 rfl (by unfold zAr; decide) ?_
      exact z_ireturn (pc := 44) C hR dX5_node_44 (fun h => by subst h; exact ⟨rfl, rfl⟩)
theorem mX5_node {F : Nat} {qD : Nat → Nat} {x1 : Int32} {x2 : Int32} {x3 : Int32} {sD : zOS} {res : Int32 × zOS}  (hf : fX5_node F x1 x2 x3 sD = some res) : zM yX5_node cX5_node 4 (some .int) 7 160 [(.ref (qD 0)), (.int x1), (.int x2), (.int x3)] [(5, qD, sD)] (some (.int res.1)) [(5, qD, res.2)] := zM_of (by decide +kernel) (Nat.le_of_ble_eq_true rfl) (fun X C hR => wX5_node (F := F) C hR  hf)
theorem dX5_pairs_0 : decode cX5_pairs 0 = .ok (.iconst 0, 1) := by decide +kernel
theorem dX5_pairs_1 : decode cX5_pairs 1 = .ok (.istore_n 2, 1) := by decide +kernel
theorem dX5_pairs_2 : decode cX5_pairs 2 = .ok (.iconst 0, 1) := by decide +kernel
theorem dX5_pairs_3 : decode cX5_pairs 3 = .ok (.istore_n 3, 1) := by decide +kernel
theorem dX5_pairs_4 : decode cX5_pairs 4 = .ok (.iload_n 3, 1) := by decide +kernel
theorem dX5_pairs_5 : decode cX5_pairs 5 = .ok (.aload_n 0, 1) := by decide +kernel
theorem dX5_pairs_6 : decode cX5_pairs 6 = .ok (.getfield 7, 3) := by decide +kernel
theorem dX5_pairs_9 : decode cX5_pairs 9 = .ok (.bipush 27, 2) := by decide +kernel
theorem dX5_pairs_11 : decode cX5_pairs 11 = .ok (.iaload, 1) := by decide +kernel
theorem dX5_pairs_12 : decode cX5_pairs 12 = .ok (.if_icmp .ge 122, 3) := by decide +kernel
theorem dX5_pairs_15 : decode cX5_pairs 15 = .ok (.iconst 0, 1) := by decide +kernel
theorem dX5_pairs_16 : decode cX5_pairs 16 = .ok (.istore 4, 2) := by decide +kernel
theorem dX5_pairs_18 : decode cX5_pairs 18 = .ok (.iload 4, 2) := by decide +kernel
theorem dX5_pairs_20 : decode cX5_pairs 20 = .ok (.iload_n 3, 1) := by decide +kernel
theorem dX5_pairs_21 : decode cX5_pairs 21 = .ok (.if_icmp .ge 107, 3) := by decide +kernel
theorem dX5_pairs_24 : decode cX5_pairs 24 = .ok (.aload_n 0, 1) := by decide +kernel
theorem dX5_pairs_25 : decode cX5_pairs 25 = .ok (.iload_n 3, 1) := by decide +kernel
theorem dX5_pairs_26 : decode cX5_pairs 26 = .ok (.iconst 2, 1) := by decide +kernel
theorem dX5_pairs_27 : decode cX5_pairs 27 = .ok (.invokevirtual 172, 3) := by decide +kernel
theorem dX5_pairs_30 : decode cX5_pairs 30 = .ok (.aload_n 0, 1) := by decide +kernel
theorem dX5_pairs_31 : decode cX5_pairs 31 = .ok (.iload 4, 2) := by decide +kernel
theorem dX5_pairs_33 : decode cX5_pairs 33 = .ok (.iconst 2, 1) := by decide +kernel
theorem dX5_pairs_34 : decode cX5_pairs 34 = .ok (.invokevirtual 172, 3) := by decide +kernel
theorem dX5_pairs_37 : decode cX5_pairs 37 = .ok (.if_icmp .ne 7, 3) := by decide +kernel
theorem dX5_pairs_40 : decode cX5_pairs 40 = .ok (.iconst 1, 1) := by decide +kernel
theorem dX5_pairs_41 : decode cX5_pairs 41 = .ok (.goto 4, 3) := by decide +kernel
theorem dX5_pairs_44 : decode cX5_pairs 44 = .ok (.iconst 0, 1) := by decide +kernel
theorem dX5_pairs_45 : decode cX5_pairs 45 = .ok (.istore 5, 2) := by decide +kernel
theorem dX5_pairs_47 : decode cX5_pairs 47 = .ok (.aload_n 0, 1) := by decide +kernel
theorem dX5_pairs_48 : decode cX5_pairs 48 = .ok (.iload_n 3, 1) := by decide +kernel
theorem dX5_pairs_49 : decode cX5_pairs 49 = .ok (.invokevirtual 175, 3) := by decide +kernel
theorem dX5_pairs_52 : decode cX5_pairs 52 = .ok (.aload_n 0, 1) := by decide +kernel
theorem dX5_pairs_53 : decode cX5_pairs 53 = .ok (.iload 4, 2) := by decide +kernel
theorem dX5_pairs_55 : decode cX5_pairs 55 = .ok (.invokevirtual 175, 3) := by decide +kernel
theorem dX5_pairs_58 : decode cX5_pairs 58 = .ok (.if_icmp .ne 7, 3) := by decide +kernel
theorem dX5_pairs_61 : decode cX5_pairs 61 = .ok (.iconst 1, 1) := by decide +kernel
theorem dX5_pairs_62 : decode cX5_pairs 62 = .ok (.goto 4, 3) := by decide +kernel
theorem dX5_pairs_65 : decode cX5_pairs 65 = .ok (.iconst 0, 1) := by decide +kernel
theorem dX5_pairs_66 : decode cX5_pairs 66 = .ok (.istore 6, 2) := by decide +kernel
theorem dX5_pairs_68 : decode cX5_pairs 68 = .ok (.iload_n 2, 1) := by decide +kernel
theorem dX5_pairs_69 : decode cX5_pairs 69 = .ok (.aload_n 0, 1) := by decide +kernel
theorem dX5_pairs_70 : decode cX5_pairs 70 = .ok (.iload_n 3, 1) := by decide +kernel
theorem dX5_pairs_71 : decode cX5_pairs 71 = .ok (.invokevirtual 175, 3) := by decide +kernel
theorem dX5_pairs_74 : decode cX5_pairs 74 = .ok (.iconst (-1), 1) := by decide +kernel
theorem dX5_pairs_75 : decode cX5_pairs 75 = .ok (.if_icmp .eq 44, 3) := by decide +kernel
theorem dX5_pairs_78 : decode cX5_pairs 78 = .ok (.aload_n 0, 1) := by decide +kernel
theorem dX5_pairs_79 : decode cX5_pairs 79 = .ok (.iload 4, 2) := by decide +kernel
theorem dX5_pairs_81 : decode cX5_pairs 81 = .ok (.invokevirtual 175, 3) := by decide +kernel
theorem dX5_pairs_84 : decode cX5_pairs 84 = .ok (.iconst (-1), 1) := by decide +kernel
theorem dX5_pairs_85 : decode cX5_pairs 85 = .ok (.if_icmp .eq 34, 3) := by decide +kernel
theorem dX5_pairs_88 : decode cX5_pairs 88 = .ok (.iload_n 1, 1) := by decide +kernel
theorem dX5_pairs_89 : decode cX5_pairs 89 = .ok (.ifCond .eq 16, 3) := by decide +kernel
theorem dX5_pairs_92 : decode cX5_pairs 92 = .ok (.iload 6, 2) := by decide +kernel
theorem dX5_pairs_94 : decode cX5_pairs 94 = .ok (.ifCond .eq 25, 3) := by decide +kernel
theorem dX5_pairs_97 : decode cX5_pairs 97 = .ok (.iload 5, 2) := by decide +kernel
theorem dX5_pairs_99 : decode cX5_pairs 99 = .ok (.ifCond .ne 20, 3) := by decide +kernel
theorem dX5_pairs_102 : decode cX5_pairs 102 = .ok (.goto 13, 3) := by decide +kernel
theorem dX5_pairs_105 : decode cX5_pairs 105 = .ok (.iload 5, 2) := by decide +kernel
theorem dX5_pairs_107 : decode cX5_pairs 107 = .ok (.ifCond .eq 12, 3) := by decide +kernel
theorem dX5_pairs_110 : decode cX5_pairs 110 = .ok (.iload 6, 2) := by decide +kernel
theorem dX5_pairs_112 : decode cX5_pairs 112 = .ok (.ifCond .ne 7, 3) := by decide +kernel
theorem dX5_pairs_115 : decode cX5_pairs 115 = .ok (.iconst 1, 1) := by decide +kernel
theorem dX5_pairs_116 : decode cX5_pairs 116 = .ok (.goto 4, 3) := by decide +kernel
theorem dX5_pairs_119 : decode cX5_pairs 119 = .ok (.iconst 0, 1) := by decide +kernel
theorem dX5_pairs_120 : decode cX5_pairs 120 = .ok (.iadd, 1) := by decide +kernel
theorem dX5_pairs_121 : decode cX5_pairs 121 = .ok (.istore_n 2, 1) := by decide +kernel
theorem dX5_pairs_122 : decode cX5_pairs 122 = .ok (.iinc 4 1, 3) := by decide +kernel
theorem dX5_pairs_125 : decode cX5_pairs 125 = .ok (.goto (-107), 3) := by decide +kernel
theorem dX5_pairs_128 : decode cX5_pairs 128 = .ok (.iinc 3 1, 3) := by decide +kernel
theorem dX5_pairs_131 : decode cX5_pairs 131 = .ok (.goto (-127), 3) := by decide +kernel
theorem dX5_pairs_134 : decode cX5_pairs 134 = .ok (.iload_n 2, 1) := by decide +kernel
theorem dX5_pairs_135 : decode cX5_pairs 135 = .ok (.ireturn, 1) := by decide +kernel
def jX5_pairs_66 (F : Nat) (kc_4 : (Int32 × Int32) → Option (Int32)) (kc_18 : (Int32 × Int32) → Option (Int32)) (x1 : Int32) (x2 : Int32) (x3 : Int32) (x4 : Int32) (x5 : Int32) (v0 : Int32) (sD : zOS) : Option (Int32) := (Option.bind (fX5_pinNode x3 sD) (fun r_9 : Int32 => (if r_9 = (-1 : Int32) then (zlet (x2 + (0 : Int32)) (fun x2_11 : Int32 => (kc_18 (x2_11, (x4 + 1))))) else (Option.bind (fX5_pinNode x4 sD) (fun r_12 : Int32 => (if r_12 = (-1 : Int32) then (zlet (x2 + (0 : Int32)) (fun x2_14 : Int32 => (kc_18 (x2_14, (x4 + 1))))) else (if x1 = 0 then (if x5 = 0 then (zlet (x2 + (0 : Int32)) (fun x2_15 : Int32 => (kc_18 (x2_15, (x4 + 1))))) else (if v0 = 0 then (zlet (x2 + (1 : Int32)) (fun x2_16 : Int32 => (kc_18 (x2_16, (x4 + 1))))) else (zlet (x2 + (0 : Int32)) (fun x2_17 : Int32 => (kc_18 (x2_17, (x4 + 1))))))) else (if v0 = 0 then (zlet (x2 + (0 : Int32)) (fun x2_18 : Int32 => (kc_18 (x2_18, (x4 + 1))))) else (if x5 = 0 then (zlet (x2 + (1 : Int32)) (fun x2_19 : Int32 => (kc_18 (x2_19, (x4 + 1))))) else (zlet (x2 + (0 : Int32)) (fun x2_20 : Int32 => (kc_18 (x2_20, (x4 + 1))))))))))))))
set_option maxRecDepth 20000 in
theorem wX5_pairs_66 {X : zCx} {res : Int32} {F : Nat} {qD : Nat → Nat} {sD : zOS} {x1 : Int32} {x3 : Int32} {kc_4 : (Int32 × Int32) → Option (Int32)} {kc_18 : (Int32 × Int32) → Option (Int32)} (C : zC X RX5 cX5_pairs 7 2 43) (hR : zR X (some .int) (some (.int res)) [(5, qD, sD)]) (hk_4 : ∀ (y2 : Int32) (y3 : Int32), zJ X 7 res (kc_4 (y2, y3)) 4 [(0, (.ref (qD 0))), (1, (.int x1)), (2, (.int y2)), (3, (.int y3))] [] [(5, qD, sD)]) (hk_18 : ∀ (y2 : Int32) (y4 : Int32), zJ X 7 res (kc_18 (y2, y4)) 18 [(0, (.ref (qD 0))), (1, (.int x1)), (2, (.int y2)), (3, (.int x3)), (4, (.int y4))] [] [(5, qD, sD)]) (x2 : Int32) (x4 : Int32) (x5 : Int32) (v0 : Int32) : zJ X 7 res (jX5_pairs_66 F kc_4 kc_18 x1 x2 x3 x4 x5 v0 sD) 66 [(0, (.ref (qD 0))), (1, (.int x1)), (2, (.int x2)), (3, (.int x3)), (4, (.int x4)), (5, (.int x5))] [(.int v0)] [(5, qD, sD)] := by
  unfold jX5_pairs_66
  refine z_istore (pc := 66) [(0, (.ref (qD 0))), (1, (.int x1)), (2, (.int x2)), (3, (.int x3)), (4, (.int x4)), (5, (.int x5)), (6, (.int v0))] [1, 2, 3, 4, 5, 6, 0] (by decide) rfl C dX5_pairs_66 ?_
  refine z_iload_n (pc := 68) 2 rfl rfl C dX5_pairs_68 ?_
  refine z_aload_n (pc := 69) 0 rfl rfl C dX5_pairs_69 ?_
  refine z_iload_n (pc := 70) 3 rfl rfl C dX5_pairs_70 ?_
  refine z_callV (pc := 71) (rf' := 1) (rl' := 22) (fX5_pinNode x3 sD) [(.int x3)] [(.int x2)] [(5, qD, sD)] (fun r_9 => (some (.int r_9))) (fun r_9 => [(5, qD, sD)]) [] (fun r_9 => [(5, qD, sD)]) C dX5_pairs_71 zy_X5_pinNode zw_954 (fun _ hr9 => mX5_pinNode  hr9) (by decide) rfl rfl (by decide) rfl (Nat.le_of_ble_eq_true rfl) (List.Perm.refl _) (fun _ => List.Perm.refl _) rfl (fun r_9 hr_10 => ?_)
  show zJ X 7 res _ 74 [(0, (.ref (qD 0))), (1, (.int x1)), (2, (.int x2)), (3, (.int x3)), (4, (.int x4)), (5, (.int x5)), (6, (.int v0))] [(.int r_9), (.int x2)] [(5, qD, sD)]
  refine z_iconst (pc := 74) (-1 : Int32) (by decide) C dX5_pairs_74 ?_
  refine z_icmp_eq (pc := 75) 119 C dX5_pairs_75 (by decide) ?_ ?_
  · refine z_iconst (pc := 119) (0 : Int32) (by decide) C dX5_pairs_119 ?_
    refine z_iadd (pc := 120) C dX5_pairs_120 ?_
    refine z_leti (fun x2_11 => ?_)
    refine z_istore_n (pc := 121) [(0, (.ref (qD 0))), (1, (.int x1)), (2, (.int x2_11)), (3, (.int x3)), (4, (.int x4)), (5, (.int x5)), (6, (.int v0))] [1, 2, 0, 3, 4, 5, 6] (by decide) rfl rfl C dX5_pairs_121 ?_
    refine z_iinc (pc := 122) (x4 + 1) 4 rfl rfl [(0, (.ref (qD 0))), (1, (.int x1)), (2, (.int x2_11)), (3, (.int x3)), (4, (.int (x4 + 1))), (5, (.int x5)), (6, (.int v0))] [1, 2, 3, 4, 0, 5, 6] (by decide) rfl C dX5_pairs_122 ?_
    refine z_goto (pc := 125) 18 C dX5_pairs_125 (by decide) ?_
    refine z_lv [(0, (.ref (qD 0))), (1, (.int x1)), (2, (.int x2_11)), (3, (.int x3)), (4, (.int (x4 + 1)))] [0, 1, 2, 3, 4] rfl ?_
    exact hk_18 _ _
  · refine z_aload_n (pc := 78) 0 rfl rfl C dX5_pairs_78 ?_
    refine z_iload (pc := 79) 4 rfl C dX5_pairs_79 ?_
    refine z_callV (pc := 81) (rf' := 1) (rl' := 22) (fX5_pinNode x4 sD) [(.int x4)] [(.int x2)] [(5, qD, sD)] (fun r_12 => (some (.int r_12))) (fun r_12 => [(5, qD, sD)]) [] (fun r_12 => [(5, qD, sD)]) C dX5_pairs_81 zy_X5_pinNode zw_954 (fun _ hr9 => mX5_pinNode  hr9) (by decide) rfl rfl (by decide) rfl (Nat.le_of_ble_eq_true rfl) (List.Perm.refl _) (fun _ => List.Perm.refl _) rfl (fun r_12 hr_13 => ?_)
    show zJ X 7 res _ 84 [(0, (.ref (qD 0))), (1, (.int x1)), (2, (.int x2)), (3, (.int x3)), (4, (.int x4)), (5, (.int x5)), (6, (.int v0))] [(.int r_12), (.int x2)] [(5, qD, sD)]
    refine z_iconst (pc := 84) (-1 : Int32) (by decide) C dX5_pairs_84 ?_
    refine z_icmp_eq (pc := 85) 119 C dX5_pairs_85 (by decide) ?_ ?_
    · refine z_iconst (pc := 119) (0 : Int32) (by decide) C dX5_pairs_119 ?_
      refine z_iadd (pc := 120) C dX5_pairs_120 ?_
      refine z_leti (fun x2_14 => ?_)
      refine z_istore_n (pc := 121) [(0, (.ref (qD 0))), (1, (.int x1)), (2, (.int x2_14)), (3, (.int x3)), (4, (.int x4)), (5, (.int x5)), (6, (.int v0))] [1, 2, 0, 3, 4, 5, 6] (by decide) rfl rfl C dX5_pairs_121 ?_
      refine z_iinc (pc := 122) (x4 + 1) 4 rfl rfl [(0, (.ref (qD 0))), (1, (.int x1)), (2, (.int x2_14)), (3, (.int x3)), (4, (.int (x4 + 1))), (5, (.int x5)), (6, (.int v0))] [1, 2, 3, 4, 0, 5, 6] (by decide) rfl C dX5_pairs_122 ?_
      refine z_goto (pc := 125) 18 C dX5_pairs_125 (by decide) ?_
      refine z_lv [(0, (.ref (qD 0))), (1, (.int x1)), (2, (.int x2_14)), (3, (.int x3)), (4, (.int (x4 + 1)))] [0, 1, 2, 3, 4] rfl ?_
      exact hk_18 _ _
    · refine z_iload_n (pc := 88) 1 rfl rfl C dX5_pairs_88 ?_
      refine z_if_eq (pc := 89) 105 C dX5_pairs_89 (by decide) ?_ ?_
      · refine z_iload (pc := 105) 5 rfl C dX5_pairs_105 ?_
        refine z_if_eq (pc := 107) 119 C dX5_pairs_107 (by decide) ?_ ?_
        · refine z_iconst (pc := 119) (0 : Int32) (by decide) C dX5_pairs_119 ?_
          refine z_iadd (pc := 120) C dX5_pairs_120 ?_
          refine z_leti (fun x2_15 => ?_)
          refine z_istore_n (pc := 121) [(0, (.ref (qD 0))), (1, (.int x1)), (2, (.int x2_15)), (3, (.int x3)), (4, (.int x4)), (5, (.int x5)), (6, (.int v0))] [1, 2, 0, 3, 4, 5, 6] (by decide) rfl rfl C dX5_pairs_121 ?_
          refine z_iinc (pc := 122) (x4 + 1) 4 rfl rfl [(0, (.ref (qD 0))), (1, (.int x1)), (2, (.int x2_15)), (3, (.int x3)), (4, (.int (x4 + 1))), (5, (.int x5)), (6, (.int v0))] [1, 2, 3, 4, 0, 5, 6] (by decide) rfl C dX5_pairs_122 ?_
          refine z_goto (pc := 125) 18 C dX5_pairs_125 (by decide) ?_
          refine z_lv [(0, (.ref (qD 0))), (1, (.int x1)), (2, (.int x2_15)), (3, (.int x3)), (4, (.int (x4 + 1)))] [0, 1, 2, 3, 4] rfl ?_
          exact hk_18 _ _
        · refine z_iload (pc := 110) 6 rfl C dX5_pairs_110 ?_
          refine z_if_ne (pc := 112) 119 C dX5_pairs_112 (by decide) ?_ ?_
          · refine z_iconst (pc := 115) (1 : Int32) (by decide) C dX5_pairs_115 ?_
            refine z_goto (pc := 116) 120 C dX5_pairs_116 (by decide) ?_
            refine z_iadd (pc := 120) C dX5_pairs_120 ?_
            refine z_leti (fun x2_16 => ?_)
            refine z_istore_n (pc := 121) [(0, (.ref (qD 0))), (1, (.int x1)), (2, (.int x2_16)), (3, (.int x3)), (4, (.int x4)), (5, (.int x5)), (6, (.int v0))] [1, 2, 0, 3, 4, 5, 6] (by decide) rfl rfl C dX5_pairs_121 ?_
            refine z_iinc (pc := 122) (x4 + 1) 4 rfl rfl [(0, (.ref (qD 0))), (1, (.int x1)), (2, (.int x2_16)), (3, (.int x3)), (4, (.int (x4 + 1))), (5, (.int x5)), (6, (.int v0))] [1, 2, 3, 4, 0, 5, 6] (by decide) rfl C dX5_pairs_122 ?_
            refine z_goto (pc := 125) 18 C dX5_pairs_125 (by decide) ?_
            refine z_lv [(0, (.ref (qD 0))), (1, (.int x1)), (2, (.int x2_16)), (3, (.int x3)), (4, (.int (x4 + 1)))] [0, 1, 2, 3, 4] rfl ?_
            exact hk_18 _ _
          · refine z_iconst (pc := 119) (0 : Int32) (by decide) C dX5_pairs_119 ?_
            refine z_iadd (pc := 120) C dX5_pairs_120 ?_
            refine z_leti (fun x2_17 => ?_)
            refine z_istore_n (pc := 121) [(0, (.ref (qD 0))), (1, (.int x1)), (2, (.int x2_17)), (3, (.int x3)), (4, (.int x4)), (5, (.int x5)), (6, (.int v0))] [1, 2, 0, 3, 4, 5, 6] (by decide) rfl rfl C dX5_pairs_121 ?_
            refine z_iinc (pc := 122) (x4 + 1) 4 rfl rfl [(0, (.ref (qD 0))), (1, (.int x1)), (2, (.int x2_17)), (3, (.int x3)), (4, (.int (x4 + 1))), (5, (.int x5)), (6, (.int v0))] [1, 2, 3, 4, 0, 5, 6] (by decide) rfl C dX5_pairs_122 ?_
            refine z_goto (pc := 125) 18 C dX5_pairs_125 (by decide) ?_
            refine z_lv [(0, (.ref (qD 0))), (1, (.int x1)), (2, (.int x2_17)), (3, (.int x3)), (4, (.int (x4 + 1)))] [0, 1, 2, 3, 4] rfl ?_
            exact hk_18 _ _
      · refine z_iload (pc := 92) 6 rfl C dX5_pairs_92 ?_
        refine z_if_eq (pc := 94) 119 C dX5_pairs_94 (by decide) ?_ ?_
        · refine z_iconst (pc := 119) (0 : Int32) (by decide) C dX5_pairs_119 ?_
          refine z_iadd (pc := 120) C dX5_pairs_120 ?_
          refine z_leti (fun x2_18 => ?_)
          refine z_istore_n (pc := 121) [(0, (.ref (qD 0))), (1, (.int x1)), (2, (.int x2_18)), (3, (.int x3)), (4, (.int x4)), (5, (.int x5)), (6, (.int v0))] [1, 2, 0, 3, 4, 5, 6] (by decide) rfl rfl C dX5_pairs_121 ?_
          refine z_iinc (pc := 122) (x4 + 1) 4 rfl rfl [(0, (.ref (qD 0))), (1, (.int x1)), (2, (.int x2_18)), (3, (.int x3)), (4, (.int (x4 + 1))), (5, (.int x5)), (6, (.int v0))] [1, 2, 3, 4, 0, 5, 6] (by decide) rfl C dX5_pairs_122 ?_
          refine z_goto (pc := 125) 18 C dX5_pairs_125 (by decide) ?_
          refine z_lv [(0, (.ref (qD 0))), (1, (.int x1)), (2, (.int x2_18)), (3, (.int x3)), (4, (.int (x4 + 1)))] [0, 1, 2, 3, 4] rfl ?_
          exact hk_18 _ _
        · refine z_iload (pc := 97) 5 rfl C dX5_pairs_97 ?_
          refine z_if_ne (pc := 99) 119 C dX5_pairs_99 (by decide) ?_ ?_
          · refine z_goto (pc := 102) 115 C dX5_pairs_102 (by decide) ?_
            refine z_iconst (pc := 115) (1 : Int32) (by decide) C dX5_pairs_115 ?_
            refine z_goto (pc := 116) 120 C dX5_pairs_116 (by decide) ?_
            refine z_iadd (pc := 120) C dX5_pairs_120 ?_
            refine z_leti (fun x2_19 => ?_)
            refine z_istore_n (pc := 121) [(0, (.ref (qD 0))), (1, (.int x1)), (2, (.int x2_19)), (3, (.int x3)), (4, (.int x4)), (5, (.int x5)), (6, (.int v0))] [1, 2, 0, 3, 4, 5, 6] (by decide) rfl rfl C dX5_pairs_121 ?_
            refine z_iinc (pc := 122) (x4 + 1) 4 rfl rfl [(0, (.ref (qD 0))), (1, (.int x1)), (2, (.int x2_19)), (3, (.int x3)), (4, (.int (x4 + 1))), (5, (.int x5)), (6, (.int v0))] [1, 2, 3, 4, 0, 5, 6] (by decide) rfl C dX5_pairs_122 ?_
            refine z_goto (pc := 125) 18 C dX5_pairs_125 (by decide) ?_
            refine z_lv [(0, (.ref (qD 0))), (1, (.int x1)), (2, (.int x2_19)), (3, (.int x3)), (4, (.int (x4 + 1)))] [0, 1, 2, 3, 4] rfl ?_
            exact hk_18 _ _
          · refine z_iconst (pc := 119) (0 : Int32) (by decide) C dX5_pairs_119 ?_
            refine z_iadd (pc := 120) C dX5_pairs_120 ?_
            refine z_leti (fun x2_20 => ?_)
            refine z_istore_n (pc := 121) [(0, (.ref (qD 0))), (1, (.int x1)), (2, (.int x2_20)), (3, (.int x3)), (4, (.int x4)), (5, (.int x5)), (6, (.int v0))] [1, 2, 0, 3, 4, 5, 6] (by decide) rfl rfl C dX5_pairs_121 ?_
            refine z_iinc (pc := 122) (x4 + 1) 4 rfl rfl [(0, (.ref (qD 0))), (1, (.int x1)), (2, (.int x2_20)), (3, (.int x3)), (4, (.int (x4 + 1))), (5, (.int x5)), (6, (.int v0))] [1, 2, 3, 4, 0, 5, 6] (by decide) rfl C dX5_pairs_122 ?_
            refine z_goto (pc := 125) 18 C dX5_pairs_125 (by decide) ?_
            refine z_lv [(0, (.ref (qD 0))), (1, (.int x1)), (2, (.int x2_20)), (3, (.int x3)), (4, (.int (x4 + 1)))] [0, 1, 2, 3, 4] rfl ?_
            exact hk_18 _ _
def jX5_pairs_45 (F : Nat) (kc_4 : (Int32 × Int32) → Option (Int32)) (kc_18 : (Int32 × Int32) → Option (Int32)) (x1 : Int32) (x2 : Int32) (x3 : Int32) (x4 : Int32) (v0 : Int32) (sD : zOS) : Option (Int32) := (Option.bind (fX5_pinNode x3 sD) (fun r_5 : Int32 => (Option.bind (fX5_pinNode x4 sD) (fun r_7 : Int32 => (if r_5 = r_7 then (jX5_pairs_66 F kc_4 kc_18 x1 x2 x3 x4 v0 (1 : Int32) sD) else (jX5_pairs_66 F kc_4 kc_18 x1 x2 x3 x4 v0 (0 : Int32) sD))))))
set_option maxRecDepth 20000 in
theorem wX5_pairs_45 {X : zCx} {res : Int32} {F : Nat} {qD : Nat → Nat} {sD : zOS} {x1 : Int32} {x3 : Int32} {kc_4 : (Int32 × Int32) → Option (Int32)} {kc_18 : (Int32 × Int32) → Option (Int32)} (C : zC X RX5 cX5_pairs 7 2 43) (hR : zR X (some .int) (some (.int res)) [(5, qD, sD)]) (hk_4 : ∀ (y2 : Int32) (y3 : Int32), zJ X 7 res (kc_4 (y2, y3)) 4 [(0, (.ref (qD 0))), (1, (.int x1)), (2, (.int y2)), (3, (.int y3))] [] [(5, qD, sD)]) (hk_18 : ∀ (y2 : Int32) (y4 : Int32), zJ X 7 res (kc_18 (y2, y4)) 18 [(0, (.ref (qD 0))), (1, (.int x1)), (2, (.int y2)), (3, (.int x3)), (4, (.int y4))] [] [(5, qD, sD)]) (x2 : Int32) (x4 : Int32) (v0 : Int32) : zJ X 7 res (jX5_pairs_45 F kc_4 kc_18 x1 x2 x3 x4 v0 sD) 45 [(0, (.ref (qD 0))), (1, (.int x1)), (2, (.int x2)), (3, (.int x3)), (4, (.int x4))] [(.int v0)] [(5, qD, sD)] := by
  unfold jX5_pairs_45
  refine z_istore (pc := 45) [(0, (.ref (qD 0))), (1, (.int x1)), (2, (.int x2)), (3, (.int x3)), (4, (.int x4)), (5, (.int v0))] [1, 2, 3, 4, 5, 0] (by decide) rfl C dX5_pairs_45 ?_
  refine z_aload_n (pc := 47) 0 rfl rfl C dX5_pairs_47 ?_
  refine z_iload_n (pc := 48) 3 rfl rfl C dX5_pairs_48 ?_
  refine z_callV (pc := 49) (rf' := 1) (rl' := 22) (fX5_pinNode x3 sD) [(.int x3)] [] [(5, qD, sD)] (fun r_5 => (some (.int r_5))) (fun r_5 => [(5, qD, sD)]) [] (fun r_5 => [(5, qD, sD)]) C dX5_pairs_49 zy_X5_pinNode zw_954 (fun _ hr9 => mX5_pinNode  hr9) (by decide) rfl rfl (by decide) rfl (Nat.le_of_ble_eq_true rfl) (List.Perm.refl _) (fun _ => List.Perm.refl _) rfl (fun r_5 hr_6 => ?_)
  show zJ X 7 res _ 52 [(0, (.ref (qD 0))), (1, (.int x1)), (2, (.int x2)), (3, (.int x3)), (4, (.int x4)), (5, (.int v0))] [(.int r_5)] [(5, qD, sD)]
  refine z_aload_n (pc := 52) 0 rfl rfl C dX5_pairs_52 ?_
  refine z_iload (pc := 53) 4 rfl C dX5_pairs_53 ?_
  refine z_callV (pc := 55) (rf' := 1) (rl' := 22) (fX5_pinNode x4 sD) [(.int x4)] [(.int r_5)] [(5, qD, sD)] (fun r_7 => (some (.int r_7))) (fun r_7 => [(5, qD, sD)]) [] (fun r_7 => [(5, qD, sD)]) C dX5_pairs_55 zy_X5_pinNode zw_954 (fun _ hr9 => mX5_pinNode  hr9) (by decide) rfl rfl (by decide) rfl (Nat.le_of_ble_eq_true rfl) (List.Perm.refl _) (fun _ => List.Perm.refl _) rfl (fun r_7 hr_8 => ?_)
  show zJ X 7 res _ 58 [(0, (.ref (qD 0))), (1, (.int x1)), (2, (.int x2)), (3, (.int x3)), (4, (.int x4)), (5, (.int v0))] [(.int r_7), (.int r_5)] [(5, qD, sD)]
  refine z_icmp_ne (pc := 58) 65 C dX5_pairs_58 (by decide) ?_ ?_
  · refine z_iconst (pc := 61) (1 : Int32) (by decide) C dX5_pairs_61 ?_
    refine z_goto (pc := 62) 66 C dX5_pairs_62 (by decide) ?_
    exact wX5_pairs_66 C hR  hk_4 hk_18 _ _ _ _
  · refine z_iconst (pc := 65) (0 : Int32) (by decide) C dX5_pairs_65 ?_
    exact wX5_pairs_66 C hR  hk_4 hk_18 _ _ _ _
def bX5_pairs_18 (F : Nat) (kc_4 : (Int32 × Int32) → Option (Int32)) (x1 : Int32) (x3 : Int32) (sD : zOS) (kc_18 : (Int32 × Int32) → Option (Int32)) (x2 : Int32) (x4 : Int32) : Option (Int32) := (if x3 ≤ x4 then (kc_4 (x2, (x3 + 1))) else (Option.bind (fX5_ofPin x3 (2 : Int32) sD) (fun r_1 : Int32 => (Option.bind (fX5_ofPin x4 (2 : Int32) sD) (fun r_3 : Int32 => (if r_1 = r_3 then (jX5_pairs_45 F kc_4 kc_18 x1 x2 x3 x4 (1 : Int32) sD) else (jX5_pairs_45 F kc_4 kc_18 x1 x2 x3 x4 (0 : Int32) sD)))))))
set_option maxRecDepth 20000 in
theorem vX5_pairs_18 {X : zCx} {res : Int32} {F : Nat} {qD : Nat → Nat} {sD : zOS} {x1 : Int32} {x3 : Int32} {kc_4 : (Int32 × Int32) → Option (Int32)} {kc_18 : (Int32 × Int32) → Option (Int32)} (C : zC X RX5 cX5_pairs 7 2 43) (hR : zR X (some .int) (some (.int res)) [(5, qD, sD)]) (hk_4 : ∀ (y2 : Int32) (y3 : Int32), zJ X 7 res (kc_4 (y2, y3)) 4 [(0, (.ref (qD 0))), (1, (.int x1)), (2, (.int y2)), (3, (.int y3))] [] [(5, qD, sD)]) (hk_18 : ∀ (y2 : Int32) (y4 : Int32), zJ X 7 res (kc_18 (y2, y4)) 18 [(0, (.ref (qD 0))), (1, (.int x1)), (2, (.int y2)), (3, (.int x3)), (4, (.int y4))] [] [(5, qD, sD)]) (x2 : Int32) (x4 : Int32) : zJ X 7 res (bX5_pairs_18 F kc_4 x1 x3 sD kc_18 x2 x4) 18 [(0, (.ref (qD 0))), (1, (.int x1)), (2, (.int x2)), (3, (.int x3)), (4, (.int x4))] [] [(5, qD, sD)] := by
  unfold bX5_pairs_18
  refine z_iload (pc := 18) 4 rfl C dX5_pairs_18 ?_
  refine z_iload_n (pc := 20) 3 rfl rfl C dX5_pairs_20 ?_
  refine z_icmp_ge (pc := 21) 128 C dX5_pairs_21 (by decide) ?_ ?_
  · refine z_iinc (pc := 128) (x3 + 1) 3 rfl rfl [(0, (.ref (qD 0))), (1, (.int x1)), (2, (.int x2)), (3, (.int (x3 + 1))), (4, (.int x4))] [1, 2, 3, 0, 4] (by decide) rfl C dX5_pairs_128 ?_
    refine z_goto (pc := 131) 4 C dX5_pairs_131 (by decide) ?_
    refine z_lv [(0, (.ref (qD 0))), (1, (.int x1)), (2, (.int x2)), (3, (.int (x3 + 1)))] [0, 1, 2, 3] rfl ?_
    exact hk_4 _ _
  · refine z_aload_n (pc := 24) 0 rfl rfl C dX5_pairs_24 ?_
    refine z_iload_n (pc := 25) 3 rfl rfl C dX5_pairs_25 ?_
    refine z_iconst (pc := 26) (2 : Int32) (by decide) C dX5_pairs_26 ?_
    refine z_callV (pc := 27) (rf' := 0) (rl' := 0) (fX5_ofPin x3 (2 : Int32) sD) [(.int x3), (.int (2 : Int32))] [] [(5, qD, sD)] (fun r_1 => (some (.int r_1))) (fun r_1 => [(5, qD, sD)]) [] (fun r_1 => [(5, qD, sD)]) C dX5_pairs_27 zy_X5_ofPin zw_958 (fun _ hr9 => mX5_ofPin  hr9) (by decide) rfl rfl (by decide) rfl (Nat.le_of_ble_eq_true rfl) (List.Perm.refl _) (fun _ => List.Perm.refl _) rfl (fun r_1 hr_2 => ?_)
    show zJ X 7 res _ 30 [(0, (.ref (qD 0))), (1, (.int x1)), (2, (.int x2)), (3, (.int x3)), (4, (.int x4))] [(.int r_1)] [(5, qD, sD)]
    refine z_aload_n (pc := 30) 0 rfl rfl C dX5_pairs_30 ?_
    refine z_iload (pc := 31) 4 rfl C dX5_pairs_31 ?_
    refine z_iconst (pc := 33) (2 : Int32) (by decide) C dX5_pairs_33 ?_
    refine z_callV (pc := 34) (rf' := 0) (rl' := 0) (fX5_ofPin x4 (2 : Int32) sD) [(.int x4), (.int (2 : Int32))] [(.int r_1)] [(5, qD, sD)] (fun r_3 => (some (.int r_3))) (fun r_3 => [(5, qD, sD)]) [] (fun r_3 => [(5, qD, sD)]) C dX5_pairs_34 zy_X5_ofPin zw_958 (fun _ hr9 => mX5_ofPin  hr9) (by decide) rfl rfl (by decide) rfl (Nat.le_of_ble_eq_true rfl) (List.Perm.refl _) (fun _ => List.Perm.refl _) rfl (fun r_3 hr_4 => ?_)
    show zJ X 7 res _ 37 [(0, (.ref (qD 0))), (1, (.int x1)), (2, (.int x2)), (3, (.int x3)), (4, (.int x4))] [(.int r_3), (.int r_1)] [(5, qD, sD)]
    refine z_icmp_ne (pc := 37) 44 C dX5_pairs_37 (by decide) ?_ ?_
    · refine z_iconst (pc := 40) (1 : Int32) (by decide) C dX5_pairs_40 ?_
      refine z_goto (pc := 41) 45 C dX5_pairs_41 (by decide) ?_
      exact wX5_pairs_45 C hR  hk_4 hk_18 _ _ _
    · refine z_iconst (pc := 44) (0 : Int32) (by decide) C dX5_pairs_44 ?_
      exact wX5_pairs_45 C hR  hk_4 hk_18 _ _ _
def bX5_pairs_4 (F : Nat) (x1 : Int32) (sD : zOS) (kc_4 : (Int32 × Int32) → Option (Int32)) (x2 : Int32) (x3 : Int32) : Option (Int32) := (zchk (27 : Int32) 46 (if (zI sD 1 (27 : Int32).toNatClampNeg) ≤ x3 then (some (x2)) else (zit (P := Int32 × Int32) (R := Int32) (fun kc9 p9 => bX5_pairs_18 F kc_4 x1 x3 sD kc9 p9.1 p9.2) F (x2, (0 : Int32)))))
set_option maxRecDepth 20000 in
theorem vX5_pairs_4 {X : zCx} {res : Int32} {F : Nat} {qD : Nat → Nat} {sD : zOS} {x1 : Int32} {kc_4 : (Int32 × Int32) → Option (Int32)} (C : zC X RX5 cX5_pairs 7 2 43) (hR : zR X (some .int) (some (.int res)) [(5, qD, sD)]) (hk_4 : ∀ (y2 : Int32) (y3 : Int32), zJ X 7 res (kc_4 (y2, y3)) 4 [(0, (.ref (qD 0))), (1, (.int x1)), (2, (.int y2)), (3, (.int y3))] [] [(5, qD, sD)]) (x2 : Int32) (x3 : Int32) : zJ X 7 res (bX5_pairs_4 F x1 sD kc_4 x2 x3) 4 [(0, (.ref (qD 0))), (1, (.int x1)), (2, (.int x2)), (3, (.int x3))] [] [(5, qD, sD)] := by
  unfold bX5_pairs_4
  refine z_iload_n (pc := 4) 3 rfl rfl C dX5_pairs_4 ?_
  refine z_aload_n (pc := 5) 0 rfl rfl C dX5_pairs_5 ?_
  refine z_getR (pc := 6) 0 0 1 C dX5_pairs_6 rfl (by decide) (by decide) rfl zw_715 ?_
  refine z_bipush (pc := 9) (27 : Int32) (by decide) C dX5_pairs_9 ?_
  refine z_iald (pc := 11) 0 C dX5_pairs_11 rfl (by unfold zAr; decide) ?_
  refine z_icmp_ge (pc := 12) 134 C dX5_pairs_12 (by decide) ?_ ?_
  · refine z_iload_n (pc := 134) 2 rfl rfl C dX5_pairs_134 ?_
    exact z_ireturn (pc := 135) C hR dX5_pairs_135 (fun h => by subst h; exact ⟨rfl, rfl⟩)
  · refine z_iconst (pc := 15) (0 : Int32) (by decide) C dX5_pairs_15 ?_
    refine z_istore (pc := 16) [(0, (.ref (qD 0))), (1, (.int x1)), (2, (.int x2)), (3, (.int x3)), (4, (.int (0 : Int32)))] [1, 2, 3, 4, 0] (by decide) rfl C dX5_pairs_16 ?_
    show zJ X 7 res _ 18 [(0, (.ref (qD 0))), (1, (.int x1)), (2, (.int x2)), (3, (.int x3)), (4, (.int (0 : Int32)))] [] [(5, qD, sD)]
    exact zit_J (P := Int32 × Int32) (B := (fun kc9 p9 => bX5_pairs_18 F kc_4 x1 x3 sD kc9 p9.1 p9.2)) (fun p9 => [(0, (.ref (qD 0))), (1, (.int x1)), (2, (.int p9.1)), (3, (.int x3)), (4, (.int p9.2))]) (fun p9 => [(5, qD, sD)]) (fun kc9 hk9 p9 => vX5_pairs_18 C hR  hk_4 (fun a0 a1 => hk9 (a0, a1)) p9.1 p9.2) F _
def fX5_pairs (F : Nat) (x1 : Int32) (sD : zOS) : Option (Int32) := (zit (P := Int32 × Int32) (R := Int32) (fun kc9 p9 => bX5_pairs_4 F x1 sD kc9 p9.1 p9.2) F ((0 : Int32), (0 : Int32)))
set_option maxRecDepth 20000 in
theorem wX5_pairs {X : zCx} {res : Int32} {F : Nat} {qD : Nat → Nat} {x1 : Int32} {sD : zOS} (C : zC X RX5 cX5_pairs 7 2 43) (hR : zR X (some .int) (some (.int res)) [(5, qD, sD)])  : zJ X 7 res (fX5_pairs F x1 sD) 0 [(0, (.ref (qD 0))), (1, (.int x1))] [] [(5, qD, sD)] := by
  unfold fX5_pairs
  refine z_iconst (pc := 0) (0 : Int32) (by decide) C dX5_pairs_0 ?_
  refine z_istore_n (pc := 1) [(0, (.ref (qD 0))), (1, (.int x1)), (2, (.int (0 : Int32)))] [1, 2, 0] (by decide) rfl rfl C dX5_pairs_1 ?_
  refine z_iconst (pc := 2) (0 : Int32) (by decide) C dX5_pairs_2 ?_
  refine z_istore_n (pc := 3) [(0, (.ref (qD 0))), (1, (.int x1)), (2, (.int (0 : Int32))), (3, (.int (0 : Int32)))] [1, 2, 3, 0] (by decide) rfl rfl C dX5_pairs_3 ?_
  show zJ X 7 res _ 4 [(0, (.ref (qD 0))), (1, (.int x1)), (2, (.int (0 : Int32))), (3, (.int (0 : Int32)))] [] [(5, qD, sD)]
  exact zit_J (P := Int32 × Int32) (B := (fun kc9 p9 => bX5_pairs_4 F x1 sD kc9 p9.1 p9.2)) (fun p9 => [(0, (.ref (qD 0))), (1, (.int x1)), (2, (.int p9.1)), (3, (.int p9.2))]) (fun p9 => [(5, qD, sD)]) (fun kc9 hk9 p9 => vX5_pairs_4 C hR   (fun a0 a1 => hk9 (a0, a1)) p9.1 p9.2) F _
theorem mX5_pairs {F : Nat} {qD : Nat → Nat} {x1 : Int32} {sD : zOS} {res : Int32}  (hf : fX5_pairs F x1 sD = some res) : zM yX5_pairs cX5_pairs 7 (some .int) 2 43 [(.ref (qD 0)), (.int x1)] [(5, qD, sD)] (some (.int res)) [(5, qD, sD)] := zM_of (by decide +kernel) (Nat.le_of_ble_eq_true rfl) (fun X C hR => wX5_pairs (F := F) C hR  hf)
theorem dX5_netHangs_0 : decode cX5_netHangs 0 = .ok (.iconst 0, 1) := by decide +kernel
theorem dX5_netHangs_1 : decode cX5_netHangs 1 = .ok (.istore_n 2, 1) := by decide +kernel
theorem dX5_netHangs_2 : decode cX5_netHangs 2 = .ok (.iconst 0, 1) := by decide +kernel
theorem dX5_netHangs_3 : decode cX5_netHangs 3 = .ok (.istore_n 3, 1) := by decide +kernel
theorem dX5_netHangs_4 : decode cX5_netHangs 4 = .ok (.iload_n 3, 1) := by decide +kernel
theorem dX5_netHangs_5 : decode cX5_netHangs 5 = .ok (.aload_n 0, 1) := by decide +kernel
theorem dX5_netHangs_6 : decode cX5_netHangs 6 = .ok (.getfield 7, 3) := by decide +kernel
theorem dX5_netHangs_9 : decode cX5_netHangs 9 = .ok (.bipush 8, 2) := by decide +kernel
theorem dX5_netHangs_11 : decode cX5_netHangs 11 = .ok (.iaload, 1) := by decide +kernel
theorem dX5_netHangs_12 : decode cX5_netHangs 12 = .ok (.if_icmp .ge 60, 3) := by decide +kernel
theorem dX5_netHangs_15 : decode cX5_netHangs 15 = .ok (.iload_n 2, 1) := by decide +kernel
theorem dX5_netHangs_16 : decode cX5_netHangs 16 = .ok (.aload_n 0, 1) := by decide +kernel
theorem dX5_netHangs_17 : decode cX5_netHangs 17 = .ok (.iload_n 3, 1) := by decide +kernel
theorem dX5_netHangs_18 : decode cX5_netHangs 18 = .ok (.iconst 0, 1) := by decide +kernel
theorem dX5_netHangs_19 : decode cX5_netHangs 19 = .ok (.invokevirtual 178, 3) := by decide +kernel
theorem dX5_netHangs_22 : decode cX5_netHangs 22 = .ok (.iload_n 1, 1) := by decide +kernel
theorem dX5_netHangs_23 : decode cX5_netHangs 23 = .ok (.if_icmp .ne 8, 3) := by decide +kernel
theorem dX5_netHangs_26 : decode cX5_netHangs 26 = .ok (.bipush 10, 2) := by decide +kernel
theorem dX5_netHangs_28 : decode cX5_netHangs 28 = .ok (.goto 4, 3) := by decide +kernel
theorem dX5_netHangs_31 : decode cX5_netHangs 31 = .ok (.iconst 0, 1) := by decide +kernel
theorem dX5_netHangs_32 : decode cX5_netHangs 32 = .ok (.aload_n 0, 1) := by decide +kernel
theorem dX5_netHangs_33 : decode cX5_netHangs 33 = .ok (.iload_n 3, 1) := by decide +kernel
theorem dX5_netHangs_34 : decode cX5_netHangs 34 = .ok (.iconst 1, 1) := by decide +kernel
theorem dX5_netHangs_35 : decode cX5_netHangs 35 = .ok (.invokevirtual 178, 3) := by decide +kernel
theorem dX5_netHangs_38 : decode cX5_netHangs 38 = .ok (.iload_n 1, 1) := by decide +kernel
theorem dX5_netHangs_39 : decode cX5_netHangs 39 = .ok (.if_icmp .ne 7, 3) := by decide +kernel
theorem dX5_netHangs_42 : decode cX5_netHangs 42 = .ok (.iconst 1, 1) := by decide +kernel
theorem dX5_netHangs_43 : decode cX5_netHangs 43 = .ok (.goto 4, 3) := by decide +kernel
theorem dX5_netHangs_46 : decode cX5_netHangs 46 = .ok (.iconst 0, 1) := by decide +kernel
theorem dX5_netHangs_47 : decode cX5_netHangs 47 = .ok (.iadd, 1) := by decide +kernel
theorem dX5_netHangs_48 : decode cX5_netHangs 48 = .ok (.aload_n 0, 1) := by decide +kernel
theorem dX5_netHangs_49 : decode cX5_netHangs 49 = .ok (.iload_n 3, 1) := by decide +kernel
theorem dX5_netHangs_50 : decode cX5_netHangs 50 = .ok (.iconst 2, 1) := by decide +kernel
theorem dX5_netHangs_51 : decode cX5_netHangs 51 = .ok (.invokevirtual 178, 3) := by decide +kernel
theorem dX5_netHangs_54 : decode cX5_netHangs 54 = .ok (.iload_n 1, 1) := by decide +kernel
theorem dX5_netHangs_55 : decode cX5_netHangs 55 = .ok (.if_icmp .ne 7, 3) := by decide +kernel
theorem dX5_netHangs_58 : decode cX5_netHangs 58 = .ok (.iconst 1, 1) := by decide +kernel
theorem dX5_netHangs_59 : decode cX5_netHangs 59 = .ok (.goto 4, 3) := by decide +kernel
theorem dX5_netHangs_62 : decode cX5_netHangs 62 = .ok (.iconst 0, 1) := by decide +kernel
theorem dX5_netHangs_63 : decode cX5_netHangs 63 = .ok (.iadd, 1) := by decide +kernel
theorem dX5_netHangs_64 : decode cX5_netHangs 64 = .ok (.iadd, 1) := by decide +kernel
theorem dX5_netHangs_65 : decode cX5_netHangs 65 = .ok (.istore_n 2, 1) := by decide +kernel
theorem dX5_netHangs_66 : decode cX5_netHangs 66 = .ok (.iinc 3 1, 3) := by decide +kernel
theorem dX5_netHangs_69 : decode cX5_netHangs 69 = .ok (.goto (-65), 3) := by decide +kernel
theorem dX5_netHangs_72 : decode cX5_netHangs 72 = .ok (.iload_n 2, 1) := by decide +kernel
theorem dX5_netHangs_73 : decode cX5_netHangs 73 = .ok (.ireturn, 1) := by decide +kernel
def jX5_netHangs_47 (F : Nat) (kc_4 : (Int32 × Int32) → Option (Int32)) (x1 : Int32) (x3 : Int32) (v0 : Int32) (v1 : Int32) (v2 : Int32) (sD : zOS) : Option (Int32) := (Option.bind (fX5_ofDevice x3 (2 : Int32) sD) (fun r_5 : Int32 => (if r_5 = x1 then (zlet (v2 + ((v1 + v0) + (1 : Int32))) (fun x2_7 : Int32 => (kc_4 (x2_7, (x3 + 1))))) else (zlet (v2 + ((v1 + v0) + (0 : Int32))) (fun x2_8 : Int32 => (kc_4 (x2_8, (x3 + 1))))))))
set_option maxRecDepth 20000 in
theorem wX5_netHangs_47 {X : zCx} {res : Int32} {F : Nat} {qD : Nat → Nat} {sD : zOS} {x1 : Int32} {kc_4 : (Int32 × Int32) → Option (Int32)} (C : zC X RX5 cX5_netHangs 4 1 22) (hR : zR X (some .int) (some (.int res)) [(5, qD, sD)]) (hk_4 : ∀ (y2 : Int32) (y3 : Int32), zJ X 4 res (kc_4 (y2, y3)) 4 [(0, (.ref (qD 0))), (1, (.int x1)), (2, (.int y2)), (3, (.int y3))] [] [(5, qD, sD)]) (x3 : Int32) (v0 : Int32) (v1 : Int32) (v2 : Int32) : zJ X 4 res (jX5_netHangs_47 F kc_4 x1 x3 v0 v1 v2 sD) 47 [(0, (.ref (qD 0))), (1, (.int x1)), (3, (.int x3))] [(.int v0), (.int v1), (.int v2)] [(5, qD, sD)] := by
  unfold jX5_netHangs_47
  refine z_iadd (pc := 47) C dX5_netHangs_47 ?_
  refine z_aload_n (pc := 48) 0 rfl rfl C dX5_netHangs_48 ?_
  refine z_iload_n (pc := 49) 2 rfl rfl C dX5_netHangs_49 ?_
  refine z_iconst (pc := 50) (2 : Int32) (by decide) C dX5_netHangs_50 ?_
  refine z_callV (pc := 51) (rf' := 0) (rl' := 0) (fX5_ofDevice x3 (2 : Int32) sD) [(.int x3), (.int (2 : Int32))] [(.int (v1 + v0)), (.int v2)] [(5, qD, sD)] (fun r_5 => (some (.int r_5))) (fun r_5 => [(5, qD, sD)]) [] (fun r_5 => [(5, qD, sD)]) C dX5_netHangs_51 zy_X5_ofDevice zw_974 (fun _ hr9 => mX5_ofDevice  hr9) (by decide) rfl rfl (by decide) rfl (Nat.le_of_ble_eq_true rfl) (List.Perm.refl _) (fun _ => List.Perm.refl _) rfl (fun r_5 hr_6 => ?_)
  show zJ X 4 res _ 54 [(0, (.ref (qD 0))), (1, (.int x1)), (3, (.int x3))] [(.int r_5), (.int (v1 + v0)), (.int v2)] [(5, qD, sD)]
  refine z_iload_n (pc := 54) 1 rfl rfl C dX5_netHangs_54 ?_
  refine z_icmp_ne (pc := 55) 62 C dX5_netHangs_55 (by decide) ?_ ?_
  · refine z_iconst (pc := 58) (1 : Int32) (by decide) C dX5_netHangs_58 ?_
    refine z_goto (pc := 59) 63 C dX5_netHangs_59 (by decide) ?_
    refine z_iadd (pc := 63) C dX5_netHangs_63 ?_
    refine z_iadd (pc := 64) C dX5_netHangs_64 ?_
    refine z_leti (fun x2_7 => ?_)
    refine z_istore_n (pc := 65) [(0, (.ref (qD 0))), (1, (.int x1)), (2, (.int x2_7)), (3, (.int x3))] [1, 2, 0, 3] (by decide) rfl rfl C dX5_netHangs_65 ?_
    refine z_iinc (pc := 66) (x3 + 1) 3 rfl rfl [(0, (.ref (qD 0))), (1, (.int x1)), (2, (.int x2_7)), (3, (.int (x3 + 1)))] [1, 2, 3, 0] (by decide) rfl C dX5_netHangs_66 ?_
    refine z_goto (pc := 69) 4 C dX5_netHangs_69 (by decide) ?_
    exact hk_4 _ _
  · refine z_iconst (pc := 62) (0 : Int32) (by decide) C dX5_netHangs_62 ?_
    refine z_iadd (pc := 63) C dX5_netHangs_63 ?_
    refine z_iadd (pc := 64) C dX5_netHangs_64 ?_
    refine z_leti (fun x2_8 => ?_)
    refine z_istore_n (pc := 65) [(0, (.ref (qD 0))), (1, (.int x1)), (2, (.int x2_8)), (3, (.int x3))] [1, 2, 0, 3] (by decide) rfl rfl C dX5_netHangs_65 ?_
    refine z_iinc (pc := 66) (x3 + 1) 3 rfl rfl [(0, (.ref (qD 0))), (1, (.int x1)), (2, (.int x2_8)), (3, (.int (x3 + 1)))] [1, 2, 3, 0] (by decide) rfl C dX5_netHangs_66 ?_
    refine z_goto (pc := 69) 4 C dX5_netHangs_69 (by decide) ?_
    exact hk_4 _ _
def jX5_netHangs_32 (F : Nat) (kc_4 : (Int32 × Int32) → Option (Int32)) (x1 : Int32) (x3 : Int32) (v0 : Int32) (v1 : Int32) (sD : zOS) : Option (Int32) := (Option.bind (fX5_ofDevice x3 (1 : Int32) sD) (fun r_3 : Int32 => (if r_3 = x1 then (jX5_netHangs_47 F kc_4 x1 x3 (1 : Int32) v0 v1 sD) else (jX5_netHangs_47 F kc_4 x1 x3 (0 : Int32) v0 v1 sD))))
set_option maxRecDepth 20000 in
theorem wX5_netHangs_32 {X : zCx} {res : Int32} {F : Nat} {qD : Nat → Nat} {sD : zOS} {x1 : Int32} {kc_4 : (Int32 × Int32) → Option (Int32)} (C : zC X RX5 cX5_netHangs 4 1 22) (hR : zR X (some .int) (some (.int res)) [(5, qD, sD)]) (hk_4 : ∀ (y2 : Int32) (y3 : Int32), zJ X 4 res (kc_4 (y2, y3)) 4 [(0, (.ref (qD 0))), (1, (.int x1)), (2, (.int y2)), (3, (.int y3))] [] [(5, qD, sD)]) (x3 : Int32) (v0 : Int32) (v1 : Int32) : zJ X 4 res (jX5_netHangs_32 F kc_4 x1 x3 v0 v1 sD) 32 [(0, (.ref (qD 0))), (1, (.int x1)), (3, (.int x3))] [(.int v0), (.int v1)] [(5, qD, sD)] := by
  unfold jX5_netHangs_32
  refine z_aload_n (pc := 32) 0 rfl rfl C dX5_netHangs_32 ?_
  refine z_iload_n (pc := 33) 2 rfl rfl C dX5_netHangs_33 ?_
  refine z_iconst (pc := 34) (1 : Int32) (by decide) C dX5_netHangs_34 ?_
  refine z_callV (pc := 35) (rf' := 0) (rl' := 0) (fX5_ofDevice x3 (1 : Int32) sD) [(.int x3), (.int (1 : Int32))] [(.int v0), (.int v1)] [(5, qD, sD)] (fun r_3 => (some (.int r_3))) (fun r_3 => [(5, qD, sD)]) [] (fun r_3 => [(5, qD, sD)]) C dX5_netHangs_35 zy_X5_ofDevice zw_974 (fun _ hr9 => mX5_ofDevice  hr9) (by decide) rfl rfl (by decide) rfl (Nat.le_of_ble_eq_true rfl) (List.Perm.refl _) (fun _ => List.Perm.refl _) rfl (fun r_3 hr_4 => ?_)
  show zJ X 4 res _ 38 [(0, (.ref (qD 0))), (1, (.int x1)), (3, (.int x3))] [(.int r_3), (.int v0), (.int v1)] [(5, qD, sD)]
  refine z_iload_n (pc := 38) 1 rfl rfl C dX5_netHangs_38 ?_
  refine z_icmp_ne (pc := 39) 46 C dX5_netHangs_39 (by decide) ?_ ?_
  · refine z_iconst (pc := 42) (1 : Int32) (by decide) C dX5_netHangs_42 ?_
    refine z_goto (pc := 43) 47 C dX5_netHangs_43 (by decide) ?_
    exact wX5_netHangs_47 C hR  hk_4 _ _ _ _
  · refine z_iconst (pc := 46) (0 : Int32) (by decide) C dX5_netHangs_46 ?_
    exact wX5_netHangs_47 C hR  hk_4 _ _ _ _
def bX5_netHangs_4 (F : Nat) (x1 : Int32) (sD : zOS) (kc_4 : (Int32 × Int32) → Option (Int32)) (x2 : Int32) (x3 : Int32) : Option (Int32) := (zchk (8 : Int32) 46 (if (zI sD 1 (8 : Int32).toNatClampNeg) ≤ x3 then (some (x2)) else (Option.bind (fX5_ofDevice x3 (0 : Int32) sD) (fun r_1 : Int32 => (if r_1 = x1 then (jX5_netHangs_32 F kc_4 x1 x3 (10 : Int32) x2 sD) else (jX5_netHangs_32 F kc_4 x1 x3 (0 : Int32) x2 sD))))))
set_option maxRecDepth 20000 in
theorem vX5_netHangs_4 {X : zCx} {res : Int32} {F : Nat} {qD : Nat → Nat} {sD : zOS} {x1 : Int32} {kc_4 : (Int32 × Int32) → Option (Int32)} (C : zC X RX5 cX5_netHangs 4 1 22) (hR : zR X (some .int) (some (.int res)) [(5, qD, sD)]) (hk_4 : ∀ (y2 : Int32) (y3 : Int32), zJ X 4 res (kc_4 (y2, y3)) 4 [(0, (.ref (qD 0))), (1, (.int x1)), (2, (.int y2)), (3, (.int y3))] [] [(5, qD, sD)]) (x2 : Int32) (x3 : Int32) : zJ X 4 res (bX5_netHangs_4 F x1 sD kc_4 x2 x3) 4 [(0, (.ref (qD 0))), (1, (.int x1)), (2, (.int x2)), (3, (.int x3))] [] [(5, qD, sD)] := by
  unfold bX5_netHangs_4
  refine z_iload_n (pc := 4) 3 rfl rfl C dX5_netHangs_4 ?_
  refine z_aload_n (pc := 5) 0 rfl rfl C dX5_netHangs_5 ?_
  refine z_getR (pc := 6) 0 0 1 C dX5_netHangs_6 rfl (by decide) (by decide) rfl zw_715 ?_
  refine z_bipush (pc := 9) (8 : Int32) (by decide) C dX5_netHangs_9 ?_
  refine z_iald (pc := 11) 0 C dX5_netHangs_11 rfl (by unfold zAr; decide) ?_
  refine z_icmp_ge (pc := 12) 72 C dX5_netHangs_12 (by decide) ?_ ?_
  · refine z_iload_n (pc := 72) 2 rfl rfl C dX5_netHangs_72 ?_
    exact z_ireturn (pc := 73) C hR dX5_netHangs_73 (fun h => by subst h; exact ⟨rfl, rfl⟩)
  · refine z_iload_n (pc := 15) 2 rfl rfl C dX5_netHangs_15 ?_
    refine z_aload_n (pc := 16) 0 rfl rfl C dX5_netHangs_16 ?_
    refine z_iload_n (pc := 17) 3 rfl rfl C dX5_netHangs_17 ?_
    refine z_iconst (pc := 18) (0 : Int32) (by decide) C dX5_netHangs_18 ?_
    refine z_callV (pc := 19) (rf' := 0) (rl' := 0) (fX5_ofDevice x3 (0 : Int32) sD) [(.int x3), (.int (0 : Int32))] [(.int x2)] [(5, qD, sD)] (fun r_1 => (some (.int r_1))) (fun r_1 => [(5, qD, sD)]) [] (fun r_1 => [(5, qD, sD)]) C dX5_netHangs_19 zy_X5_ofDevice zw_974 (fun _ hr9 => mX5_ofDevice  hr9) (by decide) rfl rfl (by decide) rfl (Nat.le_of_ble_eq_true rfl) (List.Perm.refl _) (fun _ => List.Perm.refl _) rfl (fun r_1 hr_2 => ?_)
    show zJ X 4 res _ 22 [(0, (.ref (qD 0))), (1, (.int x1)), (2, (.int x2)), (3, (.int x3))] [(.int r_1), (.int x2)] [(5, qD, sD)]
    refine z_iload_n (pc := 22) 1 rfl rfl C dX5_netHangs_22 ?_
    refine z_icmp_ne (pc := 23) 31 C dX5_netHangs_23 (by decide) ?_ ?_
    · refine z_bipush (pc := 26) (10 : Int32) (by decide) C dX5_netHangs_26 ?_
      refine z_goto (pc := 28) 32 C dX5_netHangs_28 (by decide) ?_
      refine z_lv [(0, (.ref (qD 0))), (1, (.int x1)), (3, (.int x3))] [0, 1, 3] rfl ?_
      exact wX5_netHangs_32 C hR  hk_4 _ _ _
    · refine z_iconst (pc := 31) (0 : Int32) (by decide) C dX5_netHangs_31 ?_
      refine z_lv [(0, (.ref (qD 0))), (1, (.int x1)), (3, (.int x3))] [0, 1, 3] rfl ?_
      exact wX5_netHangs_32 C hR  hk_4 _ _ _
def fX5_netHangs (F : Nat) (x1 : Int32) (sD : zOS) : Option (Int32) := (zit (P := Int32 × Int32) (R := Int32) (fun kc9 p9 => bX5_netHangs_4 F x1 sD kc9 p9.1 p9.2) F ((0 : Int32), (0 : Int32)))
set_option maxRecDepth 20000 in
theorem wX5_netHangs {X : zCx} {res : Int32} {F : Nat} {qD : Nat → Nat} {x1 : Int32} {sD : zOS} (C : zC X RX5 cX5_netHangs 4 1 22) (hR : zR X (some .int) (some (.int res)) [(5, qD, sD)])  : zJ X 4 res (fX5_netHangs F x1 sD) 0 [(0, (.ref (qD 0))), (1, (.int x1))] [] [(5, qD, sD)] := by
  unfold fX5_netHangs
  refine z_iconst (pc := 0) (0 : Int32) (by decide) C dX5_netHangs_0 ?_
  refine z_istore_n (pc := 1) [(0, (.ref (qD 0))), (1, (.int x1)), (2, (.int (0 : Int32)))] [1, 2, 0] (by decide) rfl rfl C dX5_netHangs_1 ?_
  refine z_iconst (pc := 2) (0 : Int32) (by decide) C dX5_netHangs_2 ?_
  refine z_istore_n (pc := 3) [(0, (.ref (qD 0))), (1, (.int x1)), (2, (.int (0 : Int32))), (3, (.int (0 : Int32)))] [1, 2, 3, 0] (by decide) rfl rfl C dX5_netHangs_3 ?_
  show zJ X 4 res _ 4 [(0, (.ref (qD 0))), (1, (.int x1)), (2, (.int (0 : Int32))), (3, (.int (0 : Int32)))] [] [(5, qD, sD)]
  exact zit_J (P := Int32 × Int32) (B := (fun kc9 p9 => bX5_netHangs_4 F x1 sD kc9 p9.1 p9.2)) (fun p9 => [(0, (.ref (qD 0))), (1, (.int x1)), (2, (.int p9.1)), (3, (.int p9.2))]) (fun p9 => [(5, qD, sD)]) (fun kc9 hk9 p9 => vX5_netHangs_4 C hR   (fun a0 a1 => hk9 (a0, a1)) p9.1 p9.2) F _
theorem mX5_netHangs {F : Nat} {qD : Nat → Nat} {x1 : Int32} {sD : zOS} {res : Int32}  (hf : fX5_netHangs F x1 sD = some res) : zM yX5_netHangs cX5_netHangs 4 (some .int) 1 22 [(.ref (qD 0)), (.int x1)] [(5, qD, sD)] (some (.int res)) [(5, qD, sD)] := zM_of (by decide +kernel) (Nat.le_of_ble_eq_true rfl) (fun X C hR => wX5_netHangs (F := F) C hR  hf)
theorem dX5_nodeHangs_0 : decode cX5_nodeHangs 0 = .ok (.iconst 0, 1) := by decide +kernel
theorem dX5_nodeHangs_1 : decode cX5_nodeHangs 1 = .ok (.istore_n 2, 1) := by decide +kernel
theorem dX5_nodeHangs_2 : decode cX5_nodeHangs 2 = .ok (.iconst 0, 1) := by decide +kernel
theorem dX5_nodeHangs_3 : decode cX5_nodeHangs 3 = .ok (.istore_n 3, 1) := by decide +kernel
theorem dX5_nodeHangs_4 : decode cX5_nodeHangs 4 = .ok (.iload_n 3, 1) := by decide +kernel
theorem dX5_nodeHangs_5 : decode cX5_nodeHangs 5 = .ok (.aload_n 0, 1) := by decide +kernel
theorem dX5_nodeHangs_6 : decode cX5_nodeHangs 6 = .ok (.getfield 131, 3) := by decide +kernel
theorem dX5_nodeHangs_9 : decode cX5_nodeHangs 9 = .ok (.if_icmp .ge 68, 3) := by decide +kernel
theorem dX5_nodeHangs_12 : decode cX5_nodeHangs 12 = .ok (.aload_n 0, 1) := by decide +kernel
theorem dX5_nodeHangs_13 : decode cX5_nodeHangs 13 = .ok (.iload_n 3, 1) := by decide +kernel
theorem dX5_nodeHangs_14 : decode cX5_nodeHangs 14 = .ok (.invokevirtual 181, 3) := by decide +kernel
theorem dX5_nodeHangs_17 : decode cX5_nodeHangs 17 = .ok (.ifCond .eq 54, 3) := by decide +kernel
theorem dX5_nodeHangs_20 : decode cX5_nodeHangs 20 = .ok (.iload_n 2, 1) := by decide +kernel
theorem dX5_nodeHangs_21 : decode cX5_nodeHangs 21 = .ok (.aload_n 0, 1) := by decide +kernel
theorem dX5_nodeHangs_22 : decode cX5_nodeHangs 22 = .ok (.iload_n 3, 1) := by decide +kernel
theorem dX5_nodeHangs_23 : decode cX5_nodeHangs 23 = .ok (.iconst 0, 1) := by decide +kernel
theorem dX5_nodeHangs_24 : decode cX5_nodeHangs 24 = .ok (.invokevirtual 150, 3) := by decide +kernel
theorem dX5_nodeHangs_27 : decode cX5_nodeHangs 27 = .ok (.iload_n 1, 1) := by decide +kernel
theorem dX5_nodeHangs_28 : decode cX5_nodeHangs 28 = .ok (.if_icmp .ne 8, 3) := by decide +kernel
theorem dX5_nodeHangs_31 : decode cX5_nodeHangs 31 = .ok (.bipush 10, 2) := by decide +kernel
theorem dX5_nodeHangs_33 : decode cX5_nodeHangs 33 = .ok (.goto 4, 3) := by decide +kernel
theorem dX5_nodeHangs_36 : decode cX5_nodeHangs 36 = .ok (.iconst 0, 1) := by decide +kernel
theorem dX5_nodeHangs_37 : decode cX5_nodeHangs 37 = .ok (.aload_n 0, 1) := by decide +kernel
theorem dX5_nodeHangs_38 : decode cX5_nodeHangs 38 = .ok (.iload_n 3, 1) := by decide +kernel
theorem dX5_nodeHangs_39 : decode cX5_nodeHangs 39 = .ok (.iconst 1, 1) := by decide +kernel
theorem dX5_nodeHangs_40 : decode cX5_nodeHangs 40 = .ok (.invokevirtual 150, 3) := by decide +kernel
theorem dX5_nodeHangs_43 : decode cX5_nodeHangs 43 = .ok (.iload_n 1, 1) := by decide +kernel
theorem dX5_nodeHangs_44 : decode cX5_nodeHangs 44 = .ok (.if_icmp .ne 7, 3) := by decide +kernel
theorem dX5_nodeHangs_47 : decode cX5_nodeHangs 47 = .ok (.iconst 1, 1) := by decide +kernel
theorem dX5_nodeHangs_48 : decode cX5_nodeHangs 48 = .ok (.goto 4, 3) := by decide +kernel
theorem dX5_nodeHangs_51 : decode cX5_nodeHangs 51 = .ok (.iconst 0, 1) := by decide +kernel
theorem dX5_nodeHangs_52 : decode cX5_nodeHangs 52 = .ok (.iadd, 1) := by decide +kernel
theorem dX5_nodeHangs_53 : decode cX5_nodeHangs 53 = .ok (.aload_n 0, 1) := by decide +kernel
theorem dX5_nodeHangs_54 : decode cX5_nodeHangs 54 = .ok (.iload_n 3, 1) := by decide +kernel
theorem dX5_nodeHangs_55 : decode cX5_nodeHangs 55 = .ok (.iconst 2, 1) := by decide +kernel
theorem dX5_nodeHangs_56 : decode cX5_nodeHangs 56 = .ok (.invokevirtual 150, 3) := by decide +kernel
theorem dX5_nodeHangs_59 : decode cX5_nodeHangs 59 = .ok (.iload_n 1, 1) := by decide +kernel
theorem dX5_nodeHangs_60 : decode cX5_nodeHangs 60 = .ok (.if_icmp .ne 7, 3) := by decide +kernel
theorem dX5_nodeHangs_63 : decode cX5_nodeHangs 63 = .ok (.iconst 1, 1) := by decide +kernel
theorem dX5_nodeHangs_64 : decode cX5_nodeHangs 64 = .ok (.goto 4, 3) := by decide +kernel
theorem dX5_nodeHangs_67 : decode cX5_nodeHangs 67 = .ok (.iconst 0, 1) := by decide +kernel
theorem dX5_nodeHangs_68 : decode cX5_nodeHangs 68 = .ok (.iadd, 1) := by decide +kernel
theorem dX5_nodeHangs_69 : decode cX5_nodeHangs 69 = .ok (.iadd, 1) := by decide +kernel
theorem dX5_nodeHangs_70 : decode cX5_nodeHangs 70 = .ok (.istore_n 2, 1) := by decide +kernel
theorem dX5_nodeHangs_71 : decode cX5_nodeHangs 71 = .ok (.iinc 3 1, 3) := by decide +kernel
theorem dX5_nodeHangs_74 : decode cX5_nodeHangs 74 = .ok (.goto (-70), 3) := by decide +kernel
theorem dX5_nodeHangs_77 : decode cX5_nodeHangs 77 = .ok (.iload_n 2, 1) := by decide +kernel
theorem dX5_nodeHangs_78 : decode cX5_nodeHangs 78 = .ok (.ireturn, 1) := by decide +kernel
def jX5_nodeHangs_52 (F : Nat) (kc_4 : (Int32 × Int32) → Option (Int32)) (x1 : Int32) (x3 : Int32) (v0 : Int32) (v1 : Int32) (v2 : Int32) (sD : zOS) : Option (Int32) := (Option.bind (fX5_ofGate x3 (2 : Int32) sD) (fun r_7 : Int32 => (if r_7 = x1 then (zlet (v2 + ((v1 + v0) + (1 : Int32))) (fun x2_9 : Int32 => (kc_4 (x2_9, (x3 + 1))))) else (zlet (v2 + ((v1 + v0) + (0 : Int32))) (fun x2_10 : Int32 => (kc_4 (x2_10, (x3 + 1))))))))
set_option maxRecDepth 20000 in
theorem wX5_nodeHangs_52 {X : zCx} {res : Int32} {F : Nat} {qD : Nat → Nat} {sD : zOS} {x1 : Int32} {kc_4 : (Int32 × Int32) → Option (Int32)} (C : zC X RX5 cX5_nodeHangs 4 2 43) (hR : zR X (some .int) (some (.int res)) [(5, qD, sD)]) (hk_4 : ∀ (y2 : Int32) (y3 : Int32), zJ X 4 res (kc_4 (y2, y3)) 4 [(0, (.ref (qD 0))), (1, (.int x1)), (2, (.int y2)), (3, (.int y3))] [] [(5, qD, sD)]) (x3 : Int32) (v0 : Int32) (v1 : Int32) (v2 : Int32) : zJ X 4 res (jX5_nodeHangs_52 F kc_4 x1 x3 v0 v1 v2 sD) 52 [(0, (.ref (qD 0))), (1, (.int x1)), (3, (.int x3))] [(.int v0), (.int v1), (.int v2)] [(5, qD, sD)] := by
  unfold jX5_nodeHangs_52
  refine z_iadd (pc := 52) C dX5_nodeHangs_52 ?_
  refine z_aload_n (pc := 53) 0 rfl rfl C dX5_nodeHangs_53 ?_
  refine z_iload_n (pc := 54) 2 rfl rfl C dX5_nodeHangs_54 ?_
  refine z_iconst (pc := 55) (2 : Int32) (by decide) C dX5_nodeHangs_55 ?_
  refine z_callV (pc := 56) (rf' := 0) (rl' := 0) (fX5_ofGate x3 (2 : Int32) sD) [(.int x3), (.int (2 : Int32))] [(.int (v1 + v0)), (.int v2)] [(5, qD, sD)] (fun r_7 => (some (.int r_7))) (fun r_7 => [(5, qD, sD)]) [] (fun r_7 => [(5, qD, sD)]) C dX5_nodeHangs_56 zy_X5_ofGate zw_946 (fun _ hr9 => mX5_ofGate  hr9) (by decide) rfl rfl (by decide) rfl (Nat.le_of_ble_eq_true rfl) (List.Perm.refl _) (fun _ => List.Perm.refl _) rfl (fun r_7 hr_8 => ?_)
  show zJ X 4 res _ 59 [(0, (.ref (qD 0))), (1, (.int x1)), (3, (.int x3))] [(.int r_7), (.int (v1 + v0)), (.int v2)] [(5, qD, sD)]
  refine z_iload_n (pc := 59) 1 rfl rfl C dX5_nodeHangs_59 ?_
  refine z_icmp_ne (pc := 60) 67 C dX5_nodeHangs_60 (by decide) ?_ ?_
  · refine z_iconst (pc := 63) (1 : Int32) (by decide) C dX5_nodeHangs_63 ?_
    refine z_goto (pc := 64) 68 C dX5_nodeHangs_64 (by decide) ?_
    refine z_iadd (pc := 68) C dX5_nodeHangs_68 ?_
    refine z_iadd (pc := 69) C dX5_nodeHangs_69 ?_
    refine z_leti (fun x2_9 => ?_)
    refine z_istore_n (pc := 70) [(0, (.ref (qD 0))), (1, (.int x1)), (2, (.int x2_9)), (3, (.int x3))] [1, 2, 0, 3] (by decide) rfl rfl C dX5_nodeHangs_70 ?_
    refine z_iinc (pc := 71) (x3 + 1) 3 rfl rfl [(0, (.ref (qD 0))), (1, (.int x1)), (2, (.int x2_9)), (3, (.int (x3 + 1)))] [1, 2, 3, 0] (by decide) rfl C dX5_nodeHangs_71 ?_
    refine z_goto (pc := 74) 4 C dX5_nodeHangs_74 (by decide) ?_
    exact hk_4 _ _
  · refine z_iconst (pc := 67) (0 : Int32) (by decide) C dX5_nodeHangs_67 ?_
    refine z_iadd (pc := 68) C dX5_nodeHangs_68 ?_
    refine z_iadd (pc := 69) C dX5_nodeHangs_69 ?_
    refine z_leti (fun x2_10 => ?_)
    refine z_istore_n (pc := 70) [(0, (.ref (qD 0))), (1, (.int x1)), (2, (.int x2_10)), (3, (.int x3))] [1, 2, 0, 3] (by decide) rfl rfl C dX5_nodeHangs_70 ?_
    refine z_iinc (pc := 71) (x3 + 1) 3 rfl rfl [(0, (.ref (qD 0))), (1, (.int x1)), (2, (.int x2_10)), (3, (.int (x3 + 1)))] [1, 2, 3, 0] (by decide) rfl C dX5_nodeHangs_71 ?_
    refine z_goto (pc := 74) 4 C dX5_nodeHangs_74 (by decide) ?_
    exact hk_4 _ _
def jX5_nodeHangs_37 (F : Nat) (kc_4 : (Int32 × Int32) → Option (Int32)) (x1 : Int32) (x3 : Int32) (v0 : Int32) (v1 : Int32) (sD : zOS) : Option (Int32) := (Option.bind (fX5_ofGate x3 (1 : Int32) sD) (fun r_5 : Int32 => (if r_5 = x1 then (jX5_nodeHangs_52 F kc_4 x1 x3 (1 : Int32) v0 v1 sD) else (jX5_nodeHangs_52 F kc_4 x1 x3 (0 : Int32) v0 v1 sD))))
set_option maxRecDepth 20000 in
theorem wX5_nodeHangs_37 {X : zCx} {res : Int32} {F : Nat} {qD : Nat → Nat} {sD : zOS} {x1 : Int32} {kc_4 : (Int32 × Int32) → Option (Int32)} (C : zC X RX5 cX5_nodeHangs 4 2 43) (hR : zR X (some .int) (some (.int res)) [(5, qD, sD)]) (hk_4 : ∀ (y2 : Int32) (y3 : Int32), zJ X 4 res (kc_4 (y2, y3)) 4 [(0, (.ref (qD 0))), (1, (.int x1)), (2, (.int y2)), (3, (.int y3))] [] [(5, qD, sD)]) (x3 : Int32) (v0 : Int32) (v1 : Int32) : zJ X 4 res (jX5_nodeHangs_37 F kc_4 x1 x3 v0 v1 sD) 37 [(0, (.ref (qD 0))), (1, (.int x1)), (3, (.int x3))] [(.int v0), (.int v1)] [(5, qD, sD)] := by
  unfold jX5_nodeHangs_37
  refine z_aload_n (pc := 37) 0 rfl rfl C dX5_nodeHangs_37 ?_
  refine z_iload_n (pc := 38) 2 rfl rfl C dX5_nodeHangs_38 ?_
  refine z_iconst (pc := 39) (1 : Int32) (by decide) C dX5_nodeHangs_39 ?_
  refine z_callV (pc := 40) (rf' := 0) (rl' := 0) (fX5_ofGate x3 (1 : Int32) sD) [(.int x3), (.int (1 : Int32))] [(.int v0), (.int v1)] [(5, qD, sD)] (fun r_5 => (some (.int r_5))) (fun r_5 => [(5, qD, sD)]) [] (fun r_5 => [(5, qD, sD)]) C dX5_nodeHangs_40 zy_X5_ofGate zw_946 (fun _ hr9 => mX5_ofGate  hr9) (by decide) rfl rfl (by decide) rfl (Nat.le_of_ble_eq_true rfl) (List.Perm.refl _) (fun _ => List.Perm.refl _) rfl (fun r_5 hr_6 => ?_)
  show zJ X 4 res _ 43 [(0, (.ref (qD 0))), (1, (.int x1)), (3, (.int x3))] [(.int r_5), (.int v0), (.int v1)] [(5, qD, sD)]
  refine z_iload_n (pc := 43) 1 rfl rfl C dX5_nodeHangs_43 ?_
  refine z_icmp_ne (pc := 44) 51 C dX5_nodeHangs_44 (by decide) ?_ ?_
  · refine z_iconst (pc := 47) (1 : Int32) (by decide) C dX5_nodeHangs_47 ?_
    refine z_goto (pc := 48) 52 C dX5_nodeHangs_48 (by decide) ?_
    exact wX5_nodeHangs_52 C hR  hk_4 _ _ _ _
  · refine z_iconst (pc := 51) (0 : Int32) (by decide) C dX5_nodeHangs_51 ?_
    exact wX5_nodeHangs_52 C hR  hk_4 _ _ _ _
def bX5_nodeHangs_4 (F : Nat) (x1 : Int32) (sD : zOS) (kc_4 : (Int32 × Int32) → Option (Int32)) (x2 : Int32) (x3 : Int32) : Option (Int32) := (if (zF sD 10) ≤ x3 then (some (x2)) else (Option.bind (fX5_isWell x3 sD) (fun r_1 : Int32 => (if r_1 = 0 then (kc_4 (x2, (x3 + 1))) else (Option.bind (fX5_ofGate x3 (0 : Int32) sD) (fun r_3 : Int32 => (if r_3 = x1 then (jX5_nodeHangs_37 F kc_4 x1 x3 (10 : Int32) x2 sD) else (jX5_nodeHangs_37 F kc_4 x1 x3 (0 : Int32) x2 sD))))))))
set_option maxRecDepth 20000 in
theorem vX5_nodeHangs_4 {X : zCx} {res : Int32} {F : Nat} {qD : Nat → Nat} {sD : zOS} {x1 : Int32} {kc_4 : (Int32 × Int32) → Option (Int32)} (C : zC X RX5 cX5_nodeHangs 4 2 43) (hR : zR X (some .int) (some (.int res)) [(5, qD, sD)]) (hk_4 : ∀ (y2 : Int32) (y3 : Int32), zJ X 4 res (kc_4 (y2, y3)) 4 [(0, (.ref (qD 0))), (1, (.int x1)), (2, (.int y2)), (3, (.int y3))] [] [(5, qD, sD)]) (x2 : Int32) (x3 : Int32) : zJ X 4 res (bX5_nodeHangs_4 F x1 sD kc_4 x2 x3) 4 [(0, (.ref (qD 0))), (1, (.int x1)), (2, (.int x2)), (3, (.int x3))] [] [(5, qD, sD)] := by
  unfold bX5_nodeHangs_4
  refine z_iload_n (pc := 4) 3 rfl rfl C dX5_nodeHangs_4 ?_
  refine z_aload_n (pc := 5) 0 rfl rfl C dX5_nodeHangs_5 ?_
  refine z_getI (pc := 6) 0 10 C dX5_nodeHangs_6 rfl (by decide) (by decide) rfl zw_725 ?_
  refine z_icmp_ge (pc := 9) 77 C dX5_nodeHangs_9 (by decide) ?_ ?_
  · refine z_iload_n (pc := 77) 2 rfl rfl C dX5_nodeHangs_77 ?_
    exact z_ireturn (pc := 78) C hR dX5_nodeHangs_78 (fun h => by subst h; exact ⟨rfl, rfl⟩)
  · refine z_aload_n (pc := 12) 0 rfl rfl C dX5_nodeHangs_12 ?_
    refine z_iload_n (pc := 13) 3 rfl rfl C dX5_nodeHangs_13 ?_
    refine z_callV (pc := 14) (rf' := 1) (rl' := 22) (fX5_isWell x3 sD) [(.int x3)] [] [(5, qD, sD)] (fun r_1 => (some (.int r_1))) (fun r_1 => [(5, qD, sD)]) [] (fun r_1 => [(5, qD, sD)]) C dX5_nodeHangs_14 zy_X5_isWell zw_942 (fun _ hr9 => mX5_isWell  hr9) (by decide) rfl rfl (by decide) rfl (Nat.le_of_ble_eq_true rfl) (List.Perm.refl _) (fun _ => List.Perm.refl _) rfl (fun r_1 hr_2 => ?_)
    show zJ X 4 res _ 17 [(0, (.ref (qD 0))), (1, (.int x1)), (2, (.int x2)), (3, (.int x3))] [(.int r_1)] [(5, qD, sD)]
    refine z_if_eq (pc := 17) 71 C dX5_nodeHangs_17 (by decide) ?_ ?_
    · refine z_iinc (pc := 71) (x3 + 1) 3 rfl rfl [(0, (.ref (qD 0))), (1, (.int x1)), (2, (.int x2)), (3, (.int (x3 + 1)))] [1, 2, 3, 0] (by decide) rfl C dX5_nodeHangs_71 ?_
      refine z_goto (pc := 74) 4 C dX5_nodeHangs_74 (by decide) ?_
      exact hk_4 _ _
    · refine z_iload_n (pc := 20) 2 rfl rfl C dX5_nodeHangs_20 ?_
      refine z_aload_n (pc := 21) 0 rfl rfl C dX5_nodeHangs_21 ?_
      refine z_iload_n (pc := 22) 3 rfl rfl C dX5_nodeHangs_22 ?_
      refine z_iconst (pc := 23) (0 : Int32) (by decide) C dX5_nodeHangs_23 ?_
      refine z_callV (pc := 24) (rf' := 0) (rl' := 0) (fX5_ofGate x3 (0 : Int32) sD) [(.int x3), (.int (0 : Int32))] [(.int x2)] [(5, qD, sD)] (fun r_3 => (some (.int r_3))) (fun r_3 => [(5, qD, sD)]) [] (fun r_3 => [(5, qD, sD)]) C dX5_nodeHangs_24 zy_X5_ofGate zw_946 (fun _ hr9 => mX5_ofGate  hr9) (by decide) rfl rfl (by decide) rfl (Nat.le_of_ble_eq_true rfl) (List.Perm.refl _) (fun _ => List.Perm.refl _) rfl (fun r_3 hr_4 => ?_)
      show zJ X 4 res _ 27 [(0, (.ref (qD 0))), (1, (.int x1)), (2, (.int x2)), (3, (.int x3))] [(.int r_3), (.int x2)] [(5, qD, sD)]
      refine z_iload_n (pc := 27) 1 rfl rfl C dX5_nodeHangs_27 ?_
      refine z_icmp_ne (pc := 28) 36 C dX5_nodeHangs_28 (by decide) ?_ ?_
      · refine z_bipush (pc := 31) (10 : Int32) (by decide) C dX5_nodeHangs_31 ?_
        refine z_goto (pc := 33) 37 C dX5_nodeHangs_33 (by decide) ?_
        refine z_lv [(0, (.ref (qD 0))), (1, (.int x1)), (3, (.int x3))] [0, 1, 3] rfl ?_
        exact wX5_nodeHangs_37 C hR  hk_4 _ _ _
      · refine z_iconst (pc := 36) (0 : Int32) (by decide) C dX5_nodeHangs_36 ?_
        refine z_lv [(0, (.ref (qD 0))), (1, (.int x1)), (3, (.int x3))] [0, 1, 3] rfl ?_
        exact wX5_nodeHangs_37 C hR  hk_4 _ _ _
def fX5_nodeHangs (F : Nat) (x1 : Int32) (sD : zOS) : Option (Int32) := (zit (P := Int32 × Int32) (R := Int32) (fun kc9 p9 => bX5_nodeHangs_4 F x1 sD kc9 p9.1 p9.2) F ((0 : Int32), (0 : Int32)))
set_option maxRecDepth 20000 in
theorem wX5_nodeHangs {X : zCx} {res : Int32} {F : Nat} {qD : Nat → Nat} {x1 : Int32} {sD : zOS} (C : zC X RX5 cX5_nodeHangs 4 2 43) (hR : zR X (some .int) (some (.int res)) [(5, qD, sD)])  : zJ X 4 res (fX5_nodeHangs F x1 sD) 0 [(0, (.ref (qD 0))), (1, (.int x1))] [] [(5, qD, sD)] := by
  unfold fX5_nodeHangs
  refine z_iconst (pc := 0) (0 : Int32) (by decide) C dX5_nodeHangs_0 ?_
  refine z_istore_n (pc := 1) [(0, (.ref (qD 0))), (1, (.int x1)), (2, (.int (0 : Int32)))] [1, 2, 0] (by decide) rfl rfl C dX5_nodeHangs_1 ?_
  refine z_iconst (pc := 2) (0 : Int32) (by decide) C dX5_nodeHangs_2 ?_
  refine z_istore_n (pc := 3) [(0, (.ref (qD 0))), (1, (.int x1)), (2, (.int (0 : Int32))), (3, (.int (0 : Int32)))] [1, 2, 3, 0] (by decide) rfl rfl C dX5_nodeHangs_3 ?_
  show zJ X 4 res _ 4 [(0, (.ref (qD 0))), (1, (.int x1)), (2, (.int (0 : Int32))), (3, (.int (0 : Int32)))] [] [(5, qD, sD)]
  exact zit_J (P := Int32 × Int32) (B := (fun kc9 p9 => bX5_nodeHangs_4 F x1 sD kc9 p9.1 p9.2)) (fun p9 => [(0, (.ref (qD 0))), (1, (.int x1)), (2, (.int p9.1)), (3, (.int p9.2))]) (fun p9 => [(5, qD, sD)]) (fun kc9 hk9 p9 => vX5_nodeHangs_4 C hR   (fun a0 a1 => hk9 (a0, a1)) p9.1 p9.2) F _
theorem mX5_nodeHangs {F : Nat} {qD : Nat → Nat} {x1 : Int32} {sD : zOS} {res : Int32}  (hf : fX5_nodeHangs F x1 sD = some res) : zM yX5_nodeHangs cX5_nodeHangs 4 (some .int) 2 43 [(.ref (qD 0)), (.int x1)] [(5, qD, sD)] (some (.int res)) [(5, qD, sD)] := zM_of (by decide +kernel) (Nat.le_of_ble_eq_true rfl) (fun X C hR => wX5_nodeHangs (F := F) C hR  hf)
theorem dX5_kind_0 : decode cX5_kind 0 = .ok (.iload_n 1, 1) := by decide +kernel
theorem dX5_kind_1 : decode cX5_kind 1 = .ok (.iload_n 2, 1) := by decide +kernel
theorem dX5_kind_2 : decode cX5_kind 2 = .ok (.if_icmp .ge 7, 3) := by decide +kernel
theorem dX5_kind_5 : decode cX5_kind 5 = .ok (.iload_n 1, 1) := by decide +kernel
theorem dX5_kind_6 : decode cX5_kind 6 = .ok (.goto 4, 3) := by decide +kernel
theorem dX5_kind_9 : decode cX5_kind 9 = .ok (.iload_n 2, 1) := by decide +kernel
theorem dX5_kind_10 : decode cX5_kind 10 = .ok (.istore_n 3, 1) := by decide +kernel
theorem dX5_kind_11 : decode cX5_kind 11 = .ok (.ldc 184, 2) := by decide +kernel
theorem dX5_kind_13 : decode cX5_kind 13 = .ok (.iload_n 0, 1) := by decide +kernel
theorem dX5_kind_14 : decode cX5_kind 14 = .ok (.imul, 1) := by decide +kernel
theorem dX5_kind_15 : decode cX5_kind 15 = .ok (.sipush 1000, 3) := by decide +kernel
theorem dX5_kind_18 : decode cX5_kind 18 = .ok (.iload_n 3, 1) := by decide +kernel
theorem dX5_kind_19 : decode cX5_kind 19 = .ok (.imul, 1) := by decide +kernel
theorem dX5_kind_20 : decode cX5_kind 20 = .ok (.iadd, 1) := by decide +kernel
theorem dX5_kind_21 : decode cX5_kind 21 = .ok (.iload_n 1, 1) := by decide +kernel
theorem dX5_kind_22 : decode cX5_kind 22 = .ok (.iadd, 1) := by decide +kernel
theorem dX5_kind_23 : decode cX5_kind 23 = .ok (.iload_n 2, 1) := by decide +kernel
theorem dX5_kind_24 : decode cX5_kind 24 = .ok (.iadd, 1) := by decide +kernel
theorem dX5_kind_25 : decode cX5_kind 25 = .ok (.iload_n 3, 1) := by decide +kernel
theorem dX5_kind_26 : decode cX5_kind 26 = .ok (.isub, 1) := by decide +kernel
theorem dX5_kind_27 : decode cX5_kind 27 = .ok (.ireturn, 1) := by decide +kernel
def jX5_kind_10 (x0 : Int32) (x1 : Int32) (x2 : Int32) (v0 : Int32) : Option (Int32) := (some ((((((1000000 : Int32) * x0) + ((1000 : Int32) * v0)) + x1) + x2) - v0))
set_option maxRecDepth 20000 in
theorem wX5_kind_10 {X : zCx} {res : Int32} (C : zC X RX5 cX5_kind 4 0 0) (hR : zR X (some .int) (some (.int res)) []) (x0 : Int32) (x1 : Int32) (x2 : Int32) (v0 : Int32) : zJ X 4 res (jX5_kind_10 x0 x1 x2 v0) 10 [(0, (.int x0)), (1, (.int x1)), (2, (.int x2))] [(.int v0)] [] := by
  unfold jX5_kind_10
  refine z_istore_n (pc := 10) [(0, (.int x0)), (1, (.int x1)), (2, (.int x2)), (3, (.int v0))] [1, 2, 3, 0] (by decide) rfl rfl C dX5_kind_10 ?_
  refine z_ldc (pc := 11) (1000000 : Int32) zw_1005 C dX5_kind_11 ?_
  refine z_iload_n (pc := 13) 0 rfl rfl C dX5_kind_13 ?_
  refine z_imul (pc := 14) C dX5_kind_14 ?_
  refine z_sipush (pc := 15) (1000 : Int32) (by decide) C dX5_kind_15 ?_
  refine z_iload_n (pc := 18) 3 rfl rfl C dX5_kind_18 ?_
  refine z_imul (pc := 19) C dX5_kind_19 ?_
  refine z_iadd (pc := 20) C dX5_kind_20 ?_
  refine z_iload_n (pc := 21) 1 rfl rfl C dX5_kind_21 ?_
  refine z_iadd (pc := 22) C dX5_kind_22 ?_
  refine z_iload_n (pc := 23) 2 rfl rfl C dX5_kind_23 ?_
  refine z_iadd (pc := 24) C dX5_kind_24 ?_
  refine z_iload_n (pc := 25) 3 rfl rfl C dX5_kind_25 ?_
  refine z_isub (pc := 26) C dX5_kind_26 ?_
  exact z_ireturn (pc := 27) C hR dX5_kind_27 (fun h => by subst h; exact ⟨rfl, rfl⟩)
def fX5_kind (x0 : Int32) (x1 : Int32) (x2 : Int32) : Option (Int32) := (if x2 ≤ x1 then (jX5_kind_10 x0 x1 x2 x2) else (jX5_kind_10 x0 x1 x2 x1))
set_option maxRecDepth 20000 in
theorem wX5_kind {X : zCx} {res : Int32}   {x0 : Int32} {x1 : Int32} {x2 : Int32} (C : zC X RX5 cX5_kind 4 0 0) (hR : zR X (some .int) (some (.int res)) [])  : zJ X 4 res (fX5_kind x0 x1 x2) 0 [(0, (.int x0)), (1, (.int x1)), (2, (.int x2))] [] [] := by
  unfold fX5_kind
  refine z_iload_n (pc := 0) 1 rfl rfl C dX5_kind_0 ?_
  refine z_iload_n (pc := 1) 2 rfl rfl C dX5_kind_1 ?_
  refine z_icmp_ge (pc := 2) 9 C dX5_kind_2 (by decide) ?_ ?_
  · refine z_iload_n (pc := 9) 2 rfl rfl C dX5_kind_9 ?_
    exact wX5_kind_10 C hR   _ _ _ _
  · refine z_iload_n (pc := 5) 1 rfl rfl C dX5_kind_5 ?_
    refine z_goto (pc := 6) 10 C dX5_kind_6 (by decide) ?_
    exact wX5_kind_10 C hR   _ _ _ _
theorem mX5_kind   {x0 : Int32} {x1 : Int32} {x2 : Int32} {res : Int32}  (hf : fX5_kind x0 x1 x2 = some res) : zM yX5_kind cX5_kind 4 (some .int) 0 0 [(.int x0), (.int x1), (.int x2)] [] (some (.int res)) [] := zM_of (by decide +kernel) (Nat.le_of_ble_eq_true rfl) (fun X C hR => wX5_kind C hR  hf)
theorem dX5_kindOfDevice_0 : decode cX5_kindOfDevice 0 = .ok (.aload_n 0, 1) := by decide +kernel
theorem dX5_kindOfDevice_1 : decode cX5_kindOfDevice 1 = .ok (.aload_n 0, 1) := by decide +kernel
theorem dX5_kindOfDevice_2 : decode cX5_kindOfDevice 2 = .ok (.iload_n 1, 1) := by decide +kernel
theorem dX5_kindOfDevice_3 : decode cX5_kindOfDevice 3 = .ok (.iconst 0, 1) := by decide +kernel
theorem dX5_kindOfDevice_4 : decode cX5_kindOfDevice 4 = .ok (.invokevirtual 178, 3) := by decide +kernel
theorem dX5_kindOfDevice_7 : decode cX5_kindOfDevice 7 = .ok (.invokevirtual 185, 3) := by decide +kernel
theorem dX5_kindOfDevice_10 : decode cX5_kindOfDevice 10 = .ok (.aload_n 0, 1) := by decide +kernel
theorem dX5_kindOfDevice_11 : decode cX5_kindOfDevice 11 = .ok (.aload_n 0, 1) := by decide +kernel
theorem dX5_kindOfDevice_12 : decode cX5_kindOfDevice 12 = .ok (.iload_n 1, 1) := by decide +kernel
theorem dX5_kindOfDevice_13 : decode cX5_kindOfDevice 13 = .ok (.iconst 1, 1) := by decide +kernel
theorem dX5_kindOfDevice_14 : decode cX5_kindOfDevice 14 = .ok (.invokevirtual 178, 3) := by decide +kernel
theorem dX5_kindOfDevice_17 : decode cX5_kindOfDevice 17 = .ok (.invokevirtual 185, 3) := by decide +kernel
theorem dX5_kindOfDevice_20 : decode cX5_kindOfDevice 20 = .ok (.aload_n 0, 1) := by decide +kernel
theorem dX5_kindOfDevice_21 : decode cX5_kindOfDevice 21 = .ok (.aload_n 0, 1) := by decide +kernel
theorem dX5_kindOfDevice_22 : decode cX5_kindOfDevice 22 = .ok (.iload_n 1, 1) := by decide +kernel
theorem dX5_kindOfDevice_23 : decode cX5_kindOfDevice 23 = .ok (.iconst 2, 1) := by decide +kernel
theorem dX5_kindOfDevice_24 : decode cX5_kindOfDevice 24 = .ok (.invokevirtual 178, 3) := by decide +kernel
theorem dX5_kindOfDevice_27 : decode cX5_kindOfDevice 27 = .ok (.invokevirtual 185, 3) := by decide +kernel
theorem dX5_kindOfDevice_30 : decode cX5_kindOfDevice 30 = .ok (.invokestatic 188, 3) := by decide +kernel
theorem dX5_kindOfDevice_33 : decode cX5_kindOfDevice 33 = .ok (.ireturn, 1) := by decide +kernel
def fX5_kindOfDevice (F : Nat) (x1 : Int32) (sD : zOS) : Option (Int32) := (Option.bind (fX5_ofDevice x1 (0 : Int32) sD) (fun r_1 : Int32 => (Option.bind (fX5_netHangs F r_1 sD) (fun r_3 : Int32 => (Option.bind (fX5_ofDevice x1 (1 : Int32) sD) (fun r_5 : Int32 => (Option.bind (fX5_netHangs F r_5 sD) (fun r_7 : Int32 => (Option.bind (fX5_ofDevice x1 (2 : Int32) sD) (fun r_9 : Int32 => (Option.bind (fX5_netHangs F r_9 sD) (fun r_11 : Int32 => (Option.bind (fX5_kind r_3 r_7 r_11) (fun r_13 : Int32 => (some (r_13))))))))))))))))
set_option maxRecDepth 20000 in
theorem wX5_kindOfDevice {X : zCx} {res : Int32} {F : Nat} {qD : Nat → Nat} {x1 : Int32} {sD : zOS} (C : zC X RX5 cX5_kindOfDevice 2 2 45) (hR : zR X (some .int) (some (.int res)) [(5, qD, sD)])  : zJ X 2 res (fX5_kindOfDevice F x1 sD) 0 [(0, (.ref (qD 0))), (1, (.int x1))] [] [(5, qD, sD)] := by
  unfold fX5_kindOfDevice
  refine z_aload_n (pc := 0) 0 rfl rfl C dX5_kindOfDevice_0 ?_
  refine z_aload_n (pc := 1) 0 rfl rfl C dX5_kindOfDevice_1 ?_
  refine z_iload_n (pc := 2) 1 rfl rfl C dX5_kindOfDevice_2 ?_
  refine z_iconst (pc := 3) (0 : Int32) (by decide) C dX5_kindOfDevice_3 ?_
  refine z_callV (pc := 4) (rf' := 0) (rl' := 0) (fX5_ofDevice x1 (0 : Int32) sD) [(.int x1), (.int (0 : Int32))] [(.ref (qD 0))] [(5, qD, sD)] (fun r_1 => (some (.int r_1))) (fun r_1 => [(5, qD, sD)]) [] (fun r_1 => [(5, qD, sD)]) C dX5_kindOfDevice_4 zy_X5_ofDevice zw_974 (fun _ hr9 => mX5_ofDevice  hr9) (by decide) rfl rfl (by decide) rfl (Nat.le_of_ble_eq_true rfl) (List.Perm.refl _) (fun _ => List.Perm.refl _) rfl (fun r_1 hr_2 => ?_)
  show zJ X 2 res _ 7 [(0, (.ref (qD 0))), (1, (.int x1))] [(.int r_1), (.ref (qD 0))] [(5, qD, sD)]
  refine z_callV (pc := 7) (rf' := 1) (rl' := 22) (fX5_netHangs F r_1 sD) [(.int r_1)] [] [(5, qD, sD)] (fun r_3 => (some (.int r_3))) (fun r_3 => [(5, qD, sD)]) [] (fun r_3 => [(5, qD, sD)]) C dX5_kindOfDevice_7 zy_X5_netHangs zw_998 (fun _ hr9 => mX5_netHangs  hr9) (by decide) rfl rfl (by decide) rfl (Nat.le_of_ble_eq_true rfl) (List.Perm.refl _) (fun _ => List.Perm.refl _) rfl (fun r_3 hr_4 => ?_)
  show zJ X 2 res _ 10 [(0, (.ref (qD 0))), (1, (.int x1))] [(.int r_3)] [(5, qD, sD)]
  refine z_aload_n (pc := 10) 0 rfl rfl C dX5_kindOfDevice_10 ?_
  refine z_aload_n (pc := 11) 0 rfl rfl C dX5_kindOfDevice_11 ?_
  refine z_iload_n (pc := 12) 1 rfl rfl C dX5_kindOfDevice_12 ?_
  refine z_iconst (pc := 13) (1 : Int32) (by decide) C dX5_kindOfDevice_13 ?_
  refine z_callV (pc := 14) (rf' := 0) (rl' := 0) (fX5_ofDevice x1 (1 : Int32) sD) [(.int x1), (.int (1 : Int32))] [(.ref (qD 0)), (.int r_3)] [(5, qD, sD)] (fun r_5 => (some (.int r_5))) (fun r_5 => [(5, qD, sD)]) [] (fun r_5 => [(5, qD, sD)]) C dX5_kindOfDevice_14 zy_X5_ofDevice zw_974 (fun _ hr9 => mX5_ofDevice  hr9) (by decide) rfl rfl (by decide) rfl (Nat.le_of_ble_eq_true rfl) (List.Perm.refl _) (fun _ => List.Perm.refl _) rfl (fun r_5 hr_6 => ?_)
  show zJ X 2 res _ 17 [(0, (.ref (qD 0))), (1, (.int x1))] [(.int r_5), (.ref (qD 0)), (.int r_3)] [(5, qD, sD)]
  refine z_callV (pc := 17) (rf' := 1) (rl' := 22) (fX5_netHangs F r_5 sD) [(.int r_5)] [(.int r_3)] [(5, qD, sD)] (fun r_7 => (some (.int r_7))) (fun r_7 => [(5, qD, sD)]) [] (fun r_7 => [(5, qD, sD)]) C dX5_kindOfDevice_17 zy_X5_netHangs zw_998 (fun _ hr9 => mX5_netHangs  hr9) (by decide) rfl rfl (by decide) rfl (Nat.le_of_ble_eq_true rfl) (List.Perm.refl _) (fun _ => List.Perm.refl _) rfl (fun r_7 hr_8 => ?_)
  show zJ X 2 res _ 20 [(0, (.ref (qD 0))), (1, (.int x1))] [(.int r_7), (.int r_3)] [(5, qD, sD)]
  refine z_aload_n (pc := 20) 0 rfl rfl C dX5_kindOfDevice_20 ?_
  refine z_aload_n (pc := 21) 0 rfl rfl C dX5_kindOfDevice_21 ?_
  refine z_iload_n (pc := 22) 1 rfl rfl C dX5_kindOfDevice_22 ?_
  refine z_iconst (pc := 23) (2 : Int32) (by decide) C dX5_kindOfDevice_23 ?_
  refine z_callV (pc := 24) (rf' := 0) (rl' := 0) (fX5_ofDevice x1 (2 : Int32) sD) [(.int x1), (.int (2 : Int32))] [(.ref (qD 0)), (.int r_7), (.int r_3)] [(5, qD, sD)] (fun r_9 => (some (.int r_9))) (fun r_9 => [(5, qD, sD)]) [] (fun r_9 => [(5, qD, sD)]) C dX5_kindOfDevice_24 zy_X5_ofDevice zw_974 (fun _ hr9 => mX5_ofDevice  hr9) (by decide) rfl rfl (by decide) rfl (Nat.le_of_ble_eq_true rfl) (List.Perm.refl _) (fun _ => List.Perm.refl _) rfl (fun r_9 hr_10 => ?_)
  show zJ X 2 res _ 27 [(0, (.ref (qD 0))), (1, (.int x1))] [(.int r_9), (.ref (qD 0)), (.int r_7), (.int r_3)] [(5, qD, sD)]
  refine z_callV (pc := 27) (rf' := 1) (rl' := 22) (fX5_netHangs F r_9 sD) [(.int r_9)] [(.int r_7), (.int r_3)] [(5, qD, sD)] (fun r_11 => (some (.int r_11))) (fun r_11 => [(5, qD, sD)]) [] (fun r_11 => [(5, qD, sD)]) C dX5_kindOfDevice_27 zy_X5_netHangs zw_998 (fun _ hr9 => mX5_netHangs  hr9) (by decide) rfl rfl (by decide) rfl (Nat.le_of_ble_eq_true rfl) (List.Perm.refl _) (fun _ => List.Perm.refl _) rfl (fun r_11 hr_12 => ?_)
  show zJ X 2 res _ 30 [(0, (.ref (qD 0))), (1, (.int x1))] [(.int r_11), (.int r_7), (.int r_3)] [(5, qD, sD)]
  refine z_callS (pc := 30) (rf' := 0) (rl' := 0) (fX5_kind r_3 r_7 r_11) [(.int r_3), (.int r_7), (.int r_11)] [] [] (fun r_13 => (some (.int r_13))) (fun r_13 => []) [(5, qD, sD)] (fun r_13 => [(5, qD, sD)]) C dX5_kindOfDevice_30 zy_X5_kind zw_1002 (fun _ hr9 => mX5_kind  hr9) (by decide) rfl (Nat.le_of_ble_eq_true rfl) (List.Perm.refl _) (fun _ => List.Perm.refl _) rfl (fun r_13 hr_14 => ?_)
  show zJ X 2 res _ 33 [(0, (.ref (qD 0))), (1, (.int x1))] [(.int r_13)] [(5, qD, sD)]
  exact z_ireturn (pc := 33) C hR dX5_kindOfDevice_33 (fun h => by subst h; exact ⟨rfl, rfl⟩)
theorem mX5_kindOfDevice {F : Nat} {qD : Nat → Nat} {x1 : Int32} {sD : zOS} {res : Int32}  (hf : fX5_kindOfDevice F x1 sD = some res) : zM yX5_kindOfDevice cX5_kindOfDevice 2 (some .int) 2 45 [(.ref (qD 0)), (.int x1)] [(5, qD, sD)] (some (.int res)) [(5, qD, sD)] := zM_of (by decide +kernel) (Nat.le_of_ble_eq_true rfl) (fun X C hR => wX5_kindOfDevice (F := F) C hR  hf)
theorem dX5_kindOfGate_0 : decode cX5_kindOfGate 0 = .ok (.aload_n 0, 1) := by decide +kernel
theorem dX5_kindOfGate_1 : decode cX5_kindOfGate 1 = .ok (.aload_n 0, 1) := by decide +kernel
theorem dX5_kindOfGate_2 : decode cX5_kindOfGate 2 = .ok (.iload_n 1, 1) := by decide +kernel
theorem dX5_kindOfGate_3 : decode cX5_kindOfGate 3 = .ok (.iconst 0, 1) := by decide +kernel
theorem dX5_kindOfGate_4 : decode cX5_kindOfGate 4 = .ok (.invokevirtual 150, 3) := by decide +kernel
theorem dX5_kindOfGate_7 : decode cX5_kindOfGate 7 = .ok (.invokevirtual 191, 3) := by decide +kernel
theorem dX5_kindOfGate_10 : decode cX5_kindOfGate 10 = .ok (.aload_n 0, 1) := by decide +kernel
theorem dX5_kindOfGate_11 : decode cX5_kindOfGate 11 = .ok (.aload_n 0, 1) := by decide +kernel
theorem dX5_kindOfGate_12 : decode cX5_kindOfGate 12 = .ok (.iload_n 1, 1) := by decide +kernel
theorem dX5_kindOfGate_13 : decode cX5_kindOfGate 13 = .ok (.iconst 1, 1) := by decide +kernel
theorem dX5_kindOfGate_14 : decode cX5_kindOfGate 14 = .ok (.invokevirtual 150, 3) := by decide +kernel
theorem dX5_kindOfGate_17 : decode cX5_kindOfGate 17 = .ok (.invokevirtual 191, 3) := by decide +kernel
theorem dX5_kindOfGate_20 : decode cX5_kindOfGate 20 = .ok (.aload_n 0, 1) := by decide +kernel
theorem dX5_kindOfGate_21 : decode cX5_kindOfGate 21 = .ok (.aload_n 0, 1) := by decide +kernel
theorem dX5_kindOfGate_22 : decode cX5_kindOfGate 22 = .ok (.iload_n 1, 1) := by decide +kernel
theorem dX5_kindOfGate_23 : decode cX5_kindOfGate 23 = .ok (.iconst 2, 1) := by decide +kernel
theorem dX5_kindOfGate_24 : decode cX5_kindOfGate 24 = .ok (.invokevirtual 150, 3) := by decide +kernel
theorem dX5_kindOfGate_27 : decode cX5_kindOfGate 27 = .ok (.invokevirtual 191, 3) := by decide +kernel
theorem dX5_kindOfGate_30 : decode cX5_kindOfGate 30 = .ok (.invokestatic 188, 3) := by decide +kernel
theorem dX5_kindOfGate_33 : decode cX5_kindOfGate 33 = .ok (.ireturn, 1) := by decide +kernel
def fX5_kindOfGate (F : Nat) (x1 : Int32) (sD : zOS) : Option (Int32) := (Option.bind (fX5_ofGate x1 (0 : Int32) sD) (fun r_1 : Int32 => (Option.bind (fX5_nodeHangs F r_1 sD) (fun r_3 : Int32 => (Option.bind (fX5_ofGate x1 (1 : Int32) sD) (fun r_5 : Int32 => (Option.bind (fX5_nodeHangs F r_5 sD) (fun r_7 : Int32 => (Option.bind (fX5_ofGate x1 (2 : Int32) sD) (fun r_9 : Int32 => (Option.bind (fX5_nodeHangs F r_9 sD) (fun r_11 : Int32 => (Option.bind (fX5_kind r_3 r_7 r_11) (fun r_13 : Int32 => (some (r_13))))))))))))))))
set_option maxRecDepth 20000 in
theorem wX5_kindOfGate {X : zCx} {res : Int32} {F : Nat} {qD : Nat → Nat} {x1 : Int32} {sD : zOS} (C : zC X RX5 cX5_kindOfGate 2 3 66) (hR : zR X (some .int) (some (.int res)) [(5, qD, sD)])  : zJ X 2 res (fX5_kindOfGate F x1 sD) 0 [(0, (.ref (qD 0))), (1, (.int x1))] [] [(5, qD, sD)] := by
  unfold fX5_kindOfGate
  refine z_aload_n (pc := 0) 0 rfl rfl C dX5_kindOfGate_0 ?_
  refine z_aload_n (pc := 1) 0 rfl rfl C dX5_kindOfGate_1 ?_
  refine z_iload_n (pc := 2) 1 rfl rfl C dX5_kindOfGate_2 ?_
  refine z_iconst (pc := 3) (0 : Int32) (by decide) C dX5_kindOfGate_3 ?_
  refine z_callV (pc := 4) (rf' := 0) (rl' := 0) (fX5_ofGate x1 (0 : Int32) sD) [(.int x1), (.int (0 : Int32))] [(.ref (qD 0))] [(5, qD, sD)] (fun r_1 => (some (.int r_1))) (fun r_1 => [(5, qD, sD)]) [] (fun r_1 => [(5, qD, sD)]) C dX5_kindOfGate_4 zy_X5_ofGate zw_946 (fun _ hr9 => mX5_ofGate  hr9) (by decide) rfl rfl (by decide) rfl (Nat.le_of_ble_eq_true rfl) (List.Perm.refl _) (fun _ => List.Perm.refl _) rfl (fun r_1 hr_2 => ?_)
  show zJ X 2 res _ 7 [(0, (.ref (qD 0))), (1, (.int x1))] [(.int r_1), (.ref (qD 0))] [(5, qD, sD)]
  refine z_callV (pc := 7) (rf' := 2) (rl' := 43) (fX5_nodeHangs F r_1 sD) [(.int r_1)] [] [(5, qD, sD)] (fun r_3 => (some (.int r_3))) (fun r_3 => [(5, qD, sD)]) [] (fun r_3 => [(5, qD, sD)]) C dX5_kindOfGate_7 zy_X5_nodeHangs zw_1010 (fun _ hr9 => mX5_nodeHangs  hr9) (by decide) rfl rfl (by decide) rfl (Nat.le_of_ble_eq_true rfl) (List.Perm.refl _) (fun _ => List.Perm.refl _) rfl (fun r_3 hr_4 => ?_)
  show zJ X 2 res _ 10 [(0, (.ref (qD 0))), (1, (.int x1))] [(.int r_3)] [(5, qD, sD)]
  refine z_aload_n (pc := 10) 0 rfl rfl C dX5_kindOfGate_10 ?_
  refine z_aload_n (pc := 11) 0 rfl rfl C dX5_kindOfGate_11 ?_
  refine z_iload_n (pc := 12) 1 rfl rfl C dX5_kindOfGate_12 ?_
  refine z_iconst (pc := 13) (1 : Int32) (by decide) C dX5_kindOfGate_13 ?_
  refine z_callV (pc := 14) (rf' := 0) (rl' := 0) (fX5_ofGate x1 (1 : Int32) sD) [(.int x1), (.int (1 : Int32))] [(.ref (qD 0)), (.int r_3)] [(5, qD, sD)] (fun r_5 => (some (.int r_5))) (fun r_5 => [(5, qD, sD)]) [] (fun r_5 => [(5, qD, sD)]) C dX5_kindOfGate_14 zy_X5_ofGate zw_946 (fun _ hr9 => mX5_ofGate  hr9) (by decide) rfl rfl (by decide) rfl (Nat.le_of_ble_eq_true rfl) (List.Perm.refl _) (fun _ => List.Perm.refl _) rfl (fun r_5 hr_6 => ?_)
  show zJ X 2 res _ 17 [(0, (.ref (qD 0))), (1, (.int x1))] [(.int r_5), (.ref (qD 0)), (.int r_3)] [(5, qD, sD)]
  refine z_callV (pc := 17) (rf' := 2) (rl' := 43) (fX5_nodeHangs F r_5 sD) [(.int r_5)] [(.int r_3)] [(5, qD, sD)] (fun r_7 => (some (.int r_7))) (fun r_7 => [(5, qD, sD)]) [] (fun r_7 => [(5, qD, sD)]) C dX5_kindOfGate_17 zy_X5_nodeHangs zw_1010 (fun _ hr9 => mX5_nodeHangs  hr9) (by decide) rfl rfl (by decide) rfl (Nat.le_of_ble_eq_true rfl) (List.Perm.refl _) (fun _ => List.Perm.refl _) rfl (fun r_7 hr_8 => ?_)
  show zJ X 2 res _ 20 [(0, (.ref (qD 0))), (1, (.int x1))] [(.int r_7), (.int r_3)] [(5, qD, sD)]
  refine z_aload_n (pc := 20) 0 rfl rfl C dX5_kindOfGate_20 ?_
  refine z_aload_n (pc := 21) 0 rfl rfl C dX5_kindOfGate_21 ?_
  refine z_iload_n (pc := 22) 1 rfl rfl C dX5_kindOfGate_22 ?_
  refine z_iconst (pc := 23) (2 : Int32) (by decide) C dX5_kindOfGate_23 ?_
  refine z_callV (pc := 24) (rf' := 0) (rl' := 0) (fX5_ofGate x1 (2 : Int32) sD) [(.int x1), (.int (2 : Int32))] [(.ref (qD 0)), (.int r_7), (.int r_3)] [(5, qD, sD)] (fun r_9 => (some (.int r_9))) (fun r_9 => [(5, qD, sD)]) [] (fun r_9 => [(5, qD, sD)]) C dX5_kindOfGate_24 zy_X5_ofGate zw_946 (fun _ hr9 => mX5_ofGate  hr9) (by decide) rfl rfl (by decide) rfl (Nat.le_of_ble_eq_true rfl) (List.Perm.refl _) (fun _ => List.Perm.refl _) rfl (fun r_9 hr_10 => ?_)
  show zJ X 2 res _ 27 [(0, (.ref (qD 0))), (1, (.int x1))] [(.int r_9), (.ref (qD 0)), (.int r_7), (.int r_3)] [(5, qD, sD)]
  refine z_callV (pc := 27) (rf' := 2) (rl' := 43) (fX5_nodeHangs F r_9 sD) [(.int r_9)] [(.int r_7), (.int r_3)] [(5, qD, sD)] (fun r_11 => (some (.int r_11))) (fun r_11 => [(5, qD, sD)]) [] (fun r_11 => [(5, qD, sD)]) C dX5_kindOfGate_27 zy_X5_nodeHangs zw_1010 (fun _ hr9 => mX5_nodeHangs  hr9) (by decide) rfl rfl (by decide) rfl (Nat.le_of_ble_eq_true rfl) (List.Perm.refl _) (fun _ => List.Perm.refl _) rfl (fun r_11 hr_12 => ?_)
  show zJ X 2 res _ 30 [(0, (.ref (qD 0))), (1, (.int x1))] [(.int r_11), (.int r_7), (.int r_3)] [(5, qD, sD)]
  refine z_callS (pc := 30) (rf' := 0) (rl' := 0) (fX5_kind r_3 r_7 r_11) [(.int r_3), (.int r_7), (.int r_11)] [] [] (fun r_13 => (some (.int r_13))) (fun r_13 => []) [(5, qD, sD)] (fun r_13 => [(5, qD, sD)]) C dX5_kindOfGate_30 zy_X5_kind zw_1002 (fun _ hr9 => mX5_kind  hr9) (by decide) rfl (Nat.le_of_ble_eq_true rfl) (List.Perm.refl _) (fun _ => List.Perm.refl _) rfl (fun r_13 hr_14 => ?_)
  show zJ X 2 res _ 33 [(0, (.ref (qD 0))), (1, (.int x1))] [(.int r_13)] [(5, qD, sD)]
  exact z_ireturn (pc := 33) C hR dX5_kindOfGate_33 (fun h => by subst h; exact ⟨rfl, rfl⟩)
theorem mX5_kindOfGate {F : Nat} {qD : Nat → Nat} {x1 : Int32} {sD : zOS} {res : Int32}  (hf : fX5_kindOfGate F x1 sD = some res) : zM yX5_kindOfGate cX5_kindOfGate 2 (some .int) 3 66 [(.ref (qD 0)), (.int x1)] [(5, qD, sD)] (some (.int res)) [(5, qD, sD)] := zM_of (by decide +kernel) (Nat.le_of_ble_eq_true rfl) (fun X C hR => wX5_kindOfGate (F := F) C hR  hf)
theorem dX5_unlike_0 : decode cX5_unlike 0 = .ok (.iconst 0, 1) := by decide +kernel
theorem dX5_unlike_1 : decode cX5_unlike 1 = .ok (.istore_n 1, 1) := by decide +kernel
theorem dX5_unlike_2 : decode cX5_unlike 2 = .ok (.iconst 0, 1) := by decide +kernel
theorem dX5_unlike_3 : decode cX5_unlike 3 = .ok (.istore_n 2, 1) := by decide +kernel
theorem dX5_unlike_4 : decode cX5_unlike 4 = .ok (.iconst 0, 1) := by decide +kernel
theorem dX5_unlike_5 : decode cX5_unlike 5 = .ok (.istore_n 3, 1) := by decide +kernel
theorem dX5_unlike_6 : decode cX5_unlike 6 = .ok (.iload_n 3, 1) := by decide +kernel
theorem dX5_unlike_7 : decode cX5_unlike 7 = .ok (.aload_n 0, 1) := by decide +kernel
theorem dX5_unlike_8 : decode cX5_unlike 8 = .ok (.getfield 7, 3) := by decide +kernel
theorem dX5_unlike_11 : decode cX5_unlike 11 = .ok (.bipush 8, 2) := by decide +kernel
theorem dX5_unlike_13 : decode cX5_unlike 13 = .ok (.iaload, 1) := by decide +kernel
theorem dX5_unlike_14 : decode cX5_unlike 14 = .ok (.if_icmp .ge 107, 3) := by decide +kernel
theorem dX5_unlike_17 : decode cX5_unlike 17 = .ok (.aload_n 0, 1) := by decide +kernel
theorem dX5_unlike_18 : decode cX5_unlike 18 = .ok (.iload_n 3, 1) := by decide +kernel
theorem dX5_unlike_19 : decode cX5_unlike 19 = .ok (.invokevirtual 194, 3) := by decide +kernel
theorem dX5_unlike_22 : decode cX5_unlike 22 = .ok (.istore 4, 2) := by decide +kernel
theorem dX5_unlike_24 : decode cX5_unlike 24 = .ok (.iconst 0, 1) := by decide +kernel
theorem dX5_unlike_25 : decode cX5_unlike 25 = .ok (.istore 5, 2) := by decide +kernel
theorem dX5_unlike_27 : decode cX5_unlike 27 = .ok (.iconst 0, 1) := by decide +kernel
theorem dX5_unlike_28 : decode cX5_unlike 28 = .ok (.istore 6, 2) := by decide +kernel
theorem dX5_unlike_30 : decode cX5_unlike 30 = .ok (.iload 6, 2) := by decide +kernel
theorem dX5_unlike_32 : decode cX5_unlike 32 = .ok (.aload_n 0, 1) := by decide +kernel
theorem dX5_unlike_33 : decode cX5_unlike 33 = .ok (.getfield 131, 3) := by decide +kernel
theorem dX5_unlike_36 : decode cX5_unlike 36 = .ok (.if_icmp .ge 66, 3) := by decide +kernel
theorem dX5_unlike_39 : decode cX5_unlike 39 = .ok (.iload 5, 2) := by decide +kernel
theorem dX5_unlike_41 : decode cX5_unlike 41 = .ok (.ifCond .ne 61, 3) := by decide +kernel
theorem dX5_unlike_44 : decode cX5_unlike 44 = .ok (.aload_n 0, 1) := by decide +kernel
theorem dX5_unlike_45 : decode cX5_unlike 45 = .ok (.iload 6, 2) := by decide +kernel
theorem dX5_unlike_47 : decode cX5_unlike 47 = .ok (.invokevirtual 181, 3) := by decide +kernel
theorem dX5_unlike_50 : decode cX5_unlike 50 = .ok (.ifCond .eq 27, 3) := by decide +kernel
theorem dX5_unlike_53 : decode cX5_unlike 53 = .ok (.iload_n 2, 1) := by decide +kernel
theorem dX5_unlike_54 : decode cX5_unlike 54 = .ok (.iload 6, 2) := by decide +kernel
theorem dX5_unlike_56 : decode cX5_unlike 56 = .ok (.ishr, 1) := by decide +kernel
theorem dX5_unlike_57 : decode cX5_unlike 57 = .ok (.iconst 1, 1) := by decide +kernel
theorem dX5_unlike_58 : decode cX5_unlike 58 = .ok (.iand, 1) := by decide +kernel
theorem dX5_unlike_59 : decode cX5_unlike 59 = .ok (.ifCond .ne 18, 3) := by decide +kernel
theorem dX5_unlike_62 : decode cX5_unlike 62 = .ok (.aload_n 0, 1) := by decide +kernel
theorem dX5_unlike_63 : decode cX5_unlike 63 = .ok (.iload 6, 2) := by decide +kernel
theorem dX5_unlike_65 : decode cX5_unlike 65 = .ok (.invokevirtual 197, 3) := by decide +kernel
theorem dX5_unlike_68 : decode cX5_unlike 68 = .ok (.iload 4, 2) := by decide +kernel
theorem dX5_unlike_70 : decode cX5_unlike 70 = .ok (.if_icmp .ne 7, 3) := by decide +kernel
theorem dX5_unlike_73 : decode cX5_unlike 73 = .ok (.iconst 1, 1) := by decide +kernel
theorem dX5_unlike_74 : decode cX5_unlike 74 = .ok (.goto 4, 3) := by decide +kernel
theorem dX5_unlike_77 : decode cX5_unlike 77 = .ok (.iconst 0, 1) := by decide +kernel
theorem dX5_unlike_78 : decode cX5_unlike 78 = .ok (.istore 5, 2) := by decide +kernel
theorem dX5_unlike_80 : decode cX5_unlike 80 = .ok (.iload_n 2, 1) := by decide +kernel
theorem dX5_unlike_81 : decode cX5_unlike 81 = .ok (.iload 5, 2) := by decide +kernel
theorem dX5_unlike_83 : decode cX5_unlike 83 = .ok (.ifCond .eq 10, 3) := by decide +kernel
theorem dX5_unlike_86 : decode cX5_unlike 86 = .ok (.iconst 1, 1) := by decide +kernel
theorem dX5_unlike_87 : decode cX5_unlike 87 = .ok (.iload 6, 2) := by decide +kernel
theorem dX5_unlike_89 : decode cX5_unlike 89 = .ok (.ishl, 1) := by decide +kernel
theorem dX5_unlike_90 : decode cX5_unlike 90 = .ok (.goto 4, 3) := by decide +kernel
theorem dX5_unlike_93 : decode cX5_unlike 93 = .ok (.iconst 0, 1) := by decide +kernel
theorem dX5_unlike_94 : decode cX5_unlike 94 = .ok (.ior, 1) := by decide +kernel
theorem dX5_unlike_95 : decode cX5_unlike 95 = .ok (.istore_n 2, 1) := by decide +kernel
theorem dX5_unlike_96 : decode cX5_unlike 96 = .ok (.iinc 6 1, 3) := by decide +kernel
theorem dX5_unlike_99 : decode cX5_unlike 99 = .ok (.goto (-69), 3) := by decide +kernel
theorem dX5_unlike_102 : decode cX5_unlike 102 = .ok (.iload_n 1, 1) := by decide +kernel
theorem dX5_unlike_103 : decode cX5_unlike 103 = .ok (.iload 5, 2) := by decide +kernel
theorem dX5_unlike_105 : decode cX5_unlike 105 = .ok (.ifCond .eq 7, 3) := by decide +kernel
theorem dX5_unlike_108 : decode cX5_unlike 108 = .ok (.iconst 1, 1) := by decide +kernel
theorem dX5_unlike_109 : decode cX5_unlike 109 = .ok (.goto 4, 3) := by decide +kernel
theorem dX5_unlike_112 : decode cX5_unlike 112 = .ok (.iconst 0, 1) := by decide +kernel
theorem dX5_unlike_113 : decode cX5_unlike 113 = .ok (.iadd, 1) := by decide +kernel
theorem dX5_unlike_114 : decode cX5_unlike 114 = .ok (.istore_n 1, 1) := by decide +kernel
theorem dX5_unlike_115 : decode cX5_unlike 115 = .ok (.iinc 3 1, 3) := by decide +kernel
theorem dX5_unlike_118 : decode cX5_unlike 118 = .ok (.goto (-112), 3) := by decide +kernel
theorem dX5_unlike_121 : decode cX5_unlike 121 = .ok (.aload_n 0, 1) := by decide +kernel
theorem dX5_unlike_122 : decode cX5_unlike 122 = .ok (.getfield 7, 3) := by decide +kernel
theorem dX5_unlike_125 : decode cX5_unlike 125 = .ok (.bipush 8, 2) := by decide +kernel
theorem dX5_unlike_127 : decode cX5_unlike 127 = .ok (.iaload, 1) := by decide +kernel
theorem dX5_unlike_128 : decode cX5_unlike 128 = .ok (.aload_n 0, 1) := by decide +kernel
theorem dX5_unlike_129 : decode cX5_unlike 129 = .ok (.invokevirtual 200, 3) := by decide +kernel
theorem dX5_unlike_132 : decode cX5_unlike 132 = .ok (.iadd, 1) := by decide +kernel
theorem dX5_unlike_133 : decode cX5_unlike 133 = .ok (.iconst 2, 1) := by decide +kernel
theorem dX5_unlike_134 : decode cX5_unlike 134 = .ok (.iload_n 1, 1) := by decide +kernel
theorem dX5_unlike_135 : decode cX5_unlike 135 = .ok (.imul, 1) := by decide +kernel
theorem dX5_unlike_136 : decode cX5_unlike 136 = .ok (.isub, 1) := by decide +kernel
theorem dX5_unlike_137 : decode cX5_unlike 137 = .ok (.ireturn, 1) := by decide +kernel
def jX5_unlike_102 (F : Nat) (kc_6 : (Int32 × Int32 × Int32) → Option (Int32)) (x1 : Int32) (x2 : Int32) (x3 : Int32) (x5 : Int32) : Option (Int32) := (if x5 = 0 then (zlet (x1 + (0 : Int32)) (fun x1_5 : Int32 => (kc_6 (x1_5, x2, (x3 + 1))))) else (zlet (x1 + (1 : Int32)) (fun x1_6 : Int32 => (kc_6 (x1_6, x2, (x3 + 1))))))
set_option maxRecDepth 20000 in
theorem wX5_unlike_102 {X : zCx} {res : Int32} {F : Nat} {qD : Nat → Nat} {sD : zOS} {kc_6 : (Int32 × Int32 × Int32) → Option (Int32)} (C : zC X RX5 cX5_unlike 7 4 87) (hR : zR X (some .int) (some (.int res)) [(5, qD, sD)]) (hk_6 : ∀ (y1 : Int32) (y2 : Int32) (y3 : Int32), zJ X 7 res (kc_6 (y1, y2, y3)) 6 [(0, (.ref (qD 0))), (1, (.int y1)), (2, (.int y2)), (3, (.int y3))] [] [(5, qD, sD)]) (x1 : Int32) (x2 : Int32) (x3 : Int32) (x5 : Int32) : zJ X 7 res (jX5_unlike_102 F kc_6 x1 x2 x3 x5) 102 [(0, (.ref (qD 0))), (1, (.int x1)), (2, (.int x2)), (3, (.int x3)), (5, (.int x5))] [] [(5, qD, sD)] := by
  unfold jX5_unlike_102
  refine z_iload_n (pc := 102) 1 rfl rfl C dX5_unlike_102 ?_
  refine z_iload (pc := 103) 4 rfl C dX5_unlike_103 ?_
  refine z_if_eq (pc := 105) 112 C dX5_unlike_105 (by decide) ?_ ?_
  · refine z_iconst (pc := 112) (0 : Int32) (by decide) C dX5_unlike_112 ?_
    refine z_iadd (pc := 113) C dX5_unlike_113 ?_
    refine z_leti (fun x1_5 => ?_)
    refine z_istore_n (pc := 114) [(0, (.ref (qD 0))), (1, (.int x1_5)), (2, (.int x2)), (3, (.int x3)), (5, (.int x5))] [1, 0, 2, 3, 4] (by decide) rfl rfl C dX5_unlike_114 ?_
    refine z_iinc (pc := 115) (x3 + 1) 3 rfl rfl [(0, (.ref (qD 0))), (1, (.int x1_5)), (2, (.int x2)), (3, (.int (x3 + 1))), (5, (.int x5))] [1, 2, 3, 0, 4] (by decide) rfl C dX5_unlike_115 ?_
    refine z_goto (pc := 118) 6 C dX5_unlike_118 (by decide) ?_
    refine z_lv [(0, (.ref (qD 0))), (1, (.int x1_5)), (2, (.int x2)), (3, (.int (x3 + 1)))] [0, 1, 2, 3] rfl ?_
    exact hk_6 _ _ _
  · refine z_iconst (pc := 108) (1 : Int32) (by decide) C dX5_unlike_108 ?_
    refine z_goto (pc := 109) 113 C dX5_unlike_109 (by decide) ?_
    refine z_iadd (pc := 113) C dX5_unlike_113 ?_
    refine z_leti (fun x1_6 => ?_)
    refine z_istore_n (pc := 114) [(0, (.ref (qD 0))), (1, (.int x1_6)), (2, (.int x2)), (3, (.int x3)), (5, (.int x5))] [1, 0, 2, 3, 4] (by decide) rfl rfl C dX5_unlike_114 ?_
    refine z_iinc (pc := 115) (x3 + 1) 3 rfl rfl [(0, (.ref (qD 0))), (1, (.int x1_6)), (2, (.int x2)), (3, (.int (x3 + 1))), (5, (.int x5))] [1, 2, 3, 0, 4] (by decide) rfl C dX5_unlike_115 ?_
    refine z_goto (pc := 118) 6 C dX5_unlike_118 (by decide) ?_
    refine z_lv [(0, (.ref (qD 0))), (1, (.int x1_6)), (2, (.int x2)), (3, (.int (x3 + 1)))] [0, 1, 2, 3] rfl ?_
    exact hk_6 _ _ _
def jX5_unlike_78 (F : Nat) (kc_6 : (Int32 × Int32 × Int32) → Option (Int32)) (kc_30 : (Int32 × Int32 × Int32) → Option (Int32)) (x2 : Int32) (x6 : Int32) (v0 : Int32) : Option (Int32) := (if v0 = 0 then (zlet (x2 ||| (0 : Int32)) (fun x2_9 : Int32 => (kc_30 (x2_9, v0, (x6 + 1))))) else (zlet (x2 ||| ((1 : Int32) <<< (x6 &&& 31))) (fun x2_10 : Int32 => (kc_30 (x2_10, v0, (x6 + 1))))))
set_option maxRecDepth 20000 in
theorem wX5_unlike_78 {X : zCx} {res : Int32} {F : Nat} {qD : Nat → Nat} {sD : zOS} {x1 : Int32} {x3 : Int32} {x4 : Int32} {kc_6 : (Int32 × Int32 × Int32) → Option (Int32)} {kc_30 : (Int32 × Int32 × Int32) → Option (Int32)} (C : zC X RX5 cX5_unlike 7 4 87) (hR : zR X (some .int) (some (.int res)) [(5, qD, sD)]) (hk_6 : ∀ (y1 : Int32) (y2 : Int32) (y3 : Int32), zJ X 7 res (kc_6 (y1, y2, y3)) 6 [(0, (.ref (qD 0))), (1, (.int y1)), (2, (.int y2)), (3, (.int y3))] [] [(5, qD, sD)]) (hk_30 : ∀ (y2 : Int32) (y5 : Int32) (y6 : Int32), zJ X 7 res (kc_30 (y2, y5, y6)) 30 [(0, (.ref (qD 0))), (1, (.int x1)), (2, (.int y2)), (3, (.int x3)), (4, (.int x4)), (5, (.int y5)), (6, (.int y6))] [] [(5, qD, sD)]) (x2 : Int32) (x6 : Int32) (v0 : Int32) : zJ X 7 res (jX5_unlike_78 F kc_6 kc_30 x2 x6 v0) 78 [(0, (.ref (qD 0))), (1, (.int x1)), (2, (.int x2)), (3, (.int x3)), (4, (.int x4)), (6, (.int x6))] [(.int v0)] [(5, qD, sD)] := by
  unfold jX5_unlike_78
  refine z_istore (pc := 78) [(0, (.ref (qD 0))), (1, (.int x1)), (2, (.int x2)), (3, (.int x3)), (4, (.int x4)), (5, (.int v0)), (6, (.int x6))] [1, 2, 3, 4, 5, 0, 6] (by decide) rfl C dX5_unlike_78 ?_
  refine z_iload_n (pc := 80) 2 rfl rfl C dX5_unlike_80 ?_
  refine z_iload (pc := 81) 5 rfl C dX5_unlike_81 ?_
  refine z_if_eq (pc := 83) 93 C dX5_unlike_83 (by decide) ?_ ?_
  · refine z_iconst (pc := 93) (0 : Int32) (by decide) C dX5_unlike_93 ?_
    refine z_ior (pc := 94) C dX5_unlike_94 ?_
    refine z_leti (fun x2_9 => ?_)
    refine z_istore_n (pc := 95) [(0, (.ref (qD 0))), (1, (.int x1)), (2, (.int x2_9)), (3, (.int x3)), (4, (.int x4)), (5, (.int v0)), (6, (.int x6))] [1, 2, 0, 3, 4, 5, 6] (by decide) rfl rfl C dX5_unlike_95 ?_
    refine z_iinc (pc := 96) (x6 + 1) 6 rfl rfl [(0, (.ref (qD 0))), (1, (.int x1)), (2, (.int x2_9)), (3, (.int x3)), (4, (.int x4)), (5, (.int v0)), (6, (.int (x6 + 1)))] [1, 2, 3, 4, 5, 6, 0] (by decide) rfl C dX5_unlike_96 ?_
    refine z_goto (pc := 99) 30 C dX5_unlike_99 (by decide) ?_
    exact hk_30 _ _ _
  · refine z_iconst (pc := 86) (1 : Int32) (by decide) C dX5_unlike_86 ?_
    refine z_iload (pc := 87) 6 rfl C dX5_unlike_87 ?_
    refine z_ishl (pc := 89) C dX5_unlike_89 ?_
    refine z_goto (pc := 90) 94 C dX5_unlike_90 (by decide) ?_
    refine z_ior (pc := 94) C dX5_unlike_94 ?_
    refine z_leti (fun x2_10 => ?_)
    refine z_istore_n (pc := 95) [(0, (.ref (qD 0))), (1, (.int x1)), (2, (.int x2_10)), (3, (.int x3)), (4, (.int x4)), (5, (.int v0)), (6, (.int x6))] [1, 2, 0, 3, 4, 5, 6] (by decide) rfl rfl C dX5_unlike_95 ?_
    refine z_iinc (pc := 96) (x6 + 1) 6 rfl rfl [(0, (.ref (qD 0))), (1, (.int x1)), (2, (.int x2_10)), (3, (.int x3)), (4, (.int x4)), (5, (.int v0)), (6, (.int (x6 + 1)))] [1, 2, 3, 4, 5, 6, 0] (by decide) rfl C dX5_unlike_96 ?_
    refine z_goto (pc := 99) 30 C dX5_unlike_99 (by decide) ?_
    exact hk_30 _ _ _
def jX5_unlike_77 (F : Nat) (kc_6 : (Int32 × Int32 × Int32) → Option (Int32)) (kc_30 : (Int32 × Int32 × Int32) → Option (Int32)) (x2 : Int32) (x6 : Int32) : Option (Int32) := (jX5_unlike_78 F kc_6 kc_30 x2 x6 (0 : Int32))
set_option maxRecDepth 20000 in
theorem wX5_unlike_77 {X : zCx} {res : Int32} {F : Nat} {qD : Nat → Nat} {sD : zOS} {x1 : Int32} {x3 : Int32} {x4 : Int32} {kc_6 : (Int32 × Int32 × Int32) → Option (Int32)} {kc_30 : (Int32 × Int32 × Int32) → Option (Int32)} (C : zC X RX5 cX5_unlike 7 4 87) (hR : zR X (some .int) (some (.int res)) [(5, qD, sD)]) (hk_6 : ∀ (y1 : Int32) (y2 : Int32) (y3 : Int32), zJ X 7 res (kc_6 (y1, y2, y3)) 6 [(0, (.ref (qD 0))), (1, (.int y1)), (2, (.int y2)), (3, (.int y3))] [] [(5, qD, sD)]) (hk_30 : ∀ (y2 : Int32) (y5 : Int32) (y6 : Int32), zJ X 7 res (kc_30 (y2, y5, y6)) 30 [(0, (.ref (qD 0))), (1, (.int x1)), (2, (.int y2)), (3, (.int x3)), (4, (.int x4)), (5, (.int y5)), (6, (.int y6))] [] [(5, qD, sD)]) (x2 : Int32) (x6 : Int32) : zJ X 7 res (jX5_unlike_77 F kc_6 kc_30 x2 x6) 77 [(0, (.ref (qD 0))), (1, (.int x1)), (2, (.int x2)), (3, (.int x3)), (4, (.int x4)), (6, (.int x6))] [] [(5, qD, sD)] := by
  unfold jX5_unlike_77
  refine z_iconst (pc := 77) (0 : Int32) (by decide) C dX5_unlike_77 ?_
  exact wX5_unlike_78 C hR  hk_6 hk_30 _ _ _
def bX5_unlike_30 (F : Nat) (kc_6 : (Int32 × Int32 × Int32) → Option (Int32)) (x1 : Int32) (x3 : Int32) (x4 : Int32) (sD : zOS) (kc_30 : (Int32 × Int32 × Int32) → Option (Int32)) (x2 : Int32) (x5 : Int32) (x6 : Int32) : Option (Int32) := (if (zF sD 10) ≤ x6 then (jX5_unlike_102 F kc_6 x1 x2 x3 x5) else (if x5 = 0 then (Option.bind (fX5_isWell x6 sD) (fun r_7 : Int32 => (if r_7 = 0 then (jX5_unlike_77 F kc_6 kc_30 x2 x6) else (if ((x2 >>> (x6 &&& 31)) &&& (1 : Int32)) = 0 then (Option.bind (fX5_kindOfGate F x6 sD) (fun r_11 : Int32 => (if r_11 = x4 then (jX5_unlike_78 F kc_6 kc_30 x2 x6 (1 : Int32)) else (jX5_unlike_77 F kc_6 kc_30 x2 x6)))) else (jX5_unlike_77 F kc_6 kc_30 x2 x6))))) else (jX5_unlike_102 F kc_6 x1 x2 x3 x5)))
set_option maxRecDepth 20000 in
theorem vX5_unlike_30 {X : zCx} {res : Int32} {F : Nat} {qD : Nat → Nat} {sD : zOS} {x1 : Int32} {x3 : Int32} {x4 : Int32} {kc_6 : (Int32 × Int32 × Int32) → Option (Int32)} {kc_30 : (Int32 × Int32 × Int32) → Option (Int32)} (C : zC X RX5 cX5_unlike 7 4 87) (hR : zR X (some .int) (some (.int res)) [(5, qD, sD)]) (hk_6 : ∀ (y1 : Int32) (y2 : Int32) (y3 : Int32), zJ X 7 res (kc_6 (y1, y2, y3)) 6 [(0, (.ref (qD 0))), (1, (.int y1)), (2, (.int y2)), (3, (.int y3))] [] [(5, qD, sD)]) (hk_30 : ∀ (y2 : Int32) (y5 : Int32) (y6 : Int32), zJ X 7 res (kc_30 (y2, y5, y6)) 30 [(0, (.ref (qD 0))), (1, (.int x1)), (2, (.int y2)), (3, (.int x3)), (4, (.int x4)), (5, (.int y5)), (6, (.int y6))] [] [(5, qD, sD)]) (x2 : Int32) (x5 : Int32) (x6 : Int32) : zJ X 7 res (bX5_unlike_30 F kc_6 x1 x3 x4 sD kc_30 x2 x5 x6) 30 [(0, (.ref (qD 0))), (1, (.int x1)), (2, (.int x2)), (3, (.int x3)), (4, (.int x4)), (5, (.int x5)), (6, (.int x6))] [] [(5, qD, sD)] := by
  unfold bX5_unlike_30
  refine z_iload (pc := 30) 6 rfl C dX5_unlike_30 ?_
  refine z_aload_n (pc := 32) 0 rfl rfl C dX5_unlike_32 ?_
  refine z_getI (pc := 33) 0 10 C dX5_unlike_33 rfl (by decide) (by decide) rfl zw_725 ?_
  refine z_icmp_ge (pc := 36) 102 C dX5_unlike_36 (by decide) ?_ ?_
  · refine z_lv [(0, (.ref (qD 0))), (1, (.int x1)), (2, (.int x2)), (3, (.int x3)), (5, (.int x5))] [0, 1, 2, 3, 5] rfl ?_
    exact wX5_unlike_102 C hR  hk_6 _ _ _ _
  · refine z_iload (pc := 39) 5 rfl C dX5_unlike_39 ?_
    refine z_if_ne (pc := 41) 102 C dX5_unlike_41 (by decide) ?_ ?_
    · refine z_aload_n (pc := 44) 0 rfl rfl C dX5_unlike_44 ?_
      refine z_iload (pc := 45) 6 rfl C dX5_unlike_45 ?_
      refine z_callV (pc := 47) (rf' := 1) (rl' := 22) (fX5_isWell x6 sD) [(.int x6)] [] [(5, qD, sD)] (fun r_7 => (some (.int r_7))) (fun r_7 => [(5, qD, sD)]) [] (fun r_7 => [(5, qD, sD)]) C dX5_unlike_47 zy_X5_isWell zw_942 (fun _ hr9 => mX5_isWell  hr9) (by decide) rfl rfl (by decide) rfl (Nat.le_of_ble_eq_true rfl) (List.Perm.refl _) (fun _ => List.Perm.refl _) rfl (fun r_7 hr_8 => ?_)
      show zJ X 7 res _ 50 [(0, (.ref (qD 0))), (1, (.int x1)), (2, (.int x2)), (3, (.int x3)), (4, (.int x4)), (5, (.int x5)), (6, (.int x6))] [(.int r_7)] [(5, qD, sD)]
      refine z_if_eq (pc := 50) 77 C dX5_unlike_50 (by decide) ?_ ?_
      · refine z_lv [(0, (.ref (qD 0))), (1, (.int x1)), (2, (.int x2)), (3, (.int x3)), (4, (.int x4)), (6, (.int x6))] [0, 1, 2, 3, 4, 6] rfl ?_
        exact wX5_unlike_77 C hR  hk_6 hk_30 _ _
      · refine z_iload_n (pc := 53) 2 rfl rfl C dX5_unlike_53 ?_
        refine z_iload (pc := 54) 6 rfl C dX5_unlike_54 ?_
        refine z_ishr (pc := 56) C dX5_unlike_56 ?_
        refine z_iconst (pc := 57) (1 : Int32) (by decide) C dX5_unlike_57 ?_
        refine z_iand (pc := 58) C dX5_unlike_58 ?_
        refine z_if_ne (pc := 59) 77 C dX5_unlike_59 (by decide) ?_ ?_
        · refine z_aload_n (pc := 62) 0 rfl rfl C dX5_unlike_62 ?_
          refine z_iload (pc := 63) 6 rfl C dX5_unlike_63 ?_
          refine z_callV (pc := 65) (rf' := 3) (rl' := 66) (fX5_kindOfGate F x6 sD) [(.int x6)] [] [(5, qD, sD)] (fun r_11 => (some (.int r_11))) (fun r_11 => [(5, qD, sD)]) [] (fun r_11 => [(5, qD, sD)]) C dX5_unlike_65 zy_X5_kindOfGate zw_1006 (fun _ hr9 => mX5_kindOfGate  hr9) (by decide) rfl rfl (by decide) rfl (Nat.le_of_ble_eq_true rfl) (List.Perm.refl _) (fun _ => List.Perm.refl _) rfl (fun r_11 hr_12 => ?_)
          show zJ X 7 res _ 68 [(0, (.ref (qD 0))), (1, (.int x1)), (2, (.int x2)), (3, (.int x3)), (4, (.int x4)), (5, (.int x5)), (6, (.int x6))] [(.int r_11)] [(5, qD, sD)]
          refine z_iload (pc := 68) 4 rfl C dX5_unlike_68 ?_
          refine z_icmp_ne (pc := 70) 77 C dX5_unlike_70 (by decide) ?_ ?_
          · refine z_iconst (pc := 73) (1 : Int32) (by decide) C dX5_unlike_73 ?_
            refine z_goto (pc := 74) 78 C dX5_unlike_74 (by decide) ?_
            refine z_lv [(0, (.ref (qD 0))), (1, (.int x1)), (2, (.int x2)), (3, (.int x3)), (4, (.int x4)), (6, (.int x6))] [0, 1, 2, 3, 4, 6] rfl ?_
            exact wX5_unlike_78 C hR  hk_6 hk_30 _ _ _
          · refine z_lv [(0, (.ref (qD 0))), (1, (.int x1)), (2, (.int x2)), (3, (.int x3)), (4, (.int x4)), (6, (.int x6))] [0, 1, 2, 3, 4, 6] rfl ?_
            exact wX5_unlike_77 C hR  hk_6 hk_30 _ _
        · refine z_lv [(0, (.ref (qD 0))), (1, (.int x1)), (2, (.int x2)), (3, (.int x3)), (4, (.int x4)), (6, (.int x6))] [0, 1, 2, 3, 4, 6] rfl ?_
          exact wX5_unlike_77 C hR  hk_6 hk_30 _ _
    · refine z_lv [(0, (.ref (qD 0))), (1, (.int x1)), (2, (.int x2)), (3, (.int x3)), (5, (.int x5))] [0, 1, 2, 3, 5] rfl ?_
      exact wX5_unlike_102 C hR  hk_6 _ _ _ _
def bX5_unlike_6 (F : Nat) (sD : zOS) (kc_6 : (Int32 × Int32 × Int32) → Option (Int32)) (x1 : Int32) (x2 : Int32) (x3 : Int32) : Option (Int32) := (zchk (8 : Int32) 46 (if (zI sD 1 (8 : Int32).toNatClampNeg) ≤ x3 then (zchk (8 : Int32) 46 (Option.bind (fX5_wells F sD) (fun r_1 : Int32 => (some (((zI sD 1 (8 : Int32).toNatClampNeg) + r_1) - ((2 : Int32) * x1)))))) else (Option.bind (fX5_kindOfDevice F x3 sD) (fun r_3 : Int32 => (zit (P := Int32 × Int32 × Int32) (R := Int32) (fun kc9 p9 => bX5_unlike_30 F kc_6 x1 x3 r_3 sD kc9 p9.1 p9.2.1 p9.2.2) F (x2, (0 : Int32), (0 : Int32)))))))
set_option maxRecDepth 20000 in
theorem vX5_unlike_6 {X : zCx} {res : Int32} {F : Nat} {qD : Nat → Nat} {sD : zOS} {kc_6 : (Int32 × Int32 × Int32) → Option (Int32)} (C : zC X RX5 cX5_unlike 7 4 87) (hR : zR X (some .int) (some (.int res)) [(5, qD, sD)]) (hk_6 : ∀ (y1 : Int32) (y2 : Int32) (y3 : Int32), zJ X 7 res (kc_6 (y1, y2, y3)) 6 [(0, (.ref (qD 0))), (1, (.int y1)), (2, (.int y2)), (3, (.int y3))] [] [(5, qD, sD)]) (x1 : Int32) (x2 : Int32) (x3 : Int32) : zJ X 7 res (bX5_unlike_6 F sD kc_6 x1 x2 x3) 6 [(0, (.ref (qD 0))), (1, (.int x1)), (2, (.int x2)), (3, (.int x3))] [] [(5, qD, sD)] := by
  unfold bX5_unlike_6
  refine z_iload_n (pc := 6) 3 rfl rfl C dX5_unlike_6 ?_
  refine z_aload_n (pc := 7) 0 rfl rfl C dX5_unlike_7 ?_
  refine z_getR (pc := 8) 0 0 1 C dX5_unlike_8 rfl (by decide) (by decide) rfl zw_715 ?_
  refine z_bipush (pc := 11) (8 : Int32) (by decide) C dX5_unlike_11 ?_
  refine z_iald (pc := 13) 0 C dX5_unlike_13 rfl (by unfold zAr; decide) ?_
  refine z_icmp_ge (pc := 14) 121 C dX5_unlike_14 (by decide) ?_ ?_
  · refine z_aload_n (pc := 121) 0 rfl rfl C dX5_unlike_121 ?_
    refine z_getR (pc := 122) 0 0 1 C dX5_unlike_122 rfl (by decide) (by decide) rfl zw_715 ?_
    refine z_bipush (pc := 125) (8 : Int32) (by decide) C dX5_unlike_125 ?_
    refine z_iald (pc := 127) 0 C dX5_unlike_127 rfl (by unfold zAr; decide) ?_
    refine z_aload_n (pc := 128) 0 rfl rfl C dX5_unlike_128 ?_
    refine z_callV (pc := 129) (rf' := 2) (rl' := 43) (fX5_wells F sD) [] [(.int (zI sD 1 (8 : Int32).toNatClampNeg))] [(5, qD, sD)] (fun r_1 => (some (.int r_1))) (fun r_1 => [(5, qD, sD)]) [] (fun r_1 => [(5, qD, sD)]) C dX5_unlike_129 zy_X5_wells zw_938 (fun _ hr9 => mX5_wells  hr9) (by decide) rfl rfl (by decide) rfl (Nat.le_of_ble_eq_true rfl) (List.Perm.refl _) (fun _ => List.Perm.refl _) rfl (fun r_1 hr_2 => ?_)
    show zJ X 7 res _ 132 [(0, (.ref (qD 0))), (1, (.int x1)), (2, (.int x2)), (3, (.int x3))] [(.int r_1), (.int (zI sD 1 (8 : Int32).toNatClampNeg))] [(5, qD, sD)]
    refine z_iadd (pc := 132) C dX5_unlike_132 ?_
    refine z_iconst (pc := 133) (2 : Int32) (by decide) C dX5_unlike_133 ?_
    refine z_iload_n (pc := 134) 1 rfl rfl C dX5_unlike_134 ?_
    refine z_imul (pc := 135) C dX5_unlike_135 ?_
    refine z_isub (pc := 136) C dX5_unlike_136 ?_
    exact z_ireturn (pc := 137) C hR dX5_unlike_137 (fun h => by subst h; exact ⟨rfl, rfl⟩)
  · refine z_aload_n (pc := 17) 0 rfl rfl C dX5_unlike_17 ?_
    refine z_iload_n (pc := 18) 3 rfl rfl C dX5_unlike_18 ?_
    refine z_callV (pc := 19) (rf' := 2) (rl' := 45) (fX5_kindOfDevice F x3 sD) [(.int x3)] [] [(5, qD, sD)] (fun r_3 => (some (.int r_3))) (fun r_3 => [(5, qD, sD)]) [] (fun r_3 => [(5, qD, sD)]) C dX5_unlike_19 zy_X5_kindOfDevice zw_994 (fun _ hr9 => mX5_kindOfDevice  hr9) (by decide) rfl rfl (by decide) rfl (Nat.le_of_ble_eq_true rfl) (List.Perm.refl _) (fun _ => List.Perm.refl _) rfl (fun r_3 hr_4 => ?_)
    show zJ X 7 res _ 22 [(0, (.ref (qD 0))), (1, (.int x1)), (2, (.int x2)), (3, (.int x3))] [(.int r_3)] [(5, qD, sD)]
    refine z_istore (pc := 22) [(0, (.ref (qD 0))), (1, (.int x1)), (2, (.int x2)), (3, (.int x3)), (4, (.int r_3))] [1, 2, 3, 4, 0] (by decide) rfl C dX5_unlike_22 ?_
    refine z_iconst (pc := 24) (0 : Int32) (by decide) C dX5_unlike_24 ?_
    refine z_istore (pc := 25) [(0, (.ref (qD 0))), (1, (.int x1)), (2, (.int x2)), (3, (.int x3)), (4, (.int r_3)), (5, (.int (0 : Int32)))] [1, 2, 3, 4, 5, 0] (by decide) rfl C dX5_unlike_25 ?_
    refine z_iconst (pc := 27) (0 : Int32) (by decide) C dX5_unlike_27 ?_
    refine z_istore (pc := 28) [(0, (.ref (qD 0))), (1, (.int x1)), (2, (.int x2)), (3, (.int x3)), (4, (.int r_3)), (5, (.int (0 : Int32))), (6, (.int (0 : Int32)))] [1, 2, 3, 4, 5, 6, 0] (by decide) rfl C dX5_unlike_28 ?_
    show zJ X 7 res _ 30 [(0, (.ref (qD 0))), (1, (.int x1)), (2, (.int x2)), (3, (.int x3)), (4, (.int r_3)), (5, (.int (0 : Int32))), (6, (.int (0 : Int32)))] [] [(5, qD, sD)]
    exact zit_J (P := Int32 × Int32 × Int32) (B := (fun kc9 p9 => bX5_unlike_30 F kc_6 x1 x3 r_3 sD kc9 p9.1 p9.2.1 p9.2.2)) (fun p9 => [(0, (.ref (qD 0))), (1, (.int x1)), (2, (.int p9.1)), (3, (.int x3)), (4, (.int r_3)), (5, (.int p9.2.1)), (6, (.int p9.2.2))]) (fun p9 => [(5, qD, sD)]) (fun kc9 hk9 p9 => vX5_unlike_30 C hR  hk_6 (fun a0 a1 a2 => hk9 (a0, a1, a2)) p9.1 p9.2.1 p9.2.2) F _
def fX5_unlike (F : Nat) (sD : zOS) : Option (Int32) := (zit (P := Int32 × Int32 × Int32) (R := Int32) (fun kc9 p9 => bX5_unlike_6 F sD kc9 p9.1 p9.2.1 p9.2.2) F ((0 : Int32), (0 : Int32), (0 : Int32)))
set_option maxRecDepth 20000 in
theorem wX5_unlike {X : zCx} {res : Int32} {F : Nat} {qD : Nat → Nat} {sD : zOS} (C : zC X RX5 cX5_unlike 7 4 87) (hR : zR X (some .int) (some (.int res)) [(5, qD, sD)])  : zJ X 7 res (fX5_unlike F sD) 0 [(0, (.ref (qD 0)))] [] [(5, qD, sD)] := by
  unfold fX5_unlike
  refine z_iconst (pc := 0) (0 : Int32) (by decide) C dX5_unlike_0 ?_
  refine z_istore_n (pc := 1) [(0, (.ref (qD 0))), (1, (.int (0 : Int32)))] [1, 0] (by decide) rfl rfl C dX5_unlike_1 ?_
  refine z_iconst (pc := 2) (0 : Int32) (by decide) C dX5_unlike_2 ?_
  refine z_istore_n (pc := 3) [(0, (.ref (qD 0))), (1, (.int (0 : Int32))), (2, (.int (0 : Int32)))] [1, 2, 0] (by decide) rfl rfl C dX5_unlike_3 ?_
  refine z_iconst (pc := 4) (0 : Int32) (by decide) C dX5_unlike_4 ?_
  refine z_istore_n (pc := 5) [(0, (.ref (qD 0))), (1, (.int (0 : Int32))), (2, (.int (0 : Int32))), (3, (.int (0 : Int32)))] [1, 2, 3, 0] (by decide) rfl rfl C dX5_unlike_5 ?_
  show zJ X 7 res _ 6 [(0, (.ref (qD 0))), (1, (.int (0 : Int32))), (2, (.int (0 : Int32))), (3, (.int (0 : Int32)))] [] [(5, qD, sD)]
  exact zit_J (P := Int32 × Int32 × Int32) (B := (fun kc9 p9 => bX5_unlike_6 F sD kc9 p9.1 p9.2.1 p9.2.2)) (fun p9 => [(0, (.ref (qD 0))), (1, (.int p9.1)), (2, (.int p9.2.1)), (3, (.int p9.2.2))]) (fun p9 => [(5, qD, sD)]) (fun kc9 hk9 p9 => vX5_unlike_6 C hR   (fun a0 a1 a2 => hk9 (a0, a1, a2)) p9.1 p9.2.1 p9.2.2) F _
theorem mX5_unlike {F : Nat} {qD : Nat → Nat} {sD : zOS} {res : Int32}  (hf : fX5_unlike F sD = some res) : zM yX5_unlike cX5_unlike 7 (some .int) 4 87 [(.ref (qD 0))] [(5, qD, sD)] (some (.int res)) [(5, qD, sD)] := zM_of (by decide +kernel) (Nat.le_of_ble_eq_true rfl) (fun X C hR => wX5_unlike (F := F) C hR  hf)
theorem dX5_counted_0 : decode cX5_counted 0 = .ok (.aload_n 0, 1) := by decide +kernel
theorem dX5_counted_1 : decode cX5_counted 1 = .ok (.invokevirtual 169, 3) := by decide +kernel
theorem dX5_counted_4 : decode cX5_counted 4 = .ok (.iload_n 1, 1) := by decide +kernel
theorem dX5_counted_5 : decode cX5_counted 5 = .ok (.tableswitch 100 0 7 #[47, 52, 57, 67, 72, 80, 88, 94], 47) := by decide +kernel
theorem dX5_counted_52 : decode cX5_counted 52 = .ok (.aload_n 0, 1) := by decide +kernel
theorem dX5_counted_53 : decode cX5_counted 53 = .ok (.getfield 144, 3) := by decide +kernel
theorem dX5_counted_56 : decode cX5_counted 56 = .ok (.ireturn, 1) := by decide +kernel
theorem dX5_counted_57 : decode cX5_counted 57 = .ok (.aload_n 0, 1) := by decide +kernel
theorem dX5_counted_58 : decode cX5_counted 58 = .ok (.getfield 131, 3) := by decide +kernel
theorem dX5_counted_61 : decode cX5_counted 61 = .ok (.ireturn, 1) := by decide +kernel
theorem dX5_counted_62 : decode cX5_counted 62 = .ok (.aload_n 0, 1) := by decide +kernel
theorem dX5_counted_63 : decode cX5_counted 63 = .ok (.getfield 131, 3) := by decide +kernel
theorem dX5_counted_66 : decode cX5_counted 66 = .ok (.aload_n 0, 1) := by decide +kernel
theorem dX5_counted_67 : decode cX5_counted 67 = .ok (.invokevirtual 200, 3) := by decide +kernel
theorem dX5_counted_70 : decode cX5_counted 70 = .ok (.isub, 1) := by decide +kernel
theorem dX5_counted_71 : decode cX5_counted 71 = .ok (.ireturn, 1) := by decide +kernel
theorem dX5_counted_72 : decode cX5_counted 72 = .ok (.aload_n 0, 1) := by decide +kernel
theorem dX5_counted_73 : decode cX5_counted 73 = .ok (.getfield 157, 3) := by decide +kernel
theorem dX5_counted_76 : decode cX5_counted 76 = .ok (.ireturn, 1) := by decide +kernel
theorem dX5_counted_77 : decode cX5_counted 77 = .ok (.aload_n 0, 1) := by decide +kernel
theorem dX5_counted_78 : decode cX5_counted 78 = .ok (.getfield 7, 3) := by decide +kernel
theorem dX5_counted_81 : decode cX5_counted 81 = .ok (.bipush 8, 2) := by decide +kernel
theorem dX5_counted_83 : decode cX5_counted 83 = .ok (.iaload, 1) := by decide +kernel
theorem dX5_counted_84 : decode cX5_counted 84 = .ok (.ireturn, 1) := by decide +kernel
theorem dX5_counted_85 : decode cX5_counted 85 = .ok (.aload_n 0, 1) := by decide +kernel
theorem dX5_counted_86 : decode cX5_counted 86 = .ok (.getfield 7, 3) := by decide +kernel
theorem dX5_counted_89 : decode cX5_counted 89 = .ok (.bipush 27, 2) := by decide +kernel
theorem dX5_counted_91 : decode cX5_counted 91 = .ok (.iaload, 1) := by decide +kernel
theorem dX5_counted_92 : decode cX5_counted 92 = .ok (.ireturn, 1) := by decide +kernel
theorem dX5_counted_93 : decode cX5_counted 93 = .ok (.aload_n 0, 1) := by decide +kernel
theorem dX5_counted_94 : decode cX5_counted 94 = .ok (.iconst 1, 1) := by decide +kernel
theorem dX5_counted_95 : decode cX5_counted 95 = .ok (.invokevirtual 203, 3) := by decide +kernel
theorem dX5_counted_98 : decode cX5_counted 98 = .ok (.ireturn, 1) := by decide +kernel
theorem dX5_counted_99 : decode cX5_counted 99 = .ok (.aload_n 0, 1) := by decide +kernel
theorem dX5_counted_100 : decode cX5_counted 100 = .ok (.iconst 0, 1) := by decide +kernel
theorem dX5_counted_101 : decode cX5_counted 101 = .ok (.invokevirtual 203, 3) := by decide +kernel
theorem dX5_counted_104 : decode cX5_counted 104 = .ok (.ireturn, 1) := by decide +kernel
theorem dX5_counted_105 : decode cX5_counted 105 = .ok (.aload_n 0, 1) := by decide +kernel
theorem dX5_counted_106 : decode cX5_counted 106 = .ok (.invokevirtual 206, 3) := by decide +kernel
theorem dX5_counted_109 : decode cX5_counted 109 = .ok (.ireturn, 1) := by decide +kernel
def fX5_counted (F : Nat) (x1 : Int32) (sD : zOS) : Option (Int32 × zOS) := (Option.bind (fX5_lay F sD) (fun r_1 : zOS => (if x1 = (0 : Int32) then (some (zF r_1 7, r_1)) else (if x1 = (1 : Int32) then (some (zF r_1 10, r_1)) else (if x1 = (2 : Int32) then (Option.bind (fX5_wells F r_1) (fun r_6 : Int32 => (some ((zF r_1 10) - r_6, r_1)))) else (if x1 = (3 : Int32) then (some (zF r_1 8, r_1)) else (if x1 = (4 : Int32) then (zchk (8 : Int32) 46 (some (zI r_1 1 (8 : Int32).toNatClampNeg, r_1))) else (if x1 = (5 : Int32) then (zchk (27 : Int32) 46 (some (zI r_1 1 (27 : Int32).toNatClampNeg, r_1))) else (if x1 = (6 : Int32) then (Option.bind (fX5_pairs F (1 : Int32) r_1) (fun r_12 : Int32 => (some (r_12, r_1)))) else (if x1 = (7 : Int32) then (Option.bind (fX5_pairs F (0 : Int32) r_1) (fun r_15 : Int32 => (some (r_15, r_1)))) else (Option.bind (fX5_unlike F r_1) (fun r_17 : Int32 => (some (r_17, r_1))))))))))))))
set_option maxRecDepth 20000 in
theorem wX5_counted {X : zCx} {res : Int32 × zOS} {F : Nat} {qD : Nat → Nat} {x1 : Int32} {sD : zOS} (C : zC X RX5 cX5_counted 2 7 160) (hR : zR X (some .int) (some (.int res.1)) [(5, qD, res.2)])  : zJ X 2 res (fX5_counted F x1 sD) 0 [(0, (.ref (qD 0))), (1, (.int x1))] [] [(5, qD, sD)] := by
  unfold fX5_counted
  refine z_aload_n (pc := 0) 0 rfl rfl C dX5_counted_0 ?_
  refine z_callV (pc := 1) (rf' := 6) (rl' := 140) (fX5_lay F sD) [] [] [(5, qD, sD)] (fun r_1 => none) (fun r_1 => [(5, qD, r_1)]) [] (fun r_1 => [(5, qD, r_1)]) C dX5_counted_1 zy_X5_lay zw_887 (fun _ hr9 => mX5_lay  hr9) (by decide) rfl rfl (by decide) rfl (Nat.le_of_ble_eq_true rfl) (List.Perm.refl _) (fun _ => List.Perm.refl _) rfl (fun r_1 hr_2 => ?_)
  show zJ X 2 res _ 4 [(0, (.ref (qD 0))), (1, (.int x1))] [] [(5, qD, r_1)]
  refine z_iload_n (pc := 4) 1 rfl rfl C dX5_counted_4 ?_
  refine z_if (fun hx_3 => ?_) (fun hx_3 => ?_)
  · refine z_tin (pc := 5) (0 : Int32) 52 hx_3 C dX5_counted_5 (by decide) (by decide) rfl (by decide) ?_
    refine z_aload_n (pc := 52) 0 rfl rfl C dX5_counted_52 ?_
    refine z_getI (pc := 53) 0 7 C dX5_counted_53 rfl (by decide) (by decide) rfl zw_722 ?_
    exact z_ireturn (pc := 56) C hR dX5_counted_56 (fun h => by subst h; exact ⟨rfl, rfl⟩)
  · refine z_if (fun hx_4 => ?_) (fun hx_4 => ?_)
    · refine z_tin (pc := 5) (1 : Int32) 57 hx_4 C dX5_counted_5 (by decide) (by decide) rfl (by decide) ?_
      refine z_aload_n (pc := 57) 0 rfl rfl C dX5_counted_57 ?_
      refine z_getI (pc := 58) 0 10 C dX5_counted_58 rfl (by decide) (by decide) rfl zw_725 ?_
      exact z_ireturn (pc := 61) C hR dX5_counted_61 (fun h => by subst h; exact ⟨rfl, rfl⟩)
    · refine z_if (fun hx_5 => ?_) (fun hx_5 => ?_)
      · refine z_tin (pc := 5) (2 : Int32) 62 hx_5 C dX5_counted_5 (by decide) (by decide) rfl (by decide) ?_
        refine z_aload_n (pc := 62) 0 rfl rfl C dX5_counted_62 ?_
        refine z_getI (pc := 63) 0 10 C dX5_counted_63 rfl (by decide) (by decide) rfl zw_725 ?_
        refine z_aload_n (pc := 66) 0 rfl rfl C dX5_counted_66 ?_
        refine z_callV (pc := 67) (rf' := 2) (rl' := 43) (fX5_wells F r_1) [] [(.int (zF r_1 10))] [(5, qD, r_1)] (fun r_6 => (some (.int r_6))) (fun r_6 => [(5, qD, r_1)]) [] (fun r_6 => [(5, qD, r_1)]) C dX5_counted_67 zy_X5_wells zw_938 (fun _ hr9 => mX5_wells  hr9) (by decide) rfl rfl (by decide) rfl (Nat.le_of_ble_eq_true rfl) (List.Perm.refl _) (fun _ => List.Perm.refl _) rfl (fun r_6 hr_7 => ?_)
        show zJ X 2 res _ 70 [(0, (.ref (qD 0))), (1, (.int x1))] [(.int r_6), (.int (zF r_1 10))] [(5, qD, r_1)]
        refine z_isub (pc := 70) C dX5_counted_70 ?_
        exact z_ireturn (pc := 71) C hR dX5_counted_71 (fun h => by subst h; exact ⟨rfl, rfl⟩)
      · refine z_if (fun hx_8 => ?_) (fun hx_8 => ?_)
        · refine z_tin (pc := 5) (3 : Int32) 72 hx_8 C dX5_counted_5 (by decide) (by decide) rfl (by decide) ?_
          refine z_aload_n (pc := 72) 0 rfl rfl C dX5_counted_72 ?_
          refine z_getI (pc := 73) 0 8 C dX5_counted_73 rfl (by decide) (by decide) rfl zw_723 ?_
          exact z_ireturn (pc := 76) C hR dX5_counted_76 (fun h => by subst h; exact ⟨rfl, rfl⟩)
        · refine z_if (fun hx_9 => ?_) (fun hx_9 => ?_)
          · refine z_tin (pc := 5) (4 : Int32) 77 hx_9 C dX5_counted_5 (by decide) (by decide) rfl (by decide) ?_
            refine z_aload_n (pc := 77) 0 rfl rfl C dX5_counted_77 ?_
            refine z_getR (pc := 78) 0 0 1 C dX5_counted_78 rfl (by decide) (by decide) rfl zw_715 ?_
            refine z_bipush (pc := 81) (8 : Int32) (by decide) C dX5_counted_81 ?_
            refine z_iald (pc := 83) 0 C dX5_counted_83 rfl (by unfold zAr; decide) ?_
            exact z_ireturn (pc := 84) C hR dX5_counted_84 (fun h => by subst h; exact ⟨rfl, rfl⟩)
          · refine z_if (fun hx_10 => ?_) (fun hx_10 => ?_)
            · refine z_tin (pc := 5) (5 : Int32) 85 hx_10 C dX5_counted_5 (by decide) (by decide) rfl (by decide) ?_
              refine z_aload_n (pc := 85) 0 rfl rfl C dX5_counted_85 ?_
              refine z_getR (pc := 86) 0 0 1 C dX5_counted_86 rfl (by decide) (by decide) rfl zw_715 ?_
              refine z_bipush (pc := 89) (27 : Int32) (by decide) C dX5_counted_89 ?_
              refine z_iald (pc := 91) 0 C dX5_counted_91 rfl (by unfold zAr; decide) ?_
              exact z_ireturn (pc := 92) C hR dX5_counted_92 (fun h => by subst h; exact ⟨rfl, rfl⟩)
            · refine z_if (fun hx_11 => ?_) (fun hx_11 => ?_)
              · refine z_tin (pc := 5) (6 : Int32) 93 hx_11 C dX5_counted_5 (by decide) (by decide) rfl (by decide) ?_
                refine z_aload_n (pc := 93) 0 rfl rfl C dX5_counted_93 ?_
                refine z_iconst (pc := 94) (1 : Int32) (by decide) C dX5_counted_94 ?_
                refine z_callV (pc := 95) (rf' := 2) (rl' := 43) (fX5_pairs F (1 : Int32) r_1) [(.int (1 : Int32))] [] [(5, qD, r_1)] (fun r_12 => (some (.int r_12))) (fun r_12 => [(5, qD, r_1)]) [] (fun r_12 => [(5, qD, r_1)]) C dX5_counted_95 zy_X5_pairs zw_986 (fun _ hr9 => mX5_pairs  hr9) (by decide) rfl rfl (by decide) rfl (Nat.le_of_ble_eq_true rfl) (List.Perm.refl _) (fun _ => List.Perm.refl _) rfl (fun r_12 hr_13 => ?_)
                show zJ X 2 res _ 98 [(0, (.ref (qD 0))), (1, (.int x1))] [(.int r_12)] [(5, qD, r_1)]
                exact z_ireturn (pc := 98) C hR dX5_counted_98 (fun h => by subst h; exact ⟨rfl, rfl⟩)
              · refine z_if (fun hx_14 => ?_) (fun hx_14 => ?_)
                · refine z_tin (pc := 5) (7 : Int32) 99 hx_14 C dX5_counted_5 (by decide) (by decide) rfl (by decide) ?_
                  refine z_aload_n (pc := 99) 0 rfl rfl C dX5_counted_99 ?_
                  refine z_iconst (pc := 100) (0 : Int32) (by decide) C dX5_counted_100 ?_
                  refine z_callV (pc := 101) (rf' := 2) (rl' := 43) (fX5_pairs F (0 : Int32) r_1) [(.int (0 : Int32))] [] [(5, qD, r_1)] (fun r_15 => (some (.int r_15))) (fun r_15 => [(5, qD, r_1)]) [] (fun r_15 => [(5, qD, r_1)]) C dX5_counted_101 zy_X5_pairs zw_986 (fun _ hr9 => mX5_pairs  hr9) (by decide) rfl rfl (by decide) rfl (Nat.le_of_ble_eq_true rfl) (List.Perm.refl _) (fun _ => List.Perm.refl _) rfl (fun r_15 hr_16 => ?_)
                  show zJ X 2 res _ 104 [(0, (.ref (qD 0))), (1, (.int x1))] [(.int r_15)] [(5, qD, r_1)]
                  exact z_ireturn (pc := 104) C hR dX5_counted_104 (fun h => by subst h; exact ⟨rfl, rfl⟩)
                · refine z_tdef (pc := 5) [(0 : Int32), (1 : Int32), (2 : Int32), (3 : Int32), (4 : Int32), (5 : Int32), (6 : Int32), (7 : Int32)] 105 (by intro v hv; simp only [List.mem_cons, List.not_mem_nil, or_false] at hv; rcases hv with rfl | rfl | rfl | rfl | rfl | rfl | rfl | rfl <;> assumption) C dX5_counted_5 (by decide) (by decide) ?_
                  refine z_aload_n (pc := 105) 0 rfl rfl C dX5_counted_105 ?_
                  refine z_callV (pc := 106) (rf' := 4) (rl' := 87) (fX5_unlike F r_1) [] [] [(5, qD, r_1)] (fun r_17 => (some (.int r_17))) (fun r_17 => [(5, qD, r_1)]) [] (fun r_17 => [(5, qD, r_1)]) C dX5_counted_106 zy_X5_unlike zw_990 (fun _ hr9 => mX5_unlike  hr9) (by decide) rfl rfl (by decide) rfl (Nat.le_of_ble_eq_true rfl) (List.Perm.refl _) (fun _ => List.Perm.refl _) rfl (fun r_17 hr_18 => ?_)
                  show zJ X 2 res _ 109 [(0, (.ref (qD 0))), (1, (.int x1))] [(.int r_17)] [(5, qD, r_1)]
                  exact z_ireturn (pc := 109) C hR dX5_counted_109 (fun h => by subst h; exact ⟨rfl, rfl⟩)
theorem mX5_counted {F : Nat} {qD : Nat → Nat} {x1 : Int32} {sD : zOS} {res : Int32 × zOS}  (hf : fX5_counted F x1 sD = some res) : zM yX5_counted cX5_counted 2 (some .int) 7 160 [(.ref (qD 0)), (.int x1)] [(5, qD, sD)] (some (.int res.1)) [(5, qD, res.2)] := zM_of (by decide +kernel) (Nat.le_of_ble_eq_true rfl) (fun X C hR => wX5_counted (F := F) C hR  hf)
theorem dX5_count_0 : decode cX5_count 0 = .ok (.iload_n 1, 1) := by decide +kernel
theorem dX5_count_1 : decode cX5_count 1 = .ok (.iconst 0, 1) := by decide +kernel
theorem dX5_count_2 : decode cX5_count 2 = .ok (.bipush 8, 2) := by decide +kernel
theorem dX5_count_4 : decode cX5_count 4 = .ok (.invokestatic 67, 3) := by decide +kernel
theorem dX5_count_7 : decode cX5_count 7 = .ok (.ifCond .eq 11, 3) := by decide +kernel
theorem dX5_count_10 : decode cX5_count 10 = .ok (.aload_n 0, 1) := by decide +kernel
theorem dX5_count_11 : decode cX5_count 11 = .ok (.iload_n 1, 1) := by decide +kernel
theorem dX5_count_12 : decode cX5_count 12 = .ok (.invokevirtual 209, 3) := by decide +kernel
theorem dX5_count_15 : decode cX5_count 15 = .ok (.goto 9, 3) := by decide +kernel
theorem dX5_count_18 : decode cX5_count 18 = .ok (.aload_n 0, 1) := by decide +kernel
theorem dX5_count_19 : decode cX5_count 19 = .ok (.bipush (-2), 2) := by decide +kernel
theorem dX5_count_21 : decode cX5_count 21 = .ok (.invokevirtual 60, 3) := by decide +kernel
theorem dX5_count_24 : decode cX5_count 24 = .ok (.ireturn, 1) := by decide +kernel
def fX5_count (F : Nat) (x1 : Int32) (sD : zOS) : Option (Int32 × zOS) := (Option.bind (fX5_in x1 (0 : Int32) (8 : Int32)) (fun r_1 : Int32 => (if r_1 = 0 then (Option.bind (fX5_refuses (-2 : Int32) sD) (fun r_3 : Int32 × zOS => (some (r_3.1, r_3.2)))) else (Option.bind (fX5_counted F x1 sD) (fun r_5 : Int32 × zOS => (some (r_5.1, r_5.2)))))))
set_option maxRecDepth 20000 in
theorem wX5_count {X : zCx} {res : Int32 × zOS} {F : Nat} {qD : Nat → Nat} {x1 : Int32} {sD : zOS} (C : zC X RX5 cX5_count 2 8 181) (hR : zR X (some .int) (some (.int res.1)) [(5, qD, res.2)])  : zJ X 2 res (fX5_count F x1 sD) 0 [(0, (.ref (qD 0))), (1, (.int x1))] [] [(5, qD, sD)] := by
  unfold fX5_count
  refine z_iload_n (pc := 0) 1 rfl rfl C dX5_count_0 ?_
  refine z_iconst (pc := 1) (0 : Int32) (by decide) C dX5_count_1 ?_
  refine z_bipush (pc := 2) (8 : Int32) (by decide) C dX5_count_2 ?_
  refine z_callS (pc := 4) (rf' := 0) (rl' := 0) (fX5_in x1 (0 : Int32) (8 : Int32)) [(.int x1), (.int (0 : Int32)), (.int (8 : Int32))] [] [] (fun r_1 => (some (.int r_1))) (fun r_1 => []) [(5, qD, sD)] (fun r_1 => [(5, qD, sD)]) C dX5_count_4 zy_X5_in zw_814 (fun _ hr9 => mX5_in  hr9) (by decide) rfl (Nat.le_of_ble_eq_true rfl) (List.Perm.refl _) (fun _ => List.Perm.refl _) rfl (fun r_1 hr_2 => ?_)
  show zJ X 2 res _ 7 [(0, (.ref (qD 0))), (1, (.int x1))] [(.int r_1)] [(5, qD, sD)]
  refine z_if_eq (pc := 7) 18 C dX5_count_7 (by decide) ?_ ?_
  · refine z_aload_n (pc := 18) 0 rfl rfl C dX5_count_18 ?_
    refine z_bipush (pc := 19) (-2 : Int32) (by decide) C dX5_count_19 ?_
    refine z_callV (pc := 21) (rf' := 0) (rl' := 0) (fX5_refuses (-2 : Int32) sD) [(.int (-2 : Int32))] [] [(5, qD, sD)] (fun r_3 => (some (.int r_3.1))) (fun r_3 => [(5, qD, r_3.2)]) [] (fun r_3 => [(5, qD, r_3.2)]) C dX5_count_21 zy_X5_refuses zw_798 (fun _ hr9 => mX5_refuses  hr9) (by decide) rfl rfl (by decide) rfl (Nat.le_of_ble_eq_true rfl) (List.Perm.refl _) (fun _ => List.Perm.refl _) rfl (fun r_3 hr_4 => ?_)
    show zJ X 2 res _ 24 [(0, (.ref (qD 0))), (1, (.int x1))] [(.int r_3.1)] [(5, qD, r_3.2)]
    exact z_ireturn (pc := 24) C hR dX5_count_24 (fun h => by subst h; exact ⟨rfl, rfl⟩)
  · refine z_aload_n (pc := 10) 0 rfl rfl C dX5_count_10 ?_
    refine z_iload_n (pc := 11) 1 rfl rfl C dX5_count_11 ?_
    refine z_callV (pc := 12) (rf' := 7) (rl' := 160) (fX5_counted F x1 sD) [(.int x1)] [] [(5, qD, sD)] (fun r_5 => (some (.int r_5.1))) (fun r_5 => [(5, qD, r_5.2)]) [] (fun r_5 => [(5, qD, r_5.2)]) C dX5_count_12 zy_X5_counted zw_982 (fun _ hr9 => mX5_counted  hr9) (by decide) rfl rfl (by decide) rfl (Nat.le_of_ble_eq_true rfl) (List.Perm.refl _) (fun _ => List.Perm.refl _) rfl (fun r_5 hr_6 => ?_)
    show zJ X 2 res _ 15 [(0, (.ref (qD 0))), (1, (.int x1))] [(.int r_5.1)] [(5, qD, r_5.2)]
    refine z_goto (pc := 15) 24 C dX5_count_15 (by decide) ?_
    exact z_ireturn (pc := 24) C hR dX5_count_24 (fun h => by subst h; exact ⟨rfl, rfl⟩)
theorem mX5_count {F : Nat} {qD : Nat → Nat} {x1 : Int32} {sD : zOS} {res : Int32 × zOS}  (hf : fX5_count F x1 sD = some res) : zM yX5_count cX5_count 2 (some .int) 8 181 [(.ref (qD 0)), (.int x1)] [(5, qD, sD)] (some (.int res.1)) [(5, qD, res.2)] := zM_of (by decide +kernel) (Nat.le_of_ble_eq_true rfl) (fun X C hR => wX5_count (F := F) C hR  hf)
theorem dX5_gateAt_0 : decode cX5_gateAt 0 = .ok (.iload_n 1, 1) := by decide +kernel
theorem dX5_gateAt_1 : decode cX5_gateAt 1 = .ok (.iload_n 2, 1) := by decide +kernel
theorem dX5_gateAt_2 : decode cX5_gateAt 2 = .ok (.invokestatic 71, 3) := by decide +kernel
theorem dX5_gateAt_5 : decode cX5_gateAt 5 = .ok (.ifCond .ne 10, 3) := by decide +kernel
theorem dX5_gateAt_8 : decode cX5_gateAt 8 = .ok (.aload_n 0, 1) := by decide +kernel
theorem dX5_gateAt_9 : decode cX5_gateAt 9 = .ok (.bipush (-2), 2) := by decide +kernel
theorem dX5_gateAt_11 : decode cX5_gateAt 11 = .ok (.invokevirtual 60, 3) := by decide +kernel
theorem dX5_gateAt_14 : decode cX5_gateAt 14 = .ok (.ireturn, 1) := by decide +kernel
theorem dX5_gateAt_15 : decode cX5_gateAt 15 = .ok (.aload_n 0, 1) := by decide +kernel
theorem dX5_gateAt_16 : decode cX5_gateAt 16 = .ok (.invokevirtual 169, 3) := by decide +kernel
theorem dX5_gateAt_19 : decode cX5_gateAt 19 = .ok (.aload_n 0, 1) := by decide +kernel
theorem dX5_gateAt_20 : decode cX5_gateAt 20 = .ok (.getfield 25, 3) := by decide +kernel
theorem dX5_gateAt_23 : decode cX5_gateAt 23 = .ok (.bipush 8, 2) := by decide +kernel
theorem dX5_gateAt_25 : decode cX5_gateAt 25 = .ok (.iload_n 2, 1) := by decide +kernel
theorem dX5_gateAt_26 : decode cX5_gateAt 26 = .ok (.imul, 1) := by decide +kernel
theorem dX5_gateAt_27 : decode cX5_gateAt 27 = .ok (.iload_n 1, 1) := by decide +kernel
theorem dX5_gateAt_28 : decode cX5_gateAt 28 = .ok (.iadd, 1) := by decide +kernel
theorem dX5_gateAt_29 : decode cX5_gateAt 29 = .ok (.iaload, 1) := by decide +kernel
theorem dX5_gateAt_30 : decode cX5_gateAt 30 = .ok (.ireturn, 1) := by decide +kernel
def fX5_gateAt (F : Nat) (x1 : Int32) (x2 : Int32) (sD : zOS) : Option (Int32 × zOS) := (Option.bind (fX5_isCell x1 x2) (fun r_1 : Int32 => (if r_1 = 0 then (Option.bind (fX5_refuses (-2 : Int32) sD) (fun r_3 : Int32 × zOS => (some (r_3.1, r_3.2)))) else (Option.bind (fX5_lay F sD) (fun r_5 : zOS => (zchk (((8 : Int32) * x2) + x1) 64 (some (zI r_5 6 (((8 : Int32) * x2) + x1).toNatClampNeg, r_5))))))))
set_option maxRecDepth 20000 in
theorem wX5_gateAt {X : zCx} {res : Int32 × zOS} {F : Nat} {qD : Nat → Nat} {x1 : Int32} {x2 : Int32} {sD : zOS} (C : zC X RX5 cX5_gateAt 3 7 160) (hR : zR X (some .int) (some (.int res.1)) [(5, qD, res.2)])  : zJ X 3 res (fX5_gateAt F x1 x2 sD) 0 [(0, (.ref (qD 0))), (1, (.int x1)), (2, (.int x2))] [] [(5, qD, sD)] := by
  unfold fX5_gateAt
  refine z_iload_n (pc := 0) 1 rfl rfl C dX5_gateAt_0 ?_
  refine z_iload_n (pc := 1) 2 rfl rfl C dX5_gateAt_1 ?_
  refine z_callS (pc := 2) (rf' := 1) (rl' := 22) (fX5_isCell x1 x2) [(.int x1), (.int x2)] [] [] (fun r_1 => (some (.int r_1))) (fun r_1 => []) [(5, qD, sD)] (fun r_1 => [(5, qD, sD)]) C dX5_gateAt_2 zy_X5_isCell zw_817 (fun _ hr9 => mX5_isCell  hr9) (by decide) rfl (Nat.le_of_ble_eq_true rfl) (List.Perm.refl _) (fun _ => List.Perm.refl _) rfl (fun r_1 hr_2 => ?_)
  show zJ X 3 res _ 5 [(0, (.ref (qD 0))), (1, (.int x1)), (2, (.int x2))] [(.int r_1)] [(5, qD, sD)]
  refine z_if_ne (pc := 5) 15 C dX5_gateAt_5 (by decide) ?_ ?_
  · refine z_aload_n (pc := 8) 0 rfl rfl C dX5_gateAt_8 ?_
    refine z_bipush (pc := 9) (-2 : Int32) (by decide) C dX5_gateAt_9 ?_
    refine z_callV (pc := 11) (rf' := 0) (rl' := 0) (fX5_refuses (-2 : Int32) sD) [(.int (-2 : Int32))] [] [(5, qD, sD)] (fun r_3 => (some (.int r_3.1))) (fun r_3 => [(5, qD, r_3.2)]) [] (fun r_3 => [(5, qD, r_3.2)]) C dX5_gateAt_11 zy_X5_refuses zw_798 (fun _ hr9 => mX5_refuses  hr9) (by decide) rfl rfl (by decide) rfl (Nat.le_of_ble_eq_true rfl) (List.Perm.refl _) (fun _ => List.Perm.refl _) rfl (fun r_3 hr_4 => ?_)
    show zJ X 3 res _ 14 [(0, (.ref (qD 0))), (1, (.int x1)), (2, (.int x2))] [(.int r_3.1)] [(5, qD, r_3.2)]
    exact z_ireturn (pc := 14) C hR dX5_gateAt_14 (fun h => by subst h; exact ⟨rfl, rfl⟩)
  · refine z_aload_n (pc := 15) 0 rfl rfl C dX5_gateAt_15 ?_
    refine z_callV (pc := 16) (rf' := 6) (rl' := 140) (fX5_lay F sD) [] [] [(5, qD, sD)] (fun r_5 => none) (fun r_5 => [(5, qD, r_5)]) [] (fun r_5 => [(5, qD, r_5)]) C dX5_gateAt_16 zy_X5_lay zw_887 (fun _ hr9 => mX5_lay  hr9) (by decide) rfl rfl (by decide) rfl (Nat.le_of_ble_eq_true rfl) (List.Perm.refl _) (fun _ => List.Perm.refl _) rfl (fun r_5 hr_6 => ?_)
    show zJ X 3 res _ 19 [(0, (.ref (qD 0))), (1, (.int x1)), (2, (.int x2))] [] [(5, qD, r_5)]
    refine z_aload_n (pc := 19) 0 rfl rfl C dX5_gateAt_19 ?_
    refine z_getR (pc := 20) 0 9 6 C dX5_gateAt_20 rfl (by decide) (by decide) rfl zw_724 ?_
    refine z_bipush (pc := 23) (8 : Int32) (by decide) C dX5_gateAt_23 ?_
    refine z_iload_n (pc := 25) 2 rfl rfl C dX5_gateAt_25 ?_
    refine z_imul (pc := 26) C dX5_gateAt_26 ?_
    refine z_iload_n (pc := 27) 1 rfl rfl C dX5_gateAt_27 ?_
    refine z_iadd (pc := 28) C dX5_gateAt_28 ?_
    refine z_iald (pc := 29) 0 C dX5_gateAt_29 rfl (by unfold zAr; decide) ?_
    exact z_ireturn (pc := 30) C hR dX5_gateAt_30 (fun h => by subst h; exact ⟨rfl, rfl⟩)
theorem mX5_gateAt {F : Nat} {qD : Nat → Nat} {x1 : Int32} {x2 : Int32} {sD : zOS} {res : Int32 × zOS}  (hf : fX5_gateAt F x1 x2 sD = some res) : zM yX5_gateAt cX5_gateAt 3 (some .int) 7 160 [(.ref (qD 0)), (.int x1), (.int x2)] [(5, qD, sD)] (some (.int res.1)) [(5, qD, res.2)] := zM_of (by decide +kernel) (Nat.le_of_ble_eq_true rfl) (fun X C hR => wX5_gateAt (F := F) C hR  hf)
theorem dX5_gate_0 : decode cX5_gate 0 = .ok (.aload_n 0, 1) := by decide +kernel
theorem dX5_gate_1 : decode cX5_gate 1 = .ok (.invokevirtual 169, 3) := by decide +kernel
theorem dX5_gate_4 : decode cX5_gate 4 = .ok (.iload_n 1, 1) := by decide +kernel
theorem dX5_gate_5 : decode cX5_gate 5 = .ok (.iconst 0, 1) := by decide +kernel
theorem dX5_gate_6 : decode cX5_gate 6 = .ok (.aload_n 0, 1) := by decide +kernel
theorem dX5_gate_7 : decode cX5_gate 7 = .ok (.getfield 131, 3) := by decide +kernel
theorem dX5_gate_10 : decode cX5_gate 10 = .ok (.iconst 1, 1) := by decide +kernel
theorem dX5_gate_11 : decode cX5_gate 11 = .ok (.isub, 1) := by decide +kernel
theorem dX5_gate_12 : decode cX5_gate 12 = .ok (.invokestatic 67, 3) := by decide +kernel
theorem dX5_gate_15 : decode cX5_gate 15 = .ok (.ifCond .eq 21, 3) := by decide +kernel
theorem dX5_gate_18 : decode cX5_gate 18 = .ok (.iload_n 2, 1) := by decide +kernel
theorem dX5_gate_19 : decode cX5_gate 19 = .ok (.iconst 0, 1) := by decide +kernel
theorem dX5_gate_20 : decode cX5_gate 20 = .ok (.iconst 5, 1) := by decide +kernel
theorem dX5_gate_21 : decode cX5_gate 21 = .ok (.invokestatic 67, 3) := by decide +kernel
theorem dX5_gate_24 : decode cX5_gate 24 = .ok (.ifCond .eq 12, 3) := by decide +kernel
theorem dX5_gate_27 : decode cX5_gate 27 = .ok (.aload_n 0, 1) := by decide +kernel
theorem dX5_gate_28 : decode cX5_gate 28 = .ok (.iload_n 1, 1) := by decide +kernel
theorem dX5_gate_29 : decode cX5_gate 29 = .ok (.iload_n 2, 1) := by decide +kernel
theorem dX5_gate_30 : decode cX5_gate 30 = .ok (.invokevirtual 150, 3) := by decide +kernel
theorem dX5_gate_33 : decode cX5_gate 33 = .ok (.goto 9, 3) := by decide +kernel
theorem dX5_gate_36 : decode cX5_gate 36 = .ok (.aload_n 0, 1) := by decide +kernel
theorem dX5_gate_37 : decode cX5_gate 37 = .ok (.bipush (-2), 2) := by decide +kernel
theorem dX5_gate_39 : decode cX5_gate 39 = .ok (.invokevirtual 60, 3) := by decide +kernel
theorem dX5_gate_42 : decode cX5_gate 42 = .ok (.ireturn, 1) := by decide +kernel
def jX5_gate_36 (F : Nat) (sD : zOS) : Option (Int32 × zOS) := (Option.bind (fX5_refuses (-2 : Int32) sD) (fun r_5 : Int32 × zOS => (some (r_5.1, r_5.2))))
set_option maxRecDepth 20000 in
theorem wX5_gate_36 {X : zCx} {res : Int32 × zOS} {F : Nat} {qD : Nat → Nat} (C : zC X RX5 cX5_gate 3 7 160) (hR : zR X (some .int) (some (.int res.1)) [(5, qD, res.2)]) (sD : zOS) : zJ X 3 res (jX5_gate_36 F sD) 36 [(0, (.ref (qD 0)))] [] [(5, qD, sD)] := by
  unfold jX5_gate_36
  refine z_aload_n (pc := 36) 0 rfl rfl C dX5_gate_36 ?_
  refine z_bipush (pc := 37) (-2 : Int32) (by decide) C dX5_gate_37 ?_
  refine z_callV (pc := 39) (rf' := 0) (rl' := 0) (fX5_refuses (-2 : Int32) sD) [(.int (-2 : Int32))] [] [(5, qD, sD)] (fun r_5 => (some (.int r_5.1))) (fun r_5 => [(5, qD, r_5.2)]) [] (fun r_5 => [(5, qD, r_5.2)]) C dX5_gate_39 zy_X5_refuses zw_798 (fun _ hr9 => mX5_refuses  hr9) (by decide) rfl rfl (by decide) rfl (Nat.le_of_ble_eq_true rfl) (List.Perm.refl _) (fun _ => List.Perm.refl _) rfl (fun r_5 hr_6 => ?_)
  show zJ X 3 res _ 42 [(0, (.ref (qD 0)))] [(.int r_5.1)] [(5, qD, r_5.2)]
  exact z_ireturn (pc := 42) C hR dX5_gate_42 (fun h => by subst h; exact ⟨rfl, rfl⟩)
def fX5_gate (F : Nat) (x1 : Int32) (x2 : Int32) (sD : zOS) : Option (Int32 × zOS) := (Option.bind (fX5_lay F sD) (fun r_1 : zOS => (Option.bind (fX5_in x1 (0 : Int32) ((zF r_1 10) - (1 : Int32))) (fun r_3 : Int32 => (if r_3 = 0 then (jX5_gate_36 F r_1) else (Option.bind (fX5_in x2 (0 : Int32) (5 : Int32)) (fun r_7 : Int32 => (if r_7 = 0 then (jX5_gate_36 F r_1) else (Option.bind (fX5_ofGate x1 x2 r_1) (fun r_9 : Int32 => (some (r_9, r_1))))))))))))
set_option maxRecDepth 20000 in
theorem wX5_gate {X : zCx} {res : Int32 × zOS} {F : Nat} {qD : Nat → Nat} {x1 : Int32} {x2 : Int32} {sD : zOS} (C : zC X RX5 cX5_gate 3 7 160) (hR : zR X (some .int) (some (.int res.1)) [(5, qD, res.2)])  : zJ X 3 res (fX5_gate F x1 x2 sD) 0 [(0, (.ref (qD 0))), (1, (.int x1)), (2, (.int x2))] [] [(5, qD, sD)] := by
  unfold fX5_gate
  refine z_aload_n (pc := 0) 0 rfl rfl C dX5_gate_0 ?_
  refine z_callV (pc := 1) (rf' := 6) (rl' := 140) (fX5_lay F sD) [] [] [(5, qD, sD)] (fun r_1 => none) (fun r_1 => [(5, qD, r_1)]) [] (fun r_1 => [(5, qD, r_1)]) C dX5_gate_1 zy_X5_lay zw_887 (fun _ hr9 => mX5_lay  hr9) (by decide) rfl rfl (by decide) rfl (Nat.le_of_ble_eq_true rfl) (List.Perm.refl _) (fun _ => List.Perm.refl _) rfl (fun r_1 hr_2 => ?_)
  show zJ X 3 res _ 4 [(0, (.ref (qD 0))), (1, (.int x1)), (2, (.int x2))] [] [(5, qD, r_1)]
  refine z_iload_n (pc := 4) 1 rfl rfl C dX5_gate_4 ?_
  refine z_iconst (pc := 5) (0 : Int32) (by decide) C dX5_gate_5 ?_
  refine z_aload_n (pc := 6) 0 rfl rfl C dX5_gate_6 ?_
  refine z_getI (pc := 7) 0 10 C dX5_gate_7 rfl (by decide) (by decide) rfl zw_725 ?_
  refine z_iconst (pc := 10) (1 : Int32) (by decide) C dX5_gate_10 ?_
  refine z_isub (pc := 11) C dX5_gate_11 ?_
  refine z_callS (pc := 12) (rf' := 0) (rl' := 0) (fX5_in x1 (0 : Int32) ((zF r_1 10) - (1 : Int32))) [(.int x1), (.int (0 : Int32)), (.int ((zF r_1 10) - (1 : Int32)))] [] [] (fun r_3 => (some (.int r_3))) (fun r_3 => []) [(5, qD, r_1)] (fun r_3 => [(5, qD, r_1)]) C dX5_gate_12 zy_X5_in zw_814 (fun _ hr9 => mX5_in  hr9) (by decide) rfl (Nat.le_of_ble_eq_true rfl) (List.Perm.refl _) (fun _ => List.Perm.refl _) rfl (fun r_3 hr_4 => ?_)
  show zJ X 3 res _ 15 [(0, (.ref (qD 0))), (1, (.int x1)), (2, (.int x2))] [(.int r_3)] [(5, qD, r_1)]
  refine z_if_eq (pc := 15) 36 C dX5_gate_15 (by decide) ?_ ?_
  · refine z_lv [(0, (.ref (qD 0)))] [0] rfl ?_
    exact wX5_gate_36 C hR   _
  · refine z_iload_n (pc := 18) 2 rfl rfl C dX5_gate_18 ?_
    refine z_iconst (pc := 19) (0 : Int32) (by decide) C dX5_gate_19 ?_
    refine z_iconst (pc := 20) (5 : Int32) (by decide) C dX5_gate_20 ?_
    refine z_callS (pc := 21) (rf' := 0) (rl' := 0) (fX5_in x2 (0 : Int32) (5 : Int32)) [(.int x2), (.int (0 : Int32)), (.int (5 : Int32))] [] [] (fun r_7 => (some (.int r_7))) (fun r_7 => []) [(5, qD, r_1)] (fun r_7 => [(5, qD, r_1)]) C dX5_gate_21 zy_X5_in zw_814 (fun _ hr9 => mX5_in  hr9) (by decide) rfl (Nat.le_of_ble_eq_true rfl) (List.Perm.refl _) (fun _ => List.Perm.refl _) rfl (fun r_7 hr_8 => ?_)
    show zJ X 3 res _ 24 [(0, (.ref (qD 0))), (1, (.int x1)), (2, (.int x2))] [(.int r_7)] [(5, qD, r_1)]
    refine z_if_eq (pc := 24) 36 C dX5_gate_24 (by decide) ?_ ?_
    · refine z_lv [(0, (.ref (qD 0)))] [0] rfl ?_
      exact wX5_gate_36 C hR   _
    · refine z_aload_n (pc := 27) 0 rfl rfl C dX5_gate_27 ?_
      refine z_iload_n (pc := 28) 1 rfl rfl C dX5_gate_28 ?_
      refine z_iload_n (pc := 29) 2 rfl rfl C dX5_gate_29 ?_
      refine z_callV (pc := 30) (rf' := 0) (rl' := 0) (fX5_ofGate x1 x2 r_1) [(.int x1), (.int x2)] [] [(5, qD, r_1)] (fun r_9 => (some (.int r_9))) (fun r_9 => [(5, qD, r_1)]) [] (fun r_9 => [(5, qD, r_1)]) C dX5_gate_30 zy_X5_ofGate zw_946 (fun _ hr9 => mX5_ofGate  hr9) (by decide) rfl rfl (by decide) rfl (Nat.le_of_ble_eq_true rfl) (List.Perm.refl _) (fun _ => List.Perm.refl _) rfl (fun r_9 hr_10 => ?_)
      show zJ X 3 res _ 33 [(0, (.ref (qD 0))), (1, (.int x1)), (2, (.int x2))] [(.int r_9)] [(5, qD, r_1)]
      refine z_goto (pc := 33) 42 C dX5_gate_33 (by decide) ?_
      exact z_ireturn (pc := 42) C hR dX5_gate_42 (fun h => by subst h; exact ⟨rfl, rfl⟩)
theorem mX5_gate {F : Nat} {qD : Nat → Nat} {x1 : Int32} {x2 : Int32} {sD : zOS} {res : Int32 × zOS}  (hf : fX5_gate F x1 x2 sD = some res) : zM yX5_gate cX5_gate 3 (some .int) 7 160 [(.ref (qD 0)), (.int x1), (.int x2)] [(5, qD, sD)] (some (.int res.1)) [(5, qD, res.2)] := zM_of (by decide +kernel) (Nat.le_of_ble_eq_true rfl) (fun X C hR => wX5_gate (F := F) C hR  hf)
theorem dX5_wireOf_0 : decode cX5_wireOf 0 = .ok (.iload_n 2, 1) := by decide +kernel
theorem dX5_wireOf_1 : decode cX5_wireOf 1 = .ok (.iconst 1, 1) := by decide +kernel
theorem dX5_wireOf_2 : decode cX5_wireOf 2 = .ok (.if_icmp .ne 9, 3) := by decide +kernel
theorem dX5_wireOf_5 : decode cX5_wireOf 5 = .ok (.aload_n 0, 1) := by decide +kernel
theorem dX5_wireOf_6 : decode cX5_wireOf 6 = .ok (.iload_n 1, 1) := by decide +kernel
theorem dX5_wireOf_7 : decode cX5_wireOf 7 = .ok (.invokevirtual 191, 3) := by decide +kernel
theorem dX5_wireOf_10 : decode cX5_wireOf 10 = .ok (.ireturn, 1) := by decide +kernel
theorem dX5_wireOf_11 : decode cX5_wireOf 11 = .ok (.iconst 0, 1) := by decide +kernel
theorem dX5_wireOf_12 : decode cX5_wireOf 12 = .ok (.istore_n 3, 1) := by decide +kernel
theorem dX5_wireOf_13 : decode cX5_wireOf 13 = .ok (.iconst 0, 1) := by decide +kernel
theorem dX5_wireOf_14 : decode cX5_wireOf 14 = .ok (.istore 4, 2) := by decide +kernel
theorem dX5_wireOf_16 : decode cX5_wireOf 16 = .ok (.iload 4, 2) := by decide +kernel
theorem dX5_wireOf_18 : decode cX5_wireOf 18 = .ok (.sipush 192, 3) := by decide +kernel
theorem dX5_wireOf_21 : decode cX5_wireOf 21 = .ok (.if_icmp .ge 28, 3) := by decide +kernel
theorem dX5_wireOf_24 : decode cX5_wireOf 24 = .ok (.iload_n 3, 1) := by decide +kernel
theorem dX5_wireOf_25 : decode cX5_wireOf 25 = .ok (.aload_n 0, 1) := by decide +kernel
theorem dX5_wireOf_26 : decode cX5_wireOf 26 = .ok (.getfield 22, 3) := by decide +kernel
theorem dX5_wireOf_29 : decode cX5_wireOf 29 = .ok (.iload 4, 2) := by decide +kernel
theorem dX5_wireOf_31 : decode cX5_wireOf 31 = .ok (.iaload, 1) := by decide +kernel
theorem dX5_wireOf_32 : decode cX5_wireOf 32 = .ok (.iload_n 1, 1) := by decide +kernel
theorem dX5_wireOf_33 : decode cX5_wireOf 33 = .ok (.if_icmp .ne 7, 3) := by decide +kernel
theorem dX5_wireOf_36 : decode cX5_wireOf 36 = .ok (.iconst 1, 1) := by decide +kernel
theorem dX5_wireOf_37 : decode cX5_wireOf 37 = .ok (.goto 4, 3) := by decide +kernel
theorem dX5_wireOf_40 : decode cX5_wireOf 40 = .ok (.iconst 0, 1) := by decide +kernel
theorem dX5_wireOf_41 : decode cX5_wireOf 41 = .ok (.iadd, 1) := by decide +kernel
theorem dX5_wireOf_42 : decode cX5_wireOf 42 = .ok (.istore_n 3, 1) := by decide +kernel
theorem dX5_wireOf_43 : decode cX5_wireOf 43 = .ok (.iinc 4 1, 3) := by decide +kernel
theorem dX5_wireOf_46 : decode cX5_wireOf 46 = .ok (.goto (-30), 3) := by decide +kernel
theorem dX5_wireOf_49 : decode cX5_wireOf 49 = .ok (.iload_n 3, 1) := by decide +kernel
theorem dX5_wireOf_50 : decode cX5_wireOf 50 = .ok (.ireturn, 1) := by decide +kernel
def bX5_wireOf_16 (F : Nat) (x1 : Int32) (sD : zOS) (kc_16 : (Int32 × Int32) → Option (Int32)) (x3 : Int32) (x4 : Int32) : Option (Int32) := (if (192 : Int32) ≤ x4 then (some (x3)) else (zchk x4 192 (if (zI sD 5 x4.toNatClampNeg) = x1 then (zlet (x3 + (1 : Int32)) (fun x3_3 : Int32 => (kc_16 (x3_3, (x4 + 1))))) else (zlet (x3 + (0 : Int32)) (fun x3_4 : Int32 => (kc_16 (x3_4, (x4 + 1))))))))
set_option maxRecDepth 20000 in
theorem vX5_wireOf_16 {X : zCx} {res : Int32} {F : Nat} {qD : Nat → Nat} {sD : zOS} {x1 : Int32} {kc_16 : (Int32 × Int32) → Option (Int32)} (C : zC X RX5 cX5_wireOf 5 3 66) (hR : zR X (some .int) (some (.int res)) [(5, qD, sD)]) (hk_16 : ∀ (y3 : Int32) (y4 : Int32), zJ X 5 res (kc_16 (y3, y4)) 16 [(0, (.ref (qD 0))), (1, (.int x1)), (3, (.int y3)), (4, (.int y4))] [] [(5, qD, sD)]) (x3 : Int32) (x4 : Int32) : zJ X 5 res (bX5_wireOf_16 F x1 sD kc_16 x3 x4) 16 [(0, (.ref (qD 0))), (1, (.int x1)), (3, (.int x3)), (4, (.int x4))] [] [(5, qD, sD)] := by
  unfold bX5_wireOf_16
  refine z_iload (pc := 16) 3 rfl C dX5_wireOf_16 ?_
  refine z_sipush (pc := 18) (192 : Int32) (by decide) C dX5_wireOf_18 ?_
  refine z_icmp_ge (pc := 21) 49 C dX5_wireOf_21 (by decide) ?_ ?_
  · refine z_iload_n (pc := 49) 2 rfl rfl C dX5_wireOf_49 ?_
    exact z_ireturn (pc := 50) C hR dX5_wireOf_50 (fun h => by subst h; exact ⟨rfl, rfl⟩)
  · refine z_iload_n (pc := 24) 2 rfl rfl C dX5_wireOf_24 ?_
    refine z_aload_n (pc := 25) 0 rfl rfl C dX5_wireOf_25 ?_
    refine z_getR (pc := 26) 0 6 5 C dX5_wireOf_26 rfl (by decide) (by decide) rfl zw_721 ?_
    refine z_iload (pc := 29) 3 rfl C dX5_wireOf_29 ?_
    refine z_iald (pc := 31) 0 C dX5_wireOf_31 rfl (by unfold zAr; decide) ?_
    refine z_iload_n (pc := 32) 1 rfl rfl C dX5_wireOf_32 ?_
    refine z_icmp_ne (pc := 33) 40 C dX5_wireOf_33 (by decide) ?_ ?_
    · refine z_iconst (pc := 36) (1 : Int32) (by decide) C dX5_wireOf_36 ?_
      refine z_goto (pc := 37) 41 C dX5_wireOf_37 (by decide) ?_
      refine z_iadd (pc := 41) C dX5_wireOf_41 ?_
      refine z_leti (fun x3_3 => ?_)
      refine z_istore_n (pc := 42) [(0, (.ref (qD 0))), (1, (.int x1)), (3, (.int x3_3)), (4, (.int x4))] [1, 2, 0, 3] (by decide) rfl rfl C dX5_wireOf_42 ?_
      refine z_iinc (pc := 43) (x4 + 1) 3 rfl rfl [(0, (.ref (qD 0))), (1, (.int x1)), (3, (.int x3_3)), (4, (.int (x4 + 1)))] [1, 2, 3, 0] (by decide) rfl C dX5_wireOf_43 ?_
      refine z_goto (pc := 46) 16 C dX5_wireOf_46 (by decide) ?_
      exact hk_16 _ _
    · refine z_iconst (pc := 40) (0 : Int32) (by decide) C dX5_wireOf_40 ?_
      refine z_iadd (pc := 41) C dX5_wireOf_41 ?_
      refine z_leti (fun x3_4 => ?_)
      refine z_istore_n (pc := 42) [(0, (.ref (qD 0))), (1, (.int x1)), (3, (.int x3_4)), (4, (.int x4))] [1, 2, 0, 3] (by decide) rfl rfl C dX5_wireOf_42 ?_
      refine z_iinc (pc := 43) (x4 + 1) 3 rfl rfl [(0, (.ref (qD 0))), (1, (.int x1)), (3, (.int x3_4)), (4, (.int (x4 + 1)))] [1, 2, 3, 0] (by decide) rfl C dX5_wireOf_43 ?_
      refine z_goto (pc := 46) 16 C dX5_wireOf_46 (by decide) ?_
      exact hk_16 _ _
def fX5_wireOf (F : Nat) (x1 : Int32) (x2 : Int32) (sD : zOS) : Option (Int32) := (if x2 = (1 : Int32) then (Option.bind (fX5_nodeHangs F x1 sD) (fun r_1 : Int32 => (some (r_1)))) else (zit (P := Int32 × Int32) (R := Int32) (fun kc9 p9 => bX5_wireOf_16 F x1 sD kc9 p9.1 p9.2) F ((0 : Int32), (0 : Int32))))
set_option maxRecDepth 20000 in
theorem wX5_wireOf {X : zCx} {res : Int32} {F : Nat} {qD : Nat → Nat} {x1 : Int32} {x2 : Int32} {sD : zOS} (C : zC X RX5 cX5_wireOf 5 3 66) (hR : zR X (some .int) (some (.int res)) [(5, qD, sD)])  : zJ X 5 res (fX5_wireOf F x1 x2 sD) 0 [(0, (.ref (qD 0))), (1, (.int x1)), (2, (.int x2))] [] [(5, qD, sD)] := by
  unfold fX5_wireOf
  refine z_iload_n (pc := 0) 2 rfl rfl C dX5_wireOf_0 ?_
  refine z_iconst (pc := 1) (1 : Int32) (by decide) C dX5_wireOf_1 ?_
  refine z_icmp_ne (pc := 2) 11 C dX5_wireOf_2 (by decide) ?_ ?_
  · refine z_aload_n (pc := 5) 0 rfl rfl C dX5_wireOf_5 ?_
    refine z_iload_n (pc := 6) 1 rfl rfl C dX5_wireOf_6 ?_
    refine z_callV (pc := 7) (rf' := 2) (rl' := 43) (fX5_nodeHangs F x1 sD) [(.int x1)] [] [(5, qD, sD)] (fun r_1 => (some (.int r_1))) (fun r_1 => [(5, qD, sD)]) [] (fun r_1 => [(5, qD, sD)]) C dX5_wireOf_7 zy_X5_nodeHangs zw_1010 (fun _ hr9 => mX5_nodeHangs  hr9) (by decide) rfl rfl (by decide) rfl (Nat.le_of_ble_eq_true rfl) (List.Perm.refl _) (fun _ => List.Perm.refl _) rfl (fun r_1 hr_2 => ?_)
    show zJ X 5 res _ 10 [(0, (.ref (qD 0))), (1, (.int x1)), (2, (.int x2))] [(.int r_1)] [(5, qD, sD)]
    exact z_ireturn (pc := 10) C hR dX5_wireOf_10 (fun h => by subst h; exact ⟨rfl, rfl⟩)
  · refine z_iconst (pc := 11) (0 : Int32) (by decide) C dX5_wireOf_11 ?_
    refine z_istore_n (pc := 12) [(0, (.ref (qD 0))), (1, (.int x1)), (2, (.int x2)), (3, (.int (0 : Int32)))] [1, 2, 3, 0] (by decide) rfl rfl C dX5_wireOf_12 ?_
    refine z_iconst (pc := 13) (0 : Int32) (by decide) C dX5_wireOf_13 ?_
    refine z_istore (pc := 14) [(0, (.ref (qD 0))), (1, (.int x1)), (2, (.int x2)), (3, (.int (0 : Int32))), (4, (.int (0 : Int32)))] [1, 2, 3, 4, 0] (by decide) rfl C dX5_wireOf_14 ?_
    refine z_lv [(0, (.ref (qD 0))), (1, (.int x1)), (3, (.int (0 : Int32))), (4, (.int (0 : Int32)))] [0, 1, 3, 4] rfl ?_
    show zJ X 5 res _ 16 [(0, (.ref (qD 0))), (1, (.int x1)), (3, (.int (0 : Int32))), (4, (.int (0 : Int32)))] [] [(5, qD, sD)]
    exact zit_J (P := Int32 × Int32) (B := (fun kc9 p9 => bX5_wireOf_16 F x1 sD kc9 p9.1 p9.2)) (fun p9 => [(0, (.ref (qD 0))), (1, (.int x1)), (3, (.int p9.1)), (4, (.int p9.2))]) (fun p9 => [(5, qD, sD)]) (fun kc9 hk9 p9 => vX5_wireOf_16 C hR   (fun a0 a1 => hk9 (a0, a1)) p9.1 p9.2) F _
theorem mX5_wireOf {F : Nat} {qD : Nat → Nat} {x1 : Int32} {x2 : Int32} {sD : zOS} {res : Int32}  (hf : fX5_wireOf F x1 x2 sD = some res) : zM yX5_wireOf cX5_wireOf 5 (some .int) 3 66 [(.ref (qD 0)), (.int x1), (.int x2)] [(5, qD, sD)] (some (.int res)) [(5, qD, sD)] := zM_of (by decide +kernel) (Nat.le_of_ble_eq_true rfl) (fun X C hR => wX5_wireOf (F := F) C hR  hf)
theorem dX5_wire_0 : decode cX5_wire 0 = .ok (.aload_n 0, 1) := by decide +kernel
theorem dX5_wire_1 : decode cX5_wire 1 = .ok (.invokevirtual 169, 3) := by decide +kernel
theorem dX5_wire_4 : decode cX5_wire 4 = .ok (.iload_n 1, 1) := by decide +kernel
theorem dX5_wire_5 : decode cX5_wire 5 = .ok (.iconst 0, 1) := by decide +kernel
theorem dX5_wire_6 : decode cX5_wire 6 = .ok (.aload_n 0, 1) := by decide +kernel
theorem dX5_wire_7 : decode cX5_wire 7 = .ok (.getfield 144, 3) := by decide +kernel
theorem dX5_wire_10 : decode cX5_wire 10 = .ok (.iconst 1, 1) := by decide +kernel
theorem dX5_wire_11 : decode cX5_wire 11 = .ok (.isub, 1) := by decide +kernel
theorem dX5_wire_12 : decode cX5_wire 12 = .ok (.invokestatic 67, 3) := by decide +kernel
theorem dX5_wire_15 : decode cX5_wire 15 = .ok (.ifCond .eq 21, 3) := by decide +kernel
theorem dX5_wire_18 : decode cX5_wire 18 = .ok (.iload_n 2, 1) := by decide +kernel
theorem dX5_wire_19 : decode cX5_wire 19 = .ok (.iconst 0, 1) := by decide +kernel
theorem dX5_wire_20 : decode cX5_wire 20 = .ok (.iconst 1, 1) := by decide +kernel
theorem dX5_wire_21 : decode cX5_wire 21 = .ok (.invokestatic 67, 3) := by decide +kernel
theorem dX5_wire_24 : decode cX5_wire 24 = .ok (.ifCond .eq 12, 3) := by decide +kernel
theorem dX5_wire_27 : decode cX5_wire 27 = .ok (.aload_n 0, 1) := by decide +kernel
theorem dX5_wire_28 : decode cX5_wire 28 = .ok (.iload_n 1, 1) := by decide +kernel
theorem dX5_wire_29 : decode cX5_wire 29 = .ok (.iload_n 2, 1) := by decide +kernel
theorem dX5_wire_30 : decode cX5_wire 30 = .ok (.invokevirtual 212, 3) := by decide +kernel
theorem dX5_wire_33 : decode cX5_wire 33 = .ok (.goto 9, 3) := by decide +kernel
theorem dX5_wire_36 : decode cX5_wire 36 = .ok (.aload_n 0, 1) := by decide +kernel
theorem dX5_wire_37 : decode cX5_wire 37 = .ok (.bipush (-2), 2) := by decide +kernel
theorem dX5_wire_39 : decode cX5_wire 39 = .ok (.invokevirtual 60, 3) := by decide +kernel
theorem dX5_wire_42 : decode cX5_wire 42 = .ok (.ireturn, 1) := by decide +kernel
def jX5_wire_36 (F : Nat) (sD : zOS) : Option (Int32 × zOS) := (Option.bind (fX5_refuses (-2 : Int32) sD) (fun r_5 : Int32 × zOS => (some (r_5.1, r_5.2))))
set_option maxRecDepth 20000 in
theorem wX5_wire_36 {X : zCx} {res : Int32 × zOS} {F : Nat} {qD : Nat → Nat} (C : zC X RX5 cX5_wire 3 7 160) (hR : zR X (some .int) (some (.int res.1)) [(5, qD, res.2)]) (sD : zOS) : zJ X 3 res (jX5_wire_36 F sD) 36 [(0, (.ref (qD 0)))] [] [(5, qD, sD)] := by
  unfold jX5_wire_36
  refine z_aload_n (pc := 36) 0 rfl rfl C dX5_wire_36 ?_
  refine z_bipush (pc := 37) (-2 : Int32) (by decide) C dX5_wire_37 ?_
  refine z_callV (pc := 39) (rf' := 0) (rl' := 0) (fX5_refuses (-2 : Int32) sD) [(.int (-2 : Int32))] [] [(5, qD, sD)] (fun r_5 => (some (.int r_5.1))) (fun r_5 => [(5, qD, r_5.2)]) [] (fun r_5 => [(5, qD, r_5.2)]) C dX5_wire_39 zy_X5_refuses zw_798 (fun _ hr9 => mX5_refuses  hr9) (by decide) rfl rfl (by decide) rfl (Nat.le_of_ble_eq_true rfl) (List.Perm.refl _) (fun _ => List.Perm.refl _) rfl (fun r_5 hr_6 => ?_)
  show zJ X 3 res _ 42 [(0, (.ref (qD 0)))] [(.int r_5.1)] [(5, qD, r_5.2)]
  exact z_ireturn (pc := 42) C hR dX5_wire_42 (fun h => by subst h; exact ⟨rfl, rfl⟩)
def fX5_wire (F : Nat) (x1 : Int32) (x2 : Int32) (sD : zOS) : Option (Int32 × zOS) := (Option.bind (fX5_lay F sD) (fun r_1 : zOS => (Option.bind (fX5_in x1 (0 : Int32) ((zF r_1 7) - (1 : Int32))) (fun r_3 : Int32 => (if r_3 = 0 then (jX5_wire_36 F r_1) else (Option.bind (fX5_in x2 (0 : Int32) (1 : Int32)) (fun r_7 : Int32 => (if r_7 = 0 then (jX5_wire_36 F r_1) else (Option.bind (fX5_wireOf F x1 x2 r_1) (fun r_9 : Int32 => (some (r_9, r_1))))))))))))
set_option maxRecDepth 20000 in
theorem wX5_wire {X : zCx} {res : Int32 × zOS} {F : Nat} {qD : Nat → Nat} {x1 : Int32} {x2 : Int32} {sD : zOS} (C : zC X RX5 cX5_wire 3 7 160) (hR : zR X (some .int) (some (.int res.1)) [(5, qD, res.2)])  : zJ X 3 res (fX5_wire F x1 x2 sD) 0 [(0, (.ref (qD 0))), (1, (.int x1)), (2, (.int x2))] [] [(5, qD, sD)] := by
  unfold fX5_wire
  refine z_aload_n (pc := 0) 0 rfl rfl C dX5_wire_0 ?_
  refine z_callV (pc := 1) (rf' := 6) (rl' := 140) (fX5_lay F sD) [] [] [(5, qD, sD)] (fun r_1 => none) (fun r_1 => [(5, qD, r_1)]) [] (fun r_1 => [(5, qD, r_1)]) C dX5_wire_1 zy_X5_lay zw_887 (fun _ hr9 => mX5_lay  hr9) (by decide) rfl rfl (by decide) rfl (Nat.le_of_ble_eq_true rfl) (List.Perm.refl _) (fun _ => List.Perm.refl _) rfl (fun r_1 hr_2 => ?_)
  show zJ X 3 res _ 4 [(0, (.ref (qD 0))), (1, (.int x1)), (2, (.int x2))] [] [(5, qD, r_1)]
  refine z_iload_n (pc := 4) 1 rfl rfl C dX5_wire_4 ?_
  refine z_iconst (pc := 5) (0 : Int32) (by decide) C dX5_wire_5 ?_
  refine z_aload_n (pc := 6) 0 rfl rfl C dX5_wire_6 ?_
  refine z_getI (pc := 7) 0 7 C dX5_wire_7 rfl (by decide) (by decide) rfl zw_722 ?_
  refine z_iconst (pc := 10) (1 : Int32) (by decide) C dX5_wire_10 ?_
  refine z_isub (pc := 11) C dX5_wire_11 ?_
  refine z_callS (pc := 12) (rf' := 0) (rl' := 0) (fX5_in x1 (0 : Int32) ((zF r_1 7) - (1 : Int32))) [(.int x1), (.int (0 : Int32)), (.int ((zF r_1 7) - (1 : Int32)))] [] [] (fun r_3 => (some (.int r_3))) (fun r_3 => []) [(5, qD, r_1)] (fun r_3 => [(5, qD, r_1)]) C dX5_wire_12 zy_X5_in zw_814 (fun _ hr9 => mX5_in  hr9) (by decide) rfl (Nat.le_of_ble_eq_true rfl) (List.Perm.refl _) (fun _ => List.Perm.refl _) rfl (fun r_3 hr_4 => ?_)
  show zJ X 3 res _ 15 [(0, (.ref (qD 0))), (1, (.int x1)), (2, (.int x2))] [(.int r_3)] [(5, qD, r_1)]
  refine z_if_eq (pc := 15) 36 C dX5_wire_15 (by decide) ?_ ?_
  · refine z_lv [(0, (.ref (qD 0)))] [0] rfl ?_
    exact wX5_wire_36 C hR   _
  · refine z_iload_n (pc := 18) 2 rfl rfl C dX5_wire_18 ?_
    refine z_iconst (pc := 19) (0 : Int32) (by decide) C dX5_wire_19 ?_
    refine z_iconst (pc := 20) (1 : Int32) (by decide) C dX5_wire_20 ?_
    refine z_callS (pc := 21) (rf' := 0) (rl' := 0) (fX5_in x2 (0 : Int32) (1 : Int32)) [(.int x2), (.int (0 : Int32)), (.int (1 : Int32))] [] [] (fun r_7 => (some (.int r_7))) (fun r_7 => []) [(5, qD, r_1)] (fun r_7 => [(5, qD, r_1)]) C dX5_wire_21 zy_X5_in zw_814 (fun _ hr9 => mX5_in  hr9) (by decide) rfl (Nat.le_of_ble_eq_true rfl) (List.Perm.refl _) (fun _ => List.Perm.refl _) rfl (fun r_7 hr_8 => ?_)
    show zJ X 3 res _ 24 [(0, (.ref (qD 0))), (1, (.int x1)), (2, (.int x2))] [(.int r_7)] [(5, qD, r_1)]
    refine z_if_eq (pc := 24) 36 C dX5_wire_24 (by decide) ?_ ?_
    · refine z_lv [(0, (.ref (qD 0)))] [0] rfl ?_
      exact wX5_wire_36 C hR   _
    · refine z_aload_n (pc := 27) 0 rfl rfl C dX5_wire_27 ?_
      refine z_iload_n (pc := 28) 1 rfl rfl C dX5_wire_28 ?_
      refine z_iload_n (pc := 29) 2 rfl rfl C dX5_wire_29 ?_
      refine z_callV (pc := 30) (rf' := 3) (rl' := 66) (fX5_wireOf F x1 x2 r_1) [(.int x1), (.int x2)] [] [(5, qD, r_1)] (fun r_9 => (some (.int r_9))) (fun r_9 => [(5, qD, r_1)]) [] (fun r_9 => [(5, qD, r_1)]) C dX5_wire_30 zy_X5_wireOf zw_1026 (fun _ hr9 => mX5_wireOf  hr9) (by decide) rfl rfl (by decide) rfl (Nat.le_of_ble_eq_true rfl) (List.Perm.refl _) (fun _ => List.Perm.refl _) rfl (fun r_9 hr_10 => ?_)
      show zJ X 3 res _ 33 [(0, (.ref (qD 0))), (1, (.int x1)), (2, (.int x2))] [(.int r_9)] [(5, qD, r_1)]
      refine z_goto (pc := 33) 42 C dX5_wire_33 (by decide) ?_
      exact z_ireturn (pc := 42) C hR dX5_wire_42 (fun h => by subst h; exact ⟨rfl, rfl⟩)
theorem mX5_wire {F : Nat} {qD : Nat → Nat} {x1 : Int32} {x2 : Int32} {sD : zOS} {res : Int32 × zOS}  (hf : fX5_wire F x1 x2 sD = some res) : zM yX5_wire cX5_wire 3 (some .int) 7 160 [(.ref (qD 0)), (.int x1), (.int x2)] [(5, qD, sD)] (some (.int res.1)) [(5, qD, res.2)] := zM_of (by decide +kernel) (Nat.le_of_ble_eq_true rfl) (fun X C hR => wX5_wire (F := F) C hR  hf)
theorem dX5_waysOf_0 : decode cX5_waysOf 0 = .ok (.aload_n 0, 1) := by decide +kernel
theorem dX5_waysOf_1 : decode cX5_waysOf 1 = .ok (.invokevirtual 169, 3) := by decide +kernel
theorem dX5_waysOf_4 : decode cX5_waysOf 4 = .ok (.aload_n 0, 1) := by decide +kernel
theorem dX5_waysOf_5 : decode cX5_waysOf 5 = .ok (.getfield 218, 3) := by decide +kernel
theorem dX5_waysOf_8 : decode cX5_waysOf 8 = .ok (.sipush 9999, 3) := by decide +kernel
theorem dX5_waysOf_11 : decode cX5_waysOf 11 = .ok (.if_icmp .ge 10, 3) := by decide +kernel
theorem dX5_waysOf_14 : decode cX5_waysOf 14 = .ok (.aload_n 0, 1) := by decide +kernel
theorem dX5_waysOf_15 : decode cX5_waysOf 15 = .ok (.getfield 218, 3) := by decide +kernel
theorem dX5_waysOf_18 : decode cX5_waysOf 18 = .ok (.goto 6, 3) := by decide +kernel
theorem dX5_waysOf_21 : decode cX5_waysOf 21 = .ok (.sipush 9999, 3) := by decide +kernel
theorem dX5_waysOf_24 : decode cX5_waysOf 24 = .ok (.ireturn, 1) := by decide +kernel
def fX5_waysOf (F : Nat) (sD : zOS) : Option (Int32 × zOS) := (Option.bind (fX5_lay F sD) (fun r_1 : zOS => (if (9999 : Int32) ≤ (zF r_1 14) then (some ((9999 : Int32), r_1)) else (some (zF r_1 14, r_1)))))
set_option maxRecDepth 20000 in
theorem wX5_waysOf {X : zCx} {res : Int32 × zOS} {F : Nat} {qD : Nat → Nat} {sD : zOS} (C : zC X RX5 cX5_waysOf 1 7 160) (hR : zR X (some .int) (some (.int res.1)) [(5, qD, res.2)])  : zJ X 1 res (fX5_waysOf F sD) 0 [(0, (.ref (qD 0)))] [] [(5, qD, sD)] := by
  unfold fX5_waysOf
  refine z_aload_n (pc := 0) 0 rfl rfl C dX5_waysOf_0 ?_
  refine z_callV (pc := 1) (rf' := 6) (rl' := 140) (fX5_lay F sD) [] [] [(5, qD, sD)] (fun r_1 => none) (fun r_1 => [(5, qD, r_1)]) [] (fun r_1 => [(5, qD, r_1)]) C dX5_waysOf_1 zy_X5_lay zw_887 (fun _ hr9 => mX5_lay  hr9) (by decide) rfl rfl (by decide) rfl (Nat.le_of_ble_eq_true rfl) (List.Perm.refl _) (fun _ => List.Perm.refl _) rfl (fun r_1 hr_2 => ?_)
  show zJ X 1 res _ 4 [(0, (.ref (qD 0)))] [] [(5, qD, r_1)]
  refine z_aload_n (pc := 4) 0 rfl rfl C dX5_waysOf_4 ?_
  refine z_getI (pc := 5) 0 14 C dX5_waysOf_5 rfl (by decide) (by decide) rfl zw_729 ?_
  refine z_sipush (pc := 8) (9999 : Int32) (by decide) C dX5_waysOf_8 ?_
  refine z_icmp_ge (pc := 11) 21 C dX5_waysOf_11 (by decide) ?_ ?_
  · refine z_sipush (pc := 21) (9999 : Int32) (by decide) C dX5_waysOf_21 ?_
    exact z_ireturn (pc := 24) C hR dX5_waysOf_24 (fun h => by subst h; exact ⟨rfl, rfl⟩)
  · refine z_aload_n (pc := 14) 0 rfl rfl C dX5_waysOf_14 ?_
    refine z_getI (pc := 15) 0 14 C dX5_waysOf_15 rfl (by decide) (by decide) rfl zw_729 ?_
    refine z_goto (pc := 18) 24 C dX5_waysOf_18 (by decide) ?_
    exact z_ireturn (pc := 24) C hR dX5_waysOf_24 (fun h => by subst h; exact ⟨rfl, rfl⟩)
theorem mX5_waysOf {F : Nat} {qD : Nat → Nat} {sD : zOS} {res : Int32 × zOS}  (hf : fX5_waysOf F sD = some res) : zM yX5_waysOf cX5_waysOf 1 (some .int) 7 160 [(.ref (qD 0))] [(5, qD, sD)] (some (.int res.1)) [(5, qD, res.2)] := zM_of (by decide +kernel) (Nat.le_of_ble_eq_true rfl) (fun X C hR => wX5_waysOf (F := F) C hR  hf)
theorem dX5_ways_0 : decode cX5_ways 0 = .ok (.aload_n 0, 1) := by decide +kernel
theorem dX5_ways_1 : decode cX5_ways 1 = .ok (.invokevirtual 231, 3) := by decide +kernel
theorem dX5_ways_4 : decode cX5_ways 4 = .ok (.ireturn, 1) := by decide +kernel
def fX5_ways (F : Nat) (sD : zOS) : Option (Int32 × zOS) := (Option.bind (fX5_waysOf F sD) (fun r_1 : Int32 × zOS => (some (r_1.1, r_1.2))))
set_option maxRecDepth 20000 in
theorem wX5_ways {X : zCx} {res : Int32 × zOS} {F : Nat} {qD : Nat → Nat} {sD : zOS} (C : zC X RX5 cX5_ways 1 8 180) (hR : zR X (some .int) (some (.int res.1)) [(5, qD, res.2)])  : zJ X 1 res (fX5_ways F sD) 0 [(0, (.ref (qD 0)))] [] [(5, qD, sD)] := by
  unfold fX5_ways
  refine z_aload_n (pc := 0) 0 rfl rfl C dX5_ways_0 ?_
  refine z_callV (pc := 1) (rf' := 7) (rl' := 160) (fX5_waysOf F sD) [] [] [(5, qD, sD)] (fun r_1 => (some (.int r_1.1))) (fun r_1 => [(5, qD, r_1.2)]) [] (fun r_1 => [(5, qD, r_1.2)]) C dX5_ways_1 zy_X5_waysOf zw_1034 (fun _ hr9 => mX5_waysOf  hr9) (by decide) rfl rfl (by decide) rfl (Nat.le_of_ble_eq_true rfl) (List.Perm.refl _) (fun _ => List.Perm.refl _) rfl (fun r_1 hr_2 => ?_)
  show zJ X 1 res _ 4 [(0, (.ref (qD 0)))] [(.int r_1.1)] [(5, qD, r_1.2)]
  exact z_ireturn (pc := 4) C hR dX5_ways_4 (fun h => by subst h; exact ⟨rfl, rfl⟩)
theorem mX5_ways {F : Nat} {qD : Nat → Nat} {sD : zOS} {res : Int32 × zOS}  (hf : fX5_ways F sD = some res) : zM yX5_ways cX5_ways 1 (some .int) 8 180 [(.ref (qD 0))] [(5, qD, sD)] (some (.int res.1)) [(5, qD, res.2)] := zM_of (by decide +kernel) (Nat.le_of_ble_eq_true rfl) (fun X C hR => wX5_ways (F := F) C hR  hf)
theorem dX5_isDevice_0 : decode cX5_isDevice 0 = .ok (.iload_n 1, 1) := by decide +kernel
theorem dX5_isDevice_1 : decode cX5_isDevice 1 = .ok (.iconst 0, 1) := by decide +kernel
theorem dX5_isDevice_2 : decode cX5_isDevice 2 = .ok (.aload_n 0, 1) := by decide +kernel
theorem dX5_isDevice_3 : decode cX5_isDevice 3 = .ok (.getfield 7, 3) := by decide +kernel
theorem dX5_isDevice_6 : decode cX5_isDevice 6 = .ok (.bipush 8, 2) := by decide +kernel
theorem dX5_isDevice_8 : decode cX5_isDevice 8 = .ok (.iaload, 1) := by decide +kernel
theorem dX5_isDevice_9 : decode cX5_isDevice 9 = .ok (.iconst 1, 1) := by decide +kernel
theorem dX5_isDevice_10 : decode cX5_isDevice 10 = .ok (.isub, 1) := by decide +kernel
theorem dX5_isDevice_11 : decode cX5_isDevice 11 = .ok (.invokestatic 67, 3) := by decide +kernel
theorem dX5_isDevice_14 : decode cX5_isDevice 14 = .ok (.ireturn, 1) := by decide +kernel
def fX5_isDevice (x1 : Int32) (sD : zOS) : Option (Int32) := (zchk (8 : Int32) 46 (Option.bind (fX5_in x1 (0 : Int32) ((zI sD 1 (8 : Int32).toNatClampNeg) - (1 : Int32))) (fun r_1 : Int32 => (zbk r_1 (some (r_1))))))
set_option maxRecDepth 20000 in
theorem wX5_isDevice {X : zCx} {res : Int32}  {qD : Nat → Nat} {x1 : Int32} {sD : zOS} (C : zC X RX5 cX5_isDevice 2 1 22) (hR : zR X (some .boolean) (some (.int res)) [(5, qD, sD)])  : zJ X 2 res (fX5_isDevice x1 sD) 0 [(0, (.ref (qD 0))), (1, (.int x1))] [] [(5, qD, sD)] := by
  unfold fX5_isDevice
  refine z_iload_n (pc := 0) 1 rfl rfl C dX5_isDevice_0 ?_
  refine z_iconst (pc := 1) (0 : Int32) (by decide) C dX5_isDevice_1 ?_
  refine z_aload_n (pc := 2) 0 rfl rfl C dX5_isDevice_2 ?_
  refine z_getR (pc := 3) 0 0 1 C dX5_isDevice_3 rfl (by decide) (by decide) rfl zw_715 ?_
  refine z_bipush (pc := 6) (8 : Int32) (by decide) C dX5_isDevice_6 ?_
  refine z_iald (pc := 8) 0 C dX5_isDevice_8 rfl (by unfold zAr; decide) ?_
  refine z_iconst (pc := 9) (1 : Int32) (by decide) C dX5_isDevice_9 ?_
  refine z_isub (pc := 10) C dX5_isDevice_10 ?_
  refine z_callS (pc := 11) (rf' := 0) (rl' := 0) (fX5_in x1 (0 : Int32) ((zI sD 1 (8 : Int32).toNatClampNeg) - (1 : Int32))) [(.int x1), (.int (0 : Int32)), (.int ((zI sD 1 (8 : Int32).toNatClampNeg) - (1 : Int32)))] [] [] (fun r_1 => (some (.int r_1))) (fun r_1 => []) [(5, qD, sD)] (fun r_1 => [(5, qD, sD)]) C dX5_isDevice_11 zy_X5_in zw_814 (fun _ hr9 => mX5_in  hr9) (by decide) rfl (Nat.le_of_ble_eq_true rfl) (List.Perm.refl _) (fun _ => List.Perm.refl _) rfl (fun r_1 hr_2 => ?_)
  show zJ X 2 res _ 14 [(0, (.ref (qD 0))), (1, (.int x1))] [(.int r_1)] [(5, qD, sD)]
  exact z_zreturn (pc := 14) C hR dX5_isDevice_14 (fun h => by subst h; exact ⟨rfl, rfl⟩)
theorem mX5_isDevice  {qD : Nat → Nat} {x1 : Int32} {sD : zOS} {res : Int32}  (hf : fX5_isDevice x1 sD = some res) : zM yX5_isDevice cX5_isDevice 2 (some .boolean) 1 22 [(.ref (qD 0)), (.int x1)] [(5, qD, sD)] (some (.int res)) [(5, qD, sD)] := zM_of (by decide +kernel) (Nat.le_of_ble_eq_true rfl) (fun X C hR => wX5_isDevice C hR  hf)
theorem dX5_matched_0 : decode cX5_matched 0 = .ok (.aload_n 0, 1) := by decide +kernel
theorem dX5_matched_1 : decode cX5_matched 1 = .ok (.iload_n 1, 1) := by decide +kernel
theorem dX5_matched_2 : decode cX5_matched 2 = .ok (.invokevirtual 234, 3) := by decide +kernel
theorem dX5_matched_5 : decode cX5_matched 5 = .ok (.ifCond .ne 10, 3) := by decide +kernel
theorem dX5_matched_8 : decode cX5_matched 8 = .ok (.aload_n 0, 1) := by decide +kernel
theorem dX5_matched_9 : decode cX5_matched 9 = .ok (.bipush (-2), 2) := by decide +kernel
theorem dX5_matched_11 : decode cX5_matched 11 = .ok (.invokevirtual 60, 3) := by decide +kernel
theorem dX5_matched_14 : decode cX5_matched 14 = .ok (.ireturn, 1) := by decide +kernel
theorem dX5_matched_15 : decode cX5_matched 15 = .ok (.aload_n 0, 1) := by decide +kernel
theorem dX5_matched_16 : decode cX5_matched 16 = .ok (.invokevirtual 231, 3) := by decide +kernel
theorem dX5_matched_19 : decode cX5_matched 19 = .ok (.ifCond .ne 12, 3) := by decide +kernel
theorem dX5_matched_22 : decode cX5_matched 22 = .ok (.aload_n 0, 1) := by decide +kernel
theorem dX5_matched_23 : decode cX5_matched 23 = .ok (.bipush (-3), 2) := by decide +kernel
theorem dX5_matched_25 : decode cX5_matched 25 = .ok (.invokevirtual 60, 3) := by decide +kernel
theorem dX5_matched_28 : decode cX5_matched 28 = .ok (.goto 9, 3) := by decide +kernel
theorem dX5_matched_31 : decode cX5_matched 31 = .ok (.aload_n 0, 1) := by decide +kernel
theorem dX5_matched_32 : decode cX5_matched 32 = .ok (.getfield 34, 3) := by decide +kernel
theorem dX5_matched_35 : decode cX5_matched 35 = .ok (.iload_n 1, 1) := by decide +kernel
theorem dX5_matched_36 : decode cX5_matched 36 = .ok (.iaload, 1) := by decide +kernel
theorem dX5_matched_37 : decode cX5_matched 37 = .ok (.ireturn, 1) := by decide +kernel
def fX5_matched (F : Nat) (x1 : Int32) (sD : zOS) : Option (Int32 × zOS) := (Option.bind (fX5_isDevice x1 sD) (fun r_1 : Int32 => (if r_1 = 0 then (Option.bind (fX5_refuses (-2 : Int32) sD) (fun r_3 : Int32 × zOS => (some (r_3.1, r_3.2)))) else (Option.bind (fX5_waysOf F sD) (fun r_5 : Int32 × zOS => (if r_5.1 = 0 then (Option.bind (fX5_refuses (-3 : Int32) r_5.2) (fun r_7 : Int32 × zOS => (some (r_7.1, r_7.2)))) else (zchk x1 16 (some (zI r_5.2 9 x1.toNatClampNeg, r_5.2)))))))))
set_option maxRecDepth 20000 in
theorem wX5_matched {X : zCx} {res : Int32 × zOS} {F : Nat} {qD : Nat → Nat} {x1 : Int32} {sD : zOS} (C : zC X RX5 cX5_matched 2 8 180) (hR : zR X (some .int) (some (.int res.1)) [(5, qD, res.2)])  : zJ X 2 res (fX5_matched F x1 sD) 0 [(0, (.ref (qD 0))), (1, (.int x1))] [] [(5, qD, sD)] := by
  unfold fX5_matched
  refine z_aload_n (pc := 0) 0 rfl rfl C dX5_matched_0 ?_
  refine z_iload_n (pc := 1) 1 rfl rfl C dX5_matched_1 ?_
  refine z_callV (pc := 2) (rf' := 1) (rl' := 22) (fX5_isDevice x1 sD) [(.int x1)] [] [(5, qD, sD)] (fun r_1 => (some (.int r_1))) (fun r_1 => [(5, qD, sD)]) [] (fun r_1 => [(5, qD, sD)]) C dX5_matched_2 zy_X5_isDevice zw_1042 (fun _ hr9 => mX5_isDevice  hr9) (by decide) rfl rfl (by decide) rfl (Nat.le_of_ble_eq_true rfl) (List.Perm.refl _) (fun _ => List.Perm.refl _) rfl (fun r_1 hr_2 => ?_)
  show zJ X 2 res _ 5 [(0, (.ref (qD 0))), (1, (.int x1))] [(.int r_1)] [(5, qD, sD)]
  refine z_if_ne (pc := 5) 15 C dX5_matched_5 (by decide) ?_ ?_
  · refine z_aload_n (pc := 8) 0 rfl rfl C dX5_matched_8 ?_
    refine z_bipush (pc := 9) (-2 : Int32) (by decide) C dX5_matched_9 ?_
    refine z_callV (pc := 11) (rf' := 0) (rl' := 0) (fX5_refuses (-2 : Int32) sD) [(.int (-2 : Int32))] [] [(5, qD, sD)] (fun r_3 => (some (.int r_3.1))) (fun r_3 => [(5, qD, r_3.2)]) [] (fun r_3 => [(5, qD, r_3.2)]) C dX5_matched_11 zy_X5_refuses zw_798 (fun _ hr9 => mX5_refuses  hr9) (by decide) rfl rfl (by decide) rfl (Nat.le_of_ble_eq_true rfl) (List.Perm.refl _) (fun _ => List.Perm.refl _) rfl (fun r_3 hr_4 => ?_)
    show zJ X 2 res _ 14 [(0, (.ref (qD 0))), (1, (.int x1))] [(.int r_3.1)] [(5, qD, r_3.2)]
    exact z_ireturn (pc := 14) C hR dX5_matched_14 (fun h => by subst h; exact ⟨rfl, rfl⟩)
  · refine z_aload_n (pc := 15) 0 rfl rfl C dX5_matched_15 ?_
    refine z_callV (pc := 16) (rf' := 7) (rl' := 160) (fX5_waysOf F sD) [] [] [(5, qD, sD)] (fun r_5 => (some (.int r_5.1))) (fun r_5 => [(5, qD, r_5.2)]) [] (fun r_5 => [(5, qD, r_5.2)]) C dX5_matched_16 zy_X5_waysOf zw_1034 (fun _ hr9 => mX5_waysOf  hr9) (by decide) rfl rfl (by decide) rfl (Nat.le_of_ble_eq_true rfl) (List.Perm.refl _) (fun _ => List.Perm.refl _) rfl (fun r_5 hr_6 => ?_)
    show zJ X 2 res _ 19 [(0, (.ref (qD 0))), (1, (.int x1))] [(.int r_5.1)] [(5, qD, r_5.2)]
    refine z_if_ne (pc := 19) 31 C dX5_matched_19 (by decide) ?_ ?_
    · refine z_aload_n (pc := 22) 0 rfl rfl C dX5_matched_22 ?_
      refine z_bipush (pc := 23) (-3 : Int32) (by decide) C dX5_matched_23 ?_
      refine z_callV (pc := 25) (rf' := 0) (rl' := 0) (fX5_refuses (-3 : Int32) r_5.2) [(.int (-3 : Int32))] [] [(5, qD, r_5.2)] (fun r_7 => (some (.int r_7.1))) (fun r_7 => [(5, qD, r_7.2)]) [] (fun r_7 => [(5, qD, r_7.2)]) C dX5_matched_25 zy_X5_refuses zw_798 (fun _ hr9 => mX5_refuses  hr9) (by decide) rfl rfl (by decide) rfl (Nat.le_of_ble_eq_true rfl) (List.Perm.refl _) (fun _ => List.Perm.refl _) rfl (fun r_7 hr_8 => ?_)
      show zJ X 2 res _ 28 [(0, (.ref (qD 0))), (1, (.int x1))] [(.int r_7.1)] [(5, qD, r_7.2)]
      refine z_goto (pc := 28) 37 C dX5_matched_28 (by decide) ?_
      exact z_ireturn (pc := 37) C hR dX5_matched_37 (fun h => by subst h; exact ⟨rfl, rfl⟩)
    · refine z_aload_n (pc := 31) 0 rfl rfl C dX5_matched_31 ?_
      refine z_getR (pc := 32) 0 15 9 C dX5_matched_32 rfl (by decide) (by decide) rfl zw_730 ?_
      refine z_iload_n (pc := 35) 1 rfl rfl C dX5_matched_35 ?_
      refine z_iald (pc := 36) 0 C dX5_matched_36 rfl (by unfold zAr; decide) ?_
      exact z_ireturn (pc := 37) C hR dX5_matched_37 (fun h => by subst h; exact ⟨rfl, rfl⟩)
theorem mX5_matched {F : Nat} {qD : Nat → Nat} {x1 : Int32} {sD : zOS} {res : Int32 × zOS}  (hf : fX5_matched F x1 sD = some res) : zM yX5_matched cX5_matched 2 (some .int) 8 180 [(.ref (qD 0)), (.int x1)] [(5, qD, sD)] (some (.int res.1)) [(5, qD, res.2)] := zM_of (by decide +kernel) (Nat.le_of_ble_eq_true rfl) (fun X C hR => wX5_matched (F := F) C hR  hf)
theorem dX5_net_0 : decode cX5_net 0 = .ok (.iload_n 1, 1) := by decide +kernel
theorem dX5_net_1 : decode cX5_net 1 = .ok (.invokestatic 82, 3) := by decide +kernel
theorem dX5_net_4 : decode cX5_net 4 = .ok (.ifCond .ne 10, 3) := by decide +kernel
theorem dX5_net_7 : decode cX5_net 7 = .ok (.aload_n 0, 1) := by decide +kernel
theorem dX5_net_8 : decode cX5_net 8 = .ok (.bipush (-2), 2) := by decide +kernel
theorem dX5_net_10 : decode cX5_net 10 = .ok (.invokevirtual 60, 3) := by decide +kernel
theorem dX5_net_13 : decode cX5_net 13 = .ok (.ireturn, 1) := by decide +kernel
theorem dX5_net_14 : decode cX5_net 14 = .ok (.aload_n 0, 1) := by decide +kernel
theorem dX5_net_15 : decode cX5_net 15 = .ok (.invokevirtual 231, 3) := by decide +kernel
theorem dX5_net_18 : decode cX5_net 18 = .ok (.ifCond .ne 12, 3) := by decide +kernel
theorem dX5_net_21 : decode cX5_net 21 = .ok (.aload_n 0, 1) := by decide +kernel
theorem dX5_net_22 : decode cX5_net 22 = .ok (.bipush (-3), 2) := by decide +kernel
theorem dX5_net_24 : decode cX5_net 24 = .ok (.invokevirtual 60, 3) := by decide +kernel
theorem dX5_net_27 : decode cX5_net 27 = .ok (.goto 17, 3) := by decide +kernel
theorem dX5_net_30 : decode cX5_net 30 = .ok (.aload_n 0, 1) := by decide +kernel
theorem dX5_net_31 : decode cX5_net 31 = .ok (.getfield 34, 3) := by decide +kernel
theorem dX5_net_34 : decode cX5_net 34 = .ok (.aload_n 0, 1) := by decide +kernel
theorem dX5_net_35 : decode cX5_net 35 = .ok (.getfield 7, 3) := by decide +kernel
theorem dX5_net_38 : decode cX5_net 38 = .ok (.bipush 8, 2) := by decide +kernel
theorem dX5_net_40 : decode cX5_net 40 = .ok (.iaload, 1) := by decide +kernel
theorem dX5_net_41 : decode cX5_net 41 = .ok (.iload_n 1, 1) := by decide +kernel
theorem dX5_net_42 : decode cX5_net 42 = .ok (.iadd, 1) := by decide +kernel
theorem dX5_net_43 : decode cX5_net 43 = .ok (.iaload, 1) := by decide +kernel
theorem dX5_net_44 : decode cX5_net 44 = .ok (.ireturn, 1) := by decide +kernel
def fX5_net (F : Nat) (x1 : Int32) (sD : zOS) : Option (Int32 × zOS) := (Option.bind (fX5_isNet x1) (fun r_1 : Int32 => (if r_1 = 0 then (Option.bind (fX5_refuses (-2 : Int32) sD) (fun r_3 : Int32 × zOS => (some (r_3.1, r_3.2)))) else (Option.bind (fX5_waysOf F sD) (fun r_5 : Int32 × zOS => (if r_5.1 = 0 then (Option.bind (fX5_refuses (-3 : Int32) r_5.2) (fun r_7 : Int32 × zOS => (some (r_7.1, r_7.2)))) else (zchk (8 : Int32) 46 (zchk ((zI r_5.2 1 (8 : Int32).toNatClampNeg) + x1) 16 (some (zI r_5.2 9 ((zI r_5.2 1 (8 : Int32).toNatClampNeg) + x1).toNatClampNeg, r_5.2))))))))))
set_option maxRecDepth 20000 in
theorem wX5_net {X : zCx} {res : Int32 × zOS} {F : Nat} {qD : Nat → Nat} {x1 : Int32} {sD : zOS} (C : zC X RX5 cX5_net 2 8 180) (hR : zR X (some .int) (some (.int res.1)) [(5, qD, res.2)])  : zJ X 2 res (fX5_net F x1 sD) 0 [(0, (.ref (qD 0))), (1, (.int x1))] [] [(5, qD, sD)] := by
  unfold fX5_net
  refine z_iload_n (pc := 0) 1 rfl rfl C dX5_net_0 ?_
  refine z_callS (pc := 1) (rf' := 1) (rl' := 22) (fX5_isNet x1) [(.int x1)] [] [] (fun r_1 => (some (.int r_1))) (fun r_1 => []) [(5, qD, sD)] (fun r_1 => [(5, qD, sD)]) C dX5_net_1 zy_X5_isNet zw_856 (fun _ hr9 => mX5_isNet  hr9) (by decide) rfl (Nat.le_of_ble_eq_true rfl) (List.Perm.refl _) (fun _ => List.Perm.refl _) rfl (fun r_1 hr_2 => ?_)
  show zJ X 2 res _ 4 [(0, (.ref (qD 0))), (1, (.int x1))] [(.int r_1)] [(5, qD, sD)]
  refine z_if_ne (pc := 4) 14 C dX5_net_4 (by decide) ?_ ?_
  · refine z_aload_n (pc := 7) 0 rfl rfl C dX5_net_7 ?_
    refine z_bipush (pc := 8) (-2 : Int32) (by decide) C dX5_net_8 ?_
    refine z_callV (pc := 10) (rf' := 0) (rl' := 0) (fX5_refuses (-2 : Int32) sD) [(.int (-2 : Int32))] [] [(5, qD, sD)] (fun r_3 => (some (.int r_3.1))) (fun r_3 => [(5, qD, r_3.2)]) [] (fun r_3 => [(5, qD, r_3.2)]) C dX5_net_10 zy_X5_refuses zw_798 (fun _ hr9 => mX5_refuses  hr9) (by decide) rfl rfl (by decide) rfl (Nat.le_of_ble_eq_true rfl) (List.Perm.refl _) (fun _ => List.Perm.refl _) rfl (fun r_3 hr_4 => ?_)
    show zJ X 2 res _ 13 [(0, (.ref (qD 0))), (1, (.int x1))] [(.int r_3.1)] [(5, qD, r_3.2)]
    exact z_ireturn (pc := 13) C hR dX5_net_13 (fun h => by subst h; exact ⟨rfl, rfl⟩)
  · refine z_aload_n (pc := 14) 0 rfl rfl C dX5_net_14 ?_
    refine z_callV (pc := 15) (rf' := 7) (rl' := 160) (fX5_waysOf F sD) [] [] [(5, qD, sD)] (fun r_5 => (some (.int r_5.1))) (fun r_5 => [(5, qD, r_5.2)]) [] (fun r_5 => [(5, qD, r_5.2)]) C dX5_net_15 zy_X5_waysOf zw_1034 (fun _ hr9 => mX5_waysOf  hr9) (by decide) rfl rfl (by decide) rfl (Nat.le_of_ble_eq_true rfl) (List.Perm.refl _) (fun _ => List.Perm.refl _) rfl (fun r_5 hr_6 => ?_)
    show zJ X 2 res _ 18 [(0, (.ref (qD 0))), (1, (.int x1))] [(.int r_5.1)] [(5, qD, r_5.2)]
    refine z_if_ne (pc := 18) 30 C dX5_net_18 (by decide) ?_ ?_
    · refine z_aload_n (pc := 21) 0 rfl rfl C dX5_net_21 ?_
      refine z_bipush (pc := 22) (-3 : Int32) (by decide) C dX5_net_22 ?_
      refine z_callV (pc := 24) (rf' := 0) (rl' := 0) (fX5_refuses (-3 : Int32) r_5.2) [(.int (-3 : Int32))] [] [(5, qD, r_5.2)] (fun r_7 => (some (.int r_7.1))) (fun r_7 => [(5, qD, r_7.2)]) [] (fun r_7 => [(5, qD, r_7.2)]) C dX5_net_24 zy_X5_refuses zw_798 (fun _ hr9 => mX5_refuses  hr9) (by decide) rfl rfl (by decide) rfl (Nat.le_of_ble_eq_true rfl) (List.Perm.refl _) (fun _ => List.Perm.refl _) rfl (fun r_7 hr_8 => ?_)
      show zJ X 2 res _ 27 [(0, (.ref (qD 0))), (1, (.int x1))] [(.int r_7.1)] [(5, qD, r_7.2)]
      refine z_goto (pc := 27) 44 C dX5_net_27 (by decide) ?_
      exact z_ireturn (pc := 44) C hR dX5_net_44 (fun h => by subst h; exact ⟨rfl, rfl⟩)
    · refine z_aload_n (pc := 30) 0 rfl rfl C dX5_net_30 ?_
      refine z_getR (pc := 31) 0 15 9 C dX5_net_31 rfl (by decide) (by decide) rfl zw_730 ?_
      refine z_aload_n (pc := 34) 0 rfl rfl C dX5_net_34 ?_
      refine z_getR (pc := 35) 0 0 1 C dX5_net_35 rfl (by decide) (by decide) rfl zw_715 ?_
      refine z_bipush (pc := 38) (8 : Int32) (by decide) C dX5_net_38 ?_
      refine z_iald (pc := 40) 0 C dX5_net_40 rfl (by unfold zAr; decide) ?_
      refine z_iload_n (pc := 41) 1 rfl rfl C dX5_net_41 ?_
      refine z_iadd (pc := 42) C dX5_net_42 ?_
      refine z_iald (pc := 43) 0 C dX5_net_43 rfl (by unfold zAr; decide) ?_
      exact z_ireturn (pc := 44) C hR dX5_net_44 (fun h => by subst h; exact ⟨rfl, rfl⟩)
theorem mX5_net {F : Nat} {qD : Nat → Nat} {x1 : Int32} {sD : zOS} {res : Int32 × zOS}  (hf : fX5_net F x1 sD = some res) : zM yX5_net cX5_net 2 (some .int) 8 180 [(.ref (qD 0)), (.int x1)] [(5, qD, sD)] (some (.int res.1)) [(5, qD, res.2)] := zM_of (by decide +kernel) (Nat.le_of_ble_eq_true rfl) (fun X C hR => wX5_net (F := F) C hR  hf)
theorem dX5_device_0 : decode cX5_device 0 = .ok (.aload_n 0, 1) := by decide +kernel
theorem dX5_device_1 : decode cX5_device 1 = .ok (.iload_n 1, 1) := by decide +kernel
theorem dX5_device_2 : decode cX5_device 2 = .ok (.invokevirtual 234, 3) := by decide +kernel
theorem dX5_device_5 : decode cX5_device 5 = .ok (.ifCond .eq 21, 3) := by decide +kernel
theorem dX5_device_8 : decode cX5_device 8 = .ok (.iload_n 2, 1) := by decide +kernel
theorem dX5_device_9 : decode cX5_device 9 = .ok (.iconst 0, 1) := by decide +kernel
theorem dX5_device_10 : decode cX5_device 10 = .ok (.iconst 2, 1) := by decide +kernel
theorem dX5_device_11 : decode cX5_device 11 = .ok (.invokestatic 67, 3) := by decide +kernel
theorem dX5_device_14 : decode cX5_device 14 = .ok (.ifCond .eq 12, 3) := by decide +kernel
theorem dX5_device_17 : decode cX5_device 17 = .ok (.aload_n 0, 1) := by decide +kernel
theorem dX5_device_18 : decode cX5_device 18 = .ok (.iload_n 1, 1) := by decide +kernel
theorem dX5_device_19 : decode cX5_device 19 = .ok (.iload_n 2, 1) := by decide +kernel
theorem dX5_device_20 : decode cX5_device 20 = .ok (.invokevirtual 178, 3) := by decide +kernel
theorem dX5_device_23 : decode cX5_device 23 = .ok (.goto 9, 3) := by decide +kernel
theorem dX5_device_26 : decode cX5_device 26 = .ok (.aload_n 0, 1) := by decide +kernel
theorem dX5_device_27 : decode cX5_device 27 = .ok (.bipush (-2), 2) := by decide +kernel
theorem dX5_device_29 : decode cX5_device 29 = .ok (.invokevirtual 60, 3) := by decide +kernel
theorem dX5_device_32 : decode cX5_device 32 = .ok (.ireturn, 1) := by decide +kernel
def jX5_device_26 (sD : zOS) : Option (Int32 × zOS) := (Option.bind (fX5_refuses (-2 : Int32) sD) (fun r_3 : Int32 × zOS => (some (r_3.1, r_3.2))))
set_option maxRecDepth 20000 in
theorem wX5_device_26 {X : zCx} {res : Int32 × zOS} {qD : Nat → Nat} (C : zC X RX5 cX5_device 3 2 43) (hR : zR X (some .int) (some (.int res.1)) [(5, qD, res.2)]) (sD : zOS) : zJ X 3 res (jX5_device_26 sD) 26 [(0, (.ref (qD 0)))] [] [(5, qD, sD)] := by
  unfold jX5_device_26
  refine z_aload_n (pc := 26) 0 rfl rfl C dX5_device_26 ?_
  refine z_bipush (pc := 27) (-2 : Int32) (by decide) C dX5_device_27 ?_
  refine z_callV (pc := 29) (rf' := 0) (rl' := 0) (fX5_refuses (-2 : Int32) sD) [(.int (-2 : Int32))] [] [(5, qD, sD)] (fun r_3 => (some (.int r_3.1))) (fun r_3 => [(5, qD, r_3.2)]) [] (fun r_3 => [(5, qD, r_3.2)]) C dX5_device_29 zy_X5_refuses zw_798 (fun _ hr9 => mX5_refuses  hr9) (by decide) rfl rfl (by decide) rfl (Nat.le_of_ble_eq_true rfl) (List.Perm.refl _) (fun _ => List.Perm.refl _) rfl (fun r_3 hr_4 => ?_)
  show zJ X 3 res _ 32 [(0, (.ref (qD 0)))] [(.int r_3.1)] [(5, qD, r_3.2)]
  exact z_ireturn (pc := 32) C hR dX5_device_32 (fun h => by subst h; exact ⟨rfl, rfl⟩)
def fX5_device (x1 : Int32) (x2 : Int32) (sD : zOS) : Option (Int32 × zOS) := (Option.bind (fX5_isDevice x1 sD) (fun r_1 : Int32 => (if r_1 = 0 then (jX5_device_26 sD) else (Option.bind (fX5_in x2 (0 : Int32) (2 : Int32)) (fun r_5 : Int32 => (if r_5 = 0 then (jX5_device_26 sD) else (Option.bind (fX5_ofDevice x1 x2 sD) (fun r_7 : Int32 => (some (r_7, sD))))))))))
set_option maxRecDepth 20000 in
theorem wX5_device {X : zCx} {res : Int32 × zOS}  {qD : Nat → Nat} {x1 : Int32} {x2 : Int32} {sD : zOS} (C : zC X RX5 cX5_device 3 2 43) (hR : zR X (some .int) (some (.int res.1)) [(5, qD, res.2)])  : zJ X 3 res (fX5_device x1 x2 sD) 0 [(0, (.ref (qD 0))), (1, (.int x1)), (2, (.int x2))] [] [(5, qD, sD)] := by
  unfold fX5_device
  refine z_aload_n (pc := 0) 0 rfl rfl C dX5_device_0 ?_
  refine z_iload_n (pc := 1) 1 rfl rfl C dX5_device_1 ?_
  refine z_callV (pc := 2) (rf' := 1) (rl' := 22) (fX5_isDevice x1 sD) [(.int x1)] [] [(5, qD, sD)] (fun r_1 => (some (.int r_1))) (fun r_1 => [(5, qD, sD)]) [] (fun r_1 => [(5, qD, sD)]) C dX5_device_2 zy_X5_isDevice zw_1042 (fun _ hr9 => mX5_isDevice  hr9) (by decide) rfl rfl (by decide) rfl (Nat.le_of_ble_eq_true rfl) (List.Perm.refl _) (fun _ => List.Perm.refl _) rfl (fun r_1 hr_2 => ?_)
  show zJ X 3 res _ 5 [(0, (.ref (qD 0))), (1, (.int x1)), (2, (.int x2))] [(.int r_1)] [(5, qD, sD)]
  refine z_if_eq (pc := 5) 26 C dX5_device_5 (by decide) ?_ ?_
  · refine z_lv [(0, (.ref (qD 0)))] [0] rfl ?_
    exact wX5_device_26 C hR   _
  · refine z_iload_n (pc := 8) 2 rfl rfl C dX5_device_8 ?_
    refine z_iconst (pc := 9) (0 : Int32) (by decide) C dX5_device_9 ?_
    refine z_iconst (pc := 10) (2 : Int32) (by decide) C dX5_device_10 ?_
    refine z_callS (pc := 11) (rf' := 0) (rl' := 0) (fX5_in x2 (0 : Int32) (2 : Int32)) [(.int x2), (.int (0 : Int32)), (.int (2 : Int32))] [] [] (fun r_5 => (some (.int r_5))) (fun r_5 => []) [(5, qD, sD)] (fun r_5 => [(5, qD, sD)]) C dX5_device_11 zy_X5_in zw_814 (fun _ hr9 => mX5_in  hr9) (by decide) rfl (Nat.le_of_ble_eq_true rfl) (List.Perm.refl _) (fun _ => List.Perm.refl _) rfl (fun r_5 hr_6 => ?_)
    show zJ X 3 res _ 14 [(0, (.ref (qD 0))), (1, (.int x1)), (2, (.int x2))] [(.int r_5)] [(5, qD, sD)]
    refine z_if_eq (pc := 14) 26 C dX5_device_14 (by decide) ?_ ?_
    · refine z_lv [(0, (.ref (qD 0)))] [0] rfl ?_
      exact wX5_device_26 C hR   _
    · refine z_aload_n (pc := 17) 0 rfl rfl C dX5_device_17 ?_
      refine z_iload_n (pc := 18) 1 rfl rfl C dX5_device_18 ?_
      refine z_iload_n (pc := 19) 2 rfl rfl C dX5_device_19 ?_
      refine z_callV (pc := 20) (rf' := 0) (rl' := 0) (fX5_ofDevice x1 x2 sD) [(.int x1), (.int x2)] [] [(5, qD, sD)] (fun r_7 => (some (.int r_7))) (fun r_7 => [(5, qD, sD)]) [] (fun r_7 => [(5, qD, sD)]) C dX5_device_20 zy_X5_ofDevice zw_974 (fun _ hr9 => mX5_ofDevice  hr9) (by decide) rfl rfl (by decide) rfl (Nat.le_of_ble_eq_true rfl) (List.Perm.refl _) (fun _ => List.Perm.refl _) rfl (fun r_7 hr_8 => ?_)
      show zJ X 3 res _ 23 [(0, (.ref (qD 0))), (1, (.int x1)), (2, (.int x2))] [(.int r_7)] [(5, qD, sD)]
      refine z_goto (pc := 23) 32 C dX5_device_23 (by decide) ?_
      exact z_ireturn (pc := 32) C hR dX5_device_32 (fun h => by subst h; exact ⟨rfl, rfl⟩)
theorem mX5_device  {qD : Nat → Nat} {x1 : Int32} {x2 : Int32} {sD : zOS} {res : Int32 × zOS}  (hf : fX5_device x1 x2 sD = some res) : zM yX5_device cX5_device 3 (some .int) 2 43 [(.ref (qD 0)), (.int x1), (.int x2)] [(5, qD, sD)] (some (.int res.1)) [(5, qD, res.2)] := zM_of (by decide +kernel) (Nat.le_of_ble_eq_true rfl) (fun X C hR => wX5_device C hR  hf)
theorem dX5_pin_0 : decode cX5_pin 0 = .ok (.iload_n 1, 1) := by decide +kernel
theorem dX5_pin_1 : decode cX5_pin 1 = .ok (.iconst 0, 1) := by decide +kernel
theorem dX5_pin_2 : decode cX5_pin 2 = .ok (.aload_n 0, 1) := by decide +kernel
theorem dX5_pin_3 : decode cX5_pin 3 = .ok (.getfield 7, 3) := by decide +kernel
theorem dX5_pin_6 : decode cX5_pin 6 = .ok (.bipush 27, 2) := by decide +kernel
theorem dX5_pin_8 : decode cX5_pin 8 = .ok (.iaload, 1) := by decide +kernel
theorem dX5_pin_9 : decode cX5_pin 9 = .ok (.iconst 1, 1) := by decide +kernel
theorem dX5_pin_10 : decode cX5_pin 10 = .ok (.isub, 1) := by decide +kernel
theorem dX5_pin_11 : decode cX5_pin 11 = .ok (.invokestatic 67, 3) := by decide +kernel
theorem dX5_pin_14 : decode cX5_pin 14 = .ok (.ifCond .eq 12, 3) := by decide +kernel
theorem dX5_pin_17 : decode cX5_pin 17 = .ok (.iload_n 2, 1) := by decide +kernel
theorem dX5_pin_18 : decode cX5_pin 18 = .ok (.iconst 0, 1) := by decide +kernel
theorem dX5_pin_19 : decode cX5_pin 19 = .ok (.iconst 3, 1) := by decide +kernel
theorem dX5_pin_20 : decode cX5_pin 20 = .ok (.invokestatic 67, 3) := by decide +kernel
theorem dX5_pin_23 : decode cX5_pin 23 = .ok (.ifCond .ne 10, 3) := by decide +kernel
theorem dX5_pin_26 : decode cX5_pin 26 = .ok (.aload_n 0, 1) := by decide +kernel
theorem dX5_pin_27 : decode cX5_pin 27 = .ok (.bipush (-2), 2) := by decide +kernel
theorem dX5_pin_29 : decode cX5_pin 29 = .ok (.invokevirtual 60, 3) := by decide +kernel
theorem dX5_pin_32 : decode cX5_pin 32 = .ok (.ireturn, 1) := by decide +kernel
theorem dX5_pin_33 : decode cX5_pin 33 = .ok (.aload_n 0, 1) := by decide +kernel
theorem dX5_pin_34 : decode cX5_pin 34 = .ok (.invokevirtual 169, 3) := by decide +kernel
theorem dX5_pin_37 : decode cX5_pin 37 = .ok (.iload_n 2, 1) := by decide +kernel
theorem dX5_pin_38 : decode cX5_pin 38 = .ok (.iconst 3, 1) := by decide +kernel
theorem dX5_pin_39 : decode cX5_pin 39 = .ok (.if_icmp .ge 12, 3) := by decide +kernel
theorem dX5_pin_42 : decode cX5_pin 42 = .ok (.aload_n 0, 1) := by decide +kernel
theorem dX5_pin_43 : decode cX5_pin 43 = .ok (.iload_n 1, 1) := by decide +kernel
theorem dX5_pin_44 : decode cX5_pin 44 = .ok (.iload_n 2, 1) := by decide +kernel
theorem dX5_pin_45 : decode cX5_pin 45 = .ok (.invokevirtual 172, 3) := by decide +kernel
theorem dX5_pin_48 : decode cX5_pin 48 = .ok (.goto 8, 3) := by decide +kernel
theorem dX5_pin_51 : decode cX5_pin 51 = .ok (.aload_n 0, 1) := by decide +kernel
theorem dX5_pin_52 : decode cX5_pin 52 = .ok (.iload_n 1, 1) := by decide +kernel
theorem dX5_pin_53 : decode cX5_pin 53 = .ok (.invokevirtual 175, 3) := by decide +kernel
theorem dX5_pin_56 : decode cX5_pin 56 = .ok (.ireturn, 1) := by decide +kernel
def jX5_pin_26 (F : Nat) (sD : zOS) : Option (Int32 × zOS) := (Option.bind (fX5_refuses (-2 : Int32) sD) (fun r_3 : Int32 × zOS => (some (r_3.1, r_3.2))))
set_option maxRecDepth 20000 in
theorem wX5_pin_26 {X : zCx} {res : Int32 × zOS} {F : Nat} {qD : Nat → Nat} (C : zC X RX5 cX5_pin 3 7 160) (hR : zR X (some .int) (some (.int res.1)) [(5, qD, res.2)]) (sD : zOS) : zJ X 3 res (jX5_pin_26 F sD) 26 [(0, (.ref (qD 0)))] [] [(5, qD, sD)] := by
  unfold jX5_pin_26
  refine z_aload_n (pc := 26) 0 rfl rfl C dX5_pin_26 ?_
  refine z_bipush (pc := 27) (-2 : Int32) (by decide) C dX5_pin_27 ?_
  refine z_callV (pc := 29) (rf' := 0) (rl' := 0) (fX5_refuses (-2 : Int32) sD) [(.int (-2 : Int32))] [] [(5, qD, sD)] (fun r_3 => (some (.int r_3.1))) (fun r_3 => [(5, qD, r_3.2)]) [] (fun r_3 => [(5, qD, r_3.2)]) C dX5_pin_29 zy_X5_refuses zw_798 (fun _ hr9 => mX5_refuses  hr9) (by decide) rfl rfl (by decide) rfl (Nat.le_of_ble_eq_true rfl) (List.Perm.refl _) (fun _ => List.Perm.refl _) rfl (fun r_3 hr_4 => ?_)
  show zJ X 3 res _ 32 [(0, (.ref (qD 0)))] [(.int r_3.1)] [(5, qD, r_3.2)]
  exact z_ireturn (pc := 32) C hR dX5_pin_32 (fun h => by subst h; exact ⟨rfl, rfl⟩)
def fX5_pin (F : Nat) (x1 : Int32) (x2 : Int32) (sD : zOS) : Option (Int32 × zOS) := (zchk (27 : Int32) 46 (Option.bind (fX5_in x1 (0 : Int32) ((zI sD 1 (27 : Int32).toNatClampNeg) - (1 : Int32))) (fun r_1 : Int32 => (if r_1 = 0 then (jX5_pin_26 F sD) else (Option.bind (fX5_in x2 (0 : Int32) (3 : Int32)) (fun r_5 : Int32 => (if r_5 = 0 then (jX5_pin_26 F sD) else (Option.bind (fX5_lay F sD) (fun r_7 : zOS => (if (3 : Int32) ≤ x2 then (Option.bind (fX5_pinNode x1 r_7) (fun r_9 : Int32 => (some (r_9, r_7)))) else (Option.bind (fX5_ofPin x1 x2 r_7) (fun r_11 : Int32 => (some (r_11, r_7))))))))))))))
set_option maxRecDepth 20000 in
theorem wX5_pin {X : zCx} {res : Int32 × zOS} {F : Nat} {qD : Nat → Nat} {x1 : Int32} {x2 : Int32} {sD : zOS} (C : zC X RX5 cX5_pin 3 7 160) (hR : zR X (some .int) (some (.int res.1)) [(5, qD, res.2)])  : zJ X 3 res (fX5_pin F x1 x2 sD) 0 [(0, (.ref (qD 0))), (1, (.int x1)), (2, (.int x2))] [] [(5, qD, sD)] := by
  unfold fX5_pin
  refine z_iload_n (pc := 0) 1 rfl rfl C dX5_pin_0 ?_
  refine z_iconst (pc := 1) (0 : Int32) (by decide) C dX5_pin_1 ?_
  refine z_aload_n (pc := 2) 0 rfl rfl C dX5_pin_2 ?_
  refine z_getR (pc := 3) 0 0 1 C dX5_pin_3 rfl (by decide) (by decide) rfl zw_715 ?_
  refine z_bipush (pc := 6) (27 : Int32) (by decide) C dX5_pin_6 ?_
  refine z_iald (pc := 8) 0 C dX5_pin_8 rfl (by unfold zAr; decide) ?_
  refine z_iconst (pc := 9) (1 : Int32) (by decide) C dX5_pin_9 ?_
  refine z_isub (pc := 10) C dX5_pin_10 ?_
  refine z_callS (pc := 11) (rf' := 0) (rl' := 0) (fX5_in x1 (0 : Int32) ((zI sD 1 (27 : Int32).toNatClampNeg) - (1 : Int32))) [(.int x1), (.int (0 : Int32)), (.int ((zI sD 1 (27 : Int32).toNatClampNeg) - (1 : Int32)))] [] [] (fun r_1 => (some (.int r_1))) (fun r_1 => []) [(5, qD, sD)] (fun r_1 => [(5, qD, sD)]) C dX5_pin_11 zy_X5_in zw_814 (fun _ hr9 => mX5_in  hr9) (by decide) rfl (Nat.le_of_ble_eq_true rfl) (List.Perm.refl _) (fun _ => List.Perm.refl _) rfl (fun r_1 hr_2 => ?_)
  show zJ X 3 res _ 14 [(0, (.ref (qD 0))), (1, (.int x1)), (2, (.int x2))] [(.int r_1)] [(5, qD, sD)]
  refine z_if_eq (pc := 14) 26 C dX5_pin_14 (by decide) ?_ ?_
  · refine z_lv [(0, (.ref (qD 0)))] [0] rfl ?_
    exact wX5_pin_26 C hR   _
  · refine z_iload_n (pc := 17) 2 rfl rfl C dX5_pin_17 ?_
    refine z_iconst (pc := 18) (0 : Int32) (by decide) C dX5_pin_18 ?_
    refine z_iconst (pc := 19) (3 : Int32) (by decide) C dX5_pin_19 ?_
    refine z_callS (pc := 20) (rf' := 0) (rl' := 0) (fX5_in x2 (0 : Int32) (3 : Int32)) [(.int x2), (.int (0 : Int32)), (.int (3 : Int32))] [] [] (fun r_5 => (some (.int r_5))) (fun r_5 => []) [(5, qD, sD)] (fun r_5 => [(5, qD, sD)]) C dX5_pin_20 zy_X5_in zw_814 (fun _ hr9 => mX5_in  hr9) (by decide) rfl (Nat.le_of_ble_eq_true rfl) (List.Perm.refl _) (fun _ => List.Perm.refl _) rfl (fun r_5 hr_6 => ?_)
    show zJ X 3 res _ 23 [(0, (.ref (qD 0))), (1, (.int x1)), (2, (.int x2))] [(.int r_5)] [(5, qD, sD)]
    refine z_if_ne (pc := 23) 33 C dX5_pin_23 (by decide) ?_ ?_
    · refine z_lv [(0, (.ref (qD 0)))] [0] rfl ?_
      exact wX5_pin_26 C hR   _
    · refine z_aload_n (pc := 33) 0 rfl rfl C dX5_pin_33 ?_
      refine z_callV (pc := 34) (rf' := 6) (rl' := 140) (fX5_lay F sD) [] [] [(5, qD, sD)] (fun r_7 => none) (fun r_7 => [(5, qD, r_7)]) [] (fun r_7 => [(5, qD, r_7)]) C dX5_pin_34 zy_X5_lay zw_887 (fun _ hr9 => mX5_lay  hr9) (by decide) rfl rfl (by decide) rfl (Nat.le_of_ble_eq_true rfl) (List.Perm.refl _) (fun _ => List.Perm.refl _) rfl (fun r_7 hr_8 => ?_)
      show zJ X 3 res _ 37 [(0, (.ref (qD 0))), (1, (.int x1)), (2, (.int x2))] [] [(5, qD, r_7)]
      refine z_iload_n (pc := 37) 2 rfl rfl C dX5_pin_37 ?_
      refine z_iconst (pc := 38) (3 : Int32) (by decide) C dX5_pin_38 ?_
      refine z_icmp_ge (pc := 39) 51 C dX5_pin_39 (by decide) ?_ ?_
      · refine z_aload_n (pc := 51) 0 rfl rfl C dX5_pin_51 ?_
        refine z_iload_n (pc := 52) 1 rfl rfl C dX5_pin_52 ?_
        refine z_callV (pc := 53) (rf' := 1) (rl' := 22) (fX5_pinNode x1 r_7) [(.int x1)] [] [(5, qD, r_7)] (fun r_9 => (some (.int r_9))) (fun r_9 => [(5, qD, r_7)]) [] (fun r_9 => [(5, qD, r_7)]) C dX5_pin_53 zy_X5_pinNode zw_954 (fun _ hr9 => mX5_pinNode  hr9) (by decide) rfl rfl (by decide) rfl (Nat.le_of_ble_eq_true rfl) (List.Perm.refl _) (fun _ => List.Perm.refl _) rfl (fun r_9 hr_10 => ?_)
        show zJ X 3 res _ 56 [(0, (.ref (qD 0))), (1, (.int x1)), (2, (.int x2))] [(.int r_9)] [(5, qD, r_7)]
        exact z_ireturn (pc := 56) C hR dX5_pin_56 (fun h => by subst h; exact ⟨rfl, rfl⟩)
      · refine z_aload_n (pc := 42) 0 rfl rfl C dX5_pin_42 ?_
        refine z_iload_n (pc := 43) 1 rfl rfl C dX5_pin_43 ?_
        refine z_iload_n (pc := 44) 2 rfl rfl C dX5_pin_44 ?_
        refine z_callV (pc := 45) (rf' := 0) (rl' := 0) (fX5_ofPin x1 x2 r_7) [(.int x1), (.int x2)] [] [(5, qD, r_7)] (fun r_11 => (some (.int r_11))) (fun r_11 => [(5, qD, r_7)]) [] (fun r_11 => [(5, qD, r_7)]) C dX5_pin_45 zy_X5_ofPin zw_958 (fun _ hr9 => mX5_ofPin  hr9) (by decide) rfl rfl (by decide) rfl (Nat.le_of_ble_eq_true rfl) (List.Perm.refl _) (fun _ => List.Perm.refl _) rfl (fun r_11 hr_12 => ?_)
        show zJ X 3 res _ 48 [(0, (.ref (qD 0))), (1, (.int x1)), (2, (.int x2))] [(.int r_11)] [(5, qD, r_7)]
        refine z_goto (pc := 48) 56 C dX5_pin_48 (by decide) ?_
        exact z_ireturn (pc := 56) C hR dX5_pin_56 (fun h => by subst h; exact ⟨rfl, rfl⟩)
theorem mX5_pin {F : Nat} {qD : Nat → Nat} {x1 : Int32} {x2 : Int32} {sD : zOS} {res : Int32 × zOS}  (hf : fX5_pin F x1 x2 sD = some res) : zM yX5_pin cX5_pin 3 (some .int) 7 160 [(.ref (qD 0)), (.int x1), (.int x2)] [(5, qD, sD)] (some (.int res.1)) [(5, qD, res.2)] := zM_of (by decide +kernel) (Nat.le_of_ble_eq_true rfl) (fun X C hR => wX5_pin (F := F) C hR  hf)
theorem dX5_hangs_0 : decode cX5_hangs 0 = .ok (.iload_n 1, 1) := by decide +kernel
theorem dX5_hangs_1 : decode cX5_hangs 1 = .ok (.invokestatic 82, 3) := by decide +kernel
theorem dX5_hangs_4 : decode cX5_hangs 4 = .ok (.ifCond .eq 11, 3) := by decide +kernel
theorem dX5_hangs_7 : decode cX5_hangs 7 = .ok (.aload_n 0, 1) := by decide +kernel
theorem dX5_hangs_8 : decode cX5_hangs 8 = .ok (.iload_n 1, 1) := by decide +kernel
theorem dX5_hangs_9 : decode cX5_hangs 9 = .ok (.invokevirtual 185, 3) := by decide +kernel
theorem dX5_hangs_12 : decode cX5_hangs 12 = .ok (.goto 9, 3) := by decide +kernel
theorem dX5_hangs_15 : decode cX5_hangs 15 = .ok (.aload_n 0, 1) := by decide +kernel
theorem dX5_hangs_16 : decode cX5_hangs 16 = .ok (.bipush (-2), 2) := by decide +kernel
theorem dX5_hangs_18 : decode cX5_hangs 18 = .ok (.invokevirtual 60, 3) := by decide +kernel
theorem dX5_hangs_21 : decode cX5_hangs 21 = .ok (.ireturn, 1) := by decide +kernel
def fX5_hangs (F : Nat) (x1 : Int32) (sD : zOS) : Option (Int32 × zOS) := (Option.bind (fX5_isNet x1) (fun r_1 : Int32 => (if r_1 = 0 then (Option.bind (fX5_refuses (-2 : Int32) sD) (fun r_3 : Int32 × zOS => (some (r_3.1, r_3.2)))) else (Option.bind (fX5_netHangs F x1 sD) (fun r_5 : Int32 => (some (r_5, sD)))))))
set_option maxRecDepth 20000 in
theorem wX5_hangs {X : zCx} {res : Int32 × zOS} {F : Nat} {qD : Nat → Nat} {x1 : Int32} {sD : zOS} (C : zC X RX5 cX5_hangs 2 2 45) (hR : zR X (some .int) (some (.int res.1)) [(5, qD, res.2)])  : zJ X 2 res (fX5_hangs F x1 sD) 0 [(0, (.ref (qD 0))), (1, (.int x1))] [] [(5, qD, sD)] := by
  unfold fX5_hangs
  refine z_iload_n (pc := 0) 1 rfl rfl C dX5_hangs_0 ?_
  refine z_callS (pc := 1) (rf' := 1) (rl' := 22) (fX5_isNet x1) [(.int x1)] [] [] (fun r_1 => (some (.int r_1))) (fun r_1 => []) [(5, qD, sD)] (fun r_1 => [(5, qD, sD)]) C dX5_hangs_1 zy_X5_isNet zw_856 (fun _ hr9 => mX5_isNet  hr9) (by decide) rfl (Nat.le_of_ble_eq_true rfl) (List.Perm.refl _) (fun _ => List.Perm.refl _) rfl (fun r_1 hr_2 => ?_)
  show zJ X 2 res _ 4 [(0, (.ref (qD 0))), (1, (.int x1))] [(.int r_1)] [(5, qD, sD)]
  refine z_if_eq (pc := 4) 15 C dX5_hangs_4 (by decide) ?_ ?_
  · refine z_aload_n (pc := 15) 0 rfl rfl C dX5_hangs_15 ?_
    refine z_bipush (pc := 16) (-2 : Int32) (by decide) C dX5_hangs_16 ?_
    refine z_callV (pc := 18) (rf' := 0) (rl' := 0) (fX5_refuses (-2 : Int32) sD) [(.int (-2 : Int32))] [] [(5, qD, sD)] (fun r_3 => (some (.int r_3.1))) (fun r_3 => [(5, qD, r_3.2)]) [] (fun r_3 => [(5, qD, r_3.2)]) C dX5_hangs_18 zy_X5_refuses zw_798 (fun _ hr9 => mX5_refuses  hr9) (by decide) rfl rfl (by decide) rfl (Nat.le_of_ble_eq_true rfl) (List.Perm.refl _) (fun _ => List.Perm.refl _) rfl (fun r_3 hr_4 => ?_)
    show zJ X 2 res _ 21 [(0, (.ref (qD 0))), (1, (.int x1))] [(.int r_3.1)] [(5, qD, r_3.2)]
    exact z_ireturn (pc := 21) C hR dX5_hangs_21 (fun h => by subst h; exact ⟨rfl, rfl⟩)
  · refine z_aload_n (pc := 7) 0 rfl rfl C dX5_hangs_7 ?_
    refine z_iload_n (pc := 8) 1 rfl rfl C dX5_hangs_8 ?_
    refine z_callV (pc := 9) (rf' := 1) (rl' := 22) (fX5_netHangs F x1 sD) [(.int x1)] [] [(5, qD, sD)] (fun r_5 => (some (.int r_5))) (fun r_5 => [(5, qD, sD)]) [] (fun r_5 => [(5, qD, sD)]) C dX5_hangs_9 zy_X5_netHangs zw_998 (fun _ hr9 => mX5_netHangs  hr9) (by decide) rfl rfl (by decide) rfl (Nat.le_of_ble_eq_true rfl) (List.Perm.refl _) (fun _ => List.Perm.refl _) rfl (fun r_5 hr_6 => ?_)
    show zJ X 2 res _ 12 [(0, (.ref (qD 0))), (1, (.int x1))] [(.int r_5)] [(5, qD, sD)]
    refine z_goto (pc := 12) 21 C dX5_hangs_12 (by decide) ?_
    exact z_ireturn (pc := 21) C hR dX5_hangs_21 (fun h => by subst h; exact ⟨rfl, rfl⟩)
theorem mX5_hangs {F : Nat} {qD : Nat → Nat} {x1 : Int32} {sD : zOS} {res : Int32 × zOS}  (hf : fX5_hangs F x1 sD = some res) : zM yX5_hangs cX5_hangs 2 (some .int) 2 45 [(.ref (qD 0)), (.int x1)] [(5, qD, sD)] (some (.int res.1)) [(5, qD, res.2)] := zM_of (by decide +kernel) (Nat.le_of_ble_eq_true rfl) (fun X C hR => wX5_hangs (F := F) C hR  hf)
