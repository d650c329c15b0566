theorem dX5_isGateCell_0 : decode cX5_isGateCell 0 = .ok (.aload_n 0, 1) := by decide +kernel
theorem dX5_isGateCell_1 : decode cX5_isGateCell 1 = .ok (.iconst 0, 1) := by decide +kernel
theorem dX5_isGateCell_2 : decode cX5_isGateCell 2 = .ok (.iload_n 1, 1) := by decide +kernel
theorem dX5_isGateCell_3 : decode cX5_isGateCell 3 = .ok (.invokevirtual 75, 3) := by decide +kernel
theorem dX5_isGateCell_6 : decode cX5_isGateCell 6 = .ok (.ifCond .eq 16, 3) := by decide +kernel
theorem dX5_isGateCell_9 : decode cX5_isGateCell 9 = .ok (.aload_n 0, 1) := by decide +kernel
theorem dX5_isGateCell_10 : decode cX5_isGateCell 10 = .ok (.iconst 1, 1) := by decide +kernel
theorem dX5_isGateCell_11 : decode cX5_isGateCell 11 = .ok (.iload_n 1, 1) := by decide +kernel
theorem dX5_isGateCell_12 : decode cX5_isGateCell 12 = .ok (.invokevirtual 75, 3) := by decide +kernel
theorem dX5_isGateCell_15 : decode cX5_isGateCell 15 = .ok (.ifCond .eq 7, 3) := by decide +kernel
theorem dX5_isGateCell_18 : decode cX5_isGateCell 18 = .ok (.iconst 1, 1) := by decide +kernel
theorem dX5_isGateCell_19 : decode cX5_isGateCell 19 = .ok (.goto 4, 3) := by decide +kernel
theorem dX5_isGateCell_22 : decode cX5_isGateCell 22 = .ok (.iconst 0, 1) := by decide +kernel
theorem dX5_isGateCell_23 : decode cX5_isGateCell 23 = .ok (.ireturn, 1) := by decide +kernel
def fX5_isGateCell (x1 : Int32) (sD : zOS) : Option (Int32) := (Option.bind (fX5_isDrawn (0 : Int32) x1 sD) (fun r_1 : Int32 => (if r_1 = 0 then (zbk (0 : Int32) (some ((0 : Int32)))) else (Option.bind (fX5_isDrawn (1 : Int32) x1 sD) (fun r_3 : Int32 => (if r_3 = 0 then (zbk (0 : Int32) (some ((0 : Int32)))) else (zbk (1 : Int32) (some ((1 : Int32))))))))))
set_option maxRecDepth 20000 in
theorem wX5_isGateCell {X : zCx} {res : Int32}  {qD : Nat → Nat} {x1 : Int32} {sD : zOS} (C : zC X RX5 cX5_isGateCell 2 1 22) (hR : zR X (some .boolean) (some (.int res)) [(5, qD, sD)])  : zJ X 2 res (fX5_isGateCell x1 sD) 0 [(0, (.ref (qD 0))), (1, (.int x1))] [] [(5, qD, sD)] := by
  unfold fX5_isGateCell
  refine z_aload_n (pc := 0) 0 rfl rfl C dX5_isGateCell_0 ?_
  refine z_iconst (pc := 1) (0 : Int32) (by decide) C dX5_isGateCell_1 ?_
  refine z_iload_n (pc := 2) 1 rfl rfl C dX5_isGateCell_2 ?_
  refine z_callV (pc := 3) (rf' := 0) (rl' := 0) (fX5_isDrawn (0 : Int32) x1 sD) [(.int (0 : Int32)), (.int x1)] [] [(5, qD, sD)] (fun r_1 => (some (.int r_1))) (fun r_1 => [(5, qD, sD)]) [] (fun r_1 => [(5, qD, sD)]) C dX5_isGateCell_3 zy_X5_isDrawn zw_820 (fun _ hr9 => mX5_isDrawn  hr9) (by decide) rfl rfl (by decide) rfl (Nat.le_of_ble_eq_true rfl) (List.Perm.refl _) (fun _ => List.Perm.refl _) rfl (fun r_1 hr_2 => ?_)
  show zJ X 2 res _ 6 [(0, (.ref (qD 0))), (1, (.int x1))] [(.int r_1)] [(5, qD, sD)]
  refine z_if_eq (pc := 6) 22 C dX5_isGateCell_6 (by decide) ?_ ?_
  · refine z_iconst (pc := 22) (0 : Int32) (by decide) C dX5_isGateCell_22 ?_
    exact z_zreturn (pc := 23) C hR dX5_isGateCell_23 (fun h => by subst h; exact ⟨rfl, rfl⟩)
  · refine z_aload_n (pc := 9) 0 rfl rfl C dX5_isGateCell_9 ?_
    refine z_iconst (pc := 10) (1 : Int32) (by decide) C dX5_isGateCell_10 ?_
    refine z_iload_n (pc := 11) 1 rfl rfl C dX5_isGateCell_11 ?_
    refine z_callV (pc := 12) (rf' := 0) (rl' := 0) (fX5_isDrawn (1 : Int32) x1 sD) [(.int (1 : Int32)), (.int x1)] [] [(5, qD, sD)] (fun r_3 => (some (.int r_3))) (fun r_3 => [(5, qD, sD)]) [] (fun r_3 => [(5, qD, sD)]) C dX5_isGateCell_12 zy_X5_isDrawn zw_820 (fun _ hr9 => mX5_isDrawn  hr9) (by decide) rfl rfl (by decide) rfl (Nat.le_of_ble_eq_true rfl) (List.Perm.refl _) (fun _ => List.Perm.refl _) rfl (fun r_3 hr_4 => ?_)
    show zJ X 2 res _ 15 [(0, (.ref (qD 0))), (1, (.int x1))] [(.int r_3)] [(5, qD, sD)]
    refine z_if_eq (pc := 15) 22 C dX5_isGateCell_15 (by decide) ?_ ?_
    · refine z_iconst (pc := 22) (0 : Int32) (by decide) C dX5_isGateCell_22 ?_
      exact z_zreturn (pc := 23) C hR dX5_isGateCell_23 (fun h => by subst h; exact ⟨rfl, rfl⟩)
    · refine z_iconst (pc := 18) (1 : Int32) (by decide) C dX5_isGateCell_18 ?_
      refine z_goto (pc := 19) 23 C dX5_isGateCell_19 (by decide) ?_
      exact z_zreturn (pc := 23) C hR dX5_isGateCell_23 (fun h => by subst h; exact ⟨rfl, rfl⟩)
theorem mX5_isGateCell  {qD : Nat → Nat} {x1 : Int32} {sD : zOS} {res : Int32}  (hf : fX5_isGateCell x1 sD = some res) : zM yX5_isGateCell cX5_isGateCell 2 (some .boolean) 1 22 [(.ref (qD 0)), (.int x1)] [(5, qD, sD)] (some (.int res)) [(5, qD, sD)] := zM_of (by decide +kernel) (Nat.le_of_ble_eq_true rfl) (fun X C hR => wX5_isGateCell C hR  hf)
theorem dX5_isWire_0 : decode cX5_isWire 0 = .ok (.iload_n 1, 1) := by decide +kernel
theorem dX5_isWire_1 : decode cX5_isWire 1 = .ok (.bipush 64, 2) := by decide +kernel
theorem dX5_isWire_3 : decode cX5_isWire 3 = .ok (.irem, 1) := by decide +kernel
theorem dX5_isWire_4 : decode cX5_isWire 4 = .ok (.istore_n 2, 1) := by decide +kernel
theorem dX5_isWire_5 : decode cX5_isWire 5 = .ok (.aload_n 0, 1) := by decide +kernel
theorem dX5_isWire_6 : decode cX5_isWire 6 = .ok (.iload_n 1, 1) := by decide +kernel
theorem dX5_isWire_7 : decode cX5_isWire 7 = .ok (.bipush 64, 2) := by decide +kernel
theorem dX5_isWire_9 : decode cX5_isWire 9 = .ok (.idiv, 1) := by decide +kernel
theorem dX5_isWire_10 : decode cX5_isWire 10 = .ok (.iload_n 2, 1) := by decide +kernel
theorem dX5_isWire_11 : decode cX5_isWire 11 = .ok (.invokevirtual 75, 3) := by decide +kernel
theorem dX5_isWire_14 : decode cX5_isWire 14 = .ok (.ifCond .eq 22, 3) := by decide +kernel
theorem dX5_isWire_17 : decode cX5_isWire 17 = .ok (.iload_n 1, 1) := by decide +kernel
theorem dX5_isWire_18 : decode cX5_isWire 18 = .ok (.bipush 64, 2) := by decide +kernel
theorem dX5_isWire_20 : decode cX5_isWire 20 = .ok (.if_icmp .ge 12, 3) := by decide +kernel
theorem dX5_isWire_23 : decode cX5_isWire 23 = .ok (.aload_n 0, 1) := by decide +kernel
theorem dX5_isWire_24 : decode cX5_isWire 24 = .ok (.iconst 1, 1) := by decide +kernel
theorem dX5_isWire_25 : decode cX5_isWire 25 = .ok (.iload_n 2, 1) := by decide +kernel
theorem dX5_isWire_26 : decode cX5_isWire 26 = .ok (.invokevirtual 75, 3) := by decide +kernel
theorem dX5_isWire_29 : decode cX5_isWire 29 = .ok (.ifCond .ne 7, 3) := by decide +kernel
theorem dX5_isWire_32 : decode cX5_isWire 32 = .ok (.iconst 1, 1) := by decide +kernel
theorem dX5_isWire_33 : decode cX5_isWire 33 = .ok (.goto 4, 3) := by decide +kernel
theorem dX5_isWire_36 : decode cX5_isWire 36 = .ok (.iconst 0, 1) := by decide +kernel
theorem dX5_isWire_37 : decode cX5_isWire 37 = .ok (.ireturn, 1) := by decide +kernel
def fX5_isWire (x1 : Int32) (sD : zOS) : Option (Int32) := (zdvk (64 : Int32) (zlet (x1 - x1 / (64 : Int32) * (64 : Int32)) (fun x2_1 : Int32 => (zdvk (64 : Int32) (Option.bind (fX5_isDrawn (x1 / (64 : Int32)) x2_1 sD) (fun r_2 : Int32 => (if r_2 = 0 then (zbk (0 : Int32) (some ((0 : Int32)))) else (if (64 : Int32) ≤ x1 then (zbk (1 : Int32) (some ((1 : Int32)))) else (Option.bind (fX5_isDrawn (1 : Int32) x2_1 sD) (fun r_4 : Int32 => (if r_4 = 0 then (zbk (1 : Int32) (some ((1 : Int32)))) else (zbk (0 : Int32) (some ((0 : Int32)))))))))))))))
set_option maxRecDepth 20000 in
theorem wX5_isWire {X : zCx} {res : Int32}  {qD : Nat → Nat} {x1 : Int32} {sD : zOS} (C : zC X RX5 cX5_isWire 3 1 22) (hR : zR X (some .boolean) (some (.int res)) [(5, qD, sD)])  : zJ X 3 res (fX5_isWire x1 sD) 0 [(0, (.ref (qD 0))), (1, (.int x1))] [] [(5, qD, sD)] := by
  unfold fX5_isWire
  refine z_iload_n (pc := 0) 1 rfl rfl C dX5_isWire_0 ?_
  refine z_bipush (pc := 1) (64 : Int32) (by decide) C dX5_isWire_1 ?_
  refine z_irem (pc := 3) C dX5_isWire_3 ?_
  refine z_leti (fun x2_1 => ?_)
  refine z_istore_n (pc := 4) [(0, (.ref (qD 0))), (1, (.int x1)), (2, (.int x2_1))] [1, 2, 0] (by decide) rfl rfl C dX5_isWire_4 ?_
  refine z_aload_n (pc := 5) 0 rfl rfl C dX5_isWire_5 ?_
  refine z_iload_n (pc := 6) 1 rfl rfl C dX5_isWire_6 ?_
  refine z_bipush (pc := 7) (64 : Int32) (by decide) C dX5_isWire_7 ?_
  refine z_idiv (pc := 9) C dX5_isWire_9 ?_
  refine z_iload_n (pc := 10) 2 rfl rfl C dX5_isWire_10 ?_
  refine z_callV (pc := 11) (rf' := 0) (rl' := 0) (fX5_isDrawn (x1 / (64 : Int32)) x2_1 sD) [(.int (x1 / (64 : Int32))), (.int x2_1)] [] [(5, qD, sD)] (fun r_2 => (some (.int r_2))) (fun r_2 => [(5, qD, sD)]) [] (fun r_2 => [(5, qD, sD)]) C dX5_isWire_11 zy_X5_isDrawn zw_820 (fun _ hr9 => mX5_isDrawn  hr9) (by decide) rfl rfl (by decide) rfl (Nat.le_of_ble_eq_true rfl) (List.Perm.refl _) (fun _ => List.Perm.refl _) rfl (fun r_2 hr_3 => ?_)
  show zJ X 3 res _ 14 [(0, (.ref (qD 0))), (1, (.int x1)), (2, (.int x2_1))] [(.int r_2)] [(5, qD, sD)]
  refine z_if_eq (pc := 14) 36 C dX5_isWire_14 (by decide) ?_ ?_
  · refine z_iconst (pc := 36) (0 : Int32) (by decide) C dX5_isWire_36 ?_
    exact z_zreturn (pc := 37) C hR dX5_isWire_37 (fun h => by subst h; exact ⟨rfl, rfl⟩)
  · refine z_iload_n (pc := 17) 1 rfl rfl C dX5_isWire_17 ?_
    refine z_bipush (pc := 18) (64 : Int32) (by decide) C dX5_isWire_18 ?_
    refine z_icmp_ge (pc := 20) 32 C dX5_isWire_20 (by decide) ?_ ?_
    · refine z_iconst (pc := 32) (1 : Int32) (by decide) C dX5_isWire_32 ?_
      refine z_goto (pc := 33) 37 C dX5_isWire_33 (by decide) ?_
      exact z_zreturn (pc := 37) C hR dX5_isWire_37 (fun h => by subst h; exact ⟨rfl, rfl⟩)
    · refine z_aload_n (pc := 23) 0 rfl rfl C dX5_isWire_23 ?_
      refine z_iconst (pc := 24) (1 : Int32) (by decide) C dX5_isWire_24 ?_
      refine z_iload_n (pc := 25) 2 rfl rfl C dX5_isWire_25 ?_
      refine z_callV (pc := 26) (rf' := 0) (rl' := 0) (fX5_isDrawn (1 : Int32) x2_1 sD) [(.int (1 : Int32)), (.int x2_1)] [] [(5, qD, sD)] (fun r_4 => (some (.int r_4))) (fun r_4 => [(5, qD, sD)]) [] (fun r_4 => [(5, qD, sD)]) C dX5_isWire_26 zy_X5_isDrawn zw_820 (fun _ hr9 => mX5_isDrawn  hr9) (by decide) rfl rfl (by decide) rfl (Nat.le_of_ble_eq_true rfl) (List.Perm.refl _) (fun _ => List.Perm.refl _) rfl (fun r_4 hr_5 => ?_)
      show zJ X 3 res _ 29 [(0, (.ref (qD 0))), (1, (.int x1)), (2, (.int x2_1))] [(.int r_4)] [(5, qD, sD)]
      refine z_if_ne (pc := 29) 36 C dX5_isWire_29 (by decide) ?_ ?_
      · refine z_iconst (pc := 32) (1 : Int32) (by decide) C dX5_isWire_32 ?_
        refine z_goto (pc := 33) 37 C dX5_isWire_33 (by decide) ?_
        exact z_zreturn (pc := 37) C hR dX5_isWire_37 (fun h => by subst h; exact ⟨rfl, rfl⟩)
      · refine z_iconst (pc := 36) (0 : Int32) (by decide) C dX5_isWire_36 ?_
        exact z_zreturn (pc := 37) C hR dX5_isWire_37 (fun h => by subst h; exact ⟨rfl, rfl⟩)
theorem mX5_isWire  {qD : Nat → Nat} {x1 : Int32} {sD : zOS} {res : Int32}  (hf : fX5_isWire x1 sD = some res) : zM yX5_isWire cX5_isWire 3 (some .boolean) 1 22 [(.ref (qD 0)), (.int x1)] [(5, qD, sD)] (some (.int res)) [(5, qD, sD)] := zM_of (by decide +kernel) (Nat.le_of_ble_eq_true rfl) (fun X C hR => wX5_isWire C hR  hf)
theorem dX5_beside_0 : decode cX5_beside 0 = .ok (.iload_n 0, 1) := by decide +kernel
theorem dX5_beside_1 : decode cX5_beside 1 = .ok (.bipush 8, 2) := by decide +kernel
theorem dX5_beside_3 : decode cX5_beside 3 = .ok (.irem, 1) := by decide +kernel
theorem dX5_beside_4 : decode cX5_beside 4 = .ok (.iload_n 1, 1) := by decide +kernel
theorem dX5_beside_5 : decode cX5_beside 5 = .ok (.iconst 2, 1) := by decide +kernel
theorem dX5_beside_6 : decode cX5_beside 6 = .ok (.if_icmp .ne 7, 3) := by decide +kernel
theorem dX5_beside_9 : decode cX5_beside 9 = .ok (.iconst (-1), 1) := by decide +kernel
theorem dX5_beside_10 : decode cX5_beside 10 = .ok (.goto 13, 3) := by decide +kernel
theorem dX5_beside_13 : decode cX5_beside 13 = .ok (.iload_n 1, 1) := by decide +kernel
theorem dX5_beside_14 : decode cX5_beside 14 = .ok (.iconst 3, 1) := by decide +kernel
theorem dX5_beside_15 : decode cX5_beside 15 = .ok (.if_icmp .ne 7, 3) := by decide +kernel
theorem dX5_beside_18 : decode cX5_beside 18 = .ok (.iconst 1, 1) := by decide +kernel
theorem dX5_beside_19 : decode cX5_beside 19 = .ok (.goto 4, 3) := by decide +kernel
theorem dX5_beside_22 : decode cX5_beside 22 = .ok (.iconst 0, 1) := by decide +kernel
theorem dX5_beside_23 : decode cX5_beside 23 = .ok (.iadd, 1) := by decide +kernel
theorem dX5_beside_24 : decode cX5_beside 24 = .ok (.istore_n 2, 1) := by decide +kernel
theorem dX5_beside_25 : decode cX5_beside 25 = .ok (.iload_n 0, 1) := by decide +kernel
theorem dX5_beside_26 : decode cX5_beside 26 = .ok (.bipush 8, 2) := by decide +kernel
theorem dX5_beside_28 : decode cX5_beside 28 = .ok (.idiv, 1) := by decide +kernel
theorem dX5_beside_29 : decode cX5_beside 29 = .ok (.iload_n 1, 1) := by decide +kernel
theorem dX5_beside_30 : decode cX5_beside 30 = .ok (.ifCond .ne 7, 3) := by decide +kernel
theorem dX5_beside_33 : decode cX5_beside 33 = .ok (.iconst (-1), 1) := by decide +kernel
theorem dX5_beside_34 : decode cX5_beside 34 = .ok (.goto 13, 3) := by decide +kernel
theorem dX5_beside_37 : decode cX5_beside 37 = .ok (.iload_n 1, 1) := by decide +kernel
theorem dX5_beside_38 : decode cX5_beside 38 = .ok (.iconst 1, 1) := by decide +kernel
theorem dX5_beside_39 : decode cX5_beside 39 = .ok (.if_icmp .ne 7, 3) := by decide +kernel
theorem dX5_beside_42 : decode cX5_beside 42 = .ok (.iconst 1, 1) := by decide +kernel
theorem dX5_beside_43 : decode cX5_beside 43 = .ok (.goto 4, 3) := by decide +kernel
theorem dX5_beside_46 : decode cX5_beside 46 = .ok (.iconst 0, 1) := by decide +kernel
theorem dX5_beside_47 : decode cX5_beside 47 = .ok (.iadd, 1) := by decide +kernel
theorem dX5_beside_48 : decode cX5_beside 48 = .ok (.istore_n 3, 1) := by decide +kernel
theorem dX5_beside_49 : decode cX5_beside 49 = .ok (.iload_n 2, 1) := by decide +kernel
theorem dX5_beside_50 : decode cX5_beside 50 = .ok (.iload_n 3, 1) := by decide +kernel
theorem dX5_beside_51 : decode cX5_beside 51 = .ok (.invokestatic 71, 3) := by decide +kernel
theorem dX5_beside_54 : decode cX5_beside 54 = .ok (.ifCond .eq 12, 3) := by decide +kernel
theorem dX5_beside_57 : decode cX5_beside 57 = .ok (.bipush 8, 2) := by decide +kernel
theorem dX5_beside_59 : decode cX5_beside 59 = .ok (.iload_n 3, 1) := by decide +kernel
theorem dX5_beside_60 : decode cX5_beside 60 = .ok (.imul, 1) := by decide +kernel
theorem dX5_beside_61 : decode cX5_beside 61 = .ok (.iload_n 2, 1) := by decide +kernel
theorem dX5_beside_62 : decode cX5_beside 62 = .ok (.iadd, 1) := by decide +kernel
theorem dX5_beside_63 : decode cX5_beside 63 = .ok (.goto 4, 3) := by decide +kernel
theorem dX5_beside_66 : decode cX5_beside 66 = .ok (.iconst (-1), 1) := by decide +kernel
theorem dX5_beside_67 : decode cX5_beside 67 = .ok (.ireturn, 1) := by decide +kernel
def jX5_beside_47 (x2 : Int32) (v0 : Int32) (v1 : Int32) : Option (Int32) := (zlet (v1 + v0) (fun x3_2 : Int32 => (Option.bind (fX5_isCell x2 x3_2) (fun r_3 : Int32 => (if r_3 = 0 then (some ((-1 : Int32))) else (some (((8 : Int32) * x3_2) + x2)))))))
set_option maxRecDepth 20000 in
theorem wX5_beside_47 {X : zCx} {res : Int32} (C : zC X RX5 cX5_beside 4 2 43) (hR : zR X (some .int) (some (.int res)) []) (x2 : Int32) (v0 : Int32) (v1 : Int32) : zJ X 4 res (jX5_beside_47 x2 v0 v1) 47 [(2, (.int x2))] [(.int v0), (.int v1)] [] := by
  unfold jX5_beside_47
  refine z_iadd (pc := 47) C dX5_beside_47 ?_
  refine z_leti (fun x3_2 => ?_)
  refine z_istore_n (pc := 48) [(2, (.int x2)), (3, (.int x3_2))] [1, 0] (by decide) rfl rfl C dX5_beside_48 ?_
  refine z_iload_n (pc := 49) 0 rfl rfl C dX5_beside_49 ?_
  refine z_iload_n (pc := 50) 1 rfl rfl C dX5_beside_50 ?_
  refine z_callS (pc := 51) (rf' := 1) (rl' := 22) (fX5_isCell x2 x3_2) [(.int x2), (.int x3_2)] [] [] (fun r_3 => (some (.int r_3))) (fun r_3 => []) [] (fun r_3 => []) C dX5_beside_51 zy_X5_isCell zw_817 (fun _ hr9 => mX5_isCell  hr9) (by decide) rfl (Nat.le_of_ble_eq_true rfl) (List.Perm.refl _) (fun _ => List.Perm.refl _) rfl (fun r_3 hr_4 => ?_)
  show zJ X 4 res _ 54 [(2, (.int x2)), (3, (.int x3_2))] [(.int r_3)] []
  refine z_if_eq (pc := 54) 66 C dX5_beside_54 (by decide) ?_ ?_
  · refine z_iconst (pc := 66) (-1 : Int32) (by decide) C dX5_beside_66 ?_
    exact z_ireturn (pc := 67) C hR dX5_beside_67 (fun h => by subst h; exact ⟨rfl, rfl⟩)
  · refine z_bipush (pc := 57) (8 : Int32) (by decide) C dX5_beside_57 ?_
    refine z_iload_n (pc := 59) 1 rfl rfl C dX5_beside_59 ?_
    refine z_imul (pc := 60) C dX5_beside_60 ?_
    refine z_iload_n (pc := 61) 0 rfl rfl C dX5_beside_61 ?_
    refine z_iadd (pc := 62) C dX5_beside_62 ?_
    refine z_goto (pc := 63) 67 C dX5_beside_63 (by decide) ?_
    exact z_ireturn (pc := 67) C hR dX5_beside_67 (fun h => by subst h; exact ⟨rfl, rfl⟩)
def jX5_beside_23 (x0 : Int32) (x1 : Int32) (v0 : Int32) (v1 : Int32) : Option (Int32) := (zlet (v1 + v0) (fun x2_1 : Int32 => (zdvk (8 : Int32) (if x1 = 0 then (jX5_beside_47 x2_1 (-1 : Int32) (x0 / (8 : Int32))) else (if x1 = (1 : Int32) then (jX5_beside_47 x2_1 (1 : Int32) (x0 / (8 : Int32))) else (jX5_beside_47 x2_1 (0 : Int32) (x0 / (8 : Int32))))))))
set_option maxRecDepth 20000 in
theorem wX5_beside_23 {X : zCx} {res : Int32} (C : zC X RX5 cX5_beside 4 2 43) (hR : zR X (some .int) (some (.int res)) []) (x0 : Int32) (x1 : Int32) (v0 : Int32) (v1 : Int32) : zJ X 4 res (jX5_beside_23 x0 x1 v0 v1) 23 [(0, (.int x0)), (1, (.int x1))] [(.int v0), (.int v1)] [] := by
  unfold jX5_beside_23
  refine z_iadd (pc := 23) C dX5_beside_23 ?_
  refine z_leti (fun x2_1 => ?_)
  refine z_istore_n (pc := 24) [(0, (.int x0)), (1, (.int x1)), (2, (.int x2_1))] [1, 2, 0] (by decide) rfl rfl C dX5_beside_24 ?_
  refine z_iload_n (pc := 25) 0 rfl rfl C dX5_beside_25 ?_
  refine z_bipush (pc := 26) (8 : Int32) (by decide) C dX5_beside_26 ?_
  refine z_idiv (pc := 28) C dX5_beside_28 ?_
  refine z_iload_n (pc := 29) 1 rfl rfl C dX5_beside_29 ?_
  refine z_if_ne (pc := 30) 37 C dX5_beside_30 (by decide) ?_ ?_
  · refine z_iconst (pc := 33) (-1 : Int32) (by decide) C dX5_beside_33 ?_
    refine z_goto (pc := 34) 47 C dX5_beside_34 (by decide) ?_
    refine z_lv [(2, (.int x2_1))] [2] rfl ?_
    exact wX5_beside_47 C hR   _ _ _
  · refine z_iload_n (pc := 37) 1 rfl rfl C dX5_beside_37 ?_
    refine z_iconst (pc := 38) (1 : Int32) (by decide) C dX5_beside_38 ?_
    refine z_icmp_ne (pc := 39) 46 C dX5_beside_39 (by decide) ?_ ?_
    · refine z_iconst (pc := 42) (1 : Int32) (by decide) C dX5_beside_42 ?_
      refine z_goto (pc := 43) 47 C dX5_beside_43 (by decide) ?_
      refine z_lv [(2, (.int x2_1))] [2] rfl ?_
      exact wX5_beside_47 C hR   _ _ _
    · refine z_iconst (pc := 46) (0 : Int32) (by decide) C dX5_beside_46 ?_
      refine z_lv [(2, (.int x2_1))] [2] rfl ?_
      exact wX5_beside_47 C hR   _ _ _
def fX5_beside (x0 : Int32) (x1 : Int32) : Option (Int32) := (zdvk (8 : Int32) (if x1 = (2 : Int32) then (jX5_beside_23 x0 x1 (-1 : Int32) (x0 - x0 / (8 : Int32) * (8 : Int32))) else (if x1 = (3 : Int32) then (jX5_beside_23 x0 x1 (1 : Int32) (x0 - x0 / (8 : Int32) * (8 : Int32))) else (jX5_beside_23 x0 x1 (0 : Int32) (x0 - x0 / (8 : Int32) * (8 : Int32))))))
set_option maxRecDepth 20000 in
theorem wX5_beside {X : zCx} {res : Int32}   {x0 : Int32} {x1 : Int32} (C : zC X RX5 cX5_beside 4 2 43) (hR : zR X (some .int) (some (.int res)) [])  : zJ X 4 res (fX5_beside x0 x1) 0 [(0, (.int x0)), (1, (.int x1))] [] [] := by
  unfold fX5_beside
  refine z_iload_n (pc := 0) 0 rfl rfl C dX5_beside_0 ?_
  refine z_bipush (pc := 1) (8 : Int32) (by decide) C dX5_beside_1 ?_
  refine z_irem (pc := 3) C dX5_beside_3 ?_
  refine z_iload_n (pc := 4) 1 rfl rfl C dX5_beside_4 ?_
  refine z_iconst (pc := 5) (2 : Int32) (by decide) C dX5_beside_5 ?_
  refine z_icmp_ne (pc := 6) 13 C dX5_beside_6 (by decide) ?_ ?_
  · refine z_iconst (pc := 9) (-1 : Int32) (by decide) C dX5_beside_9 ?_
    refine z_goto (pc := 10) 23 C dX5_beside_10 (by decide) ?_
    exact wX5_beside_23 C hR   _ _ _ _
  · refine z_iload_n (pc := 13) 1 rfl rfl C dX5_beside_13 ?_
    refine z_iconst (pc := 14) (3 : Int32) (by decide) C dX5_beside_14 ?_
    refine z_icmp_ne (pc := 15) 22 C dX5_beside_15 (by decide) ?_ ?_
    · refine z_iconst (pc := 18) (1 : Int32) (by decide) C dX5_beside_18 ?_
      refine z_goto (pc := 19) 23 C dX5_beside_19 (by decide) ?_
      exact wX5_beside_23 C hR   _ _ _ _
    · refine z_iconst (pc := 22) (0 : Int32) (by decide) C dX5_beside_22 ?_
      exact wX5_beside_23 C hR   _ _ _ _
theorem mX5_beside   {x0 : Int32} {x1 : Int32} {res : Int32}  (hf : fX5_beside x0 x1 = some res) : zM yX5_beside cX5_beside 4 (some .int) 2 43 [(.int x0), (.int x1)] [] (some (.int res)) [] := zM_of (by decide +kernel) (Nat.le_of_ble_eq_true rfl) (fun X C hR => wX5_beside C hR  hf)
theorem dX5_take_0 : decode cX5_take 0 = .ok (.aload_n 0, 1) := by decide +kernel
theorem dX5_take_1 : decode cX5_take 1 = .ok (.iload_n 1, 1) := by decide +kernel
theorem dX5_take_2 : decode cX5_take 2 = .ok (.invokevirtual 114, 3) := by decide +kernel
theorem dX5_take_5 : decode cX5_take 5 = .ok (.ifCond .eq 40, 3) := by decide +kernel
theorem dX5_take_8 : decode cX5_take 8 = .ok (.aload_n 0, 1) := by decide +kernel
theorem dX5_take_9 : decode cX5_take 9 = .ok (.getfield 22, 3) := by decide +kernel
theorem dX5_take_12 : decode cX5_take 12 = .ok (.iload_n 1, 1) := by decide +kernel
theorem dX5_take_13 : decode cX5_take 13 = .ok (.iaload, 1) := by decide +kernel
theorem dX5_take_14 : decode cX5_take 14 = .ok (.iconst (-1), 1) := by decide +kernel
theorem dX5_take_15 : decode cX5_take 15 = .ok (.if_icmp .ne 30, 3) := by decide +kernel
theorem dX5_take_18 : decode cX5_take 18 = .ok (.aload_n 0, 1) := by decide +kernel
theorem dX5_take_19 : decode cX5_take 19 = .ok (.getfield 22, 3) := by decide +kernel
theorem dX5_take_22 : decode cX5_take 22 = .ok (.iload_n 1, 1) := by decide +kernel
theorem dX5_take_23 : decode cX5_take 23 = .ok (.iload_n 2, 1) := by decide +kernel
theorem dX5_take_24 : decode cX5_take 24 = .ok (.iastore, 1) := by decide +kernel
theorem dX5_take_25 : decode cX5_take 25 = .ok (.aload_n 0, 1) := by decide +kernel
theorem dX5_take_26 : decode cX5_take 26 = .ok (.getfield 28, 3) := by decide +kernel
theorem dX5_take_29 : decode cX5_take 29 = .ok (.aload_n 0, 1) := by decide +kernel
theorem dX5_take_30 : decode cX5_take 30 = .ok (.getfield 117, 3) := by decide +kernel
theorem dX5_take_33 : decode cX5_take 33 = .ok (.iload_n 1, 1) := by decide +kernel
theorem dX5_take_34 : decode cX5_take 34 = .ok (.iastore, 1) := by decide +kernel
theorem dX5_take_35 : decode cX5_take 35 = .ok (.aload_n 0, 1) := by decide +kernel
theorem dX5_take_36 : decode cX5_take 36 = .ok (.dup, 1) := by decide +kernel
theorem dX5_take_37 : decode cX5_take 37 = .ok (.getfield 117, 3) := by decide +kernel
theorem dX5_take_40 : decode cX5_take 40 = .ok (.iconst 1, 1) := by decide +kernel
theorem dX5_take_41 : decode cX5_take 41 = .ok (.iadd, 1) := by decide +kernel
theorem dX5_take_42 : decode cX5_take 42 = .ok (.putfield 117, 3) := by decide +kernel
theorem dX5_take_45 : decode cX5_take 45 = .ok (.return_, 1) := by decide +kernel
def fX5_take (x1 : Int32) (x2 : Int32) (sD : zOS) : Option (zOS) := (Option.bind (fX5_isWire x1 sD) (fun r_1 : Int32 => (if r_1 = 0 then (some (sD)) else (zchk x1 192 (if (zI sD 5 x1.toNatClampNeg) = (-1 : Int32) then (zchk x1 192 (zlet (zsI sD 5 (upd (zI sD 5) x1.toNatClampNeg x2)) (fun sD_3 : zOS => (zchk (zF sD_3 12) 192 (zlet (zsI sD_3 7 (upd (zI sD_3 7) (zF sD_3 12).toNatClampNeg x1)) (fun sD_4 : zOS => (zlet (zsF sD_4 12 ((zF sD_4 12) + (1 : Int32))) (fun sD_5 : zOS => (some (sD_5)))))))))) else (some (sD)))))))
set_option maxRecDepth 20000 in
theorem wX5_take {X : zCx} {res : zOS}  {qD : Nat → Nat} {x1 : Int32} {x2 : Int32} {sD : zOS} (C : zC X RX5 cX5_take 3 2 44) (hR : zR X none none [(5, qD, res)])  : zJ X 3 res (fX5_take x1 x2 sD) 0 [(0, (.ref (qD 0))), (1, (.int x1)), (2, (.int x2))] [] [(5, qD, sD)] := by
  unfold fX5_take
  refine z_aload_n (pc := 0) 0 rfl rfl C dX5_take_0 ?_
  refine z_iload_n (pc := 1) 1 rfl rfl C dX5_take_1 ?_
  refine z_callV (pc := 2) (rf' := 1) (rl' := 22) (fX5_isWire x1 sD) [(.int x1)] [] [(5, qD, sD)] (fun r_1 => (some (.int r_1))) (fun r_1 => [(5, qD, sD)]) [] (fun r_1 => [(5, qD, sD)]) C dX5_take_2 zy_X5_isWire zw_895 (fun _ hr9 => mX5_isWire  hr9) (by decide) rfl rfl (by decide) rfl (Nat.le_of_ble_eq_true rfl) (List.Perm.refl _) (fun _ => List.Perm.refl _) rfl (fun r_1 hr_2 => ?_)
  show zJ X 3 res _ 5 [(0, (.ref (qD 0))), (1, (.int x1)), (2, (.int x2))] [(.int r_1)] [(5, qD, sD)]
  refine z_if_eq (pc := 5) 45 C dX5_take_5 (by decide) ?_ ?_
  · exact z_return (pc := 45) C hR dX5_take_45 (fun h => by subst h; exact ⟨rfl, rfl⟩)
  · refine z_aload_n (pc := 8) 0 rfl rfl C dX5_take_8 ?_
    refine z_getR (pc := 9) 0 6 5 C dX5_take_9 rfl (by decide) (by decide) rfl zw_721 ?_
    refine z_iload_n (pc := 12) 1 rfl rfl C dX5_take_12 ?_
    refine z_iald (pc := 13) 0 C dX5_take_13 rfl (by unfold zAr; decide) ?_
    refine z_iconst (pc := 14) (-1 : Int32) (by decide) C dX5_take_14 ?_
    refine z_icmp_ne (pc := 15) 45 C dX5_take_15 (by decide) ?_ ?_
    · refine z_aload_n (pc := 18) 0 rfl rfl C dX5_take_18 ?_
      refine z_getR (pc := 19) 0 6 5 C dX5_take_19 rfl (by decide) (by decide) rfl zw_721 ?_
      refine z_iload_n (pc := 22) 1 rfl rfl C dX5_take_22 ?_
      refine z_iload_n (pc := 23) 2 rfl rfl C dX5_take_23 ?_
      refine z_iast (pc := 24) 0 C dX5_take_24 rfl (by unfold zAr; decide) [(5, qD, (zsI sD 5 (upd (zI sD 5) x1.toNatClampNeg x2)))] rfl ?_
      refine z_letc (fun z9 => [(5, qD, z9)]) (fun sD_3 => ?_)
      refine z_aload_n (pc := 25) 0 rfl rfl C dX5_take_25 ?_
      refine z_getR (pc := 26) 0 11 7 C dX5_take_26 rfl (by decide) (by decide) rfl zw_726 ?_
      refine z_aload_n (pc := 29) 0 rfl rfl C dX5_take_29 ?_
      refine z_getI (pc := 30) 0 12 C dX5_take_30 rfl (by decide) (by decide) rfl zw_727 ?_
      refine z_iload_n (pc := 33) 1 rfl rfl C dX5_take_33 ?_
      refine z_iast (pc := 34) 0 C dX5_take_34 rfl (by unfold zAr; decide) [(5, qD, (zsI sD_3 7 (upd (zI sD_3 7) (zF sD_3 12).toNatClampNeg x1)))] rfl ?_
      refine z_letc (fun z9 => [(5, qD, z9)]) (fun sD_4 => ?_)
      refine z_aload_n (pc := 35) 0 rfl rfl C dX5_take_35 ?_
      refine z_dup (pc := 36) rfl C dX5_take_36 ?_
      refine z_getI (pc := 37) 0 12 C dX5_take_37 rfl (by decide) (by decide) rfl zw_727 ?_
      refine z_iconst (pc := 40) (1 : Int32) (by decide) C dX5_take_40 ?_
      refine z_iadd (pc := 41) C dX5_take_41 ?_
      refine z_putI (pc := 42) 0 12 C dX5_take_42 rfl (by decide) (by decide) rfl zw_727 rfl rfl rfl [(5, qD, (zsF sD_4 12 ((zF sD_4 12) + (1 : Int32))))] rfl ?_
      refine z_letc (fun z9 => [(5, qD, z9)]) (fun sD_5 => ?_)
      exact z_return (pc := 45) C hR dX5_take_45 (fun h => by subst h; exact ⟨rfl, rfl⟩)
    · exact z_return (pc := 45) C hR dX5_take_45 (fun h => by subst h; exact ⟨rfl, rfl⟩)
theorem mX5_take  {qD : Nat → Nat} {x1 : Int32} {x2 : Int32} {sD : zOS} {res : zOS}  (hf : fX5_take x1 x2 sD = some res) : zM yX5_take cX5_take 3 none 2 44 [(.ref (qD 0)), (.int x1), (.int x2)] [(5, qD, sD)] none [(5, qD, res)] := zM_of (by decide +kernel) (Nat.le_of_ble_eq_true rfl) (fun X C hR => wX5_take C hR  hf)
theorem dX5_goFrom_0 : decode cX5_goFrom 0 = .ok (.iload_n 1, 1) := by decide +kernel
theorem dX5_goFrom_1 : decode cX5_goFrom 1 = .ok (.bipush 64, 2) := by decide +kernel
theorem dX5_goFrom_3 : decode cX5_goFrom 3 = .ok (.irem, 1) := by decide +kernel
theorem dX5_goFrom_4 : decode cX5_goFrom 4 = .ok (.istore 4, 2) := by decide +kernel
theorem dX5_goFrom_6 : decode cX5_goFrom 6 = .ok (.iconst 0, 1) := by decide +kernel
theorem dX5_goFrom_7 : decode cX5_goFrom 7 = .ok (.istore 5, 2) := by decide +kernel
theorem dX5_goFrom_9 : decode cX5_goFrom 9 = .ok (.iload 5, 2) := by decide +kernel
theorem dX5_goFrom_11 : decode cX5_goFrom 11 = .ok (.iconst 4, 1) := by decide +kernel
theorem dX5_goFrom_12 : decode cX5_goFrom 12 = .ok (.if_icmp .ge 36, 3) := by decide +kernel
theorem dX5_goFrom_15 : decode cX5_goFrom 15 = .ok (.iload 4, 2) := by decide +kernel
theorem dX5_goFrom_17 : decode cX5_goFrom 17 = .ok (.iload 5, 2) := by decide +kernel
theorem dX5_goFrom_19 : decode cX5_goFrom 19 = .ok (.invokestatic 127, 3) := by decide +kernel
theorem dX5_goFrom_22 : decode cX5_goFrom 22 = .ok (.istore 6, 2) := by decide +kernel
theorem dX5_goFrom_24 : decode cX5_goFrom 24 = .ok (.iload 6, 2) := by decide +kernel
theorem dX5_goFrom_26 : decode cX5_goFrom 26 = .ok (.iconst (-1), 1) := by decide +kernel
theorem dX5_goFrom_27 : decode cX5_goFrom 27 = .ok (.if_icmp .eq 15, 3) := by decide +kernel
theorem dX5_goFrom_30 : decode cX5_goFrom 30 = .ok (.aload_n 0, 1) := by decide +kernel
theorem dX5_goFrom_31 : decode cX5_goFrom 31 = .ok (.iload_n 1, 1) := by decide +kernel
theorem dX5_goFrom_32 : decode cX5_goFrom 32 = .ok (.iload 4, 2) := by decide +kernel
theorem dX5_goFrom_34 : decode cX5_goFrom 34 = .ok (.isub, 1) := by decide +kernel
theorem dX5_goFrom_35 : decode cX5_goFrom 35 = .ok (.iload 6, 2) := by decide +kernel
theorem dX5_goFrom_37 : decode cX5_goFrom 37 = .ok (.iadd, 1) := by decide +kernel
theorem dX5_goFrom_38 : decode cX5_goFrom 38 = .ok (.iload_n 2, 1) := by decide +kernel
theorem dX5_goFrom_39 : decode cX5_goFrom 39 = .ok (.invokevirtual 120, 3) := by decide +kernel
theorem dX5_goFrom_42 : decode cX5_goFrom 42 = .ok (.iinc 5 1, 3) := by decide +kernel
theorem dX5_goFrom_45 : decode cX5_goFrom 45 = .ok (.goto (-36), 3) := by decide +kernel
theorem dX5_goFrom_48 : decode cX5_goFrom 48 = .ok (.iload_n 3, 1) := by decide +kernel
theorem dX5_goFrom_49 : decode cX5_goFrom 49 = .ok (.ifCond .eq 51, 3) := by decide +kernel
theorem dX5_goFrom_52 : decode cX5_goFrom 52 = .ok (.aload_n 0, 1) := by decide +kernel
theorem dX5_goFrom_53 : decode cX5_goFrom 53 = .ok (.iconst 3, 1) := by decide +kernel
theorem dX5_goFrom_54 : decode cX5_goFrom 54 = .ok (.iload 4, 2) := by decide +kernel
theorem dX5_goFrom_56 : decode cX5_goFrom 56 = .ok (.invokevirtual 75, 3) := by decide +kernel
theorem dX5_goFrom_59 : decode cX5_goFrom 59 = .ok (.ifCond .eq 41, 3) := by decide +kernel
theorem dX5_goFrom_62 : decode cX5_goFrom 62 = .ok (.aload_n 0, 1) := by decide +kernel
theorem dX5_goFrom_63 : decode cX5_goFrom 63 = .ok (.iconst 2, 1) := by decide +kernel
theorem dX5_goFrom_64 : decode cX5_goFrom 64 = .ok (.iload 4, 2) := by decide +kernel
theorem dX5_goFrom_66 : decode cX5_goFrom 66 = .ok (.invokevirtual 75, 3) := by decide +kernel
theorem dX5_goFrom_69 : decode cX5_goFrom 69 = .ok (.ifCond .eq 31, 3) := by decide +kernel
theorem dX5_goFrom_72 : decode cX5_goFrom 72 = .ok (.aload_n 0, 1) := by decide +kernel
theorem dX5_goFrom_73 : decode cX5_goFrom 73 = .ok (.iload 4, 2) := by decide +kernel
theorem dX5_goFrom_75 : decode cX5_goFrom 75 = .ok (.iload_n 2, 1) := by decide +kernel
theorem dX5_goFrom_76 : decode cX5_goFrom 76 = .ok (.invokevirtual 120, 3) := by decide +kernel
theorem dX5_goFrom_79 : decode cX5_goFrom 79 = .ok (.aload_n 0, 1) := by decide +kernel
theorem dX5_goFrom_80 : decode cX5_goFrom 80 = .ok (.bipush 64, 2) := by decide +kernel
theorem dX5_goFrom_82 : decode cX5_goFrom 82 = .ok (.iload 4, 2) := by decide +kernel
theorem dX5_goFrom_84 : decode cX5_goFrom 84 = .ok (.iadd, 1) := by decide +kernel
theorem dX5_goFrom_85 : decode cX5_goFrom 85 = .ok (.iload_n 2, 1) := by decide +kernel
theorem dX5_goFrom_86 : decode cX5_goFrom 86 = .ok (.invokevirtual 120, 3) := by decide +kernel
theorem dX5_goFrom_89 : decode cX5_goFrom 89 = .ok (.aload_n 0, 1) := by decide +kernel
theorem dX5_goFrom_90 : decode cX5_goFrom 90 = .ok (.sipush 128, 3) := by decide +kernel
theorem dX5_goFrom_93 : decode cX5_goFrom 93 = .ok (.iload 4, 2) := by decide +kernel
theorem dX5_goFrom_95 : decode cX5_goFrom 95 = .ok (.iadd, 1) := by decide +kernel
theorem dX5_goFrom_96 : decode cX5_goFrom 96 = .ok (.iload_n 2, 1) := by decide +kernel
theorem dX5_goFrom_97 : decode cX5_goFrom 97 = .ok (.invokevirtual 120, 3) := by decide +kernel
theorem dX5_goFrom_100 : decode cX5_goFrom 100 = .ok (.return_, 1) := by decide +kernel
def bX5_goFrom_9 (F : Nat) (x1 : Int32) (x2 : Int32) (x3 : Int32) (x4 : Int32) (kc_9 : (Int32 × zOS) → Option (zOS)) (x5 : Int32) (sD : zOS) : Option (zOS) := (if (4 : Int32) ≤ x5 then (if x3 = 0 then (some (sD)) else (Option.bind (fX5_isDrawn (3 : Int32) x4 sD) (fun r_2 : Int32 => (if r_2 = 0 then (some (sD)) else (Option.bind (fX5_isDrawn (2 : Int32) x4 sD) (fun r_4 : Int32 => (if r_4 = 0 then (some (sD)) else (Option.bind (fX5_take x4 x2 sD) (fun r_6 : zOS => (Option.bind (fX5_take ((64 : Int32) + x4) x2 r_6) (fun r_8 : zOS => (Option.bind (fX5_take ((128 : Int32) + x4) x2 r_8) (fun r_10 : zOS => (some (r_10))))))))))))))) else (Option.bind (fX5_beside x4 x5) (fun r_12 : Int32 => (if r_12 = (-1 : Int32) then (kc_9 ((x5 + 1), sD)) else (Option.bind (fX5_take ((x1 - x4) + r_12) x2 sD) (fun r_14 : zOS => (kc_9 ((x5 + 1), r_14))))))))
set_option maxRecDepth 20000 in
theorem vX5_goFrom_9 {X : zCx} {res : zOS} {F : Nat} {qD : Nat → Nat} {x1 : Int32} {x2 : Int32} {x3 : Int32} {x4 : Int32} {kc_9 : (Int32 × zOS) → Option (zOS)} (C : zC X RX5 cX5_goFrom 7 3 66) (hR : zR X none none [(5, qD, res)]) (hk_9 : ∀ (y5 : Int32) (tD : zOS), zJ X 7 res (kc_9 (y5, tD)) 9 [(0, (.ref (qD 0))), (1, (.int x1)), (2, (.int x2)), (3, (.int x3)), (4, (.int x4)), (5, (.int y5))] [] [(5, qD, tD)]) (x5 : Int32) (sD : zOS) : zJ X 7 res (bX5_goFrom_9 F x1 x2 x3 x4 kc_9 x5 sD) 9 [(0, (.ref (qD 0))), (1, (.int x1)), (2, (.int x2)), (3, (.int x3)), (4, (.int x4)), (5, (.int x5))] [] [(5, qD, sD)] := by
  unfold bX5_goFrom_9
  refine z_iload (pc := 9) 5 rfl C dX5_goFrom_9 ?_
  refine z_iconst (pc := 11) (4 : Int32) (by decide) C dX5_goFrom_11 ?_
  refine z_icmp_ge (pc := 12) 48 C dX5_goFrom_12 (by decide) ?_ ?_
  · refine z_iload_n (pc := 48) 3 rfl rfl C dX5_goFrom_48 ?_
    refine z_if_eq (pc := 49) 100 C dX5_goFrom_49 (by decide) ?_ ?_
    · exact z_return (pc := 100) C hR dX5_goFrom_100 (fun h => by subst h; exact ⟨rfl, rfl⟩)
    · refine z_aload_n (pc := 52) 0 rfl rfl C dX5_goFrom_52 ?_
      refine z_iconst (pc := 53) (3 : Int32) (by decide) C dX5_goFrom_53 ?_
      refine z_iload (pc := 54) 4 rfl C dX5_goFrom_54 ?_
      refine z_callV (pc := 56) (rf' := 0) (rl' := 0) (fX5_isDrawn (3 : Int32) x4 sD) [(.int (3 : Int32)), (.int x4)] [] [(5, qD, sD)] (fun r_2 => (some (.int r_2))) (fun r_2 => [(5, qD, sD)]) [] (fun r_2 => [(5, qD, sD)]) C dX5_goFrom_56 zy_X5_isDrawn zw_820 (fun _ hr9 => mX5_isDrawn  hr9) (by decide) rfl rfl (by decide) rfl (Nat.le_of_ble_eq_true rfl) (List.Perm.refl _) (fun _ => List.Perm.refl _) rfl (fun r_2 hr_3 => ?_)
      show zJ X 7 res _ 59 [(0, (.ref (qD 0))), (1, (.int x1)), (2, (.int x2)), (3, (.int x3)), (4, (.int x4)), (5, (.int x5))] [(.int r_2)] [(5, qD, sD)]
      refine z_if_eq (pc := 59) 100 C dX5_goFrom_59 (by decide) ?_ ?_
      · exact z_return (pc := 100) C hR dX5_goFrom_100 (fun h => by subst h; exact ⟨rfl, rfl⟩)
      · refine z_aload_n (pc := 62) 0 rfl rfl C dX5_goFrom_62 ?_
        refine z_iconst (pc := 63) (2 : Int32) (by decide) C dX5_goFrom_63 ?_
        refine z_iload (pc := 64) 4 rfl C dX5_goFrom_64 ?_
        refine z_callV (pc := 66) (rf' := 0) (rl' := 0) (fX5_isDrawn (2 : Int32) x4 sD) [(.int (2 : Int32)), (.int x4)] [] [(5, qD, sD)] (fun r_4 => (some (.int r_4))) (fun r_4 => [(5, qD, sD)]) [] (fun r_4 => [(5, qD, sD)]) C dX5_goFrom_66 zy_X5_isDrawn zw_820 (fun _ hr9 => mX5_isDrawn  hr9) (by decide) rfl rfl (by decide) rfl (Nat.le_of_ble_eq_true rfl) (List.Perm.refl _) (fun _ => List.Perm.refl _) rfl (fun r_4 hr_5 => ?_)
        show zJ X 7 res _ 69 [(0, (.ref (qD 0))), (1, (.int x1)), (2, (.int x2)), (3, (.int x3)), (4, (.int x4)), (5, (.int x5))] [(.int r_4)] [(5, qD, sD)]
        refine z_if_eq (pc := 69) 100 C dX5_goFrom_69 (by decide) ?_ ?_
        · exact z_return (pc := 100) C hR dX5_goFrom_100 (fun h => by subst h; exact ⟨rfl, rfl⟩)
        · refine z_aload_n (pc := 72) 0 rfl rfl C dX5_goFrom_72 ?_
          refine z_iload (pc := 73) 4 rfl C dX5_goFrom_73 ?_
          refine z_iload_n (pc := 75) 2 rfl rfl C dX5_goFrom_75 ?_
          refine z_callV (pc := 76) (rf' := 2) (rl' := 44) (fX5_take x4 x2 sD) [(.int x4), (.int x2)] [] [(5, qD, sD)] (fun r_6 => none) (fun r_6 => [(5, qD, r_6)]) [] (fun r_6 => [(5, qD, r_6)]) C dX5_goFrom_76 zy_X5_take zw_899 (fun _ hr9 => mX5_take  hr9) (by decide) rfl rfl (by decide) rfl (Nat.le_of_ble_eq_true rfl) (List.Perm.refl _) (fun _ => List.Perm.refl _) rfl (fun r_6 hr_7 => ?_)
          show zJ X 7 res _ 79 [(0, (.ref (qD 0))), (1, (.int x1)), (2, (.int x2)), (3, (.int x3)), (4, (.int x4)), (5, (.int x5))] [] [(5, qD, r_6)]
          refine z_aload_n (pc := 79) 0 rfl rfl C dX5_goFrom_79 ?_
          refine z_bipush (pc := 80) (64 : Int32) (by decide) C dX5_goFrom_80 ?_
          refine z_iload (pc := 82) 4 rfl C dX5_goFrom_82 ?_
          refine z_iadd (pc := 84) C dX5_goFrom_84 ?_
          refine z_iload_n (pc := 85) 2 rfl rfl C dX5_goFrom_85 ?_
          refine z_callV (pc := 86) (rf' := 2) (rl' := 44) (fX5_take ((64 : Int32) + x4) x2 r_6) [(.int ((64 : Int32) + x4)), (.int x2)] [] [(5, qD, r_6)] (fun r_8 => none) (fun r_8 => [(5, qD, r_8)]) [] (fun r_8 => [(5, qD, r_8)]) C dX5_goFrom_86 zy_X5_take zw_899 (fun _ hr9 => mX5_take  hr9) (by decide) rfl rfl (by decide) rfl (Nat.le_of_ble_eq_true rfl) (List.Perm.refl _) (fun _ => List.Perm.refl _) rfl (fun r_8 hr_9 => ?_)
          show zJ X 7 res _ 89 [(0, (.ref (qD 0))), (1, (.int x1)), (2, (.int x2)), (3, (.int x3)), (4, (.int x4)), (5, (.int x5))] [] [(5, qD, r_8)]
          refine z_aload_n (pc := 89) 0 rfl rfl C dX5_goFrom_89 ?_
          refine z_sipush (pc := 90) (128 : Int32) (by decide) C dX5_goFrom_90 ?_
          refine z_iload (pc := 93) 4 rfl C dX5_goFrom_93 ?_
          refine z_iadd (pc := 95) C dX5_goFrom_95 ?_
          refine z_iload_n (pc := 96) 2 rfl rfl C dX5_goFrom_96 ?_
          refine z_callV (pc := 97) (rf' := 2) (rl' := 44) (fX5_take ((128 : Int32) + x4) x2 r_8) [(.int ((128 : Int32) + x4)), (.int x2)] [] [(5, qD, r_8)] (fun r_10 => none) (fun r_10 => [(5, qD, r_10)]) [] (fun r_10 => [(5, qD, r_10)]) C dX5_goFrom_97 zy_X5_take zw_899 (fun _ hr9 => mX5_take  hr9) (by decide) rfl rfl (by decide) rfl (Nat.le_of_ble_eq_true rfl) (List.Perm.refl _) (fun _ => List.Perm.refl _) rfl (fun r_10 hr_11 => ?_)
          show zJ X 7 res _ 100 [(0, (.ref (qD 0))), (1, (.int x1)), (2, (.int x2)), (3, (.int x3)), (4, (.int x4)), (5, (.int x5))] [] [(5, qD, r_10)]
          exact z_return (pc := 100) C hR dX5_goFrom_100 (fun h => by subst h; exact ⟨rfl, rfl⟩)
  · refine z_iload (pc := 15) 4 rfl C dX5_goFrom_15 ?_
    refine z_iload (pc := 17) 5 rfl C dX5_goFrom_17 ?_
    refine z_callS (pc := 19) (rf' := 2) (rl' := 43) (fX5_beside x4 x5) [(.int x4), (.int x5)] [] [] (fun r_12 => (some (.int r_12))) (fun r_12 => []) [(5, qD, sD)] (fun r_12 => [(5, qD, sD)]) C dX5_goFrom_19 zy_X5_beside zw_907 (fun _ hr9 => mX5_beside  hr9) (by decide) rfl (Nat.le_of_ble_eq_true rfl) (List.Perm.refl _) (fun _ => List.Perm.refl _) rfl (fun r_12 hr_13 => ?_)
    show zJ X 7 res _ 22 [(0, (.ref (qD 0))), (1, (.int x1)), (2, (.int x2)), (3, (.int x3)), (4, (.int x4)), (5, (.int x5))] [(.int r_12)] [(5, qD, sD)]
    refine z_istore (pc := 22) [(0, (.ref (qD 0))), (1, (.int x1)), (2, (.int x2)), (3, (.int x3)), (4, (.int x4)), (5, (.int x5)), (6, (.int r_12))] [1, 2, 3, 4, 5, 6, 0] (by decide) rfl C dX5_goFrom_22 ?_
    refine z_iload (pc := 24) 6 rfl C dX5_goFrom_24 ?_
    refine z_iconst (pc := 26) (-1 : Int32) (by decide) C dX5_goFrom_26 ?_
    refine z_icmp_eq (pc := 27) 42 C dX5_goFrom_27 (by decide) ?_ ?_
    · refine z_iinc (pc := 42) (x5 + 1) 5 rfl rfl [(0, (.ref (qD 0))), (1, (.int x1)), (2, (.int x2)), (3, (.int x3)), (4, (.int x4)), (5, (.int (x5 + 1))), (6, (.int r_12))] [1, 2, 3, 4, 5, 0, 6] (by decide) rfl C dX5_goFrom_42 ?_
      refine z_goto (pc := 45) 9 C dX5_goFrom_45 (by decide) ?_
      refine z_lv [(0, (.ref (qD 0))), (1, (.int x1)), (2, (.int x2)), (3, (.int x3)), (4, (.int x4)), (5, (.int (x5 + 1)))] [0, 1, 2, 3, 4, 5] rfl ?_
      exact hk_9 _ _
    · refine z_aload_n (pc := 30) 0 rfl rfl C dX5_goFrom_30 ?_
      refine z_iload_n (pc := 31) 1 rfl rfl C dX5_goFrom_31 ?_
      refine z_iload (pc := 32) 4 rfl C dX5_goFrom_32 ?_
      refine z_isub (pc := 34) C dX5_goFrom_34 ?_
      refine z_iload (pc := 35) 6 rfl C dX5_goFrom_35 ?_
      refine z_iadd (pc := 37) C dX5_goFrom_37 ?_
      refine z_iload_n (pc := 38) 2 rfl rfl C dX5_goFrom_38 ?_
      refine z_callV (pc := 39) (rf' := 2) (rl' := 44) (fX5_take ((x1 - x4) + r_12) x2 sD) [(.int ((x1 - x4) + r_12)), (.int x2)] [] [(5, qD, sD)] (fun r_14 => none) (fun r_14 => [(5, qD, r_14)]) [] (fun r_14 => [(5, qD, r_14)]) C dX5_goFrom_39 zy_X5_take zw_899 (fun _ hr9 => mX5_take  hr9) (by decide) rfl rfl (by decide) rfl (Nat.le_of_ble_eq_true rfl) (List.Perm.refl _) (fun _ => List.Perm.refl _) rfl (fun r_14 hr_15 => ?_)
      show zJ X 7 res _ 42 [(0, (.ref (qD 0))), (1, (.int x1)), (2, (.int x2)), (3, (.int x3)), (4, (.int x4)), (5, (.int x5)), (6, (.int r_12))] [] [(5, qD, r_14)]
      refine z_iinc (pc := 42) (x5 + 1) 5 rfl rfl [(0, (.ref (qD 0))), (1, (.int x1)), (2, (.int x2)), (3, (.int x3)), (4, (.int x4)), (5, (.int (x5 + 1))), (6, (.int r_12))] [1, 2, 3, 4, 5, 0, 6] (by decide) rfl C dX5_goFrom_42 ?_
      refine z_goto (pc := 45) 9 C dX5_goFrom_45 (by decide) ?_
      refine z_lv [(0, (.ref (qD 0))), (1, (.int x1)), (2, (.int x2)), (3, (.int x3)), (4, (.int x4)), (5, (.int (x5 + 1)))] [0, 1, 2, 3, 4, 5] rfl ?_
      exact hk_9 _ _
def fX5_goFrom (F : Nat) (x1 : Int32) (x2 : Int32) (x3 : Int32) (sD : zOS) : Option (zOS) := (zdvk (64 : Int32) (zlet (x1 - x1 / (64 : Int32) * (64 : Int32)) (fun x4_1 : Int32 => (zit (P := Int32 × zOS) (R := zOS) (fun kc9 p9 => bX5_goFrom_9 F x1 x2 x3 x4_1 kc9 p9.1 p9.2) F ((0 : Int32), sD)))))
set_option maxRecDepth 20000 in
theorem wX5_goFrom {X : zCx} {res : zOS} {F : Nat} {qD : Nat → Nat} {x1 : Int32} {x2 : Int32} {x3 : Int32} {sD : zOS} (C : zC X RX5 cX5_goFrom 7 3 66) (hR : zR X none none [(5, qD, res)])  : zJ X 7 res (fX5_goFrom F x1 x2 x3 sD) 0 [(0, (.ref (qD 0))), (1, (.int x1)), (2, (.int x2)), (3, (.int x3))] [] [(5, qD, sD)] := by
  unfold fX5_goFrom
  refine z_iload_n (pc := 0) 1 rfl rfl C dX5_goFrom_0 ?_
  refine z_bipush (pc := 1) (64 : Int32) (by decide) C dX5_goFrom_1 ?_
  refine z_irem (pc := 3) C dX5_goFrom_3 ?_
  refine z_leti (fun x4_1 => ?_)
  refine z_istore (pc := 4) [(0, (.ref (qD 0))), (1, (.int x1)), (2, (.int x2)), (3, (.int x3)), (4, (.int x4_1))] [1, 2, 3, 4, 0] (by decide) rfl C dX5_goFrom_4 ?_
  refine z_iconst (pc := 6) (0 : Int32) (by decide) C dX5_goFrom_6 ?_
  refine z_istore (pc := 7) [(0, (.ref (qD 0))), (1, (.int x1)), (2, (.int x2)), (3, (.int x3)), (4, (.int x4_1)), (5, (.int (0 : Int32)))] [1, 2, 3, 4, 5, 0] (by decide) rfl C dX5_goFrom_7 ?_
  show zJ X 7 res _ 9 [(0, (.ref (qD 0))), (1, (.int x1)), (2, (.int x2)), (3, (.int x3)), (4, (.int x4_1)), (5, (.int (0 : Int32)))] [] [(5, qD, sD)]
  exact zit_J (P := Int32 × zOS) (B := (fun kc9 p9 => bX5_goFrom_9 F x1 x2 x3 x4_1 kc9 p9.1 p9.2)) (fun p9 => [(0, (.ref (qD 0))), (1, (.int x1)), (2, (.int x2)), (3, (.int x3)), (4, (.int x4_1)), (5, (.int p9.1))]) (fun p9 => [(5, qD, p9.2)]) (fun kc9 hk9 p9 => vX5_goFrom_9 C hR   (fun a0 a1 => hk9 (a0, a1)) p9.1 p9.2) F _
theorem mX5_goFrom {F : Nat} {qD : Nat → Nat} {x1 : Int32} {x2 : Int32} {x3 : Int32} {sD : zOS} {res : zOS}  (hf : fX5_goFrom F x1 x2 x3 sD = some res) : zM yX5_goFrom cX5_goFrom 7 none 3 66 [(.ref (qD 0)), (.int x1), (.int x2), (.int x3)] [(5, qD, sD)] none [(5, qD, res)] := zM_of (by decide +kernel) (Nat.le_of_ble_eq_true rfl) (fun X C hR => wX5_goFrom (F := F) C hR  hf)
theorem dX5_hang_0 : decode cX5_hang 0 = .ok (.iconst 0, 1) := by decide +kernel
theorem dX5_hang_1 : decode cX5_hang 1 = .ok (.istore_n 2, 1) := by decide +kernel
theorem dX5_hang_2 : decode cX5_hang 2 = .ok (.iconst 0, 1) := by decide +kernel
theorem dX5_hang_3 : decode cX5_hang 3 = .ok (.istore_n 3, 1) := by decide +kernel
theorem dX5_hang_4 : decode cX5_hang 4 = .ok (.iload_n 3, 1) := by decide +kernel
theorem dX5_hang_5 : decode cX5_hang 5 = .ok (.sipush 192, 3) := by decide +kernel
theorem dX5_hang_8 : decode cX5_hang 8 = .ok (.if_icmp .ge 16, 3) := by decide +kernel
theorem dX5_hang_11 : decode cX5_hang 11 = .ok (.aload_n 0, 1) := by decide +kernel
theorem dX5_hang_12 : decode cX5_hang 12 = .ok (.getfield 22, 3) := by decide +kernel
theorem dX5_hang_15 : decode cX5_hang 15 = .ok (.iload_n 3, 1) := by decide +kernel
theorem dX5_hang_16 : decode cX5_hang 16 = .ok (.iconst (-1), 1) := by decide +kernel
theorem dX5_hang_17 : decode cX5_hang 17 = .ok (.iastore, 1) := by decide +kernel
theorem dX5_hang_18 : decode cX5_hang 18 = .ok (.iinc 3 1, 3) := by decide +kernel
theorem dX5_hang_21 : decode cX5_hang 21 = .ok (.goto (-17), 3) := by decide +kernel
theorem dX5_hang_24 : decode cX5_hang 24 = .ok (.iconst 0, 1) := by decide +kernel
theorem dX5_hang_25 : decode cX5_hang 25 = .ok (.istore_n 3, 1) := by decide +kernel
theorem dX5_hang_26 : decode cX5_hang 26 = .ok (.iload_n 3, 1) := by decide +kernel
theorem dX5_hang_27 : decode cX5_hang 27 = .ok (.sipush 192, 3) := by decide +kernel
theorem dX5_hang_30 : decode cX5_hang 30 = .ok (.if_icmp .ge 72, 3) := by decide +kernel
theorem dX5_hang_33 : decode cX5_hang 33 = .ok (.aload_n 0, 1) := by decide +kernel
theorem dX5_hang_34 : decode cX5_hang 34 = .ok (.iload_n 3, 1) := by decide +kernel
theorem dX5_hang_35 : decode cX5_hang 35 = .ok (.invokevirtual 114, 3) := by decide +kernel
theorem dX5_hang_38 : decode cX5_hang 38 = .ok (.ifCond .eq 58, 3) := by decide +kernel
theorem dX5_hang_41 : decode cX5_hang 41 = .ok (.aload_n 0, 1) := by decide +kernel
theorem dX5_hang_42 : decode cX5_hang 42 = .ok (.getfield 22, 3) := by decide +kernel
theorem dX5_hang_45 : decode cX5_hang 45 = .ok (.iload_n 3, 1) := by decide +kernel
theorem dX5_hang_46 : decode cX5_hang 46 = .ok (.iaload, 1) := by decide +kernel
theorem dX5_hang_47 : decode cX5_hang 47 = .ok (.iconst (-1), 1) := by decide +kernel
theorem dX5_hang_48 : decode cX5_hang 48 = .ok (.if_icmp .ne 48, 3) := by decide +kernel
theorem dX5_hang_51 : decode cX5_hang 51 = .ok (.aload_n 0, 1) := by decide +kernel
theorem dX5_hang_52 : decode cX5_hang 52 = .ok (.iconst 0, 1) := by decide +kernel
theorem dX5_hang_53 : decode cX5_hang 53 = .ok (.putfield 117, 3) := by decide +kernel
theorem dX5_hang_56 : decode cX5_hang 56 = .ok (.aload_n 0, 1) := by decide +kernel
theorem dX5_hang_57 : decode cX5_hang 57 = .ok (.iload_n 3, 1) := by decide +kernel
theorem dX5_hang_58 : decode cX5_hang 58 = .ok (.iload_n 2, 1) := by decide +kernel
theorem dX5_hang_59 : decode cX5_hang 59 = .ok (.invokevirtual 120, 3) := by decide +kernel
theorem dX5_hang_62 : decode cX5_hang 62 = .ok (.iconst 0, 1) := by decide +kernel
theorem dX5_hang_63 : decode cX5_hang 63 = .ok (.istore 4, 2) := by decide +kernel
theorem dX5_hang_65 : decode cX5_hang 65 = .ok (.iload 4, 2) := by decide +kernel
theorem dX5_hang_67 : decode cX5_hang 67 = .ok (.aload_n 0, 1) := by decide +kernel
theorem dX5_hang_68 : decode cX5_hang 68 = .ok (.getfield 117, 3) := by decide +kernel
theorem dX5_hang_71 : decode cX5_hang 71 = .ok (.if_icmp .ge 22, 3) := by decide +kernel
theorem dX5_hang_74 : decode cX5_hang 74 = .ok (.aload_n 0, 1) := by decide +kernel
theorem dX5_hang_75 : decode cX5_hang 75 = .ok (.aload_n 0, 1) := by decide +kernel
theorem dX5_hang_76 : decode cX5_hang 76 = .ok (.getfield 28, 3) := by decide +kernel
theorem dX5_hang_79 : decode cX5_hang 79 = .ok (.iload 4, 2) := by decide +kernel
theorem dX5_hang_81 : decode cX5_hang 81 = .ok (.iaload, 1) := by decide +kernel
theorem dX5_hang_82 : decode cX5_hang 82 = .ok (.iload_n 2, 1) := by decide +kernel
theorem dX5_hang_83 : decode cX5_hang 83 = .ok (.iload_n 1, 1) := by decide +kernel
theorem dX5_hang_84 : decode cX5_hang 84 = .ok (.invokevirtual 123, 3) := by decide +kernel
theorem dX5_hang_87 : decode cX5_hang 87 = .ok (.iinc 4 1, 3) := by decide +kernel
theorem dX5_hang_90 : decode cX5_hang 90 = .ok (.goto (-25), 3) := by decide +kernel
theorem dX5_hang_93 : decode cX5_hang 93 = .ok (.iinc 2 1, 3) := by decide +kernel
theorem dX5_hang_96 : decode cX5_hang 96 = .ok (.iinc 3 1, 3) := by decide +kernel
theorem dX5_hang_99 : decode cX5_hang 99 = .ok (.goto (-73), 3) := by decide +kernel
theorem dX5_hang_102 : decode cX5_hang 102 = .ok (.iload_n 2, 1) := by decide +kernel
theorem dX5_hang_103 : decode cX5_hang 103 = .ok (.ireturn, 1) := by decide +kernel
def bX5_hang_65 (F : Nat) (kc_26 : (Int32 × Int32 × zOS) → Option (Int32 × zOS)) (x1 : Int32) (x2 : Int32) (x3 : Int32) (kc_65 : (Int32 × zOS) → Option (Int32 × zOS)) (x4 : Int32) (sD : zOS) : Option (Int32 × zOS) := (if (zF sD 12) ≤ x4 then (kc_26 ((x2 + 1), (x3 + 1), sD)) else (zchk x4 192 (Option.bind (fX5_goFrom F (zI sD 7 x4.toNatClampNeg) x2 x1 sD) (fun r_6 : zOS => (kc_65 ((x4 + 1), r_6))))))
set_option maxRecDepth 20000 in
theorem vX5_hang_65 {X : zCx} {res : Int32 × zOS} {F : Nat} {qD : Nat → Nat} {x1 : Int32} {x2 : Int32} {x3 : Int32} {kc_26 : (Int32 × Int32 × zOS) → Option (Int32 × zOS)} {kc_65 : (Int32 × zOS) → Option (Int32 × zOS)} (C : zC X RX5 cX5_hang 5 4 92) (hR : zR X (some .int) (some (.int res.1)) [(5, qD, res.2)]) (hk_26 : ∀ (y2 : Int32) (y3 : Int32) (tD : zOS), zJ X 5 res (kc_26 (y2, y3, tD)) 26 [(0, (.ref (qD 0))), (1, (.int x1)), (2, (.int y2)), (3, (.int y3))] [] [(5, qD, tD)]) (hk_65 : ∀ (y4 : Int32) (tD : zOS), zJ X 5 res (kc_65 (y4, tD)) 65 [(0, (.ref (qD 0))), (1, (.int x1)), (2, (.int x2)), (3, (.int x3)), (4, (.int y4))] [] [(5, qD, tD)]) (x4 : Int32) (sD : zOS) : zJ X 5 res (bX5_hang_65 F kc_26 x1 x2 x3 kc_65 x4 sD) 65 [(0, (.ref (qD 0))), (1, (.int x1)), (2, (.int x2)), (3, (.int x3)), (4, (.int x4))] [] [(5, qD, sD)] := by
  unfold bX5_hang_65
  refine z_iload (pc := 65) 4 rfl C dX5_hang_65 ?_
  refine z_aload_n (pc := 67) 0 rfl rfl C dX5_hang_67 ?_
  refine z_getI (pc := 68) 0 12 C dX5_hang_68 rfl (by decide) (by decide) rfl zw_727 ?_
  refine z_icmp_ge (pc := 71) 93 C dX5_hang_71 (by decide) ?_ ?_
  · refine z_iinc (pc := 93) (x2 + 1) 2 rfl rfl [(0, (.ref (qD 0))), (1, (.int x1)), (2, (.int (x2 + 1))), (3, (.int x3)), (4, (.int x4))] [1, 2, 0, 3, 4] (by decide) rfl C dX5_hang_93 ?_
    refine z_iinc (pc := 96) (x3 + 1) 3 rfl rfl [(0, (.ref (qD 0))), (1, (.int x1)), (2, (.int (x2 + 1))), (3, (.int (x3 + 1))), (4, (.int x4))] [1, 2, 3, 0, 4] (by decide) rfl C dX5_hang_96 ?_
    refine z_goto (pc := 99) 26 C dX5_hang_99 (by decide) ?_
    refine z_lv [(0, (.ref (qD 0))), (1, (.int x1)), (2, (.int (x2 + 1))), (3, (.int (x3 + 1)))] [0, 1, 2, 3] rfl ?_
    exact hk_26 _ _ _
  · refine z_aload_n (pc := 74) 0 rfl rfl C dX5_hang_74 ?_
    refine z_aload_n (pc := 75) 0 rfl rfl C dX5_hang_75 ?_
    refine z_getR (pc := 76) 0 11 7 C dX5_hang_76 rfl (by decide) (by decide) rfl zw_726 ?_
    refine z_iload (pc := 79) 4 rfl C dX5_hang_79 ?_
    refine z_iald (pc := 81) 0 C dX5_hang_81 rfl (by unfold zAr; decide) ?_
    refine z_iload_n (pc := 82) 2 rfl rfl C dX5_hang_82 ?_
    refine z_iload_n (pc := 83) 1 rfl rfl C dX5_hang_83 ?_
    refine z_callV (pc := 84) (rf' := 3) (rl' := 66) (fX5_goFrom F (zI sD 7 x4.toNatClampNeg) x2 x1 sD) [(.int (zI sD 7 x4.toNatClampNeg)), (.int x2), (.int x1)] [] [(5, qD, sD)] (fun r_6 => none) (fun r_6 => [(5, qD, r_6)]) [] (fun r_6 => [(5, qD, r_6)]) C dX5_hang_84 zy_X5_goFrom zw_903 (fun _ hr9 => mX5_goFrom  hr9) (by decide) rfl rfl (by decide) rfl (Nat.le_of_ble_eq_true rfl) (List.Perm.refl _) (fun _ => List.Perm.refl _) rfl (fun r_6 hr_7 => ?_)
    show zJ X 5 res _ 87 [(0, (.ref (qD 0))), (1, (.int x1)), (2, (.int x2)), (3, (.int x3)), (4, (.int x4))] [] [(5, qD, r_6)]
    refine z_iinc (pc := 87) (x4 + 1) 4 rfl rfl [(0, (.ref (qD 0))), (1, (.int x1)), (2, (.int x2)), (3, (.int x3)), (4, (.int (x4 + 1)))] [1, 2, 3, 4, 0] (by decide) rfl C dX5_hang_87 ?_
    refine z_goto (pc := 90) 65 C dX5_hang_90 (by decide) ?_
    exact hk_65 _ _
def bX5_hang_26 (F : Nat) (x1 : Int32) (kc_26 : (Int32 × Int32 × zOS) → Option (Int32 × zOS)) (x2 : Int32) (x3 : Int32) (sD : zOS) : Option (Int32 × zOS) := (if (192 : Int32) ≤ x3 then (some (x2, sD)) else (Option.bind (fX5_isWire x3 sD) (fun r_1 : Int32 => (if r_1 = 0 then (kc_26 (x2, (x3 + 1), sD)) else (zchk x3 192 (if (zI sD 5 x3.toNatClampNeg) = (-1 : Int32) then (zlet (zsF sD 12 (0 : Int32)) (fun sD_3 : zOS => (Option.bind (fX5_take x3 x2 sD_3) (fun r_4 : zOS => (zit (P := Int32 × zOS) (R := Int32 × zOS) (fun kc9 p9 => bX5_hang_65 F kc_26 x1 x2 x3 kc9 p9.1 p9.2) F ((0 : Int32), r_4)))))) else (kc_26 (x2, (x3 + 1), sD))))))))
set_option maxRecDepth 20000 in
theorem vX5_hang_26 {X : zCx} {res : Int32 × zOS} {F : Nat} {qD : Nat → Nat} {x1 : Int32} {kc_26 : (Int32 × Int32 × zOS) → Option (Int32 × zOS)} (C : zC X RX5 cX5_hang 5 4 92) (hR : zR X (some .int) (some (.int res.1)) [(5, qD, res.2)]) (hk_26 : ∀ (y2 : Int32) (y3 : Int32) (tD : zOS), zJ X 5 res (kc_26 (y2, y3, tD)) 26 [(0, (.ref (qD 0))), (1, (.int x1)), (2, (.int y2)), (3, (.int y3))] [] [(5, qD, tD)]) (x2 : Int32) (x3 : Int32) (sD : zOS) : zJ X 5 res (bX5_hang_26 F x1 kc_26 x2 x3 sD) 26 [(0, (.ref (qD 0))), (1, (.int x1)), (2, (.int x2)), (3, (.int x3))] [] [(5, qD, sD)] := by
  unfold bX5_hang_26
  refine z_iload_n (pc := 26) 3 rfl rfl C dX5_hang_26 ?_
  refine z_sipush (pc := 27) (192 : Int32) (by decide) C dX5_hang_27 ?_
  refine z_icmp_ge (pc := 30) 102 C dX5_hang_30 (by decide) ?_ ?_
  · refine z_iload_n (pc := 102) 2 rfl rfl C dX5_hang_102 ?_
    exact z_ireturn (pc := 103) C hR dX5_hang_103 (fun h => by subst h; exact ⟨rfl, rfl⟩)
  · refine z_aload_n (pc := 33) 0 rfl rfl C dX5_hang_33 ?_
    refine z_iload_n (pc := 34) 3 rfl rfl C dX5_hang_34 ?_
    refine z_callV (pc := 35) (rf' := 1) (rl' := 22) (fX5_isWire x3 sD) [(.int x3)] [] [(5, qD, sD)] (fun r_1 => (some (.int r_1))) (fun r_1 => [(5, qD, sD)]) [] (fun r_1 => [(5, qD, sD)]) C dX5_hang_35 zy_X5_isWire zw_895 (fun _ hr9 => mX5_isWire  hr9) (by decide) rfl rfl (by decide) rfl (Nat.le_of_ble_eq_true rfl) (List.Perm.refl _) (fun _ => List.Perm.refl _) rfl (fun r_1 hr_2 => ?_)
    show zJ X 5 res _ 38 [(0, (.ref (qD 0))), (1, (.int x1)), (2, (.int x2)), (3, (.int x3))] [(.int r_1)] [(5, qD, sD)]
    refine z_if_eq (pc := 38) 96 C dX5_hang_38 (by decide) ?_ ?_
    · refine z_iinc (pc := 96) (x3 + 1) 3 rfl rfl [(0, (.ref (qD 0))), (1, (.int x1)), (2, (.int x2)), (3, (.int (x3 + 1)))] [1, 2, 3, 0] (by decide) rfl C dX5_hang_96 ?_
      refine z_goto (pc := 99) 26 C dX5_hang_99 (by decide) ?_
      exact hk_26 _ _ _
    · refine z_aload_n (pc := 41) 0 rfl rfl C dX5_hang_41 ?_
      refine z_getR (pc := 42) 0 6 5 C dX5_hang_42 rfl (by decide) (by decide) rfl zw_721 ?_
      refine z_iload_n (pc := 45) 3 rfl rfl C dX5_hang_45 ?_
      refine z_iald (pc := 46) 0 C dX5_hang_46 rfl (by unfold zAr; decide) ?_
      refine z_iconst (pc := 47) (-1 : Int32) (by decide) C dX5_hang_47 ?_
      refine z_icmp_ne (pc := 48) 96 C dX5_hang_48 (by decide) ?_ ?_
      · refine z_aload_n (pc := 51) 0 rfl rfl C dX5_hang_51 ?_
        refine z_iconst (pc := 52) (0 : Int32) (by decide) C dX5_hang_52 ?_
        refine z_putI (pc := 53) 0 12 C dX5_hang_53 rfl (by decide) (by decide) rfl zw_727 rfl rfl rfl [(5, qD, (zsF sD 12 (0 : Int32)))] rfl ?_
        refine z_letc (fun z9 => [(5, qD, z9)]) (fun sD_3 => ?_)
        refine z_aload_n (pc := 56) 0 rfl rfl C dX5_hang_56 ?_
        refine z_iload_n (pc := 57) 3 rfl rfl C dX5_hang_57 ?_
        refine z_iload_n (pc := 58) 2 rfl rfl C dX5_hang_58 ?_
        refine z_callV (pc := 59) (rf' := 2) (rl' := 44) (fX5_take x3 x2 sD_3) [(.int x3), (.int x2)] [] [(5, qD, sD_3)] (fun r_4 => none) (fun r_4 => [(5, qD, r_4)]) [] (fun r_4 => [(5, qD, r_4)]) C dX5_hang_59 zy_X5_take zw_899 (fun _ hr9 => mX5_take  hr9) (by decide) rfl rfl (by decide) rfl (Nat.le_of_ble_eq_true rfl) (List.Perm.refl _) (fun _ => List.Perm.refl _) rfl (fun r_4 hr_5 => ?_)
        show zJ X 5 res _ 62 [(0, (.ref (qD 0))), (1, (.int x1)), (2, (.int x2)), (3, (.int x3))] [] [(5, qD, r_4)]
        refine z_iconst (pc := 62) (0 : Int32) (by decide) C dX5_hang_62 ?_
        refine z_istore (pc := 63) [(0, (.ref (qD 0))), (1, (.int x1)), (2, (.int x2)), (3, (.int x3)), (4, (.int (0 : Int32)))] [1, 2, 3, 4, 0] (by decide) rfl C dX5_hang_63 ?_
        show zJ X 5 res _ 65 [(0, (.ref (qD 0))), (1, (.int x1)), (2, (.int x2)), (3, (.int x3)), (4, (.int (0 : Int32)))] [] [(5, qD, r_4)]
        exact zit_J (P := Int32 × zOS) (B := (fun kc9 p9 => bX5_hang_65 F kc_26 x1 x2 x3 kc9 p9.1 p9.2)) (fun p9 => [(0, (.ref (qD 0))), (1, (.int x1)), (2, (.int x2)), (3, (.int x3)), (4, (.int p9.1))]) (fun p9 => [(5, qD, p9.2)]) (fun kc9 hk9 p9 => vX5_hang_65 C hR  hk_26 (fun a0 a1 => hk9 (a0, a1)) p9.1 p9.2) F _
      · refine z_iinc (pc := 96) (x3 + 1) 3 rfl rfl [(0, (.ref (qD 0))), (1, (.int x1)), (2, (.int x2)), (3, (.int (x3 + 1)))] [1, 2, 3, 0] (by decide) rfl C dX5_hang_96 ?_
        refine z_goto (pc := 99) 26 C dX5_hang_99 (by decide) ?_
        exact hk_26 _ _ _
def bX5_hang_4 (F : Nat) (x1 : Int32) (x2 : Int32) (kc_4 : (Int32 × zOS) → Option (Int32 × zOS)) (x3 : Int32) (sD : zOS) : Option (Int32 × zOS) := (if (192 : Int32) ≤ x3 then (zit (P := Int32 × Int32 × zOS) (R := Int32 × zOS) (fun kc9 p9 => bX5_hang_26 F x1 kc9 p9.1 p9.2.1 p9.2.2) F (x2, (0 : Int32), sD)) else (zchk x3 192 (zlet (zsI sD 5 (upd (zI sD 5) x3.toNatClampNeg (-1 : Int32))) (fun sD_8 : zOS => (kc_4 ((x3 + 1), sD_8))))))
set_option maxRecDepth 20000 in
theorem vX5_hang_4 {X : zCx} {res : Int32 × zOS} {F : Nat} {qD : Nat → Nat} {x1 : Int32} {x2 : Int32} {kc_4 : (Int32 × zOS) → Option (Int32 × zOS)} (C : zC X RX5 cX5_hang 5 4 92) (hR : zR X (some .int) (some (.int res.1)) [(5, qD, res.2)]) (hk_4 : ∀ (y3 : Int32) (tD : zOS), zJ X 5 res (kc_4 (y3, tD)) 4 [(0, (.ref (qD 0))), (1, (.int x1)), (2, (.int x2)), (3, (.int y3))] [] [(5, qD, tD)]) (x3 : Int32) (sD : zOS) : zJ X 5 res (bX5_hang_4 F x1 x2 kc_4 x3 sD) 4 [(0, (.ref (qD 0))), (1, (.int x1)), (2, (.int x2)), (3, (.int x3))] [] [(5, qD, sD)] := by
  unfold bX5_hang_4
  refine z_iload_n (pc := 4) 3 rfl rfl C dX5_hang_4 ?_
  refine z_sipush (pc := 5) (192 : Int32) (by decide) C dX5_hang_5 ?_
  refine z_icmp_ge (pc := 8) 24 C dX5_hang_8 (by decide) ?_ ?_
  · refine z_iconst (pc := 24) (0 : Int32) (by decide) C dX5_hang_24 ?_
    refine z_istore_n (pc := 25) [(0, (.ref (qD 0))), (1, (.int x1)), (2, (.int x2)), (3, (.int (0 : Int32)))] [1, 2, 3, 0] (by decide) rfl rfl C dX5_hang_25 ?_
    show zJ X 5 res _ 26 [(0, (.ref (qD 0))), (1, (.int x1)), (2, (.int x2)), (3, (.int (0 : Int32)))] [] [(5, qD, sD)]
    exact zit_J (P := Int32 × Int32 × zOS) (B := (fun kc9 p9 => bX5_hang_26 F x1 kc9 p9.1 p9.2.1 p9.2.2)) (fun p9 => [(0, (.ref (qD 0))), (1, (.int x1)), (2, (.int p9.1)), (3, (.int p9.2.1))]) (fun p9 => [(5, qD, p9.2.2)]) (fun kc9 hk9 p9 => vX5_hang_26 C hR   (fun a0 a1 a2 => hk9 (a0, a1, a2)) p9.1 p9.2.1 p9.2.2) F _
  · refine z_aload_n (pc := 11) 0 rfl rfl C dX5_hang_11 ?_
    refine z_getR (pc := 12) 0 6 5 C dX5_hang_12 rfl (by decide) (by decide) rfl zw_721 ?_
    refine z_iload_n (pc := 15) 3 rfl rfl C dX5_hang_15 ?_
    refine z_iconst (pc := 16) (-1 : Int32) (by decide) C dX5_hang_16 ?_
    refine z_iast (pc := 17) 0 C dX5_hang_17 rfl (by unfold zAr; decide) [(5, qD, (zsI sD 5 (upd (zI sD 5) x3.toNatClampNeg (-1 : Int32))))] rfl ?_
    refine z_letc (fun z9 => [(5, qD, z9)]) (fun sD_8 => ?_)
    refine z_iinc (pc := 18) (x3 + 1) 3 rfl rfl [(0, (.ref (qD 0))), (1, (.int x1)), (2, (.int x2)), (3, (.int (x3 + 1)))] [1, 2, 3, 0] (by decide) rfl C dX5_hang_18 ?_
    refine z_goto (pc := 21) 4 C dX5_hang_21 (by decide) ?_
    exact hk_4 _ _
def fX5_hang (F : Nat) (x1 : Int32) (sD : zOS) : Option (Int32 × zOS) := (zit (P := Int32 × zOS) (R := Int32 × zOS) (fun kc9 p9 => bX5_hang_4 F x1 (0 : Int32) kc9 p9.1 p9.2) F ((0 : Int32), sD))
set_option maxRecDepth 20000 in
theorem wX5_hang {X : zCx} {res : Int32 × zOS} {F : Nat} {qD : Nat → Nat} {x1 : Int32} {sD : zOS} (C : zC X RX5 cX5_hang 5 4 92) (hR : zR X (some .int) (some (.int res.1)) [(5, qD, res.2)])  : zJ X 5 res (fX5_hang F x1 sD) 0 [(0, (.ref (qD 0))), (1, (.int x1))] [] [(5, qD, sD)] := by
  unfold fX5_hang
  refine z_iconst (pc := 0) (0 : Int32) (by decide) C dX5_hang_0 ?_
  refine z_istore_n (pc := 1) [(0, (.ref (qD 0))), (1, (.int x1)), (2, (.int (0 : Int32)))] [1, 2, 0] (by decide) rfl rfl C dX5_hang_1 ?_
  refine z_iconst (pc := 2) (0 : Int32) (by decide) C dX5_hang_2 ?_
  refine z_istore_n (pc := 3) [(0, (.ref (qD 0))), (1, (.int x1)), (2, (.int (0 : Int32))), (3, (.int (0 : Int32)))] [1, 2, 3, 0] (by decide) rfl rfl C dX5_hang_3 ?_
  show zJ X 5 res _ 4 [(0, (.ref (qD 0))), (1, (.int x1)), (2, (.int (0 : Int32))), (3, (.int (0 : Int32)))] [] [(5, qD, sD)]
  exact zit_J (P := Int32 × zOS) (B := (fun kc9 p9 => bX5_hang_4 F x1 (0 : Int32) kc9 p9.1 p9.2)) (fun p9 => [(0, (.ref (qD 0))), (1, (.int x1)), (2, (.int (0 : Int32))), (3, (.int p9.1))]) (fun p9 => [(5, qD, p9.2)]) (fun kc9 hk9 p9 => vX5_hang_4 C hR   (fun a0 a1 => hk9 (a0, a1)) p9.1 p9.2) F _
theorem mX5_hang {F : Nat} {qD : Nat → Nat} {x1 : Int32} {sD : zOS} {res : Int32 × zOS}  (hf : fX5_hang F x1 sD = some res) : zM yX5_hang cX5_hang 5 (some .int) 4 92 [(.ref (qD 0)), (.int x1)] [(5, qD, sD)] (some (.int res.1)) [(5, qD, res.2)] := zM_of (by decide +kernel) (Nat.le_of_ble_eq_true rfl) (fun X C hR => wX5_hang (F := F) C hR  hf)
theorem dX5_goGate_0 : decode cX5_goGate 0 = .ok (.iconst 0, 1) := by decide +kernel
theorem dX5_goGate_1 : decode cX5_goGate 1 = .ok (.istore_n 2, 1) := by decide +kernel
theorem dX5_goGate_2 : decode cX5_goGate 2 = .ok (.iload_n 2, 1) := by decide +kernel
theorem dX5_goGate_3 : decode cX5_goGate 3 = .ok (.iconst 4, 1) := by decide +kernel
theorem dX5_goGate_4 : decode cX5_goGate 4 = .ok (.if_icmp .ge 68, 3) := by decide +kernel
theorem dX5_goGate_7 : decode cX5_goGate 7 = .ok (.iload_n 1, 1) := by decide +kernel
theorem dX5_goGate_8 : decode cX5_goGate 8 = .ok (.iload_n 2, 1) := by decide +kernel
theorem dX5_goGate_9 : decode cX5_goGate 9 = .ok (.invokestatic 127, 3) := by decide +kernel
theorem dX5_goGate_12 : decode cX5_goGate 12 = .ok (.istore_n 3, 1) := by decide +kernel
theorem dX5_goGate_13 : decode cX5_goGate 13 = .ok (.iload_n 3, 1) := by decide +kernel
theorem dX5_goGate_14 : decode cX5_goGate 14 = .ok (.iconst (-1), 1) := by decide +kernel
theorem dX5_goGate_15 : decode cX5_goGate 15 = .ok (.if_icmp .eq 51, 3) := by decide +kernel
theorem dX5_goGate_18 : decode cX5_goGate 18 = .ok (.aload_n 0, 1) := by decide +kernel
theorem dX5_goGate_19 : decode cX5_goGate 19 = .ok (.iload_n 3, 1) := by decide +kernel
theorem dX5_goGate_20 : decode cX5_goGate 20 = .ok (.invokevirtual 134, 3) := by decide +kernel
theorem dX5_goGate_23 : decode cX5_goGate 23 = .ok (.ifCond .eq 43, 3) := by decide +kernel
theorem dX5_goGate_26 : decode cX5_goGate 26 = .ok (.aload_n 0, 1) := by decide +kernel
theorem dX5_goGate_27 : decode cX5_goGate 27 = .ok (.getfield 25, 3) := by decide +kernel
theorem dX5_goGate_30 : decode cX5_goGate 30 = .ok (.iload_n 3, 1) := by decide +kernel
theorem dX5_goGate_31 : decode cX5_goGate 31 = .ok (.iaload, 1) := by decide +kernel
theorem dX5_goGate_32 : decode cX5_goGate 32 = .ok (.iconst (-1), 1) := by decide +kernel
theorem dX5_goGate_33 : decode cX5_goGate 33 = .ok (.if_icmp .ne 33, 3) := by decide +kernel
theorem dX5_goGate_36 : decode cX5_goGate 36 = .ok (.aload_n 0, 1) := by decide +kernel
theorem dX5_goGate_37 : decode cX5_goGate 37 = .ok (.getfield 25, 3) := by decide +kernel
theorem dX5_goGate_40 : decode cX5_goGate 40 = .ok (.iload_n 3, 1) := by decide +kernel
theorem dX5_goGate_41 : decode cX5_goGate 41 = .ok (.aload_n 0, 1) := by decide +kernel
theorem dX5_goGate_42 : decode cX5_goGate 42 = .ok (.getfield 131, 3) := by decide +kernel
theorem dX5_goGate_45 : decode cX5_goGate 45 = .ok (.iastore, 1) := by decide +kernel
theorem dX5_goGate_46 : decode cX5_goGate 46 = .ok (.aload_n 0, 1) := by decide +kernel
theorem dX5_goGate_47 : decode cX5_goGate 47 = .ok (.getfield 28, 3) := by decide +kernel
theorem dX5_goGate_50 : decode cX5_goGate 50 = .ok (.aload_n 0, 1) := by decide +kernel
theorem dX5_goGate_51 : decode cX5_goGate 51 = .ok (.getfield 117, 3) := by decide +kernel
theorem dX5_goGate_54 : decode cX5_goGate 54 = .ok (.iload_n 3, 1) := by decide +kernel
theorem dX5_goGate_55 : decode cX5_goGate 55 = .ok (.iastore, 1) := by decide +kernel
theorem dX5_goGate_56 : decode cX5_goGate 56 = .ok (.aload_n 0, 1) := by decide +kernel
theorem dX5_goGate_57 : decode cX5_goGate 57 = .ok (.dup, 1) := by decide +kernel
theorem dX5_goGate_58 : decode cX5_goGate 58 = .ok (.getfield 117, 3) := by decide +kernel
theorem dX5_goGate_61 : decode cX5_goGate 61 = .ok (.iconst 1, 1) := by decide +kernel
theorem dX5_goGate_62 : decode cX5_goGate 62 = .ok (.iadd, 1) := by decide +kernel
theorem dX5_goGate_63 : decode cX5_goGate 63 = .ok (.putfield 117, 3) := by decide +kernel
theorem dX5_goGate_66 : decode cX5_goGate 66 = .ok (.iinc 2 1, 3) := by decide +kernel
theorem dX5_goGate_69 : decode cX5_goGate 69 = .ok (.goto (-67), 3) := by decide +kernel
theorem dX5_goGate_72 : decode cX5_goGate 72 = .ok (.return_, 1) := by decide +kernel
def bX5_goGate_2 (F : Nat) (x1 : Int32) (kc_2 : (Int32 × zOS) → Option (zOS)) (x2 : Int32) (sD : zOS) : Option (zOS) := (if (4 : Int32) ≤ x2 then (some (sD)) else (Option.bind (fX5_beside x1 x2) (fun r_1 : Int32 => (if r_1 = (-1 : Int32) then (kc_2 ((x2 + 1), sD)) else (Option.bind (fX5_isGateCell r_1 sD) (fun r_3 : Int32 => (if r_3 = 0 then (kc_2 ((x2 + 1), sD)) else (zchk r_1 64 (if (zI sD 6 r_1.toNatClampNeg) = (-1 : Int32) then (zchk r_1 64 (zlet (zsI sD 6 (upd (zI sD 6) r_1.toNatClampNeg (zF sD 10))) (fun sD_5 : zOS => (zchk (zF sD_5 12) 192 (zlet (zsI sD_5 7 (upd (zI sD_5 7) (zF sD_5 12).toNatClampNeg r_1)) (fun sD_6 : zOS => (zlet (zsF sD_6 12 ((zF sD_6 12) + (1 : Int32))) (fun sD_7 : zOS => (kc_2 ((x2 + 1), sD_7)))))))))) else (kc_2 ((x2 + 1), sD)))))))))))
set_option maxRecDepth 20000 in
theorem vX5_goGate_2 {X : zCx} {res : zOS} {F : Nat} {qD : Nat → Nat} {x1 : Int32} {kc_2 : (Int32 × zOS) → Option (zOS)} (C : zC X RX5 cX5_goGate 4 3 66) (hR : zR X none none [(5, qD, res)]) (hk_2 : ∀ (y2 : Int32) (tD : zOS), zJ X 4 res (kc_2 (y2, tD)) 2 [(0, (.ref (qD 0))), (1, (.int x1)), (2, (.int y2))] [] [(5, qD, tD)]) (x2 : Int32) (sD : zOS) : zJ X 4 res (bX5_goGate_2 F x1 kc_2 x2 sD) 2 [(0, (.ref (qD 0))), (1, (.int x1)), (2, (.int x2))] [] [(5, qD, sD)] := by
  unfold bX5_goGate_2
  refine z_iload_n (pc := 2) 2 rfl rfl C dX5_goGate_2 ?_
  refine z_iconst (pc := 3) (4 : Int32) (by decide) C dX5_goGate_3 ?_
  refine z_icmp_ge (pc := 4) 72 C dX5_goGate_4 (by decide) ?_ ?_
  · exact z_return (pc := 72) C hR dX5_goGate_72 (fun h => by subst h; exact ⟨rfl, rfl⟩)
  · refine z_iload_n (pc := 7) 1 rfl rfl C dX5_goGate_7 ?_
    refine z_iload_n (pc := 8) 2 rfl rfl C dX5_goGate_8 ?_
    refine z_callS (pc := 9) (rf' := 2) (rl' := 43) (fX5_beside x1 x2) [(.int x1), (.int x2)] [] [] (fun r_1 => (some (.int r_1))) (fun r_1 => []) [(5, qD, sD)] (fun r_1 => [(5, qD, sD)]) C dX5_goGate_9 zy_X5_beside zw_907 (fun _ hr9 => mX5_beside  hr9) (by decide) rfl (Nat.le_of_ble_eq_true rfl) (List.Perm.refl _) (fun _ => List.Perm.refl _) rfl (fun r_1 hr_2 => ?_)
    show zJ X 4 res _ 12 [(0, (.ref (qD 0))), (1, (.int x1)), (2, (.int x2))] [(.int r_1)] [(5, qD, sD)]
    refine z_istore_n (pc := 12) [(0, (.ref (qD 0))), (1, (.int x1)), (2, (.int x2)), (3, (.int r_1))] [1, 2, 3, 0] (by decide) rfl rfl C dX5_goGate_12 ?_
    refine z_iload_n (pc := 13) 3 rfl rfl C dX5_goGate_13 ?_
    refine z_iconst (pc := 14) (-1 : Int32) (by decide) C dX5_goGate_14 ?_
    refine z_icmp_eq (pc := 15) 66 C dX5_goGate_15 (by decide) ?_ ?_
    · refine z_iinc (pc := 66) (x2 + 1) 2 rfl rfl [(0, (.ref (qD 0))), (1, (.int x1)), (2, (.int (x2 + 1))), (3, (.int r_1))] [1, 2, 0, 3] (by decide) rfl C dX5_goGate_66 ?_
      refine z_goto (pc := 69) 2 C dX5_goGate_69 (by decide) ?_
      refine z_lv [(0, (.ref (qD 0))), (1, (.int x1)), (2, (.int (x2 + 1)))] [0, 1, 2] rfl ?_
      exact hk_2 _ _
    · refine z_aload_n (pc := 18) 0 rfl rfl C dX5_goGate_18 ?_
      refine z_iload_n (pc := 19) 3 rfl rfl C dX5_goGate_19 ?_
      refine z_callV (pc := 20) (rf' := 1) (rl' := 22) (fX5_isGateCell r_1 sD) [(.int r_1)] [] [(5, qD, sD)] (fun r_3 => (some (.int r_3))) (fun r_3 => [(5, qD, sD)]) [] (fun r_3 => [(5, qD, sD)]) C dX5_goGate_20 zy_X5_isGateCell zw_914 (fun _ hr9 => mX5_isGateCell  hr9) (by decide) rfl rfl (by decide) rfl (Nat.le_of_ble_eq_true rfl) (List.Perm.refl _) (fun _ => List.Perm.refl _) rfl (fun r_3 hr_4 => ?_)
      show zJ X 4 res _ 23 [(0, (.ref (qD 0))), (1, (.int x1)), (2, (.int x2)), (3, (.int r_1))] [(.int r_3)] [(5, qD, sD)]
      refine z_if_eq (pc := 23) 66 C dX5_goGate_23 (by decide) ?_ ?_
      · refine z_iinc (pc := 66) (x2 + 1) 2 rfl rfl [(0, (.ref (qD 0))), (1, (.int x1)), (2, (.int (x2 + 1))), (3, (.int r_1))] [1, 2, 0, 3] (by decide) rfl C dX5_goGate_66 ?_
        refine z_goto (pc := 69) 2 C dX5_goGate_69 (by decide) ?_
        refine z_lv [(0, (.ref (qD 0))), (1, (.int x1)), (2, (.int (x2 + 1)))] [0, 1, 2] rfl ?_
        exact hk_2 _ _
      · refine z_aload_n (pc := 26) 0 rfl rfl C dX5_goGate_26 ?_
        refine z_getR (pc := 27) 0 9 6 C dX5_goGate_27 rfl (by decide) (by decide) rfl zw_724 ?_
        refine z_iload_n (pc := 30) 3 rfl rfl C dX5_goGate_30 ?_
        refine z_iald (pc := 31) 0 C dX5_goGate_31 rfl (by unfold zAr; decide) ?_
        refine z_iconst (pc := 32) (-1 : Int32) (by decide) C dX5_goGate_32 ?_
        refine z_icmp_ne (pc := 33) 66 C dX5_goGate_33 (by decide) ?_ ?_
        · refine z_aload_n (pc := 36) 0 rfl rfl C dX5_goGate_36 ?_
          refine z_getR (pc := 37) 0 9 6 C dX5_goGate_37 rfl (by decide) (by decide) rfl zw_724 ?_
          refine z_iload_n (pc := 40) 3 rfl rfl C dX5_goGate_40 ?_
          refine z_aload_n (pc := 41) 0 rfl rfl C dX5_goGate_41 ?_
          refine z_getI (pc := 42) 0 10 C dX5_goGate_42 rfl (by decide) (by decide) rfl zw_725 ?_
          refine z_iast (pc := 45) 0 C dX5_goGate_45 rfl (by unfold zAr; decide) [(5, qD, (zsI sD 6 (upd (zI sD 6) r_1.toNatClampNeg (zF sD 10))))] rfl ?_
          refine z_letc (fun z9 => [(5, qD, z9)]) (fun sD_5 => ?_)
          refine z_aload_n (pc := 46) 0 rfl rfl C dX5_goGate_46 ?_
          refine z_getR (pc := 47) 0 11 7 C dX5_goGate_47 rfl (by decide) (by decide) rfl zw_726 ?_
          refine z_aload_n (pc := 50) 0 rfl rfl C dX5_goGate_50 ?_
          refine z_getI (pc := 51) 0 12 C dX5_goGate_51 rfl (by decide) (by decide) rfl zw_727 ?_
          refine z_iload_n (pc := 54) 3 rfl rfl C dX5_goGate_54 ?_
          refine z_iast (pc := 55) 0 C dX5_goGate_55 rfl (by unfold zAr; decide) [(5, qD, (zsI sD_5 7 (upd (zI sD_5 7) (zF sD_5 12).toNatClampNeg r_1)))] rfl ?_
          refine z_letc (fun z9 => [(5, qD, z9)]) (fun sD_6 => ?_)
          refine z_aload_n (pc := 56) 0 rfl rfl C dX5_goGate_56 ?_
          refine z_dup (pc := 57) rfl C dX5_goGate_57 ?_
          refine z_getI (pc := 58) 0 12 C dX5_goGate_58 rfl (by decide) (by decide) rfl zw_727 ?_
          refine z_iconst (pc := 61) (1 : Int32) (by decide) C dX5_goGate_61 ?_
          refine z_iadd (pc := 62) C dX5_goGate_62 ?_
          refine z_putI (pc := 63) 0 12 C dX5_goGate_63 rfl (by decide) (by decide) rfl zw_727 rfl rfl rfl [(5, qD, (zsF sD_6 12 ((zF sD_6 12) + (1 : Int32))))] rfl ?_
          refine z_letc (fun z9 => [(5, qD, z9)]) (fun sD_7 => ?_)
          refine z_iinc (pc := 66) (x2 + 1) 2 rfl rfl [(0, (.ref (qD 0))), (1, (.int x1)), (2, (.int (x2 + 1))), (3, (.int r_1))] [1, 2, 0, 3] (by decide) rfl C dX5_goGate_66 ?_
          refine z_goto (pc := 69) 2 C dX5_goGate_69 (by decide) ?_
          refine z_lv [(0, (.ref (qD 0))), (1, (.int x1)), (2, (.int (x2 + 1)))] [0, 1, 2] rfl ?_
          exact hk_2 _ _
        · refine z_iinc (pc := 66) (x2 + 1) 2 rfl rfl [(0, (.ref (qD 0))), (1, (.int x1)), (2, (.int (x2 + 1))), (3, (.int r_1))] [1, 2, 0, 3] (by decide) rfl C dX5_goGate_66 ?_
          refine z_goto (pc := 69) 2 C dX5_goGate_69 (by decide) ?_
          refine z_lv [(0, (.ref (qD 0))), (1, (.int x1)), (2, (.int (x2 + 1)))] [0, 1, 2] rfl ?_
          exact hk_2 _ _
def fX5_goGate (F : Nat) (x1 : Int32) (sD : zOS) : Option (zOS) := (zit (P := Int32 × zOS) (R := zOS) (fun kc9 p9 => bX5_goGate_2 F x1 kc9 p9.1 p9.2) F ((0 : Int32), sD))
set_option maxRecDepth 20000 in
theorem wX5_goGate {X : zCx} {res : zOS} {F : Nat} {qD : Nat → Nat} {x1 : Int32} {sD : zOS} (C : zC X RX5 cX5_goGate 4 3 66) (hR : zR X none none [(5, qD, res)])  : zJ X 4 res (fX5_goGate F x1 sD) 0 [(0, (.ref (qD 0))), (1, (.int x1))] [] [(5, qD, sD)] := by
  unfold fX5_goGate
  refine z_iconst (pc := 0) (0 : Int32) (by decide) C dX5_goGate_0 ?_
  refine z_istore_n (pc := 1) [(0, (.ref (qD 0))), (1, (.int x1)), (2, (.int (0 : Int32)))] [1, 2, 0] (by decide) rfl rfl C dX5_goGate_1 ?_
  show zJ X 4 res _ 2 [(0, (.ref (qD 0))), (1, (.int x1)), (2, (.int (0 : Int32)))] [] [(5, qD, sD)]
  exact zit_J (P := Int32 × zOS) (B := (fun kc9 p9 => bX5_goGate_2 F x1 kc9 p9.1 p9.2)) (fun p9 => [(0, (.ref (qD 0))), (1, (.int x1)), (2, (.int p9.1))]) (fun p9 => [(5, qD, p9.2)]) (fun kc9 hk9 p9 => vX5_goGate_2 C hR   (fun a0 a1 => hk9 (a0, a1)) p9.1 p9.2) F _
theorem mX5_goGate {F : Nat} {qD : Nat → Nat} {x1 : Int32} {sD : zOS} {res : zOS}  (hf : fX5_goGate F x1 sD = some res) : zM yX5_goGate cX5_goGate 4 none 3 66 [(.ref (qD 0)), (.int x1)] [(5, qD, sD)] none [(5, qD, res)] := zM_of (by decide +kernel) (Nat.le_of_ble_eq_true rfl) (fun X C hR => wX5_goGate (F := F) C hR  hf)
theorem dX5_findGates_0 : decode cX5_findGates 0 = .ok (.aload_n 0, 1) := by decide +kernel
theorem dX5_findGates_1 : decode cX5_findGates 1 = .ok (.iconst 0, 1) := by decide +kernel
theorem dX5_findGates_2 : decode cX5_findGates 2 = .ok (.putfield 131, 3) := by decide +kernel
theorem dX5_findGates_5 : decode cX5_findGates 5 = .ok (.iconst 0, 1) := by decide +kernel
theorem dX5_findGates_6 : decode cX5_findGates 6 = .ok (.istore_n 1, 1) := by decide +kernel
theorem dX5_findGates_7 : decode cX5_findGates 7 = .ok (.iload_n 1, 1) := by decide +kernel
theorem dX5_findGates_8 : decode cX5_findGates 8 = .ok (.bipush 64, 2) := by decide +kernel
theorem dX5_findGates_10 : decode cX5_findGates 10 = .ok (.if_icmp .ge 16, 3) := by decide +kernel
theorem dX5_findGates_13 : decode cX5_findGates 13 = .ok (.aload_n 0, 1) := by decide +kernel
theorem dX5_findGates_14 : decode cX5_findGates 14 = .ok (.getfield 25, 3) := by decide +kernel
theorem dX5_findGates_17 : decode cX5_findGates 17 = .ok (.iload_n 1, 1) := by decide +kernel
theorem dX5_findGates_18 : decode cX5_findGates 18 = .ok (.iconst (-1), 1) := by decide +kernel
theorem dX5_findGates_19 : decode cX5_findGates 19 = .ok (.iastore, 1) := by decide +kernel
theorem dX5_findGates_20 : decode cX5_findGates 20 = .ok (.iinc 1 1, 3) := by decide +kernel
theorem dX5_findGates_23 : decode cX5_findGates 23 = .ok (.goto (-16), 3) := by decide +kernel
theorem dX5_findGates_26 : decode cX5_findGates 26 = .ok (.iconst 0, 1) := by decide +kernel
theorem dX5_findGates_27 : decode cX5_findGates 27 = .ok (.istore_n 1, 1) := by decide +kernel
theorem dX5_findGates_28 : decode cX5_findGates 28 = .ok (.iload_n 1, 1) := by decide +kernel
theorem dX5_findGates_29 : decode cX5_findGates 29 = .ok (.bipush 64, 2) := by decide +kernel
theorem dX5_findGates_31 : decode cX5_findGates 31 = .ok (.if_icmp .ge 85, 3) := by decide +kernel
theorem dX5_findGates_34 : decode cX5_findGates 34 = .ok (.aload_n 0, 1) := by decide +kernel
theorem dX5_findGates_35 : decode cX5_findGates 35 = .ok (.iload_n 1, 1) := by decide +kernel
theorem dX5_findGates_36 : decode cX5_findGates 36 = .ok (.invokevirtual 134, 3) := by decide +kernel
theorem dX5_findGates_39 : decode cX5_findGates 39 = .ok (.ifCond .eq 71, 3) := by decide +kernel
theorem dX5_findGates_42 : decode cX5_findGates 42 = .ok (.aload_n 0, 1) := by decide +kernel
theorem dX5_findGates_43 : decode cX5_findGates 43 = .ok (.getfield 25, 3) := by decide +kernel
theorem dX5_findGates_46 : decode cX5_findGates 46 = .ok (.iload_n 1, 1) := by decide +kernel
theorem dX5_findGates_47 : decode cX5_findGates 47 = .ok (.iaload, 1) := by decide +kernel
theorem dX5_findGates_48 : decode cX5_findGates 48 = .ok (.iconst (-1), 1) := by decide +kernel
theorem dX5_findGates_49 : decode cX5_findGates 49 = .ok (.if_icmp .ne 61, 3) := by decide +kernel
theorem dX5_findGates_52 : decode cX5_findGates 52 = .ok (.aload_n 0, 1) := by decide +kernel
theorem dX5_findGates_53 : decode cX5_findGates 53 = .ok (.getfield 25, 3) := by decide +kernel
theorem dX5_findGates_56 : decode cX5_findGates 56 = .ok (.iload_n 1, 1) := by decide +kernel
theorem dX5_findGates_57 : decode cX5_findGates 57 = .ok (.aload_n 0, 1) := by decide +kernel
theorem dX5_findGates_58 : decode cX5_findGates 58 = .ok (.getfield 131, 3) := by decide +kernel
theorem dX5_findGates_61 : decode cX5_findGates 61 = .ok (.iastore, 1) := by decide +kernel
theorem dX5_findGates_62 : decode cX5_findGates 62 = .ok (.aload_n 0, 1) := by decide +kernel
theorem dX5_findGates_63 : decode cX5_findGates 63 = .ok (.iconst 1, 1) := by decide +kernel
theorem dX5_findGates_64 : decode cX5_findGates 64 = .ok (.putfield 117, 3) := by decide +kernel
theorem dX5_findGates_67 : decode cX5_findGates 67 = .ok (.aload_n 0, 1) := by decide +kernel
theorem dX5_findGates_68 : decode cX5_findGates 68 = .ok (.getfield 28, 3) := by decide +kernel
theorem dX5_findGates_71 : decode cX5_findGates 71 = .ok (.iconst 0, 1) := by decide +kernel
theorem dX5_findGates_72 : decode cX5_findGates 72 = .ok (.iload_n 1, 1) := by decide +kernel
theorem dX5_findGates_73 : decode cX5_findGates 73 = .ok (.iastore, 1) := by decide +kernel
theorem dX5_findGates_74 : decode cX5_findGates 74 = .ok (.iconst 0, 1) := by decide +kernel
theorem dX5_findGates_75 : decode cX5_findGates 75 = .ok (.istore_n 2, 1) := by decide +kernel
theorem dX5_findGates_76 : decode cX5_findGates 76 = .ok (.iload_n 2, 1) := by decide +kernel
theorem dX5_findGates_77 : decode cX5_findGates 77 = .ok (.aload_n 0, 1) := by decide +kernel
theorem dX5_findGates_78 : decode cX5_findGates 78 = .ok (.getfield 117, 3) := by decide +kernel
theorem dX5_findGates_81 : decode cX5_findGates 81 = .ok (.if_icmp .ge 19, 3) := by decide +kernel
theorem dX5_findGates_84 : decode cX5_findGates 84 = .ok (.aload_n 0, 1) := by decide +kernel
theorem dX5_findGates_85 : decode cX5_findGates 85 = .ok (.aload_n 0, 1) := by decide +kernel
theorem dX5_findGates_86 : decode cX5_findGates 86 = .ok (.getfield 28, 3) := by decide +kernel
theorem dX5_findGates_89 : decode cX5_findGates 89 = .ok (.iload_n 2, 1) := by decide +kernel
theorem dX5_findGates_90 : decode cX5_findGates 90 = .ok (.iaload, 1) := by decide +kernel
theorem dX5_findGates_91 : decode cX5_findGates 91 = .ok (.invokevirtual 137, 3) := by decide +kernel
theorem dX5_findGates_94 : decode cX5_findGates 94 = .ok (.iinc 2 1, 3) := by decide +kernel
theorem dX5_findGates_97 : decode cX5_findGates 97 = .ok (.goto (-21), 3) := by decide +kernel
theorem dX5_findGates_100 : decode cX5_findGates 100 = .ok (.aload_n 0, 1) := by decide +kernel
theorem dX5_findGates_101 : decode cX5_findGates 101 = .ok (.dup, 1) := by decide +kernel
theorem dX5_findGates_102 : decode cX5_findGates 102 = .ok (.getfield 131, 3) := by decide +kernel
theorem dX5_findGates_105 : decode cX5_findGates 105 = .ok (.iconst 1, 1) := by decide +kernel
theorem dX5_findGates_106 : decode cX5_findGates 106 = .ok (.iadd, 1) := by decide +kernel
theorem dX5_findGates_107 : decode cX5_findGates 107 = .ok (.putfield 131, 3) := by decide +kernel
theorem dX5_findGates_110 : decode cX5_findGates 110 = .ok (.iinc 1 1, 3) := by decide +kernel
theorem dX5_findGates_113 : decode cX5_findGates 113 = .ok (.goto (-85), 3) := by decide +kernel
theorem dX5_findGates_116 : decode cX5_findGates 116 = .ok (.return_, 1) := by decide +kernel
def bX5_findGates_76 (F : Nat) (kc_28 : (Int32 × zOS) → Option (zOS)) (x1 : Int32) (kc_76 : (Int32 × zOS) → Option (zOS)) (x2 : Int32) (sD : zOS) : Option (zOS) := (if (zF sD 12) ≤ x2 then (zlet (zsF sD 10 ((zF sD 10) + (1 : Int32))) (fun sD_7 : zOS => (kc_28 ((x1 + 1), sD_7)))) else (zchk x2 192 (Option.bind (fX5_goGate F (zI sD 7 x2.toNatClampNeg) sD) (fun r_8 : zOS => (kc_76 ((x2 + 1), r_8))))))
set_option maxRecDepth 20000 in
theorem vX5_findGates_76 {X : zCx} {res : zOS} {F : Nat} {qD : Nat → Nat} {x1 : Int32} {kc_28 : (Int32 × zOS) → Option (zOS)} {kc_76 : (Int32 × zOS) → Option (zOS)} (C : zC X RX5 cX5_findGates 3 4 89) (hR : zR X none none [(5, qD, res)]) (hk_28 : ∀ (y1 : Int32) (tD : zOS), zJ X 3 res (kc_28 (y1, tD)) 28 [(0, (.ref (qD 0))), (1, (.int y1))] [] [(5, qD, tD)]) (hk_76 : ∀ (y2 : Int32) (tD : zOS), zJ X 3 res (kc_76 (y2, tD)) 76 [(0, (.ref (qD 0))), (1, (.int x1)), (2, (.int y2))] [] [(5, qD, tD)]) (x2 : Int32) (sD : zOS) : zJ X 3 res (bX5_findGates_76 F kc_28 x1 kc_76 x2 sD) 76 [(0, (.ref (qD 0))), (1, (.int x1)), (2, (.int x2))] [] [(5, qD, sD)] := by
  unfold bX5_findGates_76
  refine z_iload_n (pc := 76) 2 rfl rfl C dX5_findGates_76 ?_
  refine z_aload_n (pc := 77) 0 rfl rfl C dX5_findGates_77 ?_
  refine z_getI (pc := 78) 0 12 C dX5_findGates_78 rfl (by decide) (by decide) rfl zw_727 ?_
  refine z_icmp_ge (pc := 81) 100 C dX5_findGates_81 (by decide) ?_ ?_
  · refine z_aload_n (pc := 100) 0 rfl rfl C dX5_findGates_100 ?_
    refine z_dup (pc := 101) rfl C dX5_findGates_101 ?_
    refine z_getI (pc := 102) 0 10 C dX5_findGates_102 rfl (by decide) (by decide) rfl zw_725 ?_
    refine z_iconst (pc := 105) (1 : Int32) (by decide) C dX5_findGates_105 ?_
    refine z_iadd (pc := 106) C dX5_findGates_106 ?_
    refine z_putI (pc := 107) 0 10 C dX5_findGates_107 rfl (by decide) (by decide) rfl zw_725 rfl rfl rfl [(5, qD, (zsF sD 10 ((zF sD 10) + (1 : Int32))))] rfl ?_
    refine z_letc (fun z9 => [(5, qD, z9)]) (fun sD_7 => ?_)
    refine z_iinc (pc := 110) (x1 + 1) 1 rfl rfl [(0, (.ref (qD 0))), (1, (.int (x1 + 1))), (2, (.int x2))] [1, 0, 2] (by decide) rfl C dX5_findGates_110 ?_
    refine z_goto (pc := 113) 28 C dX5_findGates_113 (by decide) ?_
    refine z_lv [(0, (.ref (qD 0))), (1, (.int (x1 + 1)))] [0, 1] rfl ?_
    exact hk_28 _ _
  · refine z_aload_n (pc := 84) 0 rfl rfl C dX5_findGates_84 ?_
    refine z_aload_n (pc := 85) 0 rfl rfl C dX5_findGates_85 ?_
    refine z_getR (pc := 86) 0 11 7 C dX5_findGates_86 rfl (by decide) (by decide) rfl zw_726 ?_
    refine z_iload_n (pc := 89) 2 rfl rfl C dX5_findGates_89 ?_
    refine z_iald (pc := 90) 0 C dX5_findGates_90 rfl (by unfold zAr; decide) ?_
    refine z_callV (pc := 91) (rf' := 3) (rl' := 66) (fX5_goGate F (zI sD 7 x2.toNatClampNeg) sD) [(.int (zI sD 7 x2.toNatClampNeg))] [] [(5, qD, sD)] (fun r_8 => none) (fun r_8 => [(5, qD, r_8)]) [] (fun r_8 => [(5, qD, r_8)]) C dX5_findGates_91 zy_X5_goGate zw_918 (fun _ hr9 => mX5_goGate  hr9) (by decide) rfl rfl (by decide) rfl (Nat.le_of_ble_eq_true rfl) (List.Perm.refl _) (fun _ => List.Perm.refl _) rfl (fun r_8 hr_9 => ?_)
    show zJ X 3 res _ 94 [(0, (.ref (qD 0))), (1, (.int x1)), (2, (.int x2))] [] [(5, qD, r_8)]
    refine z_iinc (pc := 94) (x2 + 1) 2 rfl rfl [(0, (.ref (qD 0))), (1, (.int x1)), (2, (.int (x2 + 1)))] [1, 2, 0] (by decide) rfl C dX5_findGates_94 ?_
    refine z_goto (pc := 97) 76 C dX5_findGates_97 (by decide) ?_
    exact hk_76 _ _
def bX5_findGates_28 (F : Nat) (kc_28 : (Int32 × zOS) → Option (zOS)) (x1 : Int32) (sD : zOS) : Option (zOS) := (if (64 : Int32) ≤ x1 then (some (sD)) else (Option.bind (fX5_isGateCell x1 sD) (fun r_2 : Int32 => (if r_2 = 0 then (kc_28 ((x1 + 1), sD)) else (zchk x1 64 (if (zI sD 6 x1.toNatClampNeg) = (-1 : Int32) then (zchk x1 64 (zlet (zsI sD 6 (upd (zI sD 6) x1.toNatClampNeg (zF sD 10))) (fun sD_4 : zOS => (zlet (zsF sD_4 12 (1 : Int32)) (fun sD_5 : zOS => (zchk (0 : Int32) 192 (zlet (zsI sD_5 7 (upd (zI sD_5 7) (0 : Int32).toNatClampNeg x1)) (fun sD_6 : zOS => (zit (P := Int32 × zOS) (R := zOS) (fun kc9 p9 => bX5_findGates_76 F kc_28 x1 kc9 p9.1 p9.2) F ((0 : Int32), sD_6)))))))))) else (kc_28 ((x1 + 1), sD))))))))
set_option maxRecDepth 20000 in
theorem vX5_findGates_28 {X : zCx} {res : zOS} {F : Nat} {qD : Nat → Nat} {kc_28 : (Int32 × zOS) → Option (zOS)} (C : zC X RX5 cX5_findGates 3 4 89) (hR : zR X none none [(5, qD, res)]) (hk_28 : ∀ (y1 : Int32) (tD : zOS), zJ X 3 res (kc_28 (y1, tD)) 28 [(0, (.ref (qD 0))), (1, (.int y1))] [] [(5, qD, tD)]) (x1 : Int32) (sD : zOS) : zJ X 3 res (bX5_findGates_28 F kc_28 x1 sD) 28 [(0, (.ref (qD 0))), (1, (.int x1))] [] [(5, qD, sD)] := by
  unfold bX5_findGates_28
  refine z_iload_n (pc := 28) 1 rfl rfl C dX5_findGates_28 ?_
  refine z_bipush (pc := 29) (64 : Int32) (by decide) C dX5_findGates_29 ?_
  refine z_icmp_ge (pc := 31) 116 C dX5_findGates_31 (by decide) ?_ ?_
  · exact z_return (pc := 116) C hR dX5_findGates_116 (fun h => by subst h; exact ⟨rfl, rfl⟩)
  · refine z_aload_n (pc := 34) 0 rfl rfl C dX5_findGates_34 ?_
    refine z_iload_n (pc := 35) 1 rfl rfl C dX5_findGates_35 ?_
    refine z_callV (pc := 36) (rf' := 1) (rl' := 22) (fX5_isGateCell x1 sD) [(.int x1)] [] [(5, qD, sD)] (fun r_2 => (some (.int r_2))) (fun r_2 => [(5, qD, sD)]) [] (fun r_2 => [(5, qD, sD)]) C dX5_findGates_36 zy_X5_isGateCell zw_914 (fun _ hr9 => mX5_isGateCell  hr9) (by decide) rfl rfl (by decide) rfl (Nat.le_of_ble_eq_true rfl) (List.Perm.refl _) (fun _ => List.Perm.refl _) rfl (fun r_2 hr_3 => ?_)
    show zJ X 3 res _ 39 [(0, (.ref (qD 0))), (1, (.int x1))] [(.int r_2)] [(5, qD, sD)]
    refine z_if_eq (pc := 39) 110 C dX5_findGates_39 (by decide) ?_ ?_
    · refine z_iinc (pc := 110) (x1 + 1) 1 rfl rfl [(0, (.ref (qD 0))), (1, (.int (x1 + 1)))] [1, 0] (by decide) rfl C dX5_findGates_110 ?_
      refine z_goto (pc := 113) 28 C dX5_findGates_113 (by decide) ?_
      exact hk_28 _ _
    · refine z_aload_n (pc := 42) 0 rfl rfl C dX5_findGates_42 ?_
      refine z_getR (pc := 43) 0 9 6 C dX5_findGates_43 rfl (by decide) (by decide) rfl zw_724 ?_
      refine z_iload_n (pc := 46) 1 rfl rfl C dX5_findGates_46 ?_
      refine z_iald (pc := 47) 0 C dX5_findGates_47 rfl (by unfold zAr; decide) ?_
      refine z_iconst (pc := 48) (-1 : Int32) (by decide) C dX5_findGates_48 ?_
      refine z_icmp_ne (pc := 49) 110 C dX5_findGates_49 (by decide) ?_ ?_
      · refine z_aload_n (pc := 52) 0 rfl rfl C dX5_findGates_52 ?_
        refine z_getR (pc := 53) 0 9 6 C dX5_findGates_53 rfl (by decide) (by decide) rfl zw_724 ?_
        refine z_iload_n (pc := 56) 1 rfl rfl C dX5_findGates_56 ?_
        refine z_aload_n (pc := 57) 0 rfl rfl C dX5_findGates_57 ?_
        refine z_getI (pc := 58) 0 10 C dX5_findGates_58 rfl (by decide) (by decide) rfl zw_725 ?_
        refine z_iast (pc := 61) 0 C dX5_findGates_61 rfl (by unfold zAr; decide) [(5, qD, (zsI sD 6 (upd (zI sD 6) x1.toNatClampNeg (zF sD 10))))] rfl ?_
        refine z_letc (fun z9 => [(5, qD, z9)]) (fun sD_4 => ?_)
        refine z_aload_n (pc := 62) 0 rfl rfl C dX5_findGates_62 ?_
        refine z_iconst (pc := 63) (1 : Int32) (by decide) C dX5_findGates_63 ?_
        refine z_putI (pc := 64) 0 12 C dX5_findGates_64 rfl (by decide) (by decide) rfl zw_727 rfl rfl rfl [(5, qD, (zsF sD_4 12 (1 : Int32)))] rfl ?_
        refine z_letc (fun z9 => [(5, qD, z9)]) (fun sD_5 => ?_)
        refine z_aload_n (pc := 67) 0 rfl rfl C dX5_findGates_67 ?_
        refine z_getR (pc := 68) 0 11 7 C dX5_findGates_68 rfl (by decide) (by decide) rfl zw_726 ?_
        refine z_iconst (pc := 71) (0 : Int32) (by decide) C dX5_findGates_71 ?_
        refine z_iload_n (pc := 72) 1 rfl rfl C dX5_findGates_72 ?_
        refine z_iast (pc := 73) 0 C dX5_findGates_73 rfl (by unfold zAr; decide) [(5, qD, (zsI sD_5 7 (upd (zI sD_5 7) (0 : Int32).toNatClampNeg x1)))] rfl ?_
        refine z_letc (fun z9 => [(5, qD, z9)]) (fun sD_6 => ?_)
        refine z_iconst (pc := 74) (0 : Int32) (by decide) C dX5_findGates_74 ?_
        refine z_istore_n (pc := 75) [(0, (.ref (qD 0))), (1, (.int x1)), (2, (.int (0 : Int32)))] [1, 2, 0] (by decide) rfl rfl C dX5_findGates_75 ?_
        show zJ X 3 res _ 76 [(0, (.ref (qD 0))), (1, (.int x1)), (2, (.int (0 : Int32)))] [] [(5, qD, sD_6)]
        exact zit_J (P := Int32 × zOS) (B := (fun kc9 p9 => bX5_findGates_76 F kc_28 x1 kc9 p9.1 p9.2)) (fun p9 => [(0, (.ref (qD 0))), (1, (.int x1)), (2, (.int p9.1))]) (fun p9 => [(5, qD, p9.2)]) (fun kc9 hk9 p9 => vX5_findGates_76 C hR  hk_28 (fun a0 a1 => hk9 (a0, a1)) p9.1 p9.2) F _
      · refine z_iinc (pc := 110) (x1 + 1) 1 rfl rfl [(0, (.ref (qD 0))), (1, (.int (x1 + 1)))] [1, 0] (by decide) rfl C dX5_findGates_110 ?_
        refine z_goto (pc := 113) 28 C dX5_findGates_113 (by decide) ?_
        exact hk_28 _ _
def bX5_findGates_7 (F : Nat) (kc_7 : (Int32 × zOS) → Option (zOS)) (x1 : Int32) (sD : zOS) : Option (zOS) := (if (64 : Int32) ≤ x1 then (zit (P := Int32 × zOS) (R := zOS) (fun kc9 p9 => bX5_findGates_28 F kc9 p9.1 p9.2) F ((0 : Int32), sD)) else (zchk x1 64 (zlet (zsI sD 6 (upd (zI sD 6) x1.toNatClampNeg (-1 : Int32))) (fun sD_10 : zOS => (kc_7 ((x1 + 1), sD_10))))))
set_option maxRecDepth 20000 in
theorem vX5_findGates_7 {X : zCx} {res : zOS} {F : Nat} {qD : Nat → Nat} {kc_7 : (Int32 × zOS) → Option (zOS)} (C : zC X RX5 cX5_findGates 3 4 89) (hR : zR X none none [(5, qD, res)]) (hk_7 : ∀ (y1 : Int32) (tD : zOS), zJ X 3 res (kc_7 (y1, tD)) 7 [(0, (.ref (qD 0))), (1, (.int y1))] [] [(5, qD, tD)]) (x1 : Int32) (sD : zOS) : zJ X 3 res (bX5_findGates_7 F kc_7 x1 sD) 7 [(0, (.ref (qD 0))), (1, (.int x1))] [] [(5, qD, sD)] := by
  unfold bX5_findGates_7
  refine z_iload_n (pc := 7) 1 rfl rfl C dX5_findGates_7 ?_
  refine z_bipush (pc := 8) (64 : Int32) (by decide) C dX5_findGates_8 ?_
  refine z_icmp_ge (pc := 10) 26 C dX5_findGates_10 (by decide) ?_ ?_
  · refine z_iconst (pc := 26) (0 : Int32) (by decide) C dX5_findGates_26 ?_
    refine z_istore_n (pc := 27) [(0, (.ref (qD 0))), (1, (.int (0 : Int32)))] [1, 0] (by decide) rfl rfl C dX5_findGates_27 ?_
    show zJ X 3 res _ 28 [(0, (.ref (qD 0))), (1, (.int (0 : Int32)))] [] [(5, qD, sD)]
    exact zit_J (P := Int32 × zOS) (B := (fun kc9 p9 => bX5_findGates_28 F kc9 p9.1 p9.2)) (fun p9 => [(0, (.ref (qD 0))), (1, (.int p9.1))]) (fun p9 => [(5, qD, p9.2)]) (fun kc9 hk9 p9 => vX5_findGates_28 C hR   (fun a0 a1 => hk9 (a0, a1)) p9.1 p9.2) F _
  · refine z_aload_n (pc := 13) 0 rfl rfl C dX5_findGates_13 ?_
    refine z_getR (pc := 14) 0 9 6 C dX5_findGates_14 rfl (by decide) (by decide) rfl zw_724 ?_
    refine z_iload_n (pc := 17) 1 rfl rfl C dX5_findGates_17 ?_
    refine z_iconst (pc := 18) (-1 : Int32) (by decide) C dX5_findGates_18 ?_
    refine z_iast (pc := 19) 0 C dX5_findGates_19 rfl (by unfold zAr; decide) [(5, qD, (zsI sD 6 (upd (zI sD 6) x1.toNatClampNeg (-1 : Int32))))] rfl ?_
    refine z_letc (fun z9 => [(5, qD, z9)]) (fun sD_10 => ?_)
    refine z_iinc (pc := 20) (x1 + 1) 1 rfl rfl [(0, (.ref (qD 0))), (1, (.int (x1 + 1)))] [1, 0] (by decide) rfl C dX5_findGates_20 ?_
    refine z_goto (pc := 23) 7 C dX5_findGates_23 (by decide) ?_
    exact hk_7 _ _
def fX5_findGates (F : Nat) (sD : zOS) : Option (zOS) := (zlet (zsF sD 10 (0 : Int32)) (fun sD_1 : zOS => (zit (P := Int32 × zOS) (R := zOS) (fun kc9 p9 => bX5_findGates_7 F kc9 p9.1 p9.2) F ((0 : Int32), sD_1))))
set_option maxRecDepth 20000 in
theorem wX5_findGates {X : zCx} {res : zOS} {F : Nat} {qD : Nat → Nat} {sD : zOS} (C : zC X RX5 cX5_findGates 3 4 89) (hR : zR X none none [(5, qD, res)])  : zJ X 3 res (fX5_findGates F sD) 0 [(0, (.ref (qD 0)))] [] [(5, qD, sD)] := by
  unfold fX5_findGates
  refine z_aload_n (pc := 0) 0 rfl rfl C dX5_findGates_0 ?_
  refine z_iconst (pc := 1) (0 : Int32) (by decide) C dX5_findGates_1 ?_
  refine z_putI (pc := 2) 0 10 C dX5_findGates_2 rfl (by decide) (by decide) rfl zw_725 rfl rfl rfl [(5, qD, (zsF sD 10 (0 : Int32)))] rfl ?_
  refine z_letc (fun z9 => [(5, qD, z9)]) (fun sD_1 => ?_)
  refine z_iconst (pc := 5) (0 : Int32) (by decide) C dX5_findGates_5 ?_
  refine z_istore_n (pc := 6) [(0, (.ref (qD 0))), (1, (.int (0 : Int32)))] [1, 0] (by decide) rfl rfl C dX5_findGates_6 ?_
  show zJ X 3 res _ 7 [(0, (.ref (qD 0))), (1, (.int (0 : Int32)))] [] [(5, qD, sD_1)]
  exact zit_J (P := Int32 × zOS) (B := (fun kc9 p9 => bX5_findGates_7 F kc9 p9.1 p9.2)) (fun p9 => [(0, (.ref (qD 0))), (1, (.int p9.1))]) (fun p9 => [(5, qD, p9.2)]) (fun kc9 hk9 p9 => vX5_findGates_7 C hR   (fun a0 a1 => hk9 (a0, a1)) p9.1 p9.2) F _
theorem mX5_findGates {F : Nat} {qD : Nat → Nat} {sD : zOS} {res : zOS}  (hf : fX5_findGates F sD = some res) : zM yX5_findGates cX5_findGates 3 none 4 89 [(.ref (qD 0))] [(5, qD, sD)] none [(5, qD, res)] := zM_of (by decide +kernel) (Nat.le_of_ble_eq_true rfl) (fun X C hR => wX5_findGates (F := F) C hR  hf)
theorem dX5_ofGate_0 : decode cX5_ofGate 0 = .ok (.aload_n 0, 1) := by decide +kernel
theorem dX5_ofGate_1 : decode cX5_ofGate 1 = .ok (.getfield 31, 3) := by decide +kernel
theorem dX5_ofGate_4 : decode cX5_ofGate 4 = .ok (.bipush 6, 2) := by decide +kernel
theorem dX5_ofGate_6 : decode cX5_ofGate 6 = .ok (.iload_n 1, 1) := by decide +kernel
theorem dX5_ofGate_7 : decode cX5_ofGate 7 = .ok (.imul, 1) := by decide +kernel
theorem dX5_ofGate_8 : decode cX5_ofGate 8 = .ok (.iload_n 2, 1) := by decide +kernel
theorem dX5_ofGate_9 : decode cX5_ofGate 9 = .ok (.iadd, 1) := by decide +kernel
theorem dX5_ofGate_10 : decode cX5_ofGate 10 = .ok (.iaload, 1) := by decide +kernel
theorem dX5_ofGate_11 : decode cX5_ofGate 11 = .ok (.ireturn, 1) := by decide +kernel
def fX5_ofGate (x1 : Int32) (x2 : Int32) (sD : zOS) : Option (Int32) := (zchk (((6 : Int32) * x1) + x2) 192 (some (zI sD 8 (((6 : Int32) * x1) + x2).toNatClampNeg)))
set_option maxRecDepth 20000 in
theorem wX5_ofGate {X : zCx} {res : Int32}  {qD : Nat → Nat} {x1 : Int32} {x2 : Int32} {sD : zOS} (C : zC X RX5 cX5_ofGate 3 0 0) (hR : zR X (some .int) (some (.int res)) [(5, qD, sD)])  : zJ X 3 res (fX5_ofGate x1 x2 sD) 0 [(0, (.ref (qD 0))), (1, (.int x1)), (2, (.int x2))] [] [(5, qD, sD)] := by
  unfold fX5_ofGate
  refine z_aload_n (pc := 0) 0 rfl rfl C dX5_ofGate_0 ?_
  refine z_getR (pc := 1) 0 13 8 C dX5_ofGate_1 rfl (by decide) (by decide) rfl zw_728 ?_
  refine z_bipush (pc := 4) (6 : Int32) (by decide) C dX5_ofGate_4 ?_
  refine z_iload_n (pc := 6) 1 rfl rfl C dX5_ofGate_6 ?_
  refine z_imul (pc := 7) C dX5_ofGate_7 ?_
  refine z_iload_n (pc := 8) 2 rfl rfl C dX5_ofGate_8 ?_
  refine z_iadd (pc := 9) C dX5_ofGate_9 ?_
  refine z_iald (pc := 10) 0 C dX5_ofGate_10 rfl (by unfold zAr; decide) ?_
  exact z_ireturn (pc := 11) C hR dX5_ofGate_11 (fun h => by subst h; exact ⟨rfl, rfl⟩)
theorem mX5_ofGate  {qD : Nat → Nat} {x1 : Int32} {x2 : Int32} {sD : zOS} {res : Int32}  (hf : fX5_ofGate x1 x2 sD = some res) : zM yX5_ofGate cX5_ofGate 3 (some .int) 0 0 [(.ref (qD 0)), (.int x1), (.int x2)] [(5, qD, sD)] (some (.int res)) [(5, qD, sD)] := zM_of (by decide +kernel) (Nat.le_of_ble_eq_true rfl) (fun X C hR => wX5_ofGate C hR  hf)
theorem dX5_isSide_0 : decode cX5_isSide 0 = .ok (.iconst 0, 1) := by decide +kernel
theorem dX5_isSide_1 : decode cX5_isSide 1 = .ok (.istore_n 3, 1) := by decide +kernel
theorem dX5_isSide_2 : decode cX5_isSide 2 = .ok (.iconst 0, 1) := by decide +kernel
theorem dX5_isSide_3 : decode cX5_isSide 3 = .ok (.istore 4, 2) := by decide +kernel
theorem dX5_isSide_5 : decode cX5_isSide 5 = .ok (.iload 4, 2) := by decide +kernel
theorem dX5_isSide_7 : decode cX5_isSide 7 = .ok (.bipush 64, 2) := by decide +kernel
theorem dX5_isSide_9 : decode cX5_isSide 9 = .ok (.if_icmp .ge 75, 3) := by decide +kernel
theorem dX5_isSide_12 : decode cX5_isSide 12 = .ok (.iload_n 3, 1) := by decide +kernel
theorem dX5_isSide_13 : decode cX5_isSide 13 = .ok (.ifCond .ne 71, 3) := by decide +kernel
theorem dX5_isSide_16 : decode cX5_isSide 16 = .ok (.iconst 0, 1) := by decide +kernel
theorem dX5_isSide_17 : decode cX5_isSide 17 = .ok (.istore 5, 2) := by decide +kernel
theorem dX5_isSide_19 : decode cX5_isSide 19 = .ok (.iload 5, 2) := by decide +kernel
theorem dX5_isSide_21 : decode cX5_isSide 21 = .ok (.iconst 4, 1) := by decide +kernel
theorem dX5_isSide_22 : decode cX5_isSide 22 = .ok (.if_icmp .ge 56, 3) := by decide +kernel
theorem dX5_isSide_25 : decode cX5_isSide 25 = .ok (.aload_n 0, 1) := by decide +kernel
theorem dX5_isSide_26 : decode cX5_isSide 26 = .ok (.getfield 25, 3) := by decide +kernel
theorem dX5_isSide_29 : decode cX5_isSide 29 = .ok (.iload 4, 2) := by decide +kernel
theorem dX5_isSide_31 : decode cX5_isSide 31 = .ok (.iaload, 1) := by decide +kernel
theorem dX5_isSide_32 : decode cX5_isSide 32 = .ok (.iload_n 1, 1) := by decide +kernel
theorem dX5_isSide_33 : decode cX5_isSide 33 = .ok (.if_icmp .ne 45, 3) := by decide +kernel
theorem dX5_isSide_36 : decode cX5_isSide 36 = .ok (.iload 4, 2) := by decide +kernel
theorem dX5_isSide_38 : decode cX5_isSide 38 = .ok (.iload 5, 2) := by decide +kernel
theorem dX5_isSide_40 : decode cX5_isSide 40 = .ok (.invokestatic 127, 3) := by decide +kernel
theorem dX5_isSide_43 : decode cX5_isSide 43 = .ok (.istore 6, 2) := by decide +kernel
theorem dX5_isSide_45 : decode cX5_isSide 45 = .ok (.iload_n 3, 1) := by decide +kernel
theorem dX5_isSide_46 : decode cX5_isSide 46 = .ok (.ifCond .ne 20, 3) := by decide +kernel
theorem dX5_isSide_49 : decode cX5_isSide 49 = .ok (.iload 6, 2) := by decide +kernel
theorem dX5_isSide_51 : decode cX5_isSide 51 = .ok (.iconst (-1), 1) := by decide +kernel
theorem dX5_isSide_52 : decode cX5_isSide 52 = .ok (.if_icmp .eq 18, 3) := by decide +kernel
theorem dX5_isSide_55 : decode cX5_isSide 55 = .ok (.aload_n 0, 1) := by decide +kernel
theorem dX5_isSide_56 : decode cX5_isSide 56 = .ok (.getfield 22, 3) := by decide +kernel
theorem dX5_isSide_59 : decode cX5_isSide 59 = .ok (.iload 6, 2) := by decide +kernel
theorem dX5_isSide_61 : decode cX5_isSide 61 = .ok (.iaload, 1) := by decide +kernel
theorem dX5_isSide_62 : decode cX5_isSide 62 = .ok (.iload_n 2, 1) := by decide +kernel
theorem dX5_isSide_63 : decode cX5_isSide 63 = .ok (.if_icmp .ne 7, 3) := by decide +kernel
theorem dX5_isSide_66 : decode cX5_isSide 66 = .ok (.iconst 1, 1) := by decide +kernel
theorem dX5_isSide_67 : decode cX5_isSide 67 = .ok (.goto 4, 3) := by decide +kernel
theorem dX5_isSide_70 : decode cX5_isSide 70 = .ok (.iconst 0, 1) := by decide +kernel
theorem dX5_isSide_71 : decode cX5_isSide 71 = .ok (.istore_n 3, 1) := by decide +kernel
theorem dX5_isSide_72 : decode cX5_isSide 72 = .ok (.iinc 5 1, 3) := by decide +kernel
theorem dX5_isSide_75 : decode cX5_isSide 75 = .ok (.goto (-56), 3) := by decide +kernel
theorem dX5_isSide_78 : decode cX5_isSide 78 = .ok (.iinc 4 1, 3) := by decide +kernel
theorem dX5_isSide_81 : decode cX5_isSide 81 = .ok (.goto (-76), 3) := by decide +kernel
theorem dX5_isSide_84 : decode cX5_isSide 84 = .ok (.iload_n 3, 1) := by decide +kernel
theorem dX5_isSide_85 : decode cX5_isSide 85 = .ok (.ireturn, 1) := by decide +kernel
def bX5_isSide_19 (F : Nat) (kc_5 : (Int32 × Int32) → Option (Int32)) (x1 : Int32) (x2 : Int32) (x4 : Int32) (sD : zOS) (kc_19 : (Int32 × Int32) → Option (Int32)) (x3 : Int32) (x5 : Int32) : Option (Int32) := (if (4 : Int32) ≤ x5 then (kc_5 (x3, (x4 + 1))) else (zchk x4 64 (if (zI sD 6 x4.toNatClampNeg) = x1 then (Option.bind (fX5_beside x4 x5) (fun r_1 : Int32 => (if x3 = 0 then (if r_1 = (-1 : Int32) then (kc_19 ((0 : Int32), (x5 + 1))) else (zchk r_1 192 (if (zI sD 5 r_1.toNatClampNeg) = x2 then (kc_19 ((1 : Int32), (x5 + 1))) else (kc_19 ((0 : Int32), (x5 + 1)))))) else (kc_19 ((1 : Int32), (x5 + 1)))))) else (kc_5 (x3, (x4 + 1))))))
set_option maxRecDepth 20000 in
theorem vX5_isSide_19 {X : zCx} {res : Int32} {F : Nat} {qD : Nat → Nat} {sD : zOS} {x1 : Int32} {x2 : Int32} {x4 : Int32} {kc_5 : (Int32 × Int32) → Option (Int32)} {kc_19 : (Int32 × Int32) → Option (Int32)} (C : zC X RX5 cX5_isSide 7 3 66) (hR : zR X (some .boolean) (some (.int res)) [(5, qD, sD)]) (hk_5 : ∀ (y3 : Int32) (y4 : Int32), zJ X 7 res (kc_5 (y3, y4)) 5 [(0, (.ref (qD 0))), (1, (.int x1)), (2, (.int x2)), (3, (.int y3)), (4, (.int y4))] [] [(5, qD, sD)]) (hk_19 : ∀ (y3 : Int32) (y5 : Int32), zJ X 7 res (kc_19 (y3, y5)) 19 [(0, (.ref (qD 0))), (1, (.int x1)), (2, (.int x2)), (3, (.int y3)), (4, (.int x4)), (5, (.int y5))] [] [(5, qD, sD)]) (x3 : Int32) (x5 : Int32) : zJ X 7 res (bX5_isSide_19 F kc_5 x1 x2 x4 sD kc_19 x3 x5) 19 [(0, (.ref (qD 0))), (1, (.int x1)), (2, (.int x2)), (3, (.int x3)), (4, (.int x4)), (5, (.int x5))] [] [(5, qD, sD)] := by
  unfold bX5_isSide_19
  refine z_iload (pc := 19) 5 rfl C dX5_isSide_19 ?_
  refine z_iconst (pc := 21) (4 : Int32) (by decide) C dX5_isSide_21 ?_
  refine z_icmp_ge (pc := 22) 78 C dX5_isSide_22 (by decide) ?_ ?_
  · refine z_iinc (pc := 78) (x4 + 1) 4 rfl rfl [(0, (.ref (qD 0))), (1, (.int x1)), (2, (.int x2)), (3, (.int x3)), (4, (.int (x4 + 1))), (5, (.int x5))] [1, 2, 3, 4, 0, 5] (by decide) rfl C dX5_isSide_78 ?_
    refine z_goto (pc := 81) 5 C dX5_isSide_81 (by decide) ?_
    refine z_lv [(0, (.ref (qD 0))), (1, (.int x1)), (2, (.int x2)), (3, (.int x3)), (4, (.int (x4 + 1)))] [0, 1, 2, 3, 4] rfl ?_
    exact hk_5 _ _
  · refine z_aload_n (pc := 25) 0 rfl rfl C dX5_isSide_25 ?_
    refine z_getR (pc := 26) 0 9 6 C dX5_isSide_26 rfl (by decide) (by decide) rfl zw_724 ?_
    refine z_iload (pc := 29) 4 rfl C dX5_isSide_29 ?_
    refine z_iald (pc := 31) 0 C dX5_isSide_31 rfl (by unfold zAr; decide) ?_
    refine z_iload_n (pc := 32) 1 rfl rfl C dX5_isSide_32 ?_
    refine z_icmp_ne (pc := 33) 78 C dX5_isSide_33 (by decide) ?_ ?_
    · refine z_iload (pc := 36) 4 rfl C dX5_isSide_36 ?_
      refine z_iload (pc := 38) 5 rfl C dX5_isSide_38 ?_
      refine z_callS (pc := 40) (rf' := 2) (rl' := 43) (fX5_beside x4 x5) [(.int x4), (.int x5)] [] [] (fun r_1 => (some (.int r_1))) (fun r_1 => []) [(5, qD, sD)] (fun r_1 => [(5, qD, sD)]) C dX5_isSide_40 zy_X5_beside zw_907 (fun _ hr9 => mX5_beside  hr9) (by decide) rfl (Nat.le_of_ble_eq_true rfl) (List.Perm.refl _) (fun _ => List.Perm.refl _) rfl (fun r_1 hr_2 => ?_)
      show zJ X 7 res _ 43 [(0, (.ref (qD 0))), (1, (.int x1)), (2, (.int x2)), (3, (.int x3)), (4, (.int x4)), (5, (.int x5))] [(.int r_1)] [(5, qD, sD)]
      refine z_istore (pc := 43) [(0, (.ref (qD 0))), (1, (.int x1)), (2, (.int x2)), (3, (.int x3)), (4, (.int x4)), (5, (.int x5)), (6, (.int r_1))] [1, 2, 3, 4, 5, 6, 0] (by decide) rfl C dX5_isSide_43 ?_
      refine z_iload_n (pc := 45) 3 rfl rfl C dX5_isSide_45 ?_
      refine z_if_ne (pc := 46) 66 C dX5_isSide_46 (by decide) ?_ ?_
      · refine z_iload (pc := 49) 6 rfl C dX5_isSide_49 ?_
        refine z_iconst (pc := 51) (-1 : Int32) (by decide) C dX5_isSide_51 ?_
        refine z_icmp_eq (pc := 52) 70 C dX5_isSide_52 (by decide) ?_ ?_
        · refine z_iconst (pc := 70) (0 : Int32) (by decide) C dX5_isSide_70 ?_
          refine z_istore_n (pc := 71) [(0, (.ref (qD 0))), (1, (.int x1)), (2, (.int x2)), (3, (.int (0 : Int32))), (4, (.int x4)), (5, (.int x5)), (6, (.int r_1))] [1, 2, 3, 0, 4, 5, 6] (by decide) rfl rfl C dX5_isSide_71 ?_
          refine z_iinc (pc := 72) (x5 + 1) 5 rfl rfl [(0, (.ref (qD 0))), (1, (.int x1)), (2, (.int x2)), (3, (.int (0 : Int32))), (4, (.int x4)), (5, (.int (x5 + 1))), (6, (.int r_1))] [1, 2, 3, 4, 5, 0, 6] (by decide) rfl C dX5_isSide_72 ?_
          refine z_goto (pc := 75) 19 C dX5_isSide_75 (by decide) ?_
          refine z_lv [(0, (.ref (qD 0))), (1, (.int x1)), (2, (.int x2)), (3, (.int (0 : Int32))), (4, (.int x4)), (5, (.int (x5 + 1)))] [0, 1, 2, 3, 4, 5] rfl ?_
          exact hk_19 _ _
        · refine z_aload_n (pc := 55) 0 rfl rfl C dX5_isSide_55 ?_
          refine z_getR (pc := 56) 0 6 5 C dX5_isSide_56 rfl (by decide) (by decide) rfl zw_721 ?_
          refine z_iload (pc := 59) 6 rfl C dX5_isSide_59 ?_
          refine z_iald (pc := 61) 0 C dX5_isSide_61 rfl (by unfold zAr; decide) ?_
          refine z_iload_n (pc := 62) 2 rfl rfl C dX5_isSide_62 ?_
          refine z_icmp_ne (pc := 63) 70 C dX5_isSide_63 (by decide) ?_ ?_
          · refine z_iconst (pc := 66) (1 : Int32) (by decide) C dX5_isSide_66 ?_
            refine z_goto (pc := 67) 71 C dX5_isSide_67 (by decide) ?_
            refine z_istore_n (pc := 71) [(0, (.ref (qD 0))), (1, (.int x1)), (2, (.int x2)), (3, (.int (1 : Int32))), (4, (.int x4)), (5, (.int x5)), (6, (.int r_1))] [1, 2, 3, 0, 4, 5, 6] (by decide) rfl rfl C dX5_isSide_71 ?_
            refine z_iinc (pc := 72) (x5 + 1) 5 rfl rfl [(0, (.ref (qD 0))), (1, (.int x1)), (2, (.int x2)), (3, (.int (1 : Int32))), (4, (.int x4)), (5, (.int (x5 + 1))), (6, (.int r_1))] [1, 2, 3, 4, 5, 0, 6] (by decide) rfl C dX5_isSide_72 ?_
            refine z_goto (pc := 75) 19 C dX5_isSide_75 (by decide) ?_
            refine z_lv [(0, (.ref (qD 0))), (1, (.int x1)), (2, (.int x2)), (3, (.int (1 : Int32))), (4, (.int x4)), (5, (.int (x5 + 1)))] [0, 1, 2, 3, 4, 5] rfl ?_
            exact hk_19 _ _
          · refine z_iconst (pc := 70) (0 : Int32) (by decide) C dX5_isSide_70 ?_
            refine z_istore_n (pc := 71) [(0, (.ref (qD 0))), (1, (.int x1)), (2, (.int x2)), (3, (.int (0 : Int32))), (4, (.int x4)), (5, (.int x5)), (6, (.int r_1))] [1, 2, 3, 0, 4, 5, 6] (by decide) rfl rfl C dX5_isSide_71 ?_
            refine z_iinc (pc := 72) (x5 + 1) 5 rfl rfl [(0, (.ref (qD 0))), (1, (.int x1)), (2, (.int x2)), (3, (.int (0 : Int32))), (4, (.int x4)), (5, (.int (x5 + 1))), (6, (.int r_1))] [1, 2, 3, 4, 5, 0, 6] (by decide) rfl C dX5_isSide_72 ?_
            refine z_goto (pc := 75) 19 C dX5_isSide_75 (by decide) ?_
            refine z_lv [(0, (.ref (qD 0))), (1, (.int x1)), (2, (.int x2)), (3, (.int (0 : Int32))), (4, (.int x4)), (5, (.int (x5 + 1)))] [0, 1, 2, 3, 4, 5] rfl ?_
            exact hk_19 _ _
      · refine z_iconst (pc := 66) (1 : Int32) (by decide) C dX5_isSide_66 ?_
        refine z_goto (pc := 67) 71 C dX5_isSide_67 (by decide) ?_
        refine z_istore_n (pc := 71) [(0, (.ref (qD 0))), (1, (.int x1)), (2, (.int x2)), (3, (.int (1 : Int32))), (4, (.int x4)), (5, (.int x5)), (6, (.int r_1))] [1, 2, 3, 0, 4, 5, 6] (by decide) rfl rfl C dX5_isSide_71 ?_
        refine z_iinc (pc := 72) (x5 + 1) 5 rfl rfl [(0, (.ref (qD 0))), (1, (.int x1)), (2, (.int x2)), (3, (.int (1 : Int32))), (4, (.int x4)), (5, (.int (x5 + 1))), (6, (.int r_1))] [1, 2, 3, 4, 5, 0, 6] (by decide) rfl C dX5_isSide_72 ?_
        refine z_goto (pc := 75) 19 C dX5_isSide_75 (by decide) ?_
        refine z_lv [(0, (.ref (qD 0))), (1, (.int x1)), (2, (.int x2)), (3, (.int (1 : Int32))), (4, (.int x4)), (5, (.int (x5 + 1)))] [0, 1, 2, 3, 4, 5] rfl ?_
        exact hk_19 _ _
    · refine z_iinc (pc := 78) (x4 + 1) 4 rfl rfl [(0, (.ref (qD 0))), (1, (.int x1)), (2, (.int x2)), (3, (.int x3)), (4, (.int (x4 + 1))), (5, (.int x5))] [1, 2, 3, 4, 0, 5] (by decide) rfl C dX5_isSide_78 ?_
      refine z_goto (pc := 81) 5 C dX5_isSide_81 (by decide) ?_
      refine z_lv [(0, (.ref (qD 0))), (1, (.int x1)), (2, (.int x2)), (3, (.int x3)), (4, (.int (x4 + 1)))] [0, 1, 2, 3, 4] rfl ?_
      exact hk_5 _ _
def bX5_isSide_5 (F : Nat) (x1 : Int32) (x2 : Int32) (sD : zOS) (kc_5 : (Int32 × Int32) → Option (Int32)) (x3 : Int32) (x4 : Int32) : Option (Int32) := (if (64 : Int32) ≤ x4 then (zbk x3 (some (x3))) else (if x3 = 0 then (zit (P := Int32 × Int32) (R := Int32) (fun kc9 p9 => bX5_isSide_19 F kc_5 x1 x2 x4 sD kc9 p9.1 p9.2) F (x3, (0 : Int32))) else (zbk x3 (some (x3)))))
set_option maxRecDepth 20000 in
theorem vX5_isSide_5 {X : zCx} {res : Int32} {F : Nat} {qD : Nat → Nat} {sD : zOS} {x1 : Int32} {x2 : Int32} {kc_5 : (Int32 × Int32) → Option (Int32)} (C : zC X RX5 cX5_isSide 7 3 66) (hR : zR X (some .boolean) (some (.int res)) [(5, qD, sD)]) (hk_5 : ∀ (y3 : Int32) (y4 : Int32), zJ X 7 res (kc_5 (y3, y4)) 5 [(0, (.ref (qD 0))), (1, (.int x1)), (2, (.int x2)), (3, (.int y3)), (4, (.int y4))] [] [(5, qD, sD)]) (x3 : Int32) (x4 : Int32) : zJ X 7 res (bX5_isSide_5 F x1 x2 sD kc_5 x3 x4) 5 [(0, (.ref (qD 0))), (1, (.int x1)), (2, (.int x2)), (3, (.int x3)), (4, (.int x4))] [] [(5, qD, sD)] := by
  unfold bX5_isSide_5
  refine z_iload (pc := 5) 4 rfl C dX5_isSide_5 ?_
  refine z_bipush (pc := 7) (64 : Int32) (by decide) C dX5_isSide_7 ?_
  refine z_icmp_ge (pc := 9) 84 C dX5_isSide_9 (by decide) ?_ ?_
  · refine z_iload_n (pc := 84) 3 rfl rfl C dX5_isSide_84 ?_
    exact z_zreturn (pc := 85) C hR dX5_isSide_85 (fun h => by subst h; exact ⟨rfl, rfl⟩)
  · refine z_iload_n (pc := 12) 3 rfl rfl C dX5_isSide_12 ?_
    refine z_if_ne (pc := 13) 84 C dX5_isSide_13 (by decide) ?_ ?_
    · refine z_iconst (pc := 16) (0 : Int32) (by decide) C dX5_isSide_16 ?_
      refine z_istore (pc := 17) [(0, (.ref (qD 0))), (1, (.int x1)), (2, (.int x2)), (3, (.int x3)), (4, (.int x4)), (5, (.int (0 : Int32)))] [1, 2, 3, 4, 5, 0] (by decide) rfl C dX5_isSide_17 ?_
      show zJ X 7 res _ 19 [(0, (.ref (qD 0))), (1, (.int x1)), (2, (.int x2)), (3, (.int x3)), (4, (.int x4)), (5, (.int (0 : Int32)))] [] [(5, qD, sD)]
      exact zit_J (P := Int32 × Int32) (B := (fun kc9 p9 => bX5_isSide_19 F kc_5 x1 x2 x4 sD kc9 p9.1 p9.2)) (fun p9 => [(0, (.ref (qD 0))), (1, (.int x1)), (2, (.int x2)), (3, (.int p9.1)), (4, (.int x4)), (5, (.int p9.2))]) (fun p9 => [(5, qD, sD)]) (fun kc9 hk9 p9 => vX5_isSide_19 C hR  hk_5 (fun a0 a1 => hk9 (a0, a1)) p9.1 p9.2) F _
    · refine z_iload_n (pc := 84) 3 rfl rfl C dX5_isSide_84 ?_
      exact z_zreturn (pc := 85) C hR dX5_isSide_85 (fun h => by subst h; exact ⟨rfl, rfl⟩)
def fX5_isSide (F : Nat) (x1 : Int32) (x2 : Int32) (sD : zOS) : Option (Int32) := (zit (P := Int32 × Int32) (R := Int32) (fun kc9 p9 => bX5_isSide_5 F x1 x2 sD kc9 p9.1 p9.2) F ((0 : Int32), (0 : Int32)))
set_option maxRecDepth 20000 in
theorem wX5_isSide {X : zCx} {res : Int32} {F : Nat} {qD : Nat → Nat} {x1 : Int32} {x2 : Int32} {sD : zOS} (C : zC X RX5 cX5_isSide 7 3 66) (hR : zR X (some .boolean) (some (.int res)) [(5, qD, sD)])  : zJ X 7 res (fX5_isSide F x1 x2 sD) 0 [(0, (.ref (qD 0))), (1, (.int x1)), (2, (.int x2))] [] [(5, qD, sD)] := by
  unfold fX5_isSide
  refine z_iconst (pc := 0) (0 : Int32) (by decide) C dX5_isSide_0 ?_
  refine z_istore_n (pc := 1) [(0, (.ref (qD 0))), (1, (.int x1)), (2, (.int x2)), (3, (.int (0 : Int32)))] [1, 2, 3, 0] (by decide) rfl rfl C dX5_isSide_1 ?_
  refine z_iconst (pc := 2) (0 : Int32) (by decide) C dX5_isSide_2 ?_
  refine z_istore (pc := 3) [(0, (.ref (qD 0))), (1, (.int x1)), (2, (.int x2)), (3, (.int (0 : Int32))), (4, (.int (0 : Int32)))] [1, 2, 3, 4, 0] (by decide) rfl C dX5_isSide_3 ?_
  show zJ X 7 res _ 5 [(0, (.ref (qD 0))), (1, (.int x1)), (2, (.int x2)), (3, (.int (0 : Int32))), (4, (.int (0 : Int32)))] [] [(5, qD, sD)]
  exact zit_J (P := Int32 × Int32) (B := (fun kc9 p9 => bX5_isSide_5 F x1 x2 sD kc9 p9.1 p9.2)) (fun p9 => [(0, (.ref (qD 0))), (1, (.int x1)), (2, (.int x2)), (3, (.int p9.1)), (4, (.int p9.2))]) (fun p9 => [(5, qD, sD)]) (fun kc9 hk9 p9 => vX5_isSide_5 C hR   (fun a0 a1 => hk9 (a0, a1)) p9.1 p9.2) F _
theorem mX5_isSide {F : Nat} {qD : Nat → Nat} {x1 : Int32} {x2 : Int32} {sD : zOS} {res : Int32}  (hf : fX5_isSide F x1 x2 sD = some res) : zM yX5_isSide cX5_isSide 7 (some .boolean) 3 66 [(.ref (qD 0)), (.int x1), (.int x2)] [(5, qD, sD)] (some (.int res)) [(5, qD, sD)] := zM_of (by decide +kernel) (Nat.le_of_ble_eq_true rfl) (fun X C hR => wX5_isSide (F := F) C hR  hf)
theorem dX5_countSides_0 : decode cX5_countSides 0 = .ok (.iconst 0, 1) := by decide +kernel
theorem dX5_countSides_1 : decode cX5_countSides 1 = .ok (.istore_n 2, 1) := by decide +kernel
theorem dX5_countSides_2 : decode cX5_countSides 2 = .ok (.iconst (-1), 1) := by decide +kernel
theorem dX5_countSides_3 : decode cX5_countSides 3 = .ok (.istore_n 3, 1) := by decide +kernel
theorem dX5_countSides_4 : decode cX5_countSides 4 = .ok (.iconst (-1), 1) := by decide +kernel
theorem dX5_countSides_5 : decode cX5_countSides 5 = .ok (.istore 4, 2) := by decide +kernel
theorem dX5_countSides_7 : decode cX5_countSides 7 = .ok (.iconst 0, 1) := by decide +kernel
theorem dX5_countSides_8 : decode cX5_countSides 8 = .ok (.istore 5, 2) := by decide +kernel
theorem dX5_countSides_10 : decode cX5_countSides 10 = .ok (.iload 5, 2) := by decide +kernel
theorem dX5_countSides_12 : decode cX5_countSides 12 = .ok (.aload_n 0, 1) := by decide +kernel
theorem dX5_countSides_13 : decode cX5_countSides 13 = .ok (.getfield 144, 3) := by decide +kernel
theorem dX5_countSides_16 : decode cX5_countSides 16 = .ok (.if_icmp .ge 37, 3) := by decide +kernel
theorem dX5_countSides_19 : decode cX5_countSides 19 = .ok (.aload_n 0, 1) := by decide +kernel
theorem dX5_countSides_20 : decode cX5_countSides 20 = .ok (.iload_n 1, 1) := by decide +kernel
theorem dX5_countSides_21 : decode cX5_countSides 21 = .ok (.iload 5, 2) := by decide +kernel
theorem dX5_countSides_23 : decode cX5_countSides 23 = .ok (.invokevirtual 147, 3) := by decide +kernel
theorem dX5_countSides_26 : decode cX5_countSides 26 = .ok (.ifCond .eq 21, 3) := by decide +kernel
theorem dX5_countSides_29 : decode cX5_countSides 29 = .ok (.iload_n 2, 1) := by decide +kernel
theorem dX5_countSides_30 : decode cX5_countSides 30 = .ok (.ifCond .ne 8, 3) := by decide +kernel
theorem dX5_countSides_33 : decode cX5_countSides 33 = .ok (.iload 5, 2) := by decide +kernel
theorem dX5_countSides_35 : decode cX5_countSides 35 = .ok (.goto 4, 3) := by decide +kernel
theorem dX5_countSides_38 : decode cX5_countSides 38 = .ok (.iload_n 3, 1) := by decide +kernel
theorem dX5_countSides_39 : decode cX5_countSides 39 = .ok (.istore_n 3, 1) := by decide +kernel
theorem dX5_countSides_40 : decode cX5_countSides 40 = .ok (.iload 5, 2) := by decide +kernel
theorem dX5_countSides_42 : decode cX5_countSides 42 = .ok (.istore 4, 2) := by decide +kernel
theorem dX5_countSides_44 : decode cX5_countSides 44 = .ok (.iinc 2 1, 3) := by decide +kernel
theorem dX5_countSides_47 : decode cX5_countSides 47 = .ok (.iinc 5 1, 3) := by decide +kernel
theorem dX5_countSides_50 : decode cX5_countSides 50 = .ok (.goto (-40), 3) := by decide +kernel
theorem dX5_countSides_53 : decode cX5_countSides 53 = .ok (.aload_n 0, 1) := by decide +kernel
theorem dX5_countSides_54 : decode cX5_countSides 54 = .ok (.getfield 31, 3) := by decide +kernel
theorem dX5_countSides_57 : decode cX5_countSides 57 = .ok (.bipush 6, 2) := by decide +kernel
theorem dX5_countSides_59 : decode cX5_countSides 59 = .ok (.iload_n 1, 1) := by decide +kernel
theorem dX5_countSides_60 : decode cX5_countSides 60 = .ok (.imul, 1) := by decide +kernel
theorem dX5_countSides_61 : decode cX5_countSides 61 = .ok (.iconst 4, 1) := by decide +kernel
theorem dX5_countSides_62 : decode cX5_countSides 62 = .ok (.iadd, 1) := by decide +kernel
theorem dX5_countSides_63 : decode cX5_countSides 63 = .ok (.iload_n 2, 1) := by decide +kernel
theorem dX5_countSides_64 : decode cX5_countSides 64 = .ok (.iastore, 1) := by decide +kernel
theorem dX5_countSides_65 : decode cX5_countSides 65 = .ok (.aload_n 0, 1) := by decide +kernel
theorem dX5_countSides_66 : decode cX5_countSides 66 = .ok (.getfield 31, 3) := by decide +kernel
theorem dX5_countSides_69 : decode cX5_countSides 69 = .ok (.bipush 6, 2) := by decide +kernel
theorem dX5_countSides_71 : decode cX5_countSides 71 = .ok (.iload_n 1, 1) := by decide +kernel
theorem dX5_countSides_72 : decode cX5_countSides 72 = .ok (.imul, 1) := by decide +kernel
theorem dX5_countSides_73 : decode cX5_countSides 73 = .ok (.iconst 1, 1) := by decide +kernel
theorem dX5_countSides_74 : decode cX5_countSides 74 = .ok (.iadd, 1) := by decide +kernel
theorem dX5_countSides_75 : decode cX5_countSides 75 = .ok (.iload_n 2, 1) := by decide +kernel
theorem dX5_countSides_76 : decode cX5_countSides 76 = .ok (.iconst 1, 1) := by decide +kernel
theorem dX5_countSides_77 : decode cX5_countSides 77 = .ok (.if_icmp .eq 8, 3) := by decide +kernel
theorem dX5_countSides_80 : decode cX5_countSides 80 = .ok (.iload_n 2, 1) := by decide +kernel
theorem dX5_countSides_81 : decode cX5_countSides 81 = .ok (.iconst 2, 1) := by decide +kernel
theorem dX5_countSides_82 : decode cX5_countSides 82 = .ok (.if_icmp .ne 7, 3) := by decide +kernel
theorem dX5_countSides_85 : decode cX5_countSides 85 = .ok (.iload_n 3, 1) := by decide +kernel
theorem dX5_countSides_86 : decode cX5_countSides 86 = .ok (.goto 4, 3) := by decide +kernel
theorem dX5_countSides_89 : decode cX5_countSides 89 = .ok (.iconst (-1), 1) := by decide +kernel
theorem dX5_countSides_90 : decode cX5_countSides 90 = .ok (.iastore, 1) := by decide +kernel
theorem dX5_countSides_91 : decode cX5_countSides 91 = .ok (.aload_n 0, 1) := by decide +kernel
theorem dX5_countSides_92 : decode cX5_countSides 92 = .ok (.getfield 31, 3) := by decide +kernel
theorem dX5_countSides_95 : decode cX5_countSides 95 = .ok (.bipush 6, 2) := by decide +kernel
theorem dX5_countSides_97 : decode cX5_countSides 97 = .ok (.iload_n 1, 1) := by decide +kernel
theorem dX5_countSides_98 : decode cX5_countSides 98 = .ok (.imul, 1) := by decide +kernel
theorem dX5_countSides_99 : decode cX5_countSides 99 = .ok (.iconst 2, 1) := by decide +kernel
theorem dX5_countSides_100 : decode cX5_countSides 100 = .ok (.iadd, 1) := by decide +kernel
theorem dX5_countSides_101 : decode cX5_countSides 101 = .ok (.iload_n 2, 1) := by decide +kernel
theorem dX5_countSides_102 : decode cX5_countSides 102 = .ok (.iconst 1, 1) := by decide +kernel
theorem dX5_countSides_103 : decode cX5_countSides 103 = .ok (.if_icmp .eq 8, 3) := by decide +kernel
theorem dX5_countSides_106 : decode cX5_countSides 106 = .ok (.iload_n 2, 1) := by decide +kernel
theorem dX5_countSides_107 : decode cX5_countSides 107 = .ok (.iconst 2, 1) := by decide +kernel
theorem dX5_countSides_108 : decode cX5_countSides 108 = .ok (.if_icmp .ne 8, 3) := by decide +kernel
theorem dX5_countSides_111 : decode cX5_countSides 111 = .ok (.iload 4, 2) := by decide +kernel
theorem dX5_countSides_113 : decode cX5_countSides 113 = .ok (.goto 4, 3) := by decide +kernel
theorem dX5_countSides_116 : decode cX5_countSides 116 = .ok (.iconst (-1), 1) := by decide +kernel
theorem dX5_countSides_117 : decode cX5_countSides 117 = .ok (.iastore, 1) := by decide +kernel
theorem dX5_countSides_118 : decode cX5_countSides 118 = .ok (.return_, 1) := by decide +kernel
def jX5_countSides_117 (F : Nat) (v0 : Int32) (v1 : Int32) (sD : zOS) : Option (zOS) := (zchk v1 192 (zlet (zsI sD 8 (upd (zI sD 8) v1.toNatClampNeg v0)) (fun sD_3 : zOS => (some (sD_3)))))
set_option maxRecDepth 20000 in
theorem wX5_countSides_117 {X : zCx} {res : zOS} {F : Nat} {qD : Nat → Nat} (C : zC X RX5 cX5_countSides 6 4 92) (hR : zR X none none [(5, qD, res)]) (sD : zOS) (v0 : Int32) (v1 : Int32) : zJ X 6 res (jX5_countSides_117 F v0 v1 sD) 117 [] [(.int v0), (.int v1), (.ref (qD 8))] [(5, qD, sD)] := by
  unfold jX5_countSides_117
  refine z_iast (pc := 117) 0 C dX5_countSides_117 rfl (by unfold zAr; decide) [(5, qD, (zsI sD 8 (upd (zI sD 8) v1.toNatClampNeg v0)))] rfl ?_
  refine z_letc (fun z9 => [(5, qD, z9)]) (fun sD_3 => ?_)
  exact z_return (pc := 118) C hR dX5_countSides_118 (fun h => by subst h; exact ⟨rfl, rfl⟩)
def jX5_countSides_111 (F : Nat) (x4 : Int32) (v0 : Int32) (sD : zOS) : Option (zOS) := (jX5_countSides_117 F x4 v0 sD)
set_option maxRecDepth 20000 in
theorem wX5_countSides_111 {X : zCx} {res : zOS} {F : Nat} {qD : Nat → Nat} (C : zC X RX5 cX5_countSides 6 4 92) (hR : zR X none none [(5, qD, res)]) (x4 : Int32) (sD : zOS) (v0 : Int32) : zJ X 6 res (jX5_countSides_111 F x4 v0 sD) 111 [(4, (.int x4))] [(.int v0), (.ref (qD 8))] [(5, qD, sD)] := by
  unfold jX5_countSides_111
  refine z_iload (pc := 111) 0 rfl C dX5_countSides_111 ?_
  refine z_goto (pc := 113) 117 C dX5_countSides_113 (by decide) ?_
  refine z_lv [] [] rfl ?_
  exact wX5_countSides_117 C hR   _ _ _
def jX5_countSides_90 (F : Nat) (x1 : Int32) (x2 : Int32) (x4 : Int32) (v0 : Int32) (v1 : Int32) (sD : zOS) : Option (zOS) := (zchk v1 192 (zlet (zsI sD 8 (upd (zI sD 8) v1.toNatClampNeg v0)) (fun sD_2 : zOS => (if x2 = (1 : Int32) then (jX5_countSides_111 F x4 (((6 : Int32) * x1) + (2 : Int32)) sD_2) else (if x2 = (2 : Int32) then (jX5_countSides_111 F x4 (((6 : Int32) * x1) + (2 : Int32)) sD_2) else (jX5_countSides_117 F (-1 : Int32) (((6 : Int32) * x1) + (2 : Int32)) sD_2))))))
set_option maxRecDepth 20000 in
theorem wX5_countSides_90 {X : zCx} {res : zOS} {F : Nat} {qD : Nat → Nat} (C : zC X RX5 cX5_countSides 6 4 92) (hR : zR X none none [(5, qD, res)]) (x1 : Int32) (x2 : Int32) (x4 : Int32) (sD : zOS) (v0 : Int32) (v1 : Int32) : zJ X 6 res (jX5_countSides_90 F x1 x2 x4 v0 v1 sD) 90 [(0, (.ref (qD 0))), (1, (.int x1)), (2, (.int x2)), (4, (.int x4))] [(.int v0), (.int v1), (.ref (qD 8))] [(5, qD, sD)] := by
  unfold jX5_countSides_90
  refine z_iast (pc := 90) 0 C dX5_countSides_90 rfl (by unfold zAr; decide) [(5, qD, (zsI sD 8 (upd (zI sD 8) v1.toNatClampNeg v0)))] rfl ?_
  refine z_letc (fun z9 => [(5, qD, z9)]) (fun sD_2 => ?_)
  refine z_aload_n (pc := 91) 0 rfl rfl C dX5_countSides_91 ?_
  refine z_getR (pc := 92) 0 13 8 C dX5_countSides_92 rfl (by decide) (by decide) rfl zw_728 ?_
  refine z_bipush (pc := 95) (6 : Int32) (by decide) C dX5_countSides_95 ?_
  refine z_iload_n (pc := 97) 1 rfl rfl C dX5_countSides_97 ?_
  refine z_imul (pc := 98) C dX5_countSides_98 ?_
  refine z_iconst (pc := 99) (2 : Int32) (by decide) C dX5_countSides_99 ?_
  refine z_iadd (pc := 100) C dX5_countSides_100 ?_
  refine z_iload_n (pc := 101) 2 rfl rfl C dX5_countSides_101 ?_
  refine z_iconst (pc := 102) (1 : Int32) (by decide) C dX5_countSides_102 ?_
  refine z_icmp_eq (pc := 103) 111 C dX5_countSides_103 (by decide) ?_ ?_
  · refine z_lv [(4, (.int x4))] [3] rfl ?_
    exact wX5_countSides_111 C hR   _ _ _
  · refine z_iload_n (pc := 106) 2 rfl rfl C dX5_countSides_106 ?_
    refine z_iconst (pc := 107) (2 : Int32) (by decide) C dX5_countSides_107 ?_
    refine z_icmp_ne (pc := 108) 116 C dX5_countSides_108 (by decide) ?_ ?_
    · refine z_lv [(4, (.int x4))] [3] rfl ?_
      exact wX5_countSides_111 C hR   _ _ _
    · refine z_iconst (pc := 116) (-1 : Int32) (by decide) C dX5_countSides_116 ?_
      refine z_lv [] [] rfl ?_
      exact wX5_countSides_117 C hR   _ _ _
def jX5_countSides_85 (F : Nat) (x1 : Int32) (x2 : Int32) (x3 : Int32) (x4 : Int32) (v0 : Int32) (sD : zOS) : Option (zOS) := (jX5_countSides_90 F x1 x2 x4 x3 v0 sD)
set_option maxRecDepth 20000 in
theorem wX5_countSides_85 {X : zCx} {res : zOS} {F : Nat} {qD : Nat → Nat} (C : zC X RX5 cX5_countSides 6 4 92) (hR : zR X none none [(5, qD, res)]) (x1 : Int32) (x2 : Int32) (x3 : Int32) (x4 : Int32) (sD : zOS) (v0 : Int32) : zJ X 6 res (jX5_countSides_85 F x1 x2 x3 x4 v0 sD) 85 [(0, (.ref (qD 0))), (1, (.int x1)), (2, (.int x2)), (3, (.int x3)), (4, (.int x4))] [(.int v0), (.ref (qD 8))] [(5, qD, sD)] := by
  unfold jX5_countSides_85
  refine z_iload_n (pc := 85) 3 rfl rfl C dX5_countSides_85 ?_
  refine z_goto (pc := 86) 90 C dX5_countSides_86 (by decide) ?_
  refine z_lv [(0, (.ref (qD 0))), (1, (.int x1)), (2, (.int x2)), (4, (.int x4))] [0, 1, 2, 4] rfl ?_
  exact wX5_countSides_90 C hR   _ _ _ _ _ _
def bX5_countSides_10 (F : Nat) (x1 : Int32) (sD : zOS) (kc_10 : (Int32 × Int32 × Int32 × Int32) → Option (zOS)) (x2 : Int32) (x3 : Int32) (x4 : Int32) (x5 : Int32) : Option (zOS) := (if (zF sD 7) ≤ x5 then (zchk (((6 : Int32) * x1) + (4 : Int32)) 192 (zlet (zsI sD 8 (upd (zI sD 8) (((6 : Int32) * x1) + (4 : Int32)).toNatClampNeg x2)) (fun sD_1 : zOS => (if x2 = (1 : Int32) then (jX5_countSides_85 F x1 x2 x3 x4 (((6 : Int32) * x1) + (1 : Int32)) sD_1) else (if x2 = (2 : Int32) then (jX5_countSides_85 F x1 x2 x3 x4 (((6 : Int32) * x1) + (1 : Int32)) sD_1) else (jX5_countSides_90 F x1 x2 x4 (-1 : Int32) (((6 : Int32) * x1) + (1 : Int32)) sD_1)))))) else (Option.bind (fX5_isSide F x1 x5 sD) (fun r_4 : Int32 => (if r_4 = 0 then (kc_10 (x2, x3, x4, (x5 + 1))) else (if x2 = 0 then (kc_10 ((x2 + 1), x5, x5, (x5 + 1))) else (kc_10 ((x2 + 1), x3, x5, (x5 + 1))))))))
set_option maxRecDepth 20000 in
theorem vX5_countSides_10 {X : zCx} {res : zOS} {F : Nat} {qD : Nat → Nat} {sD : zOS} {x1 : Int32} {kc_10 : (Int32 × Int32 × Int32 × Int32) → Option (zOS)} (C : zC X RX5 cX5_countSides 6 4 92) (hR : zR X none none [(5, qD, res)]) (hk_10 : ∀ (y2 : Int32) (y3 : Int32) (y4 : Int32) (y5 : Int32), zJ X 6 res (kc_10 (y2, y3, y4, y5)) 10 [(0, (.ref (qD 0))), (1, (.int x1)), (2, (.int y2)), (3, (.int y3)), (4, (.int y4)), (5, (.int y5))] [] [(5, qD, sD)]) (x2 : Int32) (x3 : Int32) (x4 : Int32) (x5 : Int32) : zJ X 6 res (bX5_countSides_10 F x1 sD kc_10 x2 x3 x4 x5) 10 [(0, (.ref (qD 0))), (1, (.int x1)), (2, (.int x2)), (3, (.int x3)), (4, (.int x4)), (5, (.int x5))] [] [(5, qD, sD)] := by
  unfold bX5_countSides_10
  refine z_iload (pc := 10) 5 rfl C dX5_countSides_10 ?_
  refine z_aload_n (pc := 12) 0 rfl rfl C dX5_countSides_12 ?_
  refine z_getI (pc := 13) 0 7 C dX5_countSides_13 rfl (by decide) (by decide) rfl zw_722 ?_
  refine z_icmp_ge (pc := 16) 53 C dX5_countSides_16 (by decide) ?_ ?_
  · refine z_aload_n (pc := 53) 0 rfl rfl C dX5_countSides_53 ?_
    refine z_getR (pc := 54) 0 13 8 C dX5_countSides_54 rfl (by decide) (by decide) rfl zw_728 ?_
    refine z_bipush (pc := 57) (6 : Int32) (by decide) C dX5_countSides_57 ?_
    refine z_iload_n (pc := 59) 1 rfl rfl C dX5_countSides_59 ?_
    refine z_imul (pc := 60) C dX5_countSides_60 ?_
    refine z_iconst (pc := 61) (4 : Int32) (by decide) C dX5_countSides_61 ?_
    refine z_iadd (pc := 62) C dX5_countSides_62 ?_
    refine z_iload_n (pc := 63) 2 rfl rfl C dX5_countSides_63 ?_
    refine z_iast (pc := 64) 0 C dX5_countSides_64 rfl (by unfold zAr; decide) [(5, qD, (zsI sD 8 (upd (zI sD 8) (((6 : Int32) * x1) + (4 : Int32)).toNatClampNeg x2)))] rfl ?_
    refine z_letc (fun z9 => [(5, qD, z9)]) (fun sD_1 => ?_)
    refine z_aload_n (pc := 65) 0 rfl rfl C dX5_countSides_65 ?_
    refine z_getR (pc := 66) 0 13 8 C dX5_countSides_66 rfl (by decide) (by decide) rfl zw_728 ?_
    refine z_bipush (pc := 69) (6 : Int32) (by decide) C dX5_countSides_69 ?_
    refine z_iload_n (pc := 71) 1 rfl rfl C dX5_countSides_71 ?_
    refine z_imul (pc := 72) C dX5_countSides_72 ?_
    refine z_iconst (pc := 73) (1 : Int32) (by decide) C dX5_countSides_73 ?_
    refine z_iadd (pc := 74) C dX5_countSides_74 ?_
    refine z_iload_n (pc := 75) 2 rfl rfl C dX5_countSides_75 ?_
    refine z_iconst (pc := 76) (1 : Int32) (by decide) C dX5_countSides_76 ?_
    refine z_icmp_eq (pc := 77) 85 C dX5_countSides_77 (by decide) ?_ ?_
    · refine z_lv [(0, (.ref (qD 0))), (1, (.int x1)), (2, (.int x2)), (3, (.int x3)), (4, (.int x4))] [0, 1, 2, 3, 4] rfl ?_
      exact wX5_countSides_85 C hR   _ _ _ _ _ _
    · refine z_iload_n (pc := 80) 2 rfl rfl C dX5_countSides_80 ?_
      refine z_iconst (pc := 81) (2 : Int32) (by decide) C dX5_countSides_81 ?_
      refine z_icmp_ne (pc := 82) 89 C dX5_countSides_82 (by decide) ?_ ?_
      · refine z_lv [(0, (.ref (qD 0))), (1, (.int x1)), (2, (.int x2)), (3, (.int x3)), (4, (.int x4))] [0, 1, 2, 3, 4] rfl ?_
        exact wX5_countSides_85 C hR   _ _ _ _ _ _
      · refine z_iconst (pc := 89) (-1 : Int32) (by decide) C dX5_countSides_89 ?_
        refine z_lv [(0, (.ref (qD 0))), (1, (.int x1)), (2, (.int x2)), (4, (.int x4))] [0, 1, 2, 4] rfl ?_
        exact wX5_countSides_90 C hR   _ _ _ _ _ _
  · refine z_aload_n (pc := 19) 0 rfl rfl C dX5_countSides_19 ?_
    refine z_iload_n (pc := 20) 1 rfl rfl C dX5_countSides_20 ?_
    refine z_iload (pc := 21) 5 rfl C dX5_countSides_21 ?_
    refine z_callV (pc := 23) (rf' := 3) (rl' := 66) (fX5_isSide F x1 x5 sD) [(.int x1), (.int x5)] [] [(5, qD, sD)] (fun r_4 => (some (.int r_4))) (fun r_4 => [(5, qD, sD)]) [] (fun r_4 => [(5, qD, sD)]) C dX5_countSides_23 zy_X5_isSide zw_930 (fun _ hr9 => mX5_isSide  hr9) (by decide) rfl rfl (by decide) rfl (Nat.le_of_ble_eq_true rfl) (List.Perm.refl _) (fun _ => List.Perm.refl _) rfl (fun r_4 hr_5 => ?_)
    show zJ X 6 res _ 26 [(0, (.ref (qD 0))), (1, (.int x1)), (2, (.int x2)), (3, (.int x3)), (4, (.int x4)), (5, (.int x5))] [(.int r_4)] [(5, qD, sD)]
    refine z_if_eq (pc := 26) 47 C dX5_countSides_26 (by decide) ?_ ?_
    · refine z_iinc (pc := 47) (x5 + 1) 5 rfl rfl [(0, (.ref (qD 0))), (1, (.int x1)), (2, (.int x2)), (3, (.int x3)), (4, (.int x4)), (5, (.int (x5 + 1)))] [1, 2, 3, 4, 5, 0] (by decide) rfl C dX5_countSides_47 ?_
      refine z_goto (pc := 50) 10 C dX5_countSides_50 (by decide) ?_
      exact hk_10 _ _ _ _
    · refine z_iload_n (pc := 29) 2 rfl rfl C dX5_countSides_29 ?_
      refine z_if_ne (pc := 30) 38 C dX5_countSides_30 (by decide) ?_ ?_
      · refine z_iload (pc := 33) 5 rfl C dX5_countSides_33 ?_
        refine z_goto (pc := 35) 39 C dX5_countSides_35 (by decide) ?_
        refine z_istore_n (pc := 39) [(0, (.ref (qD 0))), (1, (.int x1)), (2, (.int x2)), (3, (.int x5)), (4, (.int x4)), (5, (.int x5))] [1, 2, 3, 0, 4, 5] (by decide) rfl rfl C dX5_countSides_39 ?_
        refine z_iload (pc := 40) 5 rfl C dX5_countSides_40 ?_
        refine z_istore (pc := 42) [(0, (.ref (qD 0))), (1, (.int x1)), (2, (.int x2)), (3, (.int x5)), (4, (.int x5)), (5, (.int x5))] [1, 2, 3, 4, 0, 5] (by decide) rfl C dX5_countSides_42 ?_
        refine z_iinc (pc := 44) (x2 + 1) 2 rfl rfl [(0, (.ref (qD 0))), (1, (.int x1)), (2, (.int (x2 + 1))), (3, (.int x5)), (4, (.int x5)), (5, (.int x5))] [1, 2, 0, 3, 4, 5] (by decide) rfl C dX5_countSides_44 ?_
        refine z_iinc (pc := 47) (x5 + 1) 5 rfl rfl [(0, (.ref (qD 0))), (1, (.int x1)), (2, (.int (x2 + 1))), (3, (.int x5)), (4, (.int x5)), (5, (.int (x5 + 1)))] [1, 2, 3, 4, 5, 0] (by decide) rfl C dX5_countSides_47 ?_
        refine z_goto (pc := 50) 10 C dX5_countSides_50 (by decide) ?_
        exact hk_10 _ _ _ _
      · refine z_iload_n (pc := 38) 3 rfl rfl C dX5_countSides_38 ?_
        refine z_istore_n (pc := 39) [(0, (.ref (qD 0))), (1, (.int x1)), (2, (.int x2)), (3, (.int x3)), (4, (.int x4)), (5, (.int x5))] [1, 2, 3, 0, 4, 5] (by decide) rfl rfl C dX5_countSides_39 ?_
        refine z_iload (pc := 40) 5 rfl C dX5_countSides_40 ?_
        refine z_istore (pc := 42) [(0, (.ref (qD 0))), (1, (.int x1)), (2, (.int x2)), (3, (.int x3)), (4, (.int x5)), (5, (.int x5))] [1, 2, 3, 4, 0, 5] (by decide) rfl C dX5_countSides_42 ?_
        refine z_iinc (pc := 44) (x2 + 1) 2 rfl rfl [(0, (.ref (qD 0))), (1, (.int x1)), (2, (.int (x2 + 1))), (3, (.int x3)), (4, (.int x5)), (5, (.int x5))] [1, 2, 0, 3, 4, 5] (by decide) rfl C dX5_countSides_44 ?_
        refine z_iinc (pc := 47) (x5 + 1) 5 rfl rfl [(0, (.ref (qD 0))), (1, (.int x1)), (2, (.int (x2 + 1))), (3, (.int x3)), (4, (.int x5)), (5, (.int (x5 + 1)))] [1, 2, 3, 4, 5, 0] (by decide) rfl C dX5_countSides_47 ?_
        refine z_goto (pc := 50) 10 C dX5_countSides_50 (by decide) ?_
        exact hk_10 _ _ _ _
def fX5_countSides (F : Nat) (x1 : Int32) (sD : zOS) : Option (zOS) := (zit (P := Int32 × Int32 × Int32 × Int32) (R := zOS) (fun kc9 p9 => bX5_countSides_10 F x1 sD kc9 p9.1 p9.2.1 p9.2.2.1 p9.2.2.2) F ((0 : Int32), (-1 : Int32), (-1 : Int32), (0 : Int32)))
set_option maxRecDepth 20000 in
theorem wX5_countSides {X : zCx} {res : zOS} {F : Nat} {qD : Nat → Nat} {x1 : Int32} {sD : zOS} (C : zC X RX5 cX5_countSides 6 4 92) (hR : zR X none none [(5, qD, res)])  : zJ X 6 res (fX5_countSides F x1 sD) 0 [(0, (.ref (qD 0))), (1, (.int x1))] [] [(5, qD, sD)] := by
  unfold fX5_countSides
  refine z_iconst (pc := 0) (0 : Int32) (by decide) C dX5_countSides_0 ?_
  refine z_istore_n (pc := 1) [(0, (.ref (qD 0))), (1, (.int x1)), (2, (.int (0 : Int32)))] [1, 2, 0] (by decide) rfl rfl C dX5_countSides_1 ?_
  refine z_iconst (pc := 2) (-1 : Int32) (by decide) C dX5_countSides_2 ?_
  refine z_istore_n (pc := 3) [(0, (.ref (qD 0))), (1, (.int x1)), (2, (.int (0 : Int32))), (3, (.int (-1 : Int32)))] [1, 2, 3, 0] (by decide) rfl rfl C dX5_countSides_3 ?_
  refine z_iconst (pc := 4) (-1 : Int32) (by decide) C dX5_countSides_4 ?_
  refine z_istore (pc := 5) [(0, (.ref (qD 0))), (1, (.int x1)), (2, (.int (0 : Int32))), (3, (.int (-1 : Int32))), (4, (.int (-1 : Int32)))] [1, 2, 3, 4, 0] (by decide) rfl C dX5_countSides_5 ?_
  refine z_iconst (pc := 7) (0 : Int32) (by decide) C dX5_countSides_7 ?_
  refine z_istore (pc := 8) [(0, (.ref (qD 0))), (1, (.int x1)), (2, (.int (0 : Int32))), (3, (.int (-1 : Int32))), (4, (.int (-1 : Int32))), (5, (.int (0 : Int32)))] [1, 2, 3, 4, 5, 0] (by decide) rfl C dX5_countSides_8 ?_
  show zJ X 6 res _ 10 [(0, (.ref (qD 0))), (1, (.int x1)), (2, (.int (0 : Int32))), (3, (.int (-1 : Int32))), (4, (.int (-1 : Int32))), (5, (.int (0 : Int32)))] [] [(5, qD, sD)]
  exact zit_J (P := Int32 × Int32 × Int32 × Int32) (B := (fun kc9 p9 => bX5_countSides_10 F x1 sD kc9 p9.1 p9.2.1 p9.2.2.1 p9.2.2.2)) (fun p9 => [(0, (.ref (qD 0))), (1, (.int x1)), (2, (.int p9.1)), (3, (.int p9.2.1)), (4, (.int p9.2.2.1)), (5, (.int p9.2.2.2))]) (fun p9 => [(5, qD, sD)]) (fun kc9 hk9 p9 => vX5_countSides_10 C hR   (fun a0 a1 a2 a3 => hk9 (a0, a1, a2, a3)) p9.1 p9.2.1 p9.2.2.1 p9.2.2.2) F _
theorem mX5_countSides {F : Nat} {qD : Nat → Nat} {x1 : Int32} {sD : zOS} {res : zOS}  (hf : fX5_countSides F x1 sD = some res) : zM yX5_countSides cX5_countSides 6 none 4 92 [(.ref (qD 0)), (.int x1)] [(5, qD, sD)] none [(5, qD, res)] := zM_of (by decide +kernel) (Nat.le_of_ble_eq_true rfl) (fun X C hR => wX5_countSides (F := F) C hR  hf)
theorem dX5_findSides_0 : decode cX5_findSides 0 = .ok (.iconst 0, 1) := by decide +kernel
theorem dX5_findSides_1 : decode cX5_findSides 1 = .ok (.istore_n 1, 1) := by decide +kernel
theorem dX5_findSides_2 : decode cX5_findSides 2 = .ok (.iload_n 1, 1) := by decide +kernel
theorem dX5_findSides_3 : decode cX5_findSides 3 = .ok (.aload_n 0, 1) := by decide +kernel
theorem dX5_findSides_4 : decode cX5_findSides 4 = .ok (.getfield 131, 3) := by decide +kernel
theorem dX5_findSides_7 : decode cX5_findSides 7 = .ok (.if_icmp .ge 138, 3) := by decide +kernel
theorem dX5_findSides_10 : decode cX5_findSides 10 = .ok (.bipush 6, 2) := by decide +kernel
theorem dX5_findSides_12 : decode cX5_findSides 12 = .ok (.iload_n 1, 1) := by decide +kernel
theorem dX5_findSides_13 : decode cX5_findSides 13 = .ok (.imul, 1) := by decide +kernel
theorem dX5_findSides_14 : decode cX5_findSides 14 = .ok (.istore_n 2, 1) := by decide +kernel
theorem dX5_findSides_15 : decode cX5_findSides 15 = .ok (.aload_n 0, 1) := by decide +kernel
theorem dX5_findSides_16 : decode cX5_findSides 16 = .ok (.getfield 31, 3) := by decide +kernel
theorem dX5_findSides_19 : decode cX5_findSides 19 = .ok (.iload_n 2, 1) := by decide +kernel
theorem dX5_findSides_20 : decode cX5_findSides 20 = .ok (.iconst 1, 1) := by decide +kernel
theorem dX5_findSides_21 : decode cX5_findSides 21 = .ok (.iadd, 1) := by decide +kernel
theorem dX5_findSides_22 : decode cX5_findSides 22 = .ok (.iconst (-1), 1) := by decide +kernel
theorem dX5_findSides_23 : decode cX5_findSides 23 = .ok (.iastore, 1) := by decide +kernel
theorem dX5_findSides_24 : decode cX5_findSides 24 = .ok (.aload_n 0, 1) := by decide +kernel
theorem dX5_findSides_25 : decode cX5_findSides 25 = .ok (.getfield 31, 3) := by decide +kernel
theorem dX5_findSides_28 : decode cX5_findSides 28 = .ok (.iload_n 2, 1) := by decide +kernel
theorem dX5_findSides_29 : decode cX5_findSides 29 = .ok (.iconst 2, 1) := by decide +kernel
theorem dX5_findSides_30 : decode cX5_findSides 30 = .ok (.iadd, 1) := by decide +kernel
theorem dX5_findSides_31 : decode cX5_findSides 31 = .ok (.iconst (-1), 1) := by decide +kernel
theorem dX5_findSides_32 : decode cX5_findSides 32 = .ok (.iastore, 1) := by decide +kernel
theorem dX5_findSides_33 : decode cX5_findSides 33 = .ok (.aload_n 0, 1) := by decide +kernel
theorem dX5_findSides_34 : decode cX5_findSides 34 = .ok (.getfield 31, 3) := by decide +kernel
theorem dX5_findSides_37 : decode cX5_findSides 37 = .ok (.iload_n 2, 1) := by decide +kernel
theorem dX5_findSides_38 : decode cX5_findSides 38 = .ok (.iconst 3, 1) := by decide +kernel
theorem dX5_findSides_39 : decode cX5_findSides 39 = .ok (.iadd, 1) := by decide +kernel
theorem dX5_findSides_40 : decode cX5_findSides 40 = .ok (.iconst 0, 1) := by decide +kernel
theorem dX5_findSides_41 : decode cX5_findSides 41 = .ok (.iastore, 1) := by decide +kernel
theorem dX5_findSides_42 : decode cX5_findSides 42 = .ok (.aload_n 0, 1) := by decide +kernel
theorem dX5_findSides_43 : decode cX5_findSides 43 = .ok (.getfield 31, 3) := by decide +kernel
theorem dX5_findSides_46 : decode cX5_findSides 46 = .ok (.iload_n 2, 1) := by decide +kernel
theorem dX5_findSides_47 : decode cX5_findSides 47 = .ok (.iconst 5, 1) := by decide +kernel
theorem dX5_findSides_48 : decode cX5_findSides 48 = .ok (.iadd, 1) := by decide +kernel
theorem dX5_findSides_49 : decode cX5_findSides 49 = .ok (.iconst (-1), 1) := by decide +kernel
theorem dX5_findSides_50 : decode cX5_findSides 50 = .ok (.iastore, 1) := by decide +kernel
theorem dX5_findSides_51 : decode cX5_findSides 51 = .ok (.iconst 0, 1) := by decide +kernel
theorem dX5_findSides_52 : decode cX5_findSides 52 = .ok (.istore_n 3, 1) := by decide +kernel
theorem dX5_findSides_53 : decode cX5_findSides 53 = .ok (.iload_n 3, 1) := by decide +kernel
theorem dX5_findSides_54 : decode cX5_findSides 54 = .ok (.bipush 64, 2) := by decide +kernel
theorem dX5_findSides_56 : decode cX5_findSides 56 = .ok (.if_icmp .ge 78, 3) := by decide +kernel
theorem dX5_findSides_59 : decode cX5_findSides 59 = .ok (.aload_n 0, 1) := by decide +kernel
theorem dX5_findSides_60 : decode cX5_findSides 60 = .ok (.getfield 25, 3) := by decide +kernel
theorem dX5_findSides_63 : decode cX5_findSides 63 = .ok (.iload_n 3, 1) := by decide +kernel
theorem dX5_findSides_64 : decode cX5_findSides 64 = .ok (.iaload, 1) := by decide +kernel
theorem dX5_findSides_65 : decode cX5_findSides 65 = .ok (.iload_n 1, 1) := by decide +kernel
theorem dX5_findSides_66 : decode cX5_findSides 66 = .ok (.if_icmp .ne 62, 3) := by decide +kernel
theorem dX5_findSides_69 : decode cX5_findSides 69 = .ok (.aload_n 0, 1) := by decide +kernel
theorem dX5_findSides_70 : decode cX5_findSides 70 = .ok (.getfield 31, 3) := by decide +kernel
theorem dX5_findSides_73 : decode cX5_findSides 73 = .ok (.iload_n 2, 1) := by decide +kernel
theorem dX5_findSides_74 : decode cX5_findSides 74 = .ok (.aload_n 0, 1) := by decide +kernel
theorem dX5_findSides_75 : decode cX5_findSides 75 = .ok (.getfield 22, 3) := by decide +kernel
theorem dX5_findSides_78 : decode cX5_findSides 78 = .ok (.bipush 64, 2) := by decide +kernel
theorem dX5_findSides_80 : decode cX5_findSides 80 = .ok (.iload_n 3, 1) := by decide +kernel
theorem dX5_findSides_81 : decode cX5_findSides 81 = .ok (.iadd, 1) := by decide +kernel
theorem dX5_findSides_82 : decode cX5_findSides 82 = .ok (.iaload, 1) := by decide +kernel
theorem dX5_findSides_83 : decode cX5_findSides 83 = .ok (.iastore, 1) := by decide +kernel
theorem dX5_findSides_84 : decode cX5_findSides 84 = .ok (.aload_n 0, 1) := by decide +kernel
theorem dX5_findSides_85 : decode cX5_findSides 85 = .ok (.getfield 31, 3) := by decide +kernel
theorem dX5_findSides_88 : decode cX5_findSides 88 = .ok (.iload_n 2, 1) := by decide +kernel
theorem dX5_findSides_89 : decode cX5_findSides 89 = .ok (.iconst 3, 1) := by decide +kernel
theorem dX5_findSides_90 : decode cX5_findSides 90 = .ok (.iadd, 1) := by decide +kernel
theorem dX5_findSides_91 : decode cX5_findSides 91 = .ok (.dup2, 1) := by decide +kernel
theorem dX5_findSides_92 : decode cX5_findSides 92 = .ok (.iaload, 1) := by decide +kernel
theorem dX5_findSides_93 : decode cX5_findSides 93 = .ok (.iconst 1, 1) := by decide +kernel
theorem dX5_findSides_94 : decode cX5_findSides 94 = .ok (.iadd, 1) := by decide +kernel
theorem dX5_findSides_95 : decode cX5_findSides 95 = .ok (.iastore, 1) := by decide +kernel
theorem dX5_findSides_96 : decode cX5_findSides 96 = .ok (.aload_n 0, 1) := by decide +kernel
theorem dX5_findSides_97 : decode cX5_findSides 97 = .ok (.getfield 31, 3) := by decide +kernel
theorem dX5_findSides_100 : decode cX5_findSides 100 = .ok (.iload_n 2, 1) := by decide +kernel
theorem dX5_findSides_101 : decode cX5_findSides 101 = .ok (.iconst 5, 1) := by decide +kernel
theorem dX5_findSides_102 : decode cX5_findSides 102 = .ok (.iadd, 1) := by decide +kernel
theorem dX5_findSides_103 : decode cX5_findSides 103 = .ok (.aload_n 0, 1) := by decide +kernel
theorem dX5_findSides_104 : decode cX5_findSides 104 = .ok (.getfield 31, 3) := by decide +kernel
theorem dX5_findSides_107 : decode cX5_findSides 107 = .ok (.iload_n 2, 1) := by decide +kernel
theorem dX5_findSides_108 : decode cX5_findSides 108 = .ok (.iconst 5, 1) := by decide +kernel
theorem dX5_findSides_109 : decode cX5_findSides 109 = .ok (.iadd, 1) := by decide +kernel
theorem dX5_findSides_110 : decode cX5_findSides 110 = .ok (.iaload, 1) := by decide +kernel
theorem dX5_findSides_111 : decode cX5_findSides 111 = .ok (.iconst (-1), 1) := by decide +kernel
theorem dX5_findSides_112 : decode cX5_findSides 112 = .ok (.if_icmp .ne 7, 3) := by decide +kernel
theorem dX5_findSides_115 : decode cX5_findSides 115 = .ok (.iload_n 3, 1) := by decide +kernel
theorem dX5_findSides_116 : decode cX5_findSides 116 = .ok (.goto 11, 3) := by decide +kernel
theorem dX5_findSides_119 : decode cX5_findSides 119 = .ok (.aload_n 0, 1) := by decide +kernel
theorem dX5_findSides_120 : decode cX5_findSides 120 = .ok (.getfield 31, 3) := by decide +kernel
theorem dX5_findSides_123 : decode cX5_findSides 123 = .ok (.iload_n 2, 1) := by decide +kernel
theorem dX5_findSides_124 : decode cX5_findSides 124 = .ok (.iconst 5, 1) := by decide +kernel
theorem dX5_findSides_125 : decode cX5_findSides 125 = .ok (.iadd, 1) := by decide +kernel
theorem dX5_findSides_126 : decode cX5_findSides 126 = .ok (.iaload, 1) := by decide +kernel
theorem dX5_findSides_127 : decode cX5_findSides 127 = .ok (.iastore, 1) := by decide +kernel
theorem dX5_findSides_128 : decode cX5_findSides 128 = .ok (.iinc 3 1, 3) := by decide +kernel
theorem dX5_findSides_131 : decode cX5_findSides 131 = .ok (.goto (-78), 3) := by decide +kernel
theorem dX5_findSides_134 : decode cX5_findSides 134 = .ok (.aload_n 0, 1) := by decide +kernel
theorem dX5_findSides_135 : decode cX5_findSides 135 = .ok (.iload_n 1, 1) := by decide +kernel
theorem dX5_findSides_136 : decode cX5_findSides 136 = .ok (.invokevirtual 141, 3) := by decide +kernel
theorem dX5_findSides_139 : decode cX5_findSides 139 = .ok (.iinc 1 1, 3) := by decide +kernel
theorem dX5_findSides_142 : decode cX5_findSides 142 = .ok (.goto (-140), 3) := by decide +kernel
theorem dX5_findSides_145 : decode cX5_findSides 145 = .ok (.return_, 1) := by decide +kernel
def jX5_findSides_127 (F : Nat) (kc_2 : (Int32 × zOS) → Option (zOS)) (kc_53 : (Int32 × zOS) → Option (zOS)) (x3 : Int32) (v0 : Int32) (v1 : Int32) (sD : zOS) : Option (zOS) := (zchk v1 192 (zlet (zsI sD 8 (upd (zI sD 8) v1.toNatClampNeg v0)) (fun sD_10 : zOS => (kc_53 ((x3 + 1), sD_10)))))
set_option maxRecDepth 20000 in
theorem wX5_findSides_127 {X : zCx} {res : zOS} {F : Nat} {qD : Nat → Nat} {x1 : Int32} {x2 : Int32} {kc_2 : (Int32 × zOS) → Option (zOS)} {kc_53 : (Int32 × zOS) → Option (zOS)} (C : zC X RX5 cX5_findSides 4 5 117) (hR : zR X none none [(5, qD, res)]) (hk_2 : ∀ (y1 : Int32) (tD : zOS), zJ X 4 res (kc_2 (y1, tD)) 2 [(0, (.ref (qD 0))), (1, (.int y1))] [] [(5, qD, tD)]) (hk_53 : ∀ (y3 : Int32) (tD : zOS), zJ X 4 res (kc_53 (y3, tD)) 53 [(0, (.ref (qD 0))), (1, (.int x1)), (2, (.int x2)), (3, (.int y3))] [] [(5, qD, tD)]) (x3 : Int32) (sD : zOS) (v0 : Int32) (v1 : Int32) : zJ X 4 res (jX5_findSides_127 F kc_2 kc_53 x3 v0 v1 sD) 127 [(0, (.ref (qD 0))), (1, (.int x1)), (2, (.int x2)), (3, (.int x3))] [(.int v0), (.int v1), (.ref (qD 8))] [(5, qD, sD)] := by
  unfold jX5_findSides_127
  refine z_iast (pc := 127) 0 C dX5_findSides_127 rfl (by unfold zAr; decide) [(5, qD, (zsI sD 8 (upd (zI sD 8) v1.toNatClampNeg v0)))] rfl ?_
  refine z_letc (fun z9 => [(5, qD, z9)]) (fun sD_10 => ?_)
  refine z_iinc (pc := 128) (x3 + 1) 3 rfl rfl [(0, (.ref (qD 0))), (1, (.int x1)), (2, (.int x2)), (3, (.int (x3 + 1)))] [1, 2, 3, 0] (by decide) rfl C dX5_findSides_128 ?_
  refine z_goto (pc := 131) 53 C dX5_findSides_131 (by decide) ?_
  exact hk_53 _ _
def bX5_findSides_53 (F : Nat) (kc_2 : (Int32 × zOS) → Option (zOS)) (x1 : Int32) (x2 : Int32) (kc_53 : (Int32 × zOS) → Option (zOS)) (x3 : Int32) (sD : zOS) : Option (zOS) := (if (64 : Int32) ≤ x3 then (Option.bind (fX5_countSides F x1 sD) (fun r_6 : zOS => (kc_2 ((x1 + 1), r_6)))) else (zchk x3 64 (if (zI sD 6 x3.toNatClampNeg) = x1 then (zchk ((64 : Int32) + x3) 192 (zchk x2 192 (zlet (zsI sD 8 (upd (zI sD 8) x2.toNatClampNeg (zI sD 5 ((64 : Int32) + x3).toNatClampNeg))) (fun sD_8 : zOS => (zchk (x2 + (3 : Int32)) 192 (zchk (x2 + (3 : Int32)) 192 (zlet (zsI sD_8 8 (upd (zI sD_8 8) (x2 + (3 : Int32)).toNatClampNeg ((zI sD_8 8 (x2 + (3 : Int32)).toNatClampNeg) + (1 : Int32)))) (fun sD_9 : zOS => (zchk (x2 + (5 : Int32)) 192 (if (zI sD_9 8 (x2 + (5 : Int32)).toNatClampNeg) = (-1 : Int32) then (jX5_findSides_127 F kc_2 kc_53 x3 x3 (x2 + (5 : Int32)) sD_9) else (zchk (x2 + (5 : Int32)) 192 (jX5_findSides_127 F kc_2 kc_53 x3 (zI sD_9 8 (x2 + (5 : Int32)).toNatClampNeg) (x2 + (5 : Int32)) sD_9)))))))))))) else (kc_53 ((x3 + 1), sD)))))
set_option maxRecDepth 20000 in
theorem vX5_findSides_53 {X : zCx} {res : zOS} {F : Nat} {qD : Nat → Nat} {x1 : Int32} {x2 : Int32} {kc_2 : (Int32 × zOS) → Option (zOS)} {kc_53 : (Int32 × zOS) → Option (zOS)} (C : zC X RX5 cX5_findSides 4 5 117) (hR : zR X none none [(5, qD, res)]) (hk_2 : ∀ (y1 : Int32) (tD : zOS), zJ X 4 res (kc_2 (y1, tD)) 2 [(0, (.ref (qD 0))), (1, (.int y1))] [] [(5, qD, tD)]) (hk_53 : ∀ (y3 : Int32) (tD : zOS), zJ X 4 res (kc_53 (y3, tD)) 53 [(0, (.ref (qD 0))), (1, (.int x1)), (2, (.int x2)), (3, (.int y3))] [] [(5, qD, tD)]) (x3 : Int32) (sD : zOS) : zJ X 4 res (bX5_findSides_53 F kc_2 x1 x2 kc_53 x3 sD) 53 [(0, (.ref (qD 0))), (1, (.int x1)), (2, (.int x2)), (3, (.int x3))] [] [(5, qD, sD)] := by
  unfold bX5_findSides_53
  refine z_iload_n (pc := 53) 3 rfl rfl C dX5_findSides_53 ?_
  refine z_bipush (pc := 54) (64 : Int32) (by decide) C dX5_findSides_54 ?_
  refine z_icmp_ge (pc := 56) 134 C dX5_findSides_56 (by decide) ?_ ?_
  · refine z_aload_n (pc := 134) 0 rfl rfl C dX5_findSides_134 ?_
    refine z_iload_n (pc := 135) 1 rfl rfl C dX5_findSides_135 ?_
    refine z_callV (pc := 136) (rf' := 4) (rl' := 92) (fX5_countSides F x1 sD) [(.int x1)] [] [(5, qD, sD)] (fun r_6 => none) (fun r_6 => [(5, qD, r_6)]) [] (fun r_6 => [(5, qD, r_6)]) C dX5_findSides_136 zy_X5_countSides zw_926 (fun _ hr9 => mX5_countSides  hr9) (by decide) rfl rfl (by decide) rfl (Nat.le_of_ble_eq_true rfl) (List.Perm.refl _) (fun _ => List.Perm.refl _) rfl (fun r_6 hr_7 => ?_)
    show zJ X 4 res _ 139 [(0, (.ref (qD 0))), (1, (.int x1)), (2, (.int x2)), (3, (.int x3))] [] [(5, qD, r_6)]
    refine z_iinc (pc := 139) (x1 + 1) 1 rfl rfl [(0, (.ref (qD 0))), (1, (.int (x1 + 1))), (2, (.int x2)), (3, (.int x3))] [1, 0, 2, 3] (by decide) rfl C dX5_findSides_139 ?_
    refine z_goto (pc := 142) 2 C dX5_findSides_142 (by decide) ?_
    refine z_lv [(0, (.ref (qD 0))), (1, (.int (x1 + 1)))] [0, 1] rfl ?_
    exact hk_2 _ _
  · refine z_aload_n (pc := 59) 0 rfl rfl C dX5_findSides_59 ?_
    refine z_getR (pc := 60) 0 9 6 C dX5_findSides_60 rfl (by decide) (by decide) rfl zw_724 ?_
    refine z_iload_n (pc := 63) 3 rfl rfl C dX5_findSides_63 ?_
    refine z_iald (pc := 64) 0 C dX5_findSides_64 rfl (by unfold zAr; decide) ?_
    refine z_iload_n (pc := 65) 1 rfl rfl C dX5_findSides_65 ?_
    refine z_icmp_ne (pc := 66) 128 C dX5_findSides_66 (by decide) ?_ ?_
    · refine z_aload_n (pc := 69) 0 rfl rfl C dX5_findSides_69 ?_
      refine z_getR (pc := 70) 0 13 8 C dX5_findSides_70 rfl (by decide) (by decide) rfl zw_728 ?_
      refine z_iload_n (pc := 73) 2 rfl rfl C dX5_findSides_73 ?_
      refine z_aload_n (pc := 74) 0 rfl rfl C dX5_findSides_74 ?_
      refine z_getR (pc := 75) 0 6 5 C dX5_findSides_75 rfl (by decide) (by decide) rfl zw_721 ?_
      refine z_bipush (pc := 78) (64 : Int32) (by decide) C dX5_findSides_78 ?_
      refine z_iload_n (pc := 80) 3 rfl rfl C dX5_findSides_80 ?_
      refine z_iadd (pc := 81) C dX5_findSides_81 ?_
      refine z_iald (pc := 82) 0 C dX5_findSides_82 rfl (by unfold zAr; decide) ?_
      refine z_iast (pc := 83) 0 C dX5_findSides_83 rfl (by unfold zAr; decide) [(5, qD, (zsI sD 8 (upd (zI sD 8) x2.toNatClampNeg (zI sD 5 ((64 : Int32) + x3).toNatClampNeg))))] rfl ?_
      refine z_letc (fun z9 => [(5, qD, z9)]) (fun sD_8 => ?_)
      refine z_aload_n (pc := 84) 0 rfl rfl C dX5_findSides_84 ?_
      refine z_getR (pc := 85) 0 13 8 C dX5_findSides_85 rfl (by decide) (by decide) rfl zw_728 ?_
      refine z_iload_n (pc := 88) 2 rfl rfl C dX5_findSides_88 ?_
      refine z_iconst (pc := 89) (3 : Int32) (by decide) C dX5_findSides_89 ?_
      refine z_iadd (pc := 90) C dX5_findSides_90 ?_
      refine z_dup2 (pc := 91) rfl rfl C dX5_findSides_91 ?_
      refine z_iald (pc := 92) 0 C dX5_findSides_92 rfl (by unfold zAr; decide) ?_
      refine z_iconst (pc := 93) (1 : Int32) (by decide) C dX5_findSides_93 ?_
      refine z_iadd (pc := 94) C dX5_findSides_94 ?_
      refine z_iast (pc := 95) 0 C dX5_findSides_95 rfl (by unfold zAr; decide) [(5, qD, (zsI sD_8 8 (upd (zI sD_8 8) (x2 + (3 : Int32)).toNatClampNeg ((zI sD_8 8 (x2 + (3 : Int32)).toNatClampNeg) + (1 : Int32)))))] rfl ?_
      refine z_letc (fun z9 => [(5, qD, z9)]) (fun sD_9 => ?_)
      refine z_aload_n (pc := 96) 0 rfl rfl C dX5_findSides_96 ?_
      refine z_getR (pc := 97) 0 13 8 C dX5_findSides_97 rfl (by decide) (by decide) rfl zw_728 ?_
      refine z_iload_n (pc := 100) 2 rfl rfl C dX5_findSides_100 ?_
      refine z_iconst (pc := 101) (5 : Int32) (by decide) C dX5_findSides_101 ?_
      refine z_iadd (pc := 102) C dX5_findSides_102 ?_
      refine z_aload_n (pc := 103) 0 rfl rfl C dX5_findSides_103 ?_
      refine z_getR (pc := 104) 0 13 8 C dX5_findSides_104 rfl (by decide) (by decide) rfl zw_728 ?_
      refine z_iload_n (pc := 107) 2 rfl rfl C dX5_findSides_107 ?_
      refine z_iconst (pc := 108) (5 : Int32) (by decide) C dX5_findSides_108 ?_
      refine z_iadd (pc := 109) C dX5_findSides_109 ?_
      refine z_iald (pc := 110) 0 C dX5_findSides_110 rfl (by unfold zAr; decide) ?_
      refine z_iconst (pc := 111) (-1 : Int32) (by decide) C dX5_findSides_111 ?_
      refine z_icmp_ne (pc := 112) 119 C dX5_findSides_112 (by decide) ?_ ?_
      · refine z_iload_n (pc := 115) 3 rfl rfl C dX5_findSides_115 ?_
        refine z_goto (pc := 116) 127 C dX5_findSides_116 (by decide) ?_
        exact wX5_findSides_127 C hR  hk_2 hk_53 _ _ _ _
      · refine z_aload_n (pc := 119) 0 rfl rfl C dX5_findSides_119 ?_
        refine z_getR (pc := 120) 0 13 8 C dX5_findSides_120 rfl (by decide) (by decide) rfl zw_728 ?_
        refine z_iload_n (pc := 123) 2 rfl rfl C dX5_findSides_123 ?_
        refine z_iconst (pc := 124) (5 : Int32) (by decide) C dX5_findSides_124 ?_
        refine z_iadd (pc := 125) C dX5_findSides_125 ?_
        refine z_iald (pc := 126) 0 C dX5_findSides_126 rfl (by unfold zAr; decide) ?_
        exact wX5_findSides_127 C hR  hk_2 hk_53 _ _ _ _
    · refine z_iinc (pc := 128) (x3 + 1) 3 rfl rfl [(0, (.ref (qD 0))), (1, (.int x1)), (2, (.int x2)), (3, (.int (x3 + 1)))] [1, 2, 3, 0] (by decide) rfl C dX5_findSides_128 ?_
      refine z_goto (pc := 131) 53 C dX5_findSides_131 (by decide) ?_
      exact hk_53 _ _
def bX5_findSides_2 (F : Nat) (kc_2 : (Int32 × zOS) → Option (zOS)) (x1 : Int32) (sD : zOS) : Option (zOS) := (if (zF sD 10) ≤ x1 then (some (sD)) else (zlet ((6 : Int32) * x1) (fun x2_1 : Int32 => (zchk (x2_1 + (1 : Int32)) 192 (zlet (zsI sD 8 (upd (zI sD 8) (x2_1 + (1 : Int32)).toNatClampNeg (-1 : Int32))) (fun sD_2 : zOS => (zchk (x2_1 + (2 : Int32)) 192 (zlet (zsI sD_2 8 (upd (zI sD_2 8) (x2_1 + (2 : Int32)).toNatClampNeg (-1 : Int32))) (fun sD_3 : zOS => (zchk (x2_1 + (3 : Int32)) 192 (zlet (zsI sD_3 8 (upd (zI sD_3 8) (x2_1 + (3 : Int32)).toNatClampNeg (0 : Int32))) (fun sD_4 : zOS => (zchk (x2_1 + (5 : Int32)) 192 (zlet (zsI sD_4 8 (upd (zI sD_4 8) (x2_1 + (5 : Int32)).toNatClampNeg (-1 : Int32))) (fun sD_5 : zOS => (zit (P := Int32 × zOS) (R := zOS) (fun kc9 p9 => bX5_findSides_53 F kc_2 x1 x2_1 kc9 p9.1 p9.2) F ((0 : Int32), sD_5)))))))))))))))))
set_option maxRecDepth 20000 in
theorem vX5_findSides_2 {X : zCx} {res : zOS} {F : Nat} {qD : Nat → Nat} {kc_2 : (Int32 × zOS) → Option (zOS)} (C : zC X RX5 cX5_findSides 4 5 117) (hR : zR X none none [(5, qD, res)]) (hk_2 : ∀ (y1 : Int32) (tD : zOS), zJ X 4 res (kc_2 (y1, tD)) 2 [(0, (.ref (qD 0))), (1, (.int y1))] [] [(5, qD, tD)]) (x1 : Int32) (sD : zOS) : zJ X 4 res (bX5_findSides_2 F kc_2 x1 sD) 2 [(0, (.ref (qD 0))), (1, (.int x1))] [] [(5, qD, sD)] := by
  unfold bX5_findSides_2
  refine z_iload_n (pc := 2) 1 rfl rfl C dX5_findSides_2 ?_
  refine z_aload_n (pc := 3) 0 rfl rfl C dX5_findSides_3 ?_
  refine z_getI (pc := 4) 0 10 C dX5_findSides_4 rfl (by decide) (by decide) rfl zw_725 ?_
  refine z_icmp_ge (pc := 7) 145 C dX5_findSides_7 (by decide) ?_ ?_
  · exact z_return (pc := 145) C hR dX5_findSides_145 (fun h => by subst h; exact ⟨rfl, rfl⟩)
  · refine z_bipush (pc := 10) (6 : Int32) (by decide) C dX5_findSides_10 ?_
    refine z_iload_n (pc := 12) 1 rfl rfl C dX5_findSides_12 ?_
    refine z_imul (pc := 13) C dX5_findSides_13 ?_
    refine z_leti (fun x2_1 => ?_)
    refine z_istore_n (pc := 14) [(0, (.ref (qD 0))), (1, (.int x1)), (2, (.int x2_1))] [1, 2, 0] (by decide) rfl rfl C dX5_findSides_14 ?_
    refine z_aload_n (pc := 15) 0 rfl rfl C dX5_findSides_15 ?_
    refine z_getR (pc := 16) 0 13 8 C dX5_findSides_16 rfl (by decide) (by decide) rfl zw_728 ?_
    refine z_iload_n (pc := 19) 2 rfl rfl C dX5_findSides_19 ?_
    refine z_iconst (pc := 20) (1 : Int32) (by decide) C dX5_findSides_20 ?_
    refine z_iadd (pc := 21) C dX5_findSides_21 ?_
    refine z_iconst (pc := 22) (-1 : Int32) (by decide) C dX5_findSides_22 ?_
    refine z_iast (pc := 23) 0 C dX5_findSides_23 rfl (by unfold zAr; decide) [(5, qD, (zsI sD 8 (upd (zI sD 8) (x2_1 + (1 : Int32)).toNatClampNeg (-1 : Int32))))] rfl ?_
    refine z_letc (fun z9 => [(5, qD, z9)]) (fun sD_2 => ?_)
    refine z_aload_n (pc := 24) 0 rfl rfl C dX5_findSides_24 ?_
    refine z_getR (pc := 25) 0 13 8 C dX5_findSides_25 rfl (by decide) (by decide) rfl zw_728 ?_
    refine z_iload_n (pc := 28) 2 rfl rfl C dX5_findSides_28 ?_
    refine z_iconst (pc := 29) (2 : Int32) (by decide) C dX5_findSides_29 ?_
    refine z_iadd (pc := 30) C dX5_findSides_30 ?_
    refine z_iconst (pc := 31) (-1 : Int32) (by decide) C dX5_findSides_31 ?_
    refine z_iast (pc := 32) 0 C dX5_findSides_32 rfl (by unfold zAr; decide) [(5, qD, (zsI sD_2 8 (upd (zI sD_2 8) (x2_1 + (2 : Int32)).toNatClampNeg (-1 : Int32))))] rfl ?_
    refine z_letc (fun z9 => [(5, qD, z9)]) (fun sD_3 => ?_)
    refine z_aload_n (pc := 33) 0 rfl rfl C dX5_findSides_33 ?_
    refine z_getR (pc := 34) 0 13 8 C dX5_findSides_34 rfl (by decide) (by decide) rfl zw_728 ?_
    refine z_iload_n (pc := 37) 2 rfl rfl C dX5_findSides_37 ?_
    refine z_iconst (pc := 38) (3 : Int32) (by decide) C dX5_findSides_38 ?_
    refine z_iadd (pc := 39) C dX5_findSides_39 ?_
    refine z_iconst (pc := 40) (0 : Int32) (by decide) C dX5_findSides_40 ?_
    refine z_iast (pc := 41) 0 C dX5_findSides_41 rfl (by unfold zAr; decide) [(5, qD, (zsI sD_3 8 (upd (zI sD_3 8) (x2_1 + (3 : Int32)).toNatClampNeg (0 : Int32))))] rfl ?_
    refine z_letc (fun z9 => [(5, qD, z9)]) (fun sD_4 => ?_)
    refine z_aload_n (pc := 42) 0 rfl rfl C dX5_findSides_42 ?_
    refine z_getR (pc := 43) 0 13 8 C dX5_findSides_43 rfl (by decide) (by decide) rfl zw_728 ?_
    refine z_iload_n (pc := 46) 2 rfl rfl C dX5_findSides_46 ?_
    refine z_iconst (pc := 47) (5 : Int32) (by decide) C dX5_findSides_47 ?_
    refine z_iadd (pc := 48) C dX5_findSides_48 ?_
    refine z_iconst (pc := 49) (-1 : Int32) (by decide) C dX5_findSides_49 ?_
    refine z_iast (pc := 50) 0 C dX5_findSides_50 rfl (by unfold zAr; decide) [(5, qD, (zsI sD_4 8 (upd (zI sD_4 8) (x2_1 + (5 : Int32)).toNatClampNeg (-1 : Int32))))] rfl ?_
    refine z_letc (fun z9 => [(5, qD, z9)]) (fun sD_5 => ?_)
    refine z_iconst (pc := 51) (0 : Int32) (by decide) C dX5_findSides_51 ?_
    refine z_istore_n (pc := 52) [(0, (.ref (qD 0))), (1, (.int x1)), (2, (.int x2_1)), (3, (.int (0 : Int32)))] [1, 2, 3, 0] (by decide) rfl rfl C dX5_findSides_52 ?_
    show zJ X 4 res _ 53 [(0, (.ref (qD 0))), (1, (.int x1)), (2, (.int x2_1)), (3, (.int (0 : Int32)))] [] [(5, qD, sD_5)]
    exact zit_J (P := Int32 × zOS) (B := (fun kc9 p9 => bX5_findSides_53 F kc_2 x1 x2_1 kc9 p9.1 p9.2)) (fun p9 => [(0, (.ref (qD 0))), (1, (.int x1)), (2, (.int x2_1)), (3, (.int p9.1))]) (fun p9 => [(5, qD, p9.2)]) (fun kc9 hk9 p9 => vX5_findSides_53 C hR  hk_2 (fun a0 a1 => hk9 (a0, a1)) p9.1 p9.2) F _
def fX5_findSides (F : Nat) (sD : zOS) : Option (zOS) := (zit (P := Int32 × zOS) (R := zOS) (fun kc9 p9 => bX5_findSides_2 F kc9 p9.1 p9.2) F ((0 : Int32), sD))
set_option maxRecDepth 20000 in
theorem wX5_findSides {X : zCx} {res : zOS} {F : Nat} {qD : Nat → Nat} {sD : zOS} (C : zC X RX5 cX5_findSides 4 5 117) (hR : zR X none none [(5, qD, res)])  : zJ X 4 res (fX5_findSides F sD) 0 [(0, (.ref (qD 0)))] [] [(5, qD, sD)] := by
  unfold fX5_findSides
  refine z_iconst (pc := 0) (0 : Int32) (by decide) C dX5_findSides_0 ?_
  refine z_istore_n (pc := 1) [(0, (.ref (qD 0))), (1, (.int (0 : Int32)))] [1, 0] (by decide) rfl rfl C dX5_findSides_1 ?_
  show zJ X 4 res _ 2 [(0, (.ref (qD 0))), (1, (.int (0 : Int32)))] [] [(5, qD, sD)]
  exact zit_J (P := Int32 × zOS) (B := (fun kc9 p9 => bX5_findSides_2 F kc9 p9.1 p9.2)) (fun p9 => [(0, (.ref (qD 0))), (1, (.int p9.1))]) (fun p9 => [(5, qD, p9.2)]) (fun kc9 hk9 p9 => vX5_findSides_2 C hR   (fun a0 a1 => hk9 (a0, a1)) p9.1 p9.2) F _
theorem mX5_findSides {F : Nat} {qD : Nat → Nat} {sD : zOS} {res : zOS}  (hf : fX5_findSides F sD = some res) : zM yX5_findSides cX5_findSides 4 none 5 117 [(.ref (qD 0))] [(5, qD, sD)] none [(5, qD, res)] := zM_of (by decide +kernel) (Nat.le_of_ble_eq_true rfl) (fun X C hR => wX5_findSides (F := F) C hR  hf)
theorem dX5_isWell_0 : decode cX5_isWell 0 = .ok (.aload_n 0, 1) := by decide +kernel
theorem dX5_isWell_1 : decode cX5_isWell 1 = .ok (.iload_n 1, 1) := by decide +kernel
theorem dX5_isWell_2 : decode cX5_isWell 2 = .ok (.iconst 1, 1) := by decide +kernel
theorem dX5_isWell_3 : decode cX5_isWell 3 = .ok (.invokevirtual 150, 3) := by decide +kernel
theorem dX5_isWell_6 : decode cX5_isWell 6 = .ok (.iconst (-1), 1) := by decide +kernel
theorem dX5_isWell_7 : decode cX5_isWell 7 = .ok (.if_icmp .eq 7, 3) := by decide +kernel
theorem dX5_isWell_10 : decode cX5_isWell 10 = .ok (.iconst 1, 1) := by decide +kernel
theorem dX5_isWell_11 : decode cX5_isWell 11 = .ok (.goto 4, 3) := by decide +kernel
theorem dX5_isWell_14 : decode cX5_isWell 14 = .ok (.iconst 0, 1) := by decide +kernel
theorem dX5_isWell_15 : decode cX5_isWell 15 = .ok (.ireturn, 1) := by decide +kernel
def fX5_isWell (x1 : Int32) (sD : zOS) : Option (Int32) := (Option.bind (fX5_ofGate x1 (1 : Int32) sD) (fun r_1 : Int32 => (if r_1 = (-1 : Int32) then (zbk (0 : Int32) (some ((0 : Int32)))) else (zbk (1 : Int32) (some ((1 : Int32)))))))
set_option maxRecDepth 20000 in
theorem wX5_isWell {X : zCx} {res : Int32}  {qD : Nat → Nat} {x1 : Int32} {sD : zOS} (C : zC X RX5 cX5_isWell 2 1 22) (hR : zR X (some .boolean) (some (.int res)) [(5, qD, sD)])  : zJ X 2 res (fX5_isWell x1 sD) 0 [(0, (.ref (qD 0))), (1, (.int x1))] [] [(5, qD, sD)] := by
  unfold fX5_isWell
  refine z_aload_n (pc := 0) 0 rfl rfl C dX5_isWell_0 ?_
  refine z_iload_n (pc := 1) 1 rfl rfl C dX5_isWell_1 ?_
  refine z_iconst (pc := 2) (1 : Int32) (by decide) C dX5_isWell_2 ?_
  refine z_callV (pc := 3) (rf' := 0) (rl' := 0) (fX5_ofGate x1 (1 : Int32) sD) [(.int x1), (.int (1 : Int32))] [] [(5, qD, sD)] (fun r_1 => (some (.int r_1))) (fun r_1 => [(5, qD, sD)]) [] (fun r_1 => [(5, qD, sD)]) C dX5_isWell_3 zy_X5_ofGate zw_946 (fun _ hr9 => mX5_ofGate  hr9) (by decide) rfl rfl (by decide) rfl (Nat.le_of_ble_eq_true rfl) (List.Perm.refl _) (fun _ => List.Perm.refl _) rfl (fun r_1 hr_2 => ?_)
  show zJ X 2 res _ 6 [(0, (.ref (qD 0))), (1, (.int x1))] [(.int r_1)] [(5, qD, sD)]
  refine z_iconst (pc := 6) (-1 : Int32) (by decide) C dX5_isWell_6 ?_
  refine z_icmp_eq (pc := 7) 14 C dX5_isWell_7 (by decide) ?_ ?_
  · refine z_iconst (pc := 14) (0 : Int32) (by decide) C dX5_isWell_14 ?_
    exact z_zreturn (pc := 15) C hR dX5_isWell_15 (fun h => by subst h; exact ⟨rfl, rfl⟩)
  · refine z_iconst (pc := 10) (1 : Int32) (by decide) C dX5_isWell_10 ?_
    refine z_goto (pc := 11) 15 C dX5_isWell_11 (by decide) ?_
    exact z_zreturn (pc := 15) C hR dX5_isWell_15 (fun h => by subst h; exact ⟨rfl, rfl⟩)
theorem mX5_isWell  {qD : Nat → Nat} {x1 : Int32} {sD : zOS} {res : Int32}  (hf : fX5_isWell x1 sD = some res) : zM yX5_isWell cX5_isWell 2 (some .boolean) 1 22 [(.ref (qD 0)), (.int x1)] [(5, qD, sD)] (some (.int res)) [(5, qD, sD)] := zM_of (by decide +kernel) (Nat.le_of_ble_eq_true rfl) (fun X C hR => wX5_isWell C hR  hf)
theorem dX5_wells_0 : decode cX5_wells 0 = .ok (.iconst 0, 1) := by decide +kernel
theorem dX5_wells_1 : decode cX5_wells 1 = .ok (.istore_n 1, 1) := by decide +kernel
theorem dX5_wells_2 : decode cX5_wells 2 = .ok (.iconst 0, 1) := by decide +kernel
theorem dX5_wells_3 : decode cX5_wells 3 = .ok (.istore_n 2, 1) := by decide +kernel
theorem dX5_wells_4 : decode cX5_wells 4 = .ok (.iload_n 2, 1) := by decide +kernel
theorem dX5_wells_5 : decode cX5_wells 5 = .ok (.aload_n 0, 1) := by decide +kernel
theorem dX5_wells_6 : decode cX5_wells 6 = .ok (.getfield 131, 3) := by decide +kernel
theorem dX5_wells_9 : decode cX5_wells 9 = .ok (.if_icmp .ge 25, 3) := by decide +kernel
theorem dX5_wells_12 : decode cX5_wells 12 = .ok (.iload_n 1, 1) := by decide +kernel
theorem dX5_wells_13 : decode cX5_wells 13 = .ok (.aload_n 0, 1) := by decide +kernel
theorem dX5_wells_14 : decode cX5_wells 14 = .ok (.iload_n 2, 1) := by decide +kernel
theorem dX5_wells_15 : decode cX5_wells 15 = .ok (.invokevirtual 181, 3) := by decide +kernel
theorem dX5_wells_18 : decode cX5_wells 18 = .ok (.ifCond .eq 7, 3) := by decide +kernel
theorem dX5_wells_21 : decode cX5_wells 21 = .ok (.iconst 1, 1) := by decide +kernel
theorem dX5_wells_22 : decode cX5_wells 22 = .ok (.goto 4, 3) := by decide +kernel
theorem dX5_wells_25 : decode cX5_wells 25 = .ok (.iconst 0, 1) := by decide +kernel
theorem dX5_wells_26 : decode cX5_wells 26 = .ok (.iadd, 1) := by decide +kernel
theorem dX5_wells_27 : decode cX5_wells 27 = .ok (.istore_n 1, 1) := by decide +kernel
theorem dX5_wells_28 : decode cX5_wells 28 = .ok (.iinc 2 1, 3) := by decide +kernel
theorem dX5_wells_31 : decode cX5_wells 31 = .ok (.goto (-27), 3) := by decide +kernel
theorem dX5_wells_34 : decode cX5_wells 34 = .ok (.iload_n 1, 1) := by decide +kernel
theorem dX5_wells_35 : decode cX5_wells 35 = .ok (.ireturn, 1) := by decide +kernel
def bX5_wells_4 (F : Nat) (sD : zOS) (kc_4 : (Int32 × Int32) → Option (Int32)) (x1 : Int32) (x2 : Int32) : Option (Int32) := (if (zF sD 10) ≤ x2 then (some (x1)) else (Option.bind (fX5_isWell x2 sD) (fun r_1 : Int32 => (if r_1 = 0 then (zlet (x1 + (0 : Int32)) (fun x1_3 : Int32 => (kc_4 (x1_3, (x2 + 1))))) else (zlet (x1 + (1 : Int32)) (fun x1_4 : Int32 => (kc_4 (x1_4, (x2 + 1)))))))))
set_option maxRecDepth 20000 in
theorem vX5_wells_4 {X : zCx} {res : Int32} {F : Nat} {qD : Nat → Nat} {sD : zOS} {kc_4 : (Int32 × Int32) → Option (Int32)} (C : zC X RX5 cX5_wells 3 2 43) (hR : zR X (some .int) (some (.int res)) [(5, qD, sD)]) (hk_4 : ∀ (y1 : Int32) (y2 : Int32), zJ X 3 res (kc_4 (y1, y2)) 4 [(0, (.ref (qD 0))), (1, (.int y1)), (2, (.int y2))] [] [(5, qD, sD)]) (x1 : Int32) (x2 : Int32) : zJ X 3 res (bX5_wells_4 F sD kc_4 x1 x2) 4 [(0, (.ref (qD 0))), (1, (.int x1)), (2, (.int x2))] [] [(5, qD, sD)] := by
  unfold bX5_wells_4
  refine z_iload_n (pc := 4) 2 rfl rfl C dX5_wells_4 ?_
  refine z_aload_n (pc := 5) 0 rfl rfl C dX5_wells_5 ?_
  refine z_getI (pc := 6) 0 10 C dX5_wells_6 rfl (by decide) (by decide) rfl zw_725 ?_
  refine z_icmp_ge (pc := 9) 34 C dX5_wells_9 (by decide) ?_ ?_
  · refine z_iload_n (pc := 34) 1 rfl rfl C dX5_wells_34 ?_
    exact z_ireturn (pc := 35) C hR dX5_wells_35 (fun h => by subst h; exact ⟨rfl, rfl⟩)
  · refine z_iload_n (pc := 12) 1 rfl rfl C dX5_wells_12 ?_
    refine z_aload_n (pc := 13) 0 rfl rfl C dX5_wells_13 ?_
    refine z_iload_n (pc := 14) 2 rfl rfl C dX5_wells_14 ?_
    refine z_callV (pc := 15) (rf' := 1) (rl' := 22) (fX5_isWell x2 sD) [(.int x2)] [(.int x1)] [(5, qD, sD)] (fun r_1 => (some (.int r_1))) (fun r_1 => [(5, qD, sD)]) [] (fun r_1 => [(5, qD, sD)]) C dX5_wells_15 zy_X5_isWell zw_942 (fun _ hr9 => mX5_isWell  hr9) (by decide) rfl rfl (by decide) rfl (Nat.le_of_ble_eq_true rfl) (List.Perm.refl _) (fun _ => List.Perm.refl _) rfl (fun r_1 hr_2 => ?_)
    show zJ X 3 res _ 18 [(0, (.ref (qD 0))), (1, (.int x1)), (2, (.int x2))] [(.int r_1), (.int x1)] [(5, qD, sD)]
    refine z_if_eq (pc := 18) 25 C dX5_wells_18 (by decide) ?_ ?_
    · refine z_iconst (pc := 25) (0 : Int32) (by decide) C dX5_wells_25 ?_
      refine z_iadd (pc := 26) C dX5_wells_26 ?_
      refine z_leti (fun x1_3 => ?_)
      refine z_istore_n (pc := 27) [(0, (.ref (qD 0))), (1, (.int x1_3)), (2, (.int x2))] [1, 0, 2] (by decide) rfl rfl C dX5_wells_27 ?_
      refine z_iinc (pc := 28) (x2 + 1) 2 rfl rfl [(0, (.ref (qD 0))), (1, (.int x1_3)), (2, (.int (x2 + 1)))] [1, 2, 0] (by decide) rfl C dX5_wells_28 ?_
      refine z_goto (pc := 31) 4 C dX5_wells_31 (by decide) ?_
      exact hk_4 _ _
    · refine z_iconst (pc := 21) (1 : Int32) (by decide) C dX5_wells_21 ?_
      refine z_goto (pc := 22) 26 C dX5_wells_22 (by decide) ?_
      refine z_iadd (pc := 26) C dX5_wells_26 ?_
      refine z_leti (fun x1_4 => ?_)
      refine z_istore_n (pc := 27) [(0, (.ref (qD 0))), (1, (.int x1_4)), (2, (.int x2))] [1, 0, 2] (by decide) rfl rfl C dX5_wells_27 ?_
      refine z_iinc (pc := 28) (x2 + 1) 2 rfl rfl [(0, (.ref (qD 0))), (1, (.int x1_4)), (2, (.int (x2 + 1)))] [1, 2, 0] (by decide) rfl C dX5_wells_28 ?_
      refine z_goto (pc := 31) 4 C dX5_wells_31 (by decide) ?_
      exact hk_4 _ _
def fX5_wells (F : Nat) (sD : zOS) : Option (Int32) := (zit (P := Int32 × Int32) (R := Int32) (fun kc9 p9 => bX5_wells_4 F sD kc9 p9.1 p9.2) F ((0 : Int32), (0 : Int32)))
set_option maxRecDepth 20000 in
theorem wX5_wells {X : zCx} {res : Int32} {F : Nat} {qD : Nat → Nat} {sD : zOS} (C : zC X RX5 cX5_wells 3 2 43) (hR : zR X (some .int) (some (.int res)) [(5, qD, sD)])  : zJ X 3 res (fX5_wells F sD) 0 [(0, (.ref (qD 0)))] [] [(5, qD, sD)] := by
  unfold fX5_wells
  refine z_iconst (pc := 0) (0 : Int32) (by decide) C dX5_wells_0 ?_
  refine z_istore_n (pc := 1) [(0, (.ref (qD 0))), (1, (.int (0 : Int32)))] [1, 0] (by decide) rfl rfl C dX5_wells_1 ?_
  refine z_iconst (pc := 2) (0 : Int32) (by decide) C dX5_wells_2 ?_
  refine z_istore_n (pc := 3) [(0, (.ref (qD 0))), (1, (.int (0 : Int32))), (2, (.int (0 : Int32)))] [1, 2, 0] (by decide) rfl rfl C dX5_wells_3 ?_
  show zJ X 3 res _ 4 [(0, (.ref (qD 0))), (1, (.int (0 : Int32))), (2, (.int (0 : Int32)))] [] [(5, qD, sD)]
  exact zit_J (P := Int32 × Int32) (B := (fun kc9 p9 => bX5_wells_4 F sD kc9 p9.1 p9.2)) (fun p9 => [(0, (.ref (qD 0))), (1, (.int p9.1)), (2, (.int p9.2))]) (fun p9 => [(5, qD, sD)]) (fun kc9 hk9 p9 => vX5_wells_4 C hR   (fun a0 a1 => hk9 (a0, a1)) p9.1 p9.2) F _
theorem mX5_wells {F : Nat} {qD : Nat → Nat} {sD : zOS} {res : Int32}  (hf : fX5_wells F sD = some res) : zM yX5_wells cX5_wells 3 (some .int) 2 43 [(.ref (qD 0))] [(5, qD, sD)] (some (.int res)) [(5, qD, sD)] := zM_of (by decide +kernel) (Nat.le_of_ble_eq_true rfl) (fun X C hR => wX5_wells (F := F) C hR  hf)
