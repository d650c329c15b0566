theorem dX4_isWithin_0 : decode cX4_isWithin 0 = .ok (.iload_n 0, 1) := by decide +kernel
theorem dX4_isWithin_1 : decode cX4_isWithin 1 = .ok (.ifCond .lt 12, 3) := by decide +kernel
theorem dX4_isWithin_4 : decode cX4_isWithin 4 = .ok (.iload_n 0, 1) := by decide +kernel
theorem dX4_isWithin_5 : decode cX4_isWithin 5 = .ok (.iload_n 1, 1) := by decide +kernel
theorem dX4_isWithin_6 : decode cX4_isWithin 6 = .ok (.if_icmp .ge 7, 3) := by decide +kernel
theorem dX4_isWithin_9 : decode cX4_isWithin 9 = .ok (.iconst 1, 1) := by decide +kernel
theorem dX4_isWithin_10 : decode cX4_isWithin 10 = .ok (.goto 4, 3) := by decide +kernel
theorem dX4_isWithin_13 : decode cX4_isWithin 13 = .ok (.iconst 0, 1) := by decide +kernel
theorem dX4_isWithin_14 : decode cX4_isWithin 14 = .ok (.ireturn, 1) := by decide +kernel
def fX4_isWithin (x0 : Int32) (x1 : Int32) : Option (Int32) := (if x0 < 0 then (zbk (0 : Int32) (some ((0 : Int32)))) else (if x1 ≤ x0 then (zbk (0 : Int32) (some ((0 : Int32)))) else (zbk (1 : Int32) (some ((1 : Int32))))))
set_option maxRecDepth 20000 in
theorem wX4_isWithin {X : zCx} {res : Int32}   {x0 : Int32} {x1 : Int32} (C : zC X RX4 cX4_isWithin 2 0 0) (hR : zR X (some .boolean) (some (.int res)) [])  : zJ X 2 res (fX4_isWithin x0 x1) 0 [(0, (.int x0)), (1, (.int x1))] [] [] := by
  unfold fX4_isWithin
  refine z_iload_n (pc := 0) 0 rfl rfl C dX4_isWithin_0 ?_
  refine z_if_lt (pc := 1) 13 C dX4_isWithin_1 (by decide) ?_ ?_
  · refine z_iconst (pc := 13) (0 : Int32) (by decide) C dX4_isWithin_13 ?_
    exact z_zreturn (pc := 14) C hR dX4_isWithin_14 (fun h => by subst h; exact ⟨rfl, rfl⟩)
  · refine z_iload_n (pc := 4) 0 rfl rfl C dX4_isWithin_4 ?_
    refine z_iload_n (pc := 5) 1 rfl rfl C dX4_isWithin_5 ?_
    refine z_icmp_ge (pc := 6) 13 C dX4_isWithin_6 (by decide) ?_ ?_
    · refine z_iconst (pc := 13) (0 : Int32) (by decide) C dX4_isWithin_13 ?_
      exact z_zreturn (pc := 14) C hR dX4_isWithin_14 (fun h => by subst h; exact ⟨rfl, rfl⟩)
    · refine z_iconst (pc := 9) (1 : Int32) (by decide) C dX4_isWithin_9 ?_
      refine z_goto (pc := 10) 14 C dX4_isWithin_10 (by decide) ?_
      exact z_zreturn (pc := 14) C hR dX4_isWithin_14 (fun h => by subst h; exact ⟨rfl, rfl⟩)
theorem mX4_isWithin   {x0 : Int32} {x1 : Int32} {res : Int32}  (hf : fX4_isWithin x0 x1 = some res) : zM yX4_isWithin cX4_isWithin 2 (some .boolean) 0 0 [(.int x0), (.int x1)] [] (some (.int res)) [] := zM_of (by decide +kernel) (Nat.le_of_ble_eq_true rfl) (fun X C hR => wX4_isWithin C hR  hf)
theorem dX4_isCell_0 : decode cX4_isCell 0 = .ok (.iload_n 0, 1) := by decide +kernel
theorem dX4_isCell_1 : decode cX4_isCell 1 = .ok (.bipush 8, 2) := by decide +kernel
theorem dX4_isCell_3 : decode cX4_isCell 3 = .ok (.invokestatic 86, 3) := by decide +kernel
theorem dX4_isCell_6 : decode cX4_isCell 6 = .ok (.ifCond .eq 16, 3) := by decide +kernel
theorem dX4_isCell_9 : decode cX4_isCell 9 = .ok (.iload_n 1, 1) := by decide +kernel
theorem dX4_isCell_10 : decode cX4_isCell 10 = .ok (.bipush 8, 2) := by decide +kernel
theorem dX4_isCell_12 : decode cX4_isCell 12 = .ok (.invokestatic 86, 3) := by decide +kernel
theorem dX4_isCell_15 : decode cX4_isCell 15 = .ok (.ifCond .eq 7, 3) := by decide +kernel
theorem dX4_isCell_18 : decode cX4_isCell 18 = .ok (.iconst 1, 1) := by decide +kernel
theorem dX4_isCell_19 : decode cX4_isCell 19 = .ok (.goto 4, 3) := by decide +kernel
theorem dX4_isCell_22 : decode cX4_isCell 22 = .ok (.iconst 0, 1) := by decide +kernel
theorem dX4_isCell_23 : decode cX4_isCell 23 = .ok (.ireturn, 1) := by decide +kernel
def fX4_isCell (x0 : Int32) (x1 : Int32) : Option (Int32) := (Option.bind (fX4_isWithin x0 (8 : Int32)) (fun r_1 : Int32 => (if r_1 = 0 then (zbk (0 : Int32) (some ((0 : Int32)))) else (Option.bind (fX4_isWithin x1 (8 : Int32)) (fun r_3 : Int32 => (if r_3 = 0 then (zbk (0 : Int32) (some ((0 : Int32)))) else (zbk (1 : Int32) (some ((1 : Int32))))))))))
set_option maxRecDepth 20000 in
theorem wX4_isCell {X : zCx} {res : Int32}   {x0 : Int32} {x1 : Int32} (C : zC X RX4 cX4_isCell 2 1 21) (hR : zR X (some .boolean) (some (.int res)) [])  : zJ X 2 res (fX4_isCell x0 x1) 0 [(0, (.int x0)), (1, (.int x1))] [] [] := by
  unfold fX4_isCell
  refine z_iload_n (pc := 0) 0 rfl rfl C dX4_isCell_0 ?_
  refine z_bipush (pc := 1) (8 : Int32) (by decide) C dX4_isCell_1 ?_
  refine z_callS (pc := 3) (rf' := 0) (rl' := 0) (fX4_isWithin x0 (8 : Int32)) [(.int x0), (.int (8 : Int32))] [] [] (fun r_1 => (some (.int r_1))) (fun r_1 => []) [] (fun r_1 => []) C dX4_isCell_3 zy_X4_isWithin zw_313 (fun _ hr9 => mX4_isWithin  hr9) (by decide) rfl (Nat.le_of_ble_eq_true rfl) (List.Perm.refl _) (fun _ => List.Perm.refl _) rfl (fun r_1 hr_2 => ?_)
  show zJ X 2 res _ 6 [(0, (.int x0)), (1, (.int x1))] [(.int r_1)] []
  refine z_if_eq (pc := 6) 22 C dX4_isCell_6 (by decide) ?_ ?_
  · refine z_iconst (pc := 22) (0 : Int32) (by decide) C dX4_isCell_22 ?_
    exact z_zreturn (pc := 23) C hR dX4_isCell_23 (fun h => by subst h; exact ⟨rfl, rfl⟩)
  · refine z_iload_n (pc := 9) 1 rfl rfl C dX4_isCell_9 ?_
    refine z_bipush (pc := 10) (8 : Int32) (by decide) C dX4_isCell_10 ?_
    refine z_callS (pc := 12) (rf' := 0) (rl' := 0) (fX4_isWithin x1 (8 : Int32)) [(.int x1), (.int (8 : Int32))] [] [] (fun r_3 => (some (.int r_3))) (fun r_3 => []) [] (fun r_3 => []) C dX4_isCell_12 zy_X4_isWithin zw_313 (fun _ hr9 => mX4_isWithin  hr9) (by decide) rfl (Nat.le_of_ble_eq_true rfl) (List.Perm.refl _) (fun _ => List.Perm.refl _) rfl (fun r_3 hr_4 => ?_)
    show zJ X 2 res _ 15 [(0, (.int x0)), (1, (.int x1))] [(.int r_3)] []
    refine z_if_eq (pc := 15) 22 C dX4_isCell_15 (by decide) ?_ ?_
    · refine z_iconst (pc := 22) (0 : Int32) (by decide) C dX4_isCell_22 ?_
      exact z_zreturn (pc := 23) C hR dX4_isCell_23 (fun h => by subst h; exact ⟨rfl, rfl⟩)
    · refine z_iconst (pc := 18) (1 : Int32) (by decide) C dX4_isCell_18 ?_
      refine z_goto (pc := 19) 23 C dX4_isCell_19 (by decide) ?_
      exact z_zreturn (pc := 23) C hR dX4_isCell_23 (fun h => by subst h; exact ⟨rfl, rfl⟩)
theorem mX4_isCell   {x0 : Int32} {x1 : Int32} {res : Int32}  (hf : fX4_isCell x0 x1 = some res) : zM yX4_isCell cX4_isCell 2 (some .boolean) 1 21 [(.int x0), (.int x1)] [] (some (.int res)) [] := zM_of (by decide +kernel) (Nat.le_of_ble_eq_true rfl) (fun X C hR => wX4_isCell C hR  hf)
theorem dX4_cellBit_0 : decode cX4_cellBit 0 = .ok (.lconst 1, 1) := by decide +kernel
theorem dX4_cellBit_1 : decode cX4_cellBit 1 = .ok (.bipush 8, 2) := by decide +kernel
theorem dX4_cellBit_3 : decode cX4_cellBit 3 = .ok (.iload_n 1, 1) := by decide +kernel
theorem dX4_cellBit_4 : decode cX4_cellBit 4 = .ok (.imul, 1) := by decide +kernel
theorem dX4_cellBit_5 : decode cX4_cellBit 5 = .ok (.iload_n 0, 1) := by decide +kernel
theorem dX4_cellBit_6 : decode cX4_cellBit 6 = .ok (.iadd, 1) := by decide +kernel
theorem dX4_cellBit_7 : decode cX4_cellBit 7 = .ok (.lshl, 1) := by decide +kernel
theorem dX4_cellBit_8 : decode cX4_cellBit 8 = .ok (.lreturn, 1) := by decide +kernel
def fX4_cellBit (x0 : Int32) (x1 : Int32) : Option (Int64) := (some ((1 : Int64) <<< ((((8 : Int32) * x1) + x0).toInt64 &&& 63)))
set_option maxRecDepth 20000 in
theorem wX4_cellBit {X : zCx} {res : Int64}   {x0 : Int32} {x1 : Int32} (C : zC X RX4 cX4_cellBit 2 0 0) (hR : zR X (some .long) (some (.long res)) [])  : zJ X 2 res (fX4_cellBit x0 x1) 0 [(0, (.int x0)), (1, (.int x1))] [] [] := by
  unfold fX4_cellBit
  refine z_lconst (pc := 0) (1 : Int64) (by decide) C dX4_cellBit_0 ?_
  refine z_bipush (pc := 1) (8 : Int32) (by decide) C dX4_cellBit_1 ?_
  refine z_iload_n (pc := 3) 1 rfl rfl C dX4_cellBit_3 ?_
  refine z_imul (pc := 4) C dX4_cellBit_4 ?_
  refine z_iload_n (pc := 5) 0 rfl rfl C dX4_cellBit_5 ?_
  refine z_iadd (pc := 6) C dX4_cellBit_6 ?_
  refine z_lshl (pc := 7) C dX4_cellBit_7 ?_
  exact z_lreturn (pc := 8) C hR dX4_cellBit_8 (fun h => by subst h; exact ⟨rfl, rfl⟩)
theorem mX4_cellBit   {x0 : Int32} {x1 : Int32} {res : Int64}  (hf : fX4_cellBit x0 x1 = some res) : zM yX4_cellBit cX4_cellBit 2 (some .long) 0 0 [(.int x0), (.int x1)] [] (some (.long res)) [] := zM_of (by decide +kernel) (Nat.le_of_ble_eq_true rfl) (fun X C hR => wX4_cellBit C hR  hf)
theorem dX2_isStep_0 : decode cX2_isStep 0 = .ok (.iload_n 0, 1) := by decide +kernel
theorem dX2_isStep_1 : decode cX2_isStep 1 = .ok (.bipush (-8), 2) := by decide +kernel
theorem dX2_isStep_3 : decode cX2_isStep 3 = .ok (.if_icmp .le 13, 3) := by decide +kernel
theorem dX2_isStep_6 : decode cX2_isStep 6 = .ok (.iload_n 0, 1) := by decide +kernel
theorem dX2_isStep_7 : decode cX2_isStep 7 = .ok (.bipush 8, 2) := by decide +kernel
theorem dX2_isStep_9 : decode cX2_isStep 9 = .ok (.if_icmp .ge 7, 3) := by decide +kernel
theorem dX2_isStep_12 : decode cX2_isStep 12 = .ok (.iconst 1, 1) := by decide +kernel
theorem dX2_isStep_13 : decode cX2_isStep 13 = .ok (.goto 4, 3) := by decide +kernel
theorem dX2_isStep_16 : decode cX2_isStep 16 = .ok (.iconst 0, 1) := by decide +kernel
theorem dX2_isStep_17 : decode cX2_isStep 17 = .ok (.ireturn, 1) := by decide +kernel
def fX2_isStep (x0 : Int32) : Option (Int32) := (if x0 ≤ (-8 : Int32) then (zbk (0 : Int32) (some ((0 : Int32)))) else (if (8 : Int32) ≤ x0 then (zbk (0 : Int32) (some ((0 : Int32)))) else (zbk (1 : Int32) (some ((1 : Int32))))))
set_option maxRecDepth 20000 in
theorem wX2_isStep {X : zCx} {res : Int32}   {x0 : Int32} (C : zC X RX2 cX2_isStep 1 0 0) (hR : zR X (some .boolean) (some (.int res)) [])  : zJ X 1 res (fX2_isStep x0) 0 [(0, (.int x0))] [] [] := by
  unfold fX2_isStep
  refine z_iload_n (pc := 0) 0 rfl rfl C dX2_isStep_0 ?_
  refine z_bipush (pc := 1) (-8 : Int32) (by decide) C dX2_isStep_1 ?_
  refine z_icmp_le (pc := 3) 16 C dX2_isStep_3 (by decide) ?_ ?_
  · refine z_iconst (pc := 16) (0 : Int32) (by decide) C dX2_isStep_16 ?_
    exact z_zreturn (pc := 17) C hR dX2_isStep_17 (fun h => by subst h; exact ⟨rfl, rfl⟩)
  · refine z_iload_n (pc := 6) 0 rfl rfl C dX2_isStep_6 ?_
    refine z_bipush (pc := 7) (8 : Int32) (by decide) C dX2_isStep_7 ?_
    refine z_icmp_ge (pc := 9) 16 C dX2_isStep_9 (by decide) ?_ ?_
    · refine z_iconst (pc := 16) (0 : Int32) (by decide) C dX2_isStep_16 ?_
      exact z_zreturn (pc := 17) C hR dX2_isStep_17 (fun h => by subst h; exact ⟨rfl, rfl⟩)
    · refine z_iconst (pc := 12) (1 : Int32) (by decide) C dX2_isStep_12 ?_
      refine z_goto (pc := 13) 17 C dX2_isStep_13 (by decide) ?_
      exact z_zreturn (pc := 17) C hR dX2_isStep_17 (fun h => by subst h; exact ⟨rfl, rfl⟩)
theorem mX2_isStep   {x0 : Int32} {res : Int32}  (hf : fX2_isStep x0 = some res) : zM yX2_isStep cX2_isStep 1 (some .boolean) 0 0 [(.int x0)] [] (some (.int res)) [] := zM_of (by decide +kernel) (Nat.le_of_ble_eq_true rfl) (fun X C hR => wX2_isStep C hR  hf)
theorem dX2_isBox_0 : decode cX2_isBox 0 = .ok (.iload_n 0, 1) := by decide +kernel
theorem dX2_isBox_1 : decode cX2_isBox 1 = .ok (.iload_n 1, 1) := by decide +kernel
theorem dX2_isBox_2 : decode cX2_isBox 2 = .ok (.invokestatic 63, 3) := by decide +kernel
theorem dX2_isBox_5 : decode cX2_isBox 5 = .ok (.ifCond .eq 33, 3) := by decide +kernel
theorem dX2_isBox_8 : decode cX2_isBox 8 = .ok (.iload_n 2, 1) := by decide +kernel
theorem dX2_isBox_9 : decode cX2_isBox 9 = .ok (.iconst 1, 1) := by decide +kernel
theorem dX2_isBox_10 : decode cX2_isBox 10 = .ok (.if_icmp .lt 28, 3) := by decide +kernel
theorem dX2_isBox_13 : decode cX2_isBox 13 = .ok (.iload_n 2, 1) := by decide +kernel
theorem dX2_isBox_14 : decode cX2_isBox 14 = .ok (.bipush 8, 2) := by decide +kernel
theorem dX2_isBox_16 : decode cX2_isBox 16 = .ok (.iload_n 0, 1) := by decide +kernel
theorem dX2_isBox_17 : decode cX2_isBox 17 = .ok (.isub, 1) := by decide +kernel
theorem dX2_isBox_18 : decode cX2_isBox 18 = .ok (.if_icmp .gt 20, 3) := by decide +kernel
theorem dX2_isBox_21 : decode cX2_isBox 21 = .ok (.iload_n 3, 1) := by decide +kernel
theorem dX2_isBox_22 : decode cX2_isBox 22 = .ok (.iconst 1, 1) := by decide +kernel
theorem dX2_isBox_23 : decode cX2_isBox 23 = .ok (.if_icmp .lt 15, 3) := by decide +kernel
theorem dX2_isBox_26 : decode cX2_isBox 26 = .ok (.iload_n 3, 1) := by decide +kernel
theorem dX2_isBox_27 : decode cX2_isBox 27 = .ok (.bipush 8, 2) := by decide +kernel
theorem dX2_isBox_29 : decode cX2_isBox 29 = .ok (.iload_n 1, 1) := by decide +kernel
theorem dX2_isBox_30 : decode cX2_isBox 30 = .ok (.isub, 1) := by decide +kernel
theorem dX2_isBox_31 : decode cX2_isBox 31 = .ok (.if_icmp .gt 7, 3) := by decide +kernel
theorem dX2_isBox_34 : decode cX2_isBox 34 = .ok (.iconst 1, 1) := by decide +kernel
theorem dX2_isBox_35 : decode cX2_isBox 35 = .ok (.goto 4, 3) := by decide +kernel
theorem dX2_isBox_38 : decode cX2_isBox 38 = .ok (.iconst 0, 1) := by decide +kernel
theorem dX2_isBox_39 : decode cX2_isBox 39 = .ok (.ireturn, 1) := by decide +kernel
def fX2_isBox (x0 : Int32) (x1 : Int32) (x2 : Int32) (x3 : Int32) : Option (Int32) := (Option.bind (fX4_isCell x0 x1) (fun r_1 : Int32 => (if r_1 = 0 then (zbk (0 : Int32) (some ((0 : Int32)))) else (if x2 < (1 : Int32) then (zbk (0 : Int32) (some ((0 : Int32)))) else (if ((8 : Int32) - x0) < x2 then (zbk (0 : Int32) (some ((0 : Int32)))) else (if x3 < (1 : Int32) then (zbk (0 : Int32) (some ((0 : Int32)))) else (if ((8 : Int32) - x1) < x3 then (zbk (0 : Int32) (some ((0 : Int32)))) else (zbk (1 : Int32) (some ((1 : Int32)))))))))))
set_option maxRecDepth 20000 in
theorem wX2_isBox {X : zCx} {res : Int32}   {x0 : Int32} {x1 : Int32} {x2 : Int32} {x3 : Int32} (C : zC X RX2 cX2_isBox 4 2 42) (hR : zR X (some .boolean) (some (.int res)) [])  : zJ X 4 res (fX2_isBox x0 x1 x2 x3) 0 [(0, (.int x0)), (1, (.int x1)), (2, (.int x2)), (3, (.int x3))] [] [] := by
  unfold fX2_isBox
  refine z_iload_n (pc := 0) 0 rfl rfl C dX2_isBox_0 ?_
  refine z_iload_n (pc := 1) 1 rfl rfl C dX2_isBox_1 ?_
  refine z_callN (pc := 2) (rf' := 1) (rl' := 21) (fX4_isCell x0 x1) [(.int x0), (.int x1)] [] (fun r_1 => (some (.int r_1))) C dX2_isBox_2 zy_X4_isCell (fun U h => h.2.1) (fun _ hr9 => mX4_isCell  hr9) (by decide) rfl (Nat.le_of_ble_eq_true rfl) rfl (fun r_1 hr_2 => ?_)
  show zJ X 4 res _ 5 [(0, (.int x0)), (1, (.int x1)), (2, (.int x2)), (3, (.int x3))] [(.int r_1)] []
  refine z_if_eq (pc := 5) 38 C dX2_isBox_5 (by decide) ?_ ?_
  · refine z_iconst (pc := 38) (0 : Int32) (by decide) C dX2_isBox_38 ?_
    exact z_zreturn (pc := 39) C hR dX2_isBox_39 (fun h => by subst h; exact ⟨rfl, rfl⟩)
  · refine z_iload_n (pc := 8) 2 rfl rfl C dX2_isBox_8 ?_
    refine z_iconst (pc := 9) (1 : Int32) (by decide) C dX2_isBox_9 ?_
    refine z_icmp_lt (pc := 10) 38 C dX2_isBox_10 (by decide) ?_ ?_
    · refine z_iconst (pc := 38) (0 : Int32) (by decide) C dX2_isBox_38 ?_
      exact z_zreturn (pc := 39) C hR dX2_isBox_39 (fun h => by subst h; exact ⟨rfl, rfl⟩)
    · refine z_iload_n (pc := 13) 2 rfl rfl C dX2_isBox_13 ?_
      refine z_bipush (pc := 14) (8 : Int32) (by decide) C dX2_isBox_14 ?_
      refine z_iload_n (pc := 16) 0 rfl rfl C dX2_isBox_16 ?_
      refine z_isub (pc := 17) C dX2_isBox_17 ?_
      refine z_icmp_gt (pc := 18) 38 C dX2_isBox_18 (by decide) ?_ ?_
      · refine z_iconst (pc := 38) (0 : Int32) (by decide) C dX2_isBox_38 ?_
        exact z_zreturn (pc := 39) C hR dX2_isBox_39 (fun h => by subst h; exact ⟨rfl, rfl⟩)
      · refine z_iload_n (pc := 21) 3 rfl rfl C dX2_isBox_21 ?_
        refine z_iconst (pc := 22) (1 : Int32) (by decide) C dX2_isBox_22 ?_
        refine z_icmp_lt (pc := 23) 38 C dX2_isBox_23 (by decide) ?_ ?_
        · refine z_iconst (pc := 38) (0 : Int32) (by decide) C dX2_isBox_38 ?_
          exact z_zreturn (pc := 39) C hR dX2_isBox_39 (fun h => by subst h; exact ⟨rfl, rfl⟩)
        · refine z_iload_n (pc := 26) 3 rfl rfl C dX2_isBox_26 ?_
          refine z_bipush (pc := 27) (8 : Int32) (by decide) C dX2_isBox_27 ?_
          refine z_iload_n (pc := 29) 1 rfl rfl C dX2_isBox_29 ?_
          refine z_isub (pc := 30) C dX2_isBox_30 ?_
          refine z_icmp_gt (pc := 31) 38 C dX2_isBox_31 (by decide) ?_ ?_
          · refine z_iconst (pc := 38) (0 : Int32) (by decide) C dX2_isBox_38 ?_
            exact z_zreturn (pc := 39) C hR dX2_isBox_39 (fun h => by subst h; exact ⟨rfl, rfl⟩)
          · refine z_iconst (pc := 34) (1 : Int32) (by decide) C dX2_isBox_34 ?_
            refine z_goto (pc := 35) 39 C dX2_isBox_35 (by decide) ?_
            exact z_zreturn (pc := 39) C hR dX2_isBox_39 (fun h => by subst h; exact ⟨rfl, rfl⟩)
theorem mX2_isBox   {x0 : Int32} {x1 : Int32} {x2 : Int32} {x3 : Int32} {res : Int32}  (hf : fX2_isBox x0 x1 x2 x3 = some res) : zM yX2_isBox cX2_isBox 4 (some .boolean) 2 42 [(.int x0), (.int x1), (.int x2), (.int x3)] [] (some (.int res)) [] := zM_of (by decide +kernel) (Nat.le_of_ble_eq_true rfl) (fun X C hR => wX2_isBox C hR  hf)
theorem dX2_boxBits_0 : decode cX2_boxBits 0 = .ok (.lconst 1, 1) := by decide +kernel
theorem dX2_boxBits_1 : decode cX2_boxBits 1 = .ok (.iload_n 2, 1) := by decide +kernel
theorem dX2_boxBits_2 : decode cX2_boxBits 2 = .ok (.lshl, 1) := by decide +kernel
theorem dX2_boxBits_3 : decode cX2_boxBits 3 = .ok (.lconst 1, 1) := by decide +kernel
theorem dX2_boxBits_4 : decode cX2_boxBits 4 = .ok (.lsub, 1) := by decide +kernel
theorem dX2_boxBits_5 : decode cX2_boxBits 5 = .ok (.iload_n 0, 1) := by decide +kernel
theorem dX2_boxBits_6 : decode cX2_boxBits 6 = .ok (.lshl, 1) := by decide +kernel
theorem dX2_boxBits_7 : decode cX2_boxBits 7 = .ok (.lstore 4, 2) := by decide +kernel
theorem dX2_boxBits_9 : decode cX2_boxBits 9 = .ok (.lconst 0, 1) := by decide +kernel
theorem dX2_boxBits_10 : decode cX2_boxBits 10 = .ok (.lstore 6, 2) := by decide +kernel
theorem dX2_boxBits_12 : decode cX2_boxBits 12 = .ok (.iload_n 1, 1) := by decide +kernel
theorem dX2_boxBits_13 : decode cX2_boxBits 13 = .ok (.istore 8, 2) := by decide +kernel
theorem dX2_boxBits_15 : decode cX2_boxBits 15 = .ok (.iload 8, 2) := by decide +kernel
theorem dX2_boxBits_17 : decode cX2_boxBits 17 = .ok (.iload_n 1, 1) := by decide +kernel
theorem dX2_boxBits_18 : decode cX2_boxBits 18 = .ok (.iload_n 3, 1) := by decide +kernel
theorem dX2_boxBits_19 : decode cX2_boxBits 19 = .ok (.iadd, 1) := by decide +kernel
theorem dX2_boxBits_20 : decode cX2_boxBits 20 = .ok (.if_icmp .ge 22, 3) := by decide +kernel
theorem dX2_boxBits_23 : decode cX2_boxBits 23 = .ok (.lload 6, 2) := by decide +kernel
theorem dX2_boxBits_25 : decode cX2_boxBits 25 = .ok (.lload 4, 2) := by decide +kernel
theorem dX2_boxBits_27 : decode cX2_boxBits 27 = .ok (.bipush 8, 2) := by decide +kernel
theorem dX2_boxBits_29 : decode cX2_boxBits 29 = .ok (.iload 8, 2) := by decide +kernel
theorem dX2_boxBits_31 : decode cX2_boxBits 31 = .ok (.imul, 1) := by decide +kernel
theorem dX2_boxBits_32 : decode cX2_boxBits 32 = .ok (.lshl, 1) := by decide +kernel
theorem dX2_boxBits_33 : decode cX2_boxBits 33 = .ok (.lor, 1) := by decide +kernel
theorem dX2_boxBits_34 : decode cX2_boxBits 34 = .ok (.lstore 6, 2) := by decide +kernel
theorem dX2_boxBits_36 : decode cX2_boxBits 36 = .ok (.iinc 8 1, 3) := by decide +kernel
theorem dX2_boxBits_39 : decode cX2_boxBits 39 = .ok (.goto (-24), 3) := by decide +kernel
theorem dX2_boxBits_42 : decode cX2_boxBits 42 = .ok (.lload 6, 2) := by decide +kernel
theorem dX2_boxBits_44 : decode cX2_boxBits 44 = .ok (.lreturn, 1) := by decide +kernel
def bX2_boxBits_15 (F : Nat) (x1 : Int32) (x3 : Int32) (x4 : Int64) (kc_15 : (Int64 × Int32) → Option (Int64)) (x6 : Int64) (x8 : Int32) : Option (Int64) := (if (x1 + x3) ≤ x8 then (some (x6)) else (zlet (x6 ||| (x4 <<< (((8 : Int32) * x8).toInt64 &&& 63))) (fun x6_2 : Int64 => (kc_15 (x6_2, (x8 + 1))))))
set_option maxRecDepth 20000 in
theorem vX2_boxBits_15 {X : zCx} {res : Int64} {F : Nat} {x1 : Int32} {x3 : Int32} {x4 : Int64} {kc_15 : (Int64 × Int32) → Option (Int64)} (C : zC X RX2 cX2_boxBits 9 0 0) (hR : zR X (some .long) (some (.long res)) []) (hk_15 : ∀ (y6 : Int64) (y8 : Int32), zJ X 9 res (kc_15 (y6, y8)) 15 [(1, (.int x1)), (3, (.int x3)), (4, (.long x4)), (6, (.long y6)), (8, (.int y8))] [] []) (x6 : Int64) (x8 : Int32) : zJ X 9 res (bX2_boxBits_15 F x1 x3 x4 kc_15 x6 x8) 15 [(1, (.int x1)), (3, (.int x3)), (4, (.long x4)), (6, (.long x6)), (8, (.int x8))] [] [] := by
  unfold bX2_boxBits_15
  refine z_iload (pc := 15) 4 rfl C dX2_boxBits_15 ?_
  refine z_iload_n (pc := 17) 0 rfl rfl C dX2_boxBits_17 ?_
  refine z_iload_n (pc := 18) 1 rfl rfl C dX2_boxBits_18 ?_
  refine z_iadd (pc := 19) C dX2_boxBits_19 ?_
  refine z_icmp_ge (pc := 20) 42 C dX2_boxBits_20 (by decide) ?_ ?_
  · refine z_lload (pc := 42) 3 rfl C dX2_boxBits_42 ?_
    exact z_lreturn (pc := 44) C hR dX2_boxBits_44 (fun h => by subst h; exact ⟨rfl, rfl⟩)
  · refine z_lload (pc := 23) 3 rfl C dX2_boxBits_23 ?_
    refine z_lload (pc := 25) 2 rfl C dX2_boxBits_25 ?_
    refine z_bipush (pc := 27) (8 : Int32) (by decide) C dX2_boxBits_27 ?_
    refine z_iload (pc := 29) 4 rfl C dX2_boxBits_29 ?_
    refine z_imul (pc := 31) C dX2_boxBits_31 ?_
    refine z_lshl (pc := 32) C dX2_boxBits_32 ?_
    refine z_lor (pc := 33) C dX2_boxBits_33 ?_
    refine z_letl (fun x6_2 => ?_)
    refine z_lstore (pc := 34) [(1, (.int x1)), (3, (.int x3)), (4, (.long x4)), (6, (.long x6_2)), (8, (.int x8))] [1, 2, 3, 0, 4] (by decide) rfl C dX2_boxBits_34 ?_
    refine z_iinc (pc := 36) (x8 + 1) 4 rfl rfl [(1, (.int x1)), (3, (.int x3)), (4, (.long x4)), (6, (.long x6_2)), (8, (.int (x8 + 1)))] [1, 2, 3, 4, 0] (by decide) rfl C dX2_boxBits_36 ?_
    refine z_goto (pc := 39) 15 C dX2_boxBits_39 (by decide) ?_
    exact hk_15 _ _
def fX2_boxBits (F : Nat) (x0 : Int32) (x1 : Int32) (x2 : Int32) (x3 : Int32) : Option (Int64) := (zlet ((((1 : Int64) <<< (x2.toInt64 &&& 63)) - (1 : Int64)) <<< (x0.toInt64 &&& 63)) (fun x4_1 : Int64 => (zit (P := Int64 × Int32) (R := Int64) (fun kc9 p9 => bX2_boxBits_15 F x1 x3 x4_1 kc9 p9.1 p9.2) F ((0 : Int64), x1))))
set_option maxRecDepth 20000 in
theorem wX2_boxBits {X : zCx} {res : Int64} {F : Nat}  {x0 : Int32} {x1 : Int32} {x2 : Int32} {x3 : Int32} (C : zC X RX2 cX2_boxBits 9 0 0) (hR : zR X (some .long) (some (.long res)) [])  : zJ X 9 res (fX2_boxBits F x0 x1 x2 x3) 0 [(0, (.int x0)), (1, (.int x1)), (2, (.int x2)), (3, (.int x3))] [] [] := by
  unfold fX2_boxBits
  refine z_lconst (pc := 0) (1 : Int64) (by decide) C dX2_boxBits_0 ?_
  refine z_iload_n (pc := 1) 2 rfl rfl C dX2_boxBits_1 ?_
  refine z_lshl (pc := 2) C dX2_boxBits_2 ?_
  refine z_lconst (pc := 3) (1 : Int64) (by decide) C dX2_boxBits_3 ?_
  refine z_lsub (pc := 4) C dX2_boxBits_4 ?_
  refine z_iload_n (pc := 5) 0 rfl rfl C dX2_boxBits_5 ?_
  refine z_lshl (pc := 6) C dX2_boxBits_6 ?_
  refine z_letl (fun x4_1 => ?_)
  refine z_lstore (pc := 7) [(0, (.int x0)), (1, (.int x1)), (2, (.int x2)), (3, (.int x3)), (4, (.long x4_1))] [1, 2, 3, 4, 0] (by decide) rfl C dX2_boxBits_7 ?_
  refine z_lconst (pc := 9) (0 : Int64) (by decide) C dX2_boxBits_9 ?_
  refine z_lstore (pc := 10) [(0, (.int x0)), (1, (.int x1)), (2, (.int x2)), (3, (.int x3)), (4, (.long x4_1)), (6, (.long (0 : Int64)))] [1, 2, 3, 4, 5, 0] (by decide) rfl C dX2_boxBits_10 ?_
  refine z_iload_n (pc := 12) 1 rfl rfl C dX2_boxBits_12 ?_
  refine z_istore (pc := 13) [(0, (.int x0)), (1, (.int x1)), (2, (.int x2)), (3, (.int x3)), (4, (.long x4_1)), (6, (.long (0 : Int64))), (8, (.int x1))] [1, 2, 3, 4, 5, 6, 0] (by decide) rfl C dX2_boxBits_13 ?_
  refine z_lv [(1, (.int x1)), (3, (.int x3)), (4, (.long x4_1)), (6, (.long (0 : Int64))), (8, (.int x1))] [1, 3, 4, 5, 6] rfl ?_
  show zJ X 9 res _ 15 [(1, (.int x1)), (3, (.int x3)), (4, (.long x4_1)), (6, (.long (0 : Int64))), (8, (.int x1))] [] []
  exact zit_J (P := Int64 × Int32) (B := (fun kc9 p9 => bX2_boxBits_15 F x1 x3 x4_1 kc9 p9.1 p9.2)) (fun p9 => [(1, (.int x1)), (3, (.int x3)), (4, (.long x4_1)), (6, (.long p9.1)), (8, (.int p9.2))]) (fun p9 => []) (fun kc9 hk9 p9 => vX2_boxBits_15 C hR   (fun a0 a1 => hk9 (a0, a1)) p9.1 p9.2) F _
theorem mX2_boxBits {F : Nat}  {x0 : Int32} {x1 : Int32} {x2 : Int32} {x3 : Int32} {res : Int64}  (hf : fX2_boxBits F x0 x1 x2 x3 = some res) : zM yX2_boxBits cX2_boxBits 9 (some .long) 0 0 [(.int x0), (.int x1), (.int x2), (.int x3)] [] (some (.long res)) [] := zM_of (by decide +kernel) (Nat.le_of_ble_eq_true rfl) (fun X C hR => wX2_boxBits (F := F) C hR  hf)
theorem dX0_besideOf_0 : decode cX0_besideOf 0 = .ok (.lload_n 0, 1) := by decide +kernel
theorem dX0_besideOf_1 : decode cX0_besideOf 1 = .ok (.ldc2_w 182, 3) := by decide +kernel
theorem dX0_besideOf_4 : decode cX0_besideOf 4 = .ok (.land, 1) := by decide +kernel
theorem dX0_besideOf_5 : decode cX0_besideOf 5 = .ok (.iconst 1, 1) := by decide +kernel
theorem dX0_besideOf_6 : decode cX0_besideOf 6 = .ok (.lshl, 1) := by decide +kernel
theorem dX0_besideOf_7 : decode cX0_besideOf 7 = .ok (.lstore_n 2, 1) := by decide +kernel
theorem dX0_besideOf_8 : decode cX0_besideOf 8 = .ok (.lload_n 0, 1) := by decide +kernel
theorem dX0_besideOf_9 : decode cX0_besideOf 9 = .ok (.ldc2_w 184, 3) := by decide +kernel
theorem dX0_besideOf_12 : decode cX0_besideOf 12 = .ok (.land, 1) := by decide +kernel
theorem dX0_besideOf_13 : decode cX0_besideOf 13 = .ok (.iconst 1, 1) := by decide +kernel
theorem dX0_besideOf_14 : decode cX0_besideOf 14 = .ok (.lushr, 1) := by decide +kernel
theorem dX0_besideOf_15 : decode cX0_besideOf 15 = .ok (.lstore 4, 2) := by decide +kernel
theorem dX0_besideOf_17 : decode cX0_besideOf 17 = .ok (.lload_n 2, 1) := by decide +kernel
theorem dX0_besideOf_18 : decode cX0_besideOf 18 = .ok (.lload 4, 2) := by decide +kernel
theorem dX0_besideOf_20 : decode cX0_besideOf 20 = .ok (.lor, 1) := by decide +kernel
theorem dX0_besideOf_21 : decode cX0_besideOf 21 = .ok (.lload_n 0, 1) := by decide +kernel
theorem dX0_besideOf_22 : decode cX0_besideOf 22 = .ok (.bipush 8, 2) := by decide +kernel
theorem dX0_besideOf_24 : decode cX0_besideOf 24 = .ok (.lshl, 1) := by decide +kernel
theorem dX0_besideOf_25 : decode cX0_besideOf 25 = .ok (.lor, 1) := by decide +kernel
theorem dX0_besideOf_26 : decode cX0_besideOf 26 = .ok (.lload_n 0, 1) := by decide +kernel
theorem dX0_besideOf_27 : decode cX0_besideOf 27 = .ok (.bipush 8, 2) := by decide +kernel
theorem dX0_besideOf_29 : decode cX0_besideOf 29 = .ok (.lushr, 1) := by decide +kernel
theorem dX0_besideOf_30 : decode cX0_besideOf 30 = .ok (.lor, 1) := by decide +kernel
theorem dX0_besideOf_31 : decode cX0_besideOf 31 = .ok (.lreturn, 1) := by decide +kernel
def fX0_besideOf (x0 : Int64) : Option (Int64) := (zlet ((x0 &&& (9187201950435737471 : Int64)) <<< ((1 : Int32).toInt64 &&& 63)) (fun x2_1 : Int64 => (zlet (((x0 &&& (-72340172838076674 : Int64)).toUInt64 >>> ((1 : Int32).toInt64.toUInt64 &&& Int64.toUInt64 63)).toInt64) (fun x4_2 : Int64 => (some (((x2_1 ||| x4_2) ||| (x0 <<< ((8 : Int32).toInt64 &&& 63))) ||| ((x0.toUInt64 >>> ((8 : Int32).toInt64.toUInt64 &&& Int64.toUInt64 63)).toInt64)))))))
set_option maxRecDepth 20000 in
theorem wX0_besideOf {X : zCx} {res : Int64}   {x0 : Int64} (C : zC X RX0 cX0_besideOf 6 0 0) (hR : zR X (some .long) (some (.long res)) [])  : zJ X 6 res (fX0_besideOf x0) 0 [(0, (.long x0))] [] [] := by
  unfold fX0_besideOf
  refine z_lload_n (pc := 0) 0 rfl rfl C dX0_besideOf_0 ?_
  refine z_ldc2_w (pc := 1) (9187201950435737471 : Int64) zw_427 C dX0_besideOf_1 ?_
  refine z_land (pc := 4) C dX0_besideOf_4 ?_
  refine z_iconst (pc := 5) (1 : Int32) (by decide) C dX0_besideOf_5 ?_
  refine z_lshl (pc := 6) C dX0_besideOf_6 ?_
  refine z_letl (fun x2_1 => ?_)
  refine z_lstore_n (pc := 7) [(0, (.long x0)), (2, (.long x2_1))] [1, 0] (by decide) rfl rfl C dX0_besideOf_7 ?_
  refine z_lload_n (pc := 8) 0 rfl rfl C dX0_besideOf_8 ?_
  refine z_ldc2_w (pc := 9) (-72340172838076674 : Int64) zw_428 C dX0_besideOf_9 ?_
  refine z_land (pc := 12) C dX0_besideOf_12 ?_
  refine z_iconst (pc := 13) (1 : Int32) (by decide) C dX0_besideOf_13 ?_
  refine z_lushr (pc := 14) C dX0_besideOf_14 ?_
  refine z_letl (fun x4_2 => ?_)
  refine z_lstore (pc := 15) [(0, (.long x0)), (2, (.long x2_1)), (4, (.long x4_2))] [1, 2, 0] (by decide) rfl C dX0_besideOf_15 ?_
  refine z_lload_n (pc := 17) 1 rfl rfl C dX0_besideOf_17 ?_
  refine z_lload (pc := 18) 2 rfl C dX0_besideOf_18 ?_
  refine z_lor (pc := 20) C dX0_besideOf_20 ?_
  refine z_lload_n (pc := 21) 0 rfl rfl C dX0_besideOf_21 ?_
  refine z_bipush (pc := 22) (8 : Int32) (by decide) C dX0_besideOf_22 ?_
  refine z_lshl (pc := 24) C dX0_besideOf_24 ?_
  refine z_lor (pc := 25) C dX0_besideOf_25 ?_
  refine z_lload_n (pc := 26) 0 rfl rfl C dX0_besideOf_26 ?_
  refine z_bipush (pc := 27) (8 : Int32) (by decide) C dX0_besideOf_27 ?_
  refine z_lushr (pc := 29) C dX0_besideOf_29 ?_
  refine z_lor (pc := 30) C dX0_besideOf_30 ?_
  exact z_lreturn (pc := 31) C hR dX0_besideOf_31 (fun h => by subst h; exact ⟨rfl, rfl⟩)
theorem mX0_besideOf   {x0 : Int64} {res : Int64}  (hf : fX0_besideOf x0 = some res) : zM yX0_besideOf cX0_besideOf 6 (some .long) 0 0 [(.long x0)] [] (some (.long res)) [] := zM_of (by decide +kernel) (Nat.le_of_ble_eq_true rfl) (fun X C hR => wX0_besideOf C hR  hf)
theorem dX0_hangingTogether_0 : decode cX0_hangingTogether 0 = .ok (.lload_n 0, 1) := by decide +kernel
theorem dX0_hangingTogether_1 : decode cX0_hangingTogether 1 = .ok (.lload_n 0, 1) := by decide +kernel
theorem dX0_hangingTogether_2 : decode cX0_hangingTogether 2 = .ok (.lneg, 1) := by decide +kernel
theorem dX0_hangingTogether_3 : decode cX0_hangingTogether 3 = .ok (.land, 1) := by decide +kernel
theorem dX0_hangingTogether_4 : decode cX0_hangingTogether 4 = .ok (.lstore_n 2, 1) := by decide +kernel
theorem dX0_hangingTogether_5 : decode cX0_hangingTogether 5 = .ok (.iconst 0, 1) := by decide +kernel
theorem dX0_hangingTogether_6 : decode cX0_hangingTogether 6 = .ok (.istore 4, 2) := by decide +kernel
theorem dX0_hangingTogether_8 : decode cX0_hangingTogether 8 = .ok (.iload 4, 2) := by decide +kernel
theorem dX0_hangingTogether_10 : decode cX0_hangingTogether 10 = .ok (.bipush 64, 2) := by decide +kernel
theorem dX0_hangingTogether_12 : decode cX0_hangingTogether 12 = .ok (.if_icmp .ge 31, 3) := by decide +kernel
theorem dX0_hangingTogether_15 : decode cX0_hangingTogether 15 = .ok (.lload_n 2, 1) := by decide +kernel
theorem dX0_hangingTogether_16 : decode cX0_hangingTogether 16 = .ok (.lload_n 2, 1) := by decide +kernel
theorem dX0_hangingTogether_17 : decode cX0_hangingTogether 17 = .ok (.invokestatic 166, 3) := by decide +kernel
theorem dX0_hangingTogether_20 : decode cX0_hangingTogether 20 = .ok (.lor, 1) := by decide +kernel
theorem dX0_hangingTogether_21 : decode cX0_hangingTogether 21 = .ok (.lload_n 0, 1) := by decide +kernel
theorem dX0_hangingTogether_22 : decode cX0_hangingTogether 22 = .ok (.land, 1) := by decide +kernel
theorem dX0_hangingTogether_23 : decode cX0_hangingTogether 23 = .ok (.lstore 5, 2) := by decide +kernel
theorem dX0_hangingTogether_25 : decode cX0_hangingTogether 25 = .ok (.lload 5, 2) := by decide +kernel
theorem dX0_hangingTogether_27 : decode cX0_hangingTogether 27 = .ok (.lload_n 2, 1) := by decide +kernel
theorem dX0_hangingTogether_28 : decode cX0_hangingTogether 28 = .ok (.lcmp, 1) := by decide +kernel
theorem dX0_hangingTogether_29 : decode cX0_hangingTogether 29 = .ok (.ifCond .ne 5, 3) := by decide +kernel
theorem dX0_hangingTogether_32 : decode cX0_hangingTogether 32 = .ok (.lload_n 2, 1) := by decide +kernel
theorem dX0_hangingTogether_33 : decode cX0_hangingTogether 33 = .ok (.lreturn, 1) := by decide +kernel
theorem dX0_hangingTogether_34 : decode cX0_hangingTogether 34 = .ok (.lload 5, 2) := by decide +kernel
theorem dX0_hangingTogether_36 : decode cX0_hangingTogether 36 = .ok (.lstore_n 2, 1) := by decide +kernel
theorem dX0_hangingTogether_37 : decode cX0_hangingTogether 37 = .ok (.iinc 4 1, 3) := by decide +kernel
theorem dX0_hangingTogether_40 : decode cX0_hangingTogether 40 = .ok (.goto (-32), 3) := by decide +kernel
theorem dX0_hangingTogether_43 : decode cX0_hangingTogether 43 = .ok (.lload_n 2, 1) := by decide +kernel
theorem dX0_hangingTogether_44 : decode cX0_hangingTogether 44 = .ok (.lreturn, 1) := by decide +kernel
def bX0_hangingTogether_8 (F : Nat) (x0 : Int64) (kc_8 : (Int64 × Int32) → Option (Int64)) (x2 : Int64) (x4 : Int32) : Option (Int64) := (if (64 : Int32) ≤ x4 then (some (x2)) else (Option.bind (fX0_besideOf x2) (fun r_2 : Int64 => (zlet ((x2 ||| r_2) &&& x0) (fun x5_4 : Int64 => (if (lg_cmp x5_4 x2) = 0 then (some (x2)) else (kc_8 (x5_4, (x4 + 1)))))))))
set_option maxRecDepth 20000 in
theorem vX0_hangingTogether_8 {X : zCx} {res : Int64} {F : Nat} {x0 : Int64} {kc_8 : (Int64 × Int32) → Option (Int64)} (C : zC X RX0 cX0_hangingTogether 7 1 25) (hR : zR X (some .long) (some (.long res)) []) (hk_8 : ∀ (y2 : Int64) (y4 : Int32), zJ X 7 res (kc_8 (y2, y4)) 8 [(0, (.long x0)), (2, (.long y2)), (4, (.int y4))] [] []) (x2 : Int64) (x4 : Int32) : zJ X 7 res (bX0_hangingTogether_8 F x0 kc_8 x2 x4) 8 [(0, (.long x0)), (2, (.long x2)), (4, (.int x4))] [] [] := by
  unfold bX0_hangingTogether_8
  refine z_iload (pc := 8) 2 rfl C dX0_hangingTogether_8 ?_
  refine z_bipush (pc := 10) (64 : Int32) (by decide) C dX0_hangingTogether_10 ?_
  refine z_icmp_ge (pc := 12) 43 C dX0_hangingTogether_12 (by decide) ?_ ?_
  · refine z_lload_n (pc := 43) 1 rfl rfl C dX0_hangingTogether_43 ?_
    exact z_lreturn (pc := 44) C hR dX0_hangingTogether_44 (fun h => by subst h; exact ⟨rfl, rfl⟩)
  · refine z_lload_n (pc := 15) 1 rfl rfl C dX0_hangingTogether_15 ?_
    refine z_lload_n (pc := 16) 1 rfl rfl C dX0_hangingTogether_16 ?_
    refine z_callS (pc := 17) (rf' := 0) (rl' := 0) (fX0_besideOf x2) [(.long x2)] [(.long x2)] [] (fun r_2 => (some (.long r_2))) (fun r_2 => []) [] (fun r_2 => []) C dX0_hangingTogether_17 zy_X0_besideOf zw_424 (fun _ hr9 => mX0_besideOf  hr9) (by decide) rfl (Nat.le_of_ble_eq_true rfl) (List.Perm.refl _) (fun _ => List.Perm.refl _) rfl (fun r_2 hr_3 => ?_)
    show zJ X 7 res _ 20 [(0, (.long x0)), (2, (.long x2)), (4, (.int x4))] [(.long r_2), (.long x2)] []
    refine z_lor (pc := 20) C dX0_hangingTogether_20 ?_
    refine z_lload_n (pc := 21) 0 rfl rfl C dX0_hangingTogether_21 ?_
    refine z_land (pc := 22) C dX0_hangingTogether_22 ?_
    refine z_letl (fun x5_4 => ?_)
    refine z_lstore (pc := 23) [(0, (.long x0)), (2, (.long x2)), (4, (.int x4)), (5, (.long x5_4))] [1, 2, 3, 0] (by decide) rfl C dX0_hangingTogether_23 ?_
    refine z_lload (pc := 25) 3 rfl C dX0_hangingTogether_25 ?_
    refine z_lload_n (pc := 27) 1 rfl rfl C dX0_hangingTogether_27 ?_
    refine z_lcmp (pc := 28) C dX0_hangingTogether_28 ?_
    refine z_if_ne (pc := 29) 34 C dX0_hangingTogether_29 (by decide) ?_ ?_
    · refine z_lload_n (pc := 32) 1 rfl rfl C dX0_hangingTogether_32 ?_
      exact z_lreturn (pc := 33) C hR dX0_hangingTogether_33 (fun h => by subst h; exact ⟨rfl, rfl⟩)
    · refine z_lload (pc := 34) 3 rfl C dX0_hangingTogether_34 ?_
      refine z_lstore_n (pc := 36) [(0, (.long x0)), (2, (.long x5_4)), (4, (.int x4)), (5, (.long x5_4))] [1, 0, 2, 3] (by decide) rfl rfl C dX0_hangingTogether_36 ?_
      refine z_iinc (pc := 37) (x4 + 1) 2 rfl rfl [(0, (.long x0)), (2, (.long x5_4)), (4, (.int (x4 + 1))), (5, (.long x5_4))] [1, 2, 0, 3] (by decide) rfl C dX0_hangingTogether_37 ?_
      refine z_goto (pc := 40) 8 C dX0_hangingTogether_40 (by decide) ?_
      refine z_lv [(0, (.long x0)), (2, (.long x5_4)), (4, (.int (x4 + 1)))] [0, 1, 2] rfl ?_
      exact hk_8 _ _
def fX0_hangingTogether (F : Nat) (x0 : Int64) : Option (Int64) := (zlet (x0 &&& (-x0)) (fun x2_1 : Int64 => (zit (P := Int64 × Int32) (R := Int64) (fun kc9 p9 => bX0_hangingTogether_8 F x0 kc9 p9.1 p9.2) F (x2_1, (0 : Int32)))))
set_option maxRecDepth 20000 in
theorem wX0_hangingTogether {X : zCx} {res : Int64} {F : Nat}  {x0 : Int64} (C : zC X RX0 cX0_hangingTogether 7 1 25) (hR : zR X (some .long) (some (.long res)) [])  : zJ X 7 res (fX0_hangingTogether F x0) 0 [(0, (.long x0))] [] [] := by
  unfold fX0_hangingTogether
  refine z_lload_n (pc := 0) 0 rfl rfl C dX0_hangingTogether_0 ?_
  refine z_lload_n (pc := 1) 0 rfl rfl C dX0_hangingTogether_1 ?_
  refine z_lneg (pc := 2) C dX0_hangingTogether_2 ?_
  refine z_land (pc := 3) C dX0_hangingTogether_3 ?_
  refine z_letl (fun x2_1 => ?_)
  refine z_lstore_n (pc := 4) [(0, (.long x0)), (2, (.long x2_1))] [1, 0] (by decide) rfl rfl C dX0_hangingTogether_4 ?_
  refine z_iconst (pc := 5) (0 : Int32) (by decide) C dX0_hangingTogether_5 ?_
  refine z_istore (pc := 6) [(0, (.long x0)), (2, (.long x2_1)), (4, (.int (0 : Int32)))] [1, 2, 0] (by decide) rfl C dX0_hangingTogether_6 ?_
  show zJ X 7 res _ 8 [(0, (.long x0)), (2, (.long x2_1)), (4, (.int (0 : Int32)))] [] []
  exact zit_J (P := Int64 × Int32) (B := (fun kc9 p9 => bX0_hangingTogether_8 F x0 kc9 p9.1 p9.2)) (fun p9 => [(0, (.long x0)), (2, (.long p9.1)), (4, (.int p9.2))]) (fun p9 => []) (fun kc9 hk9 p9 => vX0_hangingTogether_8 C hR   (fun a0 a1 => hk9 (a0, a1)) p9.1 p9.2) F _
theorem mX0_hangingTogether {F : Nat}  {x0 : Int64} {res : Int64}  (hf : fX0_hangingTogether F x0 = some res) : zM yX0_hangingTogether cX0_hangingTogether 7 (some .long) 1 25 [(.long x0)] [] (some (.long res)) [] := zM_of (by decide +kernel) (Nat.le_of_ble_eq_true rfl) (fun X C hR => wX0_hangingTogether (F := F) C hR  hf)
theorem dX3_figuresOf_0 : decode cX3_figuresOf 0 = .ok (.iload_n 0, 1) := by decide +kernel
theorem dX3_figuresOf_1 : decode cX3_figuresOf 1 = .ok (.tableswitch 81 100 114 #[75, 81, 79, 81, 81, 81, 81, 81, 81, 77, 81, 81, 77, 81, 75], 75) := by decide +kernel
theorem dX3_figuresOf_76 : decode cX3_figuresOf 76 = .ok (.iconst 5, 1) := by decide +kernel
theorem dX3_figuresOf_77 : decode cX3_figuresOf 77 = .ok (.ireturn, 1) := by decide +kernel
theorem dX3_figuresOf_78 : decode cX3_figuresOf 78 = .ok (.iconst 3, 1) := by decide +kernel
theorem dX3_figuresOf_79 : decode cX3_figuresOf 79 = .ok (.ireturn, 1) := by decide +kernel
theorem dX3_figuresOf_80 : decode cX3_figuresOf 80 = .ok (.iconst 0, 1) := by decide +kernel
theorem dX3_figuresOf_81 : decode cX3_figuresOf 81 = .ok (.ireturn, 1) := by decide +kernel
theorem dX3_figuresOf_82 : decode cX3_figuresOf 82 = .ok (.iconst (-1), 1) := by decide +kernel
theorem dX3_figuresOf_83 : decode cX3_figuresOf 83 = .ok (.ireturn, 1) := by decide +kernel
def fX3_figuresOf (x0 : Int32) : Option (Int32) := (if x0 = (100 : Int32) then (some ((5 : Int32))) else (if x0 = (102 : Int32) then (some ((0 : Int32))) else (if x0 = (109 : Int32) then (some ((3 : Int32))) else (if x0 = (112 : Int32) then (some ((3 : Int32))) else (if x0 = (114 : Int32) then (some ((5 : Int32))) else (some ((-1 : Int32))))))))
set_option maxRecDepth 20000 in
theorem wX3_figuresOf {X : zCx} {res : Int32}   {x0 : Int32} (C : zC X RX3 cX3_figuresOf 1 0 0) (hR : zR X (some .int) (some (.int res)) [])  : zJ X 1 res (fX3_figuresOf x0) 0 [(0, (.int x0))] [] [] := by
  unfold fX3_figuresOf
  refine z_iload_n (pc := 0) 0 rfl rfl C dX3_figuresOf_0 ?_
  refine z_if (fun hx_1 => ?_) (fun hx_1 => ?_)
  · refine z_tin (pc := 1) (100 : Int32) 76 hx_1 C dX3_figuresOf_1 (by decide) (by decide) rfl (by decide) ?_
    refine z_iconst (pc := 76) (5 : Int32) (by decide) C dX3_figuresOf_76 ?_
    exact z_ireturn (pc := 77) C hR dX3_figuresOf_77 (fun h => by subst h; exact ⟨rfl, rfl⟩)
  · refine z_if (fun hx_2 => ?_) (fun hx_2 => ?_)
    · refine z_tin (pc := 1) (102 : Int32) 80 hx_2 C dX3_figuresOf_1 (by decide) (by decide) rfl (by decide) ?_
      refine z_iconst (pc := 80) (0 : Int32) (by decide) C dX3_figuresOf_80 ?_
      exact z_ireturn (pc := 81) C hR dX3_figuresOf_81 (fun h => by subst h; exact ⟨rfl, rfl⟩)
    · refine z_if (fun hx_3 => ?_) (fun hx_3 => ?_)
      · refine z_tin (pc := 1) (109 : Int32) 78 hx_3 C dX3_figuresOf_1 (by decide) (by decide) rfl (by decide) ?_
        refine z_iconst (pc := 78) (3 : Int32) (by decide) C dX3_figuresOf_78 ?_
        exact z_ireturn (pc := 79) C hR dX3_figuresOf_79 (fun h => by subst h; exact ⟨rfl, rfl⟩)
      · refine z_if (fun hx_4 => ?_) (fun hx_4 => ?_)
        · refine z_tin (pc := 1) (112 : Int32) 78 hx_4 C dX3_figuresOf_1 (by decide) (by decide) rfl (by decide) ?_
          refine z_iconst (pc := 78) (3 : Int32) (by decide) C dX3_figuresOf_78 ?_
          exact z_ireturn (pc := 79) C hR dX3_figuresOf_79 (fun h => by subst h; exact ⟨rfl, rfl⟩)
        · refine z_if (fun hx_5 => ?_) (fun hx_5 => ?_)
          · refine z_tin (pc := 1) (114 : Int32) 76 hx_5 C dX3_figuresOf_1 (by decide) (by decide) rfl (by decide) ?_
            refine z_iconst (pc := 76) (5 : Int32) (by decide) C dX3_figuresOf_76 ?_
            exact z_ireturn (pc := 77) C hR dX3_figuresOf_77 (fun h => by subst h; exact ⟨rfl, rfl⟩)
          · refine z_tdef (pc := 1) [(100 : Int32), (102 : Int32), (109 : Int32), (112 : Int32), (114 : Int32)] 82 (by intro v hv; simp only [List.mem_cons, List.not_mem_nil, or_false] at hv; rcases hv with rfl | rfl | rfl | rfl | rfl <;> assumption) C dX3_figuresOf_1 (by decide) (by decide) ?_
            refine z_iconst (pc := 82) (-1 : Int32) (by decide) C dX3_figuresOf_82 ?_
            exact z_ireturn (pc := 83) C hR dX3_figuresOf_83 (fun h => by subst h; exact ⟨rfl, rfl⟩)
theorem mX3_figuresOf   {x0 : Int32} {res : Int32}  (hf : fX3_figuresOf x0 = some res) : zM yX3_figuresOf cX3_figuresOf 1 (some .int) 0 0 [(.int x0)] [] (some (.int res)) [] := zM_of (by decide +kernel) (Nat.le_of_ble_eq_true rfl) (fun X C hR => wX3_figuresOf C hR  hf)
theorem dX3_canStand_0 : decode cX3_canStand 0 = .ok (.iload_n 1, 1) := by decide +kernel
theorem dX3_canStand_1 : decode cX3_canStand 1 = .ok (.iconst (-1), 1) := by decide +kernel
theorem dX3_canStand_2 : decode cX3_canStand 2 = .ok (.if_icmp .ne 17, 3) := by decide +kernel
theorem dX3_canStand_5 : decode cX3_canStand 5 = .ok (.iload_n 0, 1) := by decide +kernel
theorem dX3_canStand_6 : decode cX3_canStand 6 = .ok (.invokestatic 27, 3) := by decide +kernel
theorem dX3_canStand_9 : decode cX3_canStand 9 = .ok (.iconst (-1), 1) := by decide +kernel
theorem dX3_canStand_10 : decode cX3_canStand 10 = .ok (.if_icmp .eq 7, 3) := by decide +kernel
theorem dX3_canStand_13 : decode cX3_canStand 13 = .ok (.iconst 1, 1) := by decide +kernel
theorem dX3_canStand_14 : decode cX3_canStand 14 = .ok (.goto 4, 3) := by decide +kernel
theorem dX3_canStand_17 : decode cX3_canStand 17 = .ok (.iconst 0, 1) := by decide +kernel
theorem dX3_canStand_18 : decode cX3_canStand 18 = .ok (.ireturn, 1) := by decide +kernel
theorem dX3_canStand_19 : decode cX3_canStand 19 = .ok (.iload_n 1, 1) := by decide +kernel
theorem dX3_canStand_20 : decode cX3_canStand 20 = .ok (.ifCond .ne 17, 3) := by decide +kernel
theorem dX3_canStand_23 : decode cX3_canStand 23 = .ok (.iload_n 0, 1) := by decide +kernel
theorem dX3_canStand_24 : decode cX3_canStand 24 = .ok (.bipush 59, 2) := by decide +kernel
theorem dX3_canStand_26 : decode cX3_canStand 26 = .ok (.if_icmp .ne 7, 3) := by decide +kernel
theorem dX3_canStand_29 : decode cX3_canStand 29 = .ok (.iconst 1, 1) := by decide +kernel
theorem dX3_canStand_30 : decode cX3_canStand 30 = .ok (.goto 24, 3) := by decide +kernel
theorem dX3_canStand_33 : decode cX3_canStand 33 = .ok (.iconst 0, 1) := by decide +kernel
theorem dX3_canStand_34 : decode cX3_canStand 34 = .ok (.goto 20, 3) := by decide +kernel
theorem dX3_canStand_37 : decode cX3_canStand 37 = .ok (.iload_n 0, 1) := by decide +kernel
theorem dX3_canStand_38 : decode cX3_canStand 38 = .ok (.bipush 48, 2) := by decide +kernel
theorem dX3_canStand_40 : decode cX3_canStand 40 = .ok (.if_icmp .lt 13, 3) := by decide +kernel
theorem dX3_canStand_43 : decode cX3_canStand 43 = .ok (.iload_n 0, 1) := by decide +kernel
theorem dX3_canStand_44 : decode cX3_canStand 44 = .ok (.bipush 57, 2) := by decide +kernel
theorem dX3_canStand_46 : decode cX3_canStand 46 = .ok (.if_icmp .gt 7, 3) := by decide +kernel
theorem dX3_canStand_49 : decode cX3_canStand 49 = .ok (.iconst 1, 1) := by decide +kernel
theorem dX3_canStand_50 : decode cX3_canStand 50 = .ok (.goto 4, 3) := by decide +kernel
theorem dX3_canStand_53 : decode cX3_canStand 53 = .ok (.iconst 0, 1) := by decide +kernel
theorem dX3_canStand_54 : decode cX3_canStand 54 = .ok (.ireturn, 1) := by decide +kernel
def fX3_canStand (x0 : Int32) (x1 : Int32) : Option (Int32) := (if x1 = (-1 : Int32) then (Option.bind (fX3_figuresOf x0) (fun r_1 : Int32 => (if r_1 = (-1 : Int32) then (zbk (0 : Int32) (some ((0 : Int32)))) else (zbk (1 : Int32) (some ((1 : Int32))))))) else (if x1 = 0 then (if x0 = (59 : Int32) then (zbk (1 : Int32) (some ((1 : Int32)))) else (zbk (0 : Int32) (some ((0 : Int32))))) else (if x0 < (48 : Int32) then (zbk (0 : Int32) (some ((0 : Int32)))) else (if (57 : Int32) < x0 then (zbk (0 : Int32) (some ((0 : Int32)))) else (zbk (1 : Int32) (some ((1 : Int32))))))))
set_option maxRecDepth 20000 in
theorem wX3_canStand {X : zCx} {res : Int32}   {x0 : Int32} {x1 : Int32} (C : zC X RX3 cX3_canStand 2 1 20) (hR : zR X (some .boolean) (some (.int res)) [])  : zJ X 2 res (fX3_canStand x0 x1) 0 [(0, (.int x0)), (1, (.int x1))] [] [] := by
  unfold fX3_canStand
  refine z_iload_n (pc := 0) 1 rfl rfl C dX3_canStand_0 ?_
  refine z_iconst (pc := 1) (-1 : Int32) (by decide) C dX3_canStand_1 ?_
  refine z_icmp_ne (pc := 2) 19 C dX3_canStand_2 (by decide) ?_ ?_
  · refine z_iload_n (pc := 5) 0 rfl rfl C dX3_canStand_5 ?_
    refine z_callS (pc := 6) (rf' := 0) (rl' := 0) (fX3_figuresOf x0) [(.int x0)] [] [] (fun r_1 => (some (.int r_1))) (fun r_1 => []) [] (fun r_1 => []) C dX3_canStand_6 zy_X3_figuresOf zw_664 (fun _ hr9 => mX3_figuresOf  hr9) (by decide) rfl (Nat.le_of_ble_eq_true rfl) (List.Perm.refl _) (fun _ => List.Perm.refl _) rfl (fun r_1 hr_2 => ?_)
    show zJ X 2 res _ 9 [(0, (.int x0)), (1, (.int x1))] [(.int r_1)] []
    refine z_iconst (pc := 9) (-1 : Int32) (by decide) C dX3_canStand_9 ?_
    refine z_icmp_eq (pc := 10) 17 C dX3_canStand_10 (by decide) ?_ ?_
    · refine z_iconst (pc := 17) (0 : Int32) (by decide) C dX3_canStand_17 ?_
      exact z_zreturn (pc := 18) C hR dX3_canStand_18 (fun h => by subst h; exact ⟨rfl, rfl⟩)
    · refine z_iconst (pc := 13) (1 : Int32) (by decide) C dX3_canStand_13 ?_
      refine z_goto (pc := 14) 18 C dX3_canStand_14 (by decide) ?_
      exact z_zreturn (pc := 18) C hR dX3_canStand_18 (fun h => by subst h; exact ⟨rfl, rfl⟩)
  · refine z_iload_n (pc := 19) 1 rfl rfl C dX3_canStand_19 ?_
    refine z_if_ne (pc := 20) 37 C dX3_canStand_20 (by decide) ?_ ?_
    · refine z_iload_n (pc := 23) 0 rfl rfl C dX3_canStand_23 ?_
      refine z_bipush (pc := 24) (59 : Int32) (by decide) C dX3_canStand_24 ?_
      refine z_icmp_ne (pc := 26) 33 C dX3_canStand_26 (by decide) ?_ ?_
      · refine z_iconst (pc := 29) (1 : Int32) (by decide) C dX3_canStand_29 ?_
        refine z_goto (pc := 30) 54 C dX3_canStand_30 (by decide) ?_
        exact z_zreturn (pc := 54) C hR dX3_canStand_54 (fun h => by subst h; exact ⟨rfl, rfl⟩)
      · refine z_iconst (pc := 33) (0 : Int32) (by decide) C dX3_canStand_33 ?_
        refine z_goto (pc := 34) 54 C dX3_canStand_34 (by decide) ?_
        exact z_zreturn (pc := 54) C hR dX3_canStand_54 (fun h => by subst h; exact ⟨rfl, rfl⟩)
    · refine z_iload_n (pc := 37) 0 rfl rfl C dX3_canStand_37 ?_
      refine z_bipush (pc := 38) (48 : Int32) (by decide) C dX3_canStand_38 ?_
      refine z_icmp_lt (pc := 40) 53 C dX3_canStand_40 (by decide) ?_ ?_
      · refine z_iconst (pc := 53) (0 : Int32) (by decide) C dX3_canStand_53 ?_
        exact z_zreturn (pc := 54) C hR dX3_canStand_54 (fun h => by subst h; exact ⟨rfl, rfl⟩)
      · refine z_iload_n (pc := 43) 0 rfl rfl C dX3_canStand_43 ?_
        refine z_bipush (pc := 44) (57 : Int32) (by decide) C dX3_canStand_44 ?_
        refine z_icmp_gt (pc := 46) 53 C dX3_canStand_46 (by decide) ?_ ?_
        · refine z_iconst (pc := 53) (0 : Int32) (by decide) C dX3_canStand_53 ?_
          exact z_zreturn (pc := 54) C hR dX3_canStand_54 (fun h => by subst h; exact ⟨rfl, rfl⟩)
        · refine z_iconst (pc := 49) (1 : Int32) (by decide) C dX3_canStand_49 ?_
          refine z_goto (pc := 50) 54 C dX3_canStand_50 (by decide) ?_
          exact z_zreturn (pc := 54) C hR dX3_canStand_54 (fun h => by subst h; exact ⟨rfl, rfl⟩)
theorem mX3_canStand   {x0 : Int32} {x1 : Int32} {res : Int32}  (hf : fX3_canStand x0 x1 = some res) : zM yX3_canStand cX3_canStand 2 (some .boolean) 1 20 [(.int x0), (.int x1)] [] (some (.int res)) [] := zM_of (by decide +kernel) (Nat.le_of_ble_eq_true rfl) (fun X C hR => wX3_canStand C hR  hf)
theorem dJ13_bitCount_95d88_0 : decode cJ13_bitCount_95d88 0 = .ok (.lload_n 0, 1) := by decide +kernel
theorem dJ13_bitCount_95d88_1 : decode cJ13_bitCount_95d88 1 = .ok (.lload_n 0, 1) := by decide +kernel
theorem dJ13_bitCount_95d88_2 : decode cJ13_bitCount_95d88 2 = .ok (.iconst 1, 1) := by decide +kernel
theorem dJ13_bitCount_95d88_3 : decode cJ13_bitCount_95d88 3 = .ok (.lushr, 1) := by decide +kernel
theorem dJ13_bitCount_95d88_4 : decode cJ13_bitCount_95d88 4 = .ok (.ldc2_w 314, 3) := by decide +kernel
theorem dJ13_bitCount_95d88_7 : decode cJ13_bitCount_95d88 7 = .ok (.land, 1) := by decide +kernel
theorem dJ13_bitCount_95d88_8 : decode cJ13_bitCount_95d88 8 = .ok (.lsub, 1) := by decide +kernel
theorem dJ13_bitCount_95d88_9 : decode cJ13_bitCount_95d88 9 = .ok (.lstore_n 0, 1) := by decide +kernel
theorem dJ13_bitCount_95d88_10 : decode cJ13_bitCount_95d88 10 = .ok (.lload_n 0, 1) := by decide +kernel
theorem dJ13_bitCount_95d88_11 : decode cJ13_bitCount_95d88 11 = .ok (.ldc2_w 316, 3) := by decide +kernel
theorem dJ13_bitCount_95d88_14 : decode cJ13_bitCount_95d88 14 = .ok (.land, 1) := by decide +kernel
theorem dJ13_bitCount_95d88_15 : decode cJ13_bitCount_95d88 15 = .ok (.lload_n 0, 1) := by decide +kernel
theorem dJ13_bitCount_95d88_16 : decode cJ13_bitCount_95d88 16 = .ok (.iconst 2, 1) := by decide +kernel
theorem dJ13_bitCount_95d88_17 : decode cJ13_bitCount_95d88 17 = .ok (.lushr, 1) := by decide +kernel
theorem dJ13_bitCount_95d88_18 : decode cJ13_bitCount_95d88 18 = .ok (.ldc2_w 316, 3) := by decide +kernel
theorem dJ13_bitCount_95d88_21 : decode cJ13_bitCount_95d88 21 = .ok (.land, 1) := by decide +kernel
theorem dJ13_bitCount_95d88_22 : decode cJ13_bitCount_95d88 22 = .ok (.ladd, 1) := by decide +kernel
theorem dJ13_bitCount_95d88_23 : decode cJ13_bitCount_95d88 23 = .ok (.lstore_n 0, 1) := by decide +kernel
theorem dJ13_bitCount_95d88_24 : decode cJ13_bitCount_95d88 24 = .ok (.lload_n 0, 1) := by decide +kernel
theorem dJ13_bitCount_95d88_25 : decode cJ13_bitCount_95d88 25 = .ok (.lload_n 0, 1) := by decide +kernel
theorem dJ13_bitCount_95d88_26 : decode cJ13_bitCount_95d88 26 = .ok (.iconst 4, 1) := by decide +kernel
theorem dJ13_bitCount_95d88_27 : decode cJ13_bitCount_95d88 27 = .ok (.lushr, 1) := by decide +kernel
theorem dJ13_bitCount_95d88_28 : decode cJ13_bitCount_95d88 28 = .ok (.ladd, 1) := by decide +kernel
theorem dJ13_bitCount_95d88_29 : decode cJ13_bitCount_95d88 29 = .ok (.ldc2_w 318, 3) := by decide +kernel
theorem dJ13_bitCount_95d88_32 : decode cJ13_bitCount_95d88 32 = .ok (.land, 1) := by decide +kernel
theorem dJ13_bitCount_95d88_33 : decode cJ13_bitCount_95d88 33 = .ok (.lstore_n 0, 1) := by decide +kernel
theorem dJ13_bitCount_95d88_34 : decode cJ13_bitCount_95d88 34 = .ok (.lload_n 0, 1) := by decide +kernel
theorem dJ13_bitCount_95d88_35 : decode cJ13_bitCount_95d88 35 = .ok (.lload_n 0, 1) := by decide +kernel
theorem dJ13_bitCount_95d88_36 : decode cJ13_bitCount_95d88 36 = .ok (.bipush 8, 2) := by decide +kernel
theorem dJ13_bitCount_95d88_38 : decode cJ13_bitCount_95d88 38 = .ok (.lushr, 1) := by decide +kernel
theorem dJ13_bitCount_95d88_39 : decode cJ13_bitCount_95d88 39 = .ok (.ladd, 1) := by decide +kernel
theorem dJ13_bitCount_95d88_40 : decode cJ13_bitCount_95d88 40 = .ok (.lstore_n 0, 1) := by decide +kernel
theorem dJ13_bitCount_95d88_41 : decode cJ13_bitCount_95d88 41 = .ok (.lload_n 0, 1) := by decide +kernel
theorem dJ13_bitCount_95d88_42 : decode cJ13_bitCount_95d88 42 = .ok (.lload_n 0, 1) := by decide +kernel
theorem dJ13_bitCount_95d88_43 : decode cJ13_bitCount_95d88 43 = .ok (.bipush 16, 2) := by decide +kernel
theorem dJ13_bitCount_95d88_45 : decode cJ13_bitCount_95d88 45 = .ok (.lushr, 1) := by decide +kernel
theorem dJ13_bitCount_95d88_46 : decode cJ13_bitCount_95d88 46 = .ok (.ladd, 1) := by decide +kernel
theorem dJ13_bitCount_95d88_47 : decode cJ13_bitCount_95d88 47 = .ok (.lstore_n 0, 1) := by decide +kernel
theorem dJ13_bitCount_95d88_48 : decode cJ13_bitCount_95d88 48 = .ok (.lload_n 0, 1) := by decide +kernel
theorem dJ13_bitCount_95d88_49 : decode cJ13_bitCount_95d88 49 = .ok (.lload_n 0, 1) := by decide +kernel
theorem dJ13_bitCount_95d88_50 : decode cJ13_bitCount_95d88 50 = .ok (.bipush 32, 2) := by decide +kernel
theorem dJ13_bitCount_95d88_52 : decode cJ13_bitCount_95d88 52 = .ok (.lushr, 1) := by decide +kernel
theorem dJ13_bitCount_95d88_53 : decode cJ13_bitCount_95d88 53 = .ok (.ladd, 1) := by decide +kernel
theorem dJ13_bitCount_95d88_54 : decode cJ13_bitCount_95d88 54 = .ok (.lstore_n 0, 1) := by decide +kernel
theorem dJ13_bitCount_95d88_55 : decode cJ13_bitCount_95d88 55 = .ok (.lload_n 0, 1) := by decide +kernel
theorem dJ13_bitCount_95d88_56 : decode cJ13_bitCount_95d88 56 = .ok (.l2i, 1) := by decide +kernel
theorem dJ13_bitCount_95d88_57 : decode cJ13_bitCount_95d88 57 = .ok (.bipush 127, 2) := by decide +kernel
theorem dJ13_bitCount_95d88_59 : decode cJ13_bitCount_95d88 59 = .ok (.iand, 1) := by decide +kernel
theorem dJ13_bitCount_95d88_60 : decode cJ13_bitCount_95d88 60 = .ok (.ireturn, 1) := by decide +kernel
def fJ13_bitCount_95d88 (x0 : Int64) : Option (Int32) := (zlet (x0 - (((x0.toUInt64 >>> ((1 : Int32).toInt64.toUInt64 &&& Int64.toUInt64 63)).toInt64) &&& (6148914691236517205 : Int64))) (fun x0_1 : Int64 => (zlet ((x0_1 &&& (3689348814741910323 : Int64)) + (((x0_1.toUInt64 >>> ((2 : Int32).toInt64.toUInt64 &&& Int64.toUInt64 63)).toInt64) &&& (3689348814741910323 : Int64))) (fun x0_2 : Int64 => (zlet ((x0_2 + ((x0_2.toUInt64 >>> ((4 : Int32).toInt64.toUInt64 &&& Int64.toUInt64 63)).toInt64)) &&& (1085102592571150095 : Int64)) (fun x0_3 : Int64 => (zlet (x0_3 + ((x0_3.toUInt64 >>> ((8 : Int32).toInt64.toUInt64 &&& Int64.toUInt64 63)).toInt64)) (fun x0_4 : Int64 => (zlet (x0_4 + ((x0_4.toUInt64 >>> ((16 : Int32).toInt64.toUInt64 &&& Int64.toUInt64 63)).toInt64)) (fun x0_5 : Int64 => (zlet (x0_5 + ((x0_5.toUInt64 >>> ((32 : Int32).toInt64.toUInt64 &&& Int64.toUInt64 63)).toInt64)) (fun x0_6 : Int64 => (some (x0_6.toInt32 &&& (127 : Int32)))))))))))))))
set_option maxRecDepth 20000 in
theorem wJ13_bitCount_95d88 {X : zCx} {res : Int32}   {x0 : Int64} (C : zC X RJ13 cJ13_bitCount_95d88 2 0 0) (hR : zR X (some .int) (some (.int res)) [])  : zJ X 2 res (fJ13_bitCount_95d88 x0) 0 [(0, (.long x0))] [] [] := by
  unfold fJ13_bitCount_95d88
  refine z_lload_n (pc := 0) 0 rfl rfl C dJ13_bitCount_95d88_0 ?_
  refine z_lload_n (pc := 1) 0 rfl rfl C dJ13_bitCount_95d88_1 ?_
  refine z_iconst (pc := 2) (1 : Int32) (by decide) C dJ13_bitCount_95d88_2 ?_
  refine z_lushr (pc := 3) C dJ13_bitCount_95d88_3 ?_
  refine z_ldc2_w (pc := 4) (6148914691236517205 : Int64) zw_321 C dJ13_bitCount_95d88_4 ?_
  refine z_land (pc := 7) C dJ13_bitCount_95d88_7 ?_
  refine z_lsub (pc := 8) C dJ13_bitCount_95d88_8 ?_
  refine z_letl (fun x0_1 => ?_)
  refine z_lstore_n (pc := 9) [(0, (.long x0_1))] [0] (by decide) rfl rfl C dJ13_bitCount_95d88_9 ?_
  refine z_lload_n (pc := 10) 0 rfl rfl C dJ13_bitCount_95d88_10 ?_
  refine z_ldc2_w (pc := 11) (3689348814741910323 : Int64) zw_322 C dJ13_bitCount_95d88_11 ?_
  refine z_land (pc := 14) C dJ13_bitCount_95d88_14 ?_
  refine z_lload_n (pc := 15) 0 rfl rfl C dJ13_bitCount_95d88_15 ?_
  refine z_iconst (pc := 16) (2 : Int32) (by decide) C dJ13_bitCount_95d88_16 ?_
  refine z_lushr (pc := 17) C dJ13_bitCount_95d88_17 ?_
  refine z_ldc2_w (pc := 18) (3689348814741910323 : Int64) zw_322 C dJ13_bitCount_95d88_18 ?_
  refine z_land (pc := 21) C dJ13_bitCount_95d88_21 ?_
  refine z_ladd (pc := 22) C dJ13_bitCount_95d88_22 ?_
  refine z_letl (fun x0_2 => ?_)
  refine z_lstore_n (pc := 23) [(0, (.long x0_2))] [0] (by decide) rfl rfl C dJ13_bitCount_95d88_23 ?_
  refine z_lload_n (pc := 24) 0 rfl rfl C dJ13_bitCount_95d88_24 ?_
  refine z_lload_n (pc := 25) 0 rfl rfl C dJ13_bitCount_95d88_25 ?_
  refine z_iconst (pc := 26) (4 : Int32) (by decide) C dJ13_bitCount_95d88_26 ?_
  refine z_lushr (pc := 27) C dJ13_bitCount_95d88_27 ?_
  refine z_ladd (pc := 28) C dJ13_bitCount_95d88_28 ?_
  refine z_ldc2_w (pc := 29) (1085102592571150095 : Int64) zw_323 C dJ13_bitCount_95d88_29 ?_
  refine z_land (pc := 32) C dJ13_bitCount_95d88_32 ?_
  refine z_letl (fun x0_3 => ?_)
  refine z_lstore_n (pc := 33) [(0, (.long x0_3))] [0] (by decide) rfl rfl C dJ13_bitCount_95d88_33 ?_
  refine z_lload_n (pc := 34) 0 rfl rfl C dJ13_bitCount_95d88_34 ?_
  refine z_lload_n (pc := 35) 0 rfl rfl C dJ13_bitCount_95d88_35 ?_
  refine z_bipush (pc := 36) (8 : Int32) (by decide) C dJ13_bitCount_95d88_36 ?_
  refine z_lushr (pc := 38) C dJ13_bitCount_95d88_38 ?_
  refine z_ladd (pc := 39) C dJ13_bitCount_95d88_39 ?_
  refine z_letl (fun x0_4 => ?_)
  refine z_lstore_n (pc := 40) [(0, (.long x0_4))] [0] (by decide) rfl rfl C dJ13_bitCount_95d88_40 ?_
  refine z_lload_n (pc := 41) 0 rfl rfl C dJ13_bitCount_95d88_41 ?_
  refine z_lload_n (pc := 42) 0 rfl rfl C dJ13_bitCount_95d88_42 ?_
  refine z_bipush (pc := 43) (16 : Int32) (by decide) C dJ13_bitCount_95d88_43 ?_
  refine z_lushr (pc := 45) C dJ13_bitCount_95d88_45 ?_
  refine z_ladd (pc := 46) C dJ13_bitCount_95d88_46 ?_
  refine z_letl (fun x0_5 => ?_)
  refine z_lstore_n (pc := 47) [(0, (.long x0_5))] [0] (by decide) rfl rfl C dJ13_bitCount_95d88_47 ?_
  refine z_lload_n (pc := 48) 0 rfl rfl C dJ13_bitCount_95d88_48 ?_
  refine z_lload_n (pc := 49) 0 rfl rfl C dJ13_bitCount_95d88_49 ?_
  refine z_bipush (pc := 50) (32 : Int32) (by decide) C dJ13_bitCount_95d88_50 ?_
  refine z_lushr (pc := 52) C dJ13_bitCount_95d88_52 ?_
  refine z_ladd (pc := 53) C dJ13_bitCount_95d88_53 ?_
  refine z_letl (fun x0_6 => ?_)
  refine z_lstore_n (pc := 54) [(0, (.long x0_6))] [0] (by decide) rfl rfl C dJ13_bitCount_95d88_54 ?_
  refine z_lload_n (pc := 55) 0 rfl rfl C dJ13_bitCount_95d88_55 ?_
  refine z_l2i (pc := 56) C dJ13_bitCount_95d88_56 ?_
  refine z_bipush (pc := 57) (127 : Int32) (by decide) C dJ13_bitCount_95d88_57 ?_
  refine z_iand (pc := 59) C dJ13_bitCount_95d88_59 ?_
  exact z_ireturn (pc := 60) C hR dJ13_bitCount_95d88_60 (fun h => by subst h; exact ⟨rfl, rfl⟩)
theorem mJ13_bitCount_95d88   {x0 : Int64} {res : Int32}  (hf : fJ13_bitCount_95d88 x0 = some res) : zM yJ13_bitCount_95d88 cJ13_bitCount_95d88 2 (some .int) 0 0 [(.long x0)] [] (some (.int res)) [] := zM_of (by decide +kernel) (Nat.le_of_ble_eq_true rfl) (fun X C hR => wJ13_bitCount_95d88 C hR  hf)
theorem dJ6_numberOfTrailingZeros_0f7a4_0 : decode cJ6_numberOfTrailingZeros_0f7a4 0 = .ok (.iload_n 0, 1) := by decide +kernel
theorem dJ6_numberOfTrailingZeros_0f7a4_1 : decode cJ6_numberOfTrailingZeros_0f7a4 1 = .ok (.iconst (-1), 1) := by decide +kernel
theorem dJ6_numberOfTrailingZeros_0f7a4_2 : decode cJ6_numberOfTrailingZeros_0f7a4 2 = .ok (.ixor, 1) := by decide +kernel
theorem dJ6_numberOfTrailingZeros_0f7a4_3 : decode cJ6_numberOfTrailingZeros_0f7a4 3 = .ok (.iload_n 0, 1) := by decide +kernel
theorem dJ6_numberOfTrailingZeros_0f7a4_4 : decode cJ6_numberOfTrailingZeros_0f7a4 4 = .ok (.iconst 1, 1) := by decide +kernel
theorem dJ6_numberOfTrailingZeros_0f7a4_5 : decode cJ6_numberOfTrailingZeros_0f7a4 5 = .ok (.isub, 1) := by decide +kernel
theorem dJ6_numberOfTrailingZeros_0f7a4_6 : decode cJ6_numberOfTrailingZeros_0f7a4 6 = .ok (.iand, 1) := by decide +kernel
theorem dJ6_numberOfTrailingZeros_0f7a4_7 : decode cJ6_numberOfTrailingZeros_0f7a4 7 = .ok (.istore_n 0, 1) := by decide +kernel
theorem dJ6_numberOfTrailingZeros_0f7a4_8 : decode cJ6_numberOfTrailingZeros_0f7a4 8 = .ok (.iload_n 0, 1) := by decide +kernel
theorem dJ6_numberOfTrailingZeros_0f7a4_9 : decode cJ6_numberOfTrailingZeros_0f7a4 9 = .ok (.ifCond .gt 8, 3) := by decide +kernel
theorem dJ6_numberOfTrailingZeros_0f7a4_12 : decode cJ6_numberOfTrailingZeros_0f7a4 12 = .ok (.iload_n 0, 1) := by decide +kernel
theorem dJ6_numberOfTrailingZeros_0f7a4_13 : decode cJ6_numberOfTrailingZeros_0f7a4 13 = .ok (.bipush 32, 2) := by decide +kernel
theorem dJ6_numberOfTrailingZeros_0f7a4_15 : decode cJ6_numberOfTrailingZeros_0f7a4 15 = .ok (.iand, 1) := by decide +kernel
theorem dJ6_numberOfTrailingZeros_0f7a4_16 : decode cJ6_numberOfTrailingZeros_0f7a4 16 = .ok (.ireturn, 1) := by decide +kernel
theorem dJ6_numberOfTrailingZeros_0f7a4_17 : decode cJ6_numberOfTrailingZeros_0f7a4 17 = .ok (.iconst 1, 1) := by decide +kernel
theorem dJ6_numberOfTrailingZeros_0f7a4_18 : decode cJ6_numberOfTrailingZeros_0f7a4 18 = .ok (.istore_n 1, 1) := by decide +kernel
theorem dJ6_numberOfTrailingZeros_0f7a4_19 : decode cJ6_numberOfTrailingZeros_0f7a4 19 = .ok (.iload_n 0, 1) := by decide +kernel
theorem dJ6_numberOfTrailingZeros_0f7a4_20 : decode cJ6_numberOfTrailingZeros_0f7a4 20 = .ok (.ldc_w 264, 3) := by decide +kernel
theorem dJ6_numberOfTrailingZeros_0f7a4_23 : decode cJ6_numberOfTrailingZeros_0f7a4 23 = .ok (.if_icmp .le 11, 3) := by decide +kernel
theorem dJ6_numberOfTrailingZeros_0f7a4_26 : decode cJ6_numberOfTrailingZeros_0f7a4 26 = .ok (.iinc 1 16, 3) := by decide +kernel
theorem dJ6_numberOfTrailingZeros_0f7a4_29 : decode cJ6_numberOfTrailingZeros_0f7a4 29 = .ok (.iload_n 0, 1) := by decide +kernel
theorem dJ6_numberOfTrailingZeros_0f7a4_30 : decode cJ6_numberOfTrailingZeros_0f7a4 30 = .ok (.bipush 16, 2) := by decide +kernel
theorem dJ6_numberOfTrailingZeros_0f7a4_32 : decode cJ6_numberOfTrailingZeros_0f7a4 32 = .ok (.iushr, 1) := by decide +kernel
theorem dJ6_numberOfTrailingZeros_0f7a4_33 : decode cJ6_numberOfTrailingZeros_0f7a4 33 = .ok (.istore_n 0, 1) := by decide +kernel
theorem dJ6_numberOfTrailingZeros_0f7a4_34 : decode cJ6_numberOfTrailingZeros_0f7a4 34 = .ok (.iload_n 0, 1) := by decide +kernel
theorem dJ6_numberOfTrailingZeros_0f7a4_35 : decode cJ6_numberOfTrailingZeros_0f7a4 35 = .ok (.sipush 256, 3) := by decide +kernel
theorem dJ6_numberOfTrailingZeros_0f7a4_38 : decode cJ6_numberOfTrailingZeros_0f7a4 38 = .ok (.if_icmp .le 11, 3) := by decide +kernel
theorem dJ6_numberOfTrailingZeros_0f7a4_41 : decode cJ6_numberOfTrailingZeros_0f7a4 41 = .ok (.iinc 1 8, 3) := by decide +kernel
theorem dJ6_numberOfTrailingZeros_0f7a4_44 : decode cJ6_numberOfTrailingZeros_0f7a4 44 = .ok (.iload_n 0, 1) := by decide +kernel
theorem dJ6_numberOfTrailingZeros_0f7a4_45 : decode cJ6_numberOfTrailingZeros_0f7a4 45 = .ok (.bipush 8, 2) := by decide +kernel
theorem dJ6_numberOfTrailingZeros_0f7a4_47 : decode cJ6_numberOfTrailingZeros_0f7a4 47 = .ok (.iushr, 1) := by decide +kernel
theorem dJ6_numberOfTrailingZeros_0f7a4_48 : decode cJ6_numberOfTrailingZeros_0f7a4 48 = .ok (.istore_n 0, 1) := by decide +kernel
theorem dJ6_numberOfTrailingZeros_0f7a4_49 : decode cJ6_numberOfTrailingZeros_0f7a4 49 = .ok (.iload_n 0, 1) := by decide +kernel
theorem dJ6_numberOfTrailingZeros_0f7a4_50 : decode cJ6_numberOfTrailingZeros_0f7a4 50 = .ok (.bipush 16, 2) := by decide +kernel
theorem dJ6_numberOfTrailingZeros_0f7a4_52 : decode cJ6_numberOfTrailingZeros_0f7a4 52 = .ok (.if_icmp .le 10, 3) := by decide +kernel
theorem dJ6_numberOfTrailingZeros_0f7a4_55 : decode cJ6_numberOfTrailingZeros_0f7a4 55 = .ok (.iinc 1 4, 3) := by decide +kernel
theorem dJ6_numberOfTrailingZeros_0f7a4_58 : decode cJ6_numberOfTrailingZeros_0f7a4 58 = .ok (.iload_n 0, 1) := by decide +kernel
theorem dJ6_numberOfTrailingZeros_0f7a4_59 : decode cJ6_numberOfTrailingZeros_0f7a4 59 = .ok (.iconst 4, 1) := by decide +kernel
theorem dJ6_numberOfTrailingZeros_0f7a4_60 : decode cJ6_numberOfTrailingZeros_0f7a4 60 = .ok (.iushr, 1) := by decide +kernel
theorem dJ6_numberOfTrailingZeros_0f7a4_61 : decode cJ6_numberOfTrailingZeros_0f7a4 61 = .ok (.istore_n 0, 1) := by decide +kernel
theorem dJ6_numberOfTrailingZeros_0f7a4_62 : decode cJ6_numberOfTrailingZeros_0f7a4 62 = .ok (.iload_n 0, 1) := by decide +kernel
theorem dJ6_numberOfTrailingZeros_0f7a4_63 : decode cJ6_numberOfTrailingZeros_0f7a4 63 = .ok (.iconst 4, 1) := by decide +kernel
theorem dJ6_numberOfTrailingZeros_0f7a4_64 : decode cJ6_numberOfTrailingZeros_0f7a4 64 = .ok (.if_icmp .le 10, 3) := by decide +kernel
theorem dJ6_numberOfTrailingZeros_0f7a4_67 : decode cJ6_numberOfTrailingZeros_0f7a4 67 = .ok (.iinc 1 2, 3) := by decide +kernel
theorem dJ6_numberOfTrailingZeros_0f7a4_70 : decode cJ6_numberOfTrailingZeros_0f7a4 70 = .ok (.iload_n 0, 1) := by decide +kernel
theorem dJ6_numberOfTrailingZeros_0f7a4_71 : decode cJ6_numberOfTrailingZeros_0f7a4 71 = .ok (.iconst 2, 1) := by decide +kernel
theorem dJ6_numberOfTrailingZeros_0f7a4_72 : decode cJ6_numberOfTrailingZeros_0f7a4 72 = .ok (.iushr, 1) := by decide +kernel
theorem dJ6_numberOfTrailingZeros_0f7a4_73 : decode cJ6_numberOfTrailingZeros_0f7a4 73 = .ok (.istore_n 0, 1) := by decide +kernel
theorem dJ6_numberOfTrailingZeros_0f7a4_74 : decode cJ6_numberOfTrailingZeros_0f7a4 74 = .ok (.iload_n 1, 1) := by decide +kernel
theorem dJ6_numberOfTrailingZeros_0f7a4_75 : decode cJ6_numberOfTrailingZeros_0f7a4 75 = .ok (.iload_n 0, 1) := by decide +kernel
theorem dJ6_numberOfTrailingZeros_0f7a4_76 : decode cJ6_numberOfTrailingZeros_0f7a4 76 = .ok (.iconst 1, 1) := by decide +kernel
theorem dJ6_numberOfTrailingZeros_0f7a4_77 : decode cJ6_numberOfTrailingZeros_0f7a4 77 = .ok (.iushr, 1) := by decide +kernel
theorem dJ6_numberOfTrailingZeros_0f7a4_78 : decode cJ6_numberOfTrailingZeros_0f7a4 78 = .ok (.iadd, 1) := by decide +kernel
theorem dJ6_numberOfTrailingZeros_0f7a4_79 : decode cJ6_numberOfTrailingZeros_0f7a4 79 = .ok (.ireturn, 1) := by decide +kernel
def jJ6_numberOfTrailingZeros_0f7a4_62 (x0 : Int32) (x1 : Int32) : Option (Int32) := (if x0 ≤ (4 : Int32) then (some (x1 + ((x0.toUInt32 >>> ((1 : Int32).toUInt32 &&& Int32.toUInt32 31)).toInt32))) else (zlet ((x0.toUInt32 >>> ((2 : Int32).toUInt32 &&& Int32.toUInt32 31)).toInt32) (fun x0_2 : Int32 => (some ((x1 + 2) + ((x0_2.toUInt32 >>> ((1 : Int32).toUInt32 &&& Int32.toUInt32 31)).toInt32))))))
set_option maxRecDepth 20000 in
theorem wJ6_numberOfTrailingZeros_0f7a4_62 {X : zCx} {res : Int32} (C : zC X RJ6 cJ6_numberOfTrailingZeros_0f7a4 2 0 0) (hR : zR X (some .int) (some (.int res)) []) (x0 : Int32) (x1 : Int32) : zJ X 2 res (jJ6_numberOfTrailingZeros_0f7a4_62 x0 x1) 62 [(0, (.int x0)), (1, (.int x1))] [] [] := by
  unfold jJ6_numberOfTrailingZeros_0f7a4_62
  refine z_iload_n (pc := 62) 0 rfl rfl C dJ6_numberOfTrailingZeros_0f7a4_62 ?_
  refine z_iconst (pc := 63) (4 : Int32) (by decide) C dJ6_numberOfTrailingZeros_0f7a4_63 ?_
  refine z_icmp_le (pc := 64) 74 C dJ6_numberOfTrailingZeros_0f7a4_64 (by decide) ?_ ?_
  · refine z_iload_n (pc := 74) 1 rfl rfl C dJ6_numberOfTrailingZeros_0f7a4_74 ?_
    refine z_iload_n (pc := 75) 0 rfl rfl C dJ6_numberOfTrailingZeros_0f7a4_75 ?_
    refine z_iconst (pc := 76) (1 : Int32) (by decide) C dJ6_numberOfTrailingZeros_0f7a4_76 ?_
    refine z_iushr (pc := 77) C dJ6_numberOfTrailingZeros_0f7a4_77 ?_
    refine z_iadd (pc := 78) C dJ6_numberOfTrailingZeros_0f7a4_78 ?_
    exact z_ireturn (pc := 79) C hR dJ6_numberOfTrailingZeros_0f7a4_79 (fun h => by subst h; exact ⟨rfl, rfl⟩)
  · refine z_iinc (pc := 67) (x1 + 2) 1 rfl rfl [(0, (.int x0)), (1, (.int (x1 + 2)))] [1, 0] (by decide) rfl C dJ6_numberOfTrailingZeros_0f7a4_67 ?_
    refine z_iload_n (pc := 70) 0 rfl rfl C dJ6_numberOfTrailingZeros_0f7a4_70 ?_
    refine z_iconst (pc := 71) (2 : Int32) (by decide) C dJ6_numberOfTrailingZeros_0f7a4_71 ?_
    refine z_iushr (pc := 72) C dJ6_numberOfTrailingZeros_0f7a4_72 ?_
    refine z_leti (fun x0_2 => ?_)
    refine z_istore_n (pc := 73) [(0, (.int x0_2)), (1, (.int (x1 + 2)))] [0, 1] (by decide) rfl rfl C dJ6_numberOfTrailingZeros_0f7a4_73 ?_
    refine z_iload_n (pc := 74) 1 rfl rfl C dJ6_numberOfTrailingZeros_0f7a4_74 ?_
    refine z_iload_n (pc := 75) 0 rfl rfl C dJ6_numberOfTrailingZeros_0f7a4_75 ?_
    refine z_iconst (pc := 76) (1 : Int32) (by decide) C dJ6_numberOfTrailingZeros_0f7a4_76 ?_
    refine z_iushr (pc := 77) C dJ6_numberOfTrailingZeros_0f7a4_77 ?_
    refine z_iadd (pc := 78) C dJ6_numberOfTrailingZeros_0f7a4_78 ?_
    exact z_ireturn (pc := 79) C hR dJ6_numberOfTrailingZeros_0f7a4_79 (fun h => by subst h; exact ⟨rfl, rfl⟩)
def jJ6_numberOfTrailingZeros_0f7a4_49 (x0 : Int32) (x1 : Int32) : Option (Int32) := (if x0 ≤ (16 : Int32) then (jJ6_numberOfTrailingZeros_0f7a4_62 x0 x1) else (zlet ((x0.toUInt32 >>> ((4 : Int32).toUInt32 &&& Int32.toUInt32 31)).toInt32) (fun x0_3 : Int32 => (jJ6_numberOfTrailingZeros_0f7a4_62 x0_3 (x1 + 4)))))
set_option maxRecDepth 20000 in
theorem wJ6_numberOfTrailingZeros_0f7a4_49 {X : zCx} {res : Int32} (C : zC X RJ6 cJ6_numberOfTrailingZeros_0f7a4 2 0 0) (hR : zR X (some .int) (some (.int res)) []) (x0 : Int32) (x1 : Int32) : zJ X 2 res (jJ6_numberOfTrailingZeros_0f7a4_49 x0 x1) 49 [(0, (.int x0)), (1, (.int x1))] [] [] := by
  unfold jJ6_numberOfTrailingZeros_0f7a4_49
  refine z_iload_n (pc := 49) 0 rfl rfl C dJ6_numberOfTrailingZeros_0f7a4_49 ?_
  refine z_bipush (pc := 50) (16 : Int32) (by decide) C dJ6_numberOfTrailingZeros_0f7a4_50 ?_
  refine z_icmp_le (pc := 52) 62 C dJ6_numberOfTrailingZeros_0f7a4_52 (by decide) ?_ ?_
  · exact wJ6_numberOfTrailingZeros_0f7a4_62 C hR   _ _
  · refine z_iinc (pc := 55) (x1 + 4) 1 rfl rfl [(0, (.int x0)), (1, (.int (x1 + 4)))] [1, 0] (by decide) rfl C dJ6_numberOfTrailingZeros_0f7a4_55 ?_
    refine z_iload_n (pc := 58) 0 rfl rfl C dJ6_numberOfTrailingZeros_0f7a4_58 ?_
    refine z_iconst (pc := 59) (4 : Int32) (by decide) C dJ6_numberOfTrailingZeros_0f7a4_59 ?_
    refine z_iushr (pc := 60) C dJ6_numberOfTrailingZeros_0f7a4_60 ?_
    refine z_leti (fun x0_3 => ?_)
    refine z_istore_n (pc := 61) [(0, (.int x0_3)), (1, (.int (x1 + 4)))] [0, 1] (by decide) rfl rfl C dJ6_numberOfTrailingZeros_0f7a4_61 ?_
    exact wJ6_numberOfTrailingZeros_0f7a4_62 C hR   _ _
def jJ6_numberOfTrailingZeros_0f7a4_34 (x0 : Int32) (x1 : Int32) : Option (Int32) := (if x0 ≤ (256 : Int32) then (jJ6_numberOfTrailingZeros_0f7a4_49 x0 x1) else (zlet ((x0.toUInt32 >>> ((8 : Int32).toUInt32 &&& Int32.toUInt32 31)).toInt32) (fun x0_4 : Int32 => (jJ6_numberOfTrailingZeros_0f7a4_49 x0_4 (x1 + 8)))))
set_option maxRecDepth 20000 in
theorem wJ6_numberOfTrailingZeros_0f7a4_34 {X : zCx} {res : Int32} (C : zC X RJ6 cJ6_numberOfTrailingZeros_0f7a4 2 0 0) (hR : zR X (some .int) (some (.int res)) []) (x0 : Int32) (x1 : Int32) : zJ X 2 res (jJ6_numberOfTrailingZeros_0f7a4_34 x0 x1) 34 [(0, (.int x0)), (1, (.int x1))] [] [] := by
  unfold jJ6_numberOfTrailingZeros_0f7a4_34
  refine z_iload_n (pc := 34) 0 rfl rfl C dJ6_numberOfTrailingZeros_0f7a4_34 ?_
  refine z_sipush (pc := 35) (256 : Int32) (by decide) C dJ6_numberOfTrailingZeros_0f7a4_35 ?_
  refine z_icmp_le (pc := 38) 49 C dJ6_numberOfTrailingZeros_0f7a4_38 (by decide) ?_ ?_
  · exact wJ6_numberOfTrailingZeros_0f7a4_49 C hR   _ _
  · refine z_iinc (pc := 41) (x1 + 8) 1 rfl rfl [(0, (.int x0)), (1, (.int (x1 + 8)))] [1, 0] (by decide) rfl C dJ6_numberOfTrailingZeros_0f7a4_41 ?_
    refine z_iload_n (pc := 44) 0 rfl rfl C dJ6_numberOfTrailingZeros_0f7a4_44 ?_
    refine z_bipush (pc := 45) (8 : Int32) (by decide) C dJ6_numberOfTrailingZeros_0f7a4_45 ?_
    refine z_iushr (pc := 47) C dJ6_numberOfTrailingZeros_0f7a4_47 ?_
    refine z_leti (fun x0_4 => ?_)
    refine z_istore_n (pc := 48) [(0, (.int x0_4)), (1, (.int (x1 + 8)))] [0, 1] (by decide) rfl rfl C dJ6_numberOfTrailingZeros_0f7a4_48 ?_
    exact wJ6_numberOfTrailingZeros_0f7a4_49 C hR   _ _
def fJ6_numberOfTrailingZeros_0f7a4 (x0 : Int32) : Option (Int32) := (zlet ((x0 ^^^ (-1 : Int32)) &&& (x0 - (1 : Int32))) (fun x0_1 : Int32 => (if 0 < x0_1 then (if x0_1 ≤ (65536 : Int32) then (jJ6_numberOfTrailingZeros_0f7a4_34 x0_1 (1 : Int32)) else (zlet ((x0_1.toUInt32 >>> ((16 : Int32).toUInt32 &&& Int32.toUInt32 31)).toInt32) (fun x0_5 : Int32 => (jJ6_numberOfTrailingZeros_0f7a4_34 x0_5 ((1 : Int32) + 16))))) else (some (x0_1 &&& (32 : Int32))))))
set_option maxRecDepth 20000 in
theorem wJ6_numberOfTrailingZeros_0f7a4 {X : zCx} {res : Int32}   {x0 : Int32} (C : zC X RJ6 cJ6_numberOfTrailingZeros_0f7a4 2 0 0) (hR : zR X (some .int) (some (.int res)) [])  : zJ X 2 res (fJ6_numberOfTrailingZeros_0f7a4 x0) 0 [(0, (.int x0))] [] [] := by
  unfold fJ6_numberOfTrailingZeros_0f7a4
  refine z_iload_n (pc := 0) 0 rfl rfl C dJ6_numberOfTrailingZeros_0f7a4_0 ?_
  refine z_iconst (pc := 1) (-1 : Int32) (by decide) C dJ6_numberOfTrailingZeros_0f7a4_1 ?_
  refine z_ixor (pc := 2) C dJ6_numberOfTrailingZeros_0f7a4_2 ?_
  refine z_iload_n (pc := 3) 0 rfl rfl C dJ6_numberOfTrailingZeros_0f7a4_3 ?_
  refine z_iconst (pc := 4) (1 : Int32) (by decide) C dJ6_numberOfTrailingZeros_0f7a4_4 ?_
  refine z_isub (pc := 5) C dJ6_numberOfTrailingZeros_0f7a4_5 ?_
  refine z_iand (pc := 6) C dJ6_numberOfTrailingZeros_0f7a4_6 ?_
  refine z_leti (fun x0_1 => ?_)
  refine z_istore_n (pc := 7) [(0, (.int x0_1))] [0] (by decide) rfl rfl C dJ6_numberOfTrailingZeros_0f7a4_7 ?_
  refine z_iload_n (pc := 8) 0 rfl rfl C dJ6_numberOfTrailingZeros_0f7a4_8 ?_
  refine z_if_gt (pc := 9) 17 C dJ6_numberOfTrailingZeros_0f7a4_9 (by decide) ?_ ?_
  · refine z_iconst (pc := 17) (1 : Int32) (by decide) C dJ6_numberOfTrailingZeros_0f7a4_17 ?_
    refine z_istore_n (pc := 18) [(0, (.int x0_1)), (1, (.int (1 : Int32)))] [1, 0] (by decide) rfl rfl C dJ6_numberOfTrailingZeros_0f7a4_18 ?_
    refine z_iload_n (pc := 19) 0 rfl rfl C dJ6_numberOfTrailingZeros_0f7a4_19 ?_
    refine z_ldc_w (pc := 20) (65536 : Int32) zw_605 C dJ6_numberOfTrailingZeros_0f7a4_20 ?_
    refine z_icmp_le (pc := 23) 34 C dJ6_numberOfTrailingZeros_0f7a4_23 (by decide) ?_ ?_
    · exact wJ6_numberOfTrailingZeros_0f7a4_34 C hR   _ _
    · refine z_iinc (pc := 26) ((1 : Int32) + 16) 1 rfl rfl [(0, (.int x0_1)), (1, (.int ((1 : Int32) + 16)))] [1, 0] (by decide) rfl C dJ6_numberOfTrailingZeros_0f7a4_26 ?_
      refine z_iload_n (pc := 29) 0 rfl rfl C dJ6_numberOfTrailingZeros_0f7a4_29 ?_
      refine z_bipush (pc := 30) (16 : Int32) (by decide) C dJ6_numberOfTrailingZeros_0f7a4_30 ?_
      refine z_iushr (pc := 32) C dJ6_numberOfTrailingZeros_0f7a4_32 ?_
      refine z_leti (fun x0_5 => ?_)
      refine z_istore_n (pc := 33) [(0, (.int x0_5)), (1, (.int ((1 : Int32) + 16)))] [0, 1] (by decide) rfl rfl C dJ6_numberOfTrailingZeros_0f7a4_33 ?_
      exact wJ6_numberOfTrailingZeros_0f7a4_34 C hR   _ _
  · refine z_iload_n (pc := 12) 0 rfl rfl C dJ6_numberOfTrailingZeros_0f7a4_12 ?_
    refine z_bipush (pc := 13) (32 : Int32) (by decide) C dJ6_numberOfTrailingZeros_0f7a4_13 ?_
    refine z_iand (pc := 15) C dJ6_numberOfTrailingZeros_0f7a4_15 ?_
    exact z_ireturn (pc := 16) C hR dJ6_numberOfTrailingZeros_0f7a4_16 (fun h => by subst h; exact ⟨rfl, rfl⟩)
theorem mJ6_numberOfTrailingZeros_0f7a4   {x0 : Int32} {res : Int32}  (hf : fJ6_numberOfTrailingZeros_0f7a4 x0 = some res) : zM yJ6_numberOfTrailingZeros_0f7a4 cJ6_numberOfTrailingZeros_0f7a4 2 (some .int) 0 0 [(.int x0)] [] (some (.int res)) [] := zM_of (by decide +kernel) (Nat.le_of_ble_eq_true rfl) (fun X C hR => wJ6_numberOfTrailingZeros_0f7a4 C hR  hf)
theorem dJ13_numberOfTrailingZeros_95d88_0 : decode cJ13_numberOfTrailingZeros_95d88 0 = .ok (.lload_n 0, 1) := by decide +kernel
theorem dJ13_numberOfTrailingZeros_95d88_1 : decode cJ13_numberOfTrailingZeros_95d88 1 = .ok (.l2i, 1) := by decide +kernel
theorem dJ13_numberOfTrailingZeros_95d88_2 : decode cJ13_numberOfTrailingZeros_95d88 2 = .ok (.istore_n 2, 1) := by decide +kernel
theorem dJ13_numberOfTrailingZeros_95d88_3 : decode cJ13_numberOfTrailingZeros_95d88 3 = .ok (.iload_n 2, 1) := by decide +kernel
theorem dJ13_numberOfTrailingZeros_95d88_4 : decode cJ13_numberOfTrailingZeros_95d88 4 = .ok (.ifCond .ne 17, 3) := by decide +kernel
theorem dJ13_numberOfTrailingZeros_95d88_7 : decode cJ13_numberOfTrailingZeros_95d88 7 = .ok (.bipush 32, 2) := by decide +kernel
theorem dJ13_numberOfTrailingZeros_95d88_9 : decode cJ13_numberOfTrailingZeros_95d88 9 = .ok (.lload_n 0, 1) := by decide +kernel
theorem dJ13_numberOfTrailingZeros_95d88_10 : decode cJ13_numberOfTrailingZeros_95d88 10 = .ok (.bipush 32, 2) := by decide +kernel
theorem dJ13_numberOfTrailingZeros_95d88_12 : decode cJ13_numberOfTrailingZeros_95d88 12 = .ok (.lushr, 1) := by decide +kernel
theorem dJ13_numberOfTrailingZeros_95d88_13 : decode cJ13_numberOfTrailingZeros_95d88 13 = .ok (.l2i, 1) := by decide +kernel
theorem dJ13_numberOfTrailingZeros_95d88_14 : decode cJ13_numberOfTrailingZeros_95d88 14 = .ok (.invokestatic 311, 3) := by decide +kernel
theorem dJ13_numberOfTrailingZeros_95d88_17 : decode cJ13_numberOfTrailingZeros_95d88 17 = .ok (.iadd, 1) := by decide +kernel
theorem dJ13_numberOfTrailingZeros_95d88_18 : decode cJ13_numberOfTrailingZeros_95d88 18 = .ok (.goto 7, 3) := by decide +kernel
theorem dJ13_numberOfTrailingZeros_95d88_21 : decode cJ13_numberOfTrailingZeros_95d88 21 = .ok (.iload_n 2, 1) := by decide +kernel
theorem dJ13_numberOfTrailingZeros_95d88_22 : decode cJ13_numberOfTrailingZeros_95d88 22 = .ok (.invokestatic 311, 3) := by decide +kernel
theorem dJ13_numberOfTrailingZeros_95d88_25 : decode cJ13_numberOfTrailingZeros_95d88 25 = .ok (.ireturn, 1) := by decide +kernel
def fJ13_numberOfTrailingZeros_95d88 (x0 : Int64) : Option (Int32) := (zlet x0.toInt32 (fun x2_1 : Int32 => (if x2_1 = 0 then (Option.bind (fJ6_numberOfTrailingZeros_0f7a4 (((x0.toUInt64 >>> ((32 : Int32).toInt64.toUInt64 &&& Int64.toUInt64 63)).toInt64).toInt32)) (fun r_2 : Int32 => (some ((32 : Int32) + r_2)))) else (Option.bind (fJ6_numberOfTrailingZeros_0f7a4 x2_1) (fun r_4 : Int32 => (some (r_4)))))))
set_option maxRecDepth 20000 in
theorem wJ13_numberOfTrailingZeros_95d88 {X : zCx} {res : Int32}   {x0 : Int64} (C : zC X RJ13 cJ13_numberOfTrailingZeros_95d88 3 1 21) (hR : zR X (some .int) (some (.int res)) [])  : zJ X 3 res (fJ13_numberOfTrailingZeros_95d88 x0) 0 [(0, (.long x0))] [] [] := by
  unfold fJ13_numberOfTrailingZeros_95d88
  refine z_lload_n (pc := 0) 0 rfl rfl C dJ13_numberOfTrailingZeros_95d88_0 ?_
  refine z_l2i (pc := 1) C dJ13_numberOfTrailingZeros_95d88_1 ?_
  refine z_leti (fun x2_1 => ?_)
  refine z_istore_n (pc := 2) [(0, (.long x0)), (2, (.int x2_1))] [1, 0] (by decide) rfl rfl C dJ13_numberOfTrailingZeros_95d88_2 ?_
  refine z_iload_n (pc := 3) 1 rfl rfl C dJ13_numberOfTrailingZeros_95d88_3 ?_
  refine z_if_ne (pc := 4) 21 C dJ13_numberOfTrailingZeros_95d88_4 (by decide) ?_ ?_
  · refine z_bipush (pc := 7) (32 : Int32) (by decide) C dJ13_numberOfTrailingZeros_95d88_7 ?_
    refine z_lload_n (pc := 9) 0 rfl rfl C dJ13_numberOfTrailingZeros_95d88_9 ?_
    refine z_bipush (pc := 10) (32 : Int32) (by decide) C dJ13_numberOfTrailingZeros_95d88_10 ?_
    refine z_lushr (pc := 12) C dJ13_numberOfTrailingZeros_95d88_12 ?_
    refine z_l2i (pc := 13) C dJ13_numberOfTrailingZeros_95d88_13 ?_
    refine z_callS (pc := 14) (rf' := 0) (rl' := 0) (fJ6_numberOfTrailingZeros_0f7a4 (((x0.toUInt64 >>> ((32 : Int32).toInt64.toUInt64 &&& Int64.toUInt64 63)).toInt64).toInt32)) [(.int (((x0.toUInt64 >>> ((32 : Int32).toInt64.toUInt64 &&& Int64.toUInt64 63)).toInt64).toInt32))] [(.int (32 : Int32))] [] (fun r_2 => (some (.int r_2))) (fun r_2 => []) [] (fun r_2 => []) C dJ13_numberOfTrailingZeros_95d88_14 zy_J6_numberOfTrailingZeros_0f7a4 zw_602 (fun _ hr9 => mJ6_numberOfTrailingZeros_0f7a4  hr9) (by decide) rfl (Nat.le_of_ble_eq_true rfl) (List.Perm.refl _) (fun _ => List.Perm.refl _) rfl (fun r_2 hr_3 => ?_)
    show zJ X 3 res _ 17 [(0, (.long x0)), (2, (.int x2_1))] [(.int r_2), (.int (32 : Int32))] []
    refine z_iadd (pc := 17) C dJ13_numberOfTrailingZeros_95d88_17 ?_
    refine z_goto (pc := 18) 25 C dJ13_numberOfTrailingZeros_95d88_18 (by decide) ?_
    exact z_ireturn (pc := 25) C hR dJ13_numberOfTrailingZeros_95d88_25 (fun h => by subst h; exact ⟨rfl, rfl⟩)
  · refine z_iload_n (pc := 21) 1 rfl rfl C dJ13_numberOfTrailingZeros_95d88_21 ?_
    refine z_callS (pc := 22) (rf' := 0) (rl' := 0) (fJ6_numberOfTrailingZeros_0f7a4 x2_1) [(.int x2_1)] [] [] (fun r_4 => (some (.int r_4))) (fun r_4 => []) [] (fun r_4 => []) C dJ13_numberOfTrailingZeros_95d88_22 zy_J6_numberOfTrailingZeros_0f7a4 zw_602 (fun _ hr9 => mJ6_numberOfTrailingZeros_0f7a4  hr9) (by decide) rfl (Nat.le_of_ble_eq_true rfl) (List.Perm.refl _) (fun _ => List.Perm.refl _) rfl (fun r_4 hr_5 => ?_)
    show zJ X 3 res _ 25 [(0, (.long x0)), (2, (.int x2_1))] [(.int r_4)] []
    exact z_ireturn (pc := 25) C hR dJ13_numberOfTrailingZeros_95d88_25 (fun h => by subst h; exact ⟨rfl, rfl⟩)
theorem mJ13_numberOfTrailingZeros_95d88   {x0 : Int64} {res : Int32}  (hf : fJ13_numberOfTrailingZeros_95d88 x0 = some res) : zM yJ13_numberOfTrailingZeros_95d88 cJ13_numberOfTrailingZeros_95d88 3 (some .int) 1 21 [(.long x0)] [] (some (.int res)) [] := zM_of (by decide +kernel) (Nat.le_of_ble_eq_true rfl) (fun X C hR => wJ13_numberOfTrailingZeros_95d88 C hR  hf)
theorem dJ7_fill_53178_0 : decode cJ7_fill_53178 0 = .ok (.iconst 0, 1) := by decide +kernel
theorem dJ7_fill_53178_1 : decode cJ7_fill_53178 1 = .ok (.istore_n 2, 1) := by decide +kernel
theorem dJ7_fill_53178_2 : decode cJ7_fill_53178 2 = .ok (.aload_n 0, 1) := by decide +kernel
theorem dJ7_fill_53178_3 : decode cJ7_fill_53178 3 = .ok (.arraylength, 1) := by decide +kernel
theorem dJ7_fill_53178_4 : decode cJ7_fill_53178 4 = .ok (.istore_n 3, 1) := by decide +kernel
theorem dJ7_fill_53178_5 : decode cJ7_fill_53178 5 = .ok (.iload_n 2, 1) := by decide +kernel
theorem dJ7_fill_53178_6 : decode cJ7_fill_53178 6 = .ok (.iload_n 3, 1) := by decide +kernel
theorem dJ7_fill_53178_7 : decode cJ7_fill_53178 7 = .ok (.if_icmp .ge 13, 3) := by decide +kernel
theorem dJ7_fill_53178_10 : decode cJ7_fill_53178 10 = .ok (.aload_n 0, 1) := by decide +kernel
theorem dJ7_fill_53178_11 : decode cJ7_fill_53178 11 = .ok (.iload_n 2, 1) := by decide +kernel
theorem dJ7_fill_53178_12 : decode cJ7_fill_53178 12 = .ok (.iload_n 1, 1) := by decide +kernel
theorem dJ7_fill_53178_13 : decode cJ7_fill_53178 13 = .ok (.iastore, 1) := by decide +kernel
theorem dJ7_fill_53178_14 : decode cJ7_fill_53178 14 = .ok (.iinc 2 1, 3) := by decide +kernel
theorem dJ7_fill_53178_17 : decode cJ7_fill_53178 17 = .ok (.goto (-12), 3) := by decide +kernel
theorem dJ7_fill_53178_20 : decode cJ7_fill_53178 20 = .ok (.return_, 1) := by decide +kernel
def bJ7_fill_53178_5 (F : Nat) (nZ : Nat) (k0 : Nat) (x1 : Int32) (x3 : Int32) (kc_5 : (Int32 × zOS) → Option (zOS)) (x2 : Int32) (sZ : zOS) : Option (zOS) := (if x3 ≤ x2 then (some (sZ)) else (zchk x2 nZ (zlet (zsI sZ k0 (upd (zI sZ k0) x2.toNatClampNeg x1)) (fun sZ_2 : zOS => (kc_5 ((x2 + 1), sZ_2))))))
set_option maxRecDepth 20000 in
theorem vJ7_fill_53178_5 {X : zCx} {res : zOS} {F : Nat} {qZ : Nat → Nat} {cZ nZ : Nat} {k0 : Nat} {x1 : Int32} {x3 : Int32} {kc_5 : (Int32 × zOS) → Option (zOS)} (C : zC X RJ7 cJ7_fill_53178 4 0 0) (hR : zR X none none [(cZ, qZ, res)]) (ha0 : zAr cZ k0 0 nZ) (hk_5 : ∀ (y2 : Int32) (tZ : zOS), zJ X 4 res (kc_5 (y2, tZ)) 5 [(0, (.ref (qZ k0))), (1, (.int x1)), (2, (.int y2)), (3, (.int x3))] [] [(cZ, qZ, tZ)]) (x2 : Int32) (sZ : zOS) : zJ X 4 res (bJ7_fill_53178_5 F nZ k0 x1 x3 kc_5 x2 sZ) 5 [(0, (.ref (qZ k0))), (1, (.int x1)), (2, (.int x2)), (3, (.int x3))] [] [(cZ, qZ, sZ)] := by
  unfold bJ7_fill_53178_5
  refine z_iload_n (pc := 5) 2 rfl rfl C dJ7_fill_53178_5 ?_
  refine z_iload_n (pc := 6) 3 rfl rfl C dJ7_fill_53178_6 ?_
  refine z_icmp_ge (pc := 7) 20 C dJ7_fill_53178_7 (by decide) ?_ ?_
  · exact z_return (pc := 20) C hR dJ7_fill_53178_20 (fun h => by subst h; exact ⟨rfl, rfl⟩)
  · refine z_aload_n (pc := 10) 0 rfl rfl C dJ7_fill_53178_10 ?_
    refine z_iload_n (pc := 11) 2 rfl rfl C dJ7_fill_53178_11 ?_
    refine z_iload_n (pc := 12) 1 rfl rfl C dJ7_fill_53178_12 ?_
    refine z_iast (pc := 13) 0 C dJ7_fill_53178_13 rfl ha0 [(cZ, qZ, (zsI sZ k0 (upd (zI sZ k0) x2.toNatClampNeg x1)))] rfl ?_
    refine z_letc (fun z9 => [(cZ, qZ, z9)]) (fun sZ_2 => ?_)
    refine z_iinc (pc := 14) (x2 + 1) 2 rfl rfl [(0, (.ref (qZ k0))), (1, (.int x1)), (2, (.int (x2 + 1))), (3, (.int x3))] [1, 2, 0, 3] (by decide) rfl C dJ7_fill_53178_14 ?_
    refine z_goto (pc := 17) 5 C dJ7_fill_53178_17 (by decide) ?_
    exact hk_5 _ _
def fJ7_fill_53178 (F : Nat) (nZ : Nat) (k0 : Nat) (x1 : Int32) (sZ : zOS) : Option (zOS) := (zlet (nI nZ) (fun x3_1 : Int32 => (zit (P := Int32 × zOS) (R := zOS) (fun kc9 p9 => bJ7_fill_53178_5 F nZ k0 x1 x3_1 kc9 p9.1 p9.2) F ((0 : Int32), sZ))))
set_option maxRecDepth 20000 in
theorem wJ7_fill_53178 {X : zCx} {res : zOS} {F : Nat} {qZ : Nat → Nat} {cZ nZ : Nat} {k0 : Nat} {x1 : Int32} {sZ : zOS} (C : zC X RJ7 cJ7_fill_53178 4 0 0) (hR : zR X none none [(cZ, qZ, res)]) (ha0 : zAr cZ k0 0 nZ) : zJ X 4 res (fJ7_fill_53178 F nZ k0 x1 sZ) 0 [(0, (.ref (qZ k0))), (1, (.int x1))] [] [(cZ, qZ, sZ)] := by
  unfold fJ7_fill_53178
  refine z_iconst (pc := 0) (0 : Int32) (by decide) C dJ7_fill_53178_0 ?_
  refine z_istore_n (pc := 1) [(0, (.ref (qZ k0))), (1, (.int x1)), (2, (.int (0 : Int32)))] [1, 2, 0] (by decide) rfl rfl C dJ7_fill_53178_1 ?_
  refine z_aload_n (pc := 2) 0 rfl rfl C dJ7_fill_53178_2 ?_
  refine z_alen (n := nZ) (pc := 3) 0 0 (nI nZ) C dJ7_fill_53178_3 rfl ha0 (by decide) rfl ?_
  refine z_leti (fun x3_1 => ?_)
  refine z_istore_n (pc := 4) [(0, (.ref (qZ k0))), (1, (.int x1)), (2, (.int (0 : Int32))), (3, (.int x3_1))] [1, 2, 3, 0] (by decide) rfl rfl C dJ7_fill_53178_4 ?_
  show zJ X 4 res _ 5 [(0, (.ref (qZ k0))), (1, (.int x1)), (2, (.int (0 : Int32))), (3, (.int x3_1))] [] [(cZ, qZ, sZ)]
  exact zit_J (P := Int32 × zOS) (B := (fun kc9 p9 => bJ7_fill_53178_5 F nZ k0 x1 x3_1 kc9 p9.1 p9.2)) (fun p9 => [(0, (.ref (qZ k0))), (1, (.int x1)), (2, (.int p9.1)), (3, (.int x3_1))]) (fun p9 => [(cZ, qZ, p9.2)]) (fun kc9 hk9 p9 => vJ7_fill_53178_5 C hR ha0  (fun a0 a1 => hk9 (a0, a1)) p9.1 p9.2) F _
theorem mJ7_fill_53178 {F : Nat} {qZ : Nat → Nat} {cZ nZ : Nat} {k0 : Nat} {x1 : Int32} {sZ : zOS} {res : zOS} (ha0 : zAr cZ k0 0 nZ) (hf : fJ7_fill_53178 F nZ k0 x1 sZ = some res) : zM yJ7_fill_53178 cJ7_fill_53178 4 none 0 0 [(.ref (qZ k0)), (.int x1)] [(cZ, qZ, sZ)] none [(cZ, qZ, res)] := zM_of (by decide +kernel) (Nat.le_of_ble_eq_true rfl) (fun X C hR => wJ7_fill_53178 (F := F) C hR ha0 hf)
