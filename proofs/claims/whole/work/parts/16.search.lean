theorem dX1_turn_0 : decode cX1_turn 0 = .ok (.iload_n 1, 1) := by decide +kernel
theorem dX1_turn_1 : decode cX1_turn 1 = .ok (.aload_n 0, 1) := by decide +kernel
theorem dX1_turn_2 : decode cX1_turn 2 = .ok (.getfield 12, 3) := by decide +kernel
theorem dX1_turn_5 : decode cX1_turn 5 = .ok (.getfield 79, 3) := by decide +kernel
theorem dX1_turn_8 : decode cX1_turn 8 = .ok (.if_icmp .ge 9, 3) := by decide +kernel
theorem dX1_turn_11 : decode cX1_turn 11 = .ok (.iload_n 1, 1) := by decide +kernel
theorem dX1_turn_12 : decode cX1_turn 12 = .ok (.bipush 6, 2) := by decide +kernel
theorem dX1_turn_14 : decode cX1_turn 14 = .ok (.if_icmp .lt 22, 3) := by decide +kernel
theorem dX1_turn_17 : decode cX1_turn 17 = .ok (.aload_n 0, 1) := by decide +kernel
theorem dX1_turn_18 : decode cX1_turn 18 = .ok (.aload_n 0, 1) := by decide +kernel
theorem dX1_turn_19 : decode cX1_turn 19 = .ok (.getfield 34, 3) := by decide +kernel
theorem dX1_turn_22 : decode cX1_turn 22 = .ok (.aload_n 0, 1) := by decide +kernel
theorem dX1_turn_23 : decode cX1_turn 23 = .ok (.getfield 12, 3) := by decide +kernel
theorem dX1_turn_26 : decode cX1_turn 26 = .ok (.getfield 79, 3) := by decide +kernel
theorem dX1_turn_29 : decode cX1_turn 29 = .ok (.iload_n 1, 1) := by decide +kernel
theorem dX1_turn_30 : decode cX1_turn 30 = .ok (.iadd, 1) := by decide +kernel
theorem dX1_turn_31 : decode cX1_turn 31 = .ok (.aaload, 1) := by decide +kernel
theorem dX1_turn_32 : decode cX1_turn 32 = .ok (.invokevirtual 139, 3) := by decide +kernel
theorem dX1_turn_35 : decode cX1_turn 35 = .ok (.return_, 1) := by decide +kernel
theorem dX1_turn_36 : decode cX1_turn 36 = .ok (.aload_n 0, 1) := by decide +kernel
theorem dX1_turn_37 : decode cX1_turn 37 = .ok (.getfield 21, 3) := by decide +kernel
theorem dX1_turn_40 : decode cX1_turn 40 = .ok (.getfield 110, 3) := by decide +kernel
theorem dX1_turn_43 : decode cX1_turn 43 = .ok (.aload_n 0, 1) := by decide +kernel
theorem dX1_turn_44 : decode cX1_turn 44 = .ok (.getfield 29, 3) := by decide +kernel
theorem dX1_turn_47 : decode cX1_turn 47 = .ok (.iload_n 1, 1) := by decide +kernel
theorem dX1_turn_48 : decode cX1_turn 48 = .ok (.iaload, 1) := by decide +kernel
theorem dX1_turn_49 : decode cX1_turn 49 = .ok (.iaload, 1) := by decide +kernel
theorem dX1_turn_50 : decode cX1_turn 50 = .ok (.istore_n 2, 1) := by decide +kernel
theorem dX1_turn_51 : decode cX1_turn 51 = .ok (.aload_n 0, 1) := by decide +kernel
theorem dX1_turn_52 : decode cX1_turn 52 = .ok (.getfield 21, 3) := by decide +kernel
theorem dX1_turn_55 : decode cX1_turn 55 = .ok (.getfield 113, 3) := by decide +kernel
theorem dX1_turn_58 : decode cX1_turn 58 = .ok (.aload_n 0, 1) := by decide +kernel
theorem dX1_turn_59 : decode cX1_turn 59 = .ok (.getfield 29, 3) := by decide +kernel
theorem dX1_turn_62 : decode cX1_turn 62 = .ok (.iload_n 1, 1) := by decide +kernel
theorem dX1_turn_63 : decode cX1_turn 63 = .ok (.iaload, 1) := by decide +kernel
theorem dX1_turn_64 : decode cX1_turn 64 = .ok (.iaload, 1) := by decide +kernel
theorem dX1_turn_65 : decode cX1_turn 65 = .ok (.istore_n 3, 1) := by decide +kernel
theorem dX1_turn_66 : decode cX1_turn 66 = .ok (.aload_n 0, 1) := by decide +kernel
theorem dX1_turn_67 : decode cX1_turn 67 = .ok (.iload_n 1, 1) := by decide +kernel
theorem dX1_turn_68 : decode cX1_turn 68 = .ok (.iload_n 2, 1) := by decide +kernel
theorem dX1_turn_69 : decode cX1_turn 69 = .ok (.iload_n 3, 1) := by decide +kernel
theorem dX1_turn_70 : decode cX1_turn 70 = .ok (.invokevirtual 143, 3) := by decide +kernel
theorem dX1_turn_73 : decode cX1_turn 73 = .ok (.ifCond .eq 10, 3) := by decide +kernel
theorem dX1_turn_76 : decode cX1_turn 76 = .ok (.aload_n 0, 1) := by decide +kernel
theorem dX1_turn_77 : decode cX1_turn 77 = .ok (.iload_n 1, 1) := by decide +kernel
theorem dX1_turn_78 : decode cX1_turn 78 = .ok (.iconst 1, 1) := by decide +kernel
theorem dX1_turn_79 : decode cX1_turn 79 = .ok (.iadd, 1) := by decide +kernel
theorem dX1_turn_80 : decode cX1_turn 80 = .ok (.invokestatic 130, 3) := by decide +kernel
theorem dX1_turn_83 : decode cX1_turn 83 = .ok (.iload_n 2, 1) := by decide +kernel
theorem dX1_turn_84 : decode cX1_turn 84 = .ok (.iload_n 3, 1) := by decide +kernel
theorem dX1_turn_85 : decode cX1_turn 85 = .ok (.if_icmp .eq 20, 3) := by decide +kernel
theorem dX1_turn_88 : decode cX1_turn 88 = .ok (.aload_n 0, 1) := by decide +kernel
theorem dX1_turn_89 : decode cX1_turn 89 = .ok (.iload_n 1, 1) := by decide +kernel
theorem dX1_turn_90 : decode cX1_turn 90 = .ok (.iload_n 3, 1) := by decide +kernel
theorem dX1_turn_91 : decode cX1_turn 91 = .ok (.iload_n 2, 1) := by decide +kernel
theorem dX1_turn_92 : decode cX1_turn 92 = .ok (.invokevirtual 143, 3) := by decide +kernel
theorem dX1_turn_95 : decode cX1_turn 95 = .ok (.ifCond .eq 10, 3) := by decide +kernel
theorem dX1_turn_98 : decode cX1_turn 98 = .ok (.aload_n 0, 1) := by decide +kernel
theorem dX1_turn_99 : decode cX1_turn 99 = .ok (.iload_n 1, 1) := by decide +kernel
theorem dX1_turn_100 : decode cX1_turn 100 = .ok (.iconst 1, 1) := by decide +kernel
theorem dX1_turn_101 : decode cX1_turn 101 = .ok (.iadd, 1) := by decide +kernel
theorem dX1_turn_102 : decode cX1_turn 102 = .ok (.invokestatic 130, 3) := by decide +kernel
theorem dX1_turn_105 : decode cX1_turn 105 = .ok (.return_, 1) := by decide +kernel
def jX1_turn_17 (F : Nat) (g9 : Int32 → zOS → zOS → zOS → Option (zOS × zOS × zOS)) (x1 : Int32) (sM : zOS) (sP : zOS) (sL : zOS) : Option (zOS × zOS × zOS) := (zchk ((zF sP 3) + x1) 13 (Option.bind (fX1_record F (zbs 1 + ((zF sP 3) + x1).toNatClampNeg) sM sP) (fun r_2 : zOS => (some (r_2, sP, sL)))))
set_option maxRecDepth 20000 in
theorem wX1_turn_17 {X : zCx} {res : zOS × zOS × zOS} {F : Nat} {qM : Nat → Nat} {qP : Nat → Nat} {qL : Nat → Nat} {rf rl rfn rln : Nat} {g9 : Int32 → zOS → zOS → zOS → Option (zOS × zOS × zOS)} (C : zC X RX1 cX1_turn 4 rf rl) (hR : zR X none none [(1, qM, res.1), (2, qP, res.2.1), (0, qL, res.2.2)]) (hM50 : qM 50 = qP 0) (hM51 : qM 51 = qL 0) (hrm9 : rfn + 1 ≤ rf ∧ 8 + (4 + 11) + rln ≤ rl) (hrf9 : 2 ≤ rf) (hrl9 : 51 ≤ rl) (hg9 : ∀ {z1 : Int32} {uM uP uL : zOS} {res9 : zOS × zOS × zOS}, g9 z1 uM uP uL = some res9 → zM yX1_turn cX1_turn 4 none rfn rln [(.ref (qM 0)), (.int z1)] [(1, qM, uM), (2, qP, uP), (0, qL, uL)] none [(1, qM, res9.1), (2, qP, res9.2.1), (0, qL, res9.2.2)]) (x1 : Int32) (sM : zOS) (sP : zOS) (sL : zOS) : zJ X 4 res (jX1_turn_17 F g9 x1 sM sP sL) 17 [(0, (.ref (qM 0))), (1, (.int x1))] [] [(1, qM, sM), (2, qP, sP), (0, qL, sL)] := by
  unfold jX1_turn_17
  refine z_aload_n (pc := 17) 0 rfl rfl C dX1_turn_17 ?_
  refine z_aload_n (pc := 18) 0 rfl rfl C dX1_turn_18 ?_
  refine z_getR (pc := 19) 0 4 3 C dX1_turn_19 rfl (by decide) (by decide) rfl zw_209 ?_
  refine z_aload_n (pc := 22) 0 rfl rfl C dX1_turn_22 ?_
  refine z_getE (pc := 23) 0 0 50 (qP 0) hM50 C dX1_turn_23 rfl (by decide) (by decide) rfl zw_203 ?_
  refine z_getI (pc := 26) 1 3 C dX1_turn_26 rfl (by decide) (by decide) rfl zw_116 ?_
  refine z_iload_n (pc := 29) 1 rfl rfl C dX1_turn_29 ?_
  refine z_iadd (pc := 30) C dX1_turn_30 ?_
  refine z_aal (kd := 3) (pc := 31) 0 C dX1_turn_31 rfl (by unfold zAr; decide) (by decide) (fun hi_1 => ?_)
  refine z_callV (pc := 32) (rf' := 1) (rl' := 26) (fX1_record F (zbs 1 + ((zF sP 3) + x1).toNatClampNeg) sM sP) [(.ref (qM (zbs 1 + ((zF sP 3) + x1).toNatClampNeg)))] [] [(1, qM, sM), (2, qP, sP)] (fun r_2 => none) (fun r_2 => [(1, qM, r_2), (2, qP, sP)]) [(0, qL, sL)] (fun r_2 => [(1, qM, r_2), (2, qP, sP), (0, qL, sL)]) C dX1_turn_32 zy_X1_record zw_568 (fun _ hr9 => mX1_record hM50 (zAr_n hi_1) hr9) ⟨by omega, by omega⟩ rfl rfl (by decide) rfl (Nat.le_of_ble_eq_true rfl) (List.Perm.refl _) (fun _ => List.Perm.refl _) rfl (fun r_2 hr_3 => ?_)
  show zJ X 4 res _ 35 [(0, (.ref (qM 0))), (1, (.int x1))] [] [(1, qM, r_2), (2, qP, sP), (0, qL, sL)]
  exact z_return (pc := 35) C hR dX1_turn_35 (fun h => by subst h; exact ⟨rfl, rfl⟩)
def jX1_turn_83 (F : Nat) (g9 : Int32 → zOS → zOS → zOS → Option (zOS × zOS × zOS)) (x1 : Int32) (x2 : Int32) (x3 : Int32) (sM : zOS) (sP : zOS) (sL : zOS) : Option (zOS × zOS × zOS) := (if x2 = x3 then (some (sM, sP, sL)) else (Option.bind (fX1_tieSides F x1 x3 x2 sM sP) (fun r_8 : Int32 × zOS => (if r_8.1 = 0 then (some (r_8.2, sP, sL)) else (Option.bind (g9 (x1 + (1 : Int32)) r_8.2 sP sL) (fun r_10 : zOS × zOS × zOS => (some (r_10.1, r_10.2.1, r_10.2.2))))))))
set_option maxRecDepth 20000 in
theorem wX1_turn_83 {X : zCx} {res : zOS × zOS × zOS} {F : Nat} {qM : Nat → Nat} {qP : Nat → Nat} {qL : Nat → Nat} {rf rl rfn rln : Nat} {g9 : Int32 → zOS → zOS → zOS → Option (zOS × zOS × zOS)} (C : zC X RX1 cX1_turn 4 rf rl) (hR : zR X none none [(1, qM, res.1), (2, qP, res.2.1), (0, qL, res.2.2)]) (hM50 : qM 50 = qP 0) (hM51 : qM 51 = qL 0) (hrm9 : rfn + 1 ≤ rf ∧ 8 + (4 + 11) + rln ≤ rl) (hrf9 : 2 ≤ rf) (hrl9 : 51 ≤ rl) (hg9 : ∀ {z1 : Int32} {uM uP uL : zOS} {res9 : zOS × zOS × zOS}, g9 z1 uM uP uL = some res9 → zM yX1_turn cX1_turn 4 none rfn rln [(.ref (qM 0)), (.int z1)] [(1, qM, uM), (2, qP, uP), (0, qL, uL)] none [(1, qM, res9.1), (2, qP, res9.2.1), (0, qL, res9.2.2)]) (x1 : Int32) (x2 : Int32) (x3 : Int32) (sM : zOS) (sP : zOS) (sL : zOS) : zJ X 4 res (jX1_turn_83 F g9 x1 x2 x3 sM sP sL) 83 [(0, (.ref (qM 0))), (1, (.int x1)), (2, (.int x2)), (3, (.int x3))] [] [(1, qM, sM), (2, qP, sP), (0, qL, sL)] := by
  unfold jX1_turn_83
  refine z_iload_n (pc := 83) 2 rfl rfl C dX1_turn_83 ?_
  refine z_iload_n (pc := 84) 3 rfl rfl C dX1_turn_84 ?_
  refine z_icmp_eq (pc := 85) 105 C dX1_turn_85 (by decide) ?_ ?_
  · exact z_return (pc := 105) C hR dX1_turn_105 (fun h => by subst h; exact ⟨rfl, rfl⟩)
  · refine z_aload_n (pc := 88) 0 rfl rfl C dX1_turn_88 ?_
    refine z_iload_n (pc := 89) 1 rfl rfl C dX1_turn_89 ?_
    refine z_iload_n (pc := 90) 3 rfl rfl C dX1_turn_90 ?_
    refine z_iload_n (pc := 91) 2 rfl rfl C dX1_turn_91 ?_
    refine z_callV (pc := 92) (rf' := 1) (rl' := 26) (fX1_tieSides F x1 x3 x2 sM sP) [(.int x1), (.int x3), (.int x2)] [] [(1, qM, sM), (2, qP, sP)] (fun r_8 => (some (.int r_8.1))) (fun r_8 => [(1, qM, r_8.2), (2, qP, sP)]) [(0, qL, sL)] (fun r_8 => [(1, qM, r_8.2), (2, qP, sP), (0, qL, sL)]) C dX1_turn_92 zy_X1_tieSides zw_578 (fun _ hr9 => mX1_tieSides hM50 hr9) ⟨by omega, by omega⟩ rfl rfl (by decide) rfl (Nat.le_of_ble_eq_true rfl) (List.Perm.refl _) (fun _ => List.Perm.refl _) rfl (fun r_8 hr_9 => ?_)
    show zJ X 4 res _ 95 [(0, (.ref (qM 0))), (1, (.int x1)), (2, (.int x2)), (3, (.int x3))] [(.int r_8.1)] [(1, qM, r_8.2), (2, qP, sP), (0, qL, sL)]
    refine z_if_eq (pc := 95) 105 C dX1_turn_95 (by decide) ?_ ?_
    · exact z_return (pc := 105) C hR dX1_turn_105 (fun h => by subst h; exact ⟨rfl, rfl⟩)
    · refine z_aload_n (pc := 98) 0 rfl rfl C dX1_turn_98 ?_
      refine z_iload_n (pc := 99) 1 rfl rfl C dX1_turn_99 ?_
      refine z_iconst (pc := 100) (1 : Int32) (by decide) C dX1_turn_100 ?_
      refine z_iadd (pc := 101) C dX1_turn_101 ?_
      refine z_callS (pc := 102) (rf' := rfn) (rl' := rln) (g9 (x1 + (1 : Int32)) r_8.2 sP sL) [(.ref (qM 0)), (.int (x1 + (1 : Int32)))] [] [(1, qM, r_8.2), (2, qP, sP), (0, qL, sL)] (fun r_10 => none) (fun r_10 => [(1, qM, r_10.1), (2, qP, r_10.2.1), (0, qL, r_10.2.2)]) [] (fun r_10 => [(1, qM, r_10.1), (2, qP, r_10.2.1), (0, qL, r_10.2.2)]) C dX1_turn_102 zy_X1_turn zw_565 (fun _ hr9 => hg9 hr9) hrm9 rfl (Nat.le_of_ble_eq_true rfl) (List.Perm.refl _) (fun _ => List.Perm.refl _) rfl (fun r_10 hr_11 => ?_)
      show zJ X 4 res _ 105 [(0, (.ref (qM 0))), (1, (.int x1)), (2, (.int x2)), (3, (.int x3))] [] [(1, qM, r_10.1), (2, qP, r_10.2.1), (0, qL, r_10.2.2)]
      exact z_return (pc := 105) C hR dX1_turn_105 (fun h => by subst h; exact ⟨rfl, rfl⟩)
def hX1_turn (F : Nat) (g9 : Int32 → zOS → zOS → zOS → Option (zOS × zOS × zOS)) (x1 : Int32) (sM : zOS) (sP : zOS) (sL : zOS) : Option (zOS × zOS × zOS) := (if (zF sP 3) ≤ x1 then (jX1_turn_17 F g9 x1 sM sP sL) else (if x1 < (6 : Int32) then (zchk x1 6 (zchk (zI sM 2 x1.toNatClampNeg) 32 (zlet (zI sL 10 (zI sM 2 x1.toNatClampNeg).toNatClampNeg) (fun x2_4 : Int32 => (zchk x1 6 (zchk (zI sM 2 x1.toNatClampNeg) 32 (zlet (zI sL 11 (zI sM 2 x1.toNatClampNeg).toNatClampNeg) (fun x3_5 : Int32 => (Option.bind (fX1_tieSides F x1 x2_4 x3_5 sM sP) (fun r_6 : Int32 × zOS => (if r_6.1 = 0 then (jX1_turn_83 F g9 x1 x2_4 x3_5 r_6.2 sP sL) else (Option.bind (g9 (x1 + (1 : Int32)) r_6.2 sP sL) (fun r_12 : zOS × zOS × zOS => (jX1_turn_83 F g9 x1 x2_4 x3_5 r_12.1 r_12.2.1 r_12.2.2)))))))))))))) else (jX1_turn_17 F g9 x1 sM sP sL)))
set_option maxRecDepth 20000 in
theorem wX1_turn {X : zCx} {res : zOS × zOS × zOS} {F : Nat} {qM : Nat → Nat} {qP : Nat → Nat} {qL : Nat → Nat} {x1 : Int32} {sM : zOS} {sP : zOS} {sL : zOS} {rf rl rfn rln : Nat} {g9 : Int32 → zOS → zOS → zOS → Option (zOS × zOS × zOS)} (C : zC X RX1 cX1_turn 4 rf rl) (hR : zR X none none [(1, qM, res.1), (2, qP, res.2.1), (0, qL, res.2.2)]) (hM50 : qM 50 = qP 0) (hM51 : qM 51 = qL 0) (hrm9 : rfn + 1 ≤ rf ∧ 8 + (4 + 11) + rln ≤ rl) (hrf9 : 2 ≤ rf) (hrl9 : 51 ≤ rl) (hg9 : ∀ {z1 : Int32} {uM uP uL : zOS} {res9 : zOS × zOS × zOS}, g9 z1 uM uP uL = some res9 → zM yX1_turn cX1_turn 4 none rfn rln [(.ref (qM 0)), (.int z1)] [(1, qM, uM), (2, qP, uP), (0, qL, uL)] none [(1, qM, res9.1), (2, qP, res9.2.1), (0, qL, res9.2.2)]) : zJ X 4 res (hX1_turn F g9 x1 sM sP sL) 0 [(0, (.ref (qM 0))), (1, (.int x1))] [] [(1, qM, sM), (2, qP, sP), (0, qL, sL)] := by
  unfold hX1_turn
  refine z_iload_n (pc := 0) 1 rfl rfl C dX1_turn_0 ?_
  refine z_aload_n (pc := 1) 0 rfl rfl C dX1_turn_1 ?_
  refine z_getE (pc := 2) 0 0 50 (qP 0) hM50 C dX1_turn_2 rfl (by decide) (by decide) rfl zw_203 ?_
  refine z_getI (pc := 5) 1 3 C dX1_turn_5 rfl (by decide) (by decide) rfl zw_116 ?_
  refine z_icmp_ge (pc := 8) 17 C dX1_turn_8 (by decide) ?_ ?_
  · exact wX1_turn_17 C hR hM50 hM51 hrm9 hrf9 hrl9 hg9  _ _ _ _
  · refine z_iload_n (pc := 11) 1 rfl rfl C dX1_turn_11 ?_
    refine z_bipush (pc := 12) (6 : Int32) (by decide) C dX1_turn_12 ?_
    refine z_icmp_lt (pc := 14) 36 C dX1_turn_14 (by decide) ?_ ?_
    · refine z_aload_n (pc := 36) 0 rfl rfl C dX1_turn_36 ?_
      refine z_getE (pc := 37) 0 1 51 (qL 0) hM51 C dX1_turn_37 rfl (by decide) (by decide) rfl zw_205 ?_
      refine z_getR (pc := 40) 2 9 10 C dX1_turn_40 rfl (by decide) (by decide) rfl zw_154 ?_
      refine z_aload_n (pc := 43) 0 rfl rfl C dX1_turn_43 ?_
      refine z_getR (pc := 44) 0 3 2 C dX1_turn_44 rfl (by decide) (by decide) rfl zw_208 ?_
      refine z_iload_n (pc := 47) 1 rfl rfl C dX1_turn_47 ?_
      refine z_iald (pc := 48) 0 C dX1_turn_48 rfl (by unfold zAr; decide) ?_
      refine z_iald (pc := 49) 2 C dX1_turn_49 rfl (by unfold zAr; decide) ?_
      refine z_leti (fun x2_4 => ?_)
      refine z_istore_n (pc := 50) [(0, (.ref (qM 0))), (1, (.int x1)), (2, (.int x2_4))] [1, 2, 0] (by decide) rfl rfl C dX1_turn_50 ?_
      refine z_aload_n (pc := 51) 0 rfl rfl C dX1_turn_51 ?_
      refine z_getE (pc := 52) 0 1 51 (qL 0) hM51 C dX1_turn_52 rfl (by decide) (by decide) rfl zw_205 ?_
      refine z_getR (pc := 55) 2 10 11 C dX1_turn_55 rfl (by decide) (by decide) rfl zw_156 ?_
      refine z_aload_n (pc := 58) 0 rfl rfl C dX1_turn_58 ?_
      refine z_getR (pc := 59) 0 3 2 C dX1_turn_59 rfl (by decide) (by decide) rfl zw_208 ?_
      refine z_iload_n (pc := 62) 1 rfl rfl C dX1_turn_62 ?_
      refine z_iald (pc := 63) 0 C dX1_turn_63 rfl (by unfold zAr; decide) ?_
      refine z_iald (pc := 64) 2 C dX1_turn_64 rfl (by unfold zAr; decide) ?_
      refine z_leti (fun x3_5 => ?_)
      refine z_istore_n (pc := 65) [(0, (.ref (qM 0))), (1, (.int x1)), (2, (.int x2_4)), (3, (.int x3_5))] [1, 2, 3, 0] (by decide) rfl rfl C dX1_turn_65 ?_
      refine z_aload_n (pc := 66) 0 rfl rfl C dX1_turn_66 ?_
      refine z_iload_n (pc := 67) 1 rfl rfl C dX1_turn_67 ?_
      refine z_iload_n (pc := 68) 2 rfl rfl C dX1_turn_68 ?_
      refine z_iload_n (pc := 69) 3 rfl rfl C dX1_turn_69 ?_
      refine z_callV (pc := 70) (rf' := 1) (rl' := 26) (fX1_tieSides F x1 x2_4 x3_5 sM sP) [(.int x1), (.int x2_4), (.int x3_5)] [] [(1, qM, sM), (2, qP, sP)] (fun r_6 => (some (.int r_6.1))) (fun r_6 => [(1, qM, r_6.2), (2, qP, sP)]) [(0, qL, sL)] (fun r_6 => [(1, qM, r_6.2), (2, qP, sP), (0, qL, sL)]) C dX1_turn_70 zy_X1_tieSides zw_578 (fun _ hr9 => mX1_tieSides hM50 hr9) ⟨by omega, by omega⟩ rfl rfl (by decide) rfl (Nat.le_of_ble_eq_true rfl) (List.Perm.refl _) (fun _ => List.Perm.refl _) rfl (fun r_6 hr_7 => ?_)
      show zJ X 4 res _ 73 [(0, (.ref (qM 0))), (1, (.int x1)), (2, (.int x2_4)), (3, (.int x3_5))] [(.int r_6.1)] [(1, qM, r_6.2), (2, qP, sP), (0, qL, sL)]
      refine z_if_eq (pc := 73) 83 C dX1_turn_73 (by decide) ?_ ?_
      · exact wX1_turn_83 C hR hM50 hM51 hrm9 hrf9 hrl9 hg9  _ _ _ _ _ _
      · refine z_aload_n (pc := 76) 0 rfl rfl C dX1_turn_76 ?_
        refine z_iload_n (pc := 77) 1 rfl rfl C dX1_turn_77 ?_
        refine z_iconst (pc := 78) (1 : Int32) (by decide) C dX1_turn_78 ?_
        refine z_iadd (pc := 79) C dX1_turn_79 ?_
        refine z_callS (pc := 80) (rf' := rfn) (rl' := rln) (g9 (x1 + (1 : Int32)) r_6.2 sP sL) [(.ref (qM 0)), (.int (x1 + (1 : Int32)))] [] [(1, qM, r_6.2), (2, qP, sP), (0, qL, sL)] (fun r_12 => none) (fun r_12 => [(1, qM, r_12.1), (2, qP, r_12.2.1), (0, qL, r_12.2.2)]) [] (fun r_12 => [(1, qM, r_12.1), (2, qP, r_12.2.1), (0, qL, r_12.2.2)]) C dX1_turn_80 zy_X1_turn zw_565 (fun _ hr9 => hg9 hr9) hrm9 rfl (Nat.le_of_ble_eq_true rfl) (List.Perm.refl _) (fun _ => List.Perm.refl _) rfl (fun r_12 hr_13 => ?_)
        show zJ X 4 res _ 83 [(0, (.ref (qM 0))), (1, (.int x1)), (2, (.int x2_4)), (3, (.int x3_5))] [] [(1, qM, r_12.1), (2, qP, r_12.2.1), (0, qL, r_12.2.2)]
        exact wX1_turn_83 C hR hM50 hM51 hrm9 hrf9 hrl9 hg9  _ _ _ _ _ _
    · exact wX1_turn_17 C hR hM50 hM51 hrm9 hrf9 hrl9 hg9  _ _ _ _
def fX1_turn (F : Nat) : Nat → Int32 → zOS → zOS → zOS → Option (zOS × zOS × zOS)
  | 0, _, _, _, _ => none
  | n + 1, x1, sM, sP, sL => hX1_turn F (fX1_turn F n) x1 sM sP sL
theorem mX1_turn {F : Nat} {qM : Nat → Nat} {qP : Nat → Nat} {qL : Nat → Nat} (hM50 : qM 50 = qP 0) (hM51 : qM 51 = qL 0) : ∀ (n : Nat) {x1 : Int32} {sM sP sL : zOS} {res : zOS × zOS × zOS}, fX1_turn F n x1 sM sP sL = some res → zM yX1_turn cX1_turn 4 none (2 + n) (51 + n * 23) [(.ref (qM 0)), (.int x1)] [(1, qM, sM), (2, qP, sP), (0, qL, sL)] none [(1, qM, res.1), (2, qP, res.2.1), (0, qL, res.2.2)]
  | 0, _, _, _, _, _, h => by cases h
  | n + 1, _, _, _, _, _, h => zM_of (by decide +kernel) (Nat.le_of_ble_eq_true rfl) (fun X C hR => wX1_turn (F := F) (rfn := 2 + n) (rln := 51 + n * 23) C hR hM50 hM51 ⟨by omega, by omega⟩ (by omega) (by omega) (fun h9 => mX1_turn hM50 hM51 n h9) h)
theorem dX1_place_0 : decode cX1_place 0 = .ok (.iload_n 1, 1) := by decide +kernel
theorem dX1_place_1 : decode cX1_place 1 = .ok (.aload_n 0, 1) := by decide +kernel
theorem dX1_place_2 : decode cX1_place 2 = .ok (.getfield 12, 3) := by decide +kernel
theorem dX1_place_5 : decode cX1_place 5 = .ok (.getfield 79, 3) := by decide +kernel
theorem dX1_place_8 : decode cX1_place 8 = .ok (.if_icmp .ge 9, 3) := by decide +kernel
theorem dX1_place_11 : decode cX1_place 11 = .ok (.iload_n 1, 1) := by decide +kernel
theorem dX1_place_12 : decode cX1_place 12 = .ok (.bipush 6, 2) := by decide +kernel
theorem dX1_place_14 : decode cX1_place 14 = .ok (.if_icmp .lt 9, 3) := by decide +kernel
theorem dX1_place_17 : decode cX1_place 17 = .ok (.aload_n 0, 1) := by decide +kernel
theorem dX1_place_18 : decode cX1_place 18 = .ok (.iconst 0, 1) := by decide +kernel
theorem dX1_place_19 : decode cX1_place 19 = .ok (.invokestatic 130, 3) := by decide +kernel
theorem dX1_place_22 : decode cX1_place 22 = .ok (.return_, 1) := by decide +kernel
theorem dX1_place_23 : decode cX1_place 23 = .ok (.aload_n 0, 1) := by decide +kernel
theorem dX1_place_24 : decode cX1_place 24 = .ok (.getfield 34, 3) := by decide +kernel
theorem dX1_place_27 : decode cX1_place 27 = .ok (.iload_n 1, 1) := by decide +kernel
theorem dX1_place_28 : decode cX1_place 28 = .ok (.iconst 1, 1) := by decide +kernel
theorem dX1_place_29 : decode cX1_place 29 = .ok (.iadd, 1) := by decide +kernel
theorem dX1_place_30 : decode cX1_place 30 = .ok (.aaload, 1) := by decide +kernel
theorem dX1_place_31 : decode cX1_place 31 = .ok (.astore_n 2, 1) := by decide +kernel
theorem dX1_place_32 : decode cX1_place 32 = .ok (.iconst 0, 1) := by decide +kernel
theorem dX1_place_33 : decode cX1_place 33 = .ok (.istore_n 3, 1) := by decide +kernel
theorem dX1_place_34 : decode cX1_place 34 = .ok (.iload_n 3, 1) := by decide +kernel
theorem dX1_place_35 : decode cX1_place 35 = .ok (.aload_n 0, 1) := by decide +kernel
theorem dX1_place_36 : decode cX1_place 36 = .ok (.getfield 21, 3) := by decide +kernel
theorem dX1_place_39 : decode cX1_place 39 = .ok (.getfield 82, 3) := by decide +kernel
theorem dX1_place_42 : decode cX1_place 42 = .ok (.if_icmp .ge 122, 3) := by decide +kernel
theorem dX1_place_45 : decode cX1_place 45 = .ok (.aload_n 0, 1) := by decide +kernel
theorem dX1_place_46 : decode cX1_place 46 = .ok (.getfield 47, 3) := by decide +kernel
theorem dX1_place_49 : decode cX1_place 49 = .ok (.sipush 9999, 3) := by decide +kernel
theorem dX1_place_52 : decode cX1_place 52 = .ok (.if_icmp .ge 112, 3) := by decide +kernel
theorem dX1_place_55 : decode cX1_place 55 = .ok (.iconst 1, 1) := by decide +kernel
theorem dX1_place_56 : decode cX1_place 56 = .ok (.iload_n 3, 1) := by decide +kernel
theorem dX1_place_57 : decode cX1_place 57 = .ok (.ishl, 1) := by decide +kernel
theorem dX1_place_58 : decode cX1_place 58 = .ok (.istore 4, 2) := by decide +kernel
theorem dX1_place_60 : decode cX1_place 60 = .ok (.aload_n 0, 1) := by decide +kernel
theorem dX1_place_61 : decode cX1_place 61 = .ok (.getfield 25, 3) := by decide +kernel
theorem dX1_place_64 : decode cX1_place 64 = .ok (.iload_n 1, 1) := by decide +kernel
theorem dX1_place_65 : decode cX1_place 65 = .ok (.iaload, 1) := by decide +kernel
theorem dX1_place_66 : decode cX1_place 66 = .ok (.aload_n 0, 1) := by decide +kernel
theorem dX1_place_67 : decode cX1_place 67 = .ok (.getfield 37, 3) := by decide +kernel
theorem dX1_place_70 : decode cX1_place 70 = .ok (.iconst (-1), 1) := by decide +kernel
theorem dX1_place_71 : decode cX1_place 71 = .ok (.ixor, 1) := by decide +kernel
theorem dX1_place_72 : decode cX1_place 72 = .ok (.iand, 1) := by decide +kernel
theorem dX1_place_73 : decode cX1_place 73 = .ok (.iload 4, 2) := by decide +kernel
theorem dX1_place_75 : decode cX1_place 75 = .ok (.iand, 1) := by decide +kernel
theorem dX1_place_76 : decode cX1_place 76 = .ok (.ifCond .ne 6, 3) := by decide +kernel
theorem dX1_place_79 : decode cX1_place 79 = .ok (.goto 79, 3) := by decide +kernel
theorem dX1_place_82 : decode cX1_place 82 = .ok (.aload_n 0, 1) := by decide +kernel
theorem dX1_place_83 : decode cX1_place 83 = .ok (.getfield 34, 3) := by decide +kernel
theorem dX1_place_86 : decode cX1_place 86 = .ok (.iload_n 1, 1) := by decide +kernel
theorem dX1_place_87 : decode cX1_place 87 = .ok (.aaload, 1) := by decide +kernel
theorem dX1_place_88 : decode cX1_place 88 = .ok (.iconst 0, 1) := by decide +kernel
theorem dX1_place_89 : decode cX1_place 89 = .ok (.aload_n 2, 1) := by decide +kernel
theorem dX1_place_90 : decode cX1_place 90 = .ok (.iconst 0, 1) := by decide +kernel
theorem dX1_place_91 : decode cX1_place 91 = .ok (.bipush 10, 2) := by decide +kernel
theorem dX1_place_93 : decode cX1_place 93 = .ok (.invokestatic 133, 3) := by decide +kernel
theorem dX1_place_96 : decode cX1_place 96 = .ok (.aload_n 2, 1) := by decide +kernel
theorem dX1_place_97 : decode cX1_place 97 = .ok (.aload_n 0, 1) := by decide +kernel
theorem dX1_place_98 : decode cX1_place 98 = .ok (.getfield 12, 3) := by decide +kernel
theorem dX1_place_101 : decode cX1_place 101 = .ok (.iload_n 1, 1) := by decide +kernel
theorem dX1_place_102 : decode cX1_place 102 = .ok (.invokevirtual 93, 3) := by decide +kernel
theorem dX1_place_105 : decode cX1_place 105 = .ok (.aload_n 0, 1) := by decide +kernel
theorem dX1_place_106 : decode cX1_place 106 = .ok (.getfield 21, 3) := by decide +kernel
theorem dX1_place_109 : decode cX1_place 109 = .ok (.getfield 100, 3) := by decide +kernel
theorem dX1_place_112 : decode cX1_place 112 = .ok (.iload_n 3, 1) := by decide +kernel
theorem dX1_place_113 : decode cX1_place 113 = .ok (.iaload, 1) := by decide +kernel
theorem dX1_place_114 : decode cX1_place 114 = .ok (.invokestatic 126, 3) := by decide +kernel
theorem dX1_place_117 : decode cX1_place 117 = .ok (.ifCond .eq 41, 3) := by decide +kernel
theorem dX1_place_120 : decode cX1_place 120 = .ok (.aload_n 0, 1) := by decide +kernel
theorem dX1_place_121 : decode cX1_place 121 = .ok (.getfield 29, 3) := by decide +kernel
theorem dX1_place_124 : decode cX1_place 124 = .ok (.iload_n 1, 1) := by decide +kernel
theorem dX1_place_125 : decode cX1_place 125 = .ok (.iload_n 3, 1) := by decide +kernel
theorem dX1_place_126 : decode cX1_place 126 = .ok (.iastore, 1) := by decide +kernel
theorem dX1_place_127 : decode cX1_place 127 = .ok (.aload_n 0, 1) := by decide +kernel
theorem dX1_place_128 : decode cX1_place 128 = .ok (.dup, 1) := by decide +kernel
theorem dX1_place_129 : decode cX1_place 129 = .ok (.getfield 37, 3) := by decide +kernel
theorem dX1_place_132 : decode cX1_place 132 = .ok (.iload 4, 2) := by decide +kernel
theorem dX1_place_134 : decode cX1_place 134 = .ok (.ior, 1) := by decide +kernel
theorem dX1_place_135 : decode cX1_place 135 = .ok (.putfield 37, 3) := by decide +kernel
theorem dX1_place_138 : decode cX1_place 138 = .ok (.aload_n 0, 1) := by decide +kernel
theorem dX1_place_139 : decode cX1_place 139 = .ok (.iload_n 1, 1) := by decide +kernel
theorem dX1_place_140 : decode cX1_place 140 = .ok (.iconst 1, 1) := by decide +kernel
theorem dX1_place_141 : decode cX1_place 141 = .ok (.iadd, 1) := by decide +kernel
theorem dX1_place_142 : decode cX1_place 142 = .ok (.invokestatic 73, 3) := by decide +kernel
theorem dX1_place_145 : decode cX1_place 145 = .ok (.aload_n 0, 1) := by decide +kernel
theorem dX1_place_146 : decode cX1_place 146 = .ok (.dup, 1) := by decide +kernel
theorem dX1_place_147 : decode cX1_place 147 = .ok (.getfield 37, 3) := by decide +kernel
theorem dX1_place_150 : decode cX1_place 150 = .ok (.iload 4, 2) := by decide +kernel
theorem dX1_place_152 : decode cX1_place 152 = .ok (.iconst (-1), 1) := by decide +kernel
theorem dX1_place_153 : decode cX1_place 153 = .ok (.ixor, 1) := by decide +kernel
theorem dX1_place_154 : decode cX1_place 154 = .ok (.iand, 1) := by decide +kernel
theorem dX1_place_155 : decode cX1_place 155 = .ok (.putfield 37, 3) := by decide +kernel
theorem dX1_place_158 : decode cX1_place 158 = .ok (.iinc 3 1, 3) := by decide +kernel
theorem dX1_place_161 : decode cX1_place 161 = .ok (.goto (-127), 3) := by decide +kernel
theorem dX1_place_164 : decode cX1_place 164 = .ok (.return_, 1) := by decide +kernel
def jX1_place_17 (F : Nat) (g9 : Int32 → zOS → zOS → zOS → Option (zOS × zOS × zOS)) (sM : zOS) (sP : zOS) (sL : zOS) : Option (zOS × zOS × zOS) := (Option.bind (fX1_turn F 8 (0 : Int32) sM sP sL) (fun r_1 : zOS × zOS × zOS => (some (r_1.1, r_1.2.1, r_1.2.2))))
set_option maxRecDepth 20000 in
theorem wX1_place_17 {X : zCx} {res : zOS × zOS × zOS} {F : Nat} {qM : Nat → Nat} {qP : Nat → Nat} {qL : Nat → Nat} {rf rl rfn rln : Nat} {g9 : Int32 → zOS → zOS → zOS → Option (zOS × zOS × zOS)} (C : zC X RX1 cX1_place 5 rf rl) (hR : zR X none none [(1, qM, res.1), (2, qP, res.2.1), (0, qL, res.2.2)]) (hM50 : qM 50 = qP 0) (hM51 : qM 51 = qL 0) (hrm9 : rfn + 1 ≤ rf ∧ 8 + (5 + 11) + rln ≤ rl) (hrf9 : 11 ≤ rf) (hrl9 : 258 ≤ rl) (hg9 : ∀ {z1 : Int32} {uM uP uL : zOS} {res9 : zOS × zOS × zOS}, g9 z1 uM uP uL = some res9 → zM yX1_place cX1_place 5 none rfn rln [(.ref (qM 0)), (.int z1)] [(1, qM, uM), (2, qP, uP), (0, qL, uL)] none [(1, qM, res9.1), (2, qP, res9.2.1), (0, qL, res9.2.2)]) (sM : zOS) (sP : zOS) (sL : zOS) : zJ X 5 res (jX1_place_17 F g9 sM sP sL) 17 [(0, (.ref (qM 0)))] [] [(1, qM, sM), (2, qP, sP), (0, qL, sL)] := by
  unfold jX1_place_17
  refine z_aload_n (pc := 17) 0 rfl rfl C dX1_place_17 ?_
  refine z_iconst (pc := 18) (0 : Int32) (by decide) C dX1_place_18 ?_
  refine z_callS (pc := 19) (rf' := 10) (rl' := 235) (fX1_turn F 8 (0 : Int32) sM sP sL) [(.ref (qM 0)), (.int (0 : Int32))] [] [(1, qM, sM), (2, qP, sP), (0, qL, sL)] (fun r_1 => none) (fun r_1 => [(1, qM, r_1.1), (2, qP, r_1.2.1), (0, qL, r_1.2.2)]) [] (fun r_1 => [(1, qM, r_1.1), (2, qP, r_1.2.1), (0, qL, r_1.2.2)]) C dX1_place_19 zy_X1_turn zw_565 (fun _ hr9 => mX1_turn hM50 hM51 8 hr9) ⟨by omega, by omega⟩ rfl (Nat.le_of_ble_eq_true rfl) (List.Perm.refl _) (fun _ => List.Perm.refl _) rfl (fun r_1 hr_2 => ?_)
  show zJ X 5 res _ 22 [(0, (.ref (qM 0)))] [] [(1, qM, r_1.1), (2, qP, r_1.2.1), (0, qL, r_1.2.2)]
  exact z_return (pc := 22) C hR dX1_place_22 (fun h => by subst h; exact ⟨rfl, rfl⟩)
def bX1_place_34 (F : Nat) (g9 : Int32 → zOS → zOS → zOS → Option (zOS × zOS × zOS)) (k2 : Nat) (x1 : Int32) (kc_34 : (Int32 × zOS × zOS × zOS) → Option (zOS × zOS × zOS)) (x3 : Int32) (sM : zOS) (sP : zOS) (sL : zOS) : Option (zOS × zOS × zOS) := (if (zF sL 14) ≤ x3 then (some (sM, sP, sL)) else (if (9999 : Int32) ≤ (zF sM 8) then (some (sM, sP, sL)) else (zlet ((1 : Int32) <<< (x3 &&& 31)) (fun x4_4 : Int32 => (zchk x1 6 (if (((zI sM 1 x1.toNatClampNeg) &&& ((zF sM 5) ^^^ (-1 : Int32))) &&& x4_4) = 0 then (kc_34 ((x3 + 1), sM, sP, sL)) else (zchk x1 13 (zlet (zsI sM k2 (va_cpy (zI sM (zbs 1 + x1.toNatClampNeg)) (zI sM k2) (0 : Int32).toNatClampNeg (0 : Int32).toNatClampNeg (10 : Int32).toNatClampNeg)) (fun sM_6 : zOS => (Option.bind (fX2_gateNet x1 sP) (fun r_7 : Int32 => (zchk x3 32 (Option.bind (fX1_tie F k2 r_7 (zI sL 9 x3.toNatClampNeg) sM_6) (fun r_9 : Int32 × zOS => (if r_9.1 = 0 then (kc_34 ((x3 + 1), r_9.2, sP, sL)) else (zchk x1 6 (zlet (zsI r_9.2 2 (upd (zI r_9.2 2) x1.toNatClampNeg x3)) (fun sM_11 : zOS => (zlet (zsF sM_11 5 ((zF sM_11 5) ||| x4_4)) (fun sM_12 : zOS => (Option.bind (g9 (x1 + (1 : Int32)) sM_12 sP sL) (fun r_13 : zOS × zOS × zOS => (zlet (zsF r_13.1 5 ((zF r_13.1 5) &&& (x4_4 ^^^ (-1 : Int32)))) (fun sM_15 : zOS => (kc_34 ((x3 + 1), sM_15, r_13.2.1, r_13.2.2))))))))))))))))))))))))))
set_option maxRecDepth 20000 in
theorem vX1_place_34 {X : zCx} {res : zOS × zOS × zOS} {F : Nat} {qM : Nat → Nat} {qP : Nat → Nat} {qL : Nat → Nat} {k2 : Nat} {x1 : Int32} {kc_34 : (Int32 × zOS × zOS × zOS) → Option (zOS × zOS × zOS)} {rf rl rfn rln : Nat} {g9 : Int32 → zOS → zOS → zOS → Option (zOS × zOS × zOS)} (C : zC X RX1 cX1_place 5 rf rl) (hR : zR X none none [(1, qM, res.1), (2, qP, res.2.1), (0, qL, res.2.2)]) (hM50 : qM 50 = qP 0) (hM51 : qM 51 = qL 0) (hrm9 : rfn + 1 ≤ rf ∧ 8 + (5 + 11) + rln ≤ rl) (hrf9 : 11 ≤ rf) (hrl9 : 258 ≤ rl) (hg9 : ∀ {z1 : Int32} {uM uP uL : zOS} {res9 : zOS × zOS × zOS}, g9 z1 uM uP uL = some res9 → zM yX1_place cX1_place 5 none rfn rln [(.ref (qM 0)), (.int z1)] [(1, qM, uM), (2, qP, uP), (0, qL, uL)] none [(1, qM, res9.1), (2, qP, res9.2.1), (0, qL, res9.2.2)]) (ha2 : zAr 1 k2 0 10) (hk_34 : ∀ (y3 : Int32) (tM : zOS) (tP : zOS) (tL : zOS), zJ X 5 res (kc_34 (y3, tM, tP, tL)) 34 [(0, (.ref (qM 0))), (1, (.int x1)), (2, (.ref (qM k2))), (3, (.int y3))] [] [(1, qM, tM), (2, qP, tP), (0, qL, tL)]) (x3 : Int32) (sM : zOS) (sP : zOS) (sL : zOS) : zJ X 5 res (bX1_place_34 F g9 k2 x1 kc_34 x3 sM sP sL) 34 [(0, (.ref (qM 0))), (1, (.int x1)), (2, (.ref (qM k2))), (3, (.int x3))] [] [(1, qM, sM), (2, qP, sP), (0, qL, sL)] := by
  unfold bX1_place_34
  refine z_iload_n (pc := 34) 3 rfl rfl C dX1_place_34 ?_
  refine z_aload_n (pc := 35) 0 rfl rfl C dX1_place_35 ?_
  refine z_getE (pc := 36) 0 1 51 (qL 0) hM51 C dX1_place_36 rfl (by decide) (by decide) rfl zw_205 ?_
  refine z_getI (pc := 39) 2 14 C dX1_place_39 rfl (by decide) (by decide) rfl zw_163 ?_
  refine z_icmp_ge (pc := 42) 164 C dX1_place_42 (by decide) ?_ ?_
  · exact z_return (pc := 164) C hR dX1_place_164 (fun h => by subst h; exact ⟨rfl, rfl⟩)
  · refine z_aload_n (pc := 45) 0 rfl rfl C dX1_place_45 ?_
    refine z_getI (pc := 46) 0 8 C dX1_place_46 rfl (by decide) (by decide) rfl zw_215 ?_
    refine z_sipush (pc := 49) (9999 : Int32) (by decide) C dX1_place_49 ?_
    refine z_icmp_ge (pc := 52) 164 C dX1_place_52 (by decide) ?_ ?_
    · exact z_return (pc := 164) C hR dX1_place_164 (fun h => by subst h; exact ⟨rfl, rfl⟩)
    · refine z_iconst (pc := 55) (1 : Int32) (by decide) C dX1_place_55 ?_
      refine z_iload_n (pc := 56) 3 rfl rfl C dX1_place_56 ?_
      refine z_ishl (pc := 57) C dX1_place_57 ?_
      refine z_leti (fun x4_4 => ?_)
      refine z_istore (pc := 58) [(0, (.ref (qM 0))), (1, (.int x1)), (2, (.ref (qM k2))), (3, (.int x3)), (4, (.int x4_4))] [1, 2, 3, 4, 0] (by decide) rfl C dX1_place_58 ?_
      refine z_aload_n (pc := 60) 0 rfl rfl C dX1_place_60 ?_
      refine z_getR (pc := 61) 0 2 1 C dX1_place_61 rfl (by decide) (by decide) rfl zw_207 ?_
      refine z_iload_n (pc := 64) 1 rfl rfl C dX1_place_64 ?_
      refine z_iald (pc := 65) 0 C dX1_place_65 rfl (by unfold zAr; decide) ?_
      refine z_aload_n (pc := 66) 0 rfl rfl C dX1_place_66 ?_
      refine z_getI (pc := 67) 0 5 C dX1_place_67 rfl (by decide) (by decide) rfl zw_210 ?_
      refine z_iconst (pc := 70) (-1 : Int32) (by decide) C dX1_place_70 ?_
      refine z_ixor (pc := 71) C dX1_place_71 ?_
      refine z_iand (pc := 72) C dX1_place_72 ?_
      refine z_iload (pc := 73) 4 rfl C dX1_place_73 ?_
      refine z_iand (pc := 75) C dX1_place_75 ?_
      refine z_if_ne (pc := 76) 82 C dX1_place_76 (by decide) ?_ ?_
      · refine z_goto (pc := 79) 158 C dX1_place_79 (by decide) ?_
        refine z_iinc (pc := 158) (x3 + 1) 3 rfl rfl [(0, (.ref (qM 0))), (1, (.int x1)), (2, (.ref (qM k2))), (3, (.int (x3 + 1))), (4, (.int x4_4))] [1, 2, 3, 0, 4] (by decide) rfl C dX1_place_158 ?_
        refine z_goto (pc := 161) 34 C dX1_place_161 (by decide) ?_
        refine z_lv [(0, (.ref (qM 0))), (1, (.int x1)), (2, (.ref (qM k2))), (3, (.int (x3 + 1)))] [0, 1, 2, 3] rfl ?_
        exact hk_34 _ _ _ _
      · refine z_aload_n (pc := 82) 0 rfl rfl C dX1_place_82 ?_
        refine z_getR (pc := 83) 0 4 3 C dX1_place_83 rfl (by decide) (by decide) rfl zw_209 ?_
        refine z_iload_n (pc := 86) 1 rfl rfl C dX1_place_86 ?_
        refine z_aal (kd := 3) (pc := 87) 0 C dX1_place_87 rfl (by unfold zAr; decide) (by decide) (fun hi_5 => ?_)
        refine z_iconst (pc := 88) (0 : Int32) (by decide) C dX1_place_88 ?_
        refine z_aload_n (pc := 89) 2 rfl rfl C dX1_place_89 ?_
        refine z_iconst (pc := 90) (0 : Int32) (by decide) C dX1_place_90 ?_
        refine z_bipush (pc := 91) (10 : Int32) (by decide) C dX1_place_91 ?_
        refine z_copyi (n0 := 10) (n1 := 10) (pc := 93) 0 0 C dX1_place_93 zw_576 zw_299 zw_298 zw_83 rfl rfl (zAr_n hi_5) ha2 (by decide) (by decide) (by decide) (by decide) (by decide) (by omega) (Nat.le_trans (m := 26) (Nat.le_of_ble_eq_true rfl) (by omega)) [(1, qM, (zsI sM k2 (va_cpy (zI sM (zbs 1 + x1.toNatClampNeg)) (zI sM k2) (0 : Int32).toNatClampNeg (0 : Int32).toNatClampNeg (10 : Int32).toNatClampNeg))), (2, qP, sP), (0, qL, sL)] rfl ?_
        refine z_letc (fun z9 => [(1, qM, z9), (2, qP, sP), (0, qL, sL)]) (fun sM_6 => ?_)
        refine z_aload_n (pc := 96) 2 rfl rfl C dX1_place_96 ?_
        refine z_aload_n (pc := 97) 0 rfl rfl C dX1_place_97 ?_
        refine z_getE (pc := 98) 0 0 50 (qP 0) hM50 C dX1_place_98 rfl (by decide) (by decide) rfl zw_203 ?_
        refine z_iload_n (pc := 101) 1 rfl rfl C dX1_place_101 ?_
        refine z_callV (pc := 102) (rf' := 0) (rl' := 0) (fX2_gateNet x1 sP) [(.int x1)] [(.ref (qM k2))] [(2, qP, sP)] (fun r_7 => (some (.int r_7))) (fun r_7 => [(2, qP, sP)]) [(1, qM, sM_6), (0, qL, sL)] (fun r_7 => [(1, qM, sM_6), (2, qP, sP), (0, qL, sL)]) C dX1_place_102 zy_X2_gateNet zw_525 (fun _ hr9 => mX2_gateNet  hr9) ⟨by omega, by omega⟩ rfl rfl (by decide) rfl (Nat.le_of_ble_eq_true rfl) (z_pn 3 _ rfl [1, 0, 2] (by decide)).symm (fun _ => (z_pn 3 _ rfl [1, 0, 2] (by decide)).symm) rfl (fun r_7 hr_8 => ?_)
        show zJ X 5 res _ 105 [(0, (.ref (qM 0))), (1, (.int x1)), (2, (.ref (qM k2))), (3, (.int x3)), (4, (.int x4_4))] [(.int r_7), (.ref (qM k2))] [(1, qM, sM_6), (2, qP, sP), (0, qL, sL)]
        refine z_aload_n (pc := 105) 0 rfl rfl C dX1_place_105 ?_
        refine z_getE (pc := 106) 0 1 51 (qL 0) hM51 C dX1_place_106 rfl (by decide) (by decide) rfl zw_205 ?_
        refine z_getR (pc := 109) 2 8 9 C dX1_place_109 rfl (by decide) (by decide) rfl zw_152 ?_
        refine z_iload_n (pc := 112) 3 rfl rfl C dX1_place_112 ?_
        refine z_iald (pc := 113) 2 C dX1_place_113 rfl (by unfold zAr; decide) ?_
        refine z_callS (pc := 114) (rf' := 0) (rl' := 0) (fX1_tie F k2 r_7 (zI sL 9 x3.toNatClampNeg) sM_6) [(.ref (qM k2)), (.int r_7), (.int (zI sL 9 x3.toNatClampNeg))] [] [(1, qM, sM_6)] (fun r_9 => (some (.int r_9.1))) (fun r_9 => [(1, qM, r_9.2)]) [(2, qP, sP), (0, qL, sL)] (fun r_9 => [(1, qM, r_9.2), (2, qP, sP), (0, qL, sL)]) C dX1_place_114 zy_X1_tie zw_559 (fun _ hr9 => mX1_tie ha2 hr9) ⟨by omega, by omega⟩ rfl (Nat.le_of_ble_eq_true rfl) (List.Perm.refl _) (fun _ => List.Perm.refl _) rfl (fun r_9 hr_10 => ?_)
        show zJ X 5 res _ 117 [(0, (.ref (qM 0))), (1, (.int x1)), (2, (.ref (qM k2))), (3, (.int x3)), (4, (.int x4_4))] [(.int r_9.1)] [(1, qM, r_9.2), (2, qP, sP), (0, qL, sL)]
        refine z_if_eq (pc := 117) 158 C dX1_place_117 (by decide) ?_ ?_
        · refine z_iinc (pc := 158) (x3 + 1) 3 rfl rfl [(0, (.ref (qM 0))), (1, (.int x1)), (2, (.ref (qM k2))), (3, (.int (x3 + 1))), (4, (.int x4_4))] [1, 2, 3, 0, 4] (by decide) rfl C dX1_place_158 ?_
          refine z_goto (pc := 161) 34 C dX1_place_161 (by decide) ?_
          refine z_lv [(0, (.ref (qM 0))), (1, (.int x1)), (2, (.ref (qM k2))), (3, (.int (x3 + 1)))] [0, 1, 2, 3] rfl ?_
          exact hk_34 _ _ _ _
        · refine z_aload_n (pc := 120) 0 rfl rfl C dX1_place_120 ?_
          refine z_getR (pc := 121) 0 3 2 C dX1_place_121 rfl (by decide) (by decide) rfl zw_208 ?_
          refine z_iload_n (pc := 124) 1 rfl rfl C dX1_place_124 ?_
          refine z_iload_n (pc := 125) 3 rfl rfl C dX1_place_125 ?_
          refine z_iast (pc := 126) 0 C dX1_place_126 rfl (by unfold zAr; decide) [(1, qM, (zsI r_9.2 2 (upd (zI r_9.2 2) x1.toNatClampNeg x3))), (2, qP, sP), (0, qL, sL)] rfl ?_
          refine z_letc (fun z9 => [(1, qM, z9), (2, qP, sP), (0, qL, sL)]) (fun sM_11 => ?_)
          refine z_aload_n (pc := 127) 0 rfl rfl C dX1_place_127 ?_
          refine z_dup (pc := 128) rfl C dX1_place_128 ?_
          refine z_getI (pc := 129) 0 5 C dX1_place_129 rfl (by decide) (by decide) rfl zw_210 ?_
          refine z_iload (pc := 132) 4 rfl C dX1_place_132 ?_
          refine z_ior (pc := 134) C dX1_place_134 ?_
          refine z_putI (pc := 135) 0 5 C dX1_place_135 rfl (by decide) (by decide) rfl zw_210 rfl rfl rfl [(1, qM, (zsF sM_11 5 ((zF sM_11 5) ||| x4_4))), (2, qP, sP), (0, qL, sL)] rfl ?_
          refine z_letc (fun z9 => [(1, qM, z9), (2, qP, sP), (0, qL, sL)]) (fun sM_12 => ?_)
          refine z_aload_n (pc := 138) 0 rfl rfl C dX1_place_138 ?_
          refine z_iload_n (pc := 139) 1 rfl rfl C dX1_place_139 ?_
          refine z_iconst (pc := 140) (1 : Int32) (by decide) C dX1_place_140 ?_
          refine z_iadd (pc := 141) C dX1_place_141 ?_
          refine z_callS (pc := 142) (rf' := rfn) (rl' := rln) (g9 (x1 + (1 : Int32)) sM_12 sP sL) [(.ref (qM 0)), (.int (x1 + (1 : Int32)))] [] [(1, qM, sM_12), (2, qP, sP), (0, qL, sL)] (fun r_13 => none) (fun r_13 => [(1, qM, r_13.1), (2, qP, r_13.2.1), (0, qL, r_13.2.2)]) [] (fun r_13 => [(1, qM, r_13.1), (2, qP, r_13.2.1), (0, qL, r_13.2.2)]) C dX1_place_142 zy_X1_place zw_562 (fun _ hr9 => hg9 hr9) hrm9 rfl (Nat.le_of_ble_eq_true rfl) (List.Perm.refl _) (fun _ => List.Perm.refl _) rfl (fun r_13 hr_14 => ?_)
          show zJ X 5 res _ 145 [(0, (.ref (qM 0))), (1, (.int x1)), (2, (.ref (qM k2))), (3, (.int x3)), (4, (.int x4_4))] [] [(1, qM, r_13.1), (2, qP, r_13.2.1), (0, qL, r_13.2.2)]
          refine z_aload_n (pc := 145) 0 rfl rfl C dX1_place_145 ?_
          refine z_dup (pc := 146) rfl C dX1_place_146 ?_
          refine z_getI (pc := 147) 0 5 C dX1_place_147 rfl (by decide) (by decide) rfl zw_210 ?_
          refine z_iload (pc := 150) 4 rfl C dX1_place_150 ?_
          refine z_iconst (pc := 152) (-1 : Int32) (by decide) C dX1_place_152 ?_
          refine z_ixor (pc := 153) C dX1_place_153 ?_
          refine z_iand (pc := 154) C dX1_place_154 ?_
          refine z_putI (pc := 155) 0 5 C dX1_place_155 rfl (by decide) (by decide) rfl zw_210 rfl rfl rfl [(1, qM, (zsF r_13.1 5 ((zF r_13.1 5) &&& (x4_4 ^^^ (-1 : Int32))))), (2, qP, r_13.2.1), (0, qL, r_13.2.2)] rfl ?_
          refine z_letc (fun z9 => [(1, qM, z9), (2, qP, r_13.2.1), (0, qL, r_13.2.2)]) (fun sM_15 => ?_)
          refine z_iinc (pc := 158) (x3 + 1) 3 rfl rfl [(0, (.ref (qM 0))), (1, (.int x1)), (2, (.ref (qM k2))), (3, (.int (x3 + 1))), (4, (.int x4_4))] [1, 2, 3, 0, 4] (by decide) rfl C dX1_place_158 ?_
          refine z_goto (pc := 161) 34 C dX1_place_161 (by decide) ?_
          refine z_lv [(0, (.ref (qM 0))), (1, (.int x1)), (2, (.ref (qM k2))), (3, (.int (x3 + 1)))] [0, 1, 2, 3] rfl ?_
          exact hk_34 _ _ _ _
def hX1_place (F : Nat) (g9 : Int32 → zOS → zOS → zOS → Option (zOS × zOS × zOS)) (x1 : Int32) (sM : zOS) (sP : zOS) (sL : zOS) : Option (zOS × zOS × zOS) := (if (zF sP 3) ≤ x1 then (jX1_place_17 F g9 sM sP sL) else (if x1 < (6 : Int32) then (zchk (x1 + (1 : Int32)) 13 (zit (P := Int32 × zOS × zOS × zOS) (R := zOS × zOS × zOS) (fun kc9 p9 => bX1_place_34 F g9 (zbs 1 + (x1 + (1 : Int32)).toNatClampNeg) x1 kc9 p9.1 p9.2.1 p9.2.2.1 p9.2.2.2) F ((0 : Int32), sM, sP, sL))) else (jX1_place_17 F g9 sM sP sL)))
set_option maxRecDepth 20000 in
theorem wX1_place {X : zCx} {res : zOS × zOS × zOS} {F : Nat} {qM : Nat → Nat} {qP : Nat → Nat} {qL : Nat → Nat} {x1 : Int32} {sM : zOS} {sP : zOS} {sL : zOS} {rf rl rfn rln : Nat} {g9 : Int32 → zOS → zOS → zOS → Option (zOS × zOS × zOS)} (C : zC X RX1 cX1_place 5 rf rl) (hR : zR X none none [(1, qM, res.1), (2, qP, res.2.1), (0, qL, res.2.2)]) (hM50 : qM 50 = qP 0) (hM51 : qM 51 = qL 0) (hrm9 : rfn + 1 ≤ rf ∧ 8 + (5 + 11) + rln ≤ rl) (hrf9 : 11 ≤ rf) (hrl9 : 258 ≤ rl) (hg9 : ∀ {z1 : Int32} {uM uP uL : zOS} {res9 : zOS × zOS × zOS}, g9 z1 uM uP uL = some res9 → zM yX1_place cX1_place 5 none rfn rln [(.ref (qM 0)), (.int z1)] [(1, qM, uM), (2, qP, uP), (0, qL, uL)] none [(1, qM, res9.1), (2, qP, res9.2.1), (0, qL, res9.2.2)]) : zJ X 5 res (hX1_place F g9 x1 sM sP sL) 0 [(0, (.ref (qM 0))), (1, (.int x1))] [] [(1, qM, sM), (2, qP, sP), (0, qL, sL)] := by
  unfold hX1_place
  refine z_iload_n (pc := 0) 1 rfl rfl C dX1_place_0 ?_
  refine z_aload_n (pc := 1) 0 rfl rfl C dX1_place_1 ?_
  refine z_getE (pc := 2) 0 0 50 (qP 0) hM50 C dX1_place_2 rfl (by decide) (by decide) rfl zw_203 ?_
  refine z_getI (pc := 5) 1 3 C dX1_place_5 rfl (by decide) (by decide) rfl zw_116 ?_
  refine z_icmp_ge (pc := 8) 17 C dX1_place_8 (by decide) ?_ ?_
  · refine z_lv [(0, (.ref (qM 0)))] [0] rfl ?_
    exact wX1_place_17 C hR hM50 hM51 hrm9 hrf9 hrl9 hg9  _ _ _
  · refine z_iload_n (pc := 11) 1 rfl rfl C dX1_place_11 ?_
    refine z_bipush (pc := 12) (6 : Int32) (by decide) C dX1_place_12 ?_
    refine z_icmp_lt (pc := 14) 23 C dX1_place_14 (by decide) ?_ ?_
    · refine z_aload_n (pc := 23) 0 rfl rfl C dX1_place_23 ?_
      refine z_getR (pc := 24) 0 4 3 C dX1_place_24 rfl (by decide) (by decide) rfl zw_209 ?_
      refine z_iload_n (pc := 27) 1 rfl rfl C dX1_place_27 ?_
      refine z_iconst (pc := 28) (1 : Int32) (by decide) C dX1_place_28 ?_
      refine z_iadd (pc := 29) C dX1_place_29 ?_
      refine z_aal (kd := 3) (pc := 30) 0 C dX1_place_30 rfl (by unfold zAr; decide) (by decide) (fun hi_3 => ?_)
      refine z_astore_n (pc := 31) [(0, (.ref (qM 0))), (1, (.int x1)), (2, (.ref (qM (zbs 1 + (x1 + (1 : Int32)).toNatClampNeg))))] [1, 2, 0] (by decide) rfl rfl C dX1_place_31 ?_
      refine z_iconst (pc := 32) (0 : Int32) (by decide) C dX1_place_32 ?_
      refine z_istore_n (pc := 33) [(0, (.ref (qM 0))), (1, (.int x1)), (2, (.ref (qM (zbs 1 + (x1 + (1 : Int32)).toNatClampNeg)))), (3, (.int (0 : Int32)))] [1, 2, 3, 0] (by decide) rfl rfl C dX1_place_33 ?_
      show zJ X 5 res _ 34 [(0, (.ref (qM 0))), (1, (.int x1)), (2, (.ref (qM (zbs 1 + (x1 + (1 : Int32)).toNatClampNeg)))), (3, (.int (0 : Int32)))] [] [(1, qM, sM), (2, qP, sP), (0, qL, sL)]
      exact zit_J (P := Int32 × zOS × zOS × zOS) (B := (fun kc9 p9 => bX1_place_34 F g9 (zbs 1 + (x1 + (1 : Int32)).toNatClampNeg) x1 kc9 p9.1 p9.2.1 p9.2.2.1 p9.2.2.2)) (fun p9 => [(0, (.ref (qM 0))), (1, (.int x1)), (2, (.ref (qM (zbs 1 + (x1 + (1 : Int32)).toNatClampNeg)))), (3, (.int p9.1))]) (fun p9 => [(1, qM, p9.2.1), (2, qP, p9.2.2.1), (0, qL, p9.2.2.2)]) (fun kc9 hk9 p9 => vX1_place_34 C hR hM50 hM51 hrm9 hrf9 hrl9 hg9 (zAr_n hi_3)  (fun a0 a1 a2 a3 => hk9 (a0, a1, a2, a3)) p9.1 p9.2.1 p9.2.2.1 p9.2.2.2) F _
    · refine z_lv [(0, (.ref (qM 0)))] [0] rfl ?_
      exact wX1_place_17 C hR hM50 hM51 hrm9 hrf9 hrl9 hg9  _ _ _
def fX1_place (F : Nat) : Nat → Int32 → zOS → zOS → zOS → Option (zOS × zOS × zOS)
  | 0, _, _, _, _ => none
  | n + 1, x1, sM, sP, sL => hX1_place F (fX1_place F n) x1 sM sP sL
theorem mX1_place {F : Nat} {qM : Nat → Nat} {qP : Nat → Nat} {qL : Nat → Nat} (hM50 : qM 50 = qP 0) (hM51 : qM 51 = qL 0) : ∀ (n : Nat) {x1 : Int32} {sM sP sL : zOS} {res : zOS × zOS × zOS}, fX1_place F n x1 sM sP sL = some res → zM yX1_place cX1_place 5 none (11 + n) (258 + n * 24) [(.ref (qM 0)), (.int x1)] [(1, qM, sM), (2, qP, sP), (0, qL, sL)] none [(1, qM, res.1), (2, qP, res.2.1), (0, qL, res.2.2)]
  | 0, _, _, _, _, _, h => by cases h
  | n + 1, _, _, _, _, _, h => zM_of (by decide +kernel) (Nat.le_of_ble_eq_true rfl) (fun X C hR => wX1_place (F := F) (rfn := 11 + n) (rln := 258 + n * 24) C hR hM50 hM51 ⟨by omega, by omega⟩ (by omega) (by omega) (fun h9 => mX1_place hM50 hM51 n h9) h)
theorem dX1_run_0 : decode cX1_run 0 = .ok (.aload_n 0, 1) := by decide +kernel
theorem dX1_run_1 : decode cX1_run 1 = .ok (.iconst 0, 1) := by decide +kernel
theorem dX1_run_2 : decode cX1_run 2 = .ok (.putfield 47, 3) := by decide +kernel
theorem dX1_run_5 : decode cX1_run 5 = .ok (.aload_n 0, 1) := by decide +kernel
theorem dX1_run_6 : decode cX1_run 6 = .ok (.iconst 0, 1) := by decide +kernel
theorem dX1_run_7 : decode cX1_run 7 = .ok (.putfield 37, 3) := by decide +kernel
theorem dX1_run_10 : decode cX1_run 10 = .ok (.aload_n 0, 1) := by decide +kernel
theorem dX1_run_11 : decode cX1_run 11 = .ok (.invokevirtual 53, 3) := by decide +kernel
theorem dX1_run_14 : decode cX1_run 14 = .ok (.aload_n 0, 1) := by decide +kernel
theorem dX1_run_15 : decode cX1_run 15 = .ok (.aload_n 0, 1) := by decide +kernel
theorem dX1_run_16 : decode cX1_run 16 = .ok (.invokevirtual 56, 3) := by decide +kernel
theorem dX1_run_19 : decode cX1_run 19 = .ok (.putfield 50, 3) := by decide +kernel
theorem dX1_run_22 : decode cX1_run 22 = .ok (.aload_n 0, 1) := by decide +kernel
theorem dX1_run_23 : decode cX1_run 23 = .ok (.getfield 50, 3) := by decide +kernel
theorem dX1_run_26 : decode cX1_run 26 = .ok (.ifCond .ne 13, 3) := by decide +kernel
theorem dX1_run_29 : decode cX1_run 29 = .ok (.aload_n 0, 1) := by decide +kernel
theorem dX1_run_30 : decode cX1_run 30 = .ok (.getfield 21, 3) := by decide +kernel
theorem dX1_run_33 : decode cX1_run 33 = .ok (.getfield 60, 3) := by decide +kernel
theorem dX1_run_36 : decode cX1_run 36 = .ok (.ifCond .eq 4, 3) := by decide +kernel
theorem dX1_run_39 : decode cX1_run 39 = .ok (.return_, 1) := by decide +kernel
theorem dX1_run_40 : decode cX1_run 40 = .ok (.aload_n 0, 1) := by decide +kernel
theorem dX1_run_41 : decode cX1_run 41 = .ok (.getfield 34, 3) := by decide +kernel
theorem dX1_run_44 : decode cX1_run 44 = .ok (.iconst 0, 1) := by decide +kernel
theorem dX1_run_45 : decode cX1_run 45 = .ok (.aaload, 1) := by decide +kernel
theorem dX1_run_46 : decode cX1_run 46 = .ok (.iconst (-1), 1) := by decide +kernel
theorem dX1_run_47 : decode cX1_run 47 = .ok (.invokestatic 63, 3) := by decide +kernel
theorem dX1_run_50 : decode cX1_run 50 = .ok (.aload_n 0, 1) := by decide +kernel
theorem dX1_run_51 : decode cX1_run 51 = .ok (.aload_n 0, 1) := by decide +kernel
theorem dX1_run_52 : decode cX1_run 52 = .ok (.getfield 34, 3) := by decide +kernel
theorem dX1_run_55 : decode cX1_run 55 = .ok (.iconst 0, 1) := by decide +kernel
theorem dX1_run_56 : decode cX1_run 56 = .ok (.aaload, 1) := by decide +kernel
theorem dX1_run_57 : decode cX1_run 57 = .ok (.invokevirtual 69, 3) := by decide +kernel
theorem dX1_run_60 : decode cX1_run 60 = .ok (.ifCond .eq 8, 3) := by decide +kernel
theorem dX1_run_63 : decode cX1_run 63 = .ok (.aload_n 0, 1) := by decide +kernel
theorem dX1_run_64 : decode cX1_run 64 = .ok (.iconst 0, 1) := by decide +kernel
theorem dX1_run_65 : decode cX1_run 65 = .ok (.invokestatic 73, 3) := by decide +kernel
theorem dX1_run_68 : decode cX1_run 68 = .ok (.return_, 1) := by decide +kernel
def fX1_run (F : Nat) (sM : zOS) (sP : zOS) (sL : zOS) : Option (zOS × zOS × zOS) := (zlet (zsF sM 8 (0 : Int32)) (fun sM_1 : zOS => (zlet (zsF sM_1 5 (0 : Int32)) (fun sM_2 : zOS => (Option.bind (fX1_findLikes F sM_2 sP sL) (fun r_3 : zOS => (Option.bind (fX1_countLeftOver F r_3 sP sL) (fun r_5 : Int32 => (zlet (zsF r_3 9 r_5) (fun sM_7 : zOS => (if (zF sM_7 9) = 0 then (if (zF sL 15) = 0 then (zchk (0 : Int32) 13 (Option.bind (fJ7_fill_53178 F 10 (zbs 1 + (0 : Int32).toNatClampNeg) (-1 : Int32) sM_7) (fun r_9 : zOS => (zchk (0 : Int32) 13 (Option.bind (fX1_tiePins F (zbs 1 + (0 : Int32).toNatClampNeg) r_9 sP sL) (fun r_12 : Int32 × zOS => (if r_12.1 = 0 then (some (r_12.2, sP, sL)) else (Option.bind (fX1_place F 8 (0 : Int32) r_12.2 sP sL) (fun r_14 : zOS × zOS × zOS => (some (r_14.1, r_14.2.1, r_14.2.2))))))))))) else (some (sM_7, sP, sL))) else (some (sM_7, sP, sL)))))))))))))
set_option maxRecDepth 20000 in
theorem wX1_run {X : zCx} {res : zOS × zOS × zOS} {F : Nat} {qM : Nat → Nat} {qP : Nat → Nat} {qL : Nat → Nat} {sM : zOS} {sP : zOS} {sL : zOS} (C : zC X RX1 cX1_run 1 20 474) (hR : zR X none none [(1, qM, res.1), (2, qP, res.2.1), (0, qL, res.2.2)]) (hM50 : qM 50 = qP 0) (hM51 : qM 51 = qL 0) : zJ X 1 res (fX1_run F sM sP sL) 0 [(0, (.ref (qM 0)))] [] [(1, qM, sM), (2, qP, sP), (0, qL, sL)] := by
  unfold fX1_run
  refine z_aload_n (pc := 0) 0 rfl rfl C dX1_run_0 ?_
  refine z_iconst (pc := 1) (0 : Int32) (by decide) C dX1_run_1 ?_
  refine z_putI (pc := 2) 0 8 C dX1_run_2 rfl (by decide) (by decide) rfl zw_215 rfl rfl rfl [(1, qM, (zsF sM 8 (0 : Int32))), (2, qP, sP), (0, qL, sL)] rfl ?_
  refine z_letc (fun z9 => [(1, qM, z9), (2, qP, sP), (0, qL, sL)]) (fun sM_1 => ?_)
  refine z_aload_n (pc := 5) 0 rfl rfl C dX1_run_5 ?_
  refine z_iconst (pc := 6) (0 : Int32) (by decide) C dX1_run_6 ?_
  refine z_putI (pc := 7) 0 5 C dX1_run_7 rfl (by decide) (by decide) rfl zw_210 rfl rfl rfl [(1, qM, (zsF sM_1 5 (0 : Int32))), (2, qP, sP), (0, qL, sL)] rfl ?_
  refine z_letc (fun z9 => [(1, qM, z9), (2, qP, sP), (0, qL, sL)]) (fun sM_2 => ?_)
  refine z_aload_n (pc := 10) 0 rfl rfl C dX1_run_10 ?_
  refine z_callV (pc := 11) (rf' := 3) (rl' := 70) (fX1_findLikes F sM_2 sP sL) [] [] [(1, qM, sM_2), (2, qP, sP), (0, qL, sL)] (fun r_3 => none) (fun r_3 => [(1, qM, r_3), (2, qP, sP), (0, qL, sL)]) [] (fun r_3 => [(1, qM, r_3), (2, qP, sP), (0, qL, sL)]) C dX1_run_11 zy_X1_findLikes zw_516 (fun _ hr9 => mX1_findLikes hM50 hM51 hr9) (by decide) rfl rfl (by decide) rfl (Nat.le_of_ble_eq_true rfl) (List.Perm.refl _) (fun _ => List.Perm.refl _) rfl (fun r_3 hr_4 => ?_)
  show zJ X 1 res _ 14 [(0, (.ref (qM 0)))] [] [(1, qM, r_3), (2, qP, sP), (0, qL, sL)]
  refine z_aload_n (pc := 14) 0 rfl rfl C dX1_run_14 ?_
  refine z_aload_n (pc := 15) 0 rfl rfl C dX1_run_15 ?_
  refine z_callV (pc := 16) (rf' := 0) (rl' := 0) (fX1_countLeftOver F r_3 sP sL) [] [(.ref (qM 0))] [(1, qM, r_3), (2, qP, sP), (0, qL, sL)] (fun r_5 => (some (.int r_5))) (fun r_5 => [(1, qM, r_3), (2, qP, sP), (0, qL, sL)]) [] (fun r_5 => [(1, qM, r_3), (2, qP, sP), (0, qL, sL)]) C dX1_run_16 zy_X1_countLeftOver zw_548 (fun _ hr9 => mX1_countLeftOver hM50 hM51 hr9) (by decide) rfl rfl (by decide) rfl (Nat.le_of_ble_eq_true rfl) (List.Perm.refl _) (fun _ => List.Perm.refl _) rfl (fun r_5 hr_6 => ?_)
  show zJ X 1 res _ 19 [(0, (.ref (qM 0)))] [(.int r_5), (.ref (qM 0))] [(1, qM, r_3), (2, qP, sP), (0, qL, sL)]
  refine z_putI (pc := 19) 0 9 C dX1_run_19 rfl (by decide) (by decide) rfl zw_217 rfl rfl rfl [(1, qM, (zsF r_3 9 r_5)), (2, qP, sP), (0, qL, sL)] rfl ?_
  refine z_letc (fun z9 => [(1, qM, z9), (2, qP, sP), (0, qL, sL)]) (fun sM_7 => ?_)
  refine z_aload_n (pc := 22) 0 rfl rfl C dX1_run_22 ?_
  refine z_getI (pc := 23) 0 9 C dX1_run_23 rfl (by decide) (by decide) rfl zw_217 ?_
  refine z_if_ne (pc := 26) 39 C dX1_run_26 (by decide) ?_ ?_
  · refine z_aload_n (pc := 29) 0 rfl rfl C dX1_run_29 ?_
    refine z_getE (pc := 30) 0 1 51 (qL 0) hM51 C dX1_run_30 rfl (by decide) (by decide) rfl zw_205 ?_
    refine z_getI (pc := 33) 2 15 C dX1_run_33 rfl (by decide) (by decide) rfl zw_166 ?_
    refine z_if_eq (pc := 36) 40 C dX1_run_36 (by decide) ?_ ?_
    · refine z_aload_n (pc := 40) 0 rfl rfl C dX1_run_40 ?_
      refine z_getR (pc := 41) 0 4 3 C dX1_run_41 rfl (by decide) (by decide) rfl zw_209 ?_
      refine z_iconst (pc := 44) (0 : Int32) (by decide) C dX1_run_44 ?_
      refine z_aal (kd := 3) (pc := 45) 0 C dX1_run_45 rfl (by unfold zAr; decide) (by decide) (fun hi_8 => ?_)
      refine z_iconst (pc := 46) (-1 : Int32) (by decide) C dX1_run_46 ?_
      refine z_callS (pc := 47) (rf' := 0) (rl' := 0) (fJ7_fill_53178 F 10 (zbs 1 + (0 : Int32).toNatClampNeg) (-1 : Int32) sM_7) [(.ref (qM (zbs 1 + (0 : Int32).toNatClampNeg))), (.int (-1 : Int32))] [] [(1, qM, sM_7)] (fun r_9 => none) (fun r_9 => [(1, qM, r_9)]) [(2, qP, sP), (0, qL, sL)] (fun r_9 => [(1, qM, r_9), (2, qP, sP), (0, qL, sL)]) C dX1_run_47 zy_J7_fill_53178 zw_552 (fun _ hr9 => mJ7_fill_53178 (zAr_n hi_8) hr9) (by decide) rfl (Nat.le_of_ble_eq_true rfl) (List.Perm.refl _) (fun _ => List.Perm.refl _) rfl (fun r_9 hr_10 => ?_)
      show zJ X 1 res _ 50 [(0, (.ref (qM 0)))] [] [(1, qM, r_9), (2, qP, sP), (0, qL, sL)]
      refine z_aload_n (pc := 50) 0 rfl rfl C dX1_run_50 ?_
      refine z_aload_n (pc := 51) 0 rfl rfl C dX1_run_51 ?_
      refine z_getR (pc := 52) 0 4 3 C dX1_run_52 rfl (by decide) (by decide) rfl zw_209 ?_
      refine z_iconst (pc := 55) (0 : Int32) (by decide) C dX1_run_55 ?_
      refine z_aal (kd := 3) (pc := 56) 0 C dX1_run_56 rfl (by unfold zAr; decide) (by decide) (fun hi_11 => ?_)
      refine z_callV (pc := 57) (rf' := 3) (rl' := 64) (fX1_tiePins F (zbs 1 + (0 : Int32).toNatClampNeg) r_9 sP sL) [(.ref (qM (zbs 1 + (0 : Int32).toNatClampNeg)))] [] [(1, qM, r_9), (2, qP, sP), (0, qL, sL)] (fun r_12 => (some (.int r_12.1))) (fun r_12 => [(1, qM, r_12.2), (2, qP, sP), (0, qL, sL)]) [] (fun r_12 => [(1, qM, r_12.2), (2, qP, sP), (0, qL, sL)]) C dX1_run_57 zy_X1_tiePins zw_553 (fun _ hr9 => mX1_tiePins hM50 hM51 (zAr_n hi_11) hr9) (by decide) rfl rfl (by decide) rfl (Nat.le_of_ble_eq_true rfl) (List.Perm.refl _) (fun _ => List.Perm.refl _) rfl (fun r_12 hr_13 => ?_)
      show zJ X 1 res _ 60 [(0, (.ref (qM 0)))] [(.int r_12.1)] [(1, qM, r_12.2), (2, qP, sP), (0, qL, sL)]
      refine z_if_eq (pc := 60) 68 C dX1_run_60 (by decide) ?_ ?_
      · exact z_return (pc := 68) C hR dX1_run_68 (fun h => by subst h; exact ⟨rfl, rfl⟩)
      · refine z_aload_n (pc := 63) 0 rfl rfl C dX1_run_63 ?_
        refine z_iconst (pc := 64) (0 : Int32) (by decide) C dX1_run_64 ?_
        refine z_callS (pc := 65) (rf' := 19) (rl' := 450) (fX1_place F 8 (0 : Int32) r_12.2 sP sL) [(.ref (qM 0)), (.int (0 : Int32))] [] [(1, qM, r_12.2), (2, qP, sP), (0, qL, sL)] (fun r_14 => none) (fun r_14 => [(1, qM, r_14.1), (2, qP, r_14.2.1), (0, qL, r_14.2.2)]) [] (fun r_14 => [(1, qM, r_14.1), (2, qP, r_14.2.1), (0, qL, r_14.2.2)]) C dX1_run_65 zy_X1_place zw_562 (fun _ hr9 => mX1_place hM50 hM51 8 hr9) (by decide) rfl (Nat.le_of_ble_eq_true rfl) (List.Perm.refl _) (fun _ => List.Perm.refl _) rfl (fun r_14 hr_15 => ?_)
        show zJ X 1 res _ 68 [(0, (.ref (qM 0)))] [] [(1, qM, r_14.1), (2, qP, r_14.2.1), (0, qL, r_14.2.2)]
        exact z_return (pc := 68) C hR dX1_run_68 (fun h => by subst h; exact ⟨rfl, rfl⟩)
    · exact z_return (pc := 39) C hR dX1_run_39 (fun h => by subst h; exact ⟨rfl, rfl⟩)
  · exact z_return (pc := 39) C hR dX1_run_39 (fun h => by subst h; exact ⟨rfl, rfl⟩)
theorem mX1_run {F : Nat} {qM : Nat → Nat} {qP : Nat → Nat} {qL : Nat → Nat} {sM : zOS} {sP : zOS} {sL : zOS} {res : zOS × zOS × zOS} (hM50 : qM 50 = qP 0) (hM51 : qM 51 = qL 0) (hf : fX1_run F sM sP sL = some res) : zM yX1_run cX1_run 1 none 20 474 [(.ref (qM 0))] [(1, qM, sM), (2, qP, sP), (0, qL, sL)] none [(1, qM, res.1), (2, qP, res.2.1), (0, qL, res.2.2)] := zM_of (by decide +kernel) (Nat.le_of_ble_eq_true rfl) (fun X C hR => wX1_run (F := F) C hR hM50 hM51 hf)
