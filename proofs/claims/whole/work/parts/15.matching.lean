theorem dX1_tie_0 : decode cX1_tie 0 = .ok (.aload_n 0, 1) := by decide +kernel
theorem dX1_tie_1 : decode cX1_tie 1 = .ok (.iload_n 1, 1) := by decide +kernel
theorem dX1_tie_2 : decode cX1_tie 2 = .ok (.iaload, 1) := by decide +kernel
theorem dX1_tie_3 : decode cX1_tie 3 = .ok (.iconst (-1), 1) := by decide +kernel
theorem dX1_tie_4 : decode cX1_tie 4 = .ok (.if_icmp .eq 16, 3) := by decide +kernel
theorem dX1_tie_7 : decode cX1_tie 7 = .ok (.aload_n 0, 1) := by decide +kernel
theorem dX1_tie_8 : decode cX1_tie 8 = .ok (.iload_n 1, 1) := by decide +kernel
theorem dX1_tie_9 : decode cX1_tie 9 = .ok (.iaload, 1) := by decide +kernel
theorem dX1_tie_10 : decode cX1_tie 10 = .ok (.iload_n 2, 1) := by decide +kernel
theorem dX1_tie_11 : decode cX1_tie 11 = .ok (.if_icmp .ne 7, 3) := by decide +kernel
theorem dX1_tie_14 : decode cX1_tie 14 = .ok (.iconst 1, 1) := by decide +kernel
theorem dX1_tie_15 : decode cX1_tie 15 = .ok (.goto 4, 3) := by decide +kernel
theorem dX1_tie_18 : decode cX1_tie 18 = .ok (.iconst 0, 1) := by decide +kernel
theorem dX1_tie_19 : decode cX1_tie 19 = .ok (.ireturn, 1) := by decide +kernel
theorem dX1_tie_20 : decode cX1_tie 20 = .ok (.iconst 0, 1) := by decide +kernel
theorem dX1_tie_21 : decode cX1_tie 21 = .ok (.istore_n 3, 1) := by decide +kernel
theorem dX1_tie_22 : decode cX1_tie 22 = .ok (.iload_n 3, 1) := by decide +kernel
theorem dX1_tie_23 : decode cX1_tie 23 = .ok (.bipush 10, 2) := by decide +kernel
theorem dX1_tie_25 : decode cX1_tie 25 = .ok (.if_icmp .ge 18, 3) := by decide +kernel
theorem dX1_tie_28 : decode cX1_tie 28 = .ok (.aload_n 0, 1) := by decide +kernel
theorem dX1_tie_29 : decode cX1_tie 29 = .ok (.iload_n 3, 1) := by decide +kernel
theorem dX1_tie_30 : decode cX1_tie 30 = .ok (.iaload, 1) := by decide +kernel
theorem dX1_tie_31 : decode cX1_tie 31 = .ok (.iload_n 2, 1) := by decide +kernel
theorem dX1_tie_32 : decode cX1_tie 32 = .ok (.if_icmp .ne 5, 3) := by decide +kernel
theorem dX1_tie_35 : decode cX1_tie 35 = .ok (.iconst 0, 1) := by decide +kernel
theorem dX1_tie_36 : decode cX1_tie 36 = .ok (.ireturn, 1) := by decide +kernel
theorem dX1_tie_37 : decode cX1_tie 37 = .ok (.iinc 3 1, 3) := by decide +kernel
theorem dX1_tie_40 : decode cX1_tie 40 = .ok (.goto (-18), 3) := by decide +kernel
theorem dX1_tie_43 : decode cX1_tie 43 = .ok (.aload_n 0, 1) := by decide +kernel
theorem dX1_tie_44 : decode cX1_tie 44 = .ok (.iload_n 1, 1) := by decide +kernel
theorem dX1_tie_45 : decode cX1_tie 45 = .ok (.iload_n 2, 1) := by decide +kernel
theorem dX1_tie_46 : decode cX1_tie 46 = .ok (.iastore, 1) := by decide +kernel
theorem dX1_tie_47 : decode cX1_tie 47 = .ok (.iconst 1, 1) := by decide +kernel
theorem dX1_tie_48 : decode cX1_tie 48 = .ok (.ireturn, 1) := by decide +kernel
def bX1_tie_22 (F : Nat) (k0 : Nat) (x1 : Int32) (x2 : Int32) (sM : zOS) (kc_22 : Int32 → Option (Int32 × zOS)) (x3 : Int32) : Option (Int32 × zOS) := (if (10 : Int32) ≤ x3 then (zchk x1 10 (zlet (zsI sM k0 (upd (zI sM k0) x1.toNatClampNeg x2)) (fun sM_1 : zOS => (zbk (1 : Int32) (some ((1 : Int32), sM_1)))))) else (zchk x3 10 (if (zI sM k0 x3.toNatClampNeg) = x2 then (zbk (0 : Int32) (some ((0 : Int32), sM))) else (kc_22 (x3 + 1)))))
set_option maxRecDepth 20000 in
theorem vX1_tie_22 {X : zCx} {res : Int32 × zOS} {F : Nat} {qM : Nat → Nat} {sM : zOS} {k0 : Nat} {x1 : Int32} {x2 : Int32} {kc_22 : Int32 → Option (Int32 × zOS)} (C : zC X RX1 cX1_tie 4 0 0) (hR : zR X (some .boolean) (some (.int res.1)) [(1, qM, res.2)]) (ha0 : zAr 1 k0 0 10) (hk_22 : ∀ (y3 : Int32), zJ X 4 res (kc_22 y3) 22 [(0, (.ref (qM k0))), (1, (.int x1)), (2, (.int x2)), (3, (.int y3))] [] [(1, qM, sM)]) (x3 : Int32) : zJ X 4 res (bX1_tie_22 F k0 x1 x2 sM kc_22 x3) 22 [(0, (.ref (qM k0))), (1, (.int x1)), (2, (.int x2)), (3, (.int x3))] [] [(1, qM, sM)] := by
  unfold bX1_tie_22
  refine z_iload_n (pc := 22) 3 rfl rfl C dX1_tie_22 ?_
  refine z_bipush (pc := 23) (10 : Int32) (by decide) C dX1_tie_23 ?_
  refine z_icmp_ge (pc := 25) 43 C dX1_tie_25 (by decide) ?_ ?_
  · refine z_aload_n (pc := 43) 0 rfl rfl C dX1_tie_43 ?_
    refine z_iload_n (pc := 44) 1 rfl rfl C dX1_tie_44 ?_
    refine z_iload_n (pc := 45) 2 rfl rfl C dX1_tie_45 ?_
    refine z_iast (pc := 46) 0 C dX1_tie_46 rfl ha0 [(1, qM, (zsI sM k0 (upd (zI sM k0) x1.toNatClampNeg x2)))] rfl ?_
    refine z_letc (fun z9 => [(1, qM, z9)]) (fun sM_1 => ?_)
    refine z_iconst (pc := 47) (1 : Int32) (by decide) C dX1_tie_47 ?_
    exact z_zreturn (pc := 48) C hR dX1_tie_48 (fun h => by subst h; exact ⟨rfl, rfl⟩)
  · refine z_aload_n (pc := 28) 0 rfl rfl C dX1_tie_28 ?_
    refine z_iload_n (pc := 29) 3 rfl rfl C dX1_tie_29 ?_
    refine z_iald (pc := 30) 0 C dX1_tie_30 rfl ha0 ?_
    refine z_iload_n (pc := 31) 2 rfl rfl C dX1_tie_31 ?_
    refine z_icmp_ne (pc := 32) 37 C dX1_tie_32 (by decide) ?_ ?_
    · refine z_iconst (pc := 35) (0 : Int32) (by decide) C dX1_tie_35 ?_
      exact z_zreturn (pc := 36) C hR dX1_tie_36 (fun h => by subst h; exact ⟨rfl, rfl⟩)
    · refine z_iinc (pc := 37) (x3 + 1) 3 rfl rfl [(0, (.ref (qM k0))), (1, (.int x1)), (2, (.int x2)), (3, (.int (x3 + 1)))] [1, 2, 3, 0] (by decide) rfl C dX1_tie_37 ?_
      refine z_goto (pc := 40) 22 C dX1_tie_40 (by decide) ?_
      exact hk_22 _
def fX1_tie (F : Nat) (k0 : Nat) (x1 : Int32) (x2 : Int32) (sM : zOS) : Option (Int32 × zOS) := (zchk x1 10 (if (zI sM k0 x1.toNatClampNeg) = (-1 : Int32) then (zit (P := Int32) (R := Int32 × zOS) (fun kc9 p9 => bX1_tie_22 F k0 x1 x2 sM kc9 p9) F (0 : Int32)) else (zchk x1 10 (if (zI sM k0 x1.toNatClampNeg) = x2 then (zbk (1 : Int32) (some ((1 : Int32), sM))) else (zbk (0 : Int32) (some ((0 : Int32), sM)))))))
set_option maxRecDepth 20000 in
theorem wX1_tie {X : zCx} {res : Int32 × zOS} {F : Nat} {qM : Nat → Nat} {k0 : Nat} {x1 : Int32} {x2 : Int32} {sM : zOS} (C : zC X RX1 cX1_tie 4 0 0) (hR : zR X (some .boolean) (some (.int res.1)) [(1, qM, res.2)]) (ha0 : zAr 1 k0 0 10) : zJ X 4 res (fX1_tie F k0 x1 x2 sM) 0 [(0, (.ref (qM k0))), (1, (.int x1)), (2, (.int x2))] [] [(1, qM, sM)] := by
  unfold fX1_tie
  refine z_aload_n (pc := 0) 0 rfl rfl C dX1_tie_0 ?_
  refine z_iload_n (pc := 1) 1 rfl rfl C dX1_tie_1 ?_
  refine z_iald (pc := 2) 0 C dX1_tie_2 rfl ha0 ?_
  refine z_iconst (pc := 3) (-1 : Int32) (by decide) C dX1_tie_3 ?_
  refine z_icmp_eq (pc := 4) 20 C dX1_tie_4 (by decide) ?_ ?_
  · refine z_iconst (pc := 20) (0 : Int32) (by decide) C dX1_tie_20 ?_
    refine z_istore_n (pc := 21) [(0, (.ref (qM k0))), (1, (.int x1)), (2, (.int x2)), (3, (.int (0 : Int32)))] [1, 2, 3, 0] (by decide) rfl rfl C dX1_tie_21 ?_
    show zJ X 4 res _ 22 [(0, (.ref (qM k0))), (1, (.int x1)), (2, (.int x2)), (3, (.int (0 : Int32)))] [] [(1, qM, sM)]
    exact zit_J (P := Int32) (B := (fun kc9 p9 => bX1_tie_22 F k0 x1 x2 sM kc9 p9)) (fun p9 => [(0, (.ref (qM k0))), (1, (.int x1)), (2, (.int x2)), (3, (.int p9))]) (fun p9 => [(1, qM, sM)]) (fun kc9 hk9 p9 => vX1_tie_22 C hR ha0  (fun a0 => hk9 a0) p9) F _
  · refine z_aload_n (pc := 7) 0 rfl rfl C dX1_tie_7 ?_
    refine z_iload_n (pc := 8) 1 rfl rfl C dX1_tie_8 ?_
    refine z_iald (pc := 9) 0 C dX1_tie_9 rfl ha0 ?_
    refine z_iload_n (pc := 10) 2 rfl rfl C dX1_tie_10 ?_
    refine z_icmp_ne (pc := 11) 18 C dX1_tie_11 (by decide) ?_ ?_
    · refine z_iconst (pc := 14) (1 : Int32) (by decide) C dX1_tie_14 ?_
      refine z_goto (pc := 15) 19 C dX1_tie_15 (by decide) ?_
      exact z_zreturn (pc := 19) C hR dX1_tie_19 (fun h => by subst h; exact ⟨rfl, rfl⟩)
    · refine z_iconst (pc := 18) (0 : Int32) (by decide) C dX1_tie_18 ?_
      exact z_zreturn (pc := 19) C hR dX1_tie_19 (fun h => by subst h; exact ⟨rfl, rfl⟩)
theorem mX1_tie {F : Nat} {qM : Nat → Nat} {k0 : Nat} {x1 : Int32} {x2 : Int32} {sM : zOS} {res : Int32 × zOS} (ha0 : zAr 1 k0 0 10) (hf : fX1_tie F k0 x1 x2 sM = some res) : zM yX1_tie cX1_tie 4 (some .boolean) 0 0 [(.ref (qM k0)), (.int x1), (.int x2)] [(1, qM, sM)] (some (.int res.1)) [(1, qM, res.2)] := zM_of (by decide +kernel) (Nat.le_of_ble_eq_true rfl) (fun X C hR => wX1_tie (F := F) C hR ha0 hf)
theorem dX1_isBeforeFirst_0 : decode cX1_isBeforeFirst 0 = .ok (.iconst 0, 1) := by decide +kernel
theorem dX1_isBeforeFirst_1 : decode cX1_isBeforeFirst 1 = .ok (.istore_n 2, 1) := by decide +kernel
theorem dX1_isBeforeFirst_2 : decode cX1_isBeforeFirst 2 = .ok (.iload_n 2, 1) := by decide +kernel
theorem dX1_isBeforeFirst_3 : decode cX1_isBeforeFirst 3 = .ok (.aload_n 0, 1) := by decide +kernel
theorem dX1_isBeforeFirst_4 : decode cX1_isBeforeFirst 4 = .ok (.getfield 12, 3) := by decide +kernel
theorem dX1_isBeforeFirst_7 : decode cX1_isBeforeFirst 7 = .ok (.getfield 79, 3) := by decide +kernel
theorem dX1_isBeforeFirst_10 : decode cX1_isBeforeFirst 10 = .ok (.if_icmp .ge 45, 3) := by decide +kernel
theorem dX1_isBeforeFirst_13 : decode cX1_isBeforeFirst 13 = .ok (.aload_n 0, 1) := by decide +kernel
theorem dX1_isBeforeFirst_14 : decode cX1_isBeforeFirst 14 = .ok (.getfield 29, 3) := by decide +kernel
theorem dX1_isBeforeFirst_17 : decode cX1_isBeforeFirst 17 = .ok (.iload_n 2, 1) := by decide +kernel
theorem dX1_isBeforeFirst_18 : decode cX1_isBeforeFirst 18 = .ok (.iaload, 1) := by decide +kernel
theorem dX1_isBeforeFirst_19 : decode cX1_isBeforeFirst 19 = .ok (.aload_n 0, 1) := by decide +kernel
theorem dX1_isBeforeFirst_20 : decode cX1_isBeforeFirst 20 = .ok (.getfield 41, 3) := by decide +kernel
theorem dX1_isBeforeFirst_23 : decode cX1_isBeforeFirst 23 = .ok (.iload_n 2, 1) := by decide +kernel
theorem dX1_isBeforeFirst_24 : decode cX1_isBeforeFirst 24 = .ok (.iaload, 1) := by decide +kernel
theorem dX1_isBeforeFirst_25 : decode cX1_isBeforeFirst 25 = .ok (.if_icmp .eq 24, 3) := by decide +kernel
theorem dX1_isBeforeFirst_28 : decode cX1_isBeforeFirst 28 = .ok (.aload_n 0, 1) := by decide +kernel
theorem dX1_isBeforeFirst_29 : decode cX1_isBeforeFirst 29 = .ok (.getfield 29, 3) := by decide +kernel
theorem dX1_isBeforeFirst_32 : decode cX1_isBeforeFirst 32 = .ok (.iload_n 2, 1) := by decide +kernel
theorem dX1_isBeforeFirst_33 : decode cX1_isBeforeFirst 33 = .ok (.iaload, 1) := by decide +kernel
theorem dX1_isBeforeFirst_34 : decode cX1_isBeforeFirst 34 = .ok (.aload_n 0, 1) := by decide +kernel
theorem dX1_isBeforeFirst_35 : decode cX1_isBeforeFirst 35 = .ok (.getfield 41, 3) := by decide +kernel
theorem dX1_isBeforeFirst_38 : decode cX1_isBeforeFirst 38 = .ok (.iload_n 2, 1) := by decide +kernel
theorem dX1_isBeforeFirst_39 : decode cX1_isBeforeFirst 39 = .ok (.iaload, 1) := by decide +kernel
theorem dX1_isBeforeFirst_40 : decode cX1_isBeforeFirst 40 = .ok (.if_icmp .ge 7, 3) := by decide +kernel
theorem dX1_isBeforeFirst_43 : decode cX1_isBeforeFirst 43 = .ok (.iconst 1, 1) := by decide +kernel
theorem dX1_isBeforeFirst_44 : decode cX1_isBeforeFirst 44 = .ok (.goto 4, 3) := by decide +kernel
theorem dX1_isBeforeFirst_47 : decode cX1_isBeforeFirst 47 = .ok (.iconst 0, 1) := by decide +kernel
theorem dX1_isBeforeFirst_48 : decode cX1_isBeforeFirst 48 = .ok (.ireturn, 1) := by decide +kernel
theorem dX1_isBeforeFirst_49 : decode cX1_isBeforeFirst 49 = .ok (.iinc 2 1, 3) := by decide +kernel
theorem dX1_isBeforeFirst_52 : decode cX1_isBeforeFirst 52 = .ok (.goto (-50), 3) := by decide +kernel
theorem dX1_isBeforeFirst_55 : decode cX1_isBeforeFirst 55 = .ok (.iconst 0, 1) := by decide +kernel
theorem dX1_isBeforeFirst_56 : decode cX1_isBeforeFirst 56 = .ok (.istore_n 2, 1) := by decide +kernel
theorem dX1_isBeforeFirst_57 : decode cX1_isBeforeFirst 57 = .ok (.iload_n 2, 1) := by decide +kernel
theorem dX1_isBeforeFirst_58 : decode cX1_isBeforeFirst 58 = .ok (.bipush 10, 2) := by decide +kernel
theorem dX1_isBeforeFirst_60 : decode cX1_isBeforeFirst 60 = .ok (.if_icmp .ge 39, 3) := by decide +kernel
theorem dX1_isBeforeFirst_63 : decode cX1_isBeforeFirst 63 = .ok (.aload_n 1, 1) := by decide +kernel
theorem dX1_isBeforeFirst_64 : decode cX1_isBeforeFirst 64 = .ok (.iload_n 2, 1) := by decide +kernel
theorem dX1_isBeforeFirst_65 : decode cX1_isBeforeFirst 65 = .ok (.iaload, 1) := by decide +kernel
theorem dX1_isBeforeFirst_66 : decode cX1_isBeforeFirst 66 = .ok (.aload_n 0, 1) := by decide +kernel
theorem dX1_isBeforeFirst_67 : decode cX1_isBeforeFirst 67 = .ok (.getfield 44, 3) := by decide +kernel
theorem dX1_isBeforeFirst_70 : decode cX1_isBeforeFirst 70 = .ok (.iload_n 2, 1) := by decide +kernel
theorem dX1_isBeforeFirst_71 : decode cX1_isBeforeFirst 71 = .ok (.iaload, 1) := by decide +kernel
theorem dX1_isBeforeFirst_72 : decode cX1_isBeforeFirst 72 = .ok (.if_icmp .eq 21, 3) := by decide +kernel
theorem dX1_isBeforeFirst_75 : decode cX1_isBeforeFirst 75 = .ok (.aload_n 1, 1) := by decide +kernel
theorem dX1_isBeforeFirst_76 : decode cX1_isBeforeFirst 76 = .ok (.iload_n 2, 1) := by decide +kernel
theorem dX1_isBeforeFirst_77 : decode cX1_isBeforeFirst 77 = .ok (.iaload, 1) := by decide +kernel
theorem dX1_isBeforeFirst_78 : decode cX1_isBeforeFirst 78 = .ok (.aload_n 0, 1) := by decide +kernel
theorem dX1_isBeforeFirst_79 : decode cX1_isBeforeFirst 79 = .ok (.getfield 44, 3) := by decide +kernel
theorem dX1_isBeforeFirst_82 : decode cX1_isBeforeFirst 82 = .ok (.iload_n 2, 1) := by decide +kernel
theorem dX1_isBeforeFirst_83 : decode cX1_isBeforeFirst 83 = .ok (.iaload, 1) := by decide +kernel
theorem dX1_isBeforeFirst_84 : decode cX1_isBeforeFirst 84 = .ok (.if_icmp .ge 7, 3) := by decide +kernel
theorem dX1_isBeforeFirst_87 : decode cX1_isBeforeFirst 87 = .ok (.iconst 1, 1) := by decide +kernel
theorem dX1_isBeforeFirst_88 : decode cX1_isBeforeFirst 88 = .ok (.goto 4, 3) := by decide +kernel
theorem dX1_isBeforeFirst_91 : decode cX1_isBeforeFirst 91 = .ok (.iconst 0, 1) := by decide +kernel
theorem dX1_isBeforeFirst_92 : decode cX1_isBeforeFirst 92 = .ok (.ireturn, 1) := by decide +kernel
theorem dX1_isBeforeFirst_93 : decode cX1_isBeforeFirst 93 = .ok (.iinc 2 1, 3) := by decide +kernel
theorem dX1_isBeforeFirst_96 : decode cX1_isBeforeFirst 96 = .ok (.goto (-39), 3) := by decide +kernel
theorem dX1_isBeforeFirst_99 : decode cX1_isBeforeFirst 99 = .ok (.iconst 0, 1) := by decide +kernel
theorem dX1_isBeforeFirst_100 : decode cX1_isBeforeFirst 100 = .ok (.ireturn, 1) := by decide +kernel
def bX1_isBeforeFirst_57 (F : Nat) (k1 : Nat) (sM : zOS) (kc_57 : Int32 → Option (Int32)) (x2 : Int32) : Option (Int32) := (if (10 : Int32) ≤ x2 then (zbk (0 : Int32) (some ((0 : Int32)))) else (zchk x2 10 (zchk x2 10 (if (zI sM k1 x2.toNatClampNeg) = (zI sM 5 x2.toNatClampNeg) then (kc_57 (x2 + 1)) else (zchk x2 10 (zchk x2 10 (if (zI sM 5 x2.toNatClampNeg) ≤ (zI sM k1 x2.toNatClampNeg) then (zbk (0 : Int32) (some ((0 : Int32)))) else (zbk (1 : Int32) (some ((1 : Int32)))))))))))
set_option maxRecDepth 20000 in
theorem vX1_isBeforeFirst_57 {X : zCx} {res : Int32} {F : Nat} {qM : Nat → Nat} {qP : Nat → Nat} {sM : zOS} {sP : zOS} {k1 : Nat} {kc_57 : Int32 → Option (Int32)} (C : zC X RX1 cX1_isBeforeFirst 3 0 0) (hR : zR X (some .boolean) (some (.int res)) [(1, qM, sM), (2, qP, sP)]) (hM50 : qM 50 = qP 0) (ha1 : zAr 1 k1 0 10) (hk_57 : ∀ (y2 : Int32), zJ X 3 res (kc_57 y2) 57 [(0, (.ref (qM 0))), (1, (.ref (qM k1))), (2, (.int y2))] [] [(1, qM, sM), (2, qP, sP)]) (x2 : Int32) : zJ X 3 res (bX1_isBeforeFirst_57 F k1 sM kc_57 x2) 57 [(0, (.ref (qM 0))), (1, (.ref (qM k1))), (2, (.int x2))] [] [(1, qM, sM), (2, qP, sP)] := by
  unfold bX1_isBeforeFirst_57
  refine z_iload_n (pc := 57) 2 rfl rfl C dX1_isBeforeFirst_57 ?_
  refine z_bipush (pc := 58) (10 : Int32) (by decide) C dX1_isBeforeFirst_58 ?_
  refine z_icmp_ge (pc := 60) 99 C dX1_isBeforeFirst_60 (by decide) ?_ ?_
  · refine z_iconst (pc := 99) (0 : Int32) (by decide) C dX1_isBeforeFirst_99 ?_
    exact z_zreturn (pc := 100) C hR dX1_isBeforeFirst_100 (fun h => by subst h; exact ⟨rfl, rfl⟩)
  · refine z_aload_n (pc := 63) 1 rfl rfl C dX1_isBeforeFirst_63 ?_
    refine z_iload_n (pc := 64) 2 rfl rfl C dX1_isBeforeFirst_64 ?_
    refine z_iald (pc := 65) 0 C dX1_isBeforeFirst_65 rfl ha1 ?_
    refine z_aload_n (pc := 66) 0 rfl rfl C dX1_isBeforeFirst_66 ?_
    refine z_getR (pc := 67) 0 7 5 C dX1_isBeforeFirst_67 rfl (by decide) (by decide) rfl zw_213 ?_
    refine z_iload_n (pc := 70) 2 rfl rfl C dX1_isBeforeFirst_70 ?_
    refine z_iald (pc := 71) 0 C dX1_isBeforeFirst_71 rfl (by unfold zAr; decide) ?_
    refine z_icmp_eq (pc := 72) 93 C dX1_isBeforeFirst_72 (by decide) ?_ ?_
    · refine z_iinc (pc := 93) (x2 + 1) 2 rfl rfl [(0, (.ref (qM 0))), (1, (.ref (qM k1))), (2, (.int (x2 + 1)))] [1, 2, 0] (by decide) rfl C dX1_isBeforeFirst_93 ?_
      refine z_goto (pc := 96) 57 C dX1_isBeforeFirst_96 (by decide) ?_
      exact hk_57 _
    · refine z_aload_n (pc := 75) 1 rfl rfl C dX1_isBeforeFirst_75 ?_
      refine z_iload_n (pc := 76) 2 rfl rfl C dX1_isBeforeFirst_76 ?_
      refine z_iald (pc := 77) 0 C dX1_isBeforeFirst_77 rfl ha1 ?_
      refine z_aload_n (pc := 78) 0 rfl rfl C dX1_isBeforeFirst_78 ?_
      refine z_getR (pc := 79) 0 7 5 C dX1_isBeforeFirst_79 rfl (by decide) (by decide) rfl zw_213 ?_
      refine z_iload_n (pc := 82) 2 rfl rfl C dX1_isBeforeFirst_82 ?_
      refine z_iald (pc := 83) 0 C dX1_isBeforeFirst_83 rfl (by unfold zAr; decide) ?_
      refine z_icmp_ge (pc := 84) 91 C dX1_isBeforeFirst_84 (by decide) ?_ ?_
      · refine z_iconst (pc := 91) (0 : Int32) (by decide) C dX1_isBeforeFirst_91 ?_
        exact z_zreturn (pc := 92) C hR dX1_isBeforeFirst_92 (fun h => by subst h; exact ⟨rfl, rfl⟩)
      · refine z_iconst (pc := 87) (1 : Int32) (by decide) C dX1_isBeforeFirst_87 ?_
        refine z_goto (pc := 88) 92 C dX1_isBeforeFirst_88 (by decide) ?_
        exact z_zreturn (pc := 92) C hR dX1_isBeforeFirst_92 (fun h => by subst h; exact ⟨rfl, rfl⟩)
def bX1_isBeforeFirst_2 (F : Nat) (k1 : Nat) (sM : zOS) (sP : zOS) (kc_2 : Int32 → Option (Int32)) (x2 : Int32) : Option (Int32) := (if (zF sP 3) ≤ x2 then (zit (P := Int32) (R := Int32) (fun kc9 p9 => bX1_isBeforeFirst_57 F k1 sM kc9 p9) F (0 : Int32)) else (zchk x2 6 (zchk x2 6 (if (zI sM 2 x2.toNatClampNeg) = (zI sM 4 x2.toNatClampNeg) then (kc_2 (x2 + 1)) else (zchk x2 6 (zchk x2 6 (if (zI sM 4 x2.toNatClampNeg) ≤ (zI sM 2 x2.toNatClampNeg) then (zbk (0 : Int32) (some ((0 : Int32)))) else (zbk (1 : Int32) (some ((1 : Int32)))))))))))
set_option maxRecDepth 20000 in
theorem vX1_isBeforeFirst_2 {X : zCx} {res : Int32} {F : Nat} {qM : Nat → Nat} {qP : Nat → Nat} {sM : zOS} {sP : zOS} {k1 : Nat} {kc_2 : Int32 → Option (Int32)} (C : zC X RX1 cX1_isBeforeFirst 3 0 0) (hR : zR X (some .boolean) (some (.int res)) [(1, qM, sM), (2, qP, sP)]) (hM50 : qM 50 = qP 0) (ha1 : zAr 1 k1 0 10) (hk_2 : ∀ (y2 : Int32), zJ X 3 res (kc_2 y2) 2 [(0, (.ref (qM 0))), (1, (.ref (qM k1))), (2, (.int y2))] [] [(1, qM, sM), (2, qP, sP)]) (x2 : Int32) : zJ X 3 res (bX1_isBeforeFirst_2 F k1 sM sP kc_2 x2) 2 [(0, (.ref (qM 0))), (1, (.ref (qM k1))), (2, (.int x2))] [] [(1, qM, sM), (2, qP, sP)] := by
  unfold bX1_isBeforeFirst_2
  refine z_iload_n (pc := 2) 2 rfl rfl C dX1_isBeforeFirst_2 ?_
  refine z_aload_n (pc := 3) 0 rfl rfl C dX1_isBeforeFirst_3 ?_
  refine z_getE (pc := 4) 0 0 50 (qP 0) hM50 C dX1_isBeforeFirst_4 rfl (by decide) (by decide) rfl zw_203 ?_
  refine z_getI (pc := 7) 1 3 C dX1_isBeforeFirst_7 rfl (by decide) (by decide) rfl zw_116 ?_
  refine z_icmp_ge (pc := 10) 55 C dX1_isBeforeFirst_10 (by decide) ?_ ?_
  · refine z_iconst (pc := 55) (0 : Int32) (by decide) C dX1_isBeforeFirst_55 ?_
    refine z_istore_n (pc := 56) [(0, (.ref (qM 0))), (1, (.ref (qM k1))), (2, (.int (0 : Int32)))] [1, 2, 0] (by decide) rfl rfl C dX1_isBeforeFirst_56 ?_
    show zJ X 3 res _ 57 [(0, (.ref (qM 0))), (1, (.ref (qM k1))), (2, (.int (0 : Int32)))] [] [(1, qM, sM), (2, qP, sP)]
    exact zit_J (P := Int32) (B := (fun kc9 p9 => bX1_isBeforeFirst_57 F k1 sM kc9 p9)) (fun p9 => [(0, (.ref (qM 0))), (1, (.ref (qM k1))), (2, (.int p9))]) (fun p9 => [(1, qM, sM), (2, qP, sP)]) (fun kc9 hk9 p9 => vX1_isBeforeFirst_57 C hR hM50 ha1  (fun a0 => hk9 a0) p9) F _
  · refine z_aload_n (pc := 13) 0 rfl rfl C dX1_isBeforeFirst_13 ?_
    refine z_getR (pc := 14) 0 3 2 C dX1_isBeforeFirst_14 rfl (by decide) (by decide) rfl zw_208 ?_
    refine z_iload_n (pc := 17) 2 rfl rfl C dX1_isBeforeFirst_17 ?_
    refine z_iald (pc := 18) 0 C dX1_isBeforeFirst_18 rfl (by unfold zAr; decide) ?_
    refine z_aload_n (pc := 19) 0 rfl rfl C dX1_isBeforeFirst_19 ?_
    refine z_getR (pc := 20) 0 6 4 C dX1_isBeforeFirst_20 rfl (by decide) (by decide) rfl zw_211 ?_
    refine z_iload_n (pc := 23) 2 rfl rfl C dX1_isBeforeFirst_23 ?_
    refine z_iald (pc := 24) 0 C dX1_isBeforeFirst_24 rfl (by unfold zAr; decide) ?_
    refine z_icmp_eq (pc := 25) 49 C dX1_isBeforeFirst_25 (by decide) ?_ ?_
    · refine z_iinc (pc := 49) (x2 + 1) 2 rfl rfl [(0, (.ref (qM 0))), (1, (.ref (qM k1))), (2, (.int (x2 + 1)))] [1, 2, 0] (by decide) rfl C dX1_isBeforeFirst_49 ?_
      refine z_goto (pc := 52) 2 C dX1_isBeforeFirst_52 (by decide) ?_
      exact hk_2 _
    · refine z_aload_n (pc := 28) 0 rfl rfl C dX1_isBeforeFirst_28 ?_
      refine z_getR (pc := 29) 0 3 2 C dX1_isBeforeFirst_29 rfl (by decide) (by decide) rfl zw_208 ?_
      refine z_iload_n (pc := 32) 2 rfl rfl C dX1_isBeforeFirst_32 ?_
      refine z_iald (pc := 33) 0 C dX1_isBeforeFirst_33 rfl (by unfold zAr; decide) ?_
      refine z_aload_n (pc := 34) 0 rfl rfl C dX1_isBeforeFirst_34 ?_
      refine z_getR (pc := 35) 0 6 4 C dX1_isBeforeFirst_35 rfl (by decide) (by decide) rfl zw_211 ?_
      refine z_iload_n (pc := 38) 2 rfl rfl C dX1_isBeforeFirst_38 ?_
      refine z_iald (pc := 39) 0 C dX1_isBeforeFirst_39 rfl (by unfold zAr; decide) ?_
      refine z_icmp_ge (pc := 40) 47 C dX1_isBeforeFirst_40 (by decide) ?_ ?_
      · refine z_iconst (pc := 47) (0 : Int32) (by decide) C dX1_isBeforeFirst_47 ?_
        exact z_zreturn (pc := 48) C hR dX1_isBeforeFirst_48 (fun h => by subst h; exact ⟨rfl, rfl⟩)
      · refine z_iconst (pc := 43) (1 : Int32) (by decide) C dX1_isBeforeFirst_43 ?_
        refine z_goto (pc := 44) 48 C dX1_isBeforeFirst_44 (by decide) ?_
        exact z_zreturn (pc := 48) C hR dX1_isBeforeFirst_48 (fun h => by subst h; exact ⟨rfl, rfl⟩)
def fX1_isBeforeFirst (F : Nat) (k1 : Nat) (sM : zOS) (sP : zOS) : Option (Int32) := (zit (P := Int32) (R := Int32) (fun kc9 p9 => bX1_isBeforeFirst_2 F k1 sM sP kc9 p9) F (0 : Int32))
set_option maxRecDepth 20000 in
theorem wX1_isBeforeFirst {X : zCx} {res : Int32} {F : Nat} {qM : Nat → Nat} {qP : Nat → Nat} {k1 : Nat} {sM : zOS} {sP : zOS} (C : zC X RX1 cX1_isBeforeFirst 3 0 0) (hR : zR X (some .boolean) (some (.int res)) [(1, qM, sM), (2, qP, sP)]) (hM50 : qM 50 = qP 0) (ha1 : zAr 1 k1 0 10) : zJ X 3 res (fX1_isBeforeFirst F k1 sM sP) 0 [(0, (.ref (qM 0))), (1, (.ref (qM k1)))] [] [(1, qM, sM), (2, qP, sP)] := by
  unfold fX1_isBeforeFirst
  refine z_iconst (pc := 0) (0 : Int32) (by decide) C dX1_isBeforeFirst_0 ?_
  refine z_istore_n (pc := 1) [(0, (.ref (qM 0))), (1, (.ref (qM k1))), (2, (.int (0 : Int32)))] [1, 2, 0] (by decide) rfl rfl C dX1_isBeforeFirst_1 ?_
  show zJ X 3 res _ 2 [(0, (.ref (qM 0))), (1, (.ref (qM k1))), (2, (.int (0 : Int32)))] [] [(1, qM, sM), (2, qP, sP)]
  exact zit_J (P := Int32) (B := (fun kc9 p9 => bX1_isBeforeFirst_2 F k1 sM sP kc9 p9)) (fun p9 => [(0, (.ref (qM 0))), (1, (.ref (qM k1))), (2, (.int p9))]) (fun p9 => [(1, qM, sM), (2, qP, sP)]) (fun kc9 hk9 p9 => vX1_isBeforeFirst_2 C hR hM50 ha1  (fun a0 => hk9 a0) p9) F _
theorem mX1_isBeforeFirst {F : Nat} {qM : Nat → Nat} {qP : Nat → Nat} {k1 : Nat} {sM : zOS} {sP : zOS} {res : Int32} (hM50 : qM 50 = qP 0) (ha1 : zAr 1 k1 0 10) (hf : fX1_isBeforeFirst F k1 sM sP = some res) : zM yX1_isBeforeFirst cX1_isBeforeFirst 3 (some .boolean) 0 0 [(.ref (qM 0)), (.ref (qM k1))] [(1, qM, sM), (2, qP, sP)] (some (.int res)) [(1, qM, sM), (2, qP, sP)] := zM_of (by decide +kernel) (Nat.le_of_ble_eq_true rfl) (fun X C hR => wX1_isBeforeFirst (F := F) C hR hM50 ha1 hf)
theorem dX1_record_0 : decode cX1_record 0 = .ok (.aload_n 0, 1) := by decide +kernel
theorem dX1_record_1 : decode cX1_record 1 = .ok (.getfield 47, 3) := by decide +kernel
theorem dX1_record_4 : decode cX1_record 4 = .ok (.ifCond .eq 11, 3) := by decide +kernel
theorem dX1_record_7 : decode cX1_record 7 = .ok (.aload_n 0, 1) := by decide +kernel
theorem dX1_record_8 : decode cX1_record 8 = .ok (.aload_n 1, 1) := by decide +kernel
theorem dX1_record_9 : decode cX1_record 9 = .ok (.invokevirtual 147, 3) := by decide +kernel
theorem dX1_record_12 : decode cX1_record 12 = .ok (.ifCond .eq 30, 3) := by decide +kernel
theorem dX1_record_15 : decode cX1_record 15 = .ok (.aload_n 0, 1) := by decide +kernel
theorem dX1_record_16 : decode cX1_record 16 = .ok (.getfield 29, 3) := by decide +kernel
theorem dX1_record_19 : decode cX1_record 19 = .ok (.iconst 0, 1) := by decide +kernel
theorem dX1_record_20 : decode cX1_record 20 = .ok (.aload_n 0, 1) := by decide +kernel
theorem dX1_record_21 : decode cX1_record 21 = .ok (.getfield 41, 3) := by decide +kernel
theorem dX1_record_24 : decode cX1_record 24 = .ok (.iconst 0, 1) := by decide +kernel
theorem dX1_record_25 : decode cX1_record 25 = .ok (.bipush 6, 2) := by decide +kernel
theorem dX1_record_27 : decode cX1_record 27 = .ok (.invokestatic 133, 3) := by decide +kernel
theorem dX1_record_30 : decode cX1_record 30 = .ok (.aload_n 1, 1) := by decide +kernel
theorem dX1_record_31 : decode cX1_record 31 = .ok (.iconst 0, 1) := by decide +kernel
theorem dX1_record_32 : decode cX1_record 32 = .ok (.aload_n 0, 1) := by decide +kernel
theorem dX1_record_33 : decode cX1_record 33 = .ok (.getfield 44, 3) := by decide +kernel
theorem dX1_record_36 : decode cX1_record 36 = .ok (.iconst 0, 1) := by decide +kernel
theorem dX1_record_37 : decode cX1_record 37 = .ok (.bipush 10, 2) := by decide +kernel
theorem dX1_record_39 : decode cX1_record 39 = .ok (.invokestatic 133, 3) := by decide +kernel
theorem dX1_record_42 : decode cX1_record 42 = .ok (.aload_n 0, 1) := by decide +kernel
theorem dX1_record_43 : decode cX1_record 43 = .ok (.aload_n 0, 1) := by decide +kernel
theorem dX1_record_44 : decode cX1_record 44 = .ok (.getfield 47, 3) := by decide +kernel
theorem dX1_record_47 : decode cX1_record 47 = .ok (.iconst 1, 1) := by decide +kernel
theorem dX1_record_48 : decode cX1_record 48 = .ok (.iadd, 1) := by decide +kernel
theorem dX1_record_49 : decode cX1_record 49 = .ok (.sipush 9999, 3) := by decide +kernel
theorem dX1_record_52 : decode cX1_record 52 = .ok (.invokestatic 150, 3) := by decide +kernel
theorem dX1_record_55 : decode cX1_record 55 = .ok (.putfield 47, 3) := by decide +kernel
theorem dX1_record_58 : decode cX1_record 58 = .ok (.return_, 1) := by decide +kernel
def jX1_record_42 (F : Nat) (sM : zOS) : Option (zOS) := (zlet (zsF sM 8 (if (9999 : Int32) < ((zF sM 8) + (1 : Int32)) then (9999 : Int32) else ((zF sM 8) + (1 : Int32)))) (fun sM_3 : zOS => (some (sM_3))))
set_option maxRecDepth 20000 in
theorem wX1_record_42 {X : zCx} {res : zOS} {F : Nat} {qM : Nat → Nat} {qP : Nat → Nat} {sP : zOS} (C : zC X RX1 cX1_record 2 1 26) (hR : zR X none none [(1, qM, res), (2, qP, sP)]) (hM50 : qM 50 = qP 0) (sM : zOS) : zJ X 2 res (jX1_record_42 F sM) 42 [(0, (.ref (qM 0)))] [] [(1, qM, sM), (2, qP, sP)] := by
  unfold jX1_record_42
  refine z_aload_n (pc := 42) 0 rfl rfl C dX1_record_42 ?_
  refine z_aload_n (pc := 43) 0 rfl rfl C dX1_record_43 ?_
  refine z_getI (pc := 44) 0 8 C dX1_record_44 rfl (by decide) (by decide) rfl zw_215 ?_
  refine z_iconst (pc := 47) (1 : Int32) (by decide) C dX1_record_47 ?_
  refine z_iadd (pc := 48) C dX1_record_48 ?_
  refine z_sipush (pc := 49) (9999 : Int32) (by decide) C dX1_record_49 ?_
  refine z_min (pc := 52) C dX1_record_52 zw_577 zw_442 zw_86 zw_443 (by decide) (Nat.le_of_ble_eq_true rfl) ?_
  refine z_putI (pc := 55) 0 8 C dX1_record_55 rfl (by decide) (by decide) rfl zw_215 rfl rfl rfl [(1, qM, (zsF sM 8 (if (9999 : Int32) < ((zF sM 8) + (1 : Int32)) then (9999 : Int32) else ((zF sM 8) + (1 : Int32))))), (2, qP, sP)] rfl ?_
  refine z_letc (fun z9 => [(1, qM, z9), (2, qP, sP)]) (fun sM_3 => ?_)
  exact z_return (pc := 58) C hR dX1_record_58 (fun h => by subst h; exact ⟨rfl, rfl⟩)
def jX1_record_15 (F : Nat) (k1 : Nat) (sM : zOS) : Option (zOS) := (zlet (zsI sM 4 (va_cpy (zI sM 2) (zI sM 4) (0 : Int32).toNatClampNeg (0 : Int32).toNatClampNeg (6 : Int32).toNatClampNeg)) (fun sM_1 : zOS => (zlet (zsI sM_1 5 (va_cpy (zI sM_1 k1) (zI sM_1 5) (0 : Int32).toNatClampNeg (0 : Int32).toNatClampNeg (10 : Int32).toNatClampNeg)) (fun sM_2 : zOS => (jX1_record_42 F sM_2)))))
set_option maxRecDepth 20000 in
theorem wX1_record_15 {X : zCx} {res : zOS} {F : Nat} {qM : Nat → Nat} {qP : Nat → Nat} {sP : zOS} {k1 : Nat} (C : zC X RX1 cX1_record 2 1 26) (hR : zR X none none [(1, qM, res), (2, qP, sP)]) (hM50 : qM 50 = qP 0) (ha1 : zAr 1 k1 0 10) (sM : zOS) : zJ X 2 res (jX1_record_15 F k1 sM) 15 [(0, (.ref (qM 0))), (1, (.ref (qM k1)))] [] [(1, qM, sM), (2, qP, sP)] := by
  unfold jX1_record_15
  refine z_aload_n (pc := 15) 0 rfl rfl C dX1_record_15 ?_
  refine z_getR (pc := 16) 0 3 2 C dX1_record_16 rfl (by decide) (by decide) rfl zw_208 ?_
  refine z_iconst (pc := 19) (0 : Int32) (by decide) C dX1_record_19 ?_
  refine z_aload_n (pc := 20) 0 rfl rfl C dX1_record_20 ?_
  refine z_getR (pc := 21) 0 6 4 C dX1_record_21 rfl (by decide) (by decide) rfl zw_211 ?_
  refine z_iconst (pc := 24) (0 : Int32) (by decide) C dX1_record_24 ?_
  refine z_bipush (pc := 25) (6 : Int32) (by decide) C dX1_record_25 ?_
  refine z_copyi (n0 := 6) (n1 := 6) (pc := 27) 0 0 C dX1_record_27 zw_576 zw_299 zw_298 zw_83 rfl rfl (by unfold zAr; decide) (by unfold zAr; decide) (by decide) (by decide) (by decide) (by decide) (by decide) (by decide) (Nat.le_of_ble_eq_true rfl) [(1, qM, (zsI sM 4 (va_cpy (zI sM 2) (zI sM 4) (0 : Int32).toNatClampNeg (0 : Int32).toNatClampNeg (6 : Int32).toNatClampNeg))), (2, qP, sP)] rfl ?_
  refine z_letc (fun z9 => [(1, qM, z9), (2, qP, sP)]) (fun sM_1 => ?_)
  refine z_aload_n (pc := 30) 1 rfl rfl C dX1_record_30 ?_
  refine z_iconst (pc := 31) (0 : Int32) (by decide) C dX1_record_31 ?_
  refine z_aload_n (pc := 32) 0 rfl rfl C dX1_record_32 ?_
  refine z_getR (pc := 33) 0 7 5 C dX1_record_33 rfl (by decide) (by decide) rfl zw_213 ?_
  refine z_iconst (pc := 36) (0 : Int32) (by decide) C dX1_record_36 ?_
  refine z_bipush (pc := 37) (10 : Int32) (by decide) C dX1_record_37 ?_
  refine z_copyi (n0 := 10) (n1 := 10) (pc := 39) 0 0 C dX1_record_39 zw_576 zw_299 zw_298 zw_83 rfl rfl ha1 (by unfold zAr; decide) (by decide) (by decide) (by decide) (by decide) (by decide) (by decide) (Nat.le_of_ble_eq_true rfl) [(1, qM, (zsI sM_1 5 (va_cpy (zI sM_1 k1) (zI sM_1 5) (0 : Int32).toNatClampNeg (0 : Int32).toNatClampNeg (10 : Int32).toNatClampNeg))), (2, qP, sP)] rfl ?_
  refine z_letc (fun z9 => [(1, qM, z9), (2, qP, sP)]) (fun sM_2 => ?_)
  refine z_lv [(0, (.ref (qM 0)))] [0] rfl ?_
  exact wX1_record_42 C hR hM50  _
def fX1_record (F : Nat) (k1 : Nat) (sM : zOS) (sP : zOS) : Option (zOS) := (if (zF sM 8) = 0 then (jX1_record_15 F k1 sM) else (Option.bind (fX1_isBeforeFirst F k1 sM sP) (fun r_4 : Int32 => (if r_4 = 0 then (jX1_record_42 F sM) else (jX1_record_15 F k1 sM)))))
set_option maxRecDepth 20000 in
theorem wX1_record {X : zCx} {res : zOS} {F : Nat} {qM : Nat → Nat} {qP : Nat → Nat} {k1 : Nat} {sM : zOS} {sP : zOS} (C : zC X RX1 cX1_record 2 1 26) (hR : zR X none none [(1, qM, res), (2, qP, sP)]) (hM50 : qM 50 = qP 0) (ha1 : zAr 1 k1 0 10) : zJ X 2 res (fX1_record F k1 sM sP) 0 [(0, (.ref (qM 0))), (1, (.ref (qM k1)))] [] [(1, qM, sM), (2, qP, sP)] := by
  unfold fX1_record
  refine z_aload_n (pc := 0) 0 rfl rfl C dX1_record_0 ?_
  refine z_getI (pc := 1) 0 8 C dX1_record_1 rfl (by decide) (by decide) rfl zw_215 ?_
  refine z_if_eq (pc := 4) 15 C dX1_record_4 (by decide) ?_ ?_
  · exact wX1_record_15 C hR hM50 ha1  _
  · refine z_aload_n (pc := 7) 0 rfl rfl C dX1_record_7 ?_
    refine z_aload_n (pc := 8) 1 rfl rfl C dX1_record_8 ?_
    refine z_callV (pc := 9) (rf' := 0) (rl' := 0) (fX1_isBeforeFirst F k1 sM sP) [(.ref (qM k1))] [] [(1, qM, sM), (2, qP, sP)] (fun r_4 => (some (.int r_4))) (fun r_4 => [(1, qM, sM), (2, qP, sP)]) [] (fun r_4 => [(1, qM, sM), (2, qP, sP)]) C dX1_record_9 zy_X1_isBeforeFirst zw_572 (fun _ hr9 => mX1_isBeforeFirst hM50 ha1 hr9) (by decide) rfl rfl (by decide) rfl (Nat.le_of_ble_eq_true rfl) (List.Perm.refl _) (fun _ => List.Perm.refl _) rfl (fun r_4 hr_5 => ?_)
    show zJ X 2 res _ 12 [(0, (.ref (qM 0))), (1, (.ref (qM k1)))] [(.int r_4)] [(1, qM, sM), (2, qP, sP)]
    refine z_if_eq (pc := 12) 42 C dX1_record_12 (by decide) ?_ ?_
    · refine z_lv [(0, (.ref (qM 0)))] [0] rfl ?_
      exact wX1_record_42 C hR hM50  _
    · exact wX1_record_15 C hR hM50 ha1  _
theorem mX1_record {F : Nat} {qM : Nat → Nat} {qP : Nat → Nat} {k1 : Nat} {sM : zOS} {sP : zOS} {res : zOS} (hM50 : qM 50 = qP 0) (ha1 : zAr 1 k1 0 10) (hf : fX1_record F k1 sM sP = some res) : zM yX1_record cX1_record 2 none 1 26 [(.ref (qM 0)), (.ref (qM k1))] [(1, qM, sM), (2, qP, sP)] none [(1, qM, res), (2, qP, sP)] := zM_of (by decide +kernel) (Nat.le_of_ble_eq_true rfl) (fun X C hR => wX1_record (F := F) C hR hM50 ha1 hf)
theorem dX1_tieSides_0 : decode cX1_tieSides 0 = .ok (.aload_n 0, 1) := by decide +kernel
theorem dX1_tieSides_1 : decode cX1_tieSides 1 = .ok (.getfield 12, 3) := by decide +kernel
theorem dX1_tieSides_4 : decode cX1_tieSides 4 = .ok (.getfield 79, 3) := by decide +kernel
theorem dX1_tieSides_7 : decode cX1_tieSides 7 = .ok (.iload_n 1, 1) := by decide +kernel
theorem dX1_tieSides_8 : decode cX1_tieSides 8 = .ok (.iadd, 1) := by decide +kernel
theorem dX1_tieSides_9 : decode cX1_tieSides 9 = .ok (.istore 4, 2) := by decide +kernel
theorem dX1_tieSides_11 : decode cX1_tieSides 11 = .ok (.aload_n 0, 1) := by decide +kernel
theorem dX1_tieSides_12 : decode cX1_tieSides 12 = .ok (.getfield 34, 3) := by decide +kernel
theorem dX1_tieSides_15 : decode cX1_tieSides 15 = .ok (.iload 4, 2) := by decide +kernel
theorem dX1_tieSides_17 : decode cX1_tieSides 17 = .ok (.iconst 1, 1) := by decide +kernel
theorem dX1_tieSides_18 : decode cX1_tieSides 18 = .ok (.iadd, 1) := by decide +kernel
theorem dX1_tieSides_19 : decode cX1_tieSides 19 = .ok (.aaload, 1) := by decide +kernel
theorem dX1_tieSides_20 : decode cX1_tieSides 20 = .ok (.astore 5, 2) := by decide +kernel
theorem dX1_tieSides_22 : decode cX1_tieSides 22 = .ok (.aload_n 0, 1) := by decide +kernel
theorem dX1_tieSides_23 : decode cX1_tieSides 23 = .ok (.getfield 34, 3) := by decide +kernel
theorem dX1_tieSides_26 : decode cX1_tieSides 26 = .ok (.iload 4, 2) := by decide +kernel
theorem dX1_tieSides_28 : decode cX1_tieSides 28 = .ok (.aaload, 1) := by decide +kernel
theorem dX1_tieSides_29 : decode cX1_tieSides 29 = .ok (.iconst 0, 1) := by decide +kernel
theorem dX1_tieSides_30 : decode cX1_tieSides 30 = .ok (.aload 5, 2) := by decide +kernel
theorem dX1_tieSides_32 : decode cX1_tieSides 32 = .ok (.iconst 0, 1) := by decide +kernel
theorem dX1_tieSides_33 : decode cX1_tieSides 33 = .ok (.bipush 10, 2) := by decide +kernel
theorem dX1_tieSides_35 : decode cX1_tieSides 35 = .ok (.invokestatic 133, 3) := by decide +kernel
theorem dX1_tieSides_38 : decode cX1_tieSides 38 = .ok (.aload 5, 2) := by decide +kernel
theorem dX1_tieSides_40 : decode cX1_tieSides 40 = .ok (.aload_n 0, 1) := by decide +kernel
theorem dX1_tieSides_41 : decode cX1_tieSides 41 = .ok (.getfield 12, 3) := by decide +kernel
theorem dX1_tieSides_44 : decode cX1_tieSides 44 = .ok (.iload_n 1, 1) := by decide +kernel
theorem dX1_tieSides_45 : decode cX1_tieSides 45 = .ok (.invokevirtual 104, 3) := by decide +kernel
theorem dX1_tieSides_48 : decode cX1_tieSides 48 = .ok (.iload_n 2, 1) := by decide +kernel
theorem dX1_tieSides_49 : decode cX1_tieSides 49 = .ok (.invokestatic 126, 3) := by decide +kernel
theorem dX1_tieSides_52 : decode cX1_tieSides 52 = .ok (.ifCond .eq 24, 3) := by decide +kernel
theorem dX1_tieSides_55 : decode cX1_tieSides 55 = .ok (.aload 5, 2) := by decide +kernel
theorem dX1_tieSides_57 : decode cX1_tieSides 57 = .ok (.aload_n 0, 1) := by decide +kernel
theorem dX1_tieSides_58 : decode cX1_tieSides 58 = .ok (.getfield 12, 3) := by decide +kernel
theorem dX1_tieSides_61 : decode cX1_tieSides 61 = .ok (.iload_n 1, 1) := by decide +kernel
theorem dX1_tieSides_62 : decode cX1_tieSides 62 = .ok (.invokevirtual 107, 3) := by decide +kernel
theorem dX1_tieSides_65 : decode cX1_tieSides 65 = .ok (.iload_n 3, 1) := by decide +kernel
theorem dX1_tieSides_66 : decode cX1_tieSides 66 = .ok (.invokestatic 126, 3) := by decide +kernel
theorem dX1_tieSides_69 : decode cX1_tieSides 69 = .ok (.ifCond .eq 7, 3) := by decide +kernel
theorem dX1_tieSides_72 : decode cX1_tieSides 72 = .ok (.iconst 1, 1) := by decide +kernel
theorem dX1_tieSides_73 : decode cX1_tieSides 73 = .ok (.goto 4, 3) := by decide +kernel
theorem dX1_tieSides_76 : decode cX1_tieSides 76 = .ok (.iconst 0, 1) := by decide +kernel
theorem dX1_tieSides_77 : decode cX1_tieSides 77 = .ok (.ireturn, 1) := by decide +kernel
def fX1_tieSides (F : Nat) (x1 : Int32) (x2 : Int32) (x3 : Int32) (sM : zOS) (sP : zOS) : Option (Int32 × zOS) := (zlet ((zF sP 3) + x1) (fun x4_1 : Int32 => (zchk (x4_1 + (1 : Int32)) 13 (zchk x4_1 13 (zlet (zsI sM (zbs 1 + (x4_1 + (1 : Int32)).toNatClampNeg) (va_cpy (zI sM (zbs 1 + x4_1.toNatClampNeg)) (zI sM (zbs 1 + (x4_1 + (1 : Int32)).toNatClampNeg)) (0 : Int32).toNatClampNeg (0 : Int32).toNatClampNeg (10 : Int32).toNatClampNeg)) (fun sM_4 : zOS => (Option.bind (fX2_sideA x1 sP) (fun r_5 : Int32 => (Option.bind (fX1_tie F (zbs 1 + (x4_1 + (1 : Int32)).toNatClampNeg) r_5 x2 sM_4) (fun r_7 : Int32 × zOS => (if r_7.1 = 0 then (zbk (0 : Int32) (some ((0 : Int32), r_7.2))) else (Option.bind (fX2_sideB x1 sP) (fun r_9 : Int32 => (Option.bind (fX1_tie F (zbs 1 + (x4_1 + (1 : Int32)).toNatClampNeg) r_9 x3 r_7.2) (fun r_11 : Int32 × zOS => (if r_11.1 = 0 then (zbk (0 : Int32) (some ((0 : Int32), r_11.2))) else (zbk (1 : Int32) (some ((1 : Int32), r_11.2)))))))))))))))))))
set_option maxRecDepth 20000 in
theorem wX1_tieSides {X : zCx} {res : Int32 × zOS} {F : Nat} {qM : Nat → Nat} {qP : Nat → Nat} {x1 : Int32} {x2 : Int32} {x3 : Int32} {sM : zOS} {sP : zOS} (C : zC X RX1 cX1_tieSides 6 1 26) (hR : zR X (some .boolean) (some (.int res.1)) [(1, qM, res.2), (2, qP, sP)]) (hM50 : qM 50 = qP 0) : zJ X 6 res (fX1_tieSides F x1 x2 x3 sM sP) 0 [(0, (.ref (qM 0))), (1, (.int x1)), (2, (.int x2)), (3, (.int x3))] [] [(1, qM, sM), (2, qP, sP)] := by
  unfold fX1_tieSides
  refine z_aload_n (pc := 0) 0 rfl rfl C dX1_tieSides_0 ?_
  refine z_getE (pc := 1) 0 0 50 (qP 0) hM50 C dX1_tieSides_1 rfl (by decide) (by decide) rfl zw_203 ?_
  refine z_getI (pc := 4) 1 3 C dX1_tieSides_4 rfl (by decide) (by decide) rfl zw_116 ?_
  refine z_iload_n (pc := 7) 1 rfl rfl C dX1_tieSides_7 ?_
  refine z_iadd (pc := 8) C dX1_tieSides_8 ?_
  refine z_leti (fun x4_1 => ?_)
  refine z_istore (pc := 9) [(0, (.ref (qM 0))), (1, (.int x1)), (2, (.int x2)), (3, (.int x3)), (4, (.int x4_1))] [1, 2, 3, 4, 0] (by decide) rfl C dX1_tieSides_9 ?_
  refine z_aload_n (pc := 11) 0 rfl rfl C dX1_tieSides_11 ?_
  refine z_getR (pc := 12) 0 4 3 C dX1_tieSides_12 rfl (by decide) (by decide) rfl zw_209 ?_
  refine z_iload (pc := 15) 4 rfl C dX1_tieSides_15 ?_
  refine z_iconst (pc := 17) (1 : Int32) (by decide) C dX1_tieSides_17 ?_
  refine z_iadd (pc := 18) C dX1_tieSides_18 ?_
  refine z_aal (kd := 3) (pc := 19) 0 C dX1_tieSides_19 rfl (by unfold zAr; decide) (by decide) (fun hi_2 => ?_)
  refine z_astore (pc := 20) [(0, (.ref (qM 0))), (1, (.int x1)), (2, (.int x2)), (3, (.int x3)), (4, (.int x4_1)), (5, (.ref (qM (zbs 1 + (x4_1 + (1 : Int32)).toNatClampNeg))))] [1, 2, 3, 4, 5, 0] (by decide) rfl C dX1_tieSides_20 ?_
  refine z_aload_n (pc := 22) 0 rfl rfl C dX1_tieSides_22 ?_
  refine z_getR (pc := 23) 0 4 3 C dX1_tieSides_23 rfl (by decide) (by decide) rfl zw_209 ?_
  refine z_iload (pc := 26) 4 rfl C dX1_tieSides_26 ?_
  refine z_aal (kd := 3) (pc := 28) 0 C dX1_tieSides_28 rfl (by unfold zAr; decide) (by decide) (fun hi_3 => ?_)
  refine z_iconst (pc := 29) (0 : Int32) (by decide) C dX1_tieSides_29 ?_
  refine z_aload (pc := 30) 5 rfl C dX1_tieSides_30 ?_
  refine z_iconst (pc := 32) (0 : Int32) (by decide) C dX1_tieSides_32 ?_
  refine z_bipush (pc := 33) (10 : Int32) (by decide) C dX1_tieSides_33 ?_
  refine z_copyi (n0 := 10) (n1 := 10) (pc := 35) 0 0 C dX1_tieSides_35 zw_576 zw_299 zw_298 zw_83 rfl rfl (zAr_n hi_3) (zAr_n hi_2) (by decide) (by decide) (by decide) (by decide) (by decide) (by decide) (Nat.le_of_ble_eq_true rfl) [(1, qM, (zsI sM (zbs 1 + (x4_1 + (1 : Int32)).toNatClampNeg) (va_cpy (zI sM (zbs 1 + x4_1.toNatClampNeg)) (zI sM (zbs 1 + (x4_1 + (1 : Int32)).toNatClampNeg)) (0 : Int32).toNatClampNeg (0 : Int32).toNatClampNeg (10 : Int32).toNatClampNeg))), (2, qP, sP)] rfl ?_
  refine z_letc (fun z9 => [(1, qM, z9), (2, qP, sP)]) (fun sM_4 => ?_)
  refine z_aload (pc := 38) 5 rfl C dX1_tieSides_38 ?_
  refine z_aload_n (pc := 40) 0 rfl rfl C dX1_tieSides_40 ?_
  refine z_getE (pc := 41) 0 0 50 (qP 0) hM50 C dX1_tieSides_41 rfl (by decide) (by decide) rfl zw_203 ?_
  refine z_iload_n (pc := 44) 1 rfl rfl C dX1_tieSides_44 ?_
  refine z_callV (pc := 45) (rf' := 0) (rl' := 0) (fX2_sideA x1 sP) [(.int x1)] [(.ref (qM (zbs 1 + (x4_1 + (1 : Int32)).toNatClampNeg)))] [(2, qP, sP)] (fun r_5 => (some (.int r_5))) (fun r_5 => [(2, qP, sP)]) [(1, qM, sM_4)] (fun r_5 => [(1, qM, sM_4), (2, qP, sP)]) C dX1_tieSides_45 zy_X2_sideA zw_546 (fun _ hr9 => mX2_sideA  hr9) (by decide) rfl rfl (by decide) rfl (Nat.le_of_ble_eq_true rfl) (z_pn 2 _ rfl [1, 0] (by decide)).symm (fun _ => (z_pn 2 _ rfl [1, 0] (by decide)).symm) rfl (fun r_5 hr_6 => ?_)
  show zJ X 6 res _ 48 [(0, (.ref (qM 0))), (1, (.int x1)), (2, (.int x2)), (3, (.int x3)), (4, (.int x4_1)), (5, (.ref (qM (zbs 1 + (x4_1 + (1 : Int32)).toNatClampNeg))))] [(.int r_5), (.ref (qM (zbs 1 + (x4_1 + (1 : Int32)).toNatClampNeg)))] [(1, qM, sM_4), (2, qP, sP)]
  refine z_iload_n (pc := 48) 2 rfl rfl C dX1_tieSides_48 ?_
  refine z_callS (pc := 49) (rf' := 0) (rl' := 0) (fX1_tie F (zbs 1 + (x4_1 + (1 : Int32)).toNatClampNeg) r_5 x2 sM_4) [(.ref (qM (zbs 1 + (x4_1 + (1 : Int32)).toNatClampNeg))), (.int r_5), (.int x2)] [] [(1, qM, sM_4)] (fun r_7 => (some (.int r_7.1))) (fun r_7 => [(1, qM, r_7.2)]) [(2, qP, sP)] (fun r_7 => [(1, qM, r_7.2), (2, qP, sP)]) C dX1_tieSides_49 zy_X1_tie zw_559 (fun _ hr9 => mX1_tie (zAr_n hi_2) hr9) (by decide) rfl (Nat.le_of_ble_eq_true rfl) (List.Perm.refl _) (fun _ => List.Perm.refl _) rfl (fun r_7 hr_8 => ?_)
  show zJ X 6 res _ 52 [(0, (.ref (qM 0))), (1, (.int x1)), (2, (.int x2)), (3, (.int x3)), (4, (.int x4_1)), (5, (.ref (qM (zbs 1 + (x4_1 + (1 : Int32)).toNatClampNeg))))] [(.int r_7.1)] [(1, qM, r_7.2), (2, qP, sP)]
  refine z_if_eq (pc := 52) 76 C dX1_tieSides_52 (by decide) ?_ ?_
  · refine z_iconst (pc := 76) (0 : Int32) (by decide) C dX1_tieSides_76 ?_
    exact z_zreturn (pc := 77) C hR dX1_tieSides_77 (fun h => by subst h; exact ⟨rfl, rfl⟩)
  · refine z_aload (pc := 55) 5 rfl C dX1_tieSides_55 ?_
    refine z_aload_n (pc := 57) 0 rfl rfl C dX1_tieSides_57 ?_
    refine z_getE (pc := 58) 0 0 50 (qP 0) hM50 C dX1_tieSides_58 rfl (by decide) (by decide) rfl zw_203 ?_
    refine z_iload_n (pc := 61) 1 rfl rfl C dX1_tieSides_61 ?_
    refine z_callV (pc := 62) (rf' := 0) (rl' := 0) (fX2_sideB x1 sP) [(.int x1)] [(.ref (qM (zbs 1 + (x4_1 + (1 : Int32)).toNatClampNeg)))] [(2, qP, sP)] (fun r_9 => (some (.int r_9))) (fun r_9 => [(2, qP, sP)]) [(1, qM, r_7.2)] (fun r_9 => [(1, qM, r_7.2), (2, qP, sP)]) C dX1_tieSides_62 zy_X2_sideB zw_547 (fun _ hr9 => mX2_sideB  hr9) (by decide) rfl rfl (by decide) rfl (Nat.le_of_ble_eq_true rfl) (z_pn 2 _ rfl [1, 0] (by decide)).symm (fun _ => (z_pn 2 _ rfl [1, 0] (by decide)).symm) rfl (fun r_9 hr_10 => ?_)
    show zJ X 6 res _ 65 [(0, (.ref (qM 0))), (1, (.int x1)), (2, (.int x2)), (3, (.int x3)), (4, (.int x4_1)), (5, (.ref (qM (zbs 1 + (x4_1 + (1 : Int32)).toNatClampNeg))))] [(.int r_9), (.ref (qM (zbs 1 + (x4_1 + (1 : Int32)).toNatClampNeg)))] [(1, qM, r_7.2), (2, qP, sP)]
    refine z_iload_n (pc := 65) 3 rfl rfl C dX1_tieSides_65 ?_
    refine z_callS (pc := 66) (rf' := 0) (rl' := 0) (fX1_tie F (zbs 1 + (x4_1 + (1 : Int32)).toNatClampNeg) r_9 x3 r_7.2) [(.ref (qM (zbs 1 + (x4_1 + (1 : Int32)).toNatClampNeg))), (.int r_9), (.int x3)] [] [(1, qM, r_7.2)] (fun r_11 => (some (.int r_11.1))) (fun r_11 => [(1, qM, r_11.2)]) [(2, qP, sP)] (fun r_11 => [(1, qM, r_11.2), (2, qP, sP)]) C dX1_tieSides_66 zy_X1_tie zw_559 (fun _ hr9 => mX1_tie (zAr_n hi_2) hr9) (by decide) rfl (Nat.le_of_ble_eq_true rfl) (List.Perm.refl _) (fun _ => List.Perm.refl _) rfl (fun r_11 hr_12 => ?_)
    show zJ X 6 res _ 69 [(0, (.ref (qM 0))), (1, (.int x1)), (2, (.int x2)), (3, (.int x3)), (4, (.int x4_1)), (5, (.ref (qM (zbs 1 + (x4_1 + (1 : Int32)).toNatClampNeg))))] [(.int r_11.1)] [(1, qM, r_11.2), (2, qP, sP)]
    refine z_if_eq (pc := 69) 76 C dX1_tieSides_69 (by decide) ?_ ?_
    · refine z_iconst (pc := 76) (0 : Int32) (by decide) C dX1_tieSides_76 ?_
      exact z_zreturn (pc := 77) C hR dX1_tieSides_77 (fun h => by subst h; exact ⟨rfl, rfl⟩)
    · refine z_iconst (pc := 72) (1 : Int32) (by decide) C dX1_tieSides_72 ?_
      refine z_goto (pc := 73) 77 C dX1_tieSides_73 (by decide) ?_
      exact z_zreturn (pc := 77) C hR dX1_tieSides_77 (fun h => by subst h; exact ⟨rfl, rfl⟩)
theorem mX1_tieSides {F : Nat} {qM : Nat → Nat} {qP : Nat → Nat} {x1 : Int32} {x2 : Int32} {x3 : Int32} {sM : zOS} {sP : zOS} {res : Int32 × zOS} (hM50 : qM 50 = qP 0) (hf : fX1_tieSides F x1 x2 x3 sM sP = some res) : zM yX1_tieSides cX1_tieSides 6 (some .boolean) 1 26 [(.ref (qM 0)), (.int x1), (.int x2), (.int x3)] [(1, qM, sM), (2, qP, sP)] (some (.int res.1)) [(1, qM, res.2), (2, qP, sP)] := zM_of (by decide +kernel) (Nat.le_of_ble_eq_true rfl) (fun X C hR => wX1_tieSides (F := F) C hR hM50 hf)
theorem dX1_tiePins_0 : decode cX1_tiePins 0 = .ok (.iconst 0, 1) := by decide +kernel
theorem dX1_tiePins_1 : decode cX1_tiePins 1 = .ok (.istore_n 2, 1) := by decide +kernel
theorem dX1_tiePins_2 : decode cX1_tiePins 2 = .ok (.iload_n 2, 1) := by decide +kernel
theorem dX1_tiePins_3 : decode cX1_tiePins 3 = .ok (.aload_n 0, 1) := by decide +kernel
theorem dX1_tiePins_4 : decode cX1_tiePins 4 = .ok (.getfield 12, 3) := by decide +kernel
theorem dX1_tiePins_7 : decode cX1_tiePins 7 = .ok (.getfield 116, 3) := by decide +kernel
theorem dX1_tiePins_10 : decode cX1_tiePins 10 = .ok (.if_icmp .ge 45, 3) := by decide +kernel
theorem dX1_tiePins_13 : decode cX1_tiePins 13 = .ok (.aload_n 0, 1) := by decide +kernel
theorem dX1_tiePins_14 : decode cX1_tiePins 14 = .ok (.getfield 21, 3) := by decide +kernel
theorem dX1_tiePins_17 : decode cX1_tiePins 17 = .ok (.aload_n 0, 1) := by decide +kernel
theorem dX1_tiePins_18 : decode cX1_tiePins 18 = .ok (.getfield 12, 3) := by decide +kernel
theorem dX1_tiePins_21 : decode cX1_tiePins 21 = .ok (.iload_n 2, 1) := by decide +kernel
theorem dX1_tiePins_22 : decode cX1_tiePins 22 = .ok (.invokevirtual 119, 3) := by decide +kernel
theorem dX1_tiePins_25 : decode cX1_tiePins 25 = .ok (.istore_n 3, 1) := by decide +kernel
theorem dX1_tiePins_26 : decode cX1_tiePins 26 = .ok (.iload_n 3, 1) := by decide +kernel
theorem dX1_tiePins_27 : decode cX1_tiePins 27 = .ok (.iconst (-1), 1) := by decide +kernel
theorem dX1_tiePins_28 : decode cX1_tiePins 28 = .ok (.if_icmp .eq 21, 3) := by decide +kernel
theorem dX1_tiePins_31 : decode cX1_tiePins 31 = .ok (.aload_n 1, 1) := by decide +kernel
theorem dX1_tiePins_32 : decode cX1_tiePins 32 = .ok (.aload_n 0, 1) := by decide +kernel
theorem dX1_tiePins_33 : decode cX1_tiePins 33 = .ok (.getfield 12, 3) := by decide +kernel
theorem dX1_tiePins_36 : decode cX1_tiePins 36 = .ok (.iload_n 2, 1) := by decide +kernel
theorem dX1_tiePins_37 : decode cX1_tiePins 37 = .ok (.invokevirtual 123, 3) := by decide +kernel
theorem dX1_tiePins_40 : decode cX1_tiePins 40 = .ok (.iload_n 3, 1) := by decide +kernel
theorem dX1_tiePins_41 : decode cX1_tiePins 41 = .ok (.invokestatic 126, 3) := by decide +kernel
theorem dX1_tiePins_44 : decode cX1_tiePins 44 = .ok (.ifCond .ne 5, 3) := by decide +kernel
theorem dX1_tiePins_47 : decode cX1_tiePins 47 = .ok (.iconst 0, 1) := by decide +kernel
theorem dX1_tiePins_48 : decode cX1_tiePins 48 = .ok (.ireturn, 1) := by decide +kernel
theorem dX1_tiePins_49 : decode cX1_tiePins 49 = .ok (.iinc 2 1, 3) := by decide +kernel
theorem dX1_tiePins_52 : decode cX1_tiePins 52 = .ok (.goto (-50), 3) := by decide +kernel
theorem dX1_tiePins_55 : decode cX1_tiePins 55 = .ok (.iconst 1, 1) := by decide +kernel
theorem dX1_tiePins_56 : decode cX1_tiePins 56 = .ok (.ireturn, 1) := by decide +kernel
def bX1_tiePins_2 (F : Nat) (k1 : Nat) (sP : zOS) (sL : zOS) (kc_2 : (Int32 × zOS) → Option (Int32 × zOS)) (x2 : Int32) (sM : zOS) : Option (Int32 × zOS) := (if (zF sP 4) ≤ x2 then (zbk (1 : Int32) (some ((1 : Int32), sM))) else (Option.bind (fX0_pinNode F x2 sL sP) (fun r_1 : Int32 => (if r_1 = (-1 : Int32) then (kc_2 ((x2 + 1), sM)) else (Option.bind (fX2_pinNet x2 sP) (fun r_3 : Int32 => (Option.bind (fX1_tie F k1 r_3 r_1 sM) (fun r_5 : Int32 × zOS => (if r_5.1 = 0 then (zbk (0 : Int32) (some ((0 : Int32), r_5.2))) else (kc_2 ((x2 + 1), r_5.2)))))))))))
set_option maxRecDepth 20000 in
theorem vX1_tiePins_2 {X : zCx} {res : Int32 × zOS} {F : Nat} {qM : Nat → Nat} {qP : Nat → Nat} {qL : Nat → Nat} {sP : zOS} {sL : zOS} {k1 : Nat} {kc_2 : (Int32 × zOS) → Option (Int32 × zOS)} (C : zC X RX1 cX1_tiePins 4 3 64) (hR : zR X (some .boolean) (some (.int res.1)) [(1, qM, res.2), (2, qP, sP), (0, qL, sL)]) (hM50 : qM 50 = qP 0) (hM51 : qM 51 = qL 0) (ha1 : zAr 1 k1 0 10) (hk_2 : ∀ (y2 : Int32) (tM : zOS), zJ X 4 res (kc_2 (y2, tM)) 2 [(0, (.ref (qM 0))), (1, (.ref (qM k1))), (2, (.int y2))] [] [(1, qM, tM), (2, qP, sP), (0, qL, sL)]) (x2 : Int32) (sM : zOS) : zJ X 4 res (bX1_tiePins_2 F k1 sP sL kc_2 x2 sM) 2 [(0, (.ref (qM 0))), (1, (.ref (qM k1))), (2, (.int x2))] [] [(1, qM, sM), (2, qP, sP), (0, qL, sL)] := by
  unfold bX1_tiePins_2
  refine z_iload_n (pc := 2) 2 rfl rfl C dX1_tiePins_2 ?_
  refine z_aload_n (pc := 3) 0 rfl rfl C dX1_tiePins_3 ?_
  refine z_getE (pc := 4) 0 0 50 (qP 0) hM50 C dX1_tiePins_4 rfl (by decide) (by decide) rfl zw_203 ?_
  refine z_getI (pc := 7) 1 4 C dX1_tiePins_7 rfl (by decide) (by decide) rfl zw_120 ?_
  refine z_icmp_ge (pc := 10) 55 C dX1_tiePins_10 (by decide) ?_ ?_
  · refine z_iconst (pc := 55) (1 : Int32) (by decide) C dX1_tiePins_55 ?_
    exact z_zreturn (pc := 56) C hR dX1_tiePins_56 (fun h => by subst h; exact ⟨rfl, rfl⟩)
  · refine z_aload_n (pc := 13) 0 rfl rfl C dX1_tiePins_13 ?_
    refine z_getE (pc := 14) 0 1 51 (qL 0) hM51 C dX1_tiePins_14 rfl (by decide) (by decide) rfl zw_205 ?_
    refine z_aload_n (pc := 17) 0 rfl rfl C dX1_tiePins_17 ?_
    refine z_getE (pc := 18) 0 0 50 (qP 0) hM50 C dX1_tiePins_18 rfl (by decide) (by decide) rfl zw_203 ?_
    refine z_iload_n (pc := 21) 2 rfl rfl C dX1_tiePins_21 ?_
    refine z_callV (pc := 22) (rf' := 2) (rl' := 42) (fX0_pinNode F x2 sL sP) [(.ref (qP 0)), (.int x2)] [] [(0, qL, sL), (2, qP, sP)] (fun r_1 => (some (.int r_1))) (fun r_1 => [(0, qL, sL), (2, qP, sP)]) [(1, qM, sM)] (fun r_1 => [(1, qM, sM), (2, qP, sP), (0, qL, sL)]) C dX1_tiePins_22 zy_X0_pinNode zw_557 (fun _ hr9 => mX0_pinNode  hr9) (by decide) rfl rfl (by decide) rfl (Nat.le_of_ble_eq_true rfl) (z_pn 3 _ rfl [2, 1, 0] (by decide)).symm (fun _ => (z_pn 3 _ rfl [2, 1, 0] (by decide)).symm) rfl (fun r_1 hr_2 => ?_)
    show zJ X 4 res _ 25 [(0, (.ref (qM 0))), (1, (.ref (qM k1))), (2, (.int x2))] [(.int r_1)] [(1, qM, sM), (2, qP, sP), (0, qL, sL)]
    refine z_istore_n (pc := 25) [(0, (.ref (qM 0))), (1, (.ref (qM k1))), (2, (.int x2)), (3, (.int r_1))] [1, 2, 3, 0] (by decide) rfl rfl C dX1_tiePins_25 ?_
    refine z_iload_n (pc := 26) 3 rfl rfl C dX1_tiePins_26 ?_
    refine z_iconst (pc := 27) (-1 : Int32) (by decide) C dX1_tiePins_27 ?_
    refine z_icmp_eq (pc := 28) 49 C dX1_tiePins_28 (by decide) ?_ ?_
    · refine z_iinc (pc := 49) (x2 + 1) 2 rfl rfl [(0, (.ref (qM 0))), (1, (.ref (qM k1))), (2, (.int (x2 + 1))), (3, (.int r_1))] [1, 2, 0, 3] (by decide) rfl C dX1_tiePins_49 ?_
      refine z_goto (pc := 52) 2 C dX1_tiePins_52 (by decide) ?_
      refine z_lv [(0, (.ref (qM 0))), (1, (.ref (qM k1))), (2, (.int (x2 + 1)))] [0, 1, 2] rfl ?_
      exact hk_2 _ _
    · refine z_aload_n (pc := 31) 1 rfl rfl C dX1_tiePins_31 ?_
      refine z_aload_n (pc := 32) 0 rfl rfl C dX1_tiePins_32 ?_
      refine z_getE (pc := 33) 0 0 50 (qP 0) hM50 C dX1_tiePins_33 rfl (by decide) (by decide) rfl zw_203 ?_
      refine z_iload_n (pc := 36) 2 rfl rfl C dX1_tiePins_36 ?_
      refine z_callV (pc := 37) (rf' := 0) (rl' := 0) (fX2_pinNet x2 sP) [(.int x2)] [(.ref (qM k1))] [(2, qP, sP)] (fun r_3 => (some (.int r_3))) (fun r_3 => [(2, qP, sP)]) [(1, qM, sM), (0, qL, sL)] (fun r_3 => [(1, qM, sM), (2, qP, sP), (0, qL, sL)]) C dX1_tiePins_37 zy_X2_pinNet zw_558 (fun _ hr9 => mX2_pinNet  hr9) (by decide) rfl rfl (by decide) rfl (Nat.le_of_ble_eq_true rfl) (z_pn 3 _ rfl [1, 0, 2] (by decide)).symm (fun _ => (z_pn 3 _ rfl [1, 0, 2] (by decide)).symm) rfl (fun r_3 hr_4 => ?_)
      show zJ X 4 res _ 40 [(0, (.ref (qM 0))), (1, (.ref (qM k1))), (2, (.int x2)), (3, (.int r_1))] [(.int r_3), (.ref (qM k1))] [(1, qM, sM), (2, qP, sP), (0, qL, sL)]
      refine z_iload_n (pc := 40) 3 rfl rfl C dX1_tiePins_40 ?_
      refine z_callS (pc := 41) (rf' := 0) (rl' := 0) (fX1_tie F k1 r_3 r_1 sM) [(.ref (qM k1)), (.int r_3), (.int r_1)] [] [(1, qM, sM)] (fun r_5 => (some (.int r_5.1))) (fun r_5 => [(1, qM, r_5.2)]) [(2, qP, sP), (0, qL, sL)] (fun r_5 => [(1, qM, r_5.2), (2, qP, sP), (0, qL, sL)]) C dX1_tiePins_41 zy_X1_tie zw_559 (fun _ hr9 => mX1_tie ha1 hr9) (by decide) rfl (Nat.le_of_ble_eq_true rfl) (List.Perm.refl _) (fun _ => List.Perm.refl _) rfl (fun r_5 hr_6 => ?_)
      show zJ X 4 res _ 44 [(0, (.ref (qM 0))), (1, (.ref (qM k1))), (2, (.int x2)), (3, (.int r_1))] [(.int r_5.1)] [(1, qM, r_5.2), (2, qP, sP), (0, qL, sL)]
      refine z_if_ne (pc := 44) 49 C dX1_tiePins_44 (by decide) ?_ ?_
      · refine z_iconst (pc := 47) (0 : Int32) (by decide) C dX1_tiePins_47 ?_
        exact z_zreturn (pc := 48) C hR dX1_tiePins_48 (fun h => by subst h; exact ⟨rfl, rfl⟩)
      · refine z_iinc (pc := 49) (x2 + 1) 2 rfl rfl [(0, (.ref (qM 0))), (1, (.ref (qM k1))), (2, (.int (x2 + 1))), (3, (.int r_1))] [1, 2, 0, 3] (by decide) rfl C dX1_tiePins_49 ?_
        refine z_goto (pc := 52) 2 C dX1_tiePins_52 (by decide) ?_
        refine z_lv [(0, (.ref (qM 0))), (1, (.ref (qM k1))), (2, (.int (x2 + 1)))] [0, 1, 2] rfl ?_
        exact hk_2 _ _
def fX1_tiePins (F : Nat) (k1 : Nat) (sM : zOS) (sP : zOS) (sL : zOS) : Option (Int32 × zOS) := (zit (P := Int32 × zOS) (R := Int32 × zOS) (fun kc9 p9 => bX1_tiePins_2 F k1 sP sL kc9 p9.1 p9.2) F ((0 : Int32), sM))
set_option maxRecDepth 20000 in
theorem wX1_tiePins {X : zCx} {res : Int32 × zOS} {F : Nat} {qM : Nat → Nat} {qP : Nat → Nat} {qL : Nat → Nat} {k1 : Nat} {sM : zOS} {sP : zOS} {sL : zOS} (C : zC X RX1 cX1_tiePins 4 3 64) (hR : zR X (some .boolean) (some (.int res.1)) [(1, qM, res.2), (2, qP, sP), (0, qL, sL)]) (hM50 : qM 50 = qP 0) (hM51 : qM 51 = qL 0) (ha1 : zAr 1 k1 0 10) : zJ X 4 res (fX1_tiePins F k1 sM sP sL) 0 [(0, (.ref (qM 0))), (1, (.ref (qM k1)))] [] [(1, qM, sM), (2, qP, sP), (0, qL, sL)] := by
  unfold fX1_tiePins
  refine z_iconst (pc := 0) (0 : Int32) (by decide) C dX1_tiePins_0 ?_
  refine z_istore_n (pc := 1) [(0, (.ref (qM 0))), (1, (.ref (qM k1))), (2, (.int (0 : Int32)))] [1, 2, 0] (by decide) rfl rfl C dX1_tiePins_1 ?_
  show zJ X 4 res _ 2 [(0, (.ref (qM 0))), (1, (.ref (qM k1))), (2, (.int (0 : Int32)))] [] [(1, qM, sM), (2, qP, sP), (0, qL, sL)]
  exact zit_J (P := Int32 × zOS) (B := (fun kc9 p9 => bX1_tiePins_2 F k1 sP sL kc9 p9.1 p9.2)) (fun p9 => [(0, (.ref (qM 0))), (1, (.ref (qM k1))), (2, (.int p9.1))]) (fun p9 => [(1, qM, p9.2), (2, qP, sP), (0, qL, sL)]) (fun kc9 hk9 p9 => vX1_tiePins_2 C hR hM50 hM51 ha1  (fun a0 a1 => hk9 (a0, a1)) p9.1 p9.2) F _
theorem mX1_tiePins {F : Nat} {qM : Nat → Nat} {qP : Nat → Nat} {qL : Nat → Nat} {k1 : Nat} {sM : zOS} {sP : zOS} {sL : zOS} {res : Int32 × zOS} (hM50 : qM 50 = qP 0) (hM51 : qM 51 = qL 0) (ha1 : zAr 1 k1 0 10) (hf : fX1_tiePins F k1 sM sP sL = some res) : zM yX1_tiePins cX1_tiePins 4 (some .boolean) 3 64 [(.ref (qM 0)), (.ref (qM k1))] [(1, qM, sM), (2, qP, sP), (0, qL, sL)] (some (.int res.1)) [(1, qM, res.2), (2, qP, sP), (0, qL, sL)] := zM_of (by decide +kernel) (Nat.le_of_ble_eq_true rfl) (fun X C hR => wX1_tiePins (F := F) C hR hM50 hM51 ha1 hf)
theorem dX1_isLike_0 : decode cX1_isLike 0 = .ok (.aload_n 0, 1) := by decide +kernel
theorem dX1_isLike_1 : decode cX1_isLike 1 = .ok (.getfield 12, 3) := by decide +kernel
theorem dX1_isLike_4 : decode cX1_isLike 4 = .ok (.aload_n 0, 1) := by decide +kernel
theorem dX1_isLike_5 : decode cX1_isLike 5 = .ok (.getfield 12, 3) := by decide +kernel
theorem dX1_isLike_8 : decode cX1_isLike 8 = .ok (.iload_n 1, 1) := by decide +kernel
theorem dX1_isLike_9 : decode cX1_isLike 9 = .ok (.invokevirtual 93, 3) := by decide +kernel
theorem dX1_isLike_12 : decode cX1_isLike 12 = .ok (.invokevirtual 97, 3) := by decide +kernel
theorem dX1_isLike_15 : decode cX1_isLike 15 = .ok (.aload_n 0, 1) := by decide +kernel
theorem dX1_isLike_16 : decode cX1_isLike 16 = .ok (.getfield 21, 3) := by decide +kernel
theorem dX1_isLike_19 : decode cX1_isLike 19 = .ok (.aload_n 0, 1) := by decide +kernel
theorem dX1_isLike_20 : decode cX1_isLike 20 = .ok (.getfield 21, 3) := by decide +kernel
theorem dX1_isLike_23 : decode cX1_isLike 23 = .ok (.getfield 100, 3) := by decide +kernel
theorem dX1_isLike_26 : decode cX1_isLike 26 = .ok (.iload_n 2, 1) := by decide +kernel
theorem dX1_isLike_27 : decode cX1_isLike 27 = .ok (.iaload, 1) := by decide +kernel
theorem dX1_isLike_28 : decode cX1_isLike 28 = .ok (.invokevirtual 103, 3) := by decide +kernel
theorem dX1_isLike_31 : decode cX1_isLike 31 = .ok (.if_icmp .eq 5, 3) := by decide +kernel
theorem dX1_isLike_34 : decode cX1_isLike 34 = .ok (.iconst 0, 1) := by decide +kernel
theorem dX1_isLike_35 : decode cX1_isLike 35 = .ok (.ireturn, 1) := by decide +kernel
theorem dX1_isLike_36 : decode cX1_isLike 36 = .ok (.aload_n 0, 1) := by decide +kernel
theorem dX1_isLike_37 : decode cX1_isLike 37 = .ok (.getfield 12, 3) := by decide +kernel
theorem dX1_isLike_40 : decode cX1_isLike 40 = .ok (.aload_n 0, 1) := by decide +kernel
theorem dX1_isLike_41 : decode cX1_isLike 41 = .ok (.getfield 12, 3) := by decide +kernel
theorem dX1_isLike_44 : decode cX1_isLike 44 = .ok (.iload_n 1, 1) := by decide +kernel
theorem dX1_isLike_45 : decode cX1_isLike 45 = .ok (.invokevirtual 104, 3) := by decide +kernel
theorem dX1_isLike_48 : decode cX1_isLike 48 = .ok (.invokevirtual 97, 3) := by decide +kernel
theorem dX1_isLike_51 : decode cX1_isLike 51 = .ok (.istore_n 3, 1) := by decide +kernel
theorem dX1_isLike_52 : decode cX1_isLike 52 = .ok (.aload_n 0, 1) := by decide +kernel
theorem dX1_isLike_53 : decode cX1_isLike 53 = .ok (.getfield 12, 3) := by decide +kernel
theorem dX1_isLike_56 : decode cX1_isLike 56 = .ok (.aload_n 0, 1) := by decide +kernel
theorem dX1_isLike_57 : decode cX1_isLike 57 = .ok (.getfield 12, 3) := by decide +kernel
theorem dX1_isLike_60 : decode cX1_isLike 60 = .ok (.iload_n 1, 1) := by decide +kernel
theorem dX1_isLike_61 : decode cX1_isLike 61 = .ok (.invokevirtual 107, 3) := by decide +kernel
theorem dX1_isLike_64 : decode cX1_isLike 64 = .ok (.invokevirtual 97, 3) := by decide +kernel
theorem dX1_isLike_67 : decode cX1_isLike 67 = .ok (.istore 4, 2) := by decide +kernel
theorem dX1_isLike_69 : decode cX1_isLike 69 = .ok (.aload_n 0, 1) := by decide +kernel
theorem dX1_isLike_70 : decode cX1_isLike 70 = .ok (.getfield 21, 3) := by decide +kernel
theorem dX1_isLike_73 : decode cX1_isLike 73 = .ok (.aload_n 0, 1) := by decide +kernel
theorem dX1_isLike_74 : decode cX1_isLike 74 = .ok (.getfield 21, 3) := by decide +kernel
theorem dX1_isLike_77 : decode cX1_isLike 77 = .ok (.getfield 110, 3) := by decide +kernel
theorem dX1_isLike_80 : decode cX1_isLike 80 = .ok (.iload_n 2, 1) := by decide +kernel
theorem dX1_isLike_81 : decode cX1_isLike 81 = .ok (.iaload, 1) := by decide +kernel
theorem dX1_isLike_82 : decode cX1_isLike 82 = .ok (.invokevirtual 103, 3) := by decide +kernel
theorem dX1_isLike_85 : decode cX1_isLike 85 = .ok (.istore 5, 2) := by decide +kernel
theorem dX1_isLike_87 : decode cX1_isLike 87 = .ok (.aload_n 0, 1) := by decide +kernel
theorem dX1_isLike_88 : decode cX1_isLike 88 = .ok (.getfield 21, 3) := by decide +kernel
theorem dX1_isLike_91 : decode cX1_isLike 91 = .ok (.aload_n 0, 1) := by decide +kernel
theorem dX1_isLike_92 : decode cX1_isLike 92 = .ok (.getfield 21, 3) := by decide +kernel
theorem dX1_isLike_95 : decode cX1_isLike 95 = .ok (.getfield 113, 3) := by decide +kernel
theorem dX1_isLike_98 : decode cX1_isLike 98 = .ok (.iload_n 2, 1) := by decide +kernel
theorem dX1_isLike_99 : decode cX1_isLike 99 = .ok (.iaload, 1) := by decide +kernel
theorem dX1_isLike_100 : decode cX1_isLike 100 = .ok (.invokevirtual 103, 3) := by decide +kernel
theorem dX1_isLike_103 : decode cX1_isLike 103 = .ok (.istore 6, 2) := by decide +kernel
theorem dX1_isLike_105 : decode cX1_isLike 105 = .ok (.iload_n 3, 1) := by decide +kernel
theorem dX1_isLike_106 : decode cX1_isLike 106 = .ok (.iload 5, 2) := by decide +kernel
theorem dX1_isLike_108 : decode cX1_isLike 108 = .ok (.if_icmp .ne 10, 3) := by decide +kernel
theorem dX1_isLike_111 : decode cX1_isLike 111 = .ok (.iload 4, 2) := by decide +kernel
theorem dX1_isLike_113 : decode cX1_isLike 113 = .ok (.iload 6, 2) := by decide +kernel
theorem dX1_isLike_115 : decode cX1_isLike 115 = .ok (.if_icmp .eq 16, 3) := by decide +kernel
theorem dX1_isLike_118 : decode cX1_isLike 118 = .ok (.iload_n 3, 1) := by decide +kernel
theorem dX1_isLike_119 : decode cX1_isLike 119 = .ok (.iload 6, 2) := by decide +kernel
theorem dX1_isLike_121 : decode cX1_isLike 121 = .ok (.if_icmp .ne 14, 3) := by decide +kernel
theorem dX1_isLike_124 : decode cX1_isLike 124 = .ok (.iload 4, 2) := by decide +kernel
theorem dX1_isLike_126 : decode cX1_isLike 126 = .ok (.iload 5, 2) := by decide +kernel
theorem dX1_isLike_128 : decode cX1_isLike 128 = .ok (.if_icmp .ne 7, 3) := by decide +kernel
theorem dX1_isLike_131 : decode cX1_isLike 131 = .ok (.iconst 1, 1) := by decide +kernel
theorem dX1_isLike_132 : decode cX1_isLike 132 = .ok (.goto 4, 3) := by decide +kernel
theorem dX1_isLike_135 : decode cX1_isLike 135 = .ok (.iconst 0, 1) := by decide +kernel
theorem dX1_isLike_136 : decode cX1_isLike 136 = .ok (.ireturn, 1) := by decide +kernel
def jX1_isLike_118 (F : Nat) (x3 : Int32) (x4 : Int32) (x5 : Int32) (x6 : Int32) : Option (Int32) := (if x3 = x6 then (if x4 = x5 then (zbk (1 : Int32) (some ((1 : Int32)))) else (zbk (0 : Int32) (some ((0 : Int32))))) else (zbk (0 : Int32) (some ((0 : Int32)))))
set_option maxRecDepth 20000 in
theorem wX1_isLike_118 {X : zCx} {res : Int32} {F : Nat} {qM : Nat → Nat} {qP : Nat → Nat} {qL : Nat → Nat} {sM : zOS} {sP : zOS} {sL : zOS} (C : zC X RX1 cX1_isLike 7 2 44) (hR : zR X (some .boolean) (some (.int res)) [(1, qM, sM), (2, qP, sP), (0, qL, sL)]) (hM50 : qM 50 = qP 0) (hM51 : qM 51 = qL 0) (x3 : Int32) (x4 : Int32) (x5 : Int32) (x6 : Int32) : zJ X 7 res (jX1_isLike_118 F x3 x4 x5 x6) 118 [(3, (.int x3)), (4, (.int x4)), (5, (.int x5)), (6, (.int x6))] [] [(1, qM, sM), (2, qP, sP), (0, qL, sL)] := by
  unfold jX1_isLike_118
  refine z_iload_n (pc := 118) 0 rfl rfl C dX1_isLike_118 ?_
  refine z_iload (pc := 119) 3 rfl C dX1_isLike_119 ?_
  refine z_icmp_ne (pc := 121) 135 C dX1_isLike_121 (by decide) ?_ ?_
  · refine z_iload (pc := 124) 1 rfl C dX1_isLike_124 ?_
    refine z_iload (pc := 126) 2 rfl C dX1_isLike_126 ?_
    refine z_icmp_ne (pc := 128) 135 C dX1_isLike_128 (by decide) ?_ ?_
    · refine z_iconst (pc := 131) (1 : Int32) (by decide) C dX1_isLike_131 ?_
      refine z_goto (pc := 132) 136 C dX1_isLike_132 (by decide) ?_
      exact z_zreturn (pc := 136) C hR dX1_isLike_136 (fun h => by subst h; exact ⟨rfl, rfl⟩)
    · refine z_iconst (pc := 135) (0 : Int32) (by decide) C dX1_isLike_135 ?_
      exact z_zreturn (pc := 136) C hR dX1_isLike_136 (fun h => by subst h; exact ⟨rfl, rfl⟩)
  · refine z_iconst (pc := 135) (0 : Int32) (by decide) C dX1_isLike_135 ?_
    exact z_zreturn (pc := 136) C hR dX1_isLike_136 (fun h => by subst h; exact ⟨rfl, rfl⟩)
def fX1_isLike (F : Nat) (x1 : Int32) (x2 : Int32) (sP : zOS) (sL : zOS) : Option (Int32) := (Option.bind (fX2_gateNet x1 sP) (fun r_1 : Int32 => (Option.bind (fX2_hangOf F r_1 sP) (fun r_3 : Int32 => (zchk x2 32 (Option.bind (fX0_hangOf (zI sL 9 x2.toNatClampNeg) sL) (fun r_5 : Int32 => (if r_3 = r_5 then (Option.bind (fX2_sideA x1 sP) (fun r_7 : Int32 => (Option.bind (fX2_hangOf F r_7 sP) (fun r_9 : Int32 => (Option.bind (fX2_sideB x1 sP) (fun r_11 : Int32 => (Option.bind (fX2_hangOf F r_11 sP) (fun r_13 : Int32 => (zchk x2 32 (Option.bind (fX0_hangOf (zI sL 10 x2.toNatClampNeg) sL) (fun r_15 : Int32 => (zchk x2 32 (Option.bind (fX0_hangOf (zI sL 11 x2.toNatClampNeg) sL) (fun r_17 : Int32 => (if r_9 = r_15 then (if r_13 = r_17 then (zbk (1 : Int32) (some ((1 : Int32)))) else (jX1_isLike_118 F r_9 r_13 r_15 r_17)) else (jX1_isLike_118 F r_9 r_13 r_15 r_17)))))))))))))))) else (zbk (0 : Int32) (some ((0 : Int32))))))))))))
set_option maxRecDepth 20000 in
theorem wX1_isLike {X : zCx} {res : Int32} {F : Nat} {qM : Nat → Nat} {qP : Nat → Nat} {qL : Nat → Nat} {x1 : Int32} {x2 : Int32} {sM : zOS} {sP : zOS} {sL : zOS} (C : zC X RX1 cX1_isLike 7 2 44) (hR : zR X (some .boolean) (some (.int res)) [(1, qM, sM), (2, qP, sP), (0, qL, sL)]) (hM50 : qM 50 = qP 0) (hM51 : qM 51 = qL 0) : zJ X 7 res (fX1_isLike F x1 x2 sP sL) 0 [(0, (.ref (qM 0))), (1, (.int x1)), (2, (.int x2))] [] [(1, qM, sM), (2, qP, sP), (0, qL, sL)] := by
  unfold fX1_isLike
  refine z_aload_n (pc := 0) 0 rfl rfl C dX1_isLike_0 ?_
  refine z_getE (pc := 1) 0 0 50 (qP 0) hM50 C dX1_isLike_1 rfl (by decide) (by decide) rfl zw_203 ?_
  refine z_aload_n (pc := 4) 0 rfl rfl C dX1_isLike_4 ?_
  refine z_getE (pc := 5) 0 0 50 (qP 0) hM50 C dX1_isLike_5 rfl (by decide) (by decide) rfl zw_203 ?_
  refine z_iload_n (pc := 8) 1 rfl rfl C dX1_isLike_8 ?_
  refine z_callV (pc := 9) (rf' := 0) (rl' := 0) (fX2_gateNet x1 sP) [(.int x1)] [(.ref (qP 0))] [(2, qP, sP)] (fun r_1 => (some (.int r_1))) (fun r_1 => [(2, qP, sP)]) [(1, qM, sM), (0, qL, sL)] (fun r_1 => [(1, qM, sM), (2, qP, sP), (0, qL, sL)]) C dX1_isLike_9 zy_X2_gateNet zw_525 (fun _ hr9 => mX2_gateNet  hr9) (by decide) rfl rfl (by decide) rfl (Nat.le_of_ble_eq_true rfl) (z_pn 3 _ rfl [1, 0, 2] (by decide)).symm (fun _ => (z_pn 3 _ rfl [1, 0, 2] (by decide)).symm) rfl (fun r_1 hr_2 => ?_)
  show zJ X 7 res _ 12 [(0, (.ref (qM 0))), (1, (.int x1)), (2, (.int x2))] [(.int r_1), (.ref (qP 0))] [(1, qM, sM), (2, qP, sP), (0, qL, sL)]
  refine z_callV (pc := 12) (rf' := 1) (rl' := 21) (fX2_hangOf F r_1 sP) [(.int r_1)] [] [(2, qP, sP)] (fun r_3 => (some (.int r_3))) (fun r_3 => [(2, qP, sP)]) [(1, qM, sM), (0, qL, sL)] (fun r_3 => [(1, qM, sM), (2, qP, sP), (0, qL, sL)]) C dX1_isLike_12 zy_X2_hangOf zw_529 (fun _ hr9 => mX2_hangOf  hr9) (by decide) rfl rfl (by decide) rfl (Nat.le_of_ble_eq_true rfl) (z_pn 3 _ rfl [1, 0, 2] (by decide)).symm (fun _ => (z_pn 3 _ rfl [1, 0, 2] (by decide)).symm) rfl (fun r_3 hr_4 => ?_)
  show zJ X 7 res _ 15 [(0, (.ref (qM 0))), (1, (.int x1)), (2, (.int x2))] [(.int r_3)] [(1, qM, sM), (2, qP, sP), (0, qL, sL)]
  refine z_aload_n (pc := 15) 0 rfl rfl C dX1_isLike_15 ?_
  refine z_getE (pc := 16) 0 1 51 (qL 0) hM51 C dX1_isLike_16 rfl (by decide) (by decide) rfl zw_205 ?_
  refine z_aload_n (pc := 19) 0 rfl rfl C dX1_isLike_19 ?_
  refine z_getE (pc := 20) 0 1 51 (qL 0) hM51 C dX1_isLike_20 rfl (by decide) (by decide) rfl zw_205 ?_
  refine z_getR (pc := 23) 2 8 9 C dX1_isLike_23 rfl (by decide) (by decide) rfl zw_152 ?_
  refine z_iload_n (pc := 26) 2 rfl rfl C dX1_isLike_26 ?_
  refine z_iald (pc := 27) 2 C dX1_isLike_27 rfl (by unfold zAr; decide) ?_
  refine z_callV (pc := 28) (rf' := 1) (rl' := 21) (fX0_hangOf (zI sL 9 x2.toNatClampNeg) sL) [(.int (zI sL 9 x2.toNatClampNeg))] [(.int r_3)] [(0, qL, sL)] (fun r_5 => (some (.int r_5))) (fun r_5 => [(0, qL, sL)]) [(1, qM, sM), (2, qP, sP)] (fun r_5 => [(1, qM, sM), (2, qP, sP), (0, qL, sL)]) C dX1_isLike_28 zy_X0_hangOf zw_542 (fun _ hr9 => mX0_hangOf  hr9) (by decide) rfl rfl (by decide) rfl (Nat.le_of_ble_eq_true rfl) (z_pn 3 _ rfl [2, 0, 1] (by decide)).symm (fun _ => (z_pn 3 _ rfl [1, 2, 0] (by decide)).symm) rfl (fun r_5 hr_6 => ?_)
  show zJ X 7 res _ 31 [(0, (.ref (qM 0))), (1, (.int x1)), (2, (.int x2))] [(.int r_5), (.int r_3)] [(1, qM, sM), (2, qP, sP), (0, qL, sL)]
  refine z_icmp_eq (pc := 31) 36 C dX1_isLike_31 (by decide) ?_ ?_
  · refine z_aload_n (pc := 36) 0 rfl rfl C dX1_isLike_36 ?_
    refine z_getE (pc := 37) 0 0 50 (qP 0) hM50 C dX1_isLike_37 rfl (by decide) (by decide) rfl zw_203 ?_
    refine z_aload_n (pc := 40) 0 rfl rfl C dX1_isLike_40 ?_
    refine z_getE (pc := 41) 0 0 50 (qP 0) hM50 C dX1_isLike_41 rfl (by decide) (by decide) rfl zw_203 ?_
    refine z_iload_n (pc := 44) 1 rfl rfl C dX1_isLike_44 ?_
    refine z_callV (pc := 45) (rf' := 0) (rl' := 0) (fX2_sideA x1 sP) [(.int x1)] [(.ref (qP 0))] [(2, qP, sP)] (fun r_7 => (some (.int r_7))) (fun r_7 => [(2, qP, sP)]) [(1, qM, sM), (0, qL, sL)] (fun r_7 => [(1, qM, sM), (2, qP, sP), (0, qL, sL)]) C dX1_isLike_45 zy_X2_sideA zw_546 (fun _ hr9 => mX2_sideA  hr9) (by decide) rfl rfl (by decide) rfl (Nat.le_of_ble_eq_true rfl) (z_pn 3 _ rfl [1, 0, 2] (by decide)).symm (fun _ => (z_pn 3 _ rfl [1, 0, 2] (by decide)).symm) rfl (fun r_7 hr_8 => ?_)
    show zJ X 7 res _ 48 [(0, (.ref (qM 0))), (1, (.int x1)), (2, (.int x2))] [(.int r_7), (.ref (qP 0))] [(1, qM, sM), (2, qP, sP), (0, qL, sL)]
    refine z_callV (pc := 48) (rf' := 1) (rl' := 21) (fX2_hangOf F r_7 sP) [(.int r_7)] [] [(2, qP, sP)] (fun r_9 => (some (.int r_9))) (fun r_9 => [(2, qP, sP)]) [(1, qM, sM), (0, qL, sL)] (fun r_9 => [(1, qM, sM), (2, qP, sP), (0, qL, sL)]) C dX1_isLike_48 zy_X2_hangOf zw_529 (fun _ hr9 => mX2_hangOf  hr9) (by decide) rfl rfl (by decide) rfl (Nat.le_of_ble_eq_true rfl) (z_pn 3 _ rfl [1, 0, 2] (by decide)).symm (fun _ => (z_pn 3 _ rfl [1, 0, 2] (by decide)).symm) rfl (fun r_9 hr_10 => ?_)
    show zJ X 7 res _ 51 [(0, (.ref (qM 0))), (1, (.int x1)), (2, (.int x2))] [(.int r_9)] [(1, qM, sM), (2, qP, sP), (0, qL, sL)]
    refine z_istore_n (pc := 51) [(0, (.ref (qM 0))), (1, (.int x1)), (2, (.int x2)), (3, (.int r_9))] [1, 2, 3, 0] (by decide) rfl rfl C dX1_isLike_51 ?_
    refine z_aload_n (pc := 52) 0 rfl rfl C dX1_isLike_52 ?_
    refine z_getE (pc := 53) 0 0 50 (qP 0) hM50 C dX1_isLike_53 rfl (by decide) (by decide) rfl zw_203 ?_
    refine z_aload_n (pc := 56) 0 rfl rfl C dX1_isLike_56 ?_
    refine z_getE (pc := 57) 0 0 50 (qP 0) hM50 C dX1_isLike_57 rfl (by decide) (by decide) rfl zw_203 ?_
    refine z_iload_n (pc := 60) 1 rfl rfl C dX1_isLike_60 ?_
    refine z_callV (pc := 61) (rf' := 0) (rl' := 0) (fX2_sideB x1 sP) [(.int x1)] [(.ref (qP 0))] [(2, qP, sP)] (fun r_11 => (some (.int r_11))) (fun r_11 => [(2, qP, sP)]) [(1, qM, sM), (0, qL, sL)] (fun r_11 => [(1, qM, sM), (2, qP, sP), (0, qL, sL)]) C dX1_isLike_61 zy_X2_sideB zw_547 (fun _ hr9 => mX2_sideB  hr9) (by decide) rfl rfl (by decide) rfl (Nat.le_of_ble_eq_true rfl) (z_pn 3 _ rfl [1, 0, 2] (by decide)).symm (fun _ => (z_pn 3 _ rfl [1, 0, 2] (by decide)).symm) rfl (fun r_11 hr_12 => ?_)
    show zJ X 7 res _ 64 [(0, (.ref (qM 0))), (1, (.int x1)), (2, (.int x2)), (3, (.int r_9))] [(.int r_11), (.ref (qP 0))] [(1, qM, sM), (2, qP, sP), (0, qL, sL)]
    refine z_callV (pc := 64) (rf' := 1) (rl' := 21) (fX2_hangOf F r_11 sP) [(.int r_11)] [] [(2, qP, sP)] (fun r_13 => (some (.int r_13))) (fun r_13 => [(2, qP, sP)]) [(1, qM, sM), (0, qL, sL)] (fun r_13 => [(1, qM, sM), (2, qP, sP), (0, qL, sL)]) C dX1_isLike_64 zy_X2_hangOf zw_529 (fun _ hr9 => mX2_hangOf  hr9) (by decide) rfl rfl (by decide) rfl (Nat.le_of_ble_eq_true rfl) (z_pn 3 _ rfl [1, 0, 2] (by decide)).symm (fun _ => (z_pn 3 _ rfl [1, 0, 2] (by decide)).symm) rfl (fun r_13 hr_14 => ?_)
    show zJ X 7 res _ 67 [(0, (.ref (qM 0))), (1, (.int x1)), (2, (.int x2)), (3, (.int r_9))] [(.int r_13)] [(1, qM, sM), (2, qP, sP), (0, qL, sL)]
    refine z_istore (pc := 67) [(0, (.ref (qM 0))), (1, (.int x1)), (2, (.int x2)), (3, (.int r_9)), (4, (.int r_13))] [1, 2, 3, 4, 0] (by decide) rfl C dX1_isLike_67 ?_
    refine z_aload_n (pc := 69) 0 rfl rfl C dX1_isLike_69 ?_
    refine z_getE (pc := 70) 0 1 51 (qL 0) hM51 C dX1_isLike_70 rfl (by decide) (by decide) rfl zw_205 ?_
    refine z_aload_n (pc := 73) 0 rfl rfl C dX1_isLike_73 ?_
    refine z_getE (pc := 74) 0 1 51 (qL 0) hM51 C dX1_isLike_74 rfl (by decide) (by decide) rfl zw_205 ?_
    refine z_getR (pc := 77) 2 9 10 C dX1_isLike_77 rfl (by decide) (by decide) rfl zw_154 ?_
    refine z_iload_n (pc := 80) 2 rfl rfl C dX1_isLike_80 ?_
    refine z_iald (pc := 81) 2 C dX1_isLike_81 rfl (by unfold zAr; decide) ?_
    refine z_callV (pc := 82) (rf' := 1) (rl' := 21) (fX0_hangOf (zI sL 10 x2.toNatClampNeg) sL) [(.int (zI sL 10 x2.toNatClampNeg))] [] [(0, qL, sL)] (fun r_15 => (some (.int r_15))) (fun r_15 => [(0, qL, sL)]) [(1, qM, sM), (2, qP, sP)] (fun r_15 => [(1, qM, sM), (2, qP, sP), (0, qL, sL)]) C dX1_isLike_82 zy_X0_hangOf zw_542 (fun _ hr9 => mX0_hangOf  hr9) (by decide) rfl rfl (by decide) rfl (Nat.le_of_ble_eq_true rfl) (z_pn 3 _ rfl [2, 0, 1] (by decide)).symm (fun _ => (z_pn 3 _ rfl [1, 2, 0] (by decide)).symm) rfl (fun r_15 hr_16 => ?_)
    show zJ X 7 res _ 85 [(0, (.ref (qM 0))), (1, (.int x1)), (2, (.int x2)), (3, (.int r_9)), (4, (.int r_13))] [(.int r_15)] [(1, qM, sM), (2, qP, sP), (0, qL, sL)]
    refine z_istore (pc := 85) [(0, (.ref (qM 0))), (1, (.int x1)), (2, (.int x2)), (3, (.int r_9)), (4, (.int r_13)), (5, (.int r_15))] [1, 2, 3, 4, 5, 0] (by decide) rfl C dX1_isLike_85 ?_
    refine z_aload_n (pc := 87) 0 rfl rfl C dX1_isLike_87 ?_
    refine z_getE (pc := 88) 0 1 51 (qL 0) hM51 C dX1_isLike_88 rfl (by decide) (by decide) rfl zw_205 ?_
    refine z_aload_n (pc := 91) 0 rfl rfl C dX1_isLike_91 ?_
    refine z_getE (pc := 92) 0 1 51 (qL 0) hM51 C dX1_isLike_92 rfl (by decide) (by decide) rfl zw_205 ?_
    refine z_getR (pc := 95) 2 10 11 C dX1_isLike_95 rfl (by decide) (by decide) rfl zw_156 ?_
    refine z_iload_n (pc := 98) 2 rfl rfl C dX1_isLike_98 ?_
    refine z_iald (pc := 99) 2 C dX1_isLike_99 rfl (by unfold zAr; decide) ?_
    refine z_callV (pc := 100) (rf' := 1) (rl' := 21) (fX0_hangOf (zI sL 11 x2.toNatClampNeg) sL) [(.int (zI sL 11 x2.toNatClampNeg))] [] [(0, qL, sL)] (fun r_17 => (some (.int r_17))) (fun r_17 => [(0, qL, sL)]) [(1, qM, sM), (2, qP, sP)] (fun r_17 => [(1, qM, sM), (2, qP, sP), (0, qL, sL)]) C dX1_isLike_100 zy_X0_hangOf zw_542 (fun _ hr9 => mX0_hangOf  hr9) (by decide) rfl rfl (by decide) rfl (Nat.le_of_ble_eq_true rfl) (z_pn 3 _ rfl [2, 0, 1] (by decide)).symm (fun _ => (z_pn 3 _ rfl [1, 2, 0] (by decide)).symm) rfl (fun r_17 hr_18 => ?_)
    show zJ X 7 res _ 103 [(0, (.ref (qM 0))), (1, (.int x1)), (2, (.int x2)), (3, (.int r_9)), (4, (.int r_13)), (5, (.int r_15))] [(.int r_17)] [(1, qM, sM), (2, qP, sP), (0, qL, sL)]
    refine z_istore (pc := 103) [(0, (.ref (qM 0))), (1, (.int x1)), (2, (.int x2)), (3, (.int r_9)), (4, (.int r_13)), (5, (.int r_15)), (6, (.int r_17))] [1, 2, 3, 4, 5, 6, 0] (by decide) rfl C dX1_isLike_103 ?_
    refine z_iload_n (pc := 105) 3 rfl rfl C dX1_isLike_105 ?_
    refine z_iload (pc := 106) 5 rfl C dX1_isLike_106 ?_
    refine z_icmp_ne (pc := 108) 118 C dX1_isLike_108 (by decide) ?_ ?_
    · refine z_iload (pc := 111) 4 rfl C dX1_isLike_111 ?_
      refine z_iload (pc := 113) 6 rfl C dX1_isLike_113 ?_
      refine z_icmp_eq (pc := 115) 131 C dX1_isLike_115 (by decide) ?_ ?_
      · refine z_iconst (pc := 131) (1 : Int32) (by decide) C dX1_isLike_131 ?_
        refine z_goto (pc := 132) 136 C dX1_isLike_132 (by decide) ?_
        exact z_zreturn (pc := 136) C hR dX1_isLike_136 (fun h => by subst h; exact ⟨rfl, rfl⟩)
      · refine z_lv [(3, (.int r_9)), (4, (.int r_13)), (5, (.int r_15)), (6, (.int r_17))] [3, 4, 5, 6] rfl ?_
        exact wX1_isLike_118 C hR hM50 hM51  _ _ _ _
    · refine z_lv [(3, (.int r_9)), (4, (.int r_13)), (5, (.int r_15)), (6, (.int r_17))] [3, 4, 5, 6] rfl ?_
      exact wX1_isLike_118 C hR hM50 hM51  _ _ _ _
  · refine z_iconst (pc := 34) (0 : Int32) (by decide) C dX1_isLike_34 ?_
    exact z_zreturn (pc := 35) C hR dX1_isLike_35 (fun h => by subst h; exact ⟨rfl, rfl⟩)
theorem mX1_isLike {F : Nat} {qM : Nat → Nat} {qP : Nat → Nat} {qL : Nat → Nat} {x1 : Int32} {x2 : Int32} {sM : zOS} {sP : zOS} {sL : zOS} {res : Int32} (hM50 : qM 50 = qP 0) (hM51 : qM 51 = qL 0) (hf : fX1_isLike F x1 x2 sP sL = some res) : zM yX1_isLike cX1_isLike 7 (some .boolean) 2 44 [(.ref (qM 0)), (.int x1), (.int x2)] [(1, qM, sM), (2, qP, sP), (0, qL, sL)] (some (.int res)) [(1, qM, sM), (2, qP, sP), (0, qL, sL)] := zM_of (by decide +kernel) (Nat.le_of_ble_eq_true rfl) (fun X C hR => wX1_isLike (F := F) C hR hM50 hM51 hf)
theorem dX1_findLikes_0 : decode cX1_findLikes 0 = .ok (.iconst 0, 1) := by decide +kernel
theorem dX1_findLikes_1 : decode cX1_findLikes 1 = .ok (.istore_n 1, 1) := by decide +kernel
theorem dX1_findLikes_2 : decode cX1_findLikes 2 = .ok (.iload_n 1, 1) := by decide +kernel
theorem dX1_findLikes_3 : decode cX1_findLikes 3 = .ok (.aload_n 0, 1) := by decide +kernel
theorem dX1_findLikes_4 : decode cX1_findLikes 4 = .ok (.getfield 12, 3) := by decide +kernel
theorem dX1_findLikes_7 : decode cX1_findLikes 7 = .ok (.getfield 79, 3) := by decide +kernel
theorem dX1_findLikes_10 : decode cX1_findLikes 10 = .ok (.if_icmp .ge 67, 3) := by decide +kernel
theorem dX1_findLikes_13 : decode cX1_findLikes 13 = .ok (.aload_n 0, 1) := by decide +kernel
theorem dX1_findLikes_14 : decode cX1_findLikes 14 = .ok (.getfield 25, 3) := by decide +kernel
theorem dX1_findLikes_17 : decode cX1_findLikes 17 = .ok (.iload_n 1, 1) := by decide +kernel
theorem dX1_findLikes_18 : decode cX1_findLikes 18 = .ok (.iconst 0, 1) := by decide +kernel
theorem dX1_findLikes_19 : decode cX1_findLikes 19 = .ok (.iastore, 1) := by decide +kernel
theorem dX1_findLikes_20 : decode cX1_findLikes 20 = .ok (.iconst 0, 1) := by decide +kernel
theorem dX1_findLikes_21 : decode cX1_findLikes 21 = .ok (.istore_n 2, 1) := by decide +kernel
theorem dX1_findLikes_22 : decode cX1_findLikes 22 = .ok (.iload_n 2, 1) := by decide +kernel
theorem dX1_findLikes_23 : decode cX1_findLikes 23 = .ok (.aload_n 0, 1) := by decide +kernel
theorem dX1_findLikes_24 : decode cX1_findLikes 24 = .ok (.getfield 21, 3) := by decide +kernel
theorem dX1_findLikes_27 : decode cX1_findLikes 27 = .ok (.getfield 82, 3) := by decide +kernel
theorem dX1_findLikes_30 : decode cX1_findLikes 30 = .ok (.if_icmp .ge 41, 3) := by decide +kernel
theorem dX1_findLikes_33 : decode cX1_findLikes 33 = .ok (.aload_n 0, 1) := by decide +kernel
theorem dX1_findLikes_34 : decode cX1_findLikes 34 = .ok (.getfield 21, 3) := by decide +kernel
theorem dX1_findLikes_37 : decode cX1_findLikes 37 = .ok (.iload_n 2, 1) := by decide +kernel
theorem dX1_findLikes_38 : decode cX1_findLikes 38 = .ok (.invokevirtual 85, 3) := by decide +kernel
theorem dX1_findLikes_41 : decode cX1_findLikes 41 = .ok (.ifCond .eq 24, 3) := by decide +kernel
theorem dX1_findLikes_44 : decode cX1_findLikes 44 = .ok (.aload_n 0, 1) := by decide +kernel
theorem dX1_findLikes_45 : decode cX1_findLikes 45 = .ok (.iload_n 1, 1) := by decide +kernel
theorem dX1_findLikes_46 : decode cX1_findLikes 46 = .ok (.iload_n 2, 1) := by decide +kernel
theorem dX1_findLikes_47 : decode cX1_findLikes 47 = .ok (.invokevirtual 89, 3) := by decide +kernel
theorem dX1_findLikes_50 : decode cX1_findLikes 50 = .ok (.ifCond .eq 15, 3) := by decide +kernel
theorem dX1_findLikes_53 : decode cX1_findLikes 53 = .ok (.aload_n 0, 1) := by decide +kernel
theorem dX1_findLikes_54 : decode cX1_findLikes 54 = .ok (.getfield 25, 3) := by decide +kernel
theorem dX1_findLikes_57 : decode cX1_findLikes 57 = .ok (.iload_n 1, 1) := by decide +kernel
theorem dX1_findLikes_58 : decode cX1_findLikes 58 = .ok (.dup2, 1) := by decide +kernel
theorem dX1_findLikes_59 : decode cX1_findLikes 59 = .ok (.iaload, 1) := by decide +kernel
theorem dX1_findLikes_60 : decode cX1_findLikes 60 = .ok (.iconst 1, 1) := by decide +kernel
theorem dX1_findLikes_61 : decode cX1_findLikes 61 = .ok (.iload_n 2, 1) := by decide +kernel
theorem dX1_findLikes_62 : decode cX1_findLikes 62 = .ok (.ishl, 1) := by decide +kernel
theorem dX1_findLikes_63 : decode cX1_findLikes 63 = .ok (.ior, 1) := by decide +kernel
theorem dX1_findLikes_64 : decode cX1_findLikes 64 = .ok (.iastore, 1) := by decide +kernel
theorem dX1_findLikes_65 : decode cX1_findLikes 65 = .ok (.iinc 2 1, 3) := by decide +kernel
theorem dX1_findLikes_68 : decode cX1_findLikes 68 = .ok (.goto (-46), 3) := by decide +kernel
theorem dX1_findLikes_71 : decode cX1_findLikes 71 = .ok (.iinc 1 1, 3) := by decide +kernel
theorem dX1_findLikes_74 : decode cX1_findLikes 74 = .ok (.goto (-72), 3) := by decide +kernel
theorem dX1_findLikes_77 : decode cX1_findLikes 77 = .ok (.return_, 1) := by decide +kernel
def bX1_findLikes_22 (F : Nat) (kc_2 : (Int32 × zOS) → Option (zOS)) (x1 : Int32) (sP : zOS) (sL : zOS) (kc_22 : (Int32 × zOS) → Option (zOS)) (x2 : Int32) (sM : zOS) : Option (zOS) := (if (zF sL 14) ≤ x2 then (kc_2 ((x1 + 1), sM)) else (Option.bind (fX0_isWell x2 sL) (fun r_2 : Int32 => (if r_2 = 0 then (kc_22 ((x2 + 1), sM)) else (Option.bind (fX1_isLike F x1 x2 sP sL) (fun r_4 : Int32 => (if r_4 = 0 then (kc_22 ((x2 + 1), sM)) else (zchk x1 6 (zchk x1 6 (zlet (zsI sM 1 (upd (zI sM 1) x1.toNatClampNeg ((zI sM 1 x1.toNatClampNeg) ||| ((1 : Int32) <<< (x2 &&& 31))))) (fun sM_6 : zOS => (kc_22 ((x2 + 1), sM_6)))))))))))))
set_option maxRecDepth 20000 in
theorem vX1_findLikes_22 {X : zCx} {res : zOS} {F : Nat} {qM : Nat → Nat} {qP : Nat → Nat} {qL : Nat → Nat} {sP : zOS} {sL : zOS} {x1 : Int32} {kc_2 : (Int32 × zOS) → Option (zOS)} {kc_22 : (Int32 × zOS) → Option (zOS)} (C : zC X RX1 cX1_findLikes 3 3 70) (hR : zR X none none [(1, qM, res), (2, qP, sP), (0, qL, sL)]) (hM50 : qM 50 = qP 0) (hM51 : qM 51 = qL 0) (hk_2 : ∀ (y1 : Int32) (tM : zOS), zJ X 3 res (kc_2 (y1, tM)) 2 [(0, (.ref (qM 0))), (1, (.int y1))] [] [(1, qM, tM), (2, qP, sP), (0, qL, sL)]) (hk_22 : ∀ (y2 : Int32) (tM : zOS), zJ X 3 res (kc_22 (y2, tM)) 22 [(0, (.ref (qM 0))), (1, (.int x1)), (2, (.int y2))] [] [(1, qM, tM), (2, qP, sP), (0, qL, sL)]) (x2 : Int32) (sM : zOS) : zJ X 3 res (bX1_findLikes_22 F kc_2 x1 sP sL kc_22 x2 sM) 22 [(0, (.ref (qM 0))), (1, (.int x1)), (2, (.int x2))] [] [(1, qM, sM), (2, qP, sP), (0, qL, sL)] := by
  unfold bX1_findLikes_22
  refine z_iload_n (pc := 22) 2 rfl rfl C dX1_findLikes_22 ?_
  refine z_aload_n (pc := 23) 0 rfl rfl C dX1_findLikes_23 ?_
  refine z_getE (pc := 24) 0 1 51 (qL 0) hM51 C dX1_findLikes_24 rfl (by decide) (by decide) rfl zw_205 ?_
  refine z_getI (pc := 27) 2 14 C dX1_findLikes_27 rfl (by decide) (by decide) rfl zw_163 ?_
  refine z_icmp_ge (pc := 30) 71 C dX1_findLikes_30 (by decide) ?_ ?_
  · refine z_iinc (pc := 71) (x1 + 1) 1 rfl rfl [(0, (.ref (qM 0))), (1, (.int (x1 + 1))), (2, (.int x2))] [1, 0, 2] (by decide) rfl C dX1_findLikes_71 ?_
    refine z_goto (pc := 74) 2 C dX1_findLikes_74 (by decide) ?_
    refine z_lv [(0, (.ref (qM 0))), (1, (.int (x1 + 1)))] [0, 1] rfl ?_
    exact hk_2 _ _
  · refine z_aload_n (pc := 33) 0 rfl rfl C dX1_findLikes_33 ?_
    refine z_getE (pc := 34) 0 1 51 (qL 0) hM51 C dX1_findLikes_34 rfl (by decide) (by decide) rfl zw_205 ?_
    refine z_iload_n (pc := 37) 2 rfl rfl C dX1_findLikes_37 ?_
    refine z_callV (pc := 38) (rf' := 0) (rl' := 0) (fX0_isWell x2 sL) [(.int x2)] [] [(0, qL, sL)] (fun r_2 => (some (.int r_2))) (fun r_2 => [(0, qL, sL)]) [(1, qM, sM), (2, qP, sP)] (fun r_2 => [(1, qM, sM), (2, qP, sP), (0, qL, sL)]) C dX1_findLikes_38 zy_X0_isWell zw_520 (fun _ hr9 => mX0_isWell  hr9) (by decide) rfl rfl (by decide) rfl (Nat.le_of_ble_eq_true rfl) (z_pn 3 _ rfl [2, 0, 1] (by decide)).symm (fun _ => (z_pn 3 _ rfl [1, 2, 0] (by decide)).symm) rfl (fun r_2 hr_3 => ?_)
    show zJ X 3 res _ 41 [(0, (.ref (qM 0))), (1, (.int x1)), (2, (.int x2))] [(.int r_2)] [(1, qM, sM), (2, qP, sP), (0, qL, sL)]
    refine z_if_eq (pc := 41) 65 C dX1_findLikes_41 (by decide) ?_ ?_
    · refine z_iinc (pc := 65) (x2 + 1) 2 rfl rfl [(0, (.ref (qM 0))), (1, (.int x1)), (2, (.int (x2 + 1)))] [1, 2, 0] (by decide) rfl C dX1_findLikes_65 ?_
      refine z_goto (pc := 68) 22 C dX1_findLikes_68 (by decide) ?_
      exact hk_22 _ _
    · refine z_aload_n (pc := 44) 0 rfl rfl C dX1_findLikes_44 ?_
      refine z_iload_n (pc := 45) 1 rfl rfl C dX1_findLikes_45 ?_
      refine z_iload_n (pc := 46) 2 rfl rfl C dX1_findLikes_46 ?_
      refine z_callV (pc := 47) (rf' := 2) (rl' := 44) (fX1_isLike F x1 x2 sP sL) [(.int x1), (.int x2)] [] [(1, qM, sM), (2, qP, sP), (0, qL, sL)] (fun r_4 => (some (.int r_4))) (fun r_4 => [(1, qM, sM), (2, qP, sP), (0, qL, sL)]) [] (fun r_4 => [(1, qM, sM), (2, qP, sP), (0, qL, sL)]) C dX1_findLikes_47 zy_X1_isLike zw_521 (fun _ hr9 => mX1_isLike hM50 hM51 hr9) (by decide) rfl rfl (by decide) rfl (Nat.le_of_ble_eq_true rfl) (List.Perm.refl _) (fun _ => List.Perm.refl _) rfl (fun r_4 hr_5 => ?_)
      show zJ X 3 res _ 50 [(0, (.ref (qM 0))), (1, (.int x1)), (2, (.int x2))] [(.int r_4)] [(1, qM, sM), (2, qP, sP), (0, qL, sL)]
      refine z_if_eq (pc := 50) 65 C dX1_findLikes_50 (by decide) ?_ ?_
      · refine z_iinc (pc := 65) (x2 + 1) 2 rfl rfl [(0, (.ref (qM 0))), (1, (.int x1)), (2, (.int (x2 + 1)))] [1, 2, 0] (by decide) rfl C dX1_findLikes_65 ?_
        refine z_goto (pc := 68) 22 C dX1_findLikes_68 (by decide) ?_
        exact hk_22 _ _
      · refine z_aload_n (pc := 53) 0 rfl rfl C dX1_findLikes_53 ?_
        refine z_getR (pc := 54) 0 2 1 C dX1_findLikes_54 rfl (by decide) (by decide) rfl zw_207 ?_
        refine z_iload_n (pc := 57) 1 rfl rfl C dX1_findLikes_57 ?_
        refine z_dup2 (pc := 58) rfl rfl C dX1_findLikes_58 ?_
        refine z_iald (pc := 59) 0 C dX1_findLikes_59 rfl (by unfold zAr; decide) ?_
        refine z_iconst (pc := 60) (1 : Int32) (by decide) C dX1_findLikes_60 ?_
        refine z_iload_n (pc := 61) 2 rfl rfl C dX1_findLikes_61 ?_
        refine z_ishl (pc := 62) C dX1_findLikes_62 ?_
        refine z_ior (pc := 63) C dX1_findLikes_63 ?_
        refine z_iast (pc := 64) 0 C dX1_findLikes_64 rfl (by unfold zAr; decide) [(1, qM, (zsI sM 1 (upd (zI sM 1) x1.toNatClampNeg ((zI sM 1 x1.toNatClampNeg) ||| ((1 : Int32) <<< (x2 &&& 31)))))), (2, qP, sP), (0, qL, sL)] rfl ?_
        refine z_letc (fun z9 => [(1, qM, z9), (2, qP, sP), (0, qL, sL)]) (fun sM_6 => ?_)
        refine z_iinc (pc := 65) (x2 + 1) 2 rfl rfl [(0, (.ref (qM 0))), (1, (.int x1)), (2, (.int (x2 + 1)))] [1, 2, 0] (by decide) rfl C dX1_findLikes_65 ?_
        refine z_goto (pc := 68) 22 C dX1_findLikes_68 (by decide) ?_
        exact hk_22 _ _
def bX1_findLikes_2 (F : Nat) (sP : zOS) (sL : zOS) (kc_2 : (Int32 × zOS) → Option (zOS)) (x1 : Int32) (sM : zOS) : Option (zOS) := (if (zF sP 3) ≤ x1 then (some (sM)) else (zchk x1 6 (zlet (zsI sM 1 (upd (zI sM 1) x1.toNatClampNeg (0 : Int32))) (fun sM_1 : zOS => (zit (P := Int32 × zOS) (R := zOS) (fun kc9 p9 => bX1_findLikes_22 F kc_2 x1 sP sL kc9 p9.1 p9.2) F ((0 : Int32), sM_1))))))
set_option maxRecDepth 20000 in
theorem vX1_findLikes_2 {X : zCx} {res : zOS} {F : Nat} {qM : Nat → Nat} {qP : Nat → Nat} {qL : Nat → Nat} {sP : zOS} {sL : zOS} {kc_2 : (Int32 × zOS) → Option (zOS)} (C : zC X RX1 cX1_findLikes 3 3 70) (hR : zR X none none [(1, qM, res), (2, qP, sP), (0, qL, sL)]) (hM50 : qM 50 = qP 0) (hM51 : qM 51 = qL 0) (hk_2 : ∀ (y1 : Int32) (tM : zOS), zJ X 3 res (kc_2 (y1, tM)) 2 [(0, (.ref (qM 0))), (1, (.int y1))] [] [(1, qM, tM), (2, qP, sP), (0, qL, sL)]) (x1 : Int32) (sM : zOS) : zJ X 3 res (bX1_findLikes_2 F sP sL kc_2 x1 sM) 2 [(0, (.ref (qM 0))), (1, (.int x1))] [] [(1, qM, sM), (2, qP, sP), (0, qL, sL)] := by
  unfold bX1_findLikes_2
  refine z_iload_n (pc := 2) 1 rfl rfl C dX1_findLikes_2 ?_
  refine z_aload_n (pc := 3) 0 rfl rfl C dX1_findLikes_3 ?_
  refine z_getE (pc := 4) 0 0 50 (qP 0) hM50 C dX1_findLikes_4 rfl (by decide) (by decide) rfl zw_203 ?_
  refine z_getI (pc := 7) 1 3 C dX1_findLikes_7 rfl (by decide) (by decide) rfl zw_116 ?_
  refine z_icmp_ge (pc := 10) 77 C dX1_findLikes_10 (by decide) ?_ ?_
  · exact z_return (pc := 77) C hR dX1_findLikes_77 (fun h => by subst h; exact ⟨rfl, rfl⟩)
  · refine z_aload_n (pc := 13) 0 rfl rfl C dX1_findLikes_13 ?_
    refine z_getR (pc := 14) 0 2 1 C dX1_findLikes_14 rfl (by decide) (by decide) rfl zw_207 ?_
    refine z_iload_n (pc := 17) 1 rfl rfl C dX1_findLikes_17 ?_
    refine z_iconst (pc := 18) (0 : Int32) (by decide) C dX1_findLikes_18 ?_
    refine z_iast (pc := 19) 0 C dX1_findLikes_19 rfl (by unfold zAr; decide) [(1, qM, (zsI sM 1 (upd (zI sM 1) x1.toNatClampNeg (0 : Int32)))), (2, qP, sP), (0, qL, sL)] rfl ?_
    refine z_letc (fun z9 => [(1, qM, z9), (2, qP, sP), (0, qL, sL)]) (fun sM_1 => ?_)
    refine z_iconst (pc := 20) (0 : Int32) (by decide) C dX1_findLikes_20 ?_
    refine z_istore_n (pc := 21) [(0, (.ref (qM 0))), (1, (.int x1)), (2, (.int (0 : Int32)))] [1, 2, 0] (by decide) rfl rfl C dX1_findLikes_21 ?_
    show zJ X 3 res _ 22 [(0, (.ref (qM 0))), (1, (.int x1)), (2, (.int (0 : Int32)))] [] [(1, qM, sM_1), (2, qP, sP), (0, qL, sL)]
    exact zit_J (P := Int32 × zOS) (B := (fun kc9 p9 => bX1_findLikes_22 F kc_2 x1 sP sL kc9 p9.1 p9.2)) (fun p9 => [(0, (.ref (qM 0))), (1, (.int x1)), (2, (.int p9.1))]) (fun p9 => [(1, qM, p9.2), (2, qP, sP), (0, qL, sL)]) (fun kc9 hk9 p9 => vX1_findLikes_22 C hR hM50 hM51 hk_2 (fun a0 a1 => hk9 (a0, a1)) p9.1 p9.2) F _
def fX1_findLikes (F : Nat) (sM : zOS) (sP : zOS) (sL : zOS) : Option (zOS) := (zit (P := Int32 × zOS) (R := zOS) (fun kc9 p9 => bX1_findLikes_2 F sP sL kc9 p9.1 p9.2) F ((0 : Int32), sM))
set_option maxRecDepth 20000 in
theorem wX1_findLikes {X : zCx} {res : zOS} {F : Nat} {qM : Nat → Nat} {qP : Nat → Nat} {qL : Nat → Nat} {sM : zOS} {sP : zOS} {sL : zOS} (C : zC X RX1 cX1_findLikes 3 3 70) (hR : zR X none none [(1, qM, res), (2, qP, sP), (0, qL, sL)]) (hM50 : qM 50 = qP 0) (hM51 : qM 51 = qL 0) : zJ X 3 res (fX1_findLikes F sM sP sL) 0 [(0, (.ref (qM 0)))] [] [(1, qM, sM), (2, qP, sP), (0, qL, sL)] := by
  unfold fX1_findLikes
  refine z_iconst (pc := 0) (0 : Int32) (by decide) C dX1_findLikes_0 ?_
  refine z_istore_n (pc := 1) [(0, (.ref (qM 0))), (1, (.int (0 : Int32)))] [1, 0] (by decide) rfl rfl C dX1_findLikes_1 ?_
  show zJ X 3 res _ 2 [(0, (.ref (qM 0))), (1, (.int (0 : Int32)))] [] [(1, qM, sM), (2, qP, sP), (0, qL, sL)]
  exact zit_J (P := Int32 × zOS) (B := (fun kc9 p9 => bX1_findLikes_2 F sP sL kc9 p9.1 p9.2)) (fun p9 => [(0, (.ref (qM 0))), (1, (.int p9.1))]) (fun p9 => [(1, qM, p9.2), (2, qP, sP), (0, qL, sL)]) (fun kc9 hk9 p9 => vX1_findLikes_2 C hR hM50 hM51  (fun a0 a1 => hk9 (a0, a1)) p9.1 p9.2) F _
theorem mX1_findLikes {F : Nat} {qM : Nat → Nat} {qP : Nat → Nat} {qL : Nat → Nat} {sM : zOS} {sP : zOS} {sL : zOS} {res : zOS} (hM50 : qM 50 = qP 0) (hM51 : qM 51 = qL 0) (hf : fX1_findLikes F sM sP sL = some res) : zM yX1_findLikes cX1_findLikes 3 none 3 70 [(.ref (qM 0))] [(1, qM, sM), (2, qP, sP), (0, qL, sL)] none [(1, qM, res), (2, qP, sP), (0, qL, sL)] := zM_of (by decide +kernel) (Nat.le_of_ble_eq_true rfl) (fun X C hR => wX1_findLikes (F := F) C hR hM50 hM51 hf)
theorem dX1_countLeftOver_0 : decode cX1_countLeftOver 0 = .ok (.iconst 0, 1) := by decide +kernel
theorem dX1_countLeftOver_1 : decode cX1_countLeftOver 1 = .ok (.istore_n 1, 1) := by decide +kernel
theorem dX1_countLeftOver_2 : decode cX1_countLeftOver 2 = .ok (.iconst 0, 1) := by decide +kernel
theorem dX1_countLeftOver_3 : decode cX1_countLeftOver 3 = .ok (.istore_n 2, 1) := by decide +kernel
theorem dX1_countLeftOver_4 : decode cX1_countLeftOver 4 = .ok (.iconst 0, 1) := by decide +kernel
theorem dX1_countLeftOver_5 : decode cX1_countLeftOver 5 = .ok (.istore_n 3, 1) := by decide +kernel
theorem dX1_countLeftOver_6 : decode cX1_countLeftOver 6 = .ok (.iload_n 3, 1) := by decide +kernel
theorem dX1_countLeftOver_7 : decode cX1_countLeftOver 7 = .ok (.aload_n 0, 1) := by decide +kernel
theorem dX1_countLeftOver_8 : decode cX1_countLeftOver 8 = .ok (.getfield 12, 3) := by decide +kernel
theorem dX1_countLeftOver_11 : decode cX1_countLeftOver 11 = .ok (.getfield 79, 3) := by decide +kernel
theorem dX1_countLeftOver_14 : decode cX1_countLeftOver 14 = .ok (.if_icmp .ge 38, 3) := by decide +kernel
theorem dX1_countLeftOver_17 : decode cX1_countLeftOver 17 = .ok (.aload_n 0, 1) := by decide +kernel
theorem dX1_countLeftOver_18 : decode cX1_countLeftOver 18 = .ok (.getfield 25, 3) := by decide +kernel
theorem dX1_countLeftOver_21 : decode cX1_countLeftOver 21 = .ok (.iload_n 3, 1) := by decide +kernel
theorem dX1_countLeftOver_22 : decode cX1_countLeftOver 22 = .ok (.iaload, 1) := by decide +kernel
theorem dX1_countLeftOver_23 : decode cX1_countLeftOver 23 = .ok (.iload_n 1, 1) := by decide +kernel
theorem dX1_countLeftOver_24 : decode cX1_countLeftOver 24 = .ok (.iconst (-1), 1) := by decide +kernel
theorem dX1_countLeftOver_25 : decode cX1_countLeftOver 25 = .ok (.ixor, 1) := by decide +kernel
theorem dX1_countLeftOver_26 : decode cX1_countLeftOver 26 = .ok (.iand, 1) := by decide +kernel
theorem dX1_countLeftOver_27 : decode cX1_countLeftOver 27 = .ok (.istore 4, 2) := by decide +kernel
theorem dX1_countLeftOver_29 : decode cX1_countLeftOver 29 = .ok (.iload 4, 2) := by decide +kernel
theorem dX1_countLeftOver_31 : decode cX1_countLeftOver 31 = .ok (.ifCond .eq 15, 3) := by decide +kernel
theorem dX1_countLeftOver_34 : decode cX1_countLeftOver 34 = .ok (.iload_n 1, 1) := by decide +kernel
theorem dX1_countLeftOver_35 : decode cX1_countLeftOver 35 = .ok (.iload 4, 2) := by decide +kernel
theorem dX1_countLeftOver_37 : decode cX1_countLeftOver 37 = .ok (.iload 4, 2) := by decide +kernel
theorem dX1_countLeftOver_39 : decode cX1_countLeftOver 39 = .ok (.ineg, 1) := by decide +kernel
theorem dX1_countLeftOver_40 : decode cX1_countLeftOver 40 = .ok (.iand, 1) := by decide +kernel
theorem dX1_countLeftOver_41 : decode cX1_countLeftOver 41 = .ok (.ior, 1) := by decide +kernel
theorem dX1_countLeftOver_42 : decode cX1_countLeftOver 42 = .ok (.istore_n 1, 1) := by decide +kernel
theorem dX1_countLeftOver_43 : decode cX1_countLeftOver 43 = .ok (.iinc 2 1, 3) := by decide +kernel
theorem dX1_countLeftOver_46 : decode cX1_countLeftOver 46 = .ok (.iinc 3 1, 3) := by decide +kernel
theorem dX1_countLeftOver_49 : decode cX1_countLeftOver 49 = .ok (.goto (-43), 3) := by decide +kernel
theorem dX1_countLeftOver_52 : decode cX1_countLeftOver 52 = .ok (.aload_n 0, 1) := by decide +kernel
theorem dX1_countLeftOver_53 : decode cX1_countLeftOver 53 = .ok (.getfield 21, 3) := by decide +kernel
theorem dX1_countLeftOver_56 : decode cX1_countLeftOver 56 = .ok (.getfield 82, 3) := by decide +kernel
theorem dX1_countLeftOver_59 : decode cX1_countLeftOver 59 = .ok (.aload_n 0, 1) := by decide +kernel
theorem dX1_countLeftOver_60 : decode cX1_countLeftOver 60 = .ok (.getfield 21, 3) := by decide +kernel
theorem dX1_countLeftOver_63 : decode cX1_countLeftOver 63 = .ok (.getfield 60, 3) := by decide +kernel
theorem dX1_countLeftOver_66 : decode cX1_countLeftOver 66 = .ok (.isub, 1) := by decide +kernel
theorem dX1_countLeftOver_67 : decode cX1_countLeftOver 67 = .ok (.istore_n 3, 1) := by decide +kernel
theorem dX1_countLeftOver_68 : decode cX1_countLeftOver 68 = .ok (.aload_n 0, 1) := by decide +kernel
theorem dX1_countLeftOver_69 : decode cX1_countLeftOver 69 = .ok (.getfield 12, 3) := by decide +kernel
theorem dX1_countLeftOver_72 : decode cX1_countLeftOver 72 = .ok (.getfield 79, 3) := by decide +kernel
theorem dX1_countLeftOver_75 : decode cX1_countLeftOver 75 = .ok (.iload_n 3, 1) := by decide +kernel
theorem dX1_countLeftOver_76 : decode cX1_countLeftOver 76 = .ok (.iadd, 1) := by decide +kernel
theorem dX1_countLeftOver_77 : decode cX1_countLeftOver 77 = .ok (.iconst 2, 1) := by decide +kernel
theorem dX1_countLeftOver_78 : decode cX1_countLeftOver 78 = .ok (.iload_n 2, 1) := by decide +kernel
theorem dX1_countLeftOver_79 : decode cX1_countLeftOver 79 = .ok (.imul, 1) := by decide +kernel
theorem dX1_countLeftOver_80 : decode cX1_countLeftOver 80 = .ok (.isub, 1) := by decide +kernel
theorem dX1_countLeftOver_81 : decode cX1_countLeftOver 81 = .ok (.ireturn, 1) := by decide +kernel
def bX1_countLeftOver_6 (F : Nat) (sM : zOS) (sP : zOS) (sL : zOS) (kc_6 : (Int32 × Int32 × Int32) → Option (Int32)) (x1 : Int32) (x2 : Int32) (x3 : Int32) : Option (Int32) := (if (zF sP 3) ≤ x3 then (zlet ((zF sL 14) - (zF sL 15)) (fun x3_1 : Int32 => (some (((zF sP 3) + x3_1) - ((2 : Int32) * x2))))) else (zchk x3 6 (zlet ((zI sM 1 x3.toNatClampNeg) &&& (x1 ^^^ (-1 : Int32))) (fun x4_2 : Int32 => (if x4_2 = 0 then (kc_6 (x1, x2, (x3 + 1))) else (zlet (x1 ||| (x4_2 &&& (-x4_2))) (fun x1_3 : Int32 => (kc_6 (x1_3, (x2 + 1), (x3 + 1))))))))))
set_option maxRecDepth 20000 in
theorem vX1_countLeftOver_6 {X : zCx} {res : Int32} {F : Nat} {qM : Nat → Nat} {qP : Nat → Nat} {qL : Nat → Nat} {sM : zOS} {sP : zOS} {sL : zOS} {kc_6 : (Int32 × Int32 × Int32) → Option (Int32)} (C : zC X RX1 cX1_countLeftOver 5 0 0) (hR : zR X (some .int) (some (.int res)) [(1, qM, sM), (2, qP, sP), (0, qL, sL)]) (hM50 : qM 50 = qP 0) (hM51 : qM 51 = qL 0) (hk_6 : ∀ (y1 : Int32) (y2 : Int32) (y3 : Int32), zJ X 5 res (kc_6 (y1, y2, y3)) 6 [(0, (.ref (qM 0))), (1, (.int y1)), (2, (.int y2)), (3, (.int y3))] [] [(1, qM, sM), (2, qP, sP), (0, qL, sL)]) (x1 : Int32) (x2 : Int32) (x3 : Int32) : zJ X 5 res (bX1_countLeftOver_6 F sM sP sL kc_6 x1 x2 x3) 6 [(0, (.ref (qM 0))), (1, (.int x1)), (2, (.int x2)), (3, (.int x3))] [] [(1, qM, sM), (2, qP, sP), (0, qL, sL)] := by
  unfold bX1_countLeftOver_6
  refine z_iload_n (pc := 6) 3 rfl rfl C dX1_countLeftOver_6 ?_
  refine z_aload_n (pc := 7) 0 rfl rfl C dX1_countLeftOver_7 ?_
  refine z_getE (pc := 8) 0 0 50 (qP 0) hM50 C dX1_countLeftOver_8 rfl (by decide) (by decide) rfl zw_203 ?_
  refine z_getI (pc := 11) 1 3 C dX1_countLeftOver_11 rfl (by decide) (by decide) rfl zw_116 ?_
  refine z_icmp_ge (pc := 14) 52 C dX1_countLeftOver_14 (by decide) ?_ ?_
  · refine z_aload_n (pc := 52) 0 rfl rfl C dX1_countLeftOver_52 ?_
    refine z_getE (pc := 53) 0 1 51 (qL 0) hM51 C dX1_countLeftOver_53 rfl (by decide) (by decide) rfl zw_205 ?_
    refine z_getI (pc := 56) 2 14 C dX1_countLeftOver_56 rfl (by decide) (by decide) rfl zw_163 ?_
    refine z_aload_n (pc := 59) 0 rfl rfl C dX1_countLeftOver_59 ?_
    refine z_getE (pc := 60) 0 1 51 (qL 0) hM51 C dX1_countLeftOver_60 rfl (by decide) (by decide) rfl zw_205 ?_
    refine z_getI (pc := 63) 2 15 C dX1_countLeftOver_63 rfl (by decide) (by decide) rfl zw_166 ?_
    refine z_isub (pc := 66) C dX1_countLeftOver_66 ?_
    refine z_leti (fun x3_1 => ?_)
    refine z_istore_n (pc := 67) [(0, (.ref (qM 0))), (1, (.int x1)), (2, (.int x2)), (3, (.int x3_1))] [1, 2, 3, 0] (by decide) rfl rfl C dX1_countLeftOver_67 ?_
    refine z_aload_n (pc := 68) 0 rfl rfl C dX1_countLeftOver_68 ?_
    refine z_getE (pc := 69) 0 0 50 (qP 0) hM50 C dX1_countLeftOver_69 rfl (by decide) (by decide) rfl zw_203 ?_
    refine z_getI (pc := 72) 1 3 C dX1_countLeftOver_72 rfl (by decide) (by decide) rfl zw_116 ?_
    refine z_iload_n (pc := 75) 3 rfl rfl C dX1_countLeftOver_75 ?_
    refine z_iadd (pc := 76) C dX1_countLeftOver_76 ?_
    refine z_iconst (pc := 77) (2 : Int32) (by decide) C dX1_countLeftOver_77 ?_
    refine z_iload_n (pc := 78) 2 rfl rfl C dX1_countLeftOver_78 ?_
    refine z_imul (pc := 79) C dX1_countLeftOver_79 ?_
    refine z_isub (pc := 80) C dX1_countLeftOver_80 ?_
    exact z_ireturn (pc := 81) C hR dX1_countLeftOver_81 (fun h => by subst h; exact ⟨rfl, rfl⟩)
  · refine z_aload_n (pc := 17) 0 rfl rfl C dX1_countLeftOver_17 ?_
    refine z_getR (pc := 18) 0 2 1 C dX1_countLeftOver_18 rfl (by decide) (by decide) rfl zw_207 ?_
    refine z_iload_n (pc := 21) 3 rfl rfl C dX1_countLeftOver_21 ?_
    refine z_iald (pc := 22) 0 C dX1_countLeftOver_22 rfl (by unfold zAr; decide) ?_
    refine z_iload_n (pc := 23) 1 rfl rfl C dX1_countLeftOver_23 ?_
    refine z_iconst (pc := 24) (-1 : Int32) (by decide) C dX1_countLeftOver_24 ?_
    refine z_ixor (pc := 25) C dX1_countLeftOver_25 ?_
    refine z_iand (pc := 26) C dX1_countLeftOver_26 ?_
    refine z_leti (fun x4_2 => ?_)
    refine z_istore (pc := 27) [(0, (.ref (qM 0))), (1, (.int x1)), (2, (.int x2)), (3, (.int x3)), (4, (.int x4_2))] [1, 2, 3, 4, 0] (by decide) rfl C dX1_countLeftOver_27 ?_
    refine z_iload (pc := 29) 4 rfl C dX1_countLeftOver_29 ?_
    refine z_if_eq (pc := 31) 46 C dX1_countLeftOver_31 (by decide) ?_ ?_
    · refine z_iinc (pc := 46) (x3 + 1) 3 rfl rfl [(0, (.ref (qM 0))), (1, (.int x1)), (2, (.int x2)), (3, (.int (x3 + 1))), (4, (.int x4_2))] [1, 2, 3, 0, 4] (by decide) rfl C dX1_countLeftOver_46 ?_
      refine z_goto (pc := 49) 6 C dX1_countLeftOver_49 (by decide) ?_
      refine z_lv [(0, (.ref (qM 0))), (1, (.int x1)), (2, (.int x2)), (3, (.int (x3 + 1)))] [0, 1, 2, 3] rfl ?_
      exact hk_6 _ _ _
    · refine z_iload_n (pc := 34) 1 rfl rfl C dX1_countLeftOver_34 ?_
      refine z_iload (pc := 35) 4 rfl C dX1_countLeftOver_35 ?_
      refine z_iload (pc := 37) 4 rfl C dX1_countLeftOver_37 ?_
      refine z_ineg (pc := 39) C dX1_countLeftOver_39 ?_
      refine z_iand (pc := 40) C dX1_countLeftOver_40 ?_
      refine z_ior (pc := 41) C dX1_countLeftOver_41 ?_
      refine z_leti (fun x1_3 => ?_)
      refine z_istore_n (pc := 42) [(0, (.ref (qM 0))), (1, (.int x1_3)), (2, (.int x2)), (3, (.int x3)), (4, (.int x4_2))] [1, 0, 2, 3, 4] (by decide) rfl rfl C dX1_countLeftOver_42 ?_
      refine z_iinc (pc := 43) (x2 + 1) 2 rfl rfl [(0, (.ref (qM 0))), (1, (.int x1_3)), (2, (.int (x2 + 1))), (3, (.int x3)), (4, (.int x4_2))] [1, 2, 0, 3, 4] (by decide) rfl C dX1_countLeftOver_43 ?_
      refine z_iinc (pc := 46) (x3 + 1) 3 rfl rfl [(0, (.ref (qM 0))), (1, (.int x1_3)), (2, (.int (x2 + 1))), (3, (.int (x3 + 1))), (4, (.int x4_2))] [1, 2, 3, 0, 4] (by decide) rfl C dX1_countLeftOver_46 ?_
      refine z_goto (pc := 49) 6 C dX1_countLeftOver_49 (by decide) ?_
      refine z_lv [(0, (.ref (qM 0))), (1, (.int x1_3)), (2, (.int (x2 + 1))), (3, (.int (x3 + 1)))] [0, 1, 2, 3] rfl ?_
      exact hk_6 _ _ _
def fX1_countLeftOver (F : Nat) (sM : zOS) (sP : zOS) (sL : zOS) : Option (Int32) := (zit (P := Int32 × Int32 × Int32) (R := Int32) (fun kc9 p9 => bX1_countLeftOver_6 F sM sP sL kc9 p9.1 p9.2.1 p9.2.2) F ((0 : Int32), (0 : Int32), (0 : Int32)))
set_option maxRecDepth 20000 in
theorem wX1_countLeftOver {X : zCx} {res : Int32} {F : Nat} {qM : Nat → Nat} {qP : Nat → Nat} {qL : Nat → Nat} {sM : zOS} {sP : zOS} {sL : zOS} (C : zC X RX1 cX1_countLeftOver 5 0 0) (hR : zR X (some .int) (some (.int res)) [(1, qM, sM), (2, qP, sP), (0, qL, sL)]) (hM50 : qM 50 = qP 0) (hM51 : qM 51 = qL 0) : zJ X 5 res (fX1_countLeftOver F sM sP sL) 0 [(0, (.ref (qM 0)))] [] [(1, qM, sM), (2, qP, sP), (0, qL, sL)] := by
  unfold fX1_countLeftOver
  refine z_iconst (pc := 0) (0 : Int32) (by decide) C dX1_countLeftOver_0 ?_
  refine z_istore_n (pc := 1) [(0, (.ref (qM 0))), (1, (.int (0 : Int32)))] [1, 0] (by decide) rfl rfl C dX1_countLeftOver_1 ?_
  refine z_iconst (pc := 2) (0 : Int32) (by decide) C dX1_countLeftOver_2 ?_
  refine z_istore_n (pc := 3) [(0, (.ref (qM 0))), (1, (.int (0 : Int32))), (2, (.int (0 : Int32)))] [1, 2, 0] (by decide) rfl rfl C dX1_countLeftOver_3 ?_
  refine z_iconst (pc := 4) (0 : Int32) (by decide) C dX1_countLeftOver_4 ?_
  refine z_istore_n (pc := 5) [(0, (.ref (qM 0))), (1, (.int (0 : Int32))), (2, (.int (0 : Int32))), (3, (.int (0 : Int32)))] [1, 2, 3, 0] (by decide) rfl rfl C dX1_countLeftOver_5 ?_
  show zJ X 5 res _ 6 [(0, (.ref (qM 0))), (1, (.int (0 : Int32))), (2, (.int (0 : Int32))), (3, (.int (0 : Int32)))] [] [(1, qM, sM), (2, qP, sP), (0, qL, sL)]
  exact zit_J (P := Int32 × Int32 × Int32) (B := (fun kc9 p9 => bX1_countLeftOver_6 F sM sP sL kc9 p9.1 p9.2.1 p9.2.2)) (fun p9 => [(0, (.ref (qM 0))), (1, (.int p9.1)), (2, (.int p9.2.1)), (3, (.int p9.2.2))]) (fun p9 => [(1, qM, sM), (2, qP, sP), (0, qL, sL)]) (fun kc9 hk9 p9 => vX1_countLeftOver_6 C hR hM50 hM51  (fun a0 a1 a2 => hk9 (a0, a1, a2)) p9.1 p9.2.1 p9.2.2) F _
theorem mX1_countLeftOver {F : Nat} {qM : Nat → Nat} {qP : Nat → Nat} {qL : Nat → Nat} {sM : zOS} {sP : zOS} {sL : zOS} {res : Int32} (hM50 : qM 50 = qP 0) (hM51 : qM 51 = qL 0) (hf : fX1_countLeftOver F sM sP sL = some res) : zM yX1_countLeftOver cX1_countLeftOver 5 (some .int) 0 0 [(.ref (qM 0))] [(1, qM, sM), (2, qP, sP), (0, qL, sL)] (some (.int res)) [(1, qM, sM), (2, qP, sP), (0, qL, sL)] := zM_of (by decide +kernel) (Nat.le_of_ble_eq_true rfl) (fun X C hR => wX1_countLeftOver (F := F) C hR hM50 hM51 hf)
theorem dX1_mixInto_0 : decode cX1_mixInto 0 = .ok (.ldc2_w 77, 3) := by decide +kernel
theorem dX1_mixInto_3 : decode cX1_mixInto 3 = .ok (.lload_n 1, 1) := by decide +kernel
theorem dX1_mixInto_4 : decode cX1_mixInto 4 = .ok (.lmul, 1) := by decide +kernel
theorem dX1_mixInto_5 : decode cX1_mixInto 5 = .ok (.aload_n 0, 1) := by decide +kernel
theorem dX1_mixInto_6 : decode cX1_mixInto 6 = .ok (.getfield 47, 3) := by decide +kernel
theorem dX1_mixInto_9 : decode cX1_mixInto 9 = .ok (.i2l, 1) := by decide +kernel
theorem dX1_mixInto_10 : decode cX1_mixInto 10 = .ok (.ladd, 1) := by decide +kernel
theorem dX1_mixInto_11 : decode cX1_mixInto 11 = .ok (.lstore_n 3, 1) := by decide +kernel
theorem dX1_mixInto_12 : decode cX1_mixInto 12 = .ok (.aload_n 0, 1) := by decide +kernel
theorem dX1_mixInto_13 : decode cX1_mixInto 13 = .ok (.getfield 47, 3) := by decide +kernel
theorem dX1_mixInto_16 : decode cX1_mixInto 16 = .ok (.ifCond .ne 5, 3) := by decide +kernel
theorem dX1_mixInto_19 : decode cX1_mixInto 19 = .ok (.lload_n 3, 1) := by decide +kernel
theorem dX1_mixInto_20 : decode cX1_mixInto 20 = .ok (.lreturn, 1) := by decide +kernel
theorem dX1_mixInto_21 : decode cX1_mixInto 21 = .ok (.iconst 0, 1) := by decide +kernel
theorem dX1_mixInto_22 : decode cX1_mixInto 22 = .ok (.istore 5, 2) := by decide +kernel
theorem dX1_mixInto_24 : decode cX1_mixInto 24 = .ok (.iload 5, 2) := by decide +kernel
theorem dX1_mixInto_26 : decode cX1_mixInto 26 = .ok (.aload_n 0, 1) := by decide +kernel
theorem dX1_mixInto_27 : decode cX1_mixInto 27 = .ok (.getfield 12, 3) := by decide +kernel
theorem dX1_mixInto_30 : decode cX1_mixInto 30 = .ok (.getfield 79, 3) := by decide +kernel
theorem dX1_mixInto_33 : decode cX1_mixInto 33 = .ok (.if_icmp .ge 24, 3) := by decide +kernel
theorem dX1_mixInto_36 : decode cX1_mixInto 36 = .ok (.ldc2_w 77, 3) := by decide +kernel
theorem dX1_mixInto_39 : decode cX1_mixInto 39 = .ok (.lload_n 3, 1) := by decide +kernel
theorem dX1_mixInto_40 : decode cX1_mixInto 40 = .ok (.lmul, 1) := by decide +kernel
theorem dX1_mixInto_41 : decode cX1_mixInto 41 = .ok (.aload_n 0, 1) := by decide +kernel
theorem dX1_mixInto_42 : decode cX1_mixInto 42 = .ok (.getfield 41, 3) := by decide +kernel
theorem dX1_mixInto_45 : decode cX1_mixInto 45 = .ok (.iload 5, 2) := by decide +kernel
theorem dX1_mixInto_47 : decode cX1_mixInto 47 = .ok (.iaload, 1) := by decide +kernel
theorem dX1_mixInto_48 : decode cX1_mixInto 48 = .ok (.i2l, 1) := by decide +kernel
theorem dX1_mixInto_49 : decode cX1_mixInto 49 = .ok (.ladd, 1) := by decide +kernel
theorem dX1_mixInto_50 : decode cX1_mixInto 50 = .ok (.lstore_n 3, 1) := by decide +kernel
theorem dX1_mixInto_51 : decode cX1_mixInto 51 = .ok (.iinc 5 1, 3) := by decide +kernel
theorem dX1_mixInto_54 : decode cX1_mixInto 54 = .ok (.goto (-30), 3) := by decide +kernel
theorem dX1_mixInto_57 : decode cX1_mixInto 57 = .ok (.iconst 0, 1) := by decide +kernel
theorem dX1_mixInto_58 : decode cX1_mixInto 58 = .ok (.istore 5, 2) := by decide +kernel
theorem dX1_mixInto_60 : decode cX1_mixInto 60 = .ok (.iload 5, 2) := by decide +kernel
theorem dX1_mixInto_62 : decode cX1_mixInto 62 = .ok (.bipush 10, 2) := by decide +kernel
theorem dX1_mixInto_64 : decode cX1_mixInto 64 = .ok (.if_icmp .ge 24, 3) := by decide +kernel
theorem dX1_mixInto_67 : decode cX1_mixInto 67 = .ok (.ldc2_w 77, 3) := by decide +kernel
theorem dX1_mixInto_70 : decode cX1_mixInto 70 = .ok (.lload_n 3, 1) := by decide +kernel
theorem dX1_mixInto_71 : decode cX1_mixInto 71 = .ok (.lmul, 1) := by decide +kernel
theorem dX1_mixInto_72 : decode cX1_mixInto 72 = .ok (.aload_n 0, 1) := by decide +kernel
theorem dX1_mixInto_73 : decode cX1_mixInto 73 = .ok (.getfield 44, 3) := by decide +kernel
theorem dX1_mixInto_76 : decode cX1_mixInto 76 = .ok (.iload 5, 2) := by decide +kernel
theorem dX1_mixInto_78 : decode cX1_mixInto 78 = .ok (.iaload, 1) := by decide +kernel
theorem dX1_mixInto_79 : decode cX1_mixInto 79 = .ok (.i2l, 1) := by decide +kernel
theorem dX1_mixInto_80 : decode cX1_mixInto 80 = .ok (.ladd, 1) := by decide +kernel
theorem dX1_mixInto_81 : decode cX1_mixInto 81 = .ok (.lstore_n 3, 1) := by decide +kernel
theorem dX1_mixInto_82 : decode cX1_mixInto 82 = .ok (.iinc 5 1, 3) := by decide +kernel
theorem dX1_mixInto_85 : decode cX1_mixInto 85 = .ok (.goto (-25), 3) := by decide +kernel
theorem dX1_mixInto_88 : decode cX1_mixInto 88 = .ok (.lload_n 3, 1) := by decide +kernel
theorem dX1_mixInto_89 : decode cX1_mixInto 89 = .ok (.lreturn, 1) := by decide +kernel
def bX1_mixInto_60 (F : Nat) (sM : zOS) (kc_60 : (Int64 × Int32) → Option (Int64)) (x3 : Int64) (x5 : Int32) : Option (Int64) := (if (10 : Int32) ≤ x5 then (some (x3)) else (zchk x5 10 (zlet (((31 : Int64) * x3) + ((zI sM 5 x5.toNatClampNeg).toInt64)) (fun x3_2 : Int64 => (kc_60 (x3_2, (x5 + 1)))))))
set_option maxRecDepth 20000 in
theorem vX1_mixInto_60 {X : zCx} {res : Int64} {F : Nat} {qM : Nat → Nat} {qP : Nat → Nat} {sM : zOS} {sP : zOS} {kc_60 : (Int64 × Int32) → Option (Int64)} (C : zC X RX1 cX1_mixInto 6 0 0) (hR : zR X (some .long) (some (.long res)) [(1, qM, sM), (2, qP, sP)]) (hM50 : qM 50 = qP 0) (hk_60 : ∀ (y3 : Int64) (y5 : Int32), zJ X 6 res (kc_60 (y3, y5)) 60 [(0, (.ref (qM 0))), (3, (.long y3)), (5, (.int y5))] [] [(1, qM, sM), (2, qP, sP)]) (x3 : Int64) (x5 : Int32) : zJ X 6 res (bX1_mixInto_60 F sM kc_60 x3 x5) 60 [(0, (.ref (qM 0))), (3, (.long x3)), (5, (.int x5))] [] [(1, qM, sM), (2, qP, sP)] := by
  unfold bX1_mixInto_60
  refine z_iload (pc := 60) 2 rfl C dX1_mixInto_60 ?_
  refine z_bipush (pc := 62) (10 : Int32) (by decide) C dX1_mixInto_62 ?_
  refine z_icmp_ge (pc := 64) 88 C dX1_mixInto_64 (by decide) ?_ ?_
  · refine z_lload_n (pc := 88) 1 rfl rfl C dX1_mixInto_88 ?_
    exact z_lreturn (pc := 89) C hR dX1_mixInto_89 (fun h => by subst h; exact ⟨rfl, rfl⟩)
  · refine z_ldc2_w (pc := 67) (31 : Int64) zw_708 C dX1_mixInto_67 ?_
    refine z_lload_n (pc := 70) 1 rfl rfl C dX1_mixInto_70 ?_
    refine z_lmul (pc := 71) C dX1_mixInto_71 ?_
    refine z_aload_n (pc := 72) 0 rfl rfl C dX1_mixInto_72 ?_
    refine z_getR (pc := 73) 0 7 5 C dX1_mixInto_73 rfl (by decide) (by decide) rfl zw_213 ?_
    refine z_iload (pc := 76) 2 rfl C dX1_mixInto_76 ?_
    refine z_iald (pc := 78) 0 C dX1_mixInto_78 rfl (by unfold zAr; decide) ?_
    refine z_i2l (pc := 79) C dX1_mixInto_79 ?_
    refine z_ladd (pc := 80) C dX1_mixInto_80 ?_
    refine z_letl (fun x3_2 => ?_)
    refine z_lstore_n (pc := 81) [(0, (.ref (qM 0))), (3, (.long x3_2)), (5, (.int x5))] [1, 0, 2] (by decide) rfl rfl C dX1_mixInto_81 ?_
    refine z_iinc (pc := 82) (x5 + 1) 2 rfl rfl [(0, (.ref (qM 0))), (3, (.long x3_2)), (5, (.int (x5 + 1)))] [1, 2, 0] (by decide) rfl C dX1_mixInto_82 ?_
    refine z_goto (pc := 85) 60 C dX1_mixInto_85 (by decide) ?_
    exact hk_60 _ _
def bX1_mixInto_24 (F : Nat) (sM : zOS) (sP : zOS) (kc_24 : (Int64 × Int32) → Option (Int64)) (x3 : Int64) (x5 : Int32) : Option (Int64) := (if (zF sP 3) ≤ x5 then (zit (P := Int64 × Int32) (R := Int64) (fun kc9 p9 => bX1_mixInto_60 F sM kc9 p9.1 p9.2) F (x3, (0 : Int32))) else (zchk x5 6 (zlet (((31 : Int64) * x3) + ((zI sM 4 x5.toNatClampNeg).toInt64)) (fun x3_3 : Int64 => (kc_24 (x3_3, (x5 + 1)))))))
set_option maxRecDepth 20000 in
theorem vX1_mixInto_24 {X : zCx} {res : Int64} {F : Nat} {qM : Nat → Nat} {qP : Nat → Nat} {sM : zOS} {sP : zOS} {kc_24 : (Int64 × Int32) → Option (Int64)} (C : zC X RX1 cX1_mixInto 6 0 0) (hR : zR X (some .long) (some (.long res)) [(1, qM, sM), (2, qP, sP)]) (hM50 : qM 50 = qP 0) (hk_24 : ∀ (y3 : Int64) (y5 : Int32), zJ X 6 res (kc_24 (y3, y5)) 24 [(0, (.ref (qM 0))), (3, (.long y3)), (5, (.int y5))] [] [(1, qM, sM), (2, qP, sP)]) (x3 : Int64) (x5 : Int32) : zJ X 6 res (bX1_mixInto_24 F sM sP kc_24 x3 x5) 24 [(0, (.ref (qM 0))), (3, (.long x3)), (5, (.int x5))] [] [(1, qM, sM), (2, qP, sP)] := by
  unfold bX1_mixInto_24
  refine z_iload (pc := 24) 2 rfl C dX1_mixInto_24 ?_
  refine z_aload_n (pc := 26) 0 rfl rfl C dX1_mixInto_26 ?_
  refine z_getE (pc := 27) 0 0 50 (qP 0) hM50 C dX1_mixInto_27 rfl (by decide) (by decide) rfl zw_203 ?_
  refine z_getI (pc := 30) 1 3 C dX1_mixInto_30 rfl (by decide) (by decide) rfl zw_116 ?_
  refine z_icmp_ge (pc := 33) 57 C dX1_mixInto_33 (by decide) ?_ ?_
  · refine z_iconst (pc := 57) (0 : Int32) (by decide) C dX1_mixInto_57 ?_
    refine z_istore (pc := 58) [(0, (.ref (qM 0))), (3, (.long x3)), (5, (.int (0 : Int32)))] [1, 2, 0] (by decide) rfl C dX1_mixInto_58 ?_
    show zJ X 6 res _ 60 [(0, (.ref (qM 0))), (3, (.long x3)), (5, (.int (0 : Int32)))] [] [(1, qM, sM), (2, qP, sP)]
    exact zit_J (P := Int64 × Int32) (B := (fun kc9 p9 => bX1_mixInto_60 F sM kc9 p9.1 p9.2)) (fun p9 => [(0, (.ref (qM 0))), (3, (.long p9.1)), (5, (.int p9.2))]) (fun p9 => [(1, qM, sM), (2, qP, sP)]) (fun kc9 hk9 p9 => vX1_mixInto_60 C hR hM50  (fun a0 a1 => hk9 (a0, a1)) p9.1 p9.2) F _
  · refine z_ldc2_w (pc := 36) (31 : Int64) zw_708 C dX1_mixInto_36 ?_
    refine z_lload_n (pc := 39) 1 rfl rfl C dX1_mixInto_39 ?_
    refine z_lmul (pc := 40) C dX1_mixInto_40 ?_
    refine z_aload_n (pc := 41) 0 rfl rfl C dX1_mixInto_41 ?_
    refine z_getR (pc := 42) 0 6 4 C dX1_mixInto_42 rfl (by decide) (by decide) rfl zw_211 ?_
    refine z_iload (pc := 45) 2 rfl C dX1_mixInto_45 ?_
    refine z_iald (pc := 47) 0 C dX1_mixInto_47 rfl (by unfold zAr; decide) ?_
    refine z_i2l (pc := 48) C dX1_mixInto_48 ?_
    refine z_ladd (pc := 49) C dX1_mixInto_49 ?_
    refine z_letl (fun x3_3 => ?_)
    refine z_lstore_n (pc := 50) [(0, (.ref (qM 0))), (3, (.long x3_3)), (5, (.int x5))] [1, 0, 2] (by decide) rfl rfl C dX1_mixInto_50 ?_
    refine z_iinc (pc := 51) (x5 + 1) 2 rfl rfl [(0, (.ref (qM 0))), (3, (.long x3_3)), (5, (.int (x5 + 1)))] [1, 2, 0] (by decide) rfl C dX1_mixInto_51 ?_
    refine z_goto (pc := 54) 24 C dX1_mixInto_54 (by decide) ?_
    exact hk_24 _ _
def fX1_mixInto (F : Nat) (x1 : Int64) (sM : zOS) (sP : zOS) : Option (Int64) := (zlet (((31 : Int64) * x1) + ((zF sM 8).toInt64)) (fun x3_1 : Int64 => (if (zF sM 8) = 0 then (some (x3_1)) else (zit (P := Int64 × Int32) (R := Int64) (fun kc9 p9 => bX1_mixInto_24 F sM sP kc9 p9.1 p9.2) F (x3_1, (0 : Int32))))))
set_option maxRecDepth 20000 in
theorem wX1_mixInto {X : zCx} {res : Int64} {F : Nat} {qM : Nat → Nat} {qP : Nat → Nat} {x1 : Int64} {sM : zOS} {sP : zOS} (C : zC X RX1 cX1_mixInto 6 0 0) (hR : zR X (some .long) (some (.long res)) [(1, qM, sM), (2, qP, sP)]) (hM50 : qM 50 = qP 0) : zJ X 6 res (fX1_mixInto F x1 sM sP) 0 [(0, (.ref (qM 0))), (1, (.long x1))] [] [(1, qM, sM), (2, qP, sP)] := by
  unfold fX1_mixInto
  refine z_ldc2_w (pc := 0) (31 : Int64) zw_708 C dX1_mixInto_0 ?_
  refine z_lload_n (pc := 3) 1 rfl rfl C dX1_mixInto_3 ?_
  refine z_lmul (pc := 4) C dX1_mixInto_4 ?_
  refine z_aload_n (pc := 5) 0 rfl rfl C dX1_mixInto_5 ?_
  refine z_getI (pc := 6) 0 8 C dX1_mixInto_6 rfl (by decide) (by decide) rfl zw_215 ?_
  refine z_i2l (pc := 9) C dX1_mixInto_9 ?_
  refine z_ladd (pc := 10) C dX1_mixInto_10 ?_
  refine z_letl (fun x3_1 => ?_)
  refine z_lstore_n (pc := 11) [(0, (.ref (qM 0))), (1, (.long x1)), (3, (.long x3_1))] [1, 2, 0] (by decide) rfl rfl C dX1_mixInto_11 ?_
  refine z_aload_n (pc := 12) 0 rfl rfl C dX1_mixInto_12 ?_
  refine z_getI (pc := 13) 0 8 C dX1_mixInto_13 rfl (by decide) (by decide) rfl zw_215 ?_
  refine z_if_ne (pc := 16) 21 C dX1_mixInto_16 (by decide) ?_ ?_
  · refine z_lload_n (pc := 19) 2 rfl rfl C dX1_mixInto_19 ?_
    exact z_lreturn (pc := 20) C hR dX1_mixInto_20 (fun h => by subst h; exact ⟨rfl, rfl⟩)
  · refine z_iconst (pc := 21) (0 : Int32) (by decide) C dX1_mixInto_21 ?_
    refine z_istore (pc := 22) [(0, (.ref (qM 0))), (1, (.long x1)), (3, (.long x3_1)), (5, (.int (0 : Int32)))] [1, 2, 3, 0] (by decide) rfl C dX1_mixInto_22 ?_
    refine z_lv [(0, (.ref (qM 0))), (3, (.long x3_1)), (5, (.int (0 : Int32)))] [0, 2, 3] rfl ?_
    show zJ X 6 res _ 24 [(0, (.ref (qM 0))), (3, (.long x3_1)), (5, (.int (0 : Int32)))] [] [(1, qM, sM), (2, qP, sP)]
    exact zit_J (P := Int64 × Int32) (B := (fun kc9 p9 => bX1_mixInto_24 F sM sP kc9 p9.1 p9.2)) (fun p9 => [(0, (.ref (qM 0))), (3, (.long p9.1)), (5, (.int p9.2))]) (fun p9 => [(1, qM, sM), (2, qP, sP)]) (fun kc9 hk9 p9 => vX1_mixInto_24 C hR hM50  (fun a0 a1 => hk9 (a0, a1)) p9.1 p9.2) F _
theorem mX1_mixInto {F : Nat} {qM : Nat → Nat} {qP : Nat → Nat} {x1 : Int64} {sM : zOS} {sP : zOS} {res : Int64} (hM50 : qM 50 = qP 0) (hf : fX1_mixInto F x1 sM sP = some res) : zM yX1_mixInto cX1_mixInto 6 (some .long) 0 0 [(.ref (qM 0)), (.long x1)] [(1, qM, sM), (2, qP, sP)] (some (.long res)) [(1, qM, sM), (2, qP, sP)] := zM_of (by decide +kernel) (Nat.le_of_ble_eq_true rfl) (fun X C hR => wX1_mixInto (F := F) C hR hM50 hf)
