theorem zw_97 : (Jvm.Cond.classLink "DrawnGates" (9 : Nat) "DrawnGates$Matching") ∈ zTb := zk_in 97 (by decide +kernel) (by decide +kernel)
theorem zw_98 : (Jvm.Cond.instantiable "DrawnGates$Matching" (10 : Nat)) ∈ zTb := zk_in 98 (by decide +kernel) (by decide +kernel)
theorem zw_103 : (Jvm.Cond.classLink "DrawnGates$Matching" (9 : Nat) "DrawnGates$Plan") ∈ zTb := zk_in 103 (by decide +kernel) (by decide +kernel)
theorem zw_104 : (Jvm.Cond.instantiable "DrawnGates$Plan" (5 : Nat)) ∈ zTb := zk_in 104 (by decide +kernel) (by decide +kernel)
theorem zw_133 : (Jvm.Cond.arrayClass Jvm.ClassFile.FieldType.long) ∈ zTb := zk_in 133 (by decide +kernel) (by decide +kernel)
theorem zw_134 : (Jvm.Cond.arrayClass Jvm.ClassFile.FieldType.int) ∈ zTb := zk_in 134 (by decide +kernel) (by decide +kernel)
theorem zw_135 : (Jvm.Cond.classLink "DrawnGates$Matching" (18 : Nat) "DrawnGates$Layout") ∈ zTb := zk_in 135 (by decide +kernel) (by decide +kernel)
theorem zw_136 : (Jvm.Cond.instantiable "DrawnGates$Layout" (16 : Nat)) ∈ zTb := zk_in 136 (by decide +kernel) (by decide +kernel)
theorem zw_141 : (Jvm.Cond.classLink "DrawnGates$Layout" (28 : Nat) "[[J") ∈ zTb := zk_in 141 (by decide +kernel) (by decide +kernel)
theorem zw_201 : (Jvm.Cond.classLink "DrawnGates$Matching" (32 : Nat) "[[I") ∈ zTb := zk_in 201 (by decide +kernel) (by decide +kernel)
theorem zw_240 : (Jvm.Cond.classLink "DrawnGates" (28 : Nat) "DrawnGates$Plan") ∈ zTb := zk_in 240 (by decide +kernel) (by decide +kernel)
theorem zw_243 : (Jvm.Cond.classLink "DrawnGates" (38 : Nat) "DrawnGates$Text") ∈ zTb := zk_in 243 (by decide +kernel) (by decide +kernel)
theorem zw_244 : (Jvm.Cond.instantiable "DrawnGates$Text" (3 : Nat)) ∈ zTb := zk_in 244 (by decide +kernel) (by decide +kernel)
theorem zw_260 : (Jvm.Cond.arrayClass Jvm.ClassFile.FieldType.byte) ∈ zTb := zk_in 260 (by decide +kernel) (by decide +kernel)
theorem zin_long (M : Nat) (c : ClassId) : Jvm.Free.Multi.innerC c M (defaultValue .long) = vp_cell c (M, .inr (.inl (fun _ => 0))) := by
  show ({ cls := c, slots := Array.replicate M (.long 0), vm := .none } : Cell) = arrV c M (fun _ => .long 0)
  exact arrV_new _ _ _
theorem zin_int (M : Nat) (c : ClassId) : Jvm.Free.Multi.innerC c M (defaultValue .int) = vp_cell c (M, .inl (fun _ => 0)) := by
  show ({ cls := c, slots := Array.replicate M (.int 0), vm := .none } : Cell) = arrV c M (fun _ => .int 0)
  exact arrV_new _ _ _
theorem dX2_init_0 : decode cX2_init 0 = .ok (.aload_n 0, 1) := by decide +kernel
theorem dX2_init_1 : decode cX2_init 1 = .ok (.invokespecial 3, 3) := by decide +kernel
theorem dX2_init_4 : decode cX2_init 4 = .ok (.aload_n 0, 1) := by decide +kernel
theorem dX2_init_5 : decode cX2_init 5 = .ok (.iconst 4, 1) := by decide +kernel
theorem dX2_init_6 : decode cX2_init 6 = .ok (.newarray .long, 2) := by decide +kernel
theorem dX2_init_8 : decode cX2_init 8 = .ok (.putfield 9, 3) := by decide +kernel
theorem dX2_init_11 : decode cX2_init 11 = .ok (.aload_n 0, 1) := by decide +kernel
theorem dX2_init_12 : decode cX2_init 12 = .ok (.bipush 18, 2) := by decide +kernel
theorem dX2_init_14 : decode cX2_init 14 = .ok (.newarray .int, 2) := by decide +kernel
theorem dX2_init_16 : decode cX2_init 16 = .ok (.putfield 15, 3) := by decide +kernel
theorem dX2_init_19 : decode cX2_init 19 = .ok (.aload_n 0, 1) := by decide +kernel
theorem dX2_init_20 : decode cX2_init 20 = .ok (.bipush 18, 2) := by decide +kernel
theorem dX2_init_22 : decode cX2_init 22 = .ok (.newarray .int, 2) := by decide +kernel
theorem dX2_init_24 : decode cX2_init 24 = .ok (.putfield 19, 3) := by decide +kernel
theorem dX2_init_27 : decode cX2_init 27 = .ok (.aload_n 0, 1) := by decide +kernel
theorem dX2_init_28 : decode cX2_init 28 = .ok (.iconst 0, 1) := by decide +kernel
theorem dX2_init_29 : decode cX2_init 29 = .ok (.putfield 22, 3) := by decide +kernel
theorem dX2_init_32 : decode cX2_init 32 = .ok (.aload_n 0, 1) := by decide +kernel
theorem dX2_init_33 : decode cX2_init 33 = .ok (.iconst 0, 1) := by decide +kernel
theorem dX2_init_34 : decode cX2_init 34 = .ok (.putfield 26, 3) := by decide +kernel
theorem dX2_init_37 : decode cX2_init 37 = .ok (.return_, 1) := by decide +kernel
def rmX2_init : Room := { frames := 1, cells := 3, slots := 40, locals := 20 }
set_option maxRecDepth 20000 in
theorem mX2_init : zMI yX2_init cX2_init 1 rmX2_init 2 [.null, .null, .null, .int 0, .int 0] [] (fun h0 cs1 => ∃ q : Nat → Nat, q 0 = h0 ∧ cs1 = [(2, q, zZ)]) := by
  refine zMI_of (by decide +kernel) rfl (Nat.le_of_ble_eq_true rfl) (fun X h0 C hIn hR => ?_)
  refine v_aload_n (pc := 0) (xc := 0) (xs := 0) 0 rfl rfl C dX2_init_0 ?_
  refine v_obj (pc := 1) (xc := 0) (xs := 0) C dX2_init_1 zw_108 zw_95 zw_96 (Nat.le_of_ble_eq_true rfl) (Nat.le_of_ble_eq_true rfl) ?_
  refine v_aload_n (pc := 4) (xc := 0) (xs := 0) 0 rfl rfl C dX2_init_4 ?_
  refine v_iconst (pc := 5) (xc := 0) (xs := 0) (4 : Int32) (by decide) C dX2_init_5 ?_
  refine v_newa (pc := 6) (xc := 0) (xs := 0) .long .long 1 4 (.inr (.inl (fun _ => 0))) C dX2_init_6 zw_133 rfl (fun _ => rfl) (by simp) (fun _ => rfl) (by decide) (by decide) (Nat.le_of_ble_eq_true rfl) (Nat.le_of_ble_eq_true rfl) (Nat.le_of_ble_eq_true rfl) (fun a1 => [(h0, .inr (2, [.null, .null, .null, .int 0, .int 0])), (a1, .inl (zkA X 1, 4, .inr (.inl (fun _ => 0))))]) (fun _ => rfl) (fun a1 => ?_)
  refine v_putF (pc := 8) (xc := 1) (xs := 4) 0 2 0 hIn C dX2_init_8 rfl (by decide) (by decide) zw_109 rfl rfl rfl rfl (Nat.le_of_ble_eq_true rfl) [(h0, .inr (2, [.ref a1, .null, .null, .int 0, .int 0])), (a1, .inl (zkA X 1, 4, .inr (.inl (fun _ => 0))))] rfl ?_
  refine v_aload_n (pc := 11) (xc := 1) (xs := 4) 0 rfl rfl C dX2_init_11 ?_
  refine v_bipush (pc := 12) (xc := 1) (xs := 4) (18 : Int32) (by decide) C dX2_init_12 ?_
  refine v_newa (pc := 14) (xc := 1) (xs := 4) .int .int 0 18 (.inl (fun _ => 0)) C dX2_init_14 zw_134 rfl (fun _ => rfl) (by simp) (fun _ => rfl) (by decide) (by decide) (Nat.le_of_ble_eq_true rfl) (Nat.le_of_ble_eq_true rfl) (Nat.le_of_ble_eq_true rfl) (fun a2 => [(h0, .inr (2, [.ref a1, .null, .null, .int 0, .int 0])), (a1, .inl (zkA X 1, 4, .inr (.inl (fun _ => 0)))), (a2, .inl (zkA X 0, 18, .inl (fun _ => 0)))]) (fun _ => rfl) (fun a2 => ?_)
  refine v_putF (pc := 16) (xc := 2) (xs := 22) 0 2 1 hIn C dX2_init_16 rfl (by decide) (by decide) zw_111 rfl rfl rfl rfl (Nat.le_of_ble_eq_true rfl) [(h0, .inr (2, [.ref a1, .ref a2, .null, .int 0, .int 0])), (a1, .inl (zkA X 1, 4, .inr (.inl (fun _ => 0)))), (a2, .inl (zkA X 0, 18, .inl (fun _ => 0)))] rfl ?_
  refine v_aload_n (pc := 19) (xc := 2) (xs := 22) 0 rfl rfl C dX2_init_19 ?_
  refine v_bipush (pc := 20) (xc := 2) (xs := 22) (18 : Int32) (by decide) C dX2_init_20 ?_
  refine v_newa (pc := 22) (xc := 2) (xs := 22) .int .int 0 18 (.inl (fun _ => 0)) C dX2_init_22 zw_134 rfl (fun _ => rfl) (by simp) (fun _ => rfl) (by decide) (by decide) (Nat.le_of_ble_eq_true rfl) (Nat.le_of_ble_eq_true rfl) (Nat.le_of_ble_eq_true rfl) (fun a3 => [(h0, .inr (2, [.ref a1, .ref a2, .null, .int 0, .int 0])), (a1, .inl (zkA X 1, 4, .inr (.inl (fun _ => 0)))), (a2, .inl (zkA X 0, 18, .inl (fun _ => 0))), (a3, .inl (zkA X 0, 18, .inl (fun _ => 0)))]) (fun _ => rfl) (fun a3 => ?_)
  refine v_putF (pc := 24) (xc := 3) (xs := 40) 0 2 2 hIn C dX2_init_24 rfl (by decide) (by decide) zw_113 rfl rfl rfl rfl (Nat.le_of_ble_eq_true rfl) [(h0, .inr (2, [.ref a1, .ref a2, .ref a3, .int 0, .int 0])), (a1, .inl (zkA X 1, 4, .inr (.inl (fun _ => 0)))), (a2, .inl (zkA X 0, 18, .inl (fun _ => 0))), (a3, .inl (zkA X 0, 18, .inl (fun _ => 0)))] rfl ?_
  refine v_aload_n (pc := 27) (xc := 3) (xs := 40) 0 rfl rfl C dX2_init_27 ?_
  refine v_iconst (pc := 28) (xc := 3) (xs := 40) (0 : Int32) (by decide) C dX2_init_28 ?_
  refine v_put (pc := 29) (xc := 3) (xs := 40) 0 2 3 C dX2_init_29 rfl (by decide) (by decide) zw_115 rfl rfl rfl (Nat.le_of_ble_eq_true rfl) [(h0, .inr (2, [.ref a1, .ref a2, .ref a3, .int 0, .int 0])), (a1, .inl (zkA X 1, 4, .inr (.inl (fun _ => 0)))), (a2, .inl (zkA X 0, 18, .inl (fun _ => 0))), (a3, .inl (zkA X 0, 18, .inl (fun _ => 0)))] rfl ?_
  refine v_aload_n (pc := 32) (xc := 3) (xs := 40) 0 rfl rfl C dX2_init_32 ?_
  refine v_iconst (pc := 33) (xc := 3) (xs := 40) (0 : Int32) (by decide) C dX2_init_33 ?_
  refine v_put (pc := 34) (xc := 3) (xs := 40) 0 2 4 C dX2_init_34 rfl (by decide) (by decide) zw_118 rfl rfl rfl (Nat.le_of_ble_eq_true rfl) [(h0, .inr (2, [.ref a1, .ref a2, .ref a3, .int 0, .int 0])), (a1, .inl (zkA X 1, 4, .inr (.inl (fun _ => 0)))), (a2, .inl (zkA X 0, 18, .inl (fun _ => 0))), (a3, .inl (zkA X 0, 18, .inl (fun _ => 0)))] rfl ?_
  exact v_return (pc := 37) (xc := 3) (xs := 40) [(2, (fun k => [h0, a1, a2, a3].getD k 0), zZ)] C hR dX2_init_37 ⟨(fun k => [h0, a1, a2, a3].getD k 0), rfl, rfl⟩ (List.Perm.of_eq rfl) rfl rfl
theorem dX3_init_0 : decode cX3_init 0 = .ok (.aload_n 0, 1) := by decide +kernel
theorem dX3_init_1 : decode cX3_init 1 = .ok (.invokespecial 3, 3) := by decide +kernel
theorem dX3_init_4 : decode cX3_init 4 = .ok (.aload_n 0, 1) := by decide +kernel
theorem dX3_init_5 : decode cX3_init 5 = .ok (.sipush 150, 3) := by decide +kernel
theorem dX3_init_8 : decode cX3_init 8 = .ok (.newarray .byte, 2) := by decide +kernel
theorem dX3_init_10 : decode cX3_init 10 = .ok (.putfield 9, 3) := by decide +kernel
theorem dX3_init_13 : decode cX3_init 13 = .ok (.aload_n 0, 1) := by decide +kernel
theorem dX3_init_14 : decode cX3_init 14 = .ok (.iconst 5, 1) := by decide +kernel
theorem dX3_init_15 : decode cX3_init 15 = .ok (.newarray .int, 2) := by decide +kernel
theorem dX3_init_17 : decode cX3_init 17 = .ok (.putfield 15, 3) := by decide +kernel
theorem dX3_init_20 : decode cX3_init 20 = .ok (.aload_n 0, 1) := by decide +kernel
theorem dX3_init_21 : decode cX3_init 21 = .ok (.iconst 0, 1) := by decide +kernel
theorem dX3_init_22 : decode cX3_init 22 = .ok (.putfield 19, 3) := by decide +kernel
theorem dX3_init_25 : decode cX3_init 25 = .ok (.return_, 1) := by decide +kernel
def rmX3_init : Room := { frames := 1, cells := 2, slots := 155, locals := 20 }
set_option maxRecDepth 20000 in
theorem mX3_init : zMI yX3_init cX3_init 1 rmX3_init 3 [.null, .null, .int 0] [] (fun h0 cs1 => ∃ q : Nat → Nat, q 0 = h0 ∧ cs1 = [(3, q, zZ)]) := by
  refine zMI_of (by decide +kernel) rfl (Nat.le_of_ble_eq_true rfl) (fun X h0 C hIn hR => ?_)
  refine v_aload_n (pc := 0) (xc := 0) (xs := 0) 0 rfl rfl C dX3_init_0 ?_
  refine v_obj (pc := 1) (xc := 0) (xs := 0) C dX3_init_1 zw_248 zw_95 zw_96 (Nat.le_of_ble_eq_true rfl) (Nat.le_of_ble_eq_true rfl) ?_
  refine v_aload_n (pc := 4) (xc := 0) (xs := 0) 0 rfl rfl C dX3_init_4 ?_
  refine v_sipush (pc := 5) (xc := 0) (xs := 0) (150 : Int32) (by decide) C dX3_init_5 ?_
  refine v_newa (pc := 8) (xc := 0) (xs := 0) .byte .byte 2 150 (.inl (fun _ => 0)) C dX3_init_8 zw_260 rfl (fun _ => rfl) (by simp) (fun _ => rfl) (by decide) (by decide) (Nat.le_of_ble_eq_true rfl) (Nat.le_of_ble_eq_true rfl) (Nat.le_of_ble_eq_true rfl) (fun a1 => [(h0, .inr (3, [.null, .null, .int 0])), (a1, .inl (zkA X 2, 150, .inl (fun _ => 0)))]) (fun _ => rfl) (fun a1 => ?_)
  refine v_putF (pc := 10) (xc := 1) (xs := 150) 0 3 0 hIn C dX3_init_10 rfl (by decide) (by decide) zw_249 rfl rfl rfl rfl (Nat.le_of_ble_eq_true rfl) [(h0, .inr (3, [.ref a1, .null, .int 0])), (a1, .inl (zkA X 2, 150, .inl (fun _ => 0)))] rfl ?_
  refine v_aload_n (pc := 13) (xc := 1) (xs := 150) 0 rfl rfl C dX3_init_13 ?_
  refine v_iconst (pc := 14) (xc := 1) (xs := 150) (5 : Int32) (by decide) C dX3_init_14 ?_
  refine v_newa (pc := 15) (xc := 1) (xs := 150) .int .int 0 5 (.inl (fun _ => 0)) C dX3_init_15 zw_134 rfl (fun _ => rfl) (by simp) (fun _ => rfl) (by decide) (by decide) (Nat.le_of_ble_eq_true rfl) (Nat.le_of_ble_eq_true rfl) (Nat.le_of_ble_eq_true rfl) (fun a2 => [(h0, .inr (3, [.ref a1, .null, .int 0])), (a1, .inl (zkA X 2, 150, .inl (fun _ => 0))), (a2, .inl (zkA X 0, 5, .inl (fun _ => 0)))]) (fun _ => rfl) (fun a2 => ?_)
  refine v_putF (pc := 17) (xc := 2) (xs := 155) 0 3 1 hIn C dX3_init_17 rfl (by decide) (by decide) zw_250 rfl rfl rfl rfl (Nat.le_of_ble_eq_true rfl) [(h0, .inr (3, [.ref a1, .ref a2, .int 0])), (a1, .inl (zkA X 2, 150, .inl (fun _ => 0))), (a2, .inl (zkA X 0, 5, .inl (fun _ => 0)))] rfl ?_
  refine v_aload_n (pc := 20) (xc := 2) (xs := 155) 0 rfl rfl C dX3_init_20 ?_
  refine v_iconst (pc := 21) (xc := 2) (xs := 155) (0 : Int32) (by decide) C dX3_init_21 ?_
  refine v_put (pc := 22) (xc := 2) (xs := 155) 0 3 2 C dX3_init_22 rfl (by decide) (by decide) zw_251 rfl rfl rfl (Nat.le_of_ble_eq_true rfl) [(h0, .inr (3, [.ref a1, .ref a2, .int 0])), (a1, .inl (zkA X 2, 150, .inl (fun _ => 0))), (a2, .inl (zkA X 0, 5, .inl (fun _ => 0)))] rfl ?_
  exact v_return (pc := 25) (xc := 2) (xs := 155) [(3, (fun k => [h0, a1, a2].getD k 0), zZ)] C hR dX3_init_25 ⟨(fun k => [h0, a1, a2].getD k 0), rfl, rfl⟩ (List.Perm.of_eq rfl) rfl rfl
theorem dX0_init_0 : decode cX0_init 0 = .ok (.aload_n 0, 1) := by decide +kernel
theorem dX0_init_1 : decode cX0_init 1 = .ok (.invokespecial 3, 3) := by decide +kernel
theorem dX0_init_4 : decode cX0_init 4 = .ok (.aload_n 0, 1) := by decide +kernel
theorem dX0_init_5 : decode cX0_init 5 = .ok (.iconst 4, 1) := by decide +kernel
theorem dX0_init_6 : decode cX0_init 6 = .ok (.newarray .long, 2) := by decide +kernel
theorem dX0_init_8 : decode cX0_init 8 = .ok (.putfield 9, 3) := by decide +kernel
theorem dX0_init_11 : decode cX0_init 11 = .ok (.aload_n 0, 1) := by decide +kernel
theorem dX0_init_12 : decode cX0_init 12 = .ok (.bipush 96, 2) := by decide +kernel
theorem dX0_init_14 : decode cX0_init 14 = .ok (.newarray .long, 2) := by decide +kernel
theorem dX0_init_16 : decode cX0_init 16 = .ok (.putfield 15, 3) := by decide +kernel
theorem dX0_init_19 : decode cX0_init 19 = .ok (.aload_n 0, 1) := by decide +kernel
theorem dX0_init_20 : decode cX0_init 20 = .ok (.bipush 96, 2) := by decide +kernel
theorem dX0_init_22 : decode cX0_init 22 = .ok (.newarray .int, 2) := by decide +kernel
theorem dX0_init_24 : decode cX0_init 24 = .ok (.putfield 18, 3) := by decide +kernel
theorem dX0_init_27 : decode cX0_init 27 = .ok (.aload_n 0, 1) := by decide +kernel
theorem dX0_init_28 : decode cX0_init 28 = .ok (.bipush 96, 2) := by decide +kernel
theorem dX0_init_30 : decode cX0_init 30 = .ok (.newarray .int, 2) := by decide +kernel
theorem dX0_init_32 : decode cX0_init 32 = .ok (.putfield 22, 3) := by decide +kernel
theorem dX0_init_35 : decode cX0_init 35 = .ok (.aload_n 0, 1) := by decide +kernel
theorem dX0_init_36 : decode cX0_init 36 = .ok (.bipush 96, 2) := by decide +kernel
theorem dX0_init_38 : decode cX0_init 38 = .ok (.newarray .int, 2) := by decide +kernel
theorem dX0_init_40 : decode cX0_init 40 = .ok (.putfield 25, 3) := by decide +kernel
theorem dX0_init_43 : decode cX0_init 43 = .ok (.aload_n 0, 1) := by decide +kernel
theorem dX0_init_44 : decode cX0_init 44 = .ok (.iconst 3, 1) := by decide +kernel
theorem dX0_init_45 : decode cX0_init 45 = .ok (.bipush 96, 2) := by decide +kernel
theorem dX0_init_47 : decode cX0_init 47 = .ok (.multianewarray 28 2, 4) := by decide +kernel
theorem dX0_init_51 : decode cX0_init 51 = .ok (.putfield 30, 3) := by decide +kernel
theorem dX0_init_54 : decode cX0_init 54 = .ok (.aload_n 0, 1) := by decide +kernel
theorem dX0_init_55 : decode cX0_init 55 = .ok (.bipush 96, 2) := by decide +kernel
theorem dX0_init_57 : decode cX0_init 57 = .ok (.newarray .int, 2) := by decide +kernel
theorem dX0_init_59 : decode cX0_init 59 = .ok (.putfield 33, 3) := by decide +kernel
theorem dX0_init_62 : decode cX0_init 62 = .ok (.aload_n 0, 1) := by decide +kernel
theorem dX0_init_63 : decode cX0_init 63 = .ok (.bipush 32, 2) := by decide +kernel
theorem dX0_init_65 : decode cX0_init 65 = .ok (.newarray .long, 2) := by decide +kernel
theorem dX0_init_67 : decode cX0_init 67 = .ok (.putfield 36, 3) := by decide +kernel
theorem dX0_init_70 : decode cX0_init 70 = .ok (.aload_n 0, 1) := by decide +kernel
theorem dX0_init_71 : decode cX0_init 71 = .ok (.bipush 32, 2) := by decide +kernel
theorem dX0_init_73 : decode cX0_init 73 = .ok (.newarray .int, 2) := by decide +kernel
theorem dX0_init_75 : decode cX0_init 75 = .ok (.putfield 39, 3) := by decide +kernel
theorem dX0_init_78 : decode cX0_init 78 = .ok (.aload_n 0, 1) := by decide +kernel
theorem dX0_init_79 : decode cX0_init 79 = .ok (.bipush 32, 2) := by decide +kernel
theorem dX0_init_81 : decode cX0_init 81 = .ok (.newarray .int, 2) := by decide +kernel
theorem dX0_init_83 : decode cX0_init 83 = .ok (.putfield 42, 3) := by decide +kernel
theorem dX0_init_86 : decode cX0_init 86 = .ok (.aload_n 0, 1) := by decide +kernel
theorem dX0_init_87 : decode cX0_init 87 = .ok (.bipush 32, 2) := by decide +kernel
theorem dX0_init_89 : decode cX0_init 89 = .ok (.newarray .int, 2) := by decide +kernel
theorem dX0_init_91 : decode cX0_init 91 = .ok (.putfield 45, 3) := by decide +kernel
theorem dX0_init_94 : decode cX0_init 94 = .ok (.aload_n 0, 1) := by decide +kernel
theorem dX0_init_95 : decode cX0_init 95 = .ok (.bipush 32, 2) := by decide +kernel
theorem dX0_init_97 : decode cX0_init 97 = .ok (.newarray .int, 2) := by decide +kernel
theorem dX0_init_99 : decode cX0_init 99 = .ok (.putfield 48, 3) := by decide +kernel
theorem dX0_init_102 : decode cX0_init 102 = .ok (.aload_n 0, 1) := by decide +kernel
theorem dX0_init_103 : decode cX0_init 103 = .ok (.iconst 0, 1) := by decide +kernel
theorem dX0_init_104 : decode cX0_init 104 = .ok (.putfield 51, 3) := by decide +kernel
theorem dX0_init_107 : decode cX0_init 107 = .ok (.aload_n 0, 1) := by decide +kernel
theorem dX0_init_108 : decode cX0_init 108 = .ok (.iconst 0, 1) := by decide +kernel
theorem dX0_init_109 : decode cX0_init 109 = .ok (.putfield 55, 3) := by decide +kernel
theorem dX0_init_112 : decode cX0_init 112 = .ok (.aload_n 0, 1) := by decide +kernel
theorem dX0_init_113 : decode cX0_init 113 = .ok (.iconst 0, 1) := by decide +kernel
theorem dX0_init_114 : decode cX0_init 114 = .ok (.putfield 58, 3) := by decide +kernel
theorem dX0_init_117 : decode cX0_init 117 = .ok (.aload_n 0, 1) := by decide +kernel
theorem dX0_init_118 : decode cX0_init 118 = .ok (.iconst 0, 1) := by decide +kernel
theorem dX0_init_119 : decode cX0_init 119 = .ok (.putfield 61, 3) := by decide +kernel
theorem dX0_init_122 : decode cX0_init 122 = .ok (.return_, 1) := by decide +kernel
def rmX0_init : Room := { frames := 1, cells := 15, slots := 935, locals := 20 }
set_option maxRecDepth 20000 in
theorem mX0_init : zMI yX0_init cX0_init 1 rmX0_init 0 [.null, .null, .null, .null, .null, .null, .null, .null, .null, .null, .null, .null, .int 0, .int 0, .int 0, .int 0] [] (fun h0 cs1 => ∃ q : Nat → Nat, q 0 = h0 ∧ cs1 = [(0, q, zZ)]) := by
  refine zMI_of (by decide +kernel) rfl (Nat.le_of_ble_eq_true rfl) (fun X h0 C hIn hR => ?_)
  refine v_aload_n (pc := 0) (xc := 0) (xs := 0) 0 rfl rfl C dX0_init_0 ?_
  refine v_obj (pc := 1) (xc := 0) (xs := 0) C dX0_init_1 zw_140 zw_95 zw_96 (Nat.le_of_ble_eq_true rfl) (Nat.le_of_ble_eq_true rfl) ?_
  refine v_aload_n (pc := 4) (xc := 0) (xs := 0) 0 rfl rfl C dX0_init_4 ?_
  refine v_iconst (pc := 5) (xc := 0) (xs := 0) (4 : Int32) (by decide) C dX0_init_5 ?_
  refine v_newa (pc := 6) (xc := 0) (xs := 0) .long .long 1 4 (.inr (.inl (fun _ => 0))) C dX0_init_6 zw_133 rfl (fun _ => rfl) (by simp) (fun _ => rfl) (by decide) (by decide) (Nat.le_of_ble_eq_true rfl) (Nat.le_of_ble_eq_true rfl) (Nat.le_of_ble_eq_true rfl) (fun a1 => [(h0, .inr (0, [.null, .null, .null, .null, .null, .null, .null, .null, .null, .null, .null, .null, .int 0, .int 0, .int 0, .int 0])), (a1, .inl (zkA X 1, 4, .inr (.inl (fun _ => 0))))]) (fun _ => rfl) (fun a1 => ?_)
  refine v_putF (pc := 8) (xc := 1) (xs := 4) 0 0 0 hIn C dX0_init_8 rfl (by decide) (by decide) zw_143 rfl rfl rfl rfl (Nat.le_of_ble_eq_true rfl) [(h0, .inr (0, [.ref a1, .null, .null, .null, .null, .null, .null, .null, .null, .null, .null, .null, .int 0, .int 0, .int 0, .int 0])), (a1, .inl (zkA X 1, 4, .inr (.inl (fun _ => 0))))] rfl ?_
  refine v_aload_n (pc := 11) (xc := 1) (xs := 4) 0 rfl rfl C dX0_init_11 ?_
  refine v_bipush (pc := 12) (xc := 1) (xs := 4) (96 : Int32) (by decide) C dX0_init_12 ?_
  refine v_newa (pc := 14) (xc := 1) (xs := 4) .long .long 1 96 (.inr (.inl (fun _ => 0))) C dX0_init_14 zw_133 rfl (fun _ => rfl) (by simp) (fun _ => rfl) (by decide) (by decide) (Nat.le_of_ble_eq_true rfl) (Nat.le_of_ble_eq_true rfl) (Nat.le_of_ble_eq_true rfl) (fun a2 => [(h0, .inr (0, [.ref a1, .null, .null, .null, .null, .null, .null, .null, .null, .null, .null, .null, .int 0, .int 0, .int 0, .int 0])), (a1, .inl (zkA X 1, 4, .inr (.inl (fun _ => 0)))), (a2, .inl (zkA X 1, 96, .inr (.inl (fun _ => 0))))]) (fun _ => rfl) (fun a2 => ?_)
  refine v_putF (pc := 16) (xc := 2) (xs := 100) 0 0 1 hIn C dX0_init_16 rfl (by decide) (by decide) zw_144 rfl rfl rfl rfl (Nat.le_of_ble_eq_true rfl) [(h0, .inr (0, [.ref a1, .ref a2, .null, .null, .null, .null, .null, .null, .null, .null, .null, .null, .int 0, .int 0, .int 0, .int 0])), (a1, .inl (zkA X 1, 4, .inr (.inl (fun _ => 0)))), (a2, .inl (zkA X 1, 96, .inr (.inl (fun _ => 0))))] rfl ?_
  refine v_aload_n (pc := 19) (xc := 2) (xs := 100) 0 rfl rfl C dX0_init_19 ?_
  refine v_bipush (pc := 20) (xc := 2) (xs := 100) (96 : Int32) (by decide) C dX0_init_20 ?_
  refine v_newa (pc := 22) (xc := 2) (xs := 100) .int .int 0 96 (.inl (fun _ => 0)) C dX0_init_22 zw_134 rfl (fun _ => rfl) (by simp) (fun _ => rfl) (by decide) (by decide) (Nat.le_of_ble_eq_true rfl) (Nat.le_of_ble_eq_true rfl) (Nat.le_of_ble_eq_true rfl) (fun a3 => [(h0, .inr (0, [.ref a1, .ref a2, .null, .null, .null, .null, .null, .null, .null, .null, .null, .null, .int 0, .int 0, .int 0, .int 0])), (a1, .inl (zkA X 1, 4, .inr (.inl (fun _ => 0)))), (a2, .inl (zkA X 1, 96, .inr (.inl (fun _ => 0)))), (a3, .inl (zkA X 0, 96, .inl (fun _ => 0)))]) (fun _ => rfl) (fun a3 => ?_)
  refine v_putF (pc := 24) (xc := 3) (xs := 196) 0 0 2 hIn C dX0_init_24 rfl (by decide) (by decide) zw_145 rfl rfl rfl rfl (Nat.le_of_ble_eq_true rfl) [(h0, .inr (0, [.ref a1, .ref a2, .ref a3, .null, .null, .null, .null, .null, .null, .null, .null, .null, .int 0, .int 0, .int 0, .int 0])), (a1, .inl (zkA X 1, 4, .inr (.inl (fun _ => 0)))), (a2, .inl (zkA X 1, 96, .inr (.inl (fun _ => 0)))), (a3, .inl (zkA X 0, 96, .inl (fun _ => 0)))] rfl ?_
  refine v_aload_n (pc := 27) (xc := 3) (xs := 196) 0 rfl rfl C dX0_init_27 ?_
  refine v_bipush (pc := 28) (xc := 3) (xs := 196) (96 : Int32) (by decide) C dX0_init_28 ?_
  refine v_newa (pc := 30) (xc := 3) (xs := 196) .int .int 0 96 (.inl (fun _ => 0)) C dX0_init_30 zw_134 rfl (fun _ => rfl) (by simp) (fun _ => rfl) (by decide) (by decide) (Nat.le_of_ble_eq_true rfl) (Nat.le_of_ble_eq_true rfl) (Nat.le_of_ble_eq_true rfl) (fun a4 => [(h0, .inr (0, [.ref a1, .ref a2, .ref a3, .null, .null, .null, .null, .null, .null, .null, .null, .null, .int 0, .int 0, .int 0, .int 0])), (a1, .inl (zkA X 1, 4, .inr (.inl (fun _ => 0)))), (a2, .inl (zkA X 1, 96, .inr (.inl (fun _ => 0)))), (a3, .inl (zkA X 0, 96, .inl (fun _ => 0))), (a4, .inl (zkA X 0, 96, .inl (fun _ => 0)))]) (fun _ => rfl) (fun a4 => ?_)
  refine v_putF (pc := 32) (xc := 4) (xs := 292) 0 0 3 hIn C dX0_init_32 rfl (by decide) (by decide) zw_146 rfl rfl rfl rfl (Nat.le_of_ble_eq_true rfl) [(h0, .inr (0, [.ref a1, .ref a2, .ref a3, .ref a4, .null, .null, .null, .null, .null, .null, .null, .null, .int 0, .int 0, .int 0, .int 0])), (a1, .inl (zkA X 1, 4, .inr (.inl (fun _ => 0)))), (a2, .inl (zkA X 1, 96, .inr (.inl (fun _ => 0)))), (a3, .inl (zkA X 0, 96, .inl (fun _ => 0))), (a4, .inl (zkA X 0, 96, .inl (fun _ => 0)))] rfl ?_
  refine v_aload_n (pc := 35) (xc := 4) (xs := 292) 0 rfl rfl C dX0_init_35 ?_
  refine v_bipush (pc := 36) (xc := 4) (xs := 292) (96 : Int32) (by decide) C dX0_init_36 ?_
  refine v_newa (pc := 38) (xc := 4) (xs := 292) .int .int 0 96 (.inl (fun _ => 0)) C dX0_init_38 zw_134 rfl (fun _ => rfl) (by simp) (fun _ => rfl) (by decide) (by decide) (Nat.le_of_ble_eq_true rfl) (Nat.le_of_ble_eq_true rfl) (Nat.le_of_ble_eq_true rfl) (fun a5 => [(h0, .inr (0, [.ref a1, .ref a2, .ref a3, .ref a4, .null, .null, .null, .null, .null, .null, .null, .null, .int 0, .int 0, .int 0, .int 0])), (a1, .inl (zkA X 1, 4, .inr (.inl (fun _ => 0)))), (a2, .inl (zkA X 1, 96, .inr (.inl (fun _ => 0)))), (a3, .inl (zkA X 0, 96, .inl (fun _ => 0))), (a4, .inl (zkA X 0, 96, .inl (fun _ => 0))), (a5, .inl (zkA X 0, 96, .inl (fun _ => 0)))]) (fun _ => rfl) (fun a5 => ?_)
  refine v_putF (pc := 40) (xc := 5) (xs := 388) 0 0 4 hIn C dX0_init_40 rfl (by decide) (by decide) zw_147 rfl rfl rfl rfl (Nat.le_of_ble_eq_true rfl) [(h0, .inr (0, [.ref a1, .ref a2, .ref a3, .ref a4, .ref a5, .null, .null, .null, .null, .null, .null, .null, .int 0, .int 0, .int 0, .int 0])), (a1, .inl (zkA X 1, 4, .inr (.inl (fun _ => 0)))), (a2, .inl (zkA X 1, 96, .inr (.inl (fun _ => 0)))), (a3, .inl (zkA X 0, 96, .inl (fun _ => 0))), (a4, .inl (zkA X 0, 96, .inl (fun _ => 0))), (a5, .inl (zkA X 0, 96, .inl (fun _ => 0)))] rfl ?_
  refine v_aload_n (pc := 43) (xc := 5) (xs := 388) 0 rfl rfl C dX0_init_43 ?_
  refine v_iconst (pc := 44) (xc := 5) (xs := 388) (3 : Int32) (by decide) C dX0_init_44 ?_
  refine v_bipush (pc := 45) (xc := 5) (xs := 388) (96 : Int32) (by decide) C dX0_init_45 ?_
  refine v_mna (pc := 47) (xc := 5) (xs := 388) .long 1 4 3 96 (.inr (.inl (fun _ => 0))) C dX0_init_47 zw_141 (fun U h => h.2.2.2.2.2.2.1) zw_133 (fun _ => rfl) (fun _ => rfl) (by simp) (by decide) (by decide) (by decide) (by decide) (Nat.le_of_ble_eq_true rfl) (Nat.le_of_ble_eq_true rfl) (Nat.le_of_ble_eq_true rfl) rfl rfl (Nat.le_of_ble_eq_true rfl) (Nat.le_of_ble_eq_true rfl) (zin_long 96) (fun a6 r6 => [(h0, .inr (0, [.ref a1, .ref a2, .ref a3, .ref a4, .ref a5, .null, .null, .null, .null, .null, .null, .null, .int 0, .int 0, .int 0, .int 0])), (a1, .inl (zkA X 1, 4, .inr (.inl (fun _ => 0)))), (a2, .inl (zkA X 1, 96, .inr (.inl (fun _ => 0)))), (a3, .inl (zkA X 0, 96, .inl (fun _ => 0))), (a4, .inl (zkA X 0, 96, .inl (fun _ => 0))), (a5, .inl (zkA X 0, 96, .inl (fun _ => 0))), (a6, .inl (zkA X 4, 3, .inr (.inr (.inr (.inr (fun i => if i < 3 then some (r6 i) else none)))))), (r6 0, .inl (zkA X 1, 96, .inr (.inl (fun _ => 0)))), (r6 1, .inl (zkA X 1, 96, .inr (.inl (fun _ => 0)))), (r6 2, .inl (zkA X 1, 96, .inr (.inl (fun _ => 0))))]) (fun _ _ => rfl) (fun a6 r6 => ?_)
  refine v_putF (pc := 51) (xc := 9) (xs := 679) 0 0 5 hIn C dX0_init_51 rfl (by decide) (by decide) zw_148 rfl rfl rfl rfl (Nat.le_of_ble_eq_true rfl) [(h0, .inr (0, [.ref a1, .ref a2, .ref a3, .ref a4, .ref a5, .ref a6, .null, .null, .null, .null, .null, .null, .int 0, .int 0, .int 0, .int 0])), (a1, .inl (zkA X 1, 4, .inr (.inl (fun _ => 0)))), (a2, .inl (zkA X 1, 96, .inr (.inl (fun _ => 0)))), (a3, .inl (zkA X 0, 96, .inl (fun _ => 0))), (a4, .inl (zkA X 0, 96, .inl (fun _ => 0))), (a5, .inl (zkA X 0, 96, .inl (fun _ => 0))), (a6, .inl (zkA X 4, 3, .inr (.inr (.inr (.inr (fun i => if i < 3 then some (r6 i) else none)))))), (r6 0, .inl (zkA X 1, 96, .inr (.inl (fun _ => 0)))), (r6 1, .inl (zkA X 1, 96, .inr (.inl (fun _ => 0)))), (r6 2, .inl (zkA X 1, 96, .inr (.inl (fun _ => 0))))] rfl ?_
  refine v_aload_n (pc := 54) (xc := 9) (xs := 679) 0 rfl rfl C dX0_init_54 ?_
  refine v_bipush (pc := 55) (xc := 9) (xs := 679) (96 : Int32) (by decide) C dX0_init_55 ?_
  refine v_newa (pc := 57) (xc := 9) (xs := 679) .int .int 0 96 (.inl (fun _ => 0)) C dX0_init_57 zw_134 rfl (fun _ => rfl) (by simp) (fun _ => rfl) (by decide) (by decide) (Nat.le_of_ble_eq_true rfl) (Nat.le_of_ble_eq_true rfl) (Nat.le_of_ble_eq_true rfl) (fun a7 => [(h0, .inr (0, [.ref a1, .ref a2, .ref a3, .ref a4, .ref a5, .ref a6, .null, .null, .null, .null, .null, .null, .int 0, .int 0, .int 0, .int 0])), (a1, .inl (zkA X 1, 4, .inr (.inl (fun _ => 0)))), (a2, .inl (zkA X 1, 96, .inr (.inl (fun _ => 0)))), (a3, .inl (zkA X 0, 96, .inl (fun _ => 0))), (a4, .inl (zkA X 0, 96, .inl (fun _ => 0))), (a5, .inl (zkA X 0, 96, .inl (fun _ => 0))), (a6, .inl (zkA X 4, 3, .inr (.inr (.inr (.inr (fun i => if i < 3 then some (r6 i) else none)))))), (r6 0, .inl (zkA X 1, 96, .inr (.inl (fun _ => 0)))), (r6 1, .inl (zkA X 1, 96, .inr (.inl (fun _ => 0)))), (r6 2, .inl (zkA X 1, 96, .inr (.inl (fun _ => 0)))), (a7, .inl (zkA X 0, 96, .inl (fun _ => 0)))]) (fun _ => rfl) (fun a7 => ?_)
  refine v_putF (pc := 59) (xc := 10) (xs := 775) 0 0 6 hIn C dX0_init_59 rfl (by decide) (by decide) zw_149 rfl rfl rfl rfl (Nat.le_of_ble_eq_true rfl) [(h0, .inr (0, [.ref a1, .ref a2, .ref a3, .ref a4, .ref a5, .ref a6, .ref a7, .null, .null, .null, .null, .null, .int 0, .int 0, .int 0, .int 0])), (a1, .inl (zkA X 1, 4, .inr (.inl (fun _ => 0)))), (a2, .inl (zkA X 1, 96, .inr (.inl (fun _ => 0)))), (a3, .inl (zkA X 0, 96, .inl (fun _ => 0))), (a4, .inl (zkA X 0, 96, .inl (fun _ => 0))), (a5, .inl (zkA X 0, 96, .inl (fun _ => 0))), (a6, .inl (zkA X 4, 3, .inr (.inr (.inr (.inr (fun i => if i < 3 then some (r6 i) else none)))))), (r6 0, .inl (zkA X 1, 96, .inr (.inl (fun _ => 0)))), (r6 1, .inl (zkA X 1, 96, .inr (.inl (fun _ => 0)))), (r6 2, .inl (zkA X 1, 96, .inr (.inl (fun _ => 0)))), (a7, .inl (zkA X 0, 96, .inl (fun _ => 0)))] rfl ?_
  refine v_aload_n (pc := 62) (xc := 10) (xs := 775) 0 rfl rfl C dX0_init_62 ?_
  refine v_bipush (pc := 63) (xc := 10) (xs := 775) (32 : Int32) (by decide) C dX0_init_63 ?_
  refine v_newa (pc := 65) (xc := 10) (xs := 775) .long .long 1 32 (.inr (.inl (fun _ => 0))) C dX0_init_65 zw_133 rfl (fun _ => rfl) (by simp) (fun _ => rfl) (by decide) (by decide) (Nat.le_of_ble_eq_true rfl) (Nat.le_of_ble_eq_true rfl) (Nat.le_of_ble_eq_true rfl) (fun a8 => [(h0, .inr (0, [.ref a1, .ref a2, .ref a3, .ref a4, .ref a5, .ref a6, .ref a7, .null, .null, .null, .null, .null, .int 0, .int 0, .int 0, .int 0])), (a1, .inl (zkA X 1, 4, .inr (.inl (fun _ => 0)))), (a2, .inl (zkA X 1, 96, .inr (.inl (fun _ => 0)))), (a3, .inl (zkA X 0, 96, .inl (fun _ => 0))), (a4, .inl (zkA X 0, 96, .inl (fun _ => 0))), (a5, .inl (zkA X 0, 96, .inl (fun _ => 0))), (a6, .inl (zkA X 4, 3, .inr (.inr (.inr (.inr (fun i => if i < 3 then some (r6 i) else none)))))), (r6 0, .inl (zkA X 1, 96, .inr (.inl (fun _ => 0)))), (r6 1, .inl (zkA X 1, 96, .inr (.inl (fun _ => 0)))), (r6 2, .inl (zkA X 1, 96, .inr (.inl (fun _ => 0)))), (a7, .inl (zkA X 0, 96, .inl (fun _ => 0))), (a8, .inl (zkA X 1, 32, .inr (.inl (fun _ => 0))))]) (fun _ => rfl) (fun a8 => ?_)
  refine v_putF (pc := 67) (xc := 11) (xs := 807) 0 0 7 hIn C dX0_init_67 rfl (by decide) (by decide) zw_150 rfl rfl rfl rfl (Nat.le_of_ble_eq_true rfl) [(h0, .inr (0, [.ref a1, .ref a2, .ref a3, .ref a4, .ref a5, .ref a6, .ref a7, .ref a8, .null, .null, .null, .null, .int 0, .int 0, .int 0, .int 0])), (a1, .inl (zkA X 1, 4, .inr (.inl (fun _ => 0)))), (a2, .inl (zkA X 1, 96, .inr (.inl (fun _ => 0)))), (a3, .inl (zkA X 0, 96, .inl (fun _ => 0))), (a4, .inl (zkA X 0, 96, .inl (fun _ => 0))), (a5, .inl (zkA X 0, 96, .inl (fun _ => 0))), (a6, .inl (zkA X 4, 3, .inr (.inr (.inr (.inr (fun i => if i < 3 then some (r6 i) else none)))))), (r6 0, .inl (zkA X 1, 96, .inr (.inl (fun _ => 0)))), (r6 1, .inl (zkA X 1, 96, .inr (.inl (fun _ => 0)))), (r6 2, .inl (zkA X 1, 96, .inr (.inl (fun _ => 0)))), (a7, .inl (zkA X 0, 96, .inl (fun _ => 0))), (a8, .inl (zkA X 1, 32, .inr (.inl (fun _ => 0))))] rfl ?_
  refine v_aload_n (pc := 70) (xc := 11) (xs := 807) 0 rfl rfl C dX0_init_70 ?_
  refine v_bipush (pc := 71) (xc := 11) (xs := 807) (32 : Int32) (by decide) C dX0_init_71 ?_
  refine v_newa (pc := 73) (xc := 11) (xs := 807) .int .int 0 32 (.inl (fun _ => 0)) C dX0_init_73 zw_134 rfl (fun _ => rfl) (by simp) (fun _ => rfl) (by decide) (by decide) (Nat.le_of_ble_eq_true rfl) (Nat.le_of_ble_eq_true rfl) (Nat.le_of_ble_eq_true rfl) (fun a9 => [(h0, .inr (0, [.ref a1, .ref a2, .ref a3, .ref a4, .ref a5, .ref a6, .ref a7, .ref a8, .null, .null, .null, .null, .int 0, .int 0, .int 0, .int 0])), (a1, .inl (zkA X 1, 4, .inr (.inl (fun _ => 0)))), (a2, .inl (zkA X 1, 96, .inr (.inl (fun _ => 0)))), (a3, .inl (zkA X 0, 96, .inl (fun _ => 0))), (a4, .inl (zkA X 0, 96, .inl (fun _ => 0))), (a5, .inl (zkA X 0, 96, .inl (fun _ => 0))), (a6, .inl (zkA X 4, 3, .inr (.inr (.inr (.inr (fun i => if i < 3 then some (r6 i) else none)))))), (r6 0, .inl (zkA X 1, 96, .inr (.inl (fun _ => 0)))), (r6 1, .inl (zkA X 1, 96, .inr (.inl (fun _ => 0)))), (r6 2, .inl (zkA X 1, 96, .inr (.inl (fun _ => 0)))), (a7, .inl (zkA X 0, 96, .inl (fun _ => 0))), (a8, .inl (zkA X 1, 32, .inr (.inl (fun _ => 0)))), (a9, .inl (zkA X 0, 32, .inl (fun _ => 0)))]) (fun _ => rfl) (fun a9 => ?_)
  refine v_putF (pc := 75) (xc := 12) (xs := 839) 0 0 8 hIn C dX0_init_75 rfl (by decide) (by decide) zw_151 rfl rfl rfl rfl (Nat.le_of_ble_eq_true rfl) [(h0, .inr (0, [.ref a1, .ref a2, .ref a3, .ref a4, .ref a5, .ref a6, .ref a7, .ref a8, .ref a9, .null, .null, .null, .int 0, .int 0, .int 0, .int 0])), (a1, .inl (zkA X 1, 4, .inr (.inl (fun _ => 0)))), (a2, .inl (zkA X 1, 96, .inr (.inl (fun _ => 0)))), (a3, .inl (zkA X 0, 96, .inl (fun _ => 0))), (a4, .inl (zkA X 0, 96, .inl (fun _ => 0))), (a5, .inl (zkA X 0, 96, .inl (fun _ => 0))), (a6, .inl (zkA X 4, 3, .inr (.inr (.inr (.inr (fun i => if i < 3 then some (r6 i) else none)))))), (r6 0, .inl (zkA X 1, 96, .inr (.inl (fun _ => 0)))), (r6 1, .inl (zkA X 1, 96, .inr (.inl (fun _ => 0)))), (r6 2, .inl (zkA X 1, 96, .inr (.inl (fun _ => 0)))), (a7, .inl (zkA X 0, 96, .inl (fun _ => 0))), (a8, .inl (zkA X 1, 32, .inr (.inl (fun _ => 0)))), (a9, .inl (zkA X 0, 32, .inl (fun _ => 0)))] rfl ?_
  refine v_aload_n (pc := 78) (xc := 12) (xs := 839) 0 rfl rfl C dX0_init_78 ?_
  refine v_bipush (pc := 79) (xc := 12) (xs := 839) (32 : Int32) (by decide) C dX0_init_79 ?_
  refine v_newa (pc := 81) (xc := 12) (xs := 839) .int .int 0 32 (.inl (fun _ => 0)) C dX0_init_81 zw_134 rfl (fun _ => rfl) (by simp) (fun _ => rfl) (by decide) (by decide) (Nat.le_of_ble_eq_true rfl) (Nat.le_of_ble_eq_true rfl) (Nat.le_of_ble_eq_true rfl) (fun a10 => [(h0, .inr (0, [.ref a1, .ref a2, .ref a3, .ref a4, .ref a5, .ref a6, .ref a7, .ref a8, .ref a9, .null, .null, .null, .int 0, .int 0, .int 0, .int 0])), (a1, .inl (zkA X 1, 4, .inr (.inl (fun _ => 0)))), (a2, .inl (zkA X 1, 96, .inr (.inl (fun _ => 0)))), (a3, .inl (zkA X 0, 96, .inl (fun _ => 0))), (a4, .inl (zkA X 0, 96, .inl (fun _ => 0))), (a5, .inl (zkA X 0, 96, .inl (fun _ => 0))), (a6, .inl (zkA X 4, 3, .inr (.inr (.inr (.inr (fun i => if i < 3 then some (r6 i) else none)))))), (r6 0, .inl (zkA X 1, 96, .inr (.inl (fun _ => 0)))), (r6 1, .inl (zkA X 1, 96, .inr (.inl (fun _ => 0)))), (r6 2, .inl (zkA X 1, 96, .inr (.inl (fun _ => 0)))), (a7, .inl (zkA X 0, 96, .inl (fun _ => 0))), (a8, .inl (zkA X 1, 32, .inr (.inl (fun _ => 0)))), (a9, .inl (zkA X 0, 32, .inl (fun _ => 0))), (a10, .inl (zkA X 0, 32, .inl (fun _ => 0)))]) (fun _ => rfl) (fun a10 => ?_)
  refine v_putF (pc := 83) (xc := 13) (xs := 871) 0 0 9 hIn C dX0_init_83 rfl (by decide) (by decide) zw_153 rfl rfl rfl rfl (Nat.le_of_ble_eq_true rfl) [(h0, .inr (0, [.ref a1, .ref a2, .ref a3, .ref a4, .ref a5, .ref a6, .ref a7, .ref a8, .ref a9, .ref a10, .null, .null, .int 0, .int 0, .int 0, .int 0])), (a1, .inl (zkA X 1, 4, .inr (.inl (fun _ => 0)))), (a2, .inl (zkA X 1, 96, .inr (.inl (fun _ => 0)))), (a3, .inl (zkA X 0, 96, .inl (fun _ => 0))), (a4, .inl (zkA X 0, 96, .inl (fun _ => 0))), (a5, .inl (zkA X 0, 96, .inl (fun _ => 0))), (a6, .inl (zkA X 4, 3, .inr (.inr (.inr (.inr (fun i => if i < 3 then some (r6 i) else none)))))), (r6 0, .inl (zkA X 1, 96, .inr (.inl (fun _ => 0)))), (r6 1, .inl (zkA X 1, 96, .inr (.inl (fun _ => 0)))), (r6 2, .inl (zkA X 1, 96, .inr (.inl (fun _ => 0)))), (a7, .inl (zkA X 0, 96, .inl (fun _ => 0))), (a8, .inl (zkA X 1, 32, .inr (.inl (fun _ => 0)))), (a9, .inl (zkA X 0, 32, .inl (fun _ => 0))), (a10, .inl (zkA X 0, 32, .inl (fun _ => 0)))] rfl ?_
  refine v_aload_n (pc := 86) (xc := 13) (xs := 871) 0 rfl rfl C dX0_init_86 ?_
  refine v_bipush (pc := 87) (xc := 13) (xs := 871) (32 : Int32) (by decide) C dX0_init_87 ?_
  refine v_newa (pc := 89) (xc := 13) (xs := 871) .int .int 0 32 (.inl (fun _ => 0)) C dX0_init_89 zw_134 rfl (fun _ => rfl) (by simp) (fun _ => rfl) (by decide) (by decide) (Nat.le_of_ble_eq_true rfl) (Nat.le_of_ble_eq_true rfl) (Nat.le_of_ble_eq_true rfl) (fun a11 => [(h0, .inr (0, [.ref a1, .ref a2, .ref a3, .ref a4, .ref a5, .ref a6, .ref a7, .ref a8, .ref a9, .ref a10, .null, .null, .int 0, .int 0, .int 0, .int 0])), (a1, .inl (zkA X 1, 4, .inr (.inl (fun _ => 0)))), (a2, .inl (zkA X 1, 96, .inr (.inl (fun _ => 0)))), (a3, .inl (zkA X 0, 96, .inl (fun _ => 0))), (a4, .inl (zkA X 0, 96, .inl (fun _ => 0))), (a5, .inl (zkA X 0, 96, .inl (fun _ => 0))), (a6, .inl (zkA X 4, 3, .inr (.inr (.inr (.inr (fun i => if i < 3 then some (r6 i) else none)))))), (r6 0, .inl (zkA X 1, 96, .inr (.inl (fun _ => 0)))), (r6 1, .inl (zkA X 1, 96, .inr (.inl (fun _ => 0)))), (r6 2, .inl (zkA X 1, 96, .inr (.inl (fun _ => 0)))), (a7, .inl (zkA X 0, 96, .inl (fun _ => 0))), (a8, .inl (zkA X 1, 32, .inr (.inl (fun _ => 0)))), (a9, .inl (zkA X 0, 32, .inl (fun _ => 0))), (a10, .inl (zkA X 0, 32, .inl (fun _ => 0))), (a11, .inl (zkA X 0, 32, .inl (fun _ => 0)))]) (fun _ => rfl) (fun a11 => ?_)
  refine v_putF (pc := 91) (xc := 14) (xs := 903) 0 0 10 hIn C dX0_init_91 rfl (by decide) (by decide) zw_155 rfl rfl rfl rfl (Nat.le_of_ble_eq_true rfl) [(h0, .inr (0, [.ref a1, .ref a2, .ref a3, .ref a4, .ref a5, .ref a6, .ref a7, .ref a8, .ref a9, .ref a10, .ref a11, .null, .int 0, .int 0, .int 0, .int 0])), (a1, .inl (zkA X 1, 4, .inr (.inl (fun _ => 0)))), (a2, .inl (zkA X 1, 96, .inr (.inl (fun _ => 0)))), (a3, .inl (zkA X 0, 96, .inl (fun _ => 0))), (a4, .inl (zkA X 0, 96, .inl (fun _ => 0))), (a5, .inl (zkA X 0, 96, .inl (fun _ => 0))), (a6, .inl (zkA X 4, 3, .inr (.inr (.inr (.inr (fun i => if i < 3 then some (r6 i) else none)))))), (r6 0, .inl (zkA X 1, 96, .inr (.inl (fun _ => 0)))), (r6 1, .inl (zkA X 1, 96, .inr (.inl (fun _ => 0)))), (r6 2, .inl (zkA X 1, 96, .inr (.inl (fun _ => 0)))), (a7, .inl (zkA X 0, 96, .inl (fun _ => 0))), (a8, .inl (zkA X 1, 32, .inr (.inl (fun _ => 0)))), (a9, .inl (zkA X 0, 32, .inl (fun _ => 0))), (a10, .inl (zkA X 0, 32, .inl (fun _ => 0))), (a11, .inl (zkA X 0, 32, .inl (fun _ => 0)))] rfl ?_
  refine v_aload_n (pc := 94) (xc := 14) (xs := 903) 0 rfl rfl C dX0_init_94 ?_
  refine v_bipush (pc := 95) (xc := 14) (xs := 903) (32 : Int32) (by decide) C dX0_init_95 ?_
  refine v_newa (pc := 97) (xc := 14) (xs := 903) .int .int 0 32 (.inl (fun _ => 0)) C dX0_init_97 zw_134 rfl (fun _ => rfl) (by simp) (fun _ => rfl) (by decide) (by decide) (Nat.le_of_ble_eq_true rfl) (Nat.le_of_ble_eq_true rfl) (Nat.le_of_ble_eq_true rfl) (fun a12 => [(h0, .inr (0, [.ref a1, .ref a2, .ref a3, .ref a4, .ref a5, .ref a6, .ref a7, .ref a8, .ref a9, .ref a10, .ref a11, .null, .int 0, .int 0, .int 0, .int 0])), (a1, .inl (zkA X 1, 4, .inr (.inl (fun _ => 0)))), (a2, .inl (zkA X 1, 96, .inr (.inl (fun _ => 0)))), (a3, .inl (zkA X 0, 96, .inl (fun _ => 0))), (a4, .inl (zkA X 0, 96, .inl (fun _ => 0))), (a5, .inl (zkA X 0, 96, .inl (fun _ => 0))), (a6, .inl (zkA X 4, 3, .inr (.inr (.inr (.inr (fun i => if i < 3 then some (r6 i) else none)))))), (r6 0, .inl (zkA X 1, 96, .inr (.inl (fun _ => 0)))), (r6 1, .inl (zkA X 1, 96, .inr (.inl (fun _ => 0)))), (r6 2, .inl (zkA X 1, 96, .inr (.inl (fun _ => 0)))), (a7, .inl (zkA X 0, 96, .inl (fun _ => 0))), (a8, .inl (zkA X 1, 32, .inr (.inl (fun _ => 0)))), (a9, .inl (zkA X 0, 32, .inl (fun _ => 0))), (a10, .inl (zkA X 0, 32, .inl (fun _ => 0))), (a11, .inl (zkA X 0, 32, .inl (fun _ => 0))), (a12, .inl (zkA X 0, 32, .inl (fun _ => 0)))]) (fun _ => rfl) (fun a12 => ?_)
  refine v_putF (pc := 99) (xc := 15) (xs := 935) 0 0 11 hIn C dX0_init_99 rfl (by decide) (by decide) zw_157 rfl rfl rfl rfl (Nat.le_of_ble_eq_true rfl) [(h0, .inr (0, [.ref a1, .ref a2, .ref a3, .ref a4, .ref a5, .ref a6, .ref a7, .ref a8, .ref a9, .ref a10, .ref a11, .ref a12, .int 0, .int 0, .int 0, .int 0])), (a1, .inl (zkA X 1, 4, .inr (.inl (fun _ => 0)))), (a2, .inl (zkA X 1, 96, .inr (.inl (fun _ => 0)))), (a3, .inl (zkA X 0, 96, .inl (fun _ => 0))), (a4, .inl (zkA X 0, 96, .inl (fun _ => 0))), (a5, .inl (zkA X 0, 96, .inl (fun _ => 0))), (a6, .inl (zkA X 4, 3, .inr (.inr (.inr (.inr (fun i => if i < 3 then some (r6 i) else none)))))), (r6 0, .inl (zkA X 1, 96, .inr (.inl (fun _ => 0)))), (r6 1, .inl (zkA X 1, 96, .inr (.inl (fun _ => 0)))), (r6 2, .inl (zkA X 1, 96, .inr (.inl (fun _ => 0)))), (a7, .inl (zkA X 0, 96, .inl (fun _ => 0))), (a8, .inl (zkA X 1, 32, .inr (.inl (fun _ => 0)))), (a9, .inl (zkA X 0, 32, .inl (fun _ => 0))), (a10, .inl (zkA X 0, 32, .inl (fun _ => 0))), (a11, .inl (zkA X 0, 32, .inl (fun _ => 0))), (a12, .inl (zkA X 0, 32, .inl (fun _ => 0)))] rfl ?_
  refine v_aload_n (pc := 102) (xc := 15) (xs := 935) 0 rfl rfl C dX0_init_102 ?_
  refine v_iconst (pc := 103) (xc := 15) (xs := 935) (0 : Int32) (by decide) C dX0_init_103 ?_
  refine v_put (pc := 104) (xc := 15) (xs := 935) 0 0 12 C dX0_init_104 rfl (by decide) (by decide) zw_158 rfl rfl rfl (Nat.le_of_ble_eq_true rfl) [(h0, .inr (0, [.ref a1, .ref a2, .ref a3, .ref a4, .ref a5, .ref a6, .ref a7, .ref a8, .ref a9, .ref a10, .ref a11, .ref a12, .int 0, .int 0, .int 0, .int 0])), (a1, .inl (zkA X 1, 4, .inr (.inl (fun _ => 0)))), (a2, .inl (zkA X 1, 96, .inr (.inl (fun _ => 0)))), (a3, .inl (zkA X 0, 96, .inl (fun _ => 0))), (a4, .inl (zkA X 0, 96, .inl (fun _ => 0))), (a5, .inl (zkA X 0, 96, .inl (fun _ => 0))), (a6, .inl (zkA X 4, 3, .inr (.inr (.inr (.inr (fun i => if i < 3 then some (r6 i) else none)))))), (r6 0, .inl (zkA X 1, 96, .inr (.inl (fun _ => 0)))), (r6 1, .inl (zkA X 1, 96, .inr (.inl (fun _ => 0)))), (r6 2, .inl (zkA X 1, 96, .inr (.inl (fun _ => 0)))), (a7, .inl (zkA X 0, 96, .inl (fun _ => 0))), (a8, .inl (zkA X 1, 32, .inr (.inl (fun _ => 0)))), (a9, .inl (zkA X 0, 32, .inl (fun _ => 0))), (a10, .inl (zkA X 0, 32, .inl (fun _ => 0))), (a11, .inl (zkA X 0, 32, .inl (fun _ => 0))), (a12, .inl (zkA X 0, 32, .inl (fun _ => 0)))] rfl ?_
  refine v_aload_n (pc := 107) (xc := 15) (xs := 935) 0 rfl rfl C dX0_init_107 ?_
  refine v_iconst (pc := 108) (xc := 15) (xs := 935) (0 : Int32) (by decide) C dX0_init_108 ?_
  refine v_put (pc := 109) (xc := 15) (xs := 935) 0 0 13 C dX0_init_109 rfl (by decide) (by decide) zw_160 rfl rfl rfl (Nat.le_of_ble_eq_true rfl) [(h0, .inr (0, [.ref a1, .ref a2, .ref a3, .ref a4, .ref a5, .ref a6, .ref a7, .ref a8, .ref a9, .ref a10, .ref a11, .ref a12, .int 0, .int 0, .int 0, .int 0])), (a1, .inl (zkA X 1, 4, .inr (.inl (fun _ => 0)))), (a2, .inl (zkA X 1, 96, .inr (.inl (fun _ => 0)))), (a3, .inl (zkA X 0, 96, .inl (fun _ => 0))), (a4, .inl (zkA X 0, 96, .inl (fun _ => 0))), (a5, .inl (zkA X 0, 96, .inl (fun _ => 0))), (a6, .inl (zkA X 4, 3, .inr (.inr (.inr (.inr (fun i => if i < 3 then some (r6 i) else none)))))), (r6 0, .inl (zkA X 1, 96, .inr (.inl (fun _ => 0)))), (r6 1, .inl (zkA X 1, 96, .inr (.inl (fun _ => 0)))), (r6 2, .inl (zkA X 1, 96, .inr (.inl (fun _ => 0)))), (a7, .inl (zkA X 0, 96, .inl (fun _ => 0))), (a8, .inl (zkA X 1, 32, .inr (.inl (fun _ => 0)))), (a9, .inl (zkA X 0, 32, .inl (fun _ => 0))), (a10, .inl (zkA X 0, 32, .inl (fun _ => 0))), (a11, .inl (zkA X 0, 32, .inl (fun _ => 0))), (a12, .inl (zkA X 0, 32, .inl (fun _ => 0)))] rfl ?_
  refine v_aload_n (pc := 112) (xc := 15) (xs := 935) 0 rfl rfl C dX0_init_112 ?_
  refine v_iconst (pc := 113) (xc := 15) (xs := 935) (0 : Int32) (by decide) C dX0_init_113 ?_
  refine v_put (pc := 114) (xc := 15) (xs := 935) 0 0 14 C dX0_init_114 rfl (by decide) (by decide) zw_162 rfl rfl rfl (Nat.le_of_ble_eq_true rfl) [(h0, .inr (0, [.ref a1, .ref a2, .ref a3, .ref a4, .ref a5, .ref a6, .ref a7, .ref a8, .ref a9, .ref a10, .ref a11, .ref a12, .int 0, .int 0, .int 0, .int 0])), (a1, .inl (zkA X 1, 4, .inr (.inl (fun _ => 0)))), (a2, .inl (zkA X 1, 96, .inr (.inl (fun _ => 0)))), (a3, .inl (zkA X 0, 96, .inl (fun _ => 0))), (a4, .inl (zkA X 0, 96, .inl (fun _ => 0))), (a5, .inl (zkA X 0, 96, .inl (fun _ => 0))), (a6, .inl (zkA X 4, 3, .inr (.inr (.inr (.inr (fun i => if i < 3 then some (r6 i) else none)))))), (r6 0, .inl (zkA X 1, 96, .inr (.inl (fun _ => 0)))), (r6 1, .inl (zkA X 1, 96, .inr (.inl (fun _ => 0)))), (r6 2, .inl (zkA X 1, 96, .inr (.inl (fun _ => 0)))), (a7, .inl (zkA X 0, 96, .inl (fun _ => 0))), (a8, .inl (zkA X 1, 32, .inr (.inl (fun _ => 0)))), (a9, .inl (zkA X 0, 32, .inl (fun _ => 0))), (a10, .inl (zkA X 0, 32, .inl (fun _ => 0))), (a11, .inl (zkA X 0, 32, .inl (fun _ => 0))), (a12, .inl (zkA X 0, 32, .inl (fun _ => 0)))] rfl ?_
  refine v_aload_n (pc := 117) (xc := 15) (xs := 935) 0 rfl rfl C dX0_init_117 ?_
  refine v_iconst (pc := 118) (xc := 15) (xs := 935) (0 : Int32) (by decide) C dX0_init_118 ?_
  refine v_put (pc := 119) (xc := 15) (xs := 935) 0 0 15 C dX0_init_119 rfl (by decide) (by decide) zw_165 rfl rfl rfl (Nat.le_of_ble_eq_true rfl) [(h0, .inr (0, [.ref a1, .ref a2, .ref a3, .ref a4, .ref a5, .ref a6, .ref a7, .ref a8, .ref a9, .ref a10, .ref a11, .ref a12, .int 0, .int 0, .int 0, .int 0])), (a1, .inl (zkA X 1, 4, .inr (.inl (fun _ => 0)))), (a2, .inl (zkA X 1, 96, .inr (.inl (fun _ => 0)))), (a3, .inl (zkA X 0, 96, .inl (fun _ => 0))), (a4, .inl (zkA X 0, 96, .inl (fun _ => 0))), (a5, .inl (zkA X 0, 96, .inl (fun _ => 0))), (a6, .inl (zkA X 4, 3, .inr (.inr (.inr (.inr (fun i => if i < 3 then some (r6 i) else none)))))), (r6 0, .inl (zkA X 1, 96, .inr (.inl (fun _ => 0)))), (r6 1, .inl (zkA X 1, 96, .inr (.inl (fun _ => 0)))), (r6 2, .inl (zkA X 1, 96, .inr (.inl (fun _ => 0)))), (a7, .inl (zkA X 0, 96, .inl (fun _ => 0))), (a8, .inl (zkA X 1, 32, .inr (.inl (fun _ => 0)))), (a9, .inl (zkA X 0, 32, .inl (fun _ => 0))), (a10, .inl (zkA X 0, 32, .inl (fun _ => 0))), (a11, .inl (zkA X 0, 32, .inl (fun _ => 0))), (a12, .inl (zkA X 0, 32, .inl (fun _ => 0)))] rfl ?_
  obtain ⟨q, hq⟩ : ∃ q : Nat → Nat, q = (fun k => if 13 ≤ k then r6 (k - 13) else [h0, a1, a2, a3, a4, a5, a6, a7, a8, a9, a10, a11, a12].getD k 0) := ⟨_, rfl⟩
  have hqr : (fun i => if i < 3 then some (r6 i) else none) = (fun i => if i < 3 then some (q (zbs 0 + i)) else none) := by
    funext i
    by_cases hi : i < 3
    · rw [if_pos hi, if_pos hi, hq]
      show _ = some (if 13 ≤ 13 + i then r6 (13 + i - 13) else _)
      rw [if_pos (by omega), Nat.add_sub_cancel_left]
    · rw [if_neg hi, if_neg hi]
  refine v_return (pc := 122) (xc := 15) (xs := 935) [(0, q, zZ)] C hR dX0_init_122 ⟨q, by rw [hq]; rfl, rfl⟩ ?_ rfl rfl
  rw [hqr]
  subst hq
  exact (z_pn 16 _ rfl [0, 1, 2, 3, 4, 5, 6, 10, 11, 12, 13, 14, 15, 7, 8, 9] (by decide)).symm
theorem dX1_init_0 : decode cX1_init 0 = .ok (.aload_n 0, 1) := by decide +kernel
theorem dX1_init_1 : decode cX1_init 1 = .ok (.invokespecial 3, 3) := by decide +kernel
theorem dX1_init_4 : decode cX1_init 4 = .ok (.aload_n 0, 1) := by decide +kernel
theorem dX1_init_5 : decode cX1_init 5 = .ok (.new 9, 3) := by decide +kernel
theorem dX1_init_8 : decode cX1_init 8 = .ok (.dup, 1) := by decide +kernel
theorem dX1_init_9 : decode cX1_init 9 = .ok (.invokespecial 11, 3) := by decide +kernel
theorem dX1_init_12 : decode cX1_init 12 = .ok (.putfield 12, 3) := by decide +kernel
theorem dX1_init_15 : decode cX1_init 15 = .ok (.aload_n 0, 1) := by decide +kernel
theorem dX1_init_16 : decode cX1_init 16 = .ok (.new 18, 3) := by decide +kernel
theorem dX1_init_19 : decode cX1_init 19 = .ok (.dup, 1) := by decide +kernel
theorem dX1_init_20 : decode cX1_init 20 = .ok (.invokespecial 20, 3) := by decide +kernel
theorem dX1_init_23 : decode cX1_init 23 = .ok (.putfield 21, 3) := by decide +kernel
theorem dX1_init_26 : decode cX1_init 26 = .ok (.aload_n 0, 1) := by decide +kernel
theorem dX1_init_27 : decode cX1_init 27 = .ok (.bipush 6, 2) := by decide +kernel
theorem dX1_init_29 : decode cX1_init 29 = .ok (.newarray .int, 2) := by decide +kernel
theorem dX1_init_31 : decode cX1_init 31 = .ok (.putfield 25, 3) := by decide +kernel
theorem dX1_init_34 : decode cX1_init 34 = .ok (.aload_n 0, 1) := by decide +kernel
theorem dX1_init_35 : decode cX1_init 35 = .ok (.bipush 6, 2) := by decide +kernel
theorem dX1_init_37 : decode cX1_init 37 = .ok (.newarray .int, 2) := by decide +kernel
theorem dX1_init_39 : decode cX1_init 39 = .ok (.putfield 29, 3) := by decide +kernel
theorem dX1_init_42 : decode cX1_init 42 = .ok (.aload_n 0, 1) := by decide +kernel
theorem dX1_init_43 : decode cX1_init 43 = .ok (.bipush 13, 2) := by decide +kernel
theorem dX1_init_45 : decode cX1_init 45 = .ok (.bipush 10, 2) := by decide +kernel
theorem dX1_init_47 : decode cX1_init 47 = .ok (.multianewarray 32 2, 4) := by decide +kernel
theorem dX1_init_51 : decode cX1_init 51 = .ok (.putfield 34, 3) := by decide +kernel
theorem dX1_init_54 : decode cX1_init 54 = .ok (.aload_n 0, 1) := by decide +kernel
theorem dX1_init_55 : decode cX1_init 55 = .ok (.iconst 0, 1) := by decide +kernel
theorem dX1_init_56 : decode cX1_init 56 = .ok (.putfield 37, 3) := by decide +kernel
theorem dX1_init_59 : decode cX1_init 59 = .ok (.aload_n 0, 1) := by decide +kernel
theorem dX1_init_60 : decode cX1_init 60 = .ok (.bipush 6, 2) := by decide +kernel
theorem dX1_init_62 : decode cX1_init 62 = .ok (.newarray .int, 2) := by decide +kernel
theorem dX1_init_64 : decode cX1_init 64 = .ok (.putfield 41, 3) := by decide +kernel
theorem dX1_init_67 : decode cX1_init 67 = .ok (.aload_n 0, 1) := by decide +kernel
theorem dX1_init_68 : decode cX1_init 68 = .ok (.bipush 10, 2) := by decide +kernel
theorem dX1_init_70 : decode cX1_init 70 = .ok (.newarray .int, 2) := by decide +kernel
theorem dX1_init_72 : decode cX1_init 72 = .ok (.putfield 44, 3) := by decide +kernel
theorem dX1_init_75 : decode cX1_init 75 = .ok (.aload_n 0, 1) := by decide +kernel
theorem dX1_init_76 : decode cX1_init 76 = .ok (.iconst 0, 1) := by decide +kernel
theorem dX1_init_77 : decode cX1_init 77 = .ok (.putfield 47, 3) := by decide +kernel
theorem dX1_init_80 : decode cX1_init 80 = .ok (.aload_n 0, 1) := by decide +kernel
theorem dX1_init_81 : decode cX1_init 81 = .ok (.iconst 0, 1) := by decide +kernel
theorem dX1_init_82 : decode cX1_init 82 = .ok (.putfield 50, 3) := by decide +kernel
theorem dX1_init_85 : decode cX1_init 85 = .ok (.return_, 1) := by decide +kernel
def rmX1_init : Room := { frames := 2, cells := 38, slots := 1167, locals := 60 }
set_option maxRecDepth 20000 in
theorem mX1_init : zMI yX1_init cX1_init 1 rmX1_init 1 [.null, .null, .null, .null, .null, .int 0, .null, .null, .int 0, .int 0] [] (fun h0 cs1 => ∃ q qP qL : Nat → Nat, q 0 = h0 ∧ q 50 = qP 0 ∧ q 51 = qL 0 ∧ cs1 = [(1, q, zZ), (2, qP, zZ), (0, qL, zZ)]) := by
  refine zMI_of (by decide +kernel) rfl (Nat.le_of_ble_eq_true rfl) (fun X h0 C hIn hR => ?_)
  refine v_aload_n (pc := 0) (xc := 0) (xs := 0) 0 rfl rfl C dX1_init_0 ?_
  refine v_obj (pc := 1) (xc := 0) (xs := 0) C dX1_init_1 zw_102 zw_95 zw_96 (Nat.le_of_ble_eq_true rfl) (Nat.le_of_ble_eq_true rfl) ?_
  refine v_aload_n (pc := 4) (xc := 0) (xs := 0) 0 rfl rfl C dX1_init_4 ?_
  refine v_new (pc := 5) (xc := 0) (xs := 0) 2 5 [.null, .null, .null, .int 0, .int 0] C dX1_init_5 (by decide) rfl zw_103 zw_104 zw_79 (fun j hj => by rcases (show j = 0 ∨ j = 1 ∨ j = 2 ∨ j = 3 ∨ j = 4 by omega) with rfl | rfl | rfl | rfl | rfl <;> rfl) (Nat.le_of_ble_eq_true rfl) (Nat.le_of_ble_eq_true rfl) (fun b1 => [(h0, .inr (1, [.null, .null, .null, .null, .null, .int 0, .null, .null, .int 0, .int 0])), (b1, .inr (2, [.null, .null, .null, .int 0, .int 0]))]) (fun _ => rfl) (fun b1 => ?_)
  refine v_dup (pc := 8) (xc := 1) (xs := 5) rfl C dX1_init_8 ?_
  refine v_callI (n := 0) (rm' := rmX2_init) (h := b1) (pc := 9) (xc := 1) (xs := 5) [] [.ref b1, .ref h0] [(h0, .inr (1, [.null, .null, .null, .null, .null, .int 0, .null, .null, .int 0, .int 0]))] C dX1_init_9 (mX2_init) zw_107 zw_79 zw_106 rfl (Or.inr ⟨_, fun U h => h.2.2.2.1⟩) (by decide +kernel) rfl ⟨(Nat.le_of_ble_eq_true rfl), (Nat.le_of_ble_eq_true rfl)⟩ ⟨(Nat.le_of_ble_eq_true rfl), (Nat.le_of_ble_eq_true rfl)⟩ rfl (Nat.le_of_ble_eq_true rfl) rfl (fun cs9 hp9 => ?_)
  obtain ⟨q2, eq2, rfl⟩ := hp9
  subst eq2
  show zV X 1 12 [(0, .ref h0)] [.ref (q2 0), .ref h0] [(h0, .inr (1, [.null, .null, .null, .null, .null, .int 0, .null, .null, .int 0, .int 0]))] [(2, q2, zZ)] 4 45
  refine v_putF (pc := 12) (xc := 4) (xs := 45) 0 1 0 hIn C dX1_init_12 rfl (by decide) (by decide) zw_203 rfl rfl rfl rfl (Nat.le_of_ble_eq_true rfl) [(h0, .inr (1, [.ref (q2 0), .null, .null, .null, .null, .int 0, .null, .null, .int 0, .int 0]))] rfl ?_
  refine v_aload_n (pc := 15) (xc := 4) (xs := 45) 0 rfl rfl C dX1_init_15 ?_
  refine v_new (pc := 16) (xc := 4) (xs := 45) 0 16 [.null, .null, .null, .null, .null, .null, .null, .null, .null, .null, .null, .null, .int 0, .int 0, .int 0, .int 0] C dX1_init_16 (by decide) rfl zw_135 zw_136 zw_80 (fun j hj => by rcases (show j = 0 ∨ j = 1 ∨ j = 2 ∨ j = 3 ∨ j = 4 ∨ j = 5 ∨ j = 6 ∨ j = 7 ∨ j = 8 ∨ j = 9 ∨ j = 10 ∨ j = 11 ∨ j = 12 ∨ j = 13 ∨ j = 14 ∨ j = 15 by omega) with rfl | rfl | rfl | rfl | rfl | rfl | rfl | rfl | rfl | rfl | rfl | rfl | rfl | rfl | rfl | rfl <;> rfl) (Nat.le_of_ble_eq_true rfl) (Nat.le_of_ble_eq_true rfl) (fun b3 => [(h0, .inr (1, [.ref (q2 0), .null, .null, .null, .null, .int 0, .null, .null, .int 0, .int 0])), (b3, .inr (0, [.null, .null, .null, .null, .null, .null, .null, .null, .null, .null, .null, .null, .int 0, .int 0, .int 0, .int 0]))]) (fun _ => rfl) (fun b3 => ?_)
  refine v_dup (pc := 19) (xc := 5) (xs := 61) rfl C dX1_init_19 ?_
  refine v_callI (n := 0) (rm' := rmX0_init) (h := b3) (pc := 20) (xc := 5) (xs := 61) [] [.ref b3, .ref h0] [(h0, .inr (1, [.ref (q2 0), .null, .null, .null, .null, .int 0, .null, .null, .int 0, .int 0]))] C dX1_init_20 (mX0_init) zw_139 zw_80 zw_138 rfl (Or.inr ⟨_, fun U h => h.2.2.2.2.1⟩) (by decide +kernel) rfl ⟨(Nat.le_of_ble_eq_true rfl), (Nat.le_of_ble_eq_true rfl)⟩ ⟨(Nat.le_of_ble_eq_true rfl), (Nat.le_of_ble_eq_true rfl)⟩ rfl (Nat.le_of_ble_eq_true rfl) rfl (fun cs9 hp9 => ?_)
  obtain ⟨q4, eq4, rfl⟩ := hp9
  subst eq4
  show zV X 1 23 [(0, .ref h0)] [.ref (q4 0), .ref h0] [(h0, .inr (1, [.ref (q2 0), .null, .null, .null, .null, .int 0, .null, .null, .int 0, .int 0]))] [(2, q2, zZ), (0, q4, zZ)] 20 996
  refine v_putF (pc := 23) (xc := 20) (xs := 996) 0 1 1 hIn C dX1_init_23 rfl (by decide) (by decide) zw_205 rfl rfl rfl rfl (Nat.le_of_ble_eq_true rfl) [(h0, .inr (1, [.ref (q2 0), .ref (q4 0), .null, .null, .null, .int 0, .null, .null, .int 0, .int 0]))] rfl ?_
  refine v_aload_n (pc := 26) (xc := 20) (xs := 996) 0 rfl rfl C dX1_init_26 ?_
  refine v_bipush (pc := 27) (xc := 20) (xs := 996) (6 : Int32) (by decide) C dX1_init_27 ?_
  refine v_newa (pc := 29) (xc := 20) (xs := 996) .int .int 0 6 (.inl (fun _ => 0)) C dX1_init_29 zw_134 rfl (fun _ => rfl) (by simp) (fun _ => rfl) (by decide) (by decide) (Nat.le_of_ble_eq_true rfl) (Nat.le_of_ble_eq_true rfl) (Nat.le_of_ble_eq_true rfl) (fun a5 => [(h0, .inr (1, [.ref (q2 0), .ref (q4 0), .null, .null, .null, .int 0, .null, .null, .int 0, .int 0])), (a5, .inl (zkA X 0, 6, .inl (fun _ => 0)))]) (fun _ => rfl) (fun a5 => ?_)
  refine v_putF (pc := 31) (xc := 21) (xs := 1002) 0 1 2 hIn C dX1_init_31 rfl (by decide) (by decide) zw_207 rfl rfl rfl rfl (Nat.le_of_ble_eq_true rfl) [(h0, .inr (1, [.ref (q2 0), .ref (q4 0), .ref a5, .null, .null, .int 0, .null, .null, .int 0, .int 0])), (a5, .inl (zkA X 0, 6, .inl (fun _ => 0)))] rfl ?_
  refine v_aload_n (pc := 34) (xc := 21) (xs := 1002) 0 rfl rfl C dX1_init_34 ?_
  refine v_bipush (pc := 35) (xc := 21) (xs := 1002) (6 : Int32) (by decide) C dX1_init_35 ?_
  refine v_newa (pc := 37) (xc := 21) (xs := 1002) .int .int 0 6 (.inl (fun _ => 0)) C dX1_init_37 zw_134 rfl (fun _ => rfl) (by simp) (fun _ => rfl) (by decide) (by decide) (Nat.le_of_ble_eq_true rfl) (Nat.le_of_ble_eq_true rfl) (Nat.le_of_ble_eq_true rfl) (fun a6 => [(h0, .inr (1, [.ref (q2 0), .ref (q4 0), .ref a5, .null, .null, .int 0, .null, .null, .int 0, .int 0])), (a5, .inl (zkA X 0, 6, .inl (fun _ => 0))), (a6, .inl (zkA X 0, 6, .inl (fun _ => 0)))]) (fun _ => rfl) (fun a6 => ?_)
  refine v_putF (pc := 39) (xc := 22) (xs := 1008) 0 1 3 hIn C dX1_init_39 rfl (by decide) (by decide) zw_208 rfl rfl rfl rfl (Nat.le_of_ble_eq_true rfl) [(h0, .inr (1, [.ref (q2 0), .ref (q4 0), .ref a5, .ref a6, .null, .int 0, .null, .null, .int 0, .int 0])), (a5, .inl (zkA X 0, 6, .inl (fun _ => 0))), (a6, .inl (zkA X 0, 6, .inl (fun _ => 0)))] rfl ?_
  refine v_aload_n (pc := 42) (xc := 22) (xs := 1008) 0 rfl rfl C dX1_init_42 ?_
  refine v_bipush (pc := 43) (xc := 22) (xs := 1008) (13 : Int32) (by decide) C dX1_init_43 ?_
  refine v_bipush (pc := 45) (xc := 22) (xs := 1008) (10 : Int32) (by decide) C dX1_init_45 ?_
  refine v_mna (pc := 47) (xc := 22) (xs := 1008) .int 0 3 13 10 (.inl (fun _ => 0)) C dX1_init_47 zw_201 (fun U h => h.2.2.2.2.2.2.2) zw_134 (fun _ => rfl) (fun _ => rfl) (by simp) (by decide) (by decide) (by decide) (by decide) (Nat.le_of_ble_eq_true rfl) (Nat.le_of_ble_eq_true rfl) (Nat.le_of_ble_eq_true rfl) rfl rfl (Nat.le_of_ble_eq_true rfl) (Nat.le_of_ble_eq_true rfl) (zin_int 10) (fun a7 r7 => [(h0, .inr (1, [.ref (q2 0), .ref (q4 0), .ref a5, .ref a6, .null, .int 0, .null, .null, .int 0, .int 0])), (a5, .inl (zkA X 0, 6, .inl (fun _ => 0))), (a6, .inl (zkA X 0, 6, .inl (fun _ => 0))), (a7, .inl (zkA X 3, 13, .inr (.inr (.inr (.inr (fun i => if i < 13 then some (r7 i) else none)))))), (r7 0, .inl (zkA X 0, 10, .inl (fun _ => 0))), (r7 1, .inl (zkA X 0, 10, .inl (fun _ => 0))), (r7 2, .inl (zkA X 0, 10, .inl (fun _ => 0))), (r7 3, .inl (zkA X 0, 10, .inl (fun _ => 0))), (r7 4, .inl (zkA X 0, 10, .inl (fun _ => 0))), (r7 5, .inl (zkA X 0, 10, .inl (fun _ => 0))), (r7 6, .inl (zkA X 0, 10, .inl (fun _ => 0))), (r7 7, .inl (zkA X 0, 10, .inl (fun _ => 0))), (r7 8, .inl (zkA X 0, 10, .inl (fun _ => 0))), (r7 9, .inl (zkA X 0, 10, .inl (fun _ => 0))), (r7 10, .inl (zkA X 0, 10, .inl (fun _ => 0))), (r7 11, .inl (zkA X 0, 10, .inl (fun _ => 0))), (r7 12, .inl (zkA X 0, 10, .inl (fun _ => 0)))]) (fun _ _ => rfl) (fun a7 r7 => ?_)
  refine v_putF (pc := 51) (xc := 36) (xs := 1151) 0 1 4 hIn C dX1_init_51 rfl (by decide) (by decide) zw_209 rfl rfl rfl rfl (Nat.le_of_ble_eq_true rfl) [(h0, .inr (1, [.ref (q2 0), .ref (q4 0), .ref a5, .ref a6, .ref a7, .int 0, .null, .null, .int 0, .int 0])), (a5, .inl (zkA X 0, 6, .inl (fun _ => 0))), (a6, .inl (zkA X 0, 6, .inl (fun _ => 0))), (a7, .inl (zkA X 3, 13, .inr (.inr (.inr (.inr (fun i => if i < 13 then some (r7 i) else none)))))), (r7 0, .inl (zkA X 0, 10, .inl (fun _ => 0))), (r7 1, .inl (zkA X 0, 10, .inl (fun _ => 0))), (r7 2, .inl (zkA X 0, 10, .inl (fun _ => 0))), (r7 3, .inl (zkA X 0, 10, .inl (fun _ => 0))), (r7 4, .inl (zkA X 0, 10, .inl (fun _ => 0))), (r7 5, .inl (zkA X 0, 10, .inl (fun _ => 0))), (r7 6, .inl (zkA X 0, 10, .inl (fun _ => 0))), (r7 7, .inl (zkA X 0, 10, .inl (fun _ => 0))), (r7 8, .inl (zkA X 0, 10, .inl (fun _ => 0))), (r7 9, .inl (zkA X 0, 10, .inl (fun _ => 0))), (r7 10, .inl (zkA X 0, 10, .inl (fun _ => 0))), (r7 11, .inl (zkA X 0, 10, .inl (fun _ => 0))), (r7 12, .inl (zkA X 0, 10, .inl (fun _ => 0)))] rfl ?_
  refine v_aload_n (pc := 54) (xc := 36) (xs := 1151) 0 rfl rfl C dX1_init_54 ?_
  refine v_iconst (pc := 55) (xc := 36) (xs := 1151) (0 : Int32) (by decide) C dX1_init_55 ?_
  refine v_put (pc := 56) (xc := 36) (xs := 1151) 0 1 5 C dX1_init_56 rfl (by decide) (by decide) zw_210 rfl rfl rfl (Nat.le_of_ble_eq_true rfl) [(h0, .inr (1, [.ref (q2 0), .ref (q4 0), .ref a5, .ref a6, .ref a7, .int 0, .null, .null, .int 0, .int 0])), (a5, .inl (zkA X 0, 6, .inl (fun _ => 0))), (a6, .inl (zkA X 0, 6, .inl (fun _ => 0))), (a7, .inl (zkA X 3, 13, .inr (.inr (.inr (.inr (fun i => if i < 13 then some (r7 i) else none)))))), (r7 0, .inl (zkA X 0, 10, .inl (fun _ => 0))), (r7 1, .inl (zkA X 0, 10, .inl (fun _ => 0))), (r7 2, .inl (zkA X 0, 10, .inl (fun _ => 0))), (r7 3, .inl (zkA X 0, 10, .inl (fun _ => 0))), (r7 4, .inl (zkA X 0, 10, .inl (fun _ => 0))), (r7 5, .inl (zkA X 0, 10, .inl (fun _ => 0))), (r7 6, .inl (zkA X 0, 10, .inl (fun _ => 0))), (r7 7, .inl (zkA X 0, 10, .inl (fun _ => 0))), (r7 8, .inl (zkA X 0, 10, .inl (fun _ => 0))), (r7 9, .inl (zkA X 0, 10, .inl (fun _ => 0))), (r7 10, .inl (zkA X 0, 10, .inl (fun _ => 0))), (r7 11, .inl (zkA X 0, 10, .inl (fun _ => 0))), (r7 12, .inl (zkA X 0, 10, .inl (fun _ => 0)))] rfl ?_
  refine v_aload_n (pc := 59) (xc := 36) (xs := 1151) 0 rfl rfl C dX1_init_59 ?_
  refine v_bipush (pc := 60) (xc := 36) (xs := 1151) (6 : Int32) (by decide) C dX1_init_60 ?_
  refine v_newa (pc := 62) (xc := 36) (xs := 1151) .int .int 0 6 (.inl (fun _ => 0)) C dX1_init_62 zw_134 rfl (fun _ => rfl) (by simp) (fun _ => rfl) (by decide) (by decide) (Nat.le_of_ble_eq_true rfl) (Nat.le_of_ble_eq_true rfl) (Nat.le_of_ble_eq_true rfl) (fun a8 => [(h0, .inr (1, [.ref (q2 0), .ref (q4 0), .ref a5, .ref a6, .ref a7, .int 0, .null, .null, .int 0, .int 0])), (a5, .inl (zkA X 0, 6, .inl (fun _ => 0))), (a6, .inl (zkA X 0, 6, .inl (fun _ => 0))), (a7, .inl (zkA X 3, 13, .inr (.inr (.inr (.inr (fun i => if i < 13 then some (r7 i) else none)))))), (r7 0, .inl (zkA X 0, 10, .inl (fun _ => 0))), (r7 1, .inl (zkA X 0, 10, .inl (fun _ => 0))), (r7 2, .inl (zkA X 0, 10, .inl (fun _ => 0))), (r7 3, .inl (zkA X 0, 10, .inl (fun _ => 0))), (r7 4, .inl (zkA X 0, 10, .inl (fun _ => 0))), (r7 5, .inl (zkA X 0, 10, .inl (fun _ => 0))), (r7 6, .inl (zkA X 0, 10, .inl (fun _ => 0))), (r7 7, .inl (zkA X 0, 10, .inl (fun _ => 0))), (r7 8, .inl (zkA X 0, 10, .inl (fun _ => 0))), (r7 9, .inl (zkA X 0, 10, .inl (fun _ => 0))), (r7 10, .inl (zkA X 0, 10, .inl (fun _ => 0))), (r7 11, .inl (zkA X 0, 10, .inl (fun _ => 0))), (r7 12, .inl (zkA X 0, 10, .inl (fun _ => 0))), (a8, .inl (zkA X 0, 6, .inl (fun _ => 0)))]) (fun _ => rfl) (fun a8 => ?_)
  refine v_putF (pc := 64) (xc := 37) (xs := 1157) 0 1 6 hIn C dX1_init_64 rfl (by decide) (by decide) zw_211 rfl rfl rfl rfl (Nat.le_of_ble_eq_true rfl) [(h0, .inr (1, [.ref (q2 0), .ref (q4 0), .ref a5, .ref a6, .ref a7, .int 0, .ref a8, .null, .int 0, .int 0])), (a5, .inl (zkA X 0, 6, .inl (fun _ => 0))), (a6, .inl (zkA X 0, 6, .inl (fun _ => 0))), (a7, .inl (zkA X 3, 13, .inr (.inr (.inr (.inr (fun i => if i < 13 then some (r7 i) else none)))))), (r7 0, .inl (zkA X 0, 10, .inl (fun _ => 0))), (r7 1, .inl (zkA X 0, 10, .inl (fun _ => 0))), (r7 2, .inl (zkA X 0, 10, .inl (fun _ => 0))), (r7 3, .inl (zkA X 0, 10, .inl (fun _ => 0))), (r7 4, .inl (zkA X 0, 10, .inl (fun _ => 0))), (r7 5, .inl (zkA X 0, 10, .inl (fun _ => 0))), (r7 6, .inl (zkA X 0, 10, .inl (fun _ => 0))), (r7 7, .inl (zkA X 0, 10, .inl (fun _ => 0))), (r7 8, .inl (zkA X 0, 10, .inl (fun _ => 0))), (r7 9, .inl (zkA X 0, 10, .inl (fun _ => 0))), (r7 10, .inl (zkA X 0, 10, .inl (fun _ => 0))), (r7 11, .inl (zkA X 0, 10, .inl (fun _ => 0))), (r7 12, .inl (zkA X 0, 10, .inl (fun _ => 0))), (a8, .inl (zkA X 0, 6, .inl (fun _ => 0)))] rfl ?_
  refine v_aload_n (pc := 67) (xc := 37) (xs := 1157) 0 rfl rfl C dX1_init_67 ?_
  refine v_bipush (pc := 68) (xc := 37) (xs := 1157) (10 : Int32) (by decide) C dX1_init_68 ?_
  refine v_newa (pc := 70) (xc := 37) (xs := 1157) .int .int 0 10 (.inl (fun _ => 0)) C dX1_init_70 zw_134 rfl (fun _ => rfl) (by simp) (fun _ => rfl) (by decide) (by decide) (Nat.le_of_ble_eq_true rfl) (Nat.le_of_ble_eq_true rfl) (Nat.le_of_ble_eq_true rfl) (fun a9 => [(h0, .inr (1, [.ref (q2 0), .ref (q4 0), .ref a5, .ref a6, .ref a7, .int 0, .ref a8, .null, .int 0, .int 0])), (a5, .inl (zkA X 0, 6, .inl (fun _ => 0))), (a6, .inl (zkA X 0, 6, .inl (fun _ => 0))), (a7, .inl (zkA X 3, 13, .inr (.inr (.inr (.inr (fun i => if i < 13 then some (r7 i) else none)))))), (r7 0, .inl (zkA X 0, 10, .inl (fun _ => 0))), (r7 1, .inl (zkA X 0, 10, .inl (fun _ => 0))), (r7 2, .inl (zkA X 0, 10, .inl (fun _ => 0))), (r7 3, .inl (zkA X 0, 10, .inl (fun _ => 0))), (r7 4, .inl (zkA X 0, 10, .inl (fun _ => 0))), (r7 5, .inl (zkA X 0, 10, .inl (fun _ => 0))), (r7 6, .inl (zkA X 0, 10, .inl (fun _ => 0))), (r7 7, .inl (zkA X 0, 10, .inl (fun _ => 0))), (r7 8, .inl (zkA X 0, 10, .inl (fun _ => 0))), (r7 9, .inl (zkA X 0, 10, .inl (fun _ => 0))), (r7 10, .inl (zkA X 0, 10, .inl (fun _ => 0))), (r7 11, .inl (zkA X 0, 10, .inl (fun _ => 0))), (r7 12, .inl (zkA X 0, 10, .inl (fun _ => 0))), (a8, .inl (zkA X 0, 6, .inl (fun _ => 0))), (a9, .inl (zkA X 0, 10, .inl (fun _ => 0)))]) (fun _ => rfl) (fun a9 => ?_)
  refine v_putF (pc := 72) (xc := 38) (xs := 1167) 0 1 7 hIn C dX1_init_72 rfl (by decide) (by decide) zw_213 rfl rfl rfl rfl (Nat.le_of_ble_eq_true rfl) [(h0, .inr (1, [.ref (q2 0), .ref (q4 0), .ref a5, .ref a6, .ref a7, .int 0, .ref a8, .ref a9, .int 0, .int 0])), (a5, .inl (zkA X 0, 6, .inl (fun _ => 0))), (a6, .inl (zkA X 0, 6, .inl (fun _ => 0))), (a7, .inl (zkA X 3, 13, .inr (.inr (.inr (.inr (fun i => if i < 13 then some (r7 i) else none)))))), (r7 0, .inl (zkA X 0, 10, .inl (fun _ => 0))), (r7 1, .inl (zkA X 0, 10, .inl (fun _ => 0))), (r7 2, .inl (zkA X 0, 10, .inl (fun _ => 0))), (r7 3, .inl (zkA X 0, 10, .inl (fun _ => 0))), (r7 4, .inl (zkA X 0, 10, .inl (fun _ => 0))), (r7 5, .inl (zkA X 0, 10, .inl (fun _ => 0))), (r7 6, .inl (zkA X 0, 10, .inl (fun _ => 0))), (r7 7, .inl (zkA X 0, 10, .inl (fun _ => 0))), (r7 8, .inl (zkA X 0, 10, .inl (fun _ => 0))), (r7 9, .inl (zkA X 0, 10, .inl (fun _ => 0))), (r7 10, .inl (zkA X 0, 10, .inl (fun _ => 0))), (r7 11, .inl (zkA X 0, 10, .inl (fun _ => 0))), (r7 12, .inl (zkA X 0, 10, .inl (fun _ => 0))), (a8, .inl (zkA X 0, 6, .inl (fun _ => 0))), (a9, .inl (zkA X 0, 10, .inl (fun _ => 0)))] rfl ?_
  refine v_aload_n (pc := 75) (xc := 38) (xs := 1167) 0 rfl rfl C dX1_init_75 ?_
  refine v_iconst (pc := 76) (xc := 38) (xs := 1167) (0 : Int32) (by decide) C dX1_init_76 ?_
  refine v_put (pc := 77) (xc := 38) (xs := 1167) 0 1 8 C dX1_init_77 rfl (by decide) (by decide) zw_215 rfl rfl rfl (Nat.le_of_ble_eq_true rfl) [(h0, .inr (1, [.ref (q2 0), .ref (q4 0), .ref a5, .ref a6, .ref a7, .int 0, .ref a8, .ref a9, .int 0, .int 0])), (a5, .inl (zkA X 0, 6, .inl (fun _ => 0))), (a6, .inl (zkA X 0, 6, .inl (fun _ => 0))), (a7, .inl (zkA X 3, 13, .inr (.inr (.inr (.inr (fun i => if i < 13 then some (r7 i) else none)))))), (r7 0, .inl (zkA X 0, 10, .inl (fun _ => 0))), (r7 1, .inl (zkA X 0, 10, .inl (fun _ => 0))), (r7 2, .inl (zkA X 0, 10, .inl (fun _ => 0))), (r7 3, .inl (zkA X 0, 10, .inl (fun _ => 0))), (r7 4, .inl (zkA X 0, 10, .inl (fun _ => 0))), (r7 5, .inl (zkA X 0, 10, .inl (fun _ => 0))), (r7 6, .inl (zkA X 0, 10, .inl (fun _ => 0))), (r7 7, .inl (zkA X 0, 10, .inl (fun _ => 0))), (r7 8, .inl (zkA X 0, 10, .inl (fun _ => 0))), (r7 9, .inl (zkA X 0, 10, .inl (fun _ => 0))), (r7 10, .inl (zkA X 0, 10, .inl (fun _ => 0))), (r7 11, .inl (zkA X 0, 10, .inl (fun _ => 0))), (r7 12, .inl (zkA X 0, 10, .inl (fun _ => 0))), (a8, .inl (zkA X 0, 6, .inl (fun _ => 0))), (a9, .inl (zkA X 0, 10, .inl (fun _ => 0)))] rfl ?_
  refine v_aload_n (pc := 80) (xc := 38) (xs := 1167) 0 rfl rfl C dX1_init_80 ?_
  refine v_iconst (pc := 81) (xc := 38) (xs := 1167) (0 : Int32) (by decide) C dX1_init_81 ?_
  refine v_put (pc := 82) (xc := 38) (xs := 1167) 0 1 9 C dX1_init_82 rfl (by decide) (by decide) zw_217 rfl rfl rfl (Nat.le_of_ble_eq_true rfl) [(h0, .inr (1, [.ref (q2 0), .ref (q4 0), .ref a5, .ref a6, .ref a7, .int 0, .ref a8, .ref a9, .int 0, .int 0])), (a5, .inl (zkA X 0, 6, .inl (fun _ => 0))), (a6, .inl (zkA X 0, 6, .inl (fun _ => 0))), (a7, .inl (zkA X 3, 13, .inr (.inr (.inr (.inr (fun i => if i < 13 then some (r7 i) else none)))))), (r7 0, .inl (zkA X 0, 10, .inl (fun _ => 0))), (r7 1, .inl (zkA X 0, 10, .inl (fun _ => 0))), (r7 2, .inl (zkA X 0, 10, .inl (fun _ => 0))), (r7 3, .inl (zkA X 0, 10, .inl (fun _ => 0))), (r7 4, .inl (zkA X 0, 10, .inl (fun _ => 0))), (r7 5, .inl (zkA X 0, 10, .inl (fun _ => 0))), (r7 6, .inl (zkA X 0, 10, .inl (fun _ => 0))), (r7 7, .inl (zkA X 0, 10, .inl (fun _ => 0))), (r7 8, .inl (zkA X 0, 10, .inl (fun _ => 0))), (r7 9, .inl (zkA X 0, 10, .inl (fun _ => 0))), (r7 10, .inl (zkA X 0, 10, .inl (fun _ => 0))), (r7 11, .inl (zkA X 0, 10, .inl (fun _ => 0))), (r7 12, .inl (zkA X 0, 10, .inl (fun _ => 0))), (a8, .inl (zkA X 0, 6, .inl (fun _ => 0))), (a9, .inl (zkA X 0, 10, .inl (fun _ => 0)))] rfl ?_
  obtain ⟨q, hq⟩ : ∃ q : Nat → Nat, q = (fun k => if k = 50 then q2 0 else if k = 51 then q4 0 else if 6 ≤ k then r7 (k - 6) else [h0, a5, a6, a7, a8, a9].getD k 0) := ⟨_, rfl⟩
  have hqr : (fun i => if i < 13 then some (r7 i) else none) = (fun i => if i < 13 then some (q (zbs 1 + i)) else none) := by
    funext i
    by_cases hi : i < 13
    · rw [if_pos hi, if_pos hi, hq]
      show _ = some (if 6 + i = 50 then q2 0 else if 6 + i = 51 then q4 0 else if 6 ≤ 6 + i then r7 (6 + i - 6) else _)
      rw [if_neg (by omega), if_neg (by omega), if_pos (by omega), Nat.add_sub_cancel_left]
    · rw [if_neg hi, if_neg hi]
  refine v_return (pc := 85) (xc := 38) (xs := 1167) [(1, q, zZ), (2, q2, zZ), (0, q4, zZ)] C hR dX1_init_85 ⟨q, q2, q4, by rw [hq]; rfl, by rw [hq]; rfl, by rw [hq]; rfl, rfl⟩ ?_ rfl rfl
  rw [hqr]
  refine List.Perm.append_right (zgw (zkA X) [(2, q2, zZ), (0, q4, zZ)]) (l₂ := zco (zkA X) (1, q, zZ)) ?_
  subst hq
  exact (z_pn 19 _ rfl [0, 1, 2, 3, 17, 18, 4, 5, 6, 7, 8, 9, 10, 11, 12, 13, 14, 15, 16] (by decide)).symm
theorem dX5_init_0 : decode cX5_init 0 = .ok (.aload_n 0, 1) := by decide +kernel
theorem dX5_init_1 : decode cX5_init 1 = .ok (.invokespecial 1, 3) := by decide +kernel
theorem dX5_init_4 : decode cX5_init 4 = .ok (.aload_n 0, 1) := by decide +kernel
theorem dX5_init_5 : decode cX5_init 5 = .ok (.bipush 46, 2) := by decide +kernel
theorem dX5_init_7 : decode cX5_init 7 = .ok (.newarray .int, 2) := by decide +kernel
theorem dX5_init_9 : decode cX5_init 9 = .ok (.putfield 7, 3) := by decide +kernel
theorem dX5_init_12 : decode cX5_init 12 = .ok (.aload_n 0, 1) := by decide +kernel
theorem dX5_init_13 : decode cX5_init 13 = .ok (.bipush 46, 2) := by decide +kernel
theorem dX5_init_15 : decode cX5_init 15 = .ok (.newarray .int, 2) := by decide +kernel
theorem dX5_init_17 : decode cX5_init 17 = .ok (.putfield 13, 3) := by decide +kernel
theorem dX5_init_20 : decode cX5_init 20 = .ok (.aload_n 0, 1) := by decide +kernel
theorem dX5_init_21 : decode cX5_init 21 = .ok (.sipush 230, 3) := by decide +kernel
theorem dX5_init_24 : decode cX5_init 24 = .ok (.newarray .int, 2) := by decide +kernel
theorem dX5_init_26 : decode cX5_init 26 = .ok (.putfield 16, 3) := by decide +kernel
theorem dX5_init_29 : decode cX5_init 29 = .ok (.aload_n 0, 1) := by decide +kernel
theorem dX5_init_30 : decode cX5_init 30 = .ok (.iconst 3, 1) := by decide +kernel
theorem dX5_init_31 : decode cX5_init 31 = .ok (.newarray .int, 2) := by decide +kernel
theorem dX5_init_33 : decode cX5_init 33 = .ok (.putfield 19, 3) := by decide +kernel
theorem dX5_init_36 : decode cX5_init 36 = .ok (.aload_n 0, 1) := by decide +kernel
theorem dX5_init_37 : decode cX5_init 37 = .ok (.sipush 192, 3) := by decide +kernel
theorem dX5_init_40 : decode cX5_init 40 = .ok (.newarray .int, 2) := by decide +kernel
theorem dX5_init_42 : decode cX5_init 42 = .ok (.putfield 22, 3) := by decide +kernel
theorem dX5_init_45 : decode cX5_init 45 = .ok (.aload_n 0, 1) := by decide +kernel
theorem dX5_init_46 : decode cX5_init 46 = .ok (.bipush 64, 2) := by decide +kernel
theorem dX5_init_48 : decode cX5_init 48 = .ok (.newarray .int, 2) := by decide +kernel
theorem dX5_init_50 : decode cX5_init 50 = .ok (.putfield 25, 3) := by decide +kernel
theorem dX5_init_53 : decode cX5_init 53 = .ok (.aload_n 0, 1) := by decide +kernel
theorem dX5_init_54 : decode cX5_init 54 = .ok (.sipush 192, 3) := by decide +kernel
theorem dX5_init_57 : decode cX5_init 57 = .ok (.newarray .int, 2) := by decide +kernel
theorem dX5_init_59 : decode cX5_init 59 = .ok (.putfield 28, 3) := by decide +kernel
theorem dX5_init_62 : decode cX5_init 62 = .ok (.aload_n 0, 1) := by decide +kernel
theorem dX5_init_63 : decode cX5_init 63 = .ok (.sipush 192, 3) := by decide +kernel
theorem dX5_init_66 : decode cX5_init 66 = .ok (.newarray .int, 2) := by decide +kernel
theorem dX5_init_68 : decode cX5_init 68 = .ok (.putfield 31, 3) := by decide +kernel
theorem dX5_init_71 : decode cX5_init 71 = .ok (.aload_n 0, 1) := by decide +kernel
theorem dX5_init_72 : decode cX5_init 72 = .ok (.bipush 16, 2) := by decide +kernel
theorem dX5_init_74 : decode cX5_init 74 = .ok (.newarray .int, 2) := by decide +kernel
theorem dX5_init_76 : decode cX5_init 76 = .ok (.putfield 34, 3) := by decide +kernel
theorem dX5_init_79 : decode cX5_init 79 = .ok (.aload_n 0, 1) := by decide +kernel
theorem dX5_init_80 : decode cX5_init 80 = .ok (.bipush 7, 2) := by decide +kernel
theorem dX5_init_82 : decode cX5_init 82 = .ok (.newarray .int, 2) := by decide +kernel
theorem dX5_init_84 : decode cX5_init 84 = .ok (.putfield 37, 3) := by decide +kernel
theorem dX5_init_87 : decode cX5_init 87 = .ok (.aload_n 0, 1) := by decide +kernel
theorem dX5_init_88 : decode cX5_init 88 = .ok (.bipush 70, 2) := by decide +kernel
theorem dX5_init_90 : decode cX5_init 90 = .ok (.newarray .int, 2) := by decide +kernel
theorem dX5_init_92 : decode cX5_init 92 = .ok (.putfield 40, 3) := by decide +kernel
theorem dX5_init_95 : decode cX5_init 95 = .ok (.aload_n 0, 1) := by decide +kernel
theorem dX5_init_96 : decode cX5_init 96 = .ok (.sipush 150, 3) := by decide +kernel
theorem dX5_init_99 : decode cX5_init 99 = .ok (.newarray .int, 2) := by decide +kernel
theorem dX5_init_101 : decode cX5_init 101 = .ok (.putfield 43, 3) := by decide +kernel
theorem dX5_init_104 : decode cX5_init 104 = .ok (.aload_n 0, 1) := by decide +kernel
theorem dX5_init_105 : decode cX5_init 105 = .ok (.bipush 80, 2) := by decide +kernel
theorem dX5_init_107 : decode cX5_init 107 = .ok (.newarray .int, 2) := by decide +kernel
theorem dX5_init_109 : decode cX5_init 109 = .ok (.putfield 46, 3) := by decide +kernel
theorem dX5_init_112 : decode cX5_init 112 = .ok (.aload_n 0, 1) := by decide +kernel
theorem dX5_init_113 : decode cX5_init 113 = .ok (.sipush 400, 3) := by decide +kernel
theorem dX5_init_116 : decode cX5_init 116 = .ok (.newarray .int, 2) := by decide +kernel
theorem dX5_init_118 : decode cX5_init 118 = .ok (.putfield 49, 3) := by decide +kernel
theorem dX5_init_121 : decode cX5_init 121 = .ok (.aload_n 0, 1) := by decide +kernel
theorem dX5_init_122 : decode cX5_init 122 = .ok (.iconst 0, 1) := by decide +kernel
theorem dX5_init_123 : decode cX5_init 123 = .ok (.putfield 52, 3) := by decide +kernel
theorem dX5_init_126 : decode cX5_init 126 = .ok (.return_, 1) := by decide +kernel
def rmX5_init : Room := { frames := 1, cells := 14, slots := 1688, locals := 20 }
set_option maxRecDepth 20000 in
theorem mX5_init : zMI yX5_init cX5_init 1 rmX5_init 5 [.null, .null, .null, .int 0, .null, .int 0, .null, .int 0, .int 0, .null, .int 0, .null, .int 0, .null, .int 0, .null, .null, .null, .null, .int 0, .int 0, .int 0, .int 0, .null, .null, .long 0] [] (fun h0 cs1 => ∃ q : Nat → Nat, q 0 = h0 ∧ cs1 = [(5, q, zZ)]) := by
  refine zMI_of (by decide +kernel) rfl (Nat.le_of_ble_eq_true rfl) (fun X h0 C hIn hR => ?_)
  refine v_aload_n (pc := 0) (xc := 0) (xs := 0) 0 rfl rfl C dX5_init_0 ?_
  refine v_obj (pc := 1) (xc := 0) (xs := 0) C dX5_init_1 zw_714 zw_95 zw_96 (Nat.le_of_ble_eq_true rfl) (Nat.le_of_ble_eq_true rfl) ?_
  refine v_aload_n (pc := 4) (xc := 0) (xs := 0) 0 rfl rfl C dX5_init_4 ?_
  refine v_bipush (pc := 5) (xc := 0) (xs := 0) (46 : Int32) (by decide) C dX5_init_5 ?_
  refine v_newa (pc := 7) (xc := 0) (xs := 0) .int .int 0 46 (.inl (fun _ => 0)) C dX5_init_7 zw_134 rfl (fun _ => rfl) (by simp) (fun _ => rfl) (by decide) (by decide) (Nat.le_of_ble_eq_true rfl) (Nat.le_of_ble_eq_true rfl) (Nat.le_of_ble_eq_true rfl) (fun a1 => [(h0, .inr (5, [.null, .null, .null, .int 0, .null, .int 0, .null, .int 0, .int 0, .null, .int 0, .null, .int 0, .null, .int 0, .null, .null, .null, .null, .int 0, .int 0, .int 0, .int 0, .null, .null, .long 0])), (a1, .inl (zkA X 0, 46, .inl (fun _ => 0)))]) (fun _ => rfl) (fun a1 => ?_)
  refine v_putF (pc := 9) (xc := 1) (xs := 46) 0 5 0 hIn C dX5_init_9 rfl (by decide) (by decide) zw_715 rfl rfl rfl rfl (Nat.le_of_ble_eq_true rfl) [(h0, .inr (5, [.ref a1, .null, .null, .int 0, .null, .int 0, .null, .int 0, .int 0, .null, .int 0, .null, .int 0, .null, .int 0, .null, .null, .null, .null, .int 0, .int 0, .int 0, .int 0, .null, .null, .long 0])), (a1, .inl (zkA X 0, 46, .inl (fun _ => 0)))] rfl ?_
  refine v_aload_n (pc := 12) (xc := 1) (xs := 46) 0 rfl rfl C dX5_init_12 ?_
  refine v_bipush (pc := 13) (xc := 1) (xs := 46) (46 : Int32) (by decide) C dX5_init_13 ?_
  refine v_newa (pc := 15) (xc := 1) (xs := 46) .int .int 0 46 (.inl (fun _ => 0)) C dX5_init_15 zw_134 rfl (fun _ => rfl) (by simp) (fun _ => rfl) (by decide) (by decide) (Nat.le_of_ble_eq_true rfl) (Nat.le_of_ble_eq_true rfl) (Nat.le_of_ble_eq_true rfl) (fun a2 => [(h0, .inr (5, [.ref a1, .null, .null, .int 0, .null, .int 0, .null, .int 0, .int 0, .null, .int 0, .null, .int 0, .null, .int 0, .null, .null, .null, .null, .int 0, .int 0, .int 0, .int 0, .null, .null, .long 0])), (a1, .inl (zkA X 0, 46, .inl (fun _ => 0))), (a2, .inl (zkA X 0, 46, .inl (fun _ => 0)))]) (fun _ => rfl) (fun a2 => ?_)
  refine v_putF (pc := 17) (xc := 2) (xs := 92) 0 5 1 hIn C dX5_init_17 rfl (by decide) (by decide) zw_716 rfl rfl rfl rfl (Nat.le_of_ble_eq_true rfl) [(h0, .inr (5, [.ref a1, .ref a2, .null, .int 0, .null, .int 0, .null, .int 0, .int 0, .null, .int 0, .null, .int 0, .null, .int 0, .null, .null, .null, .null, .int 0, .int 0, .int 0, .int 0, .null, .null, .long 0])), (a1, .inl (zkA X 0, 46, .inl (fun _ => 0))), (a2, .inl (zkA X 0, 46, .inl (fun _ => 0)))] rfl ?_
  refine v_aload_n (pc := 20) (xc := 2) (xs := 92) 0 rfl rfl C dX5_init_20 ?_
  refine v_sipush (pc := 21) (xc := 2) (xs := 92) (230 : Int32) (by decide) C dX5_init_21 ?_
  refine v_newa (pc := 24) (xc := 2) (xs := 92) .int .int 0 230 (.inl (fun _ => 0)) C dX5_init_24 zw_134 rfl (fun _ => rfl) (by simp) (fun _ => rfl) (by decide) (by decide) (Nat.le_of_ble_eq_true rfl) (Nat.le_of_ble_eq_true rfl) (Nat.le_of_ble_eq_true rfl) (fun a3 => [(h0, .inr (5, [.ref a1, .ref a2, .null, .int 0, .null, .int 0, .null, .int 0, .int 0, .null, .int 0, .null, .int 0, .null, .int 0, .null, .null, .null, .null, .int 0, .int 0, .int 0, .int 0, .null, .null, .long 0])), (a1, .inl (zkA X 0, 46, .inl (fun _ => 0))), (a2, .inl (zkA X 0, 46, .inl (fun _ => 0))), (a3, .inl (zkA X 0, 230, .inl (fun _ => 0)))]) (fun _ => rfl) (fun a3 => ?_)
  refine v_putF (pc := 26) (xc := 3) (xs := 322) 0 5 2 hIn C dX5_init_26 rfl (by decide) (by decide) zw_717 rfl rfl rfl rfl (Nat.le_of_ble_eq_true rfl) [(h0, .inr (5, [.ref a1, .ref a2, .ref a3, .int 0, .null, .int 0, .null, .int 0, .int 0, .null, .int 0, .null, .int 0, .null, .int 0, .null, .null, .null, .null, .int 0, .int 0, .int 0, .int 0, .null, .null, .long 0])), (a1, .inl (zkA X 0, 46, .inl (fun _ => 0))), (a2, .inl (zkA X 0, 46, .inl (fun _ => 0))), (a3, .inl (zkA X 0, 230, .inl (fun _ => 0)))] rfl ?_
  refine v_aload_n (pc := 29) (xc := 3) (xs := 322) 0 rfl rfl C dX5_init_29 ?_
  refine v_iconst (pc := 30) (xc := 3) (xs := 322) (3 : Int32) (by decide) C dX5_init_30 ?_
  refine v_newa (pc := 31) (xc := 3) (xs := 322) .int .int 0 3 (.inl (fun _ => 0)) C dX5_init_31 zw_134 rfl (fun _ => rfl) (by simp) (fun _ => rfl) (by decide) (by decide) (Nat.le_of_ble_eq_true rfl) (Nat.le_of_ble_eq_true rfl) (Nat.le_of_ble_eq_true rfl) (fun a4 => [(h0, .inr (5, [.ref a1, .ref a2, .ref a3, .int 0, .null, .int 0, .null, .int 0, .int 0, .null, .int 0, .null, .int 0, .null, .int 0, .null, .null, .null, .null, .int 0, .int 0, .int 0, .int 0, .null, .null, .long 0])), (a1, .inl (zkA X 0, 46, .inl (fun _ => 0))), (a2, .inl (zkA X 0, 46, .inl (fun _ => 0))), (a3, .inl (zkA X 0, 230, .inl (fun _ => 0))), (a4, .inl (zkA X 0, 3, .inl (fun _ => 0)))]) (fun _ => rfl) (fun a4 => ?_)
  refine v_putF (pc := 33) (xc := 4) (xs := 325) 0 5 4 hIn C dX5_init_33 rfl (by decide) (by decide) zw_719 rfl rfl rfl rfl (Nat.le_of_ble_eq_true rfl) [(h0, .inr (5, [.ref a1, .ref a2, .ref a3, .int 0, .ref a4, .int 0, .null, .int 0, .int 0, .null, .int 0, .null, .int 0, .null, .int 0, .null, .null, .null, .null, .int 0, .int 0, .int 0, .int 0, .null, .null, .long 0])), (a1, .inl (zkA X 0, 46, .inl (fun _ => 0))), (a2, .inl (zkA X 0, 46, .inl (fun _ => 0))), (a3, .inl (zkA X 0, 230, .inl (fun _ => 0))), (a4, .inl (zkA X 0, 3, .inl (fun _ => 0)))] rfl ?_
  refine v_aload_n (pc := 36) (xc := 4) (xs := 325) 0 rfl rfl C dX5_init_36 ?_
  refine v_sipush (pc := 37) (xc := 4) (xs := 325) (192 : Int32) (by decide) C dX5_init_37 ?_
  refine v_newa (pc := 40) (xc := 4) (xs := 325) .int .int 0 192 (.inl (fun _ => 0)) C dX5_init_40 zw_134 rfl (fun _ => rfl) (by simp) (fun _ => rfl) (by decide) (by decide) (Nat.le_of_ble_eq_true rfl) (Nat.le_of_ble_eq_true rfl) (Nat.le_of_ble_eq_true rfl) (fun a5 => [(h0, .inr (5, [.ref a1, .ref a2, .ref a3, .int 0, .ref a4, .int 0, .null, .int 0, .int 0, .null, .int 0, .null, .int 0, .null, .int 0, .null, .null, .null, .null, .int 0, .int 0, .int 0, .int 0, .null, .null, .long 0])), (a1, .inl (zkA X 0, 46, .inl (fun _ => 0))), (a2, .inl (zkA X 0, 46, .inl (fun _ => 0))), (a3, .inl (zkA X 0, 230, .inl (fun _ => 0))), (a4, .inl (zkA X 0, 3, .inl (fun _ => 0))), (a5, .inl (zkA X 0, 192, .inl (fun _ => 0)))]) (fun _ => rfl) (fun a5 => ?_)
  refine v_putF (pc := 42) (xc := 5) (xs := 517) 0 5 6 hIn C dX5_init_42 rfl (by decide) (by decide) zw_721 rfl rfl rfl rfl (Nat.le_of_ble_eq_true rfl) [(h0, .inr (5, [.ref a1, .ref a2, .ref a3, .int 0, .ref a4, .int 0, .ref a5, .int 0, .int 0, .null, .int 0, .null, .int 0, .null, .int 0, .null, .null, .null, .null, .int 0, .int 0, .int 0, .int 0, .null, .null, .long 0])), (a1, .inl (zkA X 0, 46, .inl (fun _ => 0))), (a2, .inl (zkA X 0, 46, .inl (fun _ => 0))), (a3, .inl (zkA X 0, 230, .inl (fun _ => 0))), (a4, .inl (zkA X 0, 3, .inl (fun _ => 0))), (a5, .inl (zkA X 0, 192, .inl (fun _ => 0)))] rfl ?_
  refine v_aload_n (pc := 45) (xc := 5) (xs := 517) 0 rfl rfl C dX5_init_45 ?_
  refine v_bipush (pc := 46) (xc := 5) (xs := 517) (64 : Int32) (by decide) C dX5_init_46 ?_
  refine v_newa (pc := 48) (xc := 5) (xs := 517) .int .int 0 64 (.inl (fun _ => 0)) C dX5_init_48 zw_134 rfl (fun _ => rfl) (by simp) (fun _ => rfl) (by decide) (by decide) (Nat.le_of_ble_eq_true rfl) (Nat.le_of_ble_eq_true rfl) (Nat.le_of_ble_eq_true rfl) (fun a6 => [(h0, .inr (5, [.ref a1, .ref a2, .ref a3, .int 0, .ref a4, .int 0, .ref a5, .int 0, .int 0, .null, .int 0, .null, .int 0, .null, .int 0, .null, .null, .null, .null, .int 0, .int 0, .int 0, .int 0, .null, .null, .long 0])), (a1, .inl (zkA X 0, 46, .inl (fun _ => 0))), (a2, .inl (zkA X 0, 46, .inl (fun _ => 0))), (a3, .inl (zkA X 0, 230, .inl (fun _ => 0))), (a4, .inl (zkA X 0, 3, .inl (fun _ => 0))), (a5, .inl (zkA X 0, 192, .inl (fun _ => 0))), (a6, .inl (zkA X 0, 64, .inl (fun _ => 0)))]) (fun _ => rfl) (fun a6 => ?_)
  refine v_putF (pc := 50) (xc := 6) (xs := 581) 0 5 9 hIn C dX5_init_50 rfl (by decide) (by decide) zw_724 rfl rfl rfl rfl (Nat.le_of_ble_eq_true rfl) [(h0, .inr (5, [.ref a1, .ref a2, .ref a3, .int 0, .ref a4, .int 0, .ref a5, .int 0, .int 0, .ref a6, .int 0, .null, .int 0, .null, .int 0, .null, .null, .null, .null, .int 0, .int 0, .int 0, .int 0, .null, .null, .long 0])), (a1, .inl (zkA X 0, 46, .inl (fun _ => 0))), (a2, .inl (zkA X 0, 46, .inl (fun _ => 0))), (a3, .inl (zkA X 0, 230, .inl (fun _ => 0))), (a4, .inl (zkA X 0, 3, .inl (fun _ => 0))), (a5, .inl (zkA X 0, 192, .inl (fun _ => 0))), (a6, .inl (zkA X 0, 64, .inl (fun _ => 0)))] rfl ?_
  refine v_aload_n (pc := 53) (xc := 6) (xs := 581) 0 rfl rfl C dX5_init_53 ?_
  refine v_sipush (pc := 54) (xc := 6) (xs := 581) (192 : Int32) (by decide) C dX5_init_54 ?_
  refine v_newa (pc := 57) (xc := 6) (xs := 581) .int .int 0 192 (.inl (fun _ => 0)) C dX5_init_57 zw_134 rfl (fun _ => rfl) (by simp) (fun _ => rfl) (by decide) (by decide) (Nat.le_of_ble_eq_true rfl) (Nat.le_of_ble_eq_true rfl) (Nat.le_of_ble_eq_true rfl) (fun a7 => [(h0, .inr (5, [.ref a1, .ref a2, .ref a3, .int 0, .ref a4, .int 0, .ref a5, .int 0, .int 0, .ref a6, .int 0, .null, .int 0, .null, .int 0, .null, .null, .null, .null, .int 0, .int 0, .int 0, .int 0, .null, .null, .long 0])), (a1, .inl (zkA X 0, 46, .inl (fun _ => 0))), (a2, .inl (zkA X 0, 46, .inl (fun _ => 0))), (a3, .inl (zkA X 0, 230, .inl (fun _ => 0))), (a4, .inl (zkA X 0, 3, .inl (fun _ => 0))), (a5, .inl (zkA X 0, 192, .inl (fun _ => 0))), (a6, .inl (zkA X 0, 64, .inl (fun _ => 0))), (a7, .inl (zkA X 0, 192, .inl (fun _ => 0)))]) (fun _ => rfl) (fun a7 => ?_)
  refine v_putF (pc := 59) (xc := 7) (xs := 773) 0 5 11 hIn C dX5_init_59 rfl (by decide) (by decide) zw_726 rfl rfl rfl rfl (Nat.le_of_ble_eq_true rfl) [(h0, .inr (5, [.ref a1, .ref a2, .ref a3, .int 0, .ref a4, .int 0, .ref a5, .int 0, .int 0, .ref a6, .int 0, .ref a7, .int 0, .null, .int 0, .null, .null, .null, .null, .int 0, .int 0, .int 0, .int 0, .null, .null, .long 0])), (a1, .inl (zkA X 0, 46, .inl (fun _ => 0))), (a2, .inl (zkA X 0, 46, .inl (fun _ => 0))), (a3, .inl (zkA X 0, 230, .inl (fun _ => 0))), (a4, .inl (zkA X 0, 3, .inl (fun _ => 0))), (a5, .inl (zkA X 0, 192, .inl (fun _ => 0))), (a6, .inl (zkA X 0, 64, .inl (fun _ => 0))), (a7, .inl (zkA X 0, 192, .inl (fun _ => 0)))] rfl ?_
  refine v_aload_n (pc := 62) (xc := 7) (xs := 773) 0 rfl rfl C dX5_init_62 ?_
  refine v_sipush (pc := 63) (xc := 7) (xs := 773) (192 : Int32) (by decide) C dX5_init_63 ?_
  refine v_newa (pc := 66) (xc := 7) (xs := 773) .int .int 0 192 (.inl (fun _ => 0)) C dX5_init_66 zw_134 rfl (fun _ => rfl) (by simp) (fun _ => rfl) (by decide) (by decide) (Nat.le_of_ble_eq_true rfl) (Nat.le_of_ble_eq_true rfl) (Nat.le_of_ble_eq_true rfl) (fun a8 => [(h0, .inr (5, [.ref a1, .ref a2, .ref a3, .int 0, .ref a4, .int 0, .ref a5, .int 0, .int 0, .ref a6, .int 0, .ref a7, .int 0, .null, .int 0, .null, .null, .null, .null, .int 0, .int 0, .int 0, .int 0, .null, .null, .long 0])), (a1, .inl (zkA X 0, 46, .inl (fun _ => 0))), (a2, .inl (zkA X 0, 46, .inl (fun _ => 0))), (a3, .inl (zkA X 0, 230, .inl (fun _ => 0))), (a4, .inl (zkA X 0, 3, .inl (fun _ => 0))), (a5, .inl (zkA X 0, 192, .inl (fun _ => 0))), (a6, .inl (zkA X 0, 64, .inl (fun _ => 0))), (a7, .inl (zkA X 0, 192, .inl (fun _ => 0))), (a8, .inl (zkA X 0, 192, .inl (fun _ => 0)))]) (fun _ => rfl) (fun a8 => ?_)
  refine v_putF (pc := 68) (xc := 8) (xs := 965) 0 5 13 hIn C dX5_init_68 rfl (by decide) (by decide) zw_728 rfl rfl rfl rfl (Nat.le_of_ble_eq_true rfl) [(h0, .inr (5, [.ref a1, .ref a2, .ref a3, .int 0, .ref a4, .int 0, .ref a5, .int 0, .int 0, .ref a6, .int 0, .ref a7, .int 0, .ref a8, .int 0, .null, .null, .null, .null, .int 0, .int 0, .int 0, .int 0, .null, .null, .long 0])), (a1, .inl (zkA X 0, 46, .inl (fun _ => 0))), (a2, .inl (zkA X 0, 46, .inl (fun _ => 0))), (a3, .inl (zkA X 0, 230, .inl (fun _ => 0))), (a4, .inl (zkA X 0, 3, .inl (fun _ => 0))), (a5, .inl (zkA X 0, 192, .inl (fun _ => 0))), (a6, .inl (zkA X 0, 64, .inl (fun _ => 0))), (a7, .inl (zkA X 0, 192, .inl (fun _ => 0))), (a8, .inl (zkA X 0, 192, .inl (fun _ => 0)))] rfl ?_
  refine v_aload_n (pc := 71) (xc := 8) (xs := 965) 0 rfl rfl C dX5_init_71 ?_
  refine v_bipush (pc := 72) (xc := 8) (xs := 965) (16 : Int32) (by decide) C dX5_init_72 ?_
  refine v_newa (pc := 74) (xc := 8) (xs := 965) .int .int 0 16 (.inl (fun _ => 0)) C dX5_init_74 zw_134 rfl (fun _ => rfl) (by simp) (fun _ => rfl) (by decide) (by decide) (Nat.le_of_ble_eq_true rfl) (Nat.le_of_ble_eq_true rfl) (Nat.le_of_ble_eq_true rfl) (fun a9 => [(h0, .inr (5, [.ref a1, .ref a2, .ref a3, .int 0, .ref a4, .int 0, .ref a5, .int 0, .int 0, .ref a6, .int 0, .ref a7, .int 0, .ref a8, .int 0, .null, .null, .null, .null, .int 0, .int 0, .int 0, .int 0, .null, .null, .long 0])), (a1, .inl (zkA X 0, 46, .inl (fun _ => 0))), (a2, .inl (zkA X 0, 46, .inl (fun _ => 0))), (a3, .inl (zkA X 0, 230, .inl (fun _ => 0))), (a4, .inl (zkA X 0, 3, .inl (fun _ => 0))), (a5, .inl (zkA X 0, 192, .inl (fun _ => 0))), (a6, .inl (zkA X 0, 64, .inl (fun _ => 0))), (a7, .inl (zkA X 0, 192, .inl (fun _ => 0))), (a8, .inl (zkA X 0, 192, .inl (fun _ => 0))), (a9, .inl (zkA X 0, 16, .inl (fun _ => 0)))]) (fun _ => rfl) (fun a9 => ?_)
  refine v_putF (pc := 76) (xc := 9) (xs := 981) 0 5 15 hIn C dX5_init_76 rfl (by decide) (by decide) zw_730 rfl rfl rfl rfl (Nat.le_of_ble_eq_true rfl) [(h0, .inr (5, [.ref a1, .ref a2, .ref a3, .int 0, .ref a4, .int 0, .ref a5, .int 0, .int 0, .ref a6, .int 0, .ref a7, .int 0, .ref a8, .int 0, .ref a9, .null, .null, .null, .int 0, .int 0, .int 0, .int 0, .null, .null, .long 0])), (a1, .inl (zkA X 0, 46, .inl (fun _ => 0))), (a2, .inl (zkA X 0, 46, .inl (fun _ => 0))), (a3, .inl (zkA X 0, 230, .inl (fun _ => 0))), (a4, .inl (zkA X 0, 3, .inl (fun _ => 0))), (a5, .inl (zkA X 0, 192, .inl (fun _ => 0))), (a6, .inl (zkA X 0, 64, .inl (fun _ => 0))), (a7, .inl (zkA X 0, 192, .inl (fun _ => 0))), (a8, .inl (zkA X 0, 192, .inl (fun _ => 0))), (a9, .inl (zkA X 0, 16, .inl (fun _ => 0)))] rfl ?_
  refine v_aload_n (pc := 79) (xc := 9) (xs := 981) 0 rfl rfl C dX5_init_79 ?_
  refine v_bipush (pc := 80) (xc := 9) (xs := 981) (7 : Int32) (by decide) C dX5_init_80 ?_
  refine v_newa (pc := 82) (xc := 9) (xs := 981) .int .int 0 7 (.inl (fun _ => 0)) C dX5_init_82 zw_134 rfl (fun _ => rfl) (by simp) (fun _ => rfl) (by decide) (by decide) (Nat.le_of_ble_eq_true rfl) (Nat.le_of_ble_eq_true rfl) (Nat.le_of_ble_eq_true rfl) (fun a10 => [(h0, .inr (5, [.ref a1, .ref a2, .ref a3, .int 0, .ref a4, .int 0, .ref a5, .int 0, .int 0, .ref a6, .int 0, .ref a7, .int 0, .ref a8, .int 0, .ref a9, .null, .null, .null, .int 0, .int 0, .int 0, .int 0, .null, .null, .long 0])), (a1, .inl (zkA X 0, 46, .inl (fun _ => 0))), (a2, .inl (zkA X 0, 46, .inl (fun _ => 0))), (a3, .inl (zkA X 0, 230, .inl (fun _ => 0))), (a4, .inl (zkA X 0, 3, .inl (fun _ => 0))), (a5, .inl (zkA X 0, 192, .inl (fun _ => 0))), (a6, .inl (zkA X 0, 64, .inl (fun _ => 0))), (a7, .inl (zkA X 0, 192, .inl (fun _ => 0))), (a8, .inl (zkA X 0, 192, .inl (fun _ => 0))), (a9, .inl (zkA X 0, 16, .inl (fun _ => 0))), (a10, .inl (zkA X 0, 7, .inl (fun _ => 0)))]) (fun _ => rfl) (fun a10 => ?_)
  refine v_putF (pc := 84) (xc := 10) (xs := 988) 0 5 16 hIn C dX5_init_84 rfl (by decide) (by decide) zw_731 rfl rfl rfl rfl (Nat.le_of_ble_eq_true rfl) [(h0, .inr (5, [.ref a1, .ref a2, .ref a3, .int 0, .ref a4, .int 0, .ref a5, .int 0, .int 0, .ref a6, .int 0, .ref a7, .int 0, .ref a8, .int 0, .ref a9, .ref a10, .null, .null, .int 0, .int 0, .int 0, .int 0, .null, .null, .long 0])), (a1, .inl (zkA X 0, 46, .inl (fun _ => 0))), (a2, .inl (zkA X 0, 46, .inl (fun _ => 0))), (a3, .inl (zkA X 0, 230, .inl (fun _ => 0))), (a4, .inl (zkA X 0, 3, .inl (fun _ => 0))), (a5, .inl (zkA X 0, 192, .inl (fun _ => 0))), (a6, .inl (zkA X 0, 64, .inl (fun _ => 0))), (a7, .inl (zkA X 0, 192, .inl (fun _ => 0))), (a8, .inl (zkA X 0, 192, .inl (fun _ => 0))), (a9, .inl (zkA X 0, 16, .inl (fun _ => 0))), (a10, .inl (zkA X 0, 7, .inl (fun _ => 0)))] rfl ?_
  refine v_aload_n (pc := 87) (xc := 10) (xs := 988) 0 rfl rfl C dX5_init_87 ?_
  refine v_bipush (pc := 88) (xc := 10) (xs := 988) (70 : Int32) (by decide) C dX5_init_88 ?_
  refine v_newa (pc := 90) (xc := 10) (xs := 988) .int .int 0 70 (.inl (fun _ => 0)) C dX5_init_90 zw_134 rfl (fun _ => rfl) (by simp) (fun _ => rfl) (by decide) (by decide) (Nat.le_of_ble_eq_true rfl) (Nat.le_of_ble_eq_true rfl) (Nat.le_of_ble_eq_true rfl) (fun a11 => [(h0, .inr (5, [.ref a1, .ref a2, .ref a3, .int 0, .ref a4, .int 0, .ref a5, .int 0, .int 0, .ref a6, .int 0, .ref a7, .int 0, .ref a8, .int 0, .ref a9, .ref a10, .null, .null, .int 0, .int 0, .int 0, .int 0, .null, .null, .long 0])), (a1, .inl (zkA X 0, 46, .inl (fun _ => 0))), (a2, .inl (zkA X 0, 46, .inl (fun _ => 0))), (a3, .inl (zkA X 0, 230, .inl (fun _ => 0))), (a4, .inl (zkA X 0, 3, .inl (fun _ => 0))), (a5, .inl (zkA X 0, 192, .inl (fun _ => 0))), (a6, .inl (zkA X 0, 64, .inl (fun _ => 0))), (a7, .inl (zkA X 0, 192, .inl (fun _ => 0))), (a8, .inl (zkA X 0, 192, .inl (fun _ => 0))), (a9, .inl (zkA X 0, 16, .inl (fun _ => 0))), (a10, .inl (zkA X 0, 7, .inl (fun _ => 0))), (a11, .inl (zkA X 0, 70, .inl (fun _ => 0)))]) (fun _ => rfl) (fun a11 => ?_)
  refine v_putF (pc := 92) (xc := 11) (xs := 1058) 0 5 17 hIn C dX5_init_92 rfl (by decide) (by decide) zw_732 rfl rfl rfl rfl (Nat.le_of_ble_eq_true rfl) [(h0, .inr (5, [.ref a1, .ref a2, .ref a3, .int 0, .ref a4, .int 0, .ref a5, .int 0, .int 0, .ref a6, .int 0, .ref a7, .int 0, .ref a8, .int 0, .ref a9, .ref a10, .ref a11, .null, .int 0, .int 0, .int 0, .int 0, .null, .null, .long 0])), (a1, .inl (zkA X 0, 46, .inl (fun _ => 0))), (a2, .inl (zkA X 0, 46, .inl (fun _ => 0))), (a3, .inl (zkA X 0, 230, .inl (fun _ => 0))), (a4, .inl (zkA X 0, 3, .inl (fun _ => 0))), (a5, .inl (zkA X 0, 192, .inl (fun _ => 0))), (a6, .inl (zkA X 0, 64, .inl (fun _ => 0))), (a7, .inl (zkA X 0, 192, .inl (fun _ => 0))), (a8, .inl (zkA X 0, 192, .inl (fun _ => 0))), (a9, .inl (zkA X 0, 16, .inl (fun _ => 0))), (a10, .inl (zkA X 0, 7, .inl (fun _ => 0))), (a11, .inl (zkA X 0, 70, .inl (fun _ => 0)))] rfl ?_
  refine v_aload_n (pc := 95) (xc := 11) (xs := 1058) 0 rfl rfl C dX5_init_95 ?_
  refine v_sipush (pc := 96) (xc := 11) (xs := 1058) (150 : Int32) (by decide) C dX5_init_96 ?_
  refine v_newa (pc := 99) (xc := 11) (xs := 1058) .int .int 0 150 (.inl (fun _ => 0)) C dX5_init_99 zw_134 rfl (fun _ => rfl) (by simp) (fun _ => rfl) (by decide) (by decide) (Nat.le_of_ble_eq_true rfl) (Nat.le_of_ble_eq_true rfl) (Nat.le_of_ble_eq_true rfl) (fun a12 => [(h0, .inr (5, [.ref a1, .ref a2, .ref a3, .int 0, .ref a4, .int 0, .ref a5, .int 0, .int 0, .ref a6, .int 0, .ref a7, .int 0, .ref a8, .int 0, .ref a9, .ref a10, .ref a11, .null, .int 0, .int 0, .int 0, .int 0, .null, .null, .long 0])), (a1, .inl (zkA X 0, 46, .inl (fun _ => 0))), (a2, .inl (zkA X 0, 46, .inl (fun _ => 0))), (a3, .inl (zkA X 0, 230, .inl (fun _ => 0))), (a4, .inl (zkA X 0, 3, .inl (fun _ => 0))), (a5, .inl (zkA X 0, 192, .inl (fun _ => 0))), (a6, .inl (zkA X 0, 64, .inl (fun _ => 0))), (a7, .inl (zkA X 0, 192, .inl (fun _ => 0))), (a8, .inl (zkA X 0, 192, .inl (fun _ => 0))), (a9, .inl (zkA X 0, 16, .inl (fun _ => 0))), (a10, .inl (zkA X 0, 7, .inl (fun _ => 0))), (a11, .inl (zkA X 0, 70, .inl (fun _ => 0))), (a12, .inl (zkA X 0, 150, .inl (fun _ => 0)))]) (fun _ => rfl) (fun a12 => ?_)
  refine v_putF (pc := 101) (xc := 12) (xs := 1208) 0 5 18 hIn C dX5_init_101 rfl (by decide) (by decide) zw_733 rfl rfl rfl rfl (Nat.le_of_ble_eq_true rfl) [(h0, .inr (5, [.ref a1, .ref a2, .ref a3, .int 0, .ref a4, .int 0, .ref a5, .int 0, .int 0, .ref a6, .int 0, .ref a7, .int 0, .ref a8, .int 0, .ref a9, .ref a10, .ref a11, .ref a12, .int 0, .int 0, .int 0, .int 0, .null, .null, .long 0])), (a1, .inl (zkA X 0, 46, .inl (fun _ => 0))), (a2, .inl (zkA X 0, 46, .inl (fun _ => 0))), (a3, .inl (zkA X 0, 230, .inl (fun _ => 0))), (a4, .inl (zkA X 0, 3, .inl (fun _ => 0))), (a5, .inl (zkA X 0, 192, .inl (fun _ => 0))), (a6, .inl (zkA X 0, 64, .inl (fun _ => 0))), (a7, .inl (zkA X 0, 192, .inl (fun _ => 0))), (a8, .inl (zkA X 0, 192, .inl (fun _ => 0))), (a9, .inl (zkA X 0, 16, .inl (fun _ => 0))), (a10, .inl (zkA X 0, 7, .inl (fun _ => 0))), (a11, .inl (zkA X 0, 70, .inl (fun _ => 0))), (a12, .inl (zkA X 0, 150, .inl (fun _ => 0)))] rfl ?_
  refine v_aload_n (pc := 104) (xc := 12) (xs := 1208) 0 rfl rfl C dX5_init_104 ?_
  refine v_bipush (pc := 105) (xc := 12) (xs := 1208) (80 : Int32) (by decide) C dX5_init_105 ?_
  refine v_newa (pc := 107) (xc := 12) (xs := 1208) .int .int 0 80 (.inl (fun _ => 0)) C dX5_init_107 zw_134 rfl (fun _ => rfl) (by simp) (fun _ => rfl) (by decide) (by decide) (Nat.le_of_ble_eq_true rfl) (Nat.le_of_ble_eq_true rfl) (Nat.le_of_ble_eq_true rfl) (fun a13 => [(h0, .inr (5, [.ref a1, .ref a2, .ref a3, .int 0, .ref a4, .int 0, .ref a5, .int 0, .int 0, .ref a6, .int 0, .ref a7, .int 0, .ref a8, .int 0, .ref a9, .ref a10, .ref a11, .ref a12, .int 0, .int 0, .int 0, .int 0, .null, .null, .long 0])), (a1, .inl (zkA X 0, 46, .inl (fun _ => 0))), (a2, .inl (zkA X 0, 46, .inl (fun _ => 0))), (a3, .inl (zkA X 0, 230, .inl (fun _ => 0))), (a4, .inl (zkA X 0, 3, .inl (fun _ => 0))), (a5, .inl (zkA X 0, 192, .inl (fun _ => 0))), (a6, .inl (zkA X 0, 64, .inl (fun _ => 0))), (a7, .inl (zkA X 0, 192, .inl (fun _ => 0))), (a8, .inl (zkA X 0, 192, .inl (fun _ => 0))), (a9, .inl (zkA X 0, 16, .inl (fun _ => 0))), (a10, .inl (zkA X 0, 7, .inl (fun _ => 0))), (a11, .inl (zkA X 0, 70, .inl (fun _ => 0))), (a12, .inl (zkA X 0, 150, .inl (fun _ => 0))), (a13, .inl (zkA X 0, 80, .inl (fun _ => 0)))]) (fun _ => rfl) (fun a13 => ?_)
  refine v_putF (pc := 109) (xc := 13) (xs := 1288) 0 5 23 hIn C dX5_init_109 rfl (by decide) (by decide) zw_738 rfl rfl rfl rfl (Nat.le_of_ble_eq_true rfl) [(h0, .inr (5, [.ref a1, .ref a2, .ref a3, .int 0, .ref a4, .int 0, .ref a5, .int 0, .int 0, .ref a6, .int 0, .ref a7, .int 0, .ref a8, .int 0, .ref a9, .ref a10, .ref a11, .ref a12, .int 0, .int 0, .int 0, .int 0, .ref a13, .null, .long 0])), (a1, .inl (zkA X 0, 46, .inl (fun _ => 0))), (a2, .inl (zkA X 0, 46, .inl (fun _ => 0))), (a3, .inl (zkA X 0, 230, .inl (fun _ => 0))), (a4, .inl (zkA X 0, 3, .inl (fun _ => 0))), (a5, .inl (zkA X 0, 192, .inl (fun _ => 0))), (a6, .inl (zkA X 0, 64, .inl (fun _ => 0))), (a7, .inl (zkA X 0, 192, .inl (fun _ => 0))), (a8, .inl (zkA X 0, 192, .inl (fun _ => 0))), (a9, .inl (zkA X 0, 16, .inl (fun _ => 0))), (a10, .inl (zkA X 0, 7, .inl (fun _ => 0))), (a11, .inl (zkA X 0, 70, .inl (fun _ => 0))), (a12, .inl (zkA X 0, 150, .inl (fun _ => 0))), (a13, .inl (zkA X 0, 80, .inl (fun _ => 0)))] rfl ?_
  refine v_aload_n (pc := 112) (xc := 13) (xs := 1288) 0 rfl rfl C dX5_init_112 ?_
  refine v_sipush (pc := 113) (xc := 13) (xs := 1288) (400 : Int32) (by decide) C dX5_init_113 ?_
  refine v_newa (pc := 116) (xc := 13) (xs := 1288) .int .int 0 400 (.inl (fun _ => 0)) C dX5_init_116 zw_134 rfl (fun _ => rfl) (by simp) (fun _ => rfl) (by decide) (by decide) (Nat.le_of_ble_eq_true rfl) (Nat.le_of_ble_eq_true rfl) (Nat.le_of_ble_eq_true rfl) (fun a14 => [(h0, .inr (5, [.ref a1, .ref a2, .ref a3, .int 0, .ref a4, .int 0, .ref a5, .int 0, .int 0, .ref a6, .int 0, .ref a7, .int 0, .ref a8, .int 0, .ref a9, .ref a10, .ref a11, .ref a12, .int 0, .int 0, .int 0, .int 0, .ref a13, .null, .long 0])), (a1, .inl (zkA X 0, 46, .inl (fun _ => 0))), (a2, .inl (zkA X 0, 46, .inl (fun _ => 0))), (a3, .inl (zkA X 0, 230, .inl (fun _ => 0))), (a4, .inl (zkA X 0, 3, .inl (fun _ => 0))), (a5, .inl (zkA X 0, 192, .inl (fun _ => 0))), (a6, .inl (zkA X 0, 64, .inl (fun _ => 0))), (a7, .inl (zkA X 0, 192, .inl (fun _ => 0))), (a8, .inl (zkA X 0, 192, .inl (fun _ => 0))), (a9, .inl (zkA X 0, 16, .inl (fun _ => 0))), (a10, .inl (zkA X 0, 7, .inl (fun _ => 0))), (a11, .inl (zkA X 0, 70, .inl (fun _ => 0))), (a12, .inl (zkA X 0, 150, .inl (fun _ => 0))), (a13, .inl (zkA X 0, 80, .inl (fun _ => 0))), (a14, .inl (zkA X 0, 400, .inl (fun _ => 0)))]) (fun _ => rfl) (fun a14 => ?_)
  refine v_putF (pc := 118) (xc := 14) (xs := 1688) 0 5 24 hIn C dX5_init_118 rfl (by decide) (by decide) zw_739 rfl rfl rfl rfl (Nat.le_of_ble_eq_true rfl) [(h0, .inr (5, [.ref a1, .ref a2, .ref a3, .int 0, .ref a4, .int 0, .ref a5, .int 0, .int 0, .ref a6, .int 0, .ref a7, .int 0, .ref a8, .int 0, .ref a9, .ref a10, .ref a11, .ref a12, .int 0, .int 0, .int 0, .int 0, .ref a13, .ref a14, .long 0])), (a1, .inl (zkA X 0, 46, .inl (fun _ => 0))), (a2, .inl (zkA X 0, 46, .inl (fun _ => 0))), (a3, .inl (zkA X 0, 230, .inl (fun _ => 0))), (a4, .inl (zkA X 0, 3, .inl (fun _ => 0))), (a5, .inl (zkA X 0, 192, .inl (fun _ => 0))), (a6, .inl (zkA X 0, 64, .inl (fun _ => 0))), (a7, .inl (zkA X 0, 192, .inl (fun _ => 0))), (a8, .inl (zkA X 0, 192, .inl (fun _ => 0))), (a9, .inl (zkA X 0, 16, .inl (fun _ => 0))), (a10, .inl (zkA X 0, 7, .inl (fun _ => 0))), (a11, .inl (zkA X 0, 70, .inl (fun _ => 0))), (a12, .inl (zkA X 0, 150, .inl (fun _ => 0))), (a13, .inl (zkA X 0, 80, .inl (fun _ => 0))), (a14, .inl (zkA X 0, 400, .inl (fun _ => 0)))] rfl ?_
  refine v_aload_n (pc := 121) (xc := 14) (xs := 1688) 0 rfl rfl C dX5_init_121 ?_
  refine v_iconst (pc := 122) (xc := 14) (xs := 1688) (0 : Int32) (by decide) C dX5_init_122 ?_
  refine v_put (pc := 123) (xc := 14) (xs := 1688) 0 5 3 C dX5_init_123 rfl (by decide) (by decide) zw_718 rfl rfl rfl (Nat.le_of_ble_eq_true rfl) [(h0, .inr (5, [.ref a1, .ref a2, .ref a3, .int 0, .ref a4, .int 0, .ref a5, .int 0, .int 0, .ref a6, .int 0, .ref a7, .int 0, .ref a8, .int 0, .ref a9, .ref a10, .ref a11, .ref a12, .int 0, .int 0, .int 0, .int 0, .ref a13, .ref a14, .long 0])), (a1, .inl (zkA X 0, 46, .inl (fun _ => 0))), (a2, .inl (zkA X 0, 46, .inl (fun _ => 0))), (a3, .inl (zkA X 0, 230, .inl (fun _ => 0))), (a4, .inl (zkA X 0, 3, .inl (fun _ => 0))), (a5, .inl (zkA X 0, 192, .inl (fun _ => 0))), (a6, .inl (zkA X 0, 64, .inl (fun _ => 0))), (a7, .inl (zkA X 0, 192, .inl (fun _ => 0))), (a8, .inl (zkA X 0, 192, .inl (fun _ => 0))), (a9, .inl (zkA X 0, 16, .inl (fun _ => 0))), (a10, .inl (zkA X 0, 7, .inl (fun _ => 0))), (a11, .inl (zkA X 0, 70, .inl (fun _ => 0))), (a12, .inl (zkA X 0, 150, .inl (fun _ => 0))), (a13, .inl (zkA X 0, 80, .inl (fun _ => 0))), (a14, .inl (zkA X 0, 400, .inl (fun _ => 0)))] rfl ?_
  exact v_return (pc := 126) (xc := 14) (xs := 1688) [(5, (fun k => [h0, a1, a2, a3, a4, a5, a6, a7, a8, a9, a10, a11, a12, a13, a14].getD k 0), zZ)] C hR dX5_init_126 ⟨(fun k => [h0, a1, a2, a3, a4, a5, a6, a7, a8, a9, a10, a11, a12, a13, a14].getD k 0), rfl, rfl⟩ (List.Perm.of_eq rfl) rfl rfl
theorem dX4_init_0 : decode cX4_init 0 = .ok (.aload_n 0, 1) := by decide +kernel
theorem dX4_init_1 : decode cX4_init 1 = .ok (.invokespecial 3, 3) := by decide +kernel
theorem dX4_init_4 : decode cX4_init 4 = .ok (.aload_n 0, 1) := by decide +kernel
theorem dX4_init_5 : decode cX4_init 5 = .ok (.new 9, 3) := by decide +kernel
theorem dX4_init_8 : decode cX4_init 8 = .ok (.dup, 1) := by decide +kernel
theorem dX4_init_9 : decode cX4_init 9 = .ok (.invokespecial 11, 3) := by decide +kernel
theorem dX4_init_12 : decode cX4_init 12 = .ok (.putfield 12, 3) := by decide +kernel
theorem dX4_init_15 : decode cX4_init 15 = .ok (.aload_n 0, 1) := by decide +kernel
theorem dX4_init_16 : decode cX4_init 16 = .ok (.aload_n 0, 1) := by decide +kernel
theorem dX4_init_17 : decode cX4_init 17 = .ok (.getfield 12, 3) := by decide +kernel
theorem dX4_init_20 : decode cX4_init 20 = .ok (.getfield 16, 3) := by decide +kernel
theorem dX4_init_23 : decode cX4_init 23 = .ok (.putfield 20, 3) := by decide +kernel
theorem dX4_init_26 : decode cX4_init 26 = .ok (.aload_n 0, 1) := by decide +kernel
theorem dX4_init_27 : decode cX4_init 27 = .ok (.aload_n 0, 1) := by decide +kernel
theorem dX4_init_28 : decode cX4_init 28 = .ok (.getfield 12, 3) := by decide +kernel
theorem dX4_init_31 : decode cX4_init 31 = .ok (.getfield 21, 3) := by decide +kernel
theorem dX4_init_34 : decode cX4_init 34 = .ok (.putfield 25, 3) := by decide +kernel
theorem dX4_init_37 : decode cX4_init 37 = .ok (.aload_n 0, 1) := by decide +kernel
theorem dX4_init_38 : decode cX4_init 38 = .ok (.new 28, 3) := by decide +kernel
theorem dX4_init_41 : decode cX4_init 41 = .ok (.dup, 1) := by decide +kernel
theorem dX4_init_42 : decode cX4_init 42 = .ok (.invokespecial 30, 3) := by decide +kernel
theorem dX4_init_45 : decode cX4_init 45 = .ok (.putfield 31, 3) := by decide +kernel
theorem dX4_init_48 : decode cX4_init 48 = .ok (.aload_n 0, 1) := by decide +kernel
theorem dX4_init_49 : decode cX4_init 49 = .ok (.iconst 5, 1) := by decide +kernel
theorem dX4_init_50 : decode cX4_init 50 = .ok (.anewarray 28, 3) := by decide +kernel
theorem dX4_init_53 : decode cX4_init 53 = .ok (.putfield 34, 3) := by decide +kernel
theorem dX4_init_56 : decode cX4_init 56 = .ok (.aload_n 0, 1) := by decide +kernel
theorem dX4_init_57 : decode cX4_init 57 = .ok (.new 38, 3) := by decide +kernel
theorem dX4_init_60 : decode cX4_init 60 = .ok (.dup, 1) := by decide +kernel
theorem dX4_init_61 : decode cX4_init 61 = .ok (.invokespecial 40, 3) := by decide +kernel
theorem dX4_init_64 : decode cX4_init 64 = .ok (.putfield 41, 3) := by decide +kernel
theorem dX4_init_67 : decode cX4_init 67 = .ok (.aload_n 0, 1) := by decide +kernel
theorem dX4_init_68 : decode cX4_init 68 = .ok (.iconst 3, 1) := by decide +kernel
theorem dX4_init_69 : decode cX4_init 69 = .ok (.newarray .int, 2) := by decide +kernel
theorem dX4_init_71 : decode cX4_init 71 = .ok (.putfield 45, 3) := by decide +kernel
theorem dX4_init_74 : decode cX4_init 74 = .ok (.aload_n 0, 1) := by decide +kernel
theorem dX4_init_75 : decode cX4_init 75 = .ok (.iconst 0, 1) := by decide +kernel
theorem dX4_init_76 : decode cX4_init 76 = .ok (.putfield 49, 3) := by decide +kernel
theorem dX4_init_79 : decode cX4_init 79 = .ok (.aload_n 0, 1) := by decide +kernel
theorem dX4_init_80 : decode cX4_init 80 = .ok (.iconst 0, 1) := by decide +kernel
theorem dX4_init_81 : decode cX4_init 81 = .ok (.putfield 53, 3) := by decide +kernel
theorem dX4_init_84 : decode cX4_init 84 = .ok (.iconst 0, 1) := by decide +kernel
theorem dX4_init_85 : decode cX4_init 85 = .ok (.istore_n 1, 1) := by decide +kernel
theorem dX4_init_86 : decode cX4_init 86 = .ok (.iload_n 1, 1) := by decide +kernel
theorem dX4_init_87 : decode cX4_init 87 = .ok (.iconst 5, 1) := by decide +kernel
theorem dX4_init_88 : decode cX4_init 88 = .ok (.if_icmp .ge 22, 3) := by decide +kernel
theorem dX4_init_91 : decode cX4_init 91 = .ok (.aload_n 0, 1) := by decide +kernel
theorem dX4_init_92 : decode cX4_init 92 = .ok (.getfield 34, 3) := by decide +kernel
theorem dX4_init_95 : decode cX4_init 95 = .ok (.iload_n 1, 1) := by decide +kernel
theorem dX4_init_96 : decode cX4_init 96 = .ok (.new 28, 3) := by decide +kernel
theorem dX4_init_99 : decode cX4_init 99 = .ok (.dup, 1) := by decide +kernel
theorem dX4_init_100 : decode cX4_init 100 = .ok (.invokespecial 30, 3) := by decide +kernel
theorem dX4_init_103 : decode cX4_init 103 = .ok (.aastore, 1) := by decide +kernel
theorem dX4_init_104 : decode cX4_init 104 = .ok (.iinc 1 1, 3) := by decide +kernel
theorem dX4_init_107 : decode cX4_init 107 = .ok (.goto (-21), 3) := by decide +kernel
theorem dX4_init_110 : decode cX4_init 110 = .ok (.return_, 1) := by decide +kernel
def rmX4_init : Room := { frames := 3, cells := 68, slots := 1613, locals := 80 }
/-- the components of a new DrawnGates -/
def zNew (qX qT qM qL qP qB : Nat → Nat) (aa : Nat → Nat → Nat) : List zCm := [(4, zqx qX aa 0, zZ), (3, qT, zZ), (1, qM, zZ), (0, qL, zZ), (2, qP, zZ), (2, qB, zZ), (2, aa ((0 + 0) % 5), zZ), (2, aa ((1 + 0) % 5), zZ), (2, aa ((2 + 0) % 5), zZ), (2, aa ((3 + 0) % 5), zZ), (2, aa ((4 + 0) % 5), zZ)]
set_option maxHeartbeats 4000000 in
set_option maxRecDepth 20000 in
theorem mX4_init : zMI yX4_init cX4_init 2 rmX4_init 4 [.null, .null, .null, .null, .null, .null, .null, .int 0, .int 0] [] (fun h0 cs1 => ∃ (qX qT qM qL qP qB : Nat → Nat) (aa : Nat → Nat → Nat), qX 0 = h0 ∧ (qM 50 = qP 0 ∧ qM 51 = qL 0 ∧ qX 50 = qP 0 ∧ qX 51 = qB 0 ∧ qX 52 = qL 0 ∧ qX 53 = qM 0 ∧ qX 54 = qT 0) ∧ cs1 = zNew qX qT qM qL qP qB aa) := by
  refine zMI_of (by decide +kernel) rfl (Nat.le_of_ble_eq_true rfl) (fun X h0 C hIn hR => ?_)
  refine v_aload_n (pc := 0) (xc := 0) (xs := 0) 0 rfl rfl C dX4_init_0 ?_
  refine v_obj (pc := 1) (xc := 0) (xs := 0) C dX4_init_1 zw_94 zw_95 zw_96 (Nat.le_of_ble_eq_true rfl) (Nat.le_of_ble_eq_true rfl) ?_
  refine v_aload_n (pc := 4) (xc := 0) (xs := 0) 0 rfl rfl C dX4_init_4 ?_
  refine v_new (pc := 5) (xc := 0) (xs := 0) 1 10 [.null, .null, .null, .null, .null, .int 0, .null, .null, .int 0, .int 0] C dX4_init_5 (by decide) rfl zw_97 zw_98 zw_78 (fun j hj => by rcases (show j = 0 ∨ j = 1 ∨ j = 2 ∨ j = 3 ∨ j = 4 ∨ j = 5 ∨ j = 6 ∨ j = 7 ∨ j = 8 ∨ j = 9 by omega) with rfl | rfl | rfl | rfl | rfl | rfl | rfl | rfl | rfl | rfl <;> rfl) (Nat.le_of_ble_eq_true rfl) (Nat.le_of_ble_eq_true rfl) (fun b1 => [(h0, .inr (4, [.null, .null, .null, .null, .null, .null, .null, .int 0, .int 0])), (b1, .inr (1, [.null, .null, .null, .null, .null, .int 0, .null, .null, .int 0, .int 0]))]) (fun _ => rfl) (fun b1 => ?_)
  refine v_dup (pc := 8) (xc := 1) (xs := 10) rfl C dX4_init_8 ?_
  refine v_callI (n := 0) (rm' := rmX1_init) (h := b1) (pc := 9) (xc := 1) (xs := 10) [] [.ref b1, .ref h0] [(h0, .inr (4, [.null, .null, .null, .null, .null, .null, .null, .int 0, .int 0]))] C dX4_init_9 (mX1_init) zw_101 zw_78 zw_100 rfl (Or.inr ⟨_, fun U h => h.1⟩) (by decide +kernel) rfl ⟨(Nat.le_of_ble_eq_true rfl), (Nat.le_of_ble_eq_true rfl)⟩ ⟨(Nat.le_of_ble_eq_true rfl), (Nat.le_of_ble_eq_true rfl)⟩ rfl (Nat.le_of_ble_eq_true rfl) rfl (fun cs9 hp9 => ?_)
  obtain ⟨q2, qP, qL, eq2, e50, e51, rfl⟩ := hp9
  subst eq2
  show zV X 2 12 [(0, .ref h0)] [.ref (q2 0), .ref h0] [(h0, .inr (4, [.null, .null, .null, .null, .null, .null, .null, .int 0, .int 0]))] [(1, q2, zZ), (2, qP, zZ), (0, qL, zZ)] 39 1177
  refine v_putF (pc := 12) (xc := 39) (xs := 1177) 0 4 0 hIn C dX4_init_12 rfl (by decide) (by decide) zw_261 rfl rfl rfl rfl (Nat.le_of_ble_eq_true rfl) [(h0, .inr (4, [.ref (q2 0), .null, .null, .null, .null, .null, .null, .int 0, .int 0]))] rfl ?_
  refine v_aload_n (pc := 15) (xc := 39) (xs := 1177) 0 rfl rfl C dX4_init_15 ?_
  refine v_aload_n (pc := 16) (xc := 39) (xs := 1177) 0 rfl rfl C dX4_init_16 ?_
  refine v_get (pc := 17) (xc := 39) (xs := 1177) 0 4 0 (.ref (q2 0)) C dX4_init_17 rfl (by decide) (by decide) zw_261 rfl ?_
  refine v_getC (pc := 20) (xc := 39) (xs := 1177) 0 1 0 (.ref (q2 50)) C dX4_init_20 rfl (by decide) (by decide) zw_204 rfl ?_
  rw [e50]
  refine v_putF (pc := 23) (xc := 39) (xs := 1177) 0 4 1 hIn C dX4_init_23 rfl (by decide) (by decide) zw_262 rfl rfl rfl rfl (Nat.le_of_ble_eq_true rfl) [(h0, .inr (4, [.ref (q2 0), .ref (qP 0), .null, .null, .null, .null, .null, .int 0, .int 0]))] rfl ?_
  refine v_aload_n (pc := 26) (xc := 39) (xs := 1177) 0 rfl rfl C dX4_init_26 ?_
  refine v_aload_n (pc := 27) (xc := 39) (xs := 1177) 0 rfl rfl C dX4_init_27 ?_
  refine v_get (pc := 28) (xc := 39) (xs := 1177) 0 4 0 (.ref (q2 0)) C dX4_init_28 rfl (by decide) (by decide) zw_261 rfl ?_
  refine v_getC (pc := 31) (xc := 39) (xs := 1177) 0 1 1 (.ref (q2 51)) C dX4_init_31 rfl (by decide) (by decide) zw_206 rfl ?_
  rw [e51]
  refine v_putF (pc := 34) (xc := 39) (xs := 1177) 0 4 2 hIn C dX4_init_34 rfl (by decide) (by decide) zw_263 rfl rfl rfl rfl (Nat.le_of_ble_eq_true rfl) [(h0, .inr (4, [.ref (q2 0), .ref (qP 0), .ref (qL 0), .null, .null, .null, .null, .int 0, .int 0]))] rfl ?_
  refine v_aload_n (pc := 37) (xc := 39) (xs := 1177) 0 rfl rfl C dX4_init_37 ?_
  refine v_new (pc := 38) (xc := 39) (xs := 1177) 2 5 [.null, .null, .null, .int 0, .int 0] C dX4_init_38 (by decide) rfl zw_240 zw_104 zw_79 (fun j hj => by rcases (show j = 0 ∨ j = 1 ∨ j = 2 ∨ j = 3 ∨ j = 4 by omega) with rfl | rfl | rfl | rfl | rfl <;> rfl) (Nat.le_of_ble_eq_true rfl) (Nat.le_of_ble_eq_true rfl) (fun b3 => [(h0, .inr (4, [.ref (q2 0), .ref (qP 0), .ref (qL 0), .null, .null, .null, .null, .int 0, .int 0])), (b3, .inr (2, [.null, .null, .null, .int 0, .int 0]))]) (fun _ => rfl) (fun b3 => ?_)
  refine v_dup (pc := 41) (xc := 40) (xs := 1182) rfl C dX4_init_41 ?_
  refine v_callI (n := 0) (rm' := rmX2_init) (h := b3) (pc := 42) (xc := 40) (xs := 1182) [] [.ref b3, .ref h0] [(h0, .inr (4, [.ref (q2 0), .ref (qP 0), .ref (qL 0), .null, .null, .null, .null, .int 0, .int 0]))] C dX4_init_42 (mX2_init) zw_107 zw_79 zw_106 rfl (Or.inr ⟨_, fun U h => h.2.1⟩) (by decide +kernel) rfl ⟨(Nat.le_of_ble_eq_true rfl), (Nat.le_of_ble_eq_true rfl)⟩ ⟨(Nat.le_of_ble_eq_true rfl), (Nat.le_of_ble_eq_true rfl)⟩ rfl (Nat.le_of_ble_eq_true rfl) rfl (fun cs9 hp9 => ?_)
  obtain ⟨q4, eq4, rfl⟩ := hp9
  subst eq4
  show zV X 2 45 [(0, .ref h0)] [.ref (q4 0), .ref h0] [(h0, .inr (4, [.ref (q2 0), .ref (qP 0), .ref (qL 0), .null, .null, .null, .null, .int 0, .int 0]))] [(1, q2, zZ), (2, qP, zZ), (0, qL, zZ), (2, q4, zZ)] 43 1222
  refine v_putF (pc := 45) (xc := 43) (xs := 1222) 0 4 3 hIn C dX4_init_45 rfl (by decide) (by decide) zw_264 rfl rfl rfl rfl (Nat.le_of_ble_eq_true rfl) [(h0, .inr (4, [.ref (q2 0), .ref (qP 0), .ref (qL 0), .ref (q4 0), .null, .null, .null, .int 0, .int 0]))] rfl ?_
  refine v_aload_n (pc := 48) (xc := 43) (xs := 1222) 0 rfl rfl C dX4_init_48 ?_
  refine v_iconst (pc := 49) (xc := 43) (xs := 1222) (5 : Int32) (by decide) C dX4_init_49 ?_
  refine v_anew (pc := 50) (xc := 43) (xs := 1222) 5 C dX4_init_50 zw_240 (by decide) (by decide) (Nat.le_of_ble_eq_true rfl) (Nat.le_of_ble_eq_true rfl) (Nat.le_of_ble_eq_true rfl) (fun a5 => [(h0, .inr (4, [.ref (q2 0), .ref (qP 0), .ref (qL 0), .ref (q4 0), .null, .null, .null, .int 0, .int 0])), (a5, .inl (zkA X 5, 5, .inr (.inr (.inr (.inr (fun _ => none))))))]) (fun _ => rfl) (fun a5 => ?_)
  refine v_putF (pc := 53) (xc := 44) (xs := 1227) 0 4 4 hIn C dX4_init_53 rfl (by decide) (by decide) zw_265 rfl rfl rfl rfl (Nat.le_of_ble_eq_true rfl) [(h0, .inr (4, [.ref (q2 0), .ref (qP 0), .ref (qL 0), .ref (q4 0), .ref a5, .null, .null, .int 0, .int 0])), (a5, .inl (zkA X 5, 5, .inr (.inr (.inr (.inr (fun _ => none))))))] rfl ?_
  refine v_aload_n (pc := 56) (xc := 44) (xs := 1227) 0 rfl rfl C dX4_init_56 ?_
  refine v_new (pc := 57) (xc := 44) (xs := 1227) 3 3 [.null, .null, .int 0] C dX4_init_57 (by decide) rfl zw_243 zw_244 zw_81 (fun j hj => by rcases (show j = 0 ∨ j = 1 ∨ j = 2 by omega) with rfl | rfl | rfl <;> rfl) (Nat.le_of_ble_eq_true rfl) (Nat.le_of_ble_eq_true rfl) (fun b6 => [(h0, .inr (4, [.ref (q2 0), .ref (qP 0), .ref (qL 0), .ref (q4 0), .ref a5, .null, .null, .int 0, .int 0])), (a5, .inl (zkA X 5, 5, .inr (.inr (.inr (.inr (fun _ => none)))))), (b6, .inr (3, [.null, .null, .int 0]))]) (fun _ => rfl) (fun b6 => ?_)
  refine v_dup (pc := 60) (xc := 45) (xs := 1230) rfl C dX4_init_60 ?_
  refine v_callI (n := 0) (rm' := rmX3_init) (h := b6) (pc := 61) (xc := 45) (xs := 1230) [] [.ref b6, .ref h0] [(h0, .inr (4, [.ref (q2 0), .ref (qP 0), .ref (qL 0), .ref (q4 0), .ref a5, .null, .null, .int 0, .int 0])), (a5, .inl (zkA X 5, 5, .inr (.inr (.inr (.inr (fun _ => none))))))] C dX4_init_61 (mX3_init) zw_247 zw_81 zw_246 rfl (Or.inr ⟨_, fun U h => h.2.2.1⟩) (by decide +kernel) rfl ⟨(Nat.le_of_ble_eq_true rfl), (Nat.le_of_ble_eq_true rfl)⟩ ⟨(Nat.le_of_ble_eq_true rfl), (Nat.le_of_ble_eq_true rfl)⟩ rfl (Nat.le_of_ble_eq_true rfl) rfl (fun cs9 hp9 => ?_)
  obtain ⟨q7, eq7, rfl⟩ := hp9
  subst eq7
  show zV X 2 64 [(0, .ref h0)] [.ref (q7 0), .ref h0] [(h0, .inr (4, [.ref (q2 0), .ref (qP 0), .ref (qL 0), .ref (q4 0), .ref a5, .null, .null, .int 0, .int 0])), (a5, .inl (zkA X 5, 5, .inr (.inr (.inr (.inr (fun _ => none))))))] [(1, q2, zZ), (2, qP, zZ), (0, qL, zZ), (2, q4, zZ), (3, q7, zZ)] 47 1385
  refine v_putF (pc := 64) (xc := 47) (xs := 1385) 0 4 5 hIn C dX4_init_64 rfl (by decide) (by decide) zw_266 rfl rfl rfl rfl (Nat.le_of_ble_eq_true rfl) [(h0, .inr (4, [.ref (q2 0), .ref (qP 0), .ref (qL 0), .ref (q4 0), .ref a5, .ref (q7 0), .null, .int 0, .int 0])), (a5, .inl (zkA X 5, 5, .inr (.inr (.inr (.inr (fun _ => none))))))] rfl ?_
  refine v_aload_n (pc := 67) (xc := 47) (xs := 1385) 0 rfl rfl C dX4_init_67 ?_
  refine v_iconst (pc := 68) (xc := 47) (xs := 1385) (3 : Int32) (by decide) C dX4_init_68 ?_
  refine v_newa (pc := 69) (xc := 47) (xs := 1385) .int .int 0 3 (.inl (fun _ => 0)) C dX4_init_69 zw_134 rfl (fun _ => rfl) (by simp) (fun _ => rfl) (by decide) (by decide) (Nat.le_of_ble_eq_true rfl) (Nat.le_of_ble_eq_true rfl) (Nat.le_of_ble_eq_true rfl) (fun a8 => [(h0, .inr (4, [.ref (q2 0), .ref (qP 0), .ref (qL 0), .ref (q4 0), .ref a5, .ref (q7 0), .null, .int 0, .int 0])), (a5, .inl (zkA X 5, 5, .inr (.inr (.inr (.inr (fun _ => none)))))), (a8, .inl (zkA X 0, 3, .inl (fun _ => 0)))]) (fun _ => rfl) (fun a8 => ?_)
  refine v_putF (pc := 71) (xc := 48) (xs := 1388) 0 4 6 hIn C dX4_init_71 rfl (by decide) (by decide) zw_267 rfl rfl rfl rfl (Nat.le_of_ble_eq_true rfl) [(h0, .inr (4, [.ref (q2 0), .ref (qP 0), .ref (qL 0), .ref (q4 0), .ref a5, .ref (q7 0), .ref a8, .int 0, .int 0])), (a5, .inl (zkA X 5, 5, .inr (.inr (.inr (.inr (fun _ => none)))))), (a8, .inl (zkA X 0, 3, .inl (fun _ => 0)))] rfl ?_
  refine v_aload_n (pc := 74) (xc := 48) (xs := 1388) 0 rfl rfl C dX4_init_74 ?_
  refine v_iconst (pc := 75) (xc := 48) (xs := 1388) (0 : Int32) (by decide) C dX4_init_75 ?_
  refine v_put (pc := 76) (xc := 48) (xs := 1388) 0 4 7 C dX4_init_76 rfl (by decide) (by decide) zw_268 rfl rfl rfl (Nat.le_of_ble_eq_true rfl) [(h0, .inr (4, [.ref (q2 0), .ref (qP 0), .ref (qL 0), .ref (q4 0), .ref a5, .ref (q7 0), .ref a8, .int 0, .int 0])), (a5, .inl (zkA X 5, 5, .inr (.inr (.inr (.inr (fun _ => none)))))), (a8, .inl (zkA X 0, 3, .inl (fun _ => 0)))] rfl ?_
  refine v_aload_n (pc := 79) (xc := 48) (xs := 1388) 0 rfl rfl C dX4_init_79 ?_
  refine v_iconst (pc := 80) (xc := 48) (xs := 1388) (0 : Int32) (by decide) C dX4_init_80 ?_
  refine v_put (pc := 81) (xc := 48) (xs := 1388) 0 4 8 C dX4_init_81 rfl (by decide) (by decide) zw_269 rfl (by decide) (by decide) (Nat.le_of_ble_eq_true rfl) [(h0, .inr (4, [.ref (q2 0), .ref (qP 0), .ref (qL 0), .ref (q4 0), .ref a5, .ref (q7 0), .ref a8, .int 0, .int 0])), (a5, .inl (zkA X 5, 5, .inr (.inr (.inr (.inr (fun _ => none)))))), (a8, .inl (zkA X 0, 3, .inl (fun _ => 0)))] rfl ?_
  refine v_iconst (pc := 84) (xc := 48) (xs := 1388) (0 : Int32) (by decide) C dX4_init_84 ?_
  refine v_istore_n (pc := 85) (xc := 48) (xs := 1388) [(0, .ref h0), (1, .int 0)] [1, 0] (by decide) rfl rfl C dX4_init_85 ?_
  refine v_iload_n (pc := 86) (xc := 48) (xs := 1388) 1 rfl rfl C dX4_init_86 ?_
  refine v_iconst (pc := 87) (xc := 48) (xs := 1388) (5 : Int32) (by decide) C dX4_init_87 ?_
  refine v_ge_f (pc := 88) (xc := 48) (xs := 1388) 110 (by decide) C dX4_init_88 (by decide) ?_
  refine v_aload_n (pc := 91) (xc := 48) (xs := 1388) 0 rfl rfl C dX4_init_91 ?_
  refine v_get (pc := 92) (xc := 48) (xs := 1388) 0 4 4 (.ref a5) C dX4_init_92 rfl (by decide) (by decide) zw_265 rfl ?_
  refine v_iload_n (pc := 95) (xc := 48) (xs := 1388) 1 rfl rfl C dX4_init_95 ?_
  refine v_new (pc := 96) (xc := 48) (xs := 1388) 2 5 [.null, .null, .null, .int 0, .int 0] C dX4_init_96 (by decide) rfl zw_240 zw_104 zw_79 (fun j hj => by rcases (show j = 0 ∨ j = 1 ∨ j = 2 ∨ j = 3 ∨ j = 4 by omega) with rfl | rfl | rfl | rfl | rfl <;> rfl) (Nat.le_of_ble_eq_true rfl) (Nat.le_of_ble_eq_true rfl) (fun b9 => [(h0, .inr (4, [.ref (q2 0), .ref (qP 0), .ref (qL 0), .ref (q4 0), .ref a5, .ref (q7 0), .ref a8, .int 0, .int 0])), (a5, .inl (zkA X 5, 5, .inr (.inr (.inr (.inr (fun _ => none)))))), (a8, .inl (zkA X 0, 3, .inl (fun _ => 0))), (b9, .inr (2, [.null, .null, .null, .int 0, .int 0]))]) (fun _ => rfl) (fun b9 => ?_)
  refine v_dup (pc := 99) (xc := 49) (xs := 1393) rfl C dX4_init_99 ?_
  refine v_callI (n := 0) (rm' := rmX2_init) (h := b9) (pc := 100) (xc := 49) (xs := 1393) [] [.ref b9, .int 0, .ref a5] [(h0, .inr (4, [.ref (q2 0), .ref (qP 0), .ref (qL 0), .ref (q4 0), .ref a5, .ref (q7 0), .ref a8, .int 0, .int 0])), (a5, .inl (zkA X 5, 5, .inr (.inr (.inr (.inr (fun _ => none)))))), (a8, .inl (zkA X 0, 3, .inl (fun _ => 0)))] C dX4_init_100 (mX2_init) zw_107 zw_79 zw_106 rfl (Or.inr ⟨_, fun U h => h.2.1⟩) (by decide +kernel) rfl ⟨(Nat.le_of_ble_eq_true rfl), (Nat.le_of_ble_eq_true rfl)⟩ ⟨(Nat.le_of_ble_eq_true rfl), (Nat.le_of_ble_eq_true rfl)⟩ rfl (Nat.le_of_ble_eq_true rfl) rfl (fun cs9 hp9 => ?_)
  obtain ⟨q10, eq10, rfl⟩ := hp9
  subst eq10
  show zV X 2 103 [(0, .ref h0), (1, .int 0)] [.ref (q10 0), .int 0, .ref a5] [(h0, .inr (4, [.ref (q2 0), .ref (qP 0), .ref (qL 0), .ref (q4 0), .ref a5, .ref (q7 0), .ref a8, .int 0, .int 0])), (a5, .inl (zkA X 5, 5, .inr (.inr (.inr (.inr (fun _ => none)))))), (a8, .inl (zkA X 0, 3, .inl (fun _ => 0)))] [(1, q2, zZ), (2, qP, zZ), (0, qL, zZ), (2, q4, zZ), (3, q7, zZ), (2, q10, zZ)] 52 1433
  refine v_aast (pc := 103) (xc := 52) (xs := 1433) 1 5 5 C dX4_init_103 rfl rfl (by unfold vp_in; decide) [(h0, .inr (4, [.ref (q2 0), .ref (qP 0), .ref (qL 0), .ref (q4 0), .ref a5, .ref (q7 0), .ref a8, .int 0, .int 0])), (a5, .inl (zkA X 5, 5, .inr (.inr (.inr (.inr (va_up (fun _ => none) (0 : Int32).toNatClampNeg (some (q10 0)))))))), (a8, .inl (zkA X 0, 3, .inl (fun _ => 0)))] rfl ?_
  refine v_iinc (pc := 104) (xc := 52) (xs := 1433) (1 : Int32) 1 rfl (by decide) [(0, .ref h0), (1, .int 1)] [1, 0] (by decide) rfl C dX4_init_104 ?_
  refine v_goto (pc := 107) (xc := 52) (xs := 1433) 86 C dX4_init_107 (by decide) ?_
  refine v_iload_n (pc := 86) (xc := 52) (xs := 1433) 1 rfl rfl C dX4_init_86 ?_
  refine v_iconst (pc := 87) (xc := 52) (xs := 1433) (5 : Int32) (by decide) C dX4_init_87 ?_
  refine v_ge_f (pc := 88) (xc := 52) (xs := 1433) 110 (by decide) C dX4_init_88 (by decide) ?_
  refine v_aload_n (pc := 91) (xc := 52) (xs := 1433) 0 rfl rfl C dX4_init_91 ?_
  refine v_get (pc := 92) (xc := 52) (xs := 1433) 0 4 4 (.ref a5) C dX4_init_92 rfl (by decide) (by decide) zw_265 rfl ?_
  refine v_iload_n (pc := 95) (xc := 52) (xs := 1433) 1 rfl rfl C dX4_init_95 ?_
  refine v_new (pc := 96) (xc := 52) (xs := 1433) 2 5 [.null, .null, .null, .int 0, .int 0] C dX4_init_96 (by decide) rfl zw_240 zw_104 zw_79 (fun j hj => by rcases (show j = 0 ∨ j = 1 ∨ j = 2 ∨ j = 3 ∨ j = 4 by omega) with rfl | rfl | rfl | rfl | rfl <;> rfl) (Nat.le_of_ble_eq_true rfl) (Nat.le_of_ble_eq_true rfl) (fun b11 => [(h0, .inr (4, [.ref (q2 0), .ref (qP 0), .ref (qL 0), .ref (q4 0), .ref a5, .ref (q7 0), .ref a8, .int 0, .int 0])), (a5, .inl (zkA X 5, 5, .inr (.inr (.inr (.inr (va_up (fun _ => none) (0 : Int32).toNatClampNeg (some (q10 0)))))))), (a8, .inl (zkA X 0, 3, .inl (fun _ => 0))), (b11, .inr (2, [.null, .null, .null, .int 0, .int 0]))]) (fun _ => rfl) (fun b11 => ?_)
  refine v_dup (pc := 99) (xc := 53) (xs := 1438) rfl C dX4_init_99 ?_
  refine v_callI (n := 0) (rm' := rmX2_init) (h := b11) (pc := 100) (xc := 53) (xs := 1438) [] [.ref b11, .int 1, .ref a5] [(h0, .inr (4, [.ref (q2 0), .ref (qP 0), .ref (qL 0), .ref (q4 0), .ref a5, .ref (q7 0), .ref a8, .int 0, .int 0])), (a5, .inl (zkA X 5, 5, .inr (.inr (.inr (.inr (va_up (fun _ => none) (0 : Int32).toNatClampNeg (some (q10 0)))))))), (a8, .inl (zkA X 0, 3, .inl (fun _ => 0)))] C dX4_init_100 (mX2_init) zw_107 zw_79 zw_106 rfl (Or.inr ⟨_, fun U h => h.2.1⟩) (by decide +kernel) rfl ⟨(Nat.le_of_ble_eq_true rfl), (Nat.le_of_ble_eq_true rfl)⟩ ⟨(Nat.le_of_ble_eq_true rfl), (Nat.le_of_ble_eq_true rfl)⟩ rfl (Nat.le_of_ble_eq_true rfl) rfl (fun cs9 hp9 => ?_)
  obtain ⟨q12, eq12, rfl⟩ := hp9
  subst eq12
  show zV X 2 103 [(0, .ref h0), (1, .int 1)] [.ref (q12 0), .int 1, .ref a5] [(h0, .inr (4, [.ref (q2 0), .ref (qP 0), .ref (qL 0), .ref (q4 0), .ref a5, .ref (q7 0), .ref a8, .int 0, .int 0])), (a5, .inl (zkA X 5, 5, .inr (.inr (.inr (.inr (va_up (fun _ => none) (0 : Int32).toNatClampNeg (some (q10 0)))))))), (a8, .inl (zkA X 0, 3, .inl (fun _ => 0)))] [(1, q2, zZ), (2, qP, zZ), (0, qL, zZ), (2, q4, zZ), (3, q7, zZ), (2, q10, zZ), (2, q12, zZ)] 56 1478
  refine v_aast (pc := 103) (xc := 56) (xs := 1478) 1 6 5 C dX4_init_103 rfl rfl (by unfold vp_in; decide) [(h0, .inr (4, [.ref (q2 0), .ref (qP 0), .ref (qL 0), .ref (q4 0), .ref a5, .ref (q7 0), .ref a8, .int 0, .int 0])), (a5, .inl (zkA X 5, 5, .inr (.inr (.inr (.inr (va_up (va_up (fun _ => none) (0 : Int32).toNatClampNeg (some (q10 0))) (1 : Int32).toNatClampNeg (some (q12 0)))))))), (a8, .inl (zkA X 0, 3, .inl (fun _ => 0)))] rfl ?_
  refine v_iinc (pc := 104) (xc := 56) (xs := 1478) (2 : Int32) 1 rfl (by decide) [(0, .ref h0), (1, .int 2)] [1, 0] (by decide) rfl C dX4_init_104 ?_
  refine v_goto (pc := 107) (xc := 56) (xs := 1478) 86 C dX4_init_107 (by decide) ?_
  refine v_iload_n (pc := 86) (xc := 56) (xs := 1478) 1 rfl rfl C dX4_init_86 ?_
  refine v_iconst (pc := 87) (xc := 56) (xs := 1478) (5 : Int32) (by decide) C dX4_init_87 ?_
  refine v_ge_f (pc := 88) (xc := 56) (xs := 1478) 110 (by decide) C dX4_init_88 (by decide) ?_
  refine v_aload_n (pc := 91) (xc := 56) (xs := 1478) 0 rfl rfl C dX4_init_91 ?_
  refine v_get (pc := 92) (xc := 56) (xs := 1478) 0 4 4 (.ref a5) C dX4_init_92 rfl (by decide) (by decide) zw_265 rfl ?_
  refine v_iload_n (pc := 95) (xc := 56) (xs := 1478) 1 rfl rfl C dX4_init_95 ?_
  refine v_new (pc := 96) (xc := 56) (xs := 1478) 2 5 [.null, .null, .null, .int 0, .int 0] C dX4_init_96 (by decide) rfl zw_240 zw_104 zw_79 (fun j hj => by rcases (show j = 0 ∨ j = 1 ∨ j = 2 ∨ j = 3 ∨ j = 4 by omega) with rfl | rfl | rfl | rfl | rfl <;> rfl) (Nat.le_of_ble_eq_true rfl) (Nat.le_of_ble_eq_true rfl) (fun b13 => [(h0, .inr (4, [.ref (q2 0), .ref (qP 0), .ref (qL 0), .ref (q4 0), .ref a5, .ref (q7 0), .ref a8, .int 0, .int 0])), (a5, .inl (zkA X 5, 5, .inr (.inr (.inr (.inr (va_up (va_up (fun _ => none) (0 : Int32).toNatClampNeg (some (q10 0))) (1 : Int32).toNatClampNeg (some (q12 0)))))))), (a8, .inl (zkA X 0, 3, .inl (fun _ => 0))), (b13, .inr (2, [.null, .null, .null, .int 0, .int 0]))]) (fun _ => rfl) (fun b13 => ?_)
  refine v_dup (pc := 99) (xc := 57) (xs := 1483) rfl C dX4_init_99 ?_
  refine v_callI (n := 0) (rm' := rmX2_init) (h := b13) (pc := 100) (xc := 57) (xs := 1483) [] [.ref b13, .int 2, .ref a5] [(h0, .inr (4, [.ref (q2 0), .ref (qP 0), .ref (qL 0), .ref (q4 0), .ref a5, .ref (q7 0), .ref a8, .int 0, .int 0])), (a5, .inl (zkA X 5, 5, .inr (.inr (.inr (.inr (va_up (va_up (fun _ => none) (0 : Int32).toNatClampNeg (some (q10 0))) (1 : Int32).toNatClampNeg (some (q12 0)))))))), (a8, .inl (zkA X 0, 3, .inl (fun _ => 0)))] C dX4_init_100 (mX2_init) zw_107 zw_79 zw_106 rfl (Or.inr ⟨_, fun U h => h.2.1⟩) (by decide +kernel) rfl ⟨(Nat.le_of_ble_eq_true rfl), (Nat.le_of_ble_eq_true rfl)⟩ ⟨(Nat.le_of_ble_eq_true rfl), (Nat.le_of_ble_eq_true rfl)⟩ rfl (Nat.le_of_ble_eq_true rfl) rfl (fun cs9 hp9 => ?_)
  obtain ⟨q14, eq14, rfl⟩ := hp9
  subst eq14
  show zV X 2 103 [(0, .ref h0), (1, .int 2)] [.ref (q14 0), .int 2, .ref a5] [(h0, .inr (4, [.ref (q2 0), .ref (qP 0), .ref (qL 0), .ref (q4 0), .ref a5, .ref (q7 0), .ref a8, .int 0, .int 0])), (a5, .inl (zkA X 5, 5, .inr (.inr (.inr (.inr (va_up (va_up (fun _ => none) (0 : Int32).toNatClampNeg (some (q10 0))) (1 : Int32).toNatClampNeg (some (q12 0)))))))), (a8, .inl (zkA X 0, 3, .inl (fun _ => 0)))] [(1, q2, zZ), (2, qP, zZ), (0, qL, zZ), (2, q4, zZ), (3, q7, zZ), (2, q10, zZ), (2, q12, zZ), (2, q14, zZ)] 60 1523
  refine v_aast (pc := 103) (xc := 60) (xs := 1523) 1 7 5 C dX4_init_103 rfl rfl (by unfold vp_in; decide) [(h0, .inr (4, [.ref (q2 0), .ref (qP 0), .ref (qL 0), .ref (q4 0), .ref a5, .ref (q7 0), .ref a8, .int 0, .int 0])), (a5, .inl (zkA X 5, 5, .inr (.inr (.inr (.inr (va_up (va_up (va_up (fun _ => none) (0 : Int32).toNatClampNeg (some (q10 0))) (1 : Int32).toNatClampNeg (some (q12 0))) (2 : Int32).toNatClampNeg (some (q14 0)))))))), (a8, .inl (zkA X 0, 3, .inl (fun _ => 0)))] rfl ?_
  refine v_iinc (pc := 104) (xc := 60) (xs := 1523) (3 : Int32) 1 rfl (by decide) [(0, .ref h0), (1, .int 3)] [1, 0] (by decide) rfl C dX4_init_104 ?_
  refine v_goto (pc := 107) (xc := 60) (xs := 1523) 86 C dX4_init_107 (by decide) ?_
  refine v_iload_n (pc := 86) (xc := 60) (xs := 1523) 1 rfl rfl C dX4_init_86 ?_
  refine v_iconst (pc := 87) (xc := 60) (xs := 1523) (5 : Int32) (by decide) C dX4_init_87 ?_
  refine v_ge_f (pc := 88) (xc := 60) (xs := 1523) 110 (by decide) C dX4_init_88 (by decide) ?_
  refine v_aload_n (pc := 91) (xc := 60) (xs := 1523) 0 rfl rfl C dX4_init_91 ?_
  refine v_get (pc := 92) (xc := 60) (xs := 1523) 0 4 4 (.ref a5) C dX4_init_92 rfl (by decide) (by decide) zw_265 rfl ?_
  refine v_iload_n (pc := 95) (xc := 60) (xs := 1523) 1 rfl rfl C dX4_init_95 ?_
  refine v_new (pc := 96) (xc := 60) (xs := 1523) 2 5 [.null, .null, .null, .int 0, .int 0] C dX4_init_96 (by decide) rfl zw_240 zw_104 zw_79 (fun j hj => by rcases (show j = 0 ∨ j = 1 ∨ j = 2 ∨ j = 3 ∨ j = 4 by omega) with rfl | rfl | rfl | rfl | rfl <;> rfl) (Nat.le_of_ble_eq_true rfl) (Nat.le_of_ble_eq_true rfl) (fun b15 => [(h0, .inr (4, [.ref (q2 0), .ref (qP 0), .ref (qL 0), .ref (q4 0), .ref a5, .ref (q7 0), .ref a8, .int 0, .int 0])), (a5, .inl (zkA X 5, 5, .inr (.inr (.inr (.inr (va_up (va_up (va_up (fun _ => none) (0 : Int32).toNatClampNeg (some (q10 0))) (1 : Int32).toNatClampNeg (some (q12 0))) (2 : Int32).toNatClampNeg (some (q14 0)))))))), (a8, .inl (zkA X 0, 3, .inl (fun _ => 0))), (b15, .inr (2, [.null, .null, .null, .int 0, .int 0]))]) (fun _ => rfl) (fun b15 => ?_)
  refine v_dup (pc := 99) (xc := 61) (xs := 1528) rfl C dX4_init_99 ?_
  refine v_callI (n := 0) (rm' := rmX2_init) (h := b15) (pc := 100) (xc := 61) (xs := 1528) [] [.ref b15, .int 3, .ref a5] [(h0, .inr (4, [.ref (q2 0), .ref (qP 0), .ref (qL 0), .ref (q4 0), .ref a5, .ref (q7 0), .ref a8, .int 0, .int 0])), (a5, .inl (zkA X 5, 5, .inr (.inr (.inr (.inr (va_up (va_up (va_up (fun _ => none) (0 : Int32).toNatClampNeg (some (q10 0))) (1 : Int32).toNatClampNeg (some (q12 0))) (2 : Int32).toNatClampNeg (some (q14 0)))))))), (a8, .inl (zkA X 0, 3, .inl (fun _ => 0)))] C dX4_init_100 (mX2_init) zw_107 zw_79 zw_106 rfl (Or.inr ⟨_, fun U h => h.2.1⟩) (by decide +kernel) rfl ⟨(Nat.le_of_ble_eq_true rfl), (Nat.le_of_ble_eq_true rfl)⟩ ⟨(Nat.le_of_ble_eq_true rfl), (Nat.le_of_ble_eq_true rfl)⟩ rfl (Nat.le_of_ble_eq_true rfl) rfl (fun cs9 hp9 => ?_)
  obtain ⟨q16, eq16, rfl⟩ := hp9
  subst eq16
  show zV X 2 103 [(0, .ref h0), (1, .int 3)] [.ref (q16 0), .int 3, .ref a5] [(h0, .inr (4, [.ref (q2 0), .ref (qP 0), .ref (qL 0), .ref (q4 0), .ref a5, .ref (q7 0), .ref a8, .int 0, .int 0])), (a5, .inl (zkA X 5, 5, .inr (.inr (.inr (.inr (va_up (va_up (va_up (fun _ => none) (0 : Int32).toNatClampNeg (some (q10 0))) (1 : Int32).toNatClampNeg (some (q12 0))) (2 : Int32).toNatClampNeg (some (q14 0)))))))), (a8, .inl (zkA X 0, 3, .inl (fun _ => 0)))] [(1, q2, zZ), (2, qP, zZ), (0, qL, zZ), (2, q4, zZ), (3, q7, zZ), (2, q10, zZ), (2, q12, zZ), (2, q14, zZ), (2, q16, zZ)] 64 1568
  refine v_aast (pc := 103) (xc := 64) (xs := 1568) 1 8 5 C dX4_init_103 rfl rfl (by unfold vp_in; decide) [(h0, .inr (4, [.ref (q2 0), .ref (qP 0), .ref (qL 0), .ref (q4 0), .ref a5, .ref (q7 0), .ref a8, .int 0, .int 0])), (a5, .inl (zkA X 5, 5, .inr (.inr (.inr (.inr (va_up (va_up (va_up (va_up (fun _ => none) (0 : Int32).toNatClampNeg (some (q10 0))) (1 : Int32).toNatClampNeg (some (q12 0))) (2 : Int32).toNatClampNeg (some (q14 0))) (3 : Int32).toNatClampNeg (some (q16 0)))))))), (a8, .inl (zkA X 0, 3, .inl (fun _ => 0)))] rfl ?_
  refine v_iinc (pc := 104) (xc := 64) (xs := 1568) (4 : Int32) 1 rfl (by decide) [(0, .ref h0), (1, .int 4)] [1, 0] (by decide) rfl C dX4_init_104 ?_
  refine v_goto (pc := 107) (xc := 64) (xs := 1568) 86 C dX4_init_107 (by decide) ?_
  refine v_iload_n (pc := 86) (xc := 64) (xs := 1568) 1 rfl rfl C dX4_init_86 ?_
  refine v_iconst (pc := 87) (xc := 64) (xs := 1568) (5 : Int32) (by decide) C dX4_init_87 ?_
  refine v_ge_f (pc := 88) (xc := 64) (xs := 1568) 110 (by decide) C dX4_init_88 (by decide) ?_
  refine v_aload_n (pc := 91) (xc := 64) (xs := 1568) 0 rfl rfl C dX4_init_91 ?_
  refine v_get (pc := 92) (xc := 64) (xs := 1568) 0 4 4 (.ref a5) C dX4_init_92 rfl (by decide) (by decide) zw_265 rfl ?_
  refine v_iload_n (pc := 95) (xc := 64) (xs := 1568) 1 rfl rfl C dX4_init_95 ?_
  refine v_new (pc := 96) (xc := 64) (xs := 1568) 2 5 [.null, .null, .null, .int 0, .int 0] C dX4_init_96 (by decide) rfl zw_240 zw_104 zw_79 (fun j hj => by rcases (show j = 0 ∨ j = 1 ∨ j = 2 ∨ j = 3 ∨ j = 4 by omega) with rfl | rfl | rfl | rfl | rfl <;> rfl) (Nat.le_of_ble_eq_true rfl) (Nat.le_of_ble_eq_true rfl) (fun b17 => [(h0, .inr (4, [.ref (q2 0), .ref (qP 0), .ref (qL 0), .ref (q4 0), .ref a5, .ref (q7 0), .ref a8, .int 0, .int 0])), (a5, .inl (zkA X 5, 5, .inr (.inr (.inr (.inr (va_up (va_up (va_up (va_up (fun _ => none) (0 : Int32).toNatClampNeg (some (q10 0))) (1 : Int32).toNatClampNeg (some (q12 0))) (2 : Int32).toNatClampNeg (some (q14 0))) (3 : Int32).toNatClampNeg (some (q16 0)))))))), (a8, .inl (zkA X 0, 3, .inl (fun _ => 0))), (b17, .inr (2, [.null, .null, .null, .int 0, .int 0]))]) (fun _ => rfl) (fun b17 => ?_)
  refine v_dup (pc := 99) (xc := 65) (xs := 1573) rfl C dX4_init_99 ?_
  refine v_callI (n := 0) (rm' := rmX2_init) (h := b17) (pc := 100) (xc := 65) (xs := 1573) [] [.ref b17, .int 4, .ref a5] [(h0, .inr (4, [.ref (q2 0), .ref (qP 0), .ref (qL 0), .ref (q4 0), .ref a5, .ref (q7 0), .ref a8, .int 0, .int 0])), (a5, .inl (zkA X 5, 5, .inr (.inr (.inr (.inr (va_up (va_up (va_up (va_up (fun _ => none) (0 : Int32).toNatClampNeg (some (q10 0))) (1 : Int32).toNatClampNeg (some (q12 0))) (2 : Int32).toNatClampNeg (some (q14 0))) (3 : Int32).toNatClampNeg (some (q16 0)))))))), (a8, .inl (zkA X 0, 3, .inl (fun _ => 0)))] C dX4_init_100 (mX2_init) zw_107 zw_79 zw_106 rfl (Or.inr ⟨_, fun U h => h.2.1⟩) (by decide +kernel) rfl ⟨(Nat.le_of_ble_eq_true rfl), (Nat.le_of_ble_eq_true rfl)⟩ ⟨(Nat.le_of_ble_eq_true rfl), (Nat.le_of_ble_eq_true rfl)⟩ rfl (Nat.le_of_ble_eq_true rfl) rfl (fun cs9 hp9 => ?_)
  obtain ⟨q18, eq18, rfl⟩ := hp9
  subst eq18
  show zV X 2 103 [(0, .ref h0), (1, .int 4)] [.ref (q18 0), .int 4, .ref a5] [(h0, .inr (4, [.ref (q2 0), .ref (qP 0), .ref (qL 0), .ref (q4 0), .ref a5, .ref (q7 0), .ref a8, .int 0, .int 0])), (a5, .inl (zkA X 5, 5, .inr (.inr (.inr (.inr (va_up (va_up (va_up (va_up (fun _ => none) (0 : Int32).toNatClampNeg (some (q10 0))) (1 : Int32).toNatClampNeg (some (q12 0))) (2 : Int32).toNatClampNeg (some (q14 0))) (3 : Int32).toNatClampNeg (some (q16 0)))))))), (a8, .inl (zkA X 0, 3, .inl (fun _ => 0)))] [(1, q2, zZ), (2, qP, zZ), (0, qL, zZ), (2, q4, zZ), (3, q7, zZ), (2, q10, zZ), (2, q12, zZ), (2, q14, zZ), (2, q16, zZ), (2, q18, zZ)] 68 1613
  refine v_aast (pc := 103) (xc := 68) (xs := 1613) 1 9 5 C dX4_init_103 rfl rfl (by unfold vp_in; decide) [(h0, .inr (4, [.ref (q2 0), .ref (qP 0), .ref (qL 0), .ref (q4 0), .ref a5, .ref (q7 0), .ref a8, .int 0, .int 0])), (a5, .inl (zkA X 5, 5, .inr (.inr (.inr (.inr (va_up (va_up (va_up (va_up (va_up (fun _ => none) (0 : Int32).toNatClampNeg (some (q10 0))) (1 : Int32).toNatClampNeg (some (q12 0))) (2 : Int32).toNatClampNeg (some (q14 0))) (3 : Int32).toNatClampNeg (some (q16 0))) (4 : Int32).toNatClampNeg (some (q18 0)))))))), (a8, .inl (zkA X 0, 3, .inl (fun _ => 0)))] rfl ?_
  refine v_iinc (pc := 104) (xc := 68) (xs := 1613) (5 : Int32) 1 rfl (by decide) [(0, .ref h0), (1, .int 5)] [1, 0] (by decide) rfl C dX4_init_104 ?_
  refine v_goto (pc := 107) (xc := 68) (xs := 1613) 86 C dX4_init_107 (by decide) ?_
  refine v_iload_n (pc := 86) (xc := 68) (xs := 1613) 1 rfl rfl C dX4_init_86 ?_
  refine v_iconst (pc := 87) (xc := 68) (xs := 1613) (5 : Int32) (by decide) C dX4_init_87 ?_
  refine v_ge_t (pc := 88) (xc := 68) (xs := 1613) 110 (by decide) C dX4_init_88 (by decide) ?_
  obtain ⟨qX, hqX⟩ : ∃ q : Nat → Nat, q = (fun k => if k = 50 then qP 0 else if k = 51 then q4 0 else if k = 52 then qL 0 else if k = 53 then q2 0 else if k = 54 then q7 0 else [h0, a5, a8].getD k 0) := ⟨_, rfl⟩
  obtain ⟨aa, haa⟩ : ∃ a : Nat → Nat → Nat, a = (fun i => [q10, q12, q14, q16, q18].getD i q10) := ⟨_, rfl⟩
  have e0 : (va_up (va_up (va_up (va_up (va_up (fun _ => none) (0 : Int32).toNatClampNeg (some (q10 0))) (1 : Int32).toNatClampNeg (some (q12 0))) (2 : Int32).toNatClampNeg (some (q14 0))) (3 : Int32).toNatClampNeg (some (q16 0))) (4 : Int32).toNatClampNeg (some (q18 0))) = (fun i => if i < 5 then some (zqx qX aa 0 (zbs 4 + i)) else none) := by
    funext i
    rw [haa]
    match i with
    | 0 => rfl
    | 1 => rfl
    | 2 => rfl
    | 3 => rfl
    | 4 => rfl
    | n + 5 => simp [va_up]
  refine v_return (pc := 110) (xc := 68) (xs := 1613) (zNew qX q7 q2 qL qP q4 aa) C hR dX4_init_110 ⟨qX, q7, q2, qL, qP, q4, aa, by rw [hqX]; rfl, ⟨e50, e51, by rw [hqX]; rfl, by rw [hqX]; rfl, by rw [hqX]; rfl, by rw [hqX]; rfl, by rw [hqX]; rfl⟩, rfl⟩ ?_ rfl rfl
  rw [e0]
  have e1 : List.Perm ((4, zqx qX aa 0, zZ) :: [(1, q2, zZ), (2, qP, zZ), (0, qL, zZ), (2, q4, zZ), (3, q7, zZ), (2, q10, zZ), (2, q12, zZ), (2, q14, zZ), (2, q16, zZ), (2, q18, zZ)]) (zNew qX q7 q2 qL qP q4 aa) := by
    subst haa
    exact (z_pn 11 _ rfl [0, 5, 1, 3, 2, 4, 6, 7, 8, 9, 10] (by decide)).symm
  refine List.Perm.trans ?_ (zgw_perm e1)
  subst hqX
  exact List.Perm.of_eq rfl
