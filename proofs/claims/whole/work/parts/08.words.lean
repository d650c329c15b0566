theorem zw_77 : (Jvm.Cond.initialized "DrawnGates") ∈ zTb := zk_in 77 (by decide +kernel) (by decide +kernel)
theorem zw_79 : (Jvm.Cond.initialized "DrawnGates$Layout") ∈ zTb := zk_in 79 (by decide +kernel) (by decide +kernel)
theorem zw_81 : (Jvm.Cond.initialized "DrawnGates$Text") ∈ zTb := zk_in 81 (by decide +kernel) (by decide +kernel)
theorem zw_88 : (Jvm.Cond.initialized "java/lang/Integer") ∈ zTb := zk_in 88 (by decide +kernel) (by decide +kernel)
theorem zw_301 : (Jvm.Cond.static ({ cls := "DrawnGates", name := "isWithin", desc := "(II)Z" } : Jvm.MethodName)) ∈ zTb := zk_in 301 (by decide +kernel) (by decide +kernel)
theorem zw_302 : (Jvm.Cond.code ({ cls := "DrawnGates", name := "isWithin", desc := "(II)Z" } : Jvm.MethodName) prog_1_method_32_code (2 : Nat) (Option.some Jvm.ClassFile.FieldType.boolean)) ∈ zTb := zk_in 302 (by decide +kernel) (by decide +kernel)
theorem zw_307 : (Jvm.Cond.static ({ cls := "DrawnGates", name := "isCell", desc := "(II)Z" } : Jvm.MethodName)) ∈ zTb := zk_in 307 (by decide +kernel) (by decide +kernel)
theorem zw_308 : (Jvm.Cond.code ({ cls := "DrawnGates", name := "isCell", desc := "(II)Z" } : Jvm.MethodName) prog_1_method_33_code (2 : Nat) (Option.some Jvm.ClassFile.FieldType.boolean)) ∈ zTb := zk_in 308 (by decide +kernel) (by decide +kernel)
theorem zw_309 : (Jvm.Cond.methodLink "DrawnGates" (87 : Nat) ({ cls := "DrawnGates", name := "isWithin", desc := "(II)Z" } : Jvm.MethodName)) ∈ zTb := zk_in 309 (by decide +kernel) (by decide +kernel)
theorem zw_317 : (Jvm.Cond.constantLong "java/lang/Long" (314 : Nat) (6148914691236517205 : Int64)) ∈ zTb := zk_in 317 (by decide +kernel) (by decide +kernel)
theorem zw_318 : (Jvm.Cond.constantLong "java/lang/Long" (316 : Nat) (3689348814741910323 : Int64)) ∈ zTb := zk_in 318 (by decide +kernel) (by decide +kernel)
theorem zw_319 : (Jvm.Cond.constantLong "java/lang/Long" (318 : Nat) (1085102592571150095 : Int64)) ∈ zTb := zk_in 319 (by decide +kernel) (by decide +kernel)
theorem zw_420 : (Jvm.Cond.methodLink "DrawnGates$Layout" (166 : Nat) ({ cls := "DrawnGates$Layout", name := "besideOf", desc := "(J)J" } : Jvm.MethodName)) ∈ zTb := zk_in 420 (by decide +kernel) (by decide +kernel)
theorem zw_421 : (Jvm.Cond.static ({ cls := "DrawnGates$Layout", name := "besideOf", desc := "(J)J" } : Jvm.MethodName)) ∈ zTb := zk_in 421 (by decide +kernel) (by decide +kernel)
theorem zw_422 : (Jvm.Cond.code ({ cls := "DrawnGates$Layout", name := "besideOf", desc := "(J)J" } : Jvm.MethodName) prog_2_method_26_code (6 : Nat) (Option.some Jvm.ClassFile.FieldType.long)) ∈ zTb := zk_in 422 (by decide +kernel) (by decide +kernel)
theorem zw_423 : (Jvm.Cond.constantLong "DrawnGates$Layout" (182 : Nat) (9187201950435737471 : Int64)) ∈ zTb := zk_in 423 (by decide +kernel) (by decide +kernel)
theorem zw_424 : (Jvm.Cond.constantLong "DrawnGates$Layout" (184 : Nat) (-72340172838076674 : Int64)) ∈ zTb := zk_in 424 (by decide +kernel) (by decide +kernel)
theorem zw_598 : (Jvm.Cond.methodLink "java/lang/Long" (311 : Nat) ({ cls := "java/lang/Integer", name := "numberOfTrailingZeros", desc := "(I)I" } : Jvm.MethodName)) ∈ zTb := zk_in 598 (by decide +kernel) (by decide +kernel)
theorem zw_599 : (Jvm.Cond.static ({ cls := "java/lang/Integer", name := "numberOfTrailingZeros", desc := "(I)I" } : Jvm.MethodName)) ∈ zTb := zk_in 599 (by decide +kernel) (by decide +kernel)
theorem zw_600 : (Jvm.Cond.code ({ cls := "java/lang/Integer", name := "numberOfTrailingZeros", desc := "(I)I" } : Jvm.MethodName) prog_8_method_48_code (2 : Nat) (Option.some Jvm.ClassFile.FieldType.int)) ∈ zTb := zk_in 600 (by decide +kernel) (by decide +kernel)
theorem zw_601 : (Jvm.Cond.constant "java/lang/Integer" (264 : Nat) (65536 : Int32)) ∈ zTb := zk_in 601 (by decide +kernel) (by decide +kernel)
theorem zw_660 : (Jvm.Cond.methodLink "DrawnGates$Text" (27 : Nat) ({ cls := "DrawnGates$Text", name := "figuresOf", desc := "(I)I" } : Jvm.MethodName)) ∈ zTb := zk_in 660 (by decide +kernel) (by decide +kernel)
theorem zw_661 : (Jvm.Cond.static ({ cls := "DrawnGates$Text", name := "figuresOf", desc := "(I)I" } : Jvm.MethodName)) ∈ zTb := zk_in 661 (by decide +kernel) (by decide +kernel)
theorem zw_662 : (Jvm.Cond.code ({ cls := "DrawnGates$Text", name := "figuresOf", desc := "(I)I" } : Jvm.MethodName) prog_5_method_7_code (1 : Nat) (Option.some Jvm.ClassFile.FieldType.int)) ∈ zTb := zk_in 662 (by decide +kernel) (by decide +kernel)
theorem zy_J6_numberOfTrailingZeros_0f7a4 : zYS yJ6_numberOfTrailingZeros_0f7a4 cJ6_numberOfTrailingZeros_0f7a4 2 (some .int) 1 := ⟨zw_600, zw_88, by decide +kernel, zw_599⟩
theorem zy_X0_besideOf : zYS yX0_besideOf cX0_besideOf 6 (some .long) 1 := ⟨zw_422, zw_79, by decide +kernel, zw_421⟩
theorem zy_X3_figuresOf : zYS yX3_figuresOf cX3_figuresOf 1 (some .int) 1 := ⟨zw_662, zw_81, by decide +kernel, zw_661⟩
theorem zy_X4_isCell : zYS yX4_isCell cX4_isCell 2 (some .boolean) 2 := ⟨zw_308, zw_77, by decide +kernel, zw_307⟩
theorem zy_X4_isWithin : zYS yX4_isWithin cX4_isWithin 2 (some .boolean) 2 := ⟨zw_302, zw_77, by decide +kernel, zw_301⟩
