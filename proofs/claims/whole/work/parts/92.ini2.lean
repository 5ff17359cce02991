/-! Printed: words and decode rows of the constructors. -/
def yi_0 : MethodName := ⟨"BoardDesk", "<init>", "()V"⟩
def yi_1 : MethodName := ⟨"BoardDesk$Board", "<init>", "()V"⟩
def yi_2 : MethodName := ⟨"BoardDesk$Sheet", "<init>", "()V"⟩
def yi_3 : MethodName := ⟨"BoardDesk$History", "<init>", "()V"⟩
def yi_4 : MethodName := ⟨"BoardDesk$Router", "<init>", "()V"⟩
def yi_5 : MethodName := ⟨"BoardDesk$Lanes", "<init>", "()V"⟩
def yi_6 : MethodName := ⟨"BoardDesk$Tape", "<init>", "()V"⟩
def yi_7 : MethodName := ⟨"BoardDeskModel", "<init>", "()V"⟩
theorem wd_17 : Cond.methodLink "BoardDesk" (1 : Nat) ({ cls := "java/lang/Object", name := "<init>", desc := "()V" } : MethodName) ∈ gTs := gTs_of (i := 50) (by decide +kernel) (by decide +kernel)
theorem wd_18 : Cond.instanceMethod ({ cls := "java/lang/Object", name := "<init>", desc := "()V" } : MethodName) ∈ gTs := gTs_of (i := 51) (by decide +kernel) (by decide +kernel)
theorem wd_19 : Cond.code ({ cls := "java/lang/Object", name := "<init>", desc := "()V" } : MethodName) object_method_1_code (1 : Nat) (Option.none : Option FieldType) ∈ gTs := gTs_of (i := 52) (by decide +kernel) (by decide +kernel)
theorem wd_20 : Cond.classLink "BoardDesk" (7 : Nat) "BoardDesk$Board" ∈ gTs := gTs_of (i := 53) (by decide +kernel) (by decide +kernel)
theorem wd_21 : Cond.instantiable "BoardDesk$Board" (2 : Nat) ∈ gTs := gTs_of (i := 54) (by decide +kernel) (by decide +kernel)
theorem wd_23 : Cond.instanceMethod ({ cls := "BoardDesk$Board", name := "<init>", desc := "()V" } : MethodName) ∈ gTs := gTs_of (i := 56) (by decide +kernel) (by decide +kernel)
theorem wd_24 : Cond.code ({ cls := "BoardDesk$Board", name := "<init>", desc := "()V" } : MethodName) prog_2_method_1_code (1 : Nat) (Option.none : Option FieldType) ∈ gTs := gTs_of (i := 57) (by decide +kernel) (by decide +kernel)
theorem wd_25 : Cond.methodLink "BoardDesk$Board" (3 : Nat) ({ cls := "java/lang/Object", name := "<init>", desc := "()V" } : MethodName) ∈ gTs := gTs_of (i := 58) (by decide +kernel) (by decide +kernel)
theorem wd_26 : Cond.classLink "BoardDesk$Board" (9 : Nat) "BoardDesk$Sheet" ∈ gTs := gTs_of (i := 59) (by decide +kernel) (by decide +kernel)
theorem wd_27 : Cond.instantiable "BoardDesk$Sheet" (9 : Nat) ∈ gTs := gTs_of (i := 60) (by decide +kernel) (by decide +kernel)
theorem wd_28 : Cond.methodLink "BoardDesk$Board" (11 : Nat) ({ cls := "BoardDesk$Sheet", name := "<init>", desc := "()V" } : MethodName) ∈ gTs := gTs_of (i := 61) (by decide +kernel) (by decide +kernel)
theorem wd_29 : Cond.instanceMethod ({ cls := "BoardDesk$Sheet", name := "<init>", desc := "()V" } : MethodName) ∈ gTs := gTs_of (i := 62) (by decide +kernel) (by decide +kernel)
theorem wd_30 : Cond.code ({ cls := "BoardDesk$Sheet", name := "<init>", desc := "()V" } : MethodName) prog_6_method_1_code (2 : Nat) (Option.none : Option FieldType) ∈ gTs := gTs_of (i := 63) (by decide +kernel) (by decide +kernel)
theorem wd_31 : Cond.methodLink "BoardDesk$Sheet" (3 : Nat) ({ cls := "java/lang/Object", name := "<init>", desc := "()V" } : MethodName) ∈ gTs := gTs_of (i := 64) (by decide +kernel) (by decide +kernel)
theorem wd_74 : Cond.arrayClass FieldType.int ∈ gTs := gTs_of (i := 107) (by decide +kernel) (by decide +kernel)
theorem wd_84 : Cond.classLink "BoardDesk" (16 : Nat) "BoardDesk$History" ∈ gTs := gTs_of (i := 117) (by decide +kernel) (by decide +kernel)
theorem wd_85 : Cond.instantiable "BoardDesk$History" (3 : Nat) ∈ gTs := gTs_of (i := 118) (by decide +kernel) (by decide +kernel)
theorem wd_86 : Cond.methodLink "BoardDesk" (18 : Nat) ({ cls := "BoardDesk$History", name := "<init>", desc := "()V" } : MethodName) ∈ gTs := gTs_of (i := 119) (by decide +kernel) (by decide +kernel)
theorem wd_87 : Cond.instanceMethod ({ cls := "BoardDesk$History", name := "<init>", desc := "()V" } : MethodName) ∈ gTs := gTs_of (i := 120) (by decide +kernel) (by decide +kernel)
theorem wd_88 : Cond.code ({ cls := "BoardDesk$History", name := "<init>", desc := "()V" } : MethodName) prog_3_method_1_code (2 : Nat) (Option.none : Option FieldType) ∈ gTs := gTs_of (i := 121) (by decide +kernel) (by decide +kernel)
theorem wd_89 : Cond.methodLink "BoardDesk$History" (3 : Nat) ({ cls := "java/lang/Object", name := "<init>", desc := "()V" } : MethodName) ∈ gTs := gTs_of (i := 122) (by decide +kernel) (by decide +kernel)
theorem wd_90 : Cond.classLink "BoardDesk$History" (11 : Nat) "BoardDesk$Sheet" ∈ gTs := gTs_of (i := 123) (by decide +kernel) (by decide +kernel)
theorem wd_92 : Cond.methodLink "BoardDesk$History" (24 : Nat) ({ cls := "BoardDesk$Sheet", name := "<init>", desc := "()V" } : MethodName) ∈ gTs := gTs_of (i := 125) (by decide +kernel) (by decide +kernel)
theorem wd_104 : Cond.classLink "BoardDesk" (23 : Nat) "BoardDesk$Router" ∈ gTs := gTs_of (i := 137) (by decide +kernel) (by decide +kernel)
theorem wd_105 : Cond.instantiable "BoardDesk$Router" (6 : Nat) ∈ gTs := gTs_of (i := 138) (by decide +kernel) (by decide +kernel)
theorem wd_107 : Cond.instanceMethod ({ cls := "BoardDesk$Router", name := "<init>", desc := "()V" } : MethodName) ∈ gTs := gTs_of (i := 140) (by decide +kernel) (by decide +kernel)
theorem wd_108 : Cond.code ({ cls := "BoardDesk$Router", name := "<init>", desc := "()V" } : MethodName) prog_5_method_1_code (1 : Nat) (Option.none : Option FieldType) ∈ gTs := gTs_of (i := 141) (by decide +kernel) (by decide +kernel)
theorem wd_109 : Cond.methodLink "BoardDesk$Router" (3 : Nat) ({ cls := "java/lang/Object", name := "<init>", desc := "()V" } : MethodName) ∈ gTs := gTs_of (i := 142) (by decide +kernel) (by decide +kernel)
theorem wd_110 : Cond.classLink "BoardDesk$Router" (29 : Nat) "BoardDesk$Lanes" ∈ gTs := gTs_of (i := 143) (by decide +kernel) (by decide +kernel)
theorem wd_111 : Cond.instantiable "BoardDesk$Lanes" (4 : Nat) ∈ gTs := gTs_of (i := 144) (by decide +kernel) (by decide +kernel)
theorem wd_113 : Cond.instanceMethod ({ cls := "BoardDesk$Lanes", name := "<init>", desc := "()V" } : MethodName) ∈ gTs := gTs_of (i := 146) (by decide +kernel) (by decide +kernel)
theorem wd_114 : Cond.code ({ cls := "BoardDesk$Lanes", name := "<init>", desc := "()V" } : MethodName) prog_4_method_1_code (1 : Nat) (Option.none : Option FieldType) ∈ gTs := gTs_of (i := 147) (by decide +kernel) (by decide +kernel)
theorem wd_115 : Cond.methodLink "BoardDesk$Lanes" (3 : Nat) ({ cls := "java/lang/Object", name := "<init>", desc := "()V" } : MethodName) ∈ gTs := gTs_of (i := 148) (by decide +kernel) (by decide +kernel)
theorem wd_116 : Cond.classLink "BoardDesk$Lanes" (11 : Nat) "[[I" ∈ gTs := gTs_of (i := 149) (by decide +kernel) (by decide +kernel)
theorem wd_131 : Cond.arrayClass FieldType.boolean ∈ gTs := gTs_of (i := 164) (by decide +kernel) (by decide +kernel)
theorem wd_151 : Cond.classLink "BoardDesk" (30 : Nat) "BoardDesk$Tape" ∈ gTs := gTs_of (i := 184) (by decide +kernel) (by decide +kernel)
theorem wd_152 : Cond.instantiable "BoardDesk$Tape" (3 : Nat) ∈ gTs := gTs_of (i := 185) (by decide +kernel) (by decide +kernel)
theorem wd_154 : Cond.instanceMethod ({ cls := "BoardDesk$Tape", name := "<init>", desc := "()V" } : MethodName) ∈ gTs := gTs_of (i := 187) (by decide +kernel) (by decide +kernel)
theorem wd_155 : Cond.code ({ cls := "BoardDesk$Tape", name := "<init>", desc := "()V" } : MethodName) prog_7_method_1_code (1 : Nat) (Option.none : Option FieldType) ∈ gTs := gTs_of (i := 188) (by decide +kernel) (by decide +kernel)
theorem wd_156 : Cond.methodLink "BoardDesk$Tape" (3 : Nat) ({ cls := "java/lang/Object", name := "<init>", desc := "()V" } : MethodName) ∈ gTs := gTs_of (i := 189) (by decide +kernel) (by decide +kernel)
theorem wd_541 : Cond.methodLink "BoardDeskModel" (1 : Nat) ({ cls := "java/lang/Object", name := "<init>", desc := "()V" } : MethodName) ∈ gTs := gTs_of (i := 574) (by decide +kernel) (by decide +kernel)
theorem dk_0_0 : decode prog_1_method_1_code 0 = .ok (.aload_n 0, 1) := by decide +kernel
theorem dk_0_1 : decode prog_1_method_1_code 1 = .ok (.invokespecial 1, 3) := by decide +kernel
theorem dk_0_4 : decode prog_1_method_1_code 4 = .ok (.aload_n 0, 1) := by decide +kernel
theorem dk_0_5 : decode prog_1_method_1_code 5 = .ok (.new 7, 3) := by decide +kernel
theorem dk_0_8 : decode prog_1_method_1_code 8 = .ok (.dup, 1) := by decide +kernel
theorem dk_0_9 : decode prog_1_method_1_code 9 = .ok (.invokespecial 9, 3) := by decide +kernel
theorem dk_0_12 : decode prog_1_method_1_code 12 = .ok (.putfield 10, 3) := by decide +kernel
theorem dk_0_15 : decode prog_1_method_1_code 15 = .ok (.aload_n 0, 1) := by decide +kernel
theorem dk_0_16 : decode prog_1_method_1_code 16 = .ok (.new 16, 3) := by decide +kernel
theorem dk_0_19 : decode prog_1_method_1_code 19 = .ok (.dup, 1) := by decide +kernel
theorem dk_0_20 : decode prog_1_method_1_code 20 = .ok (.invokespecial 18, 3) := by decide +kernel
theorem dk_0_23 : decode prog_1_method_1_code 23 = .ok (.putfield 19, 3) := by decide +kernel
theorem dk_0_26 : decode prog_1_method_1_code 26 = .ok (.aload_n 0, 1) := by decide +kernel
theorem dk_0_27 : decode prog_1_method_1_code 27 = .ok (.new 23, 3) := by decide +kernel
theorem dk_0_30 : decode prog_1_method_1_code 30 = .ok (.dup, 1) := by decide +kernel
theorem dk_0_31 : decode prog_1_method_1_code 31 = .ok (.invokespecial 25, 3) := by decide +kernel
theorem dk_0_34 : decode prog_1_method_1_code 34 = .ok (.putfield 26, 3) := by decide +kernel
theorem dk_0_37 : decode prog_1_method_1_code 37 = .ok (.aload_n 0, 1) := by decide +kernel
theorem dk_0_38 : decode prog_1_method_1_code 38 = .ok (.new 30, 3) := by decide +kernel
theorem dk_0_41 : decode prog_1_method_1_code 41 = .ok (.dup, 1) := by decide +kernel
theorem dk_0_42 : decode prog_1_method_1_code 42 = .ok (.invokespecial 32, 3) := by decide +kernel
theorem dk_0_45 : decode prog_1_method_1_code 45 = .ok (.putfield 33, 3) := by decide +kernel
theorem dk_0_48 : decode prog_1_method_1_code 48 = .ok (.aload_n 0, 1) := by decide +kernel
theorem dk_0_49 : decode prog_1_method_1_code 49 = .ok (.bipush 16, 2) := by decide +kernel
theorem dk_0_51 : decode prog_1_method_1_code 51 = .ok (.newarray .int, 2) := by decide +kernel
theorem dk_0_53 : decode prog_1_method_1_code 53 = .ok (.putfield 37, 3) := by decide +kernel
theorem dk_0_56 : decode prog_1_method_1_code 56 = .ok (.return_, 1) := by decide +kernel
theorem dk_1_0 : decode prog_2_method_1_code 0 = .ok (.aload_n 0, 1) := by decide +kernel
theorem dk_1_1 : decode prog_2_method_1_code 1 = .ok (.invokespecial 3, 3) := by decide +kernel
theorem dk_1_4 : decode prog_2_method_1_code 4 = .ok (.aload_n 0, 1) := by decide +kernel
theorem dk_1_5 : decode prog_2_method_1_code 5 = .ok (.new 9, 3) := by decide +kernel
theorem dk_1_8 : decode prog_2_method_1_code 8 = .ok (.dup, 1) := by decide +kernel
theorem dk_1_9 : decode prog_2_method_1_code 9 = .ok (.invokespecial 11, 3) := by decide +kernel
theorem dk_1_12 : decode prog_2_method_1_code 12 = .ok (.putfield 12, 3) := by decide +kernel
theorem dk_1_15 : decode prog_2_method_1_code 15 = .ok (.aload_n 0, 1) := by decide +kernel
theorem dk_1_16 : decode prog_2_method_1_code 16 = .ok (.bipush 16, 2) := by decide +kernel
theorem dk_1_18 : decode prog_2_method_1_code 18 = .ok (.newarray .int, 2) := by decide +kernel
theorem dk_1_20 : decode prog_2_method_1_code 20 = .ok (.putfield 18, 3) := by decide +kernel
theorem dk_1_23 : decode prog_2_method_1_code 23 = .ok (.return_, 1) := by decide +kernel
theorem dk_2_0 : decode prog_6_method_1_code 0 = .ok (.aload_n 0, 1) := by decide +kernel
theorem dk_2_1 : decode prog_6_method_1_code 1 = .ok (.invokespecial 3, 3) := by decide +kernel
theorem dk_2_4 : decode prog_6_method_1_code 4 = .ok (.aload_n 0, 1) := by decide +kernel
theorem dk_2_5 : decode prog_6_method_1_code 5 = .ok (.bipush 16, 2) := by decide +kernel
theorem dk_2_7 : decode prog_6_method_1_code 7 = .ok (.newarray .int, 2) := by decide +kernel
theorem dk_2_9 : decode prog_6_method_1_code 9 = .ok (.putfield 9, 3) := by decide +kernel
theorem dk_2_12 : decode prog_6_method_1_code 12 = .ok (.aload_n 0, 1) := by decide +kernel
theorem dk_2_13 : decode prog_6_method_1_code 13 = .ok (.bipush 24, 2) := by decide +kernel
theorem dk_2_15 : decode prog_6_method_1_code 15 = .ok (.newarray .int, 2) := by decide +kernel
theorem dk_2_17 : decode prog_6_method_1_code 17 = .ok (.putfield 15, 3) := by decide +kernel
theorem dk_2_20 : decode prog_6_method_1_code 20 = .ok (.aload_n 0, 1) := by decide +kernel
theorem dk_2_21 : decode prog_6_method_1_code 21 = .ok (.bipush 24, 2) := by decide +kernel
theorem dk_2_23 : decode prog_6_method_1_code 23 = .ok (.newarray .int, 2) := by decide +kernel
theorem dk_2_25 : decode prog_6_method_1_code 25 = .ok (.putfield 18, 3) := by decide +kernel
theorem dk_2_28 : decode prog_6_method_1_code 28 = .ok (.aload_n 0, 1) := by decide +kernel
theorem dk_2_29 : decode prog_6_method_1_code 29 = .ok (.bipush 16, 2) := by decide +kernel
theorem dk_2_31 : decode prog_6_method_1_code 31 = .ok (.newarray .int, 2) := by decide +kernel
theorem dk_2_33 : decode prog_6_method_1_code 33 = .ok (.putfield 21, 3) := by decide +kernel
theorem dk_2_36 : decode prog_6_method_1_code 36 = .ok (.aload_n 0, 1) := by decide +kernel
theorem dk_2_37 : decode prog_6_method_1_code 37 = .ok (.bipush 16, 2) := by decide +kernel
theorem dk_2_39 : decode prog_6_method_1_code 39 = .ok (.newarray .int, 2) := by decide +kernel
theorem dk_2_41 : decode prog_6_method_1_code 41 = .ok (.putfield 24, 3) := by decide +kernel
theorem dk_2_44 : decode prog_6_method_1_code 44 = .ok (.aload_n 0, 1) := by decide +kernel
theorem dk_2_45 : decode prog_6_method_1_code 45 = .ok (.sipush 240, 3) := by decide +kernel
theorem dk_2_48 : decode prog_6_method_1_code 48 = .ok (.newarray .int, 2) := by decide +kernel
theorem dk_2_50 : decode prog_6_method_1_code 50 = .ok (.putfield 27, 3) := by decide +kernel
theorem dk_2_53 : decode prog_6_method_1_code 53 = .ok (.aload_n 0, 1) := by decide +kernel
theorem dk_2_54 : decode prog_6_method_1_code 54 = .ok (.iconst 0, 1) := by decide +kernel
theorem dk_2_55 : decode prog_6_method_1_code 55 = .ok (.putfield 30, 3) := by decide +kernel
theorem dk_2_58 : decode prog_6_method_1_code 58 = .ok (.aload_n 0, 1) := by decide +kernel
theorem dk_2_59 : decode prog_6_method_1_code 59 = .ok (.iconst 0, 1) := by decide +kernel
theorem dk_2_60 : decode prog_6_method_1_code 60 = .ok (.putfield 34, 3) := by decide +kernel
theorem dk_2_63 : decode prog_6_method_1_code 63 = .ok (.aload_n 0, 1) := by decide +kernel
theorem dk_2_64 : decode prog_6_method_1_code 64 = .ok (.iconst 1, 1) := by decide +kernel
theorem dk_2_65 : decode prog_6_method_1_code 65 = .ok (.putfield 37, 3) := by decide +kernel
theorem dk_2_68 : decode prog_6_method_1_code 68 = .ok (.iconst 0, 1) := by decide +kernel
theorem dk_2_69 : decode prog_6_method_1_code 69 = .ok (.istore_n 1, 1) := by decide +kernel
theorem dk_2_70 : decode prog_6_method_1_code 70 = .ok (.iload_n 1, 1) := by decide +kernel
theorem dk_2_71 : decode prog_6_method_1_code 71 = .ok (.sipush 240, 3) := by decide +kernel
theorem dk_2_74 : decode prog_6_method_1_code 74 = .ok (.if_icmp .ge 16, 3) := by decide +kernel
theorem dk_2_77 : decode prog_6_method_1_code 77 = .ok (.aload_n 0, 1) := by decide +kernel
theorem dk_2_78 : decode prog_6_method_1_code 78 = .ok (.getfield 27, 3) := by decide +kernel
theorem dk_2_81 : decode prog_6_method_1_code 81 = .ok (.iload_n 1, 1) := by decide +kernel
theorem dk_2_82 : decode prog_6_method_1_code 82 = .ok (.iconst (-1), 1) := by decide +kernel
theorem dk_2_83 : decode prog_6_method_1_code 83 = .ok (.iastore, 1) := by decide +kernel
theorem dk_2_84 : decode prog_6_method_1_code 84 = .ok (.iinc 1 1, 3) := by decide +kernel
theorem dk_2_87 : decode prog_6_method_1_code 87 = .ok (.goto (-17), 3) := by decide +kernel
theorem dk_2_90 : decode prog_6_method_1_code 90 = .ok (.return_, 1) := by decide +kernel
theorem dk_3_0 : decode prog_3_method_1_code 0 = .ok (.aload_n 0, 1) := by decide +kernel
theorem dk_3_1 : decode prog_3_method_1_code 1 = .ok (.invokespecial 3, 3) := by decide +kernel
theorem dk_3_4 : decode prog_3_method_1_code 4 = .ok (.aload_n 0, 1) := by decide +kernel
theorem dk_3_5 : decode prog_3_method_1_code 5 = .ok (.bipush 17, 2) := by decide +kernel
theorem dk_3_7 : decode prog_3_method_1_code 7 = .ok (.anewarray 11, 3) := by decide +kernel
theorem dk_3_10 : decode prog_3_method_1_code 10 = .ok (.putfield 13, 3) := by decide +kernel
theorem dk_3_13 : decode prog_3_method_1_code 13 = .ok (.aload_n 0, 1) := by decide +kernel
theorem dk_3_14 : decode prog_3_method_1_code 14 = .ok (.iconst 0, 1) := by decide +kernel
theorem dk_3_15 : decode prog_3_method_1_code 15 = .ok (.putfield 17, 3) := by decide +kernel
theorem dk_3_18 : decode prog_3_method_1_code 18 = .ok (.aload_n 0, 1) := by decide +kernel
theorem dk_3_19 : decode prog_3_method_1_code 19 = .ok (.iconst 0, 1) := by decide +kernel
theorem dk_3_20 : decode prog_3_method_1_code 20 = .ok (.putfield 21, 3) := by decide +kernel
theorem dk_3_23 : decode prog_3_method_1_code 23 = .ok (.iconst 0, 1) := by decide +kernel
theorem dk_3_24 : decode prog_3_method_1_code 24 = .ok (.istore_n 1, 1) := by decide +kernel
theorem dk_3_25 : decode prog_3_method_1_code 25 = .ok (.iload_n 1, 1) := by decide +kernel
theorem dk_3_26 : decode prog_3_method_1_code 26 = .ok (.bipush 17, 2) := by decide +kernel
theorem dk_3_28 : decode prog_3_method_1_code 28 = .ok (.if_icmp .ge 22, 3) := by decide +kernel
theorem dk_3_31 : decode prog_3_method_1_code 31 = .ok (.aload_n 0, 1) := by decide +kernel
theorem dk_3_32 : decode prog_3_method_1_code 32 = .ok (.getfield 13, 3) := by decide +kernel
theorem dk_3_35 : decode prog_3_method_1_code 35 = .ok (.iload_n 1, 1) := by decide +kernel
theorem dk_3_36 : decode prog_3_method_1_code 36 = .ok (.new 11, 3) := by decide +kernel
theorem dk_3_39 : decode prog_3_method_1_code 39 = .ok (.dup, 1) := by decide +kernel
theorem dk_3_40 : decode prog_3_method_1_code 40 = .ok (.invokespecial 24, 3) := by decide +kernel
theorem dk_3_43 : decode prog_3_method_1_code 43 = .ok (.aastore, 1) := by decide +kernel
theorem dk_3_44 : decode prog_3_method_1_code 44 = .ok (.iinc 1 1, 3) := by decide +kernel
theorem dk_3_47 : decode prog_3_method_1_code 47 = .ok (.goto (-22), 3) := by decide +kernel
theorem dk_3_50 : decode prog_3_method_1_code 50 = .ok (.return_, 1) := by decide +kernel
theorem dk_4_0 : decode prog_5_method_1_code 0 = .ok (.aload_n 0, 1) := by decide +kernel
theorem dk_4_1 : decode prog_5_method_1_code 1 = .ok (.invokespecial 3, 3) := by decide +kernel
theorem dk_4_4 : decode prog_5_method_1_code 4 = .ok (.aload_n 0, 1) := by decide +kernel
theorem dk_4_5 : decode prog_5_method_1_code 5 = .ok (.sipush 240, 3) := by decide +kernel
theorem dk_4_8 : decode prog_5_method_1_code 8 = .ok (.newarray .boolean, 2) := by decide +kernel
theorem dk_4_10 : decode prog_5_method_1_code 10 = .ok (.putfield 9, 3) := by decide +kernel
theorem dk_4_13 : decode prog_5_method_1_code 13 = .ok (.aload_n 0, 1) := by decide +kernel
theorem dk_4_14 : decode prog_5_method_1_code 14 = .ok (.sipush 240, 3) := by decide +kernel
theorem dk_4_17 : decode prog_5_method_1_code 17 = .ok (.newarray .int, 2) := by decide +kernel
theorem dk_4_19 : decode prog_5_method_1_code 19 = .ok (.putfield 15, 3) := by decide +kernel
theorem dk_4_22 : decode prog_5_method_1_code 22 = .ok (.aload_n 0, 1) := by decide +kernel
theorem dk_4_23 : decode prog_5_method_1_code 23 = .ok (.iconst 0, 1) := by decide +kernel
theorem dk_4_24 : decode prog_5_method_1_code 24 = .ok (.putfield 19, 3) := by decide +kernel
theorem dk_4_27 : decode prog_5_method_1_code 27 = .ok (.aload_n 0, 1) := by decide +kernel
theorem dk_4_28 : decode prog_5_method_1_code 28 = .ok (.sipush 240, 3) := by decide +kernel
theorem dk_4_31 : decode prog_5_method_1_code 31 = .ok (.newarray .boolean, 2) := by decide +kernel
theorem dk_4_33 : decode prog_5_method_1_code 33 = .ok (.putfield 23, 3) := by decide +kernel
theorem dk_4_36 : decode prog_5_method_1_code 36 = .ok (.aload_n 0, 1) := by decide +kernel
theorem dk_4_37 : decode prog_5_method_1_code 37 = .ok (.sipush 240, 3) := by decide +kernel
theorem dk_4_40 : decode prog_5_method_1_code 40 = .ok (.newarray .int, 2) := by decide +kernel
theorem dk_4_42 : decode prog_5_method_1_code 42 = .ok (.putfield 26, 3) := by decide +kernel
theorem dk_4_45 : decode prog_5_method_1_code 45 = .ok (.aload_n 0, 1) := by decide +kernel
theorem dk_4_46 : decode prog_5_method_1_code 46 = .ok (.new 29, 3) := by decide +kernel
theorem dk_4_49 : decode prog_5_method_1_code 49 = .ok (.dup, 1) := by decide +kernel
theorem dk_4_50 : decode prog_5_method_1_code 50 = .ok (.invokespecial 31, 3) := by decide +kernel
theorem dk_4_53 : decode prog_5_method_1_code 53 = .ok (.putfield 32, 3) := by decide +kernel
theorem dk_4_56 : decode prog_5_method_1_code 56 = .ok (.return_, 1) := by decide +kernel
theorem dk_5_0 : decode prog_4_method_1_code 0 = .ok (.aload_n 0, 1) := by decide +kernel
theorem dk_5_1 : decode prog_4_method_1_code 1 = .ok (.invokespecial 3, 3) := by decide +kernel
theorem dk_5_4 : decode prog_4_method_1_code 4 = .ok (.aload_n 0, 1) := by decide +kernel
theorem dk_5_5 : decode prog_4_method_1_code 5 = .ok (.iconst 3, 1) := by decide +kernel
theorem dk_5_6 : decode prog_4_method_1_code 6 = .ok (.sipush 240, 3) := by decide +kernel
theorem dk_5_9 : decode prog_4_method_1_code 9 = .ok (.multianewarray 11 2, 4) := by decide +kernel
theorem dk_5_13 : decode prog_4_method_1_code 13 = .ok (.putfield 13, 3) := by decide +kernel
theorem dk_5_16 : decode prog_4_method_1_code 16 = .ok (.aload_n 0, 1) := by decide +kernel
theorem dk_5_17 : decode prog_4_method_1_code 17 = .ok (.iconst 3, 1) := by decide +kernel
theorem dk_5_18 : decode prog_4_method_1_code 18 = .ok (.newarray .int, 2) := by decide +kernel
theorem dk_5_20 : decode prog_4_method_1_code 20 = .ok (.putfield 16, 3) := by decide +kernel
theorem dk_5_23 : decode prog_4_method_1_code 23 = .ok (.aload_n 0, 1) := by decide +kernel
theorem dk_5_24 : decode prog_4_method_1_code 24 = .ok (.iconst 3, 1) := by decide +kernel
theorem dk_5_25 : decode prog_4_method_1_code 25 = .ok (.newarray .int, 2) := by decide +kernel
theorem dk_5_27 : decode prog_4_method_1_code 27 = .ok (.putfield 20, 3) := by decide +kernel
theorem dk_5_30 : decode prog_4_method_1_code 30 = .ok (.aload_n 0, 1) := by decide +kernel
theorem dk_5_31 : decode prog_4_method_1_code 31 = .ok (.sipush 240, 3) := by decide +kernel
theorem dk_5_34 : decode prog_4_method_1_code 34 = .ok (.newarray .boolean, 2) := by decide +kernel
theorem dk_5_36 : decode prog_4_method_1_code 36 = .ok (.putfield 23, 3) := by decide +kernel
theorem dk_5_39 : decode prog_4_method_1_code 39 = .ok (.return_, 1) := by decide +kernel
theorem dk_6_0 : decode prog_7_method_1_code 0 = .ok (.aload_n 0, 1) := by decide +kernel
theorem dk_6_1 : decode prog_7_method_1_code 1 = .ok (.invokespecial 3, 3) := by decide +kernel
theorem dk_6_4 : decode prog_7_method_1_code 4 = .ok (.aload_n 0, 1) := by decide +kernel
theorem dk_6_5 : decode prog_7_method_1_code 5 = .ok (.sipush 400, 3) := by decide +kernel
theorem dk_6_8 : decode prog_7_method_1_code 8 = .ok (.newarray .int, 2) := by decide +kernel
theorem dk_6_10 : decode prog_7_method_1_code 10 = .ok (.putfield 9, 3) := by decide +kernel
theorem dk_6_13 : decode prog_7_method_1_code 13 = .ok (.aload_n 0, 1) := by decide +kernel
theorem dk_6_14 : decode prog_7_method_1_code 14 = .ok (.iconst 0, 1) := by decide +kernel
theorem dk_6_15 : decode prog_7_method_1_code 15 = .ok (.putfield 15, 3) := by decide +kernel
theorem dk_6_18 : decode prog_7_method_1_code 18 = .ok (.aload_n 0, 1) := by decide +kernel
theorem dk_6_19 : decode prog_7_method_1_code 19 = .ok (.bipush 120, 2) := by decide +kernel
theorem dk_6_21 : decode prog_7_method_1_code 21 = .ok (.newarray .int, 2) := by decide +kernel
theorem dk_6_23 : decode prog_7_method_1_code 23 = .ok (.putfield 19, 3) := by decide +kernel
theorem dk_6_26 : decode prog_7_method_1_code 26 = .ok (.return_, 1) := by decide +kernel
theorem dk_7_0 : decode prog_9_method_1_code 0 = .ok (.aload_n 0, 1) := by decide +kernel
theorem dk_7_1 : decode prog_9_method_1_code 1 = .ok (.invokespecial 1, 3) := by decide +kernel
theorem dk_7_4 : decode prog_9_method_1_code 4 = .ok (.aload_n 0, 1) := by decide +kernel
theorem dk_7_5 : decode prog_9_method_1_code 5 = .ok (.sipush 592, 3) := by decide +kernel
theorem dk_7_8 : decode prog_9_method_1_code 8 = .ok (.newarray .int, 2) := by decide +kernel
theorem dk_7_10 : decode prog_9_method_1_code 10 = .ok (.putfield 7, 3) := by decide +kernel
theorem dk_7_13 : decode prog_9_method_1_code 13 = .ok (.aload_n 0, 1) := by decide +kernel
theorem dk_7_14 : decode prog_9_method_1_code 14 = .ok (.sipush 592, 3) := by decide +kernel
theorem dk_7_17 : decode prog_9_method_1_code 17 = .ok (.newarray .int, 2) := by decide +kernel
theorem dk_7_19 : decode prog_9_method_1_code 19 = .ok (.putfield 13, 3) := by decide +kernel
theorem dk_7_22 : decode prog_9_method_1_code 22 = .ok (.aload_n 0, 1) := by decide +kernel
theorem dk_7_23 : decode prog_9_method_1_code 23 = .ok (.sipush 9472, 3) := by decide +kernel
theorem dk_7_26 : decode prog_9_method_1_code 26 = .ok (.newarray .int, 2) := by decide +kernel
theorem dk_7_28 : decode prog_9_method_1_code 28 = .ok (.putfield 16, 3) := by decide +kernel
theorem dk_7_31 : decode prog_9_method_1_code 31 = .ok (.aload_n 0, 1) := by decide +kernel
theorem dk_7_32 : decode prog_9_method_1_code 32 = .ok (.bipush 16, 2) := by decide +kernel
theorem dk_7_34 : decode prog_9_method_1_code 34 = .ok (.newarray .int, 2) := by decide +kernel
theorem dk_7_36 : decode prog_9_method_1_code 36 = .ok (.putfield 19, 3) := by decide +kernel
theorem dk_7_39 : decode prog_9_method_1_code 39 = .ok (.aload_n 0, 1) := by decide +kernel
theorem dk_7_40 : decode prog_9_method_1_code 40 = .ok (.sipush 240, 3) := by decide +kernel
theorem dk_7_43 : decode prog_9_method_1_code 43 = .ok (.newarray .int, 2) := by decide +kernel
theorem dk_7_45 : decode prog_9_method_1_code 45 = .ok (.putfield 22, 3) := by decide +kernel
theorem dk_7_48 : decode prog_9_method_1_code 48 = .ok (.aload_n 0, 1) := by decide +kernel
theorem dk_7_49 : decode prog_9_method_1_code 49 = .ok (.sipush 240, 3) := by decide +kernel
theorem dk_7_52 : decode prog_9_method_1_code 52 = .ok (.newarray .int, 2) := by decide +kernel
theorem dk_7_54 : decode prog_9_method_1_code 54 = .ok (.putfield 25, 3) := by decide +kernel
theorem dk_7_57 : decode prog_9_method_1_code 57 = .ok (.aload_n 0, 1) := by decide +kernel
theorem dk_7_58 : decode prog_9_method_1_code 58 = .ok (.sipush 240, 3) := by decide +kernel
theorem dk_7_61 : decode prog_9_method_1_code 61 = .ok (.newarray .int, 2) := by decide +kernel
theorem dk_7_63 : decode prog_9_method_1_code 63 = .ok (.putfield 28, 3) := by decide +kernel
theorem dk_7_66 : decode prog_9_method_1_code 66 = .ok (.aload_n 0, 1) := by decide +kernel
theorem dk_7_67 : decode prog_9_method_1_code 67 = .ok (.sipush 240, 3) := by decide +kernel
theorem dk_7_70 : decode prog_9_method_1_code 70 = .ok (.newarray .boolean, 2) := by decide +kernel
theorem dk_7_72 : decode prog_9_method_1_code 72 = .ok (.putfield 31, 3) := by decide +kernel
theorem dk_7_75 : decode prog_9_method_1_code 75 = .ok (.aload_n 0, 1) := by decide +kernel
theorem dk_7_76 : decode prog_9_method_1_code 76 = .ok (.sipush 240, 3) := by decide +kernel
theorem dk_7_79 : decode prog_9_method_1_code 79 = .ok (.newarray .int, 2) := by decide +kernel
theorem dk_7_81 : decode prog_9_method_1_code 81 = .ok (.putfield 35, 3) := by decide +kernel
theorem dk_7_84 : decode prog_9_method_1_code 84 = .ok (.aload_n 0, 1) := by decide +kernel
theorem dk_7_85 : decode prog_9_method_1_code 85 = .ok (.sipush 400, 3) := by decide +kernel
theorem dk_7_88 : decode prog_9_method_1_code 88 = .ok (.newarray .int, 2) := by decide +kernel
theorem dk_7_90 : decode prog_9_method_1_code 90 = .ok (.putfield 38, 3) := by decide +kernel
theorem dk_7_93 : decode prog_9_method_1_code 93 = .ok (.aload_n 0, 1) := by decide +kernel
theorem dk_7_94 : decode prog_9_method_1_code 94 = .ok (.bipush 120, 2) := by decide +kernel
theorem dk_7_96 : decode prog_9_method_1_code 96 = .ok (.newarray .int, 2) := by decide +kernel
theorem dk_7_98 : decode prog_9_method_1_code 98 = .ok (.putfield 41, 3) := by decide +kernel
theorem dk_7_101 : decode prog_9_method_1_code 101 = .ok (.aload_n 0, 1) := by decide +kernel
theorem dk_7_102 : decode prog_9_method_1_code 102 = .ok (.bipush 16, 2) := by decide +kernel
theorem dk_7_104 : decode prog_9_method_1_code 104 = .ok (.newarray .int, 2) := by decide +kernel
theorem dk_7_106 : decode prog_9_method_1_code 106 = .ok (.putfield 44, 3) := by decide +kernel
theorem dk_7_109 : decode prog_9_method_1_code 109 = .ok (.aload_n 0, 1) := by decide +kernel
theorem dk_7_110 : decode prog_9_method_1_code 110 = .ok (.getfield 7, 3) := by decide +kernel
theorem dk_7_113 : decode prog_9_method_1_code 113 = .ok (.iconst 2, 1) := by decide +kernel
theorem dk_7_114 : decode prog_9_method_1_code 114 = .ok (.iconst 1, 1) := by decide +kernel
theorem dk_7_115 : decode prog_9_method_1_code 115 = .ok (.iastore, 1) := by decide +kernel
theorem dk_7_116 : decode prog_9_method_1_code 116 = .ok (.aload_n 0, 1) := by decide +kernel
theorem dk_7_117 : decode prog_9_method_1_code 117 = .ok (.invokevirtual 47, 3) := by decide +kernel
theorem dk_7_120 : decode prog_9_method_1_code 120 = .ok (.return_, 1) := by decide +kernel
