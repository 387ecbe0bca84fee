/-! constructors: names, rows, words -/
abbrev cX0 : ByteArray := prog_2_method_1_code
def yX0 : MethodName := ⟨"ThinVolumes$Difference", "<init>", "()V"⟩
theorem zX0_0 : decode cX0 0 = .ok (.aload_n 0, 1) := by decide +kernel
theorem zX0_1 : decode cX0 1 = .ok (.invokespecial 3, 3) := by decide +kernel
theorem zX0_4 : decode cX0 4 = .ok (.aload_n 0, 1) := by decide +kernel
theorem zX0_5 : decode cX0 5 = .ok (.sipush 512, 3) := by decide +kernel
theorem zX0_8 : decode cX0 8 = .ok (.newarray .int, 2) := by decide +kernel
theorem zX0_10 : decode cX0 10 = .ok (.putfield 9, 3) := by decide +kernel
theorem zX0_13 : decode cX0 13 = .ok (.return_, 1) := by decide +kernel
set_option maxRecDepth 20000 in
theorem wX0_code : Cond.code yX0 cX0 1 none ∈ am_gd := gd_mem (List.mem_append_right _ (List.mem_append_left _ (List.mem_of_getElem? (i := 147) rfl))) rfl
theorem wX0_in : Cond.instanceMethod yX0 ∈ am_gd := gd_mem (List.mem_of_getElem? (i := 248) (by decide +kernel)) rfl
theorem wX0_ob : Cond.methodLink "ThinVolumes$Difference" 3 Lib.objectInit ∈ am_gd := gd_mem (List.mem_of_getElem? (i := 250) (by decide +kernel)) rfl
abbrev cX1 : ByteArray := prog_3_method_1_code
def yX1 : MethodName := ⟨"ThinVolumes$Past", "<init>", "()V"⟩
theorem zX1_0 : decode cX1 0 = .ok (.aload_n 0, 1) := by decide +kernel
theorem zX1_1 : decode cX1 1 = .ok (.invokespecial 3, 3) := by decide +kernel
theorem zX1_4 : decode cX1 4 = .ok (.aload_n 0, 1) := by decide +kernel
theorem zX1_5 : decode cX1 5 = .ok (.bipush 16, 2) := by decide +kernel
theorem zX1_7 : decode cX1 7 = .ok (.anewarray 9, 3) := by decide +kernel
theorem zX1_10 : decode cX1 10 = .ok (.putfield 11, 3) := by decide +kernel
theorem zX1_13 : decode cX1 13 = .ok (.iconst 0, 1) := by decide +kernel
theorem zX1_14 : decode cX1 14 = .ok (.istore_n 1, 1) := by decide +kernel
theorem zX1_15 : decode cX1 15 = .ok (.iload_n 1, 1) := by decide +kernel
theorem zX1_16 : decode cX1 16 = .ok (.bipush 16, 2) := by decide +kernel
theorem zX1_18 : decode cX1 18 = .ok (.if_icmp .ge 22, 3) := by decide +kernel
theorem zX1_21 : decode cX1 21 = .ok (.aload_n 0, 1) := by decide +kernel
theorem zX1_22 : decode cX1 22 = .ok (.getfield 11, 3) := by decide +kernel
theorem zX1_25 : decode cX1 25 = .ok (.iload_n 1, 1) := by decide +kernel
theorem zX1_26 : decode cX1 26 = .ok (.new 9, 3) := by decide +kernel
theorem zX1_29 : decode cX1 29 = .ok (.dup, 1) := by decide +kernel
theorem zX1_30 : decode cX1 30 = .ok (.invokespecial 17, 3) := by decide +kernel
theorem zX1_33 : decode cX1 33 = .ok (.aastore, 1) := by decide +kernel
theorem zX1_34 : decode cX1 34 = .ok (.iinc 1 1, 3) := by decide +kernel
theorem zX1_37 : decode cX1 37 = .ok (.goto (-22), 3) := by decide +kernel
theorem zX1_40 : decode cX1 40 = .ok (.return_, 1) := by decide +kernel
set_option maxRecDepth 20000 in
theorem wX1_code : Cond.code yX1 cX1 2 none ∈ am_gd := gd_mem (List.mem_append_right _ (List.mem_append_left _ (List.mem_of_getElem? (i := 109) rfl))) rfl
theorem wX1_in : Cond.instanceMethod yX1 ∈ am_gd := gd_mem (List.mem_of_getElem? (i := 210) (by decide +kernel)) rfl
theorem wX1_ob : Cond.methodLink "ThinVolumes$Past" 3 Lib.objectInit ∈ am_gd := gd_mem (List.mem_of_getElem? (i := 212) (by decide +kernel)) rfl
abbrev cX2 : ByteArray := prog_4_method_1_code
def yX2 : MethodName := ⟨"ThinVolumes$Pool", "<init>", "()V"⟩
theorem zX2_0 : decode cX2 0 = .ok (.aload_n 0, 1) := by decide +kernel
theorem zX2_1 : decode cX2 1 = .ok (.invokespecial 3, 3) := by decide +kernel
theorem zX2_4 : decode cX2 4 = .ok (.aload_n 0, 1) := by decide +kernel
theorem zX2_5 : decode cX2 5 = .ok (.bipush 96, 2) := by decide +kernel
theorem zX2_7 : decode cX2 7 = .ok (.newarray .int, 2) := by decide +kernel
theorem zX2_9 : decode cX2 9 = .ok (.putfield 9, 3) := by decide +kernel
theorem zX2_12 : decode cX2 12 = .ok (.aload_n 0, 1) := by decide +kernel
theorem zX2_13 : decode cX2 13 = .ok (.sipush 256, 3) := by decide +kernel
theorem zX2_16 : decode cX2 16 = .ok (.newarray .int, 2) := by decide +kernel
theorem zX2_18 : decode cX2 18 = .ok (.putfield 15, 3) := by decide +kernel
theorem zX2_21 : decode cX2 21 = .ok (.aload_n 0, 1) := by decide +kernel
theorem zX2_22 : decode cX2 22 = .ok (.sipush 160, 3) := by decide +kernel
theorem zX2_25 : decode cX2 25 = .ok (.newarray .int, 2) := by decide +kernel
theorem zX2_27 : decode cX2 27 = .ok (.putfield 18, 3) := by decide +kernel
theorem zX2_30 : decode cX2 30 = .ok (.aload_n 0, 1) := by decide +kernel
theorem zX2_31 : decode cX2 31 = .ok (.sipush 1280, 3) := by decide +kernel
theorem zX2_34 : decode cX2 34 = .ok (.newarray .int, 2) := by decide +kernel
theorem zX2_36 : decode cX2 36 = .ok (.putfield 21, 3) := by decide +kernel
theorem zX2_39 : decode cX2 39 = .ok (.return_, 1) := by decide +kernel
set_option maxRecDepth 20000 in
theorem wX2_code : Cond.code yX2 cX2 1 none ∈ am_gd := gd_mem (List.mem_append_right _ (List.mem_append_left _ (List.mem_of_getElem? (i := 32) rfl))) rfl
theorem wX2_in : Cond.instanceMethod yX2 ∈ am_gd := gd_mem (List.mem_of_getElem? (i := 133) (by decide +kernel)) rfl
theorem wX2_ob : Cond.methodLink "ThinVolumes$Pool" 3 Lib.objectInit ∈ am_gd := gd_mem (List.mem_of_getElem? (i := 135) (by decide +kernel)) rfl
abbrev cX3 : ByteArray := prog_5_method_1_code
def yX3 : MethodName := ⟨"ThinVolumes$Rows", "<init>", "(I)V"⟩
theorem zX3_0 : decode cX3 0 = .ok (.aload_n 0, 1) := by decide +kernel
theorem zX3_1 : decode cX3 1 = .ok (.invokespecial 3, 3) := by decide +kernel
theorem zX3_4 : decode cX3 4 = .ok (.aload_n 0, 1) := by decide +kernel
theorem zX3_5 : decode cX3 5 = .ok (.iload_n 1, 1) := by decide +kernel
theorem zX3_6 : decode cX3 6 = .ok (.iconst 0, 1) := by decide +kernel
theorem zX3_7 : decode cX3 7 = .ok (.invokestatic 9, 3) := by decide +kernel
theorem zX3_10 : decode cX3 10 = .ok (.newarray .int, 2) := by decide +kernel
theorem zX3_12 : decode cX3 12 = .ok (.putfield 15, 3) := by decide +kernel
theorem zX3_15 : decode cX3 15 = .ok (.aload_n 0, 1) := by decide +kernel
theorem zX3_16 : decode cX3 16 = .ok (.iload_n 1, 1) := by decide +kernel
theorem zX3_17 : decode cX3 17 = .ok (.iconst 0, 1) := by decide +kernel
theorem zX3_18 : decode cX3 18 = .ok (.invokestatic 9, 3) := by decide +kernel
theorem zX3_21 : decode cX3 21 = .ok (.newarray .int, 2) := by decide +kernel
theorem zX3_23 : decode cX3 23 = .ok (.putfield 21, 3) := by decide +kernel
theorem zX3_26 : decode cX3 26 = .ok (.return_, 1) := by decide +kernel
set_option maxRecDepth 20000 in
theorem wX3_code : Cond.code yX3 cX3 2 none ∈ am_gd := gd_mem (List.mem_append_right _ (List.mem_append_left _ (List.mem_of_getElem? (i := 126) rfl))) rfl
theorem wX3_in : Cond.instanceMethod yX3 ∈ am_gd := gd_mem (List.mem_of_getElem? (i := 227) (by decide +kernel)) rfl
theorem wX3_ob : Cond.methodLink "ThinVolumes$Rows" 3 Lib.objectInit ∈ am_gd := gd_mem (List.mem_of_getElem? (i := 229) (by decide +kernel)) rfl
abbrev cX4 : ByteArray := prog_6_method_1_code
def yX4 : MethodName := ⟨"ThinVolumes$State", "<init>", "()V"⟩
theorem zX4_0 : decode cX4 0 = .ok (.aload_n 0, 1) := by decide +kernel
theorem zX4_1 : decode cX4 1 = .ok (.invokespecial 3, 3) := by decide +kernel
theorem zX4_4 : decode cX4 4 = .ok (.aload_n 0, 1) := by decide +kernel
theorem zX4_5 : decode cX4 5 = .ok (.new 9, 3) := by decide +kernel
theorem zX4_8 : decode cX4 8 = .ok (.dup, 1) := by decide +kernel
theorem zX4_9 : decode cX4 9 = .ok (.invokespecial 11, 3) := by decide +kernel
theorem zX4_12 : decode cX4 12 = .ok (.putfield 12, 3) := by decide +kernel
theorem zX4_15 : decode cX4 15 = .ok (.aload_n 0, 1) := by decide +kernel
theorem zX4_16 : decode cX4 16 = .ok (.bipush 12, 2) := by decide +kernel
theorem zX4_18 : decode cX4 18 = .ok (.newarray .int, 2) := by decide +kernel
theorem zX4_20 : decode cX4 20 = .ok (.putfield 18, 3) := by decide +kernel
theorem zX4_23 : decode cX4 23 = .ok (.aload_n 0, 1) := by decide +kernel
theorem zX4_24 : decode cX4 24 = .ok (.bipush 12, 2) := by decide +kernel
theorem zX4_26 : decode cX4 26 = .ok (.newarray .int, 2) := by decide +kernel
theorem zX4_28 : decode cX4 28 = .ok (.putfield 22, 3) := by decide +kernel
theorem zX4_31 : decode cX4 31 = .ok (.aload_n 0, 1) := by decide +kernel
theorem zX4_32 : decode cX4 32 = .ok (.bipush 12, 2) := by decide +kernel
theorem zX4_34 : decode cX4 34 = .ok (.newarray .boolean, 2) := by decide +kernel
theorem zX4_36 : decode cX4 36 = .ok (.putfield 25, 3) := by decide +kernel
theorem zX4_39 : decode cX4 39 = .ok (.aload_n 0, 1) := by decide +kernel
theorem zX4_40 : decode cX4 40 = .ok (.bipush 12, 2) := by decide +kernel
theorem zX4_42 : decode cX4 42 = .ok (.newarray .int, 2) := by decide +kernel
theorem zX4_44 : decode cX4 44 = .ok (.putfield 29, 3) := by decide +kernel
theorem zX4_47 : decode cX4 47 = .ok (.aload_n 0, 1) := by decide +kernel
theorem zX4_48 : decode cX4 48 = .ok (.bipush 12, 2) := by decide +kernel
theorem zX4_50 : decode cX4 50 = .ok (.newarray .int, 2) := by decide +kernel
theorem zX4_52 : decode cX4 52 = .ok (.putfield 32, 3) := by decide +kernel
theorem zX4_55 : decode cX4 55 = .ok (.aload_n 0, 1) := by decide +kernel
theorem zX4_56 : decode cX4 56 = .ok (.bipush 12, 2) := by decide +kernel
theorem zX4_58 : decode cX4 58 = .ok (.newarray .int, 2) := by decide +kernel
theorem zX4_60 : decode cX4 60 = .ok (.putfield 35, 3) := by decide +kernel
theorem zX4_63 : decode cX4 63 = .ok (.aload_n 0, 1) := by decide +kernel
theorem zX4_64 : decode cX4 64 = .ok (.bipush 12, 2) := by decide +kernel
theorem zX4_66 : decode cX4 66 = .ok (.newarray .int, 2) := by decide +kernel
theorem zX4_68 : decode cX4 68 = .ok (.putfield 38, 3) := by decide +kernel
theorem zX4_71 : decode cX4 71 = .ok (.aload_n 0, 1) := by decide +kernel
theorem zX4_72 : decode cX4 72 = .ok (.bipush 12, 2) := by decide +kernel
theorem zX4_74 : decode cX4 74 = .ok (.newarray .int, 2) := by decide +kernel
theorem zX4_76 : decode cX4 76 = .ok (.putfield 41, 3) := by decide +kernel
theorem zX4_79 : decode cX4 79 = .ok (.aload_n 0, 1) := by decide +kernel
theorem zX4_80 : decode cX4 80 = .ok (.getfield 29, 3) := by decide +kernel
theorem zX4_83 : decode cX4 83 = .ok (.iconst (-1), 1) := by decide +kernel
theorem zX4_84 : decode cX4 84 = .ok (.invokestatic 44, 3) := by decide +kernel
theorem zX4_87 : decode cX4 87 = .ok (.aload_n 0, 1) := by decide +kernel
theorem zX4_88 : decode cX4 88 = .ok (.getfield 38, 3) := by decide +kernel
theorem zX4_91 : decode cX4 91 = .ok (.iconst (-1), 1) := by decide +kernel
theorem zX4_92 : decode cX4 92 = .ok (.invokestatic 44, 3) := by decide +kernel
theorem zX4_95 : decode cX4 95 = .ok (.return_, 1) := by decide +kernel
set_option maxRecDepth 20000 in
theorem wX4_code : Cond.code yX4 cX4 1 none ∈ am_gd := gd_mem (List.mem_append_right _ (List.mem_append_left _ (List.mem_of_getElem? (i := 26) rfl))) rfl
theorem wX4_in : Cond.instanceMethod yX4 ∈ am_gd := gd_mem (List.mem_of_getElem? (i := 127) (by decide +kernel)) rfl
theorem wX4_ob : Cond.methodLink "ThinVolumes$State" 3 Lib.objectInit ∈ am_gd := gd_mem (List.mem_of_getElem? (i := 129) (by decide +kernel)) rfl
abbrev cX5 : ByteArray := prog_1_method_1_code
def yX5 : MethodName := ⟨"ThinVolumes", "<init>", "()V"⟩
theorem zX5_0 : decode cX5 0 = .ok (.aload_n 0, 1) := by decide +kernel
theorem zX5_1 : decode cX5 1 = .ok (.invokespecial 3, 3) := by decide +kernel
theorem zX5_4 : decode cX5 4 = .ok (.aload_n 0, 1) := by decide +kernel
theorem zX5_5 : decode cX5 5 = .ok (.new 9, 3) := by decide +kernel
theorem zX5_8 : decode cX5 8 = .ok (.dup, 1) := by decide +kernel
theorem zX5_9 : decode cX5 9 = .ok (.invokespecial 11, 3) := by decide +kernel
theorem zX5_12 : decode cX5 12 = .ok (.putfield 12, 3) := by decide +kernel
theorem zX5_15 : decode cX5 15 = .ok (.aload_n 0, 1) := by decide +kernel
theorem zX5_16 : decode cX5 16 = .ok (.new 9, 3) := by decide +kernel
theorem zX5_19 : decode cX5 19 = .ok (.dup, 1) := by decide +kernel
theorem zX5_20 : decode cX5 20 = .ok (.invokespecial 11, 3) := by decide +kernel
theorem zX5_23 : decode cX5 23 = .ok (.putfield 16, 3) := by decide +kernel
theorem zX5_26 : decode cX5 26 = .ok (.aload_n 0, 1) := by decide +kernel
theorem zX5_27 : decode cX5 27 = .ok (.new 19, 3) := by decide +kernel
theorem zX5_30 : decode cX5 30 = .ok (.dup, 1) := by decide +kernel
theorem zX5_31 : decode cX5 31 = .ok (.invokespecial 21, 3) := by decide +kernel
theorem zX5_34 : decode cX5 34 = .ok (.putfield 22, 3) := by decide +kernel
theorem zX5_37 : decode cX5 37 = .ok (.aload_n 0, 1) := by decide +kernel
theorem zX5_38 : decode cX5 38 = .ok (.new 9, 3) := by decide +kernel
theorem zX5_41 : decode cX5 41 = .ok (.dup, 1) := by decide +kernel
theorem zX5_42 : decode cX5 42 = .ok (.invokespecial 11, 3) := by decide +kernel
theorem zX5_45 : decode cX5 45 = .ok (.putfield 26, 3) := by decide +kernel
theorem zX5_48 : decode cX5 48 = .ok (.aload_n 0, 1) := by decide +kernel
theorem zX5_49 : decode cX5 49 = .ok (.new 19, 3) := by decide +kernel
theorem zX5_52 : decode cX5 52 = .ok (.dup, 1) := by decide +kernel
theorem zX5_53 : decode cX5 53 = .ok (.invokespecial 21, 3) := by decide +kernel
theorem zX5_56 : decode cX5 56 = .ok (.putfield 29, 3) := by decide +kernel
theorem zX5_59 : decode cX5 59 = .ok (.aload_n 0, 1) := by decide +kernel
theorem zX5_60 : decode cX5 60 = .ok (.new 32, 3) := by decide +kernel
theorem zX5_63 : decode cX5 63 = .ok (.dup, 1) := by decide +kernel
theorem zX5_64 : decode cX5 64 = .ok (.sipush 512, 3) := by decide +kernel
theorem zX5_67 : decode cX5 67 = .ok (.invokespecial 34, 3) := by decide +kernel
theorem zX5_70 : decode cX5 70 = .ok (.putfield 37, 3) := by decide +kernel
theorem zX5_73 : decode cX5 73 = .ok (.aload_n 0, 1) := by decide +kernel
theorem zX5_74 : decode cX5 74 = .ok (.new 32, 3) := by decide +kernel
theorem zX5_77 : decode cX5 77 = .ok (.dup, 1) := by decide +kernel
theorem zX5_78 : decode cX5 78 = .ok (.bipush 16, 2) := by decide +kernel
theorem zX5_80 : decode cX5 80 = .ok (.invokespecial 34, 3) := by decide +kernel
theorem zX5_83 : decode cX5 83 = .ok (.putfield 41, 3) := by decide +kernel
theorem zX5_86 : decode cX5 86 = .ok (.aload_n 0, 1) := by decide +kernel
theorem zX5_87 : decode cX5 87 = .ok (.new 44, 3) := by decide +kernel
theorem zX5_90 : decode cX5 90 = .ok (.dup, 1) := by decide +kernel
theorem zX5_91 : decode cX5 91 = .ok (.invokespecial 46, 3) := by decide +kernel
theorem zX5_94 : decode cX5 94 = .ok (.putfield 47, 3) := by decide +kernel
theorem zX5_97 : decode cX5 97 = .ok (.aload_n 0, 1) := by decide +kernel
theorem zX5_98 : decode cX5 98 = .ok (.sipush 256, 3) := by decide +kernel
theorem zX5_101 : decode cX5 101 = .ok (.newarray .int, 2) := by decide +kernel
theorem zX5_103 : decode cX5 103 = .ok (.putfield 51, 3) := by decide +kernel
theorem zX5_106 : decode cX5 106 = .ok (.return_, 1) := by decide +kernel
set_option maxRecDepth 20000 in
theorem wX5_code : Cond.code yX5 cX5 1 none ∈ am_gd := gd_mem (List.mem_append_right _ (List.mem_append_left _ (List.mem_of_getElem? (i := 18) rfl))) rfl
theorem wX5_in : Cond.instanceMethod yX5 ∈ am_gd := gd_mem (List.mem_of_getElem? (i := 119) (by decide +kernel)) rfl
theorem wX5_ob : Cond.methodLink "ThinVolumes" 3 Lib.objectInit ∈ am_gd := gd_mem (List.mem_of_getElem? (i := 121) (by decide +kernel)) rfl
abbrev cX6 : ByteArray := prog_8_method_1_code
def yX6 : MethodName := ⟨"ThinVolumesModel", "<init>", "()V"⟩
theorem zX6_0 : decode cX6 0 = .ok (.aload_n 0, 1) := by decide +kernel
theorem zX6_1 : decode cX6 1 = .ok (.invokespecial 1, 3) := by decide +kernel
theorem zX6_4 : decode cX6 4 = .ok (.aload_n 0, 1) := by decide +kernel
theorem zX6_5 : decode cX6 5 = .ok (.sipush 32336, 3) := by decide +kernel
theorem zX6_8 : decode cX6 8 = .ok (.newarray .int, 2) := by decide +kernel
theorem zX6_10 : decode cX6 10 = .ok (.putfield 7, 3) := by decide +kernel
theorem zX6_13 : decode cX6 13 = .ok (.aload_n 0, 1) := by decide +kernel
theorem zX6_14 : decode cX6 14 = .ok (.sipush 32336, 3) := by decide +kernel
theorem zX6_17 : decode cX6 17 = .ok (.newarray .int, 2) := by decide +kernel
theorem zX6_19 : decode cX6 19 = .ok (.putfield 13, 3) := by decide +kernel
theorem zX6_22 : decode cX6 22 = .ok (.aload_n 0, 1) := by decide +kernel
theorem zX6_23 : decode cX6 23 = .ok (.sipush 1902, 3) := by decide +kernel
theorem zX6_26 : decode cX6 26 = .ok (.newarray .int, 2) := by decide +kernel
theorem zX6_28 : decode cX6 28 = .ok (.putfield 16, 3) := by decide +kernel
theorem zX6_31 : decode cX6 31 = .ok (.aload_n 0, 1) := by decide +kernel
theorem zX6_32 : decode cX6 32 = .ok (.bipush 96, 2) := by decide +kernel
theorem zX6_34 : decode cX6 34 = .ok (.newarray .int, 2) := by decide +kernel
theorem zX6_36 : decode cX6 36 = .ok (.putfield 19, 3) := by decide +kernel
theorem zX6_39 : decode cX6 39 = .ok (.aload_n 0, 1) := by decide +kernel
theorem zX6_40 : decode cX6 40 = .ok (.sipush 160, 3) := by decide +kernel
theorem zX6_43 : decode cX6 43 = .ok (.newarray .int, 2) := by decide +kernel
theorem zX6_45 : decode cX6 45 = .ok (.putfield 22, 3) := by decide +kernel
theorem zX6_48 : decode cX6 48 = .ok (.aload_n 0, 1) := by decide +kernel
theorem zX6_49 : decode cX6 49 = .ok (.bipush 96, 2) := by decide +kernel
theorem zX6_51 : decode cX6 51 = .ok (.newarray .int, 2) := by decide +kernel
theorem zX6_53 : decode cX6 53 = .ok (.putfield 25, 3) := by decide +kernel
theorem zX6_56 : decode cX6 56 = .ok (.aload_n 0, 1) := by decide +kernel
theorem zX6_57 : decode cX6 57 = .ok (.sipush 160, 3) := by decide +kernel
theorem zX6_60 : decode cX6 60 = .ok (.newarray .int, 2) := by decide +kernel
theorem zX6_62 : decode cX6 62 = .ok (.putfield 28, 3) := by decide +kernel
theorem zX6_65 : decode cX6 65 = .ok (.aload_n 0, 1) := by decide +kernel
theorem zX6_66 : decode cX6 66 = .ok (.sipush 512, 3) := by decide +kernel
theorem zX6_69 : decode cX6 69 = .ok (.newarray .int, 2) := by decide +kernel
theorem zX6_71 : decode cX6 71 = .ok (.putfield 31, 3) := by decide +kernel
theorem zX6_74 : decode cX6 74 = .ok (.aload_n 0, 1) := by decide +kernel
theorem zX6_75 : decode cX6 75 = .ok (.sipush 512, 3) := by decide +kernel
theorem zX6_78 : decode cX6 78 = .ok (.newarray .int, 2) := by decide +kernel
theorem zX6_80 : decode cX6 80 = .ok (.putfield 34, 3) := by decide +kernel
theorem zX6_83 : decode cX6 83 = .ok (.aload_n 0, 1) := by decide +kernel
theorem zX6_84 : decode cX6 84 = .ok (.sipush 512, 3) := by decide +kernel
theorem zX6_87 : decode cX6 87 = .ok (.newarray .int, 2) := by decide +kernel
theorem zX6_89 : decode cX6 89 = .ok (.putfield 37, 3) := by decide +kernel
theorem zX6_92 : decode cX6 92 = .ok (.aload_n 0, 1) := by decide +kernel
theorem zX6_93 : decode cX6 93 = .ok (.bipush 16, 2) := by decide +kernel
theorem zX6_95 : decode cX6 95 = .ok (.newarray .int, 2) := by decide +kernel
theorem zX6_97 : decode cX6 97 = .ok (.putfield 40, 3) := by decide +kernel
theorem zX6_100 : decode cX6 100 = .ok (.aload_n 0, 1) := by decide +kernel
theorem zX6_101 : decode cX6 101 = .ok (.bipush 16, 2) := by decide +kernel
theorem zX6_103 : decode cX6 103 = .ok (.newarray .int, 2) := by decide +kernel
theorem zX6_105 : decode cX6 105 = .ok (.putfield 43, 3) := by decide +kernel
theorem zX6_108 : decode cX6 108 = .ok (.aload_n 0, 1) := by decide +kernel
theorem zX6_109 : decode cX6 109 = .ok (.getfield 7, 3) := by decide +kernel
theorem zX6_112 : decode cX6 112 = .ok (.aload_n 0, 1) := by decide +kernel
theorem zX6_113 : decode cX6 113 = .ok (.getfield 13, 3) := by decide +kernel
theorem zX6_116 : decode cX6 116 = .ok (.invokestatic 46, 3) := by decide +kernel
theorem zX6_119 : decode cX6 119 = .ok (.return_, 1) := by decide +kernel
set_option maxRecDepth 20000 in
theorem wX6_code : Cond.code yX6 cX6 1 none ∈ am_gd := gd_mem (List.mem_append_right _ (List.mem_append_right _ (List.mem_append_right _ (List.mem_append_right _ (List.mem_append_left _ (List.mem_of_getElem? (i := 167) rfl)))))) rfl
theorem wX6_in : Cond.instanceMethod yX6 ∈ am_gd := gd_mem (List.mem_of_getElem? (i := 988) (by decide +kernel)) rfl
theorem wX6_ob : Cond.methodLink "ThinVolumesModel" 1 Lib.objectInit ∈ am_gd := gd_mem (List.mem_of_getElem? (i := 990) (by decide +kernel)) rfl
abbrev cXf : ByteArray := prog_14_method_103_code
def yXf : MethodName := ⟨"java/util/Arrays", "fill", "([II)V"⟩
theorem zXf_0 : decode cXf 0 = .ok (.iconst 0, 1) := by decide +kernel
theorem zXf_1 : decode cXf 1 = .ok (.istore_n 2, 1) := by decide +kernel
theorem zXf_2 : decode cXf 2 = .ok (.aload_n 0, 1) := by decide +kernel
theorem zXf_3 : decode cXf 3 = .ok (.arraylength, 1) := by decide +kernel
theorem zXf_4 : decode cXf 4 = .ok (.istore_n 3, 1) := by decide +kernel
theorem zXf_5 : decode cXf 5 = .ok (.iload_n 2, 1) := by decide +kernel
theorem zXf_6 : decode cXf 6 = .ok (.iload_n 3, 1) := by decide +kernel
theorem zXf_7 : decode cXf 7 = .ok (.if_icmp .ge 13, 3) := by decide +kernel
theorem zXf_10 : decode cXf 10 = .ok (.aload_n 0, 1) := by decide +kernel
theorem zXf_11 : decode cXf 11 = .ok (.iload_n 2, 1) := by decide +kernel
theorem zXf_12 : decode cXf 12 = .ok (.iload_n 1, 1) := by decide +kernel
theorem zXf_13 : decode cXf 13 = .ok (.iastore, 1) := by decide +kernel
theorem zXf_14 : decode cXf 14 = .ok (.iinc 2 1, 3) := by decide +kernel
theorem zXf_17 : decode cXf 17 = .ok (.goto (-12), 3) := by decide +kernel
theorem zXf_20 : decode cXf 20 = .ok (.return_, 1) := by decide +kernel
set_option maxRecDepth 20000 in
theorem wXf_code : Cond.code yXf cXf 4 none ∈ am_gd := gd_mem (List.mem_append_right _ (List.mem_append_left _ (List.mem_of_getElem? (i := 52) rfl))) rfl
theorem wXf_st : Cond.static yXf ∈ am_gd := gd_mem (List.mem_of_getElem? (i := 153) (by decide +kernel)) rfl
abbrev cXc : ByteArray := prog_8_method_2_code
def yXc : MethodName := ⟨"ThinVolumesModel", "copy", "([I[I)V"⟩
theorem zXc_0 : decode cXc 0 = .ok (.iconst 0, 1) := by decide +kernel
theorem zXc_1 : decode cXc 1 = .ok (.istore_n 2, 1) := by decide +kernel
theorem zXc_2 : decode cXc 2 = .ok (.iload_n 2, 1) := by decide +kernel
theorem zXc_3 : decode cXc 3 = .ok (.sipush 32336, 3) := by decide +kernel
theorem zXc_6 : decode cXc 6 = .ok (.if_icmp .ge 15, 3) := by decide +kernel
theorem zXc_9 : decode cXc 9 = .ok (.aload_n 1, 1) := by decide +kernel
theorem zXc_10 : decode cXc 10 = .ok (.iload_n 2, 1) := by decide +kernel
theorem zXc_11 : decode cXc 11 = .ok (.aload_n 0, 1) := by decide +kernel
theorem zXc_12 : decode cXc 12 = .ok (.iload_n 2, 1) := by decide +kernel
theorem zXc_13 : decode cXc 13 = .ok (.iaload, 1) := by decide +kernel
theorem zXc_14 : decode cXc 14 = .ok (.iastore, 1) := by decide +kernel
theorem zXc_15 : decode cXc 15 = .ok (.iinc 2 1, 3) := by decide +kernel
theorem zXc_18 : decode cXc 18 = .ok (.goto (-16), 3) := by decide +kernel
theorem zXc_21 : decode cXc 21 = .ok (.return_, 1) := by decide +kernel
set_option maxRecDepth 20000 in
theorem wXc_code : Cond.code yXc cXc 3 none ∈ am_gd := gd_mem (List.mem_append_right _ (List.mem_append_right _ (List.mem_append_right _ (List.mem_append_right _ (List.mem_append_left _ (List.mem_of_getElem? (i := 171) rfl)))))) rfl
theorem wXc_st : Cond.static yXc ∈ am_gd := gd_mem (List.mem_of_getElem? (i := 992) (by decide +kernel)) rfl
theorem wOb_in : Cond.instanceMethod Lib.objectInit ∈ am_gd := gd_mem (List.mem_of_getElem? (i := 122) (by decide +kernel)) rfl
set_option maxRecDepth 20000 in
theorem wOb_code : Cond.code Lib.objectInit ⟨#[0xb1]⟩ 1 none ∈ am_gd := gd_mem (List.mem_append_right _ (List.mem_append_left _ (List.mem_of_getElem? (i := 21) rfl))) rfl
theorem wl_116 : Cond.classLink "ThinVolumesLaw" 7 "ThinVolumes" ∈ am_gd := gd_mem (List.mem_of_getElem? (i := 116) (by decide +kernel)) rfl
theorem wi_5 : Cond.instantiable "ThinVolumes" 9 ∈ am_gd := gd_mem (List.mem_of_getElem? (i := 117) (by decide +kernel)) rfl
theorem wm_118 : Cond.methodLink "ThinVolumesLaw" 9 yX5 ∈ am_gd := gd_mem (List.mem_of_getElem? (i := 118) (by decide +kernel)) rfl
theorem wl_124 : Cond.classLink "ThinVolumes" 9 "ThinVolumes$State" ∈ am_gd := gd_mem (List.mem_of_getElem? (i := 124) (by decide +kernel)) rfl
theorem wi_4 : Cond.instantiable "ThinVolumes$State" 12 ∈ am_gd := gd_mem (List.mem_of_getElem? (i := 125) (by decide +kernel)) rfl
theorem wm_126 : Cond.methodLink "ThinVolumes" 11 yX4 ∈ am_gd := gd_mem (List.mem_of_getElem? (i := 126) (by decide +kernel)) rfl
theorem wl_130 : Cond.classLink "ThinVolumes$State" 9 "ThinVolumes$Pool" ∈ am_gd := gd_mem (List.mem_of_getElem? (i := 130) (by decide +kernel)) rfl
theorem wi_2 : Cond.instantiable "ThinVolumes$Pool" 4 ∈ am_gd := gd_mem (List.mem_of_getElem? (i := 131) (by decide +kernel)) rfl
theorem wm_152 : Cond.methodLink "ThinVolumes$State" 44 yXf ∈ am_gd := gd_mem (List.mem_of_getElem? (i := 152) (by decide +kernel)) rfl
theorem wl_207 : Cond.classLink "ThinVolumes" 19 "ThinVolumes$Past" ∈ am_gd := gd_mem (List.mem_of_getElem? (i := 207) (by decide +kernel)) rfl
theorem wi_1 : Cond.instantiable "ThinVolumes$Past" 2 ∈ am_gd := gd_mem (List.mem_of_getElem? (i := 208) (by decide +kernel)) rfl
theorem wm_209 : Cond.methodLink "ThinVolumes" 21 yX1 ∈ am_gd := gd_mem (List.mem_of_getElem? (i := 209) (by decide +kernel)) rfl
theorem wl_213 : Cond.classLink "ThinVolumes$Past" 9 "ThinVolumes$State" ∈ am_gd := gd_mem (List.mem_of_getElem? (i := 213) (by decide +kernel)) rfl
theorem wm_215 : Cond.methodLink "ThinVolumes$Past" 17 yX4 ∈ am_gd := gd_mem (List.mem_of_getElem? (i := 215) (by decide +kernel)) rfl
theorem wl_224 : Cond.classLink "ThinVolumes" 32 "ThinVolumes$Rows" ∈ am_gd := gd_mem (List.mem_of_getElem? (i := 224) (by decide +kernel)) rfl
theorem wi_3 : Cond.instantiable "ThinVolumes$Rows" 3 ∈ am_gd := gd_mem (List.mem_of_getElem? (i := 225) (by decide +kernel)) rfl
theorem wm_226 : Cond.methodLink "ThinVolumes" 34 yX3 ∈ am_gd := gd_mem (List.mem_of_getElem? (i := 226) (by decide +kernel)) rfl
theorem wl_245 : Cond.classLink "ThinVolumes" 44 "ThinVolumes$Difference" ∈ am_gd := gd_mem (List.mem_of_getElem? (i := 245) (by decide +kernel)) rfl
theorem wi_0 : Cond.instantiable "ThinVolumes$Difference" 3 ∈ am_gd := gd_mem (List.mem_of_getElem? (i := 246) (by decide +kernel)) rfl
theorem wl_985 : Cond.classLink "ThinVolumesLaw" 10 "ThinVolumesModel" ∈ am_gd := gd_mem (List.mem_of_getElem? (i := 985) (by decide +kernel)) rfl
theorem wi_6 : Cond.instantiable "ThinVolumesModel" 20 ∈ am_gd := gd_mem (List.mem_of_getElem? (i := 986) (by decide +kernel)) rfl
theorem wm_987 : Cond.methodLink "ThinVolumesLaw" 12 yX6 ∈ am_gd := gd_mem (List.mem_of_getElem? (i := 987) (by decide +kernel)) rfl
theorem wm_991 : Cond.methodLink "ThinVolumesModel" 46 yXc ∈ am_gd := gd_mem (List.mem_of_getElem? (i := 991) (by decide +kernel)) rfl
