abbrev qc_M_init : ByteArray := prog_8_method_1_code
abbrev qy_M_init : MethodName := ⟨"TermOrdersModel", "<init>", "()V"⟩
abbrev qw_M_init : List Cond := (Jvm.Cond.code ({ cls := "TermOrdersModel", name := "<init>", desc := "()V" } : Jvm.MethodName) prog_8_method_1_code (1 : Nat) (Option.none : Option Jvm.ClassFile.FieldType)) :: gw
theorem qd_M_init_0 : decode qc_M_init 0 = .ok (.aload_n 0, 1) := by decide +kernel
theorem qd_M_init_1 : decode qc_M_init 1 = .ok (.invokespecial 1, 3) := by decide +kernel
theorem qd_M_init_4 : decode qc_M_init 4 = .ok (.aload_n 0, 1) := by decide +kernel
theorem qd_M_init_5 : decode qc_M_init 5 = .ok (.iconst 5, 1) := by decide +kernel
theorem qd_M_init_6 : decode qc_M_init 6 = .ok (.newarray .int, 2) := by decide +kernel
theorem qd_M_init_8 : decode qc_M_init 8 = .ok (.putfield 7, 3) := by decide +kernel
theorem qd_M_init_11 : decode qc_M_init 11 = .ok (.aload_n 0, 1) := by decide +kernel
theorem qd_M_init_12 : decode qc_M_init 12 = .ok (.iconst 5, 1) := by decide +kernel
theorem qd_M_init_13 : decode qc_M_init 13 = .ok (.newarray .int, 2) := by decide +kernel
theorem qd_M_init_15 : decode qc_M_init 15 = .ok (.putfield 13, 3) := by decide +kernel
theorem qd_M_init_18 : decode qc_M_init 18 = .ok (.aload_n 0, 1) := by decide +kernel
theorem qd_M_init_19 : decode qc_M_init 19 = .ok (.iconst 5, 1) := by decide +kernel
theorem qd_M_init_20 : decode qc_M_init 20 = .ok (.newarray .int, 2) := by decide +kernel
theorem qd_M_init_22 : decode qc_M_init 22 = .ok (.putfield 16, 3) := by decide +kernel
theorem qd_M_init_25 : decode qc_M_init 25 = .ok (.aload_n 0, 1) := by decide +kernel
theorem qd_M_init_26 : decode qc_M_init 26 = .ok (.sipush 2608, 3) := by decide +kernel
theorem qd_M_init_29 : decode qc_M_init 29 = .ok (.newarray .int, 2) := by decide +kernel
theorem qd_M_init_31 : decode qc_M_init 31 = .ok (.putfield 19, 3) := by decide +kernel
theorem qd_M_init_34 : decode qc_M_init 34 = .ok (.aload_n 0, 1) := by decide +kernel
theorem qd_M_init_35 : decode qc_M_init 35 = .ok (.sipush 163, 3) := by decide +kernel
theorem qd_M_init_38 : decode qc_M_init 38 = .ok (.newarray .int, 2) := by decide +kernel
theorem qd_M_init_40 : decode qc_M_init 40 = .ok (.putfield 22, 3) := by decide +kernel
theorem qd_M_init_43 : decode qc_M_init 43 = .ok (.aload_n 0, 1) := by decide +kernel
theorem qd_M_init_44 : decode qc_M_init 44 = .ok (.bipush 8, 2) := by decide +kernel
theorem qd_M_init_46 : decode qc_M_init 46 = .ok (.newarray .int, 2) := by decide +kernel
theorem qd_M_init_48 : decode qc_M_init 48 = .ok (.putfield 25, 3) := by decide +kernel
theorem qd_M_init_51 : decode qc_M_init 51 = .ok (.aload_n 0, 1) := by decide +kernel
theorem qd_M_init_52 : decode qc_M_init 52 = .ok (.bipush 8, 2) := by decide +kernel
theorem qd_M_init_54 : decode qc_M_init 54 = .ok (.newarray .int, 2) := by decide +kernel
theorem qd_M_init_56 : decode qc_M_init 56 = .ok (.putfield 28, 3) := by decide +kernel
theorem qd_M_init_59 : decode qc_M_init 59 = .ok (.aload_n 0, 1) := by decide +kernel
theorem qd_M_init_60 : decode qc_M_init 60 = .ok (.bipush 16, 2) := by decide +kernel
theorem qd_M_init_62 : decode qc_M_init 62 = .ok (.newarray .int, 2) := by decide +kernel
theorem qd_M_init_64 : decode qc_M_init 64 = .ok (.putfield 31, 3) := by decide +kernel
theorem qd_M_init_67 : decode qc_M_init 67 = .ok (.aload_n 0, 1) := by decide +kernel
theorem qd_M_init_68 : decode qc_M_init 68 = .ok (.bipush 32, 2) := by decide +kernel
theorem qd_M_init_70 : decode qc_M_init 70 = .ok (.newarray .int, 2) := by decide +kernel
theorem qd_M_init_72 : decode qc_M_init 72 = .ok (.putfield 34, 3) := by decide +kernel
theorem qd_M_init_75 : decode qc_M_init 75 = .ok (.aload_n 0, 1) := by decide +kernel
theorem qd_M_init_76 : decode qc_M_init 76 = .ok (.bipush 32, 2) := by decide +kernel
theorem qd_M_init_78 : decode qc_M_init 78 = .ok (.newarray .int, 2) := by decide +kernel
theorem qd_M_init_80 : decode qc_M_init 80 = .ok (.putfield 37, 3) := by decide +kernel
theorem qd_M_init_83 : decode qc_M_init 83 = .ok (.aload_n 0, 1) := by decide +kernel
theorem qd_M_init_84 : decode qc_M_init 84 = .ok (.sipush 256, 3) := by decide +kernel
theorem qd_M_init_87 : decode qc_M_init 87 = .ok (.newarray .boolean, 2) := by decide +kernel
theorem qd_M_init_89 : decode qc_M_init 89 = .ok (.putfield 40, 3) := by decide +kernel
theorem qd_M_init_92 : decode qc_M_init 92 = .ok (.aload_n 0, 1) := by decide +kernel
theorem qd_M_init_93 : decode qc_M_init 93 = .ok (.iconst 4, 1) := by decide +kernel
theorem qd_M_init_94 : decode qc_M_init 94 = .ok (.newarray .int, 2) := by decide +kernel
theorem qd_M_init_96 : decode qc_M_init 96 = .ok (.putfield 44, 3) := by decide +kernel
theorem qd_M_init_99 : decode qc_M_init 99 = .ok (.aload_n 0, 1) := by decide +kernel
theorem qd_M_init_100 : decode qc_M_init 100 = .ok (.iconst 5, 1) := by decide +kernel
theorem qd_M_init_101 : decode qc_M_init 101 = .ok (.newarray .int, 2) := by decide +kernel
theorem qd_M_init_103 : decode qc_M_init 103 = .ok (.putfield 47, 3) := by decide +kernel
theorem qd_M_init_106 : decode qc_M_init 106 = .ok (.return_, 1) := by decide +kernel
abbrev qc_M_thrown : ByteArray := prog_8_method_2_code
abbrev qy_M_thrown : MethodName := ⟨"TermOrdersModel", "thrown", "()I"⟩
abbrev qw_M_thrown : List Cond := (Jvm.Cond.code ({ cls := "TermOrdersModel", name := "thrown", desc := "()I" } : Jvm.MethodName) prog_8_method_2_code (1 : Nat) (Option.some Jvm.ClassFile.FieldType.int)) :: gw
theorem qd_M_thrown_0 : decode qc_M_thrown 0 = .ok (.aload_n 0, 1) := by decide +kernel
theorem qd_M_thrown_1 : decode qc_M_thrown 1 = .ok (.getfield 50, 3) := by decide +kernel
theorem qd_M_thrown_4 : decode qc_M_thrown 4 = .ok (.ireturn, 1) := by decide +kernel
abbrev qc_M_many : ByteArray := prog_8_method_3_code
abbrev qy_M_many : MethodName := ⟨"TermOrdersModel", "many", "(I)I"⟩
abbrev qw_M_many : List Cond := (Jvm.Cond.code ({ cls := "TermOrdersModel", name := "many", desc := "(I)I" } : Jvm.MethodName) prog_8_method_3_code (2 : Nat) (Option.some Jvm.ClassFile.FieldType.int)) :: gw
theorem qd_M_many_0 : decode qc_M_many 0 = .ok (.iload_n 1, 1) := by decide +kernel
theorem qd_M_many_1 : decode qc_M_many 1 = .ok (.ifCond .ge 7, 3) := by decide +kernel
theorem qd_M_many_4 : decode qc_M_many 4 = .ok (.iconst 0, 1) := by decide +kernel
theorem qd_M_many_5 : decode qc_M_many 5 = .ok (.goto 9, 3) := by decide +kernel
theorem qd_M_many_8 : decode qc_M_many 8 = .ok (.aload_n 0, 1) := by decide +kernel
theorem qd_M_many_9 : decode qc_M_many 9 = .ok (.getfield 7, 3) := by decide +kernel
theorem qd_M_many_12 : decode qc_M_many 12 = .ok (.iload_n 1, 1) := by decide +kernel
theorem qd_M_many_13 : decode qc_M_many 13 = .ok (.iaload, 1) := by decide +kernel
theorem qd_M_many_14 : decode qc_M_many 14 = .ok (.ireturn, 1) := by decide +kernel
abbrev qc_M_end : ByteArray := prog_8_method_4_code
abbrev qy_M_end : MethodName := ⟨"TermOrdersModel", "end", "(II)I"⟩
abbrev qw_M_end : List Cond := (Jvm.Cond.code ({ cls := "TermOrdersModel", name := "end", desc := "(II)I" } : Jvm.MethodName) prog_8_method_4_code (5 : Nat) (Option.some Jvm.ClassFile.FieldType.int)) :: gw
theorem qd_M_end_0 : decode qc_M_end 0 = .ok (.iconst 1, 1) := by decide +kernel
theorem qd_M_end_1 : decode qc_M_end 1 = .ok (.istore_n 3, 1) := by decide +kernel
theorem qd_M_end_2 : decode qc_M_end 2 = .ok (.iload_n 2, 1) := by decide +kernel
theorem qd_M_end_3 : decode qc_M_end 3 = .ok (.istore 4, 2) := by decide +kernel
theorem qd_M_end_5 : decode qc_M_end 5 = .ok (.iload_n 3, 1) := by decide +kernel
theorem qd_M_end_6 : decode qc_M_end 6 = .ok (.ifCond .le 27, 3) := by decide +kernel
theorem qd_M_end_9 : decode qc_M_end 9 = .ok (.iload_n 3, 1) := by decide +kernel
theorem qd_M_end_10 : decode qc_M_end 10 = .ok (.aload_n 0, 1) := by decide +kernel
theorem qd_M_end_11 : decode qc_M_end 11 = .ok (.aload_n 0, 1) := by decide +kernel
theorem qd_M_end_12 : decode qc_M_end 12 = .ok (.getfield 19, 3) := by decide +kernel
theorem qd_M_end_15 : decode qc_M_end 15 = .ok (.iload_n 1, 1) := by decide +kernel
theorem qd_M_end_16 : decode qc_M_end 16 = .ok (.iload 4, 2) := by decide +kernel
theorem qd_M_end_18 : decode qc_M_end 18 = .ok (.iadd, 1) := by decide +kernel
theorem qd_M_end_19 : decode qc_M_end 19 = .ok (.iaload, 1) := by decide +kernel
theorem qd_M_end_20 : decode qc_M_end 20 = .ok (.invokevirtual 54, 3) := by decide +kernel
theorem qd_M_end_23 : decode qc_M_end 23 = .ok (.iconst 1, 1) := by decide +kernel
theorem qd_M_end_24 : decode qc_M_end 24 = .ok (.isub, 1) := by decide +kernel
theorem qd_M_end_25 : decode qc_M_end 25 = .ok (.iadd, 1) := by decide +kernel
theorem qd_M_end_26 : decode qc_M_end 26 = .ok (.istore_n 3, 1) := by decide +kernel
theorem qd_M_end_27 : decode qc_M_end 27 = .ok (.iinc 4 1, 3) := by decide +kernel
theorem qd_M_end_30 : decode qc_M_end 30 = .ok (.goto (-25), 3) := by decide +kernel
theorem qd_M_end_33 : decode qc_M_end 33 = .ok (.iload 4, 2) := by decide +kernel
theorem qd_M_end_35 : decode qc_M_end 35 = .ok (.ireturn, 1) := by decide +kernel
abbrev qc_M_height : ByteArray := prog_8_method_5_code
abbrev qy_M_height : MethodName := ⟨"TermOrdersModel", "height", "(II)I"⟩
abbrev qw_M_height : List Cond := (Jvm.Cond.code ({ cls := "TermOrdersModel", name := "height", desc := "(II)I" } : Jvm.MethodName) prog_8_method_5_code (7 : Nat) (Option.some Jvm.ClassFile.FieldType.int)) :: gw
theorem qd_M_height_0 : decode qc_M_height 0 = .ok (.iload_n 2, 1) := by decide +kernel
theorem qd_M_height_1 : decode qc_M_height 1 = .ok (.iconst 1, 1) := by decide +kernel
theorem qd_M_height_2 : decode qc_M_height 2 = .ok (.isub, 1) := by decide +kernel
theorem qd_M_height_3 : decode qc_M_height 3 = .ok (.istore_n 3, 1) := by decide +kernel
theorem qd_M_height_4 : decode qc_M_height 4 = .ok (.iload_n 3, 1) := by decide +kernel
theorem qd_M_height_5 : decode qc_M_height 5 = .ok (.ifCond .lt 88, 3) := by decide +kernel
theorem qd_M_height_8 : decode qc_M_height 8 = .ok (.iconst (-1), 1) := by decide +kernel
theorem qd_M_height_9 : decode qc_M_height 9 = .ok (.istore 4, 2) := by decide +kernel
theorem qd_M_height_11 : decode qc_M_height 11 = .ok (.iload_n 3, 1) := by decide +kernel
theorem qd_M_height_12 : decode qc_M_height 12 = .ok (.iconst 1, 1) := by decide +kernel
theorem qd_M_height_13 : decode qc_M_height 13 = .ok (.iadd, 1) := by decide +kernel
theorem qd_M_height_14 : decode qc_M_height 14 = .ok (.istore 5, 2) := by decide +kernel
theorem qd_M_height_16 : decode qc_M_height 16 = .ok (.iconst 0, 1) := by decide +kernel
theorem qd_M_height_17 : decode qc_M_height 17 = .ok (.istore 6, 2) := by decide +kernel
theorem qd_M_height_19 : decode qc_M_height 19 = .ok (.iload 6, 2) := by decide +kernel
theorem qd_M_height_21 : decode qc_M_height 21 = .ok (.aload_n 0, 1) := by decide +kernel
theorem qd_M_height_22 : decode qc_M_height 22 = .ok (.aload_n 0, 1) := by decide +kernel
theorem qd_M_height_23 : decode qc_M_height 23 = .ok (.getfield 19, 3) := by decide +kernel
theorem qd_M_height_26 : decode qc_M_height 26 = .ok (.iload_n 1, 1) := by decide +kernel
theorem qd_M_height_27 : decode qc_M_height 27 = .ok (.iload_n 3, 1) := by decide +kernel
theorem qd_M_height_28 : decode qc_M_height 28 = .ok (.iadd, 1) := by decide +kernel
theorem qd_M_height_29 : decode qc_M_height 29 = .ok (.iaload, 1) := by decide +kernel
theorem qd_M_height_30 : decode qc_M_height 30 = .ok (.invokevirtual 54, 3) := by decide +kernel
theorem qd_M_height_33 : decode qc_M_height 33 = .ok (.if_icmp .ge 44, 3) := by decide +kernel
theorem qd_M_height_36 : decode qc_M_height 36 = .ok (.aload_n 0, 1) := by decide +kernel
theorem qd_M_height_37 : decode qc_M_height 37 = .ok (.getfield 31, 3) := by decide +kernel
theorem qd_M_height_40 : decode qc_M_height 40 = .ok (.iload 5, 2) := by decide +kernel
theorem qd_M_height_42 : decode qc_M_height 42 = .ok (.iaload, 1) := by decide +kernel
theorem qd_M_height_43 : decode qc_M_height 43 = .ok (.iload 4, 2) := by decide +kernel
theorem qd_M_height_45 : decode qc_M_height 45 = .ok (.if_icmp .le 13, 3) := by decide +kernel
theorem qd_M_height_48 : decode qc_M_height 48 = .ok (.aload_n 0, 1) := by decide +kernel
theorem qd_M_height_49 : decode qc_M_height 49 = .ok (.getfield 31, 3) := by decide +kernel
theorem qd_M_height_52 : decode qc_M_height 52 = .ok (.iload 5, 2) := by decide +kernel
theorem qd_M_height_54 : decode qc_M_height 54 = .ok (.iaload, 1) := by decide +kernel
theorem qd_M_height_55 : decode qc_M_height 55 = .ok (.goto 5, 3) := by decide +kernel
theorem qd_M_height_58 : decode qc_M_height 58 = .ok (.iload 4, 2) := by decide +kernel
theorem qd_M_height_60 : decode qc_M_height 60 = .ok (.istore 4, 2) := by decide +kernel
theorem qd_M_height_62 : decode qc_M_height 62 = .ok (.aload_n 0, 1) := by decide +kernel
theorem qd_M_height_63 : decode qc_M_height 63 = .ok (.iload_n 1, 1) := by decide +kernel
theorem qd_M_height_64 : decode qc_M_height 64 = .ok (.iload 5, 2) := by decide +kernel
theorem qd_M_height_66 : decode qc_M_height 66 = .ok (.invokevirtual 58, 3) := by decide +kernel
theorem qd_M_height_69 : decode qc_M_height 69 = .ok (.istore 5, 2) := by decide +kernel
theorem qd_M_height_71 : decode qc_M_height 71 = .ok (.iinc 6 1, 3) := by decide +kernel
theorem qd_M_height_74 : decode qc_M_height 74 = .ok (.goto (-55), 3) := by decide +kernel
theorem qd_M_height_77 : decode qc_M_height 77 = .ok (.aload_n 0, 1) := by decide +kernel
theorem qd_M_height_78 : decode qc_M_height 78 = .ok (.getfield 31, 3) := by decide +kernel
theorem qd_M_height_81 : decode qc_M_height 81 = .ok (.iload_n 3, 1) := by decide +kernel
theorem qd_M_height_82 : decode qc_M_height 82 = .ok (.iload 4, 2) := by decide +kernel
theorem qd_M_height_84 : decode qc_M_height 84 = .ok (.iconst 1, 1) := by decide +kernel
theorem qd_M_height_85 : decode qc_M_height 85 = .ok (.iadd, 1) := by decide +kernel
theorem qd_M_height_86 : decode qc_M_height 86 = .ok (.iastore, 1) := by decide +kernel
theorem qd_M_height_87 : decode qc_M_height 87 = .ok (.iinc 3 (-1), 3) := by decide +kernel
theorem qd_M_height_90 : decode qc_M_height 90 = .ok (.goto (-86), 3) := by decide +kernel
theorem qd_M_height_93 : decode qc_M_height 93 = .ok (.aload_n 0, 1) := by decide +kernel
theorem qd_M_height_94 : decode qc_M_height 94 = .ok (.getfield 31, 3) := by decide +kernel
theorem qd_M_height_97 : decode qc_M_height 97 = .ok (.iconst 0, 1) := by decide +kernel
theorem qd_M_height_98 : decode qc_M_height 98 = .ok (.iaload, 1) := by decide +kernel
theorem qd_M_height_99 : decode qc_M_height 99 = .ok (.ireturn, 1) := by decide +kernel
abbrev qc_M_alike : ByteArray := prog_8_method_6_code
abbrev qy_M_alike : MethodName := ⟨"TermOrdersModel", "alike", "(IIII)Z"⟩
abbrev qw_M_alike : List Cond := (Jvm.Cond.code ({ cls := "TermOrdersModel", name := "alike", desc := "(IIII)Z" } : Jvm.MethodName) prog_8_method_6_code (7 : Nat) (Option.some Jvm.ClassFile.FieldType.boolean)) :: gw
theorem qd_M_alike_0 : decode qc_M_alike 0 = .ok (.aload_n 0, 1) := by decide +kernel
theorem qd_M_alike_1 : decode qc_M_alike 1 = .ok (.iload_n 1, 1) := by decide +kernel
theorem qd_M_alike_2 : decode qc_M_alike 2 = .ok (.iload_n 2, 1) := by decide +kernel
theorem qd_M_alike_3 : decode qc_M_alike 3 = .ok (.invokevirtual 58, 3) := by decide +kernel
theorem qd_M_alike_6 : decode qc_M_alike 6 = .ok (.iload_n 2, 1) := by decide +kernel
theorem qd_M_alike_7 : decode qc_M_alike 7 = .ok (.isub, 1) := by decide +kernel
theorem qd_M_alike_8 : decode qc_M_alike 8 = .ok (.istore 5, 2) := by decide +kernel
theorem qd_M_alike_10 : decode qc_M_alike 10 = .ok (.aload_n 0, 1) := by decide +kernel
theorem qd_M_alike_11 : decode qc_M_alike 11 = .ok (.iload_n 3, 1) := by decide +kernel
theorem qd_M_alike_12 : decode qc_M_alike 12 = .ok (.iload 4, 2) := by decide +kernel
theorem qd_M_alike_14 : decode qc_M_alike 14 = .ok (.invokevirtual 58, 3) := by decide +kernel
theorem qd_M_alike_17 : decode qc_M_alike 17 = .ok (.iload 4, 2) := by decide +kernel
theorem qd_M_alike_19 : decode qc_M_alike 19 = .ok (.isub, 1) := by decide +kernel
theorem qd_M_alike_20 : decode qc_M_alike 20 = .ok (.iload 5, 2) := by decide +kernel
theorem qd_M_alike_22 : decode qc_M_alike 22 = .ok (.if_icmp .eq 5, 3) := by decide +kernel
theorem qd_M_alike_25 : decode qc_M_alike 25 = .ok (.iconst 0, 1) := by decide +kernel
theorem qd_M_alike_26 : decode qc_M_alike 26 = .ok (.ireturn, 1) := by decide +kernel
theorem qd_M_alike_27 : decode qc_M_alike 27 = .ok (.iconst 0, 1) := by decide +kernel
theorem qd_M_alike_28 : decode qc_M_alike 28 = .ok (.istore 6, 2) := by decide +kernel
theorem qd_M_alike_30 : decode qc_M_alike 30 = .ok (.iload 6, 2) := by decide +kernel
theorem qd_M_alike_32 : decode qc_M_alike 32 = .ok (.iload 5, 2) := by decide +kernel
theorem qd_M_alike_34 : decode qc_M_alike 34 = .ok (.if_icmp .ge 37, 3) := by decide +kernel
theorem qd_M_alike_37 : decode qc_M_alike 37 = .ok (.aload_n 0, 1) := by decide +kernel
theorem qd_M_alike_38 : decode qc_M_alike 38 = .ok (.getfield 19, 3) := by decide +kernel
theorem qd_M_alike_41 : decode qc_M_alike 41 = .ok (.iload_n 1, 1) := by decide +kernel
theorem qd_M_alike_42 : decode qc_M_alike 42 = .ok (.iload_n 2, 1) := by decide +kernel
theorem qd_M_alike_43 : decode qc_M_alike 43 = .ok (.iadd, 1) := by decide +kernel
theorem qd_M_alike_44 : decode qc_M_alike 44 = .ok (.iload 6, 2) := by decide +kernel
theorem qd_M_alike_46 : decode qc_M_alike 46 = .ok (.iadd, 1) := by decide +kernel
theorem qd_M_alike_47 : decode qc_M_alike 47 = .ok (.iaload, 1) := by decide +kernel
theorem qd_M_alike_48 : decode qc_M_alike 48 = .ok (.aload_n 0, 1) := by decide +kernel
theorem qd_M_alike_49 : decode qc_M_alike 49 = .ok (.getfield 19, 3) := by decide +kernel
theorem qd_M_alike_52 : decode qc_M_alike 52 = .ok (.iload_n 3, 1) := by decide +kernel
theorem qd_M_alike_53 : decode qc_M_alike 53 = .ok (.iload 4, 2) := by decide +kernel
theorem qd_M_alike_55 : decode qc_M_alike 55 = .ok (.iadd, 1) := by decide +kernel
theorem qd_M_alike_56 : decode qc_M_alike 56 = .ok (.iload 6, 2) := by decide +kernel
theorem qd_M_alike_58 : decode qc_M_alike 58 = .ok (.iadd, 1) := by decide +kernel
theorem qd_M_alike_59 : decode qc_M_alike 59 = .ok (.iaload, 1) := by decide +kernel
theorem qd_M_alike_60 : decode qc_M_alike 60 = .ok (.if_icmp .eq 5, 3) := by decide +kernel
theorem qd_M_alike_63 : decode qc_M_alike 63 = .ok (.iconst 0, 1) := by decide +kernel
theorem qd_M_alike_64 : decode qc_M_alike 64 = .ok (.ireturn, 1) := by decide +kernel
theorem qd_M_alike_65 : decode qc_M_alike 65 = .ok (.iinc 6 1, 3) := by decide +kernel
theorem qd_M_alike_68 : decode qc_M_alike 68 = .ok (.goto (-38), 3) := by decide +kernel
theorem qd_M_alike_71 : decode qc_M_alike 71 = .ok (.iconst 1, 1) := by decide +kernel
theorem qd_M_alike_72 : decode qc_M_alike 72 = .ok (.ireturn, 1) := by decide +kernel
abbrev qc_M_weighed : ByteArray := prog_8_method_7_code
abbrev qy_M_weighed : MethodName := ⟨"TermOrdersModel", "weighed", "(III)I"⟩
abbrev qw_M_weighed : List Cond := (Jvm.Cond.code ({ cls := "TermOrdersModel", name := "weighed", desc := "(III)I" } : Jvm.MethodName) prog_8_method_7_code (6 : Nat) (Option.some Jvm.ClassFile.FieldType.int)) :: gw
theorem qd_M_weighed_0 : decode qc_M_weighed 0 = .ok (.iconst 0, 1) := by decide +kernel
theorem qd_M_weighed_1 : decode qc_M_weighed 1 = .ok (.istore 4, 2) := by decide +kernel
theorem qd_M_weighed_3 : decode qc_M_weighed 3 = .ok (.iload_n 2, 1) := by decide +kernel
theorem qd_M_weighed_4 : decode qc_M_weighed 4 = .ok (.istore 5, 2) := by decide +kernel
theorem qd_M_weighed_6 : decode qc_M_weighed 6 = .ok (.iload 5, 2) := by decide +kernel
theorem qd_M_weighed_8 : decode qc_M_weighed 8 = .ok (.iload_n 3, 1) := by decide +kernel
theorem qd_M_weighed_9 : decode qc_M_weighed 9 = .ok (.if_icmp .ge 44, 3) := by decide +kernel
theorem qd_M_weighed_12 : decode qc_M_weighed 12 = .ok (.iload 4, 2) := by decide +kernel
theorem qd_M_weighed_14 : decode qc_M_weighed 14 = .ok (.aload_n 0, 1) := by decide +kernel
theorem qd_M_weighed_15 : decode qc_M_weighed 15 = .ok (.getfield 19, 3) := by decide +kernel
theorem qd_M_weighed_18 : decode qc_M_weighed 18 = .ok (.iload_n 1, 1) := by decide +kernel
theorem qd_M_weighed_19 : decode qc_M_weighed 19 = .ok (.iload 5, 2) := by decide +kernel
theorem qd_M_weighed_21 : decode qc_M_weighed 21 = .ok (.iadd, 1) := by decide +kernel
theorem qd_M_weighed_22 : decode qc_M_weighed 22 = .ok (.iaload, 1) := by decide +kernel
theorem qd_M_weighed_23 : decode qc_M_weighed 23 = .ok (.ifCond .ge 7, 3) := by decide +kernel
theorem qd_M_weighed_26 : decode qc_M_weighed 26 = .ok (.iconst 1, 1) := by decide +kernel
theorem qd_M_weighed_27 : decode qc_M_weighed 27 = .ok (.goto 17, 3) := by decide +kernel
theorem qd_M_weighed_30 : decode qc_M_weighed 30 = .ok (.aload_n 0, 1) := by decide +kernel
theorem qd_M_weighed_31 : decode qc_M_weighed 31 = .ok (.getfield 16, 3) := by decide +kernel
theorem qd_M_weighed_34 : decode qc_M_weighed 34 = .ok (.aload_n 0, 1) := by decide +kernel
theorem qd_M_weighed_35 : decode qc_M_weighed 35 = .ok (.getfield 19, 3) := by decide +kernel
theorem qd_M_weighed_38 : decode qc_M_weighed 38 = .ok (.iload_n 1, 1) := by decide +kernel
theorem qd_M_weighed_39 : decode qc_M_weighed 39 = .ok (.iload 5, 2) := by decide +kernel
theorem qd_M_weighed_41 : decode qc_M_weighed 41 = .ok (.iadd, 1) := by decide +kernel
theorem qd_M_weighed_42 : decode qc_M_weighed 42 = .ok (.iaload, 1) := by decide +kernel
theorem qd_M_weighed_43 : decode qc_M_weighed 43 = .ok (.iaload, 1) := by decide +kernel
theorem qd_M_weighed_44 : decode qc_M_weighed 44 = .ok (.iadd, 1) := by decide +kernel
theorem qd_M_weighed_45 : decode qc_M_weighed 45 = .ok (.istore 4, 2) := by decide +kernel
theorem qd_M_weighed_47 : decode qc_M_weighed 47 = .ok (.iinc 5 1, 3) := by decide +kernel
theorem qd_M_weighed_50 : decode qc_M_weighed 50 = .ok (.goto (-44), 3) := by decide +kernel
theorem qd_M_weighed_53 : decode qc_M_weighed 53 = .ok (.iload 4, 2) := by decide +kernel
theorem qd_M_weighed_55 : decode qc_M_weighed 55 = .ok (.ireturn, 1) := by decide +kernel
abbrev qc_M_isTerm : ByteArray := prog_8_method_8_code
abbrev qy_M_isTerm : MethodName := ⟨"TermOrdersModel", "isTerm", "(I)Z"⟩
abbrev qw_M_isTerm : List Cond := (Jvm.Cond.code ({ cls := "TermOrdersModel", name := "isTerm", desc := "(I)Z" } : Jvm.MethodName) prog_8_method_8_code (2 : Nat) (Option.some Jvm.ClassFile.FieldType.boolean)) :: gw
theorem qd_M_isTerm_0 : decode qc_M_isTerm 0 = .ok (.iload_n 1, 1) := by decide +kernel
theorem qd_M_isTerm_1 : decode qc_M_isTerm 1 = .ok (.ifCond .lt 15, 3) := by decide +kernel
theorem qd_M_isTerm_4 : decode qc_M_isTerm 4 = .ok (.iload_n 1, 1) := by decide +kernel
theorem qd_M_isTerm_5 : decode qc_M_isTerm 5 = .ok (.aload_n 0, 1) := by decide +kernel
theorem qd_M_isTerm_6 : decode qc_M_isTerm 6 = .ok (.getfield 62, 3) := by decide +kernel
theorem qd_M_isTerm_9 : decode qc_M_isTerm 9 = .ok (.if_icmp .ge 7, 3) := by decide +kernel
theorem qd_M_isTerm_12 : decode qc_M_isTerm 12 = .ok (.iconst 1, 1) := by decide +kernel
theorem qd_M_isTerm_13 : decode qc_M_isTerm 13 = .ok (.goto 4, 3) := by decide +kernel
theorem qd_M_isTerm_16 : decode qc_M_isTerm 16 = .ok (.iconst 0, 1) := by decide +kernel
theorem qd_M_isTerm_17 : decode qc_M_isTerm 17 = .ok (.ireturn, 1) := by decide +kernel
abbrev qc_M_isSymbol : ByteArray := prog_8_method_9_code
abbrev qy_M_isSymbol : MethodName := ⟨"TermOrdersModel", "isSymbol", "(I)Z"⟩
abbrev qw_M_isSymbol : List Cond := (Jvm.Cond.code ({ cls := "TermOrdersModel", name := "isSymbol", desc := "(I)Z" } : Jvm.MethodName) prog_8_method_9_code (2 : Nat) (Option.some Jvm.ClassFile.FieldType.boolean)) :: gw
theorem qd_M_isSymbol_0 : decode qc_M_isSymbol 0 = .ok (.iload_n 1, 1) := by decide +kernel
theorem qd_M_isSymbol_1 : decode qc_M_isSymbol 1 = .ok (.ifCond .lt 15, 3) := by decide +kernel
theorem qd_M_isSymbol_4 : decode qc_M_isSymbol 4 = .ok (.iload_n 1, 1) := by decide +kernel
theorem qd_M_isSymbol_5 : decode qc_M_isSymbol 5 = .ok (.aload_n 0, 1) := by decide +kernel
theorem qd_M_isSymbol_6 : decode qc_M_isSymbol 6 = .ok (.getfield 65, 3) := by decide +kernel
theorem qd_M_isSymbol_9 : decode qc_M_isSymbol 9 = .ok (.if_icmp .ge 7, 3) := by decide +kernel
theorem qd_M_isSymbol_12 : decode qc_M_isSymbol 12 = .ok (.iconst 1, 1) := by decide +kernel
theorem qd_M_isSymbol_13 : decode qc_M_isSymbol 13 = .ok (.goto 4, 3) := by decide +kernel
theorem qd_M_isSymbol_16 : decode qc_M_isSymbol 16 = .ok (.iconst 0, 1) := by decide +kernel
theorem qd_M_isSymbol_17 : decode qc_M_isSymbol 17 = .ok (.ireturn, 1) := by decide +kernel
abbrev qc_M_symbol : ByteArray := prog_8_method_10_code
abbrev qy_M_symbol : MethodName := ⟨"TermOrdersModel", "symbol", "(I)I"⟩
abbrev qw_M_symbol : List Cond := (Jvm.Cond.code ({ cls := "TermOrdersModel", name := "symbol", desc := "(I)I" } : Jvm.MethodName) prog_8_method_10_code (2 : Nat) (Option.some Jvm.ClassFile.FieldType.int)) :: gw
theorem qd_M_symbol_0 : decode qc_M_symbol 0 = .ok (.aload_n 0, 1) := by decide +kernel
theorem qd_M_symbol_1 : decode qc_M_symbol 1 = .ok (.iload_n 1, 1) := by decide +kernel
theorem qd_M_symbol_2 : decode qc_M_symbol 2 = .ok (.ifCond .lt 8, 3) := by decide +kernel
theorem qd_M_symbol_5 : decode qc_M_symbol 5 = .ok (.iload_n 1, 1) := by decide +kernel
theorem qd_M_symbol_6 : decode qc_M_symbol 6 = .ok (.iconst 3, 1) := by decide +kernel
theorem qd_M_symbol_7 : decode qc_M_symbol 7 = .ok (.if_icmp .le 7, 3) := by decide +kernel
theorem qd_M_symbol_10 : decode qc_M_symbol 10 = .ok (.iconst 1, 1) := by decide +kernel
theorem qd_M_symbol_11 : decode qc_M_symbol 11 = .ok (.goto 16, 3) := by decide +kernel
theorem qd_M_symbol_14 : decode qc_M_symbol 14 = .ok (.aload_n 0, 1) := by decide +kernel
theorem qd_M_symbol_15 : decode qc_M_symbol 15 = .ok (.getfield 65, 3) := by decide +kernel
theorem qd_M_symbol_18 : decode qc_M_symbol 18 = .ok (.iconst 5, 1) := by decide +kernel
theorem qd_M_symbol_19 : decode qc_M_symbol 19 = .ok (.if_icmp .ne 7, 3) := by decide +kernel
theorem qd_M_symbol_22 : decode qc_M_symbol 22 = .ok (.iconst 2, 1) := by decide +kernel
theorem qd_M_symbol_23 : decode qc_M_symbol 23 = .ok (.goto 4, 3) := by decide +kernel
theorem qd_M_symbol_26 : decode qc_M_symbol 26 = .ok (.iconst 0, 1) := by decide +kernel
theorem qd_M_symbol_27 : decode qc_M_symbol 27 = .ok (.putfield 50, 3) := by decide +kernel
theorem qd_M_symbol_30 : decode qc_M_symbol 30 = .ok (.aload_n 0, 1) := by decide +kernel
theorem qd_M_symbol_31 : decode qc_M_symbol 31 = .ok (.getfield 50, 3) := by decide +kernel
theorem qd_M_symbol_34 : decode qc_M_symbol 34 = .ok (.ifCond .eq 5, 3) := by decide +kernel
theorem qd_M_symbol_37 : decode qc_M_symbol 37 = .ok (.iconst 0, 1) := by decide +kernel
theorem qd_M_symbol_38 : decode qc_M_symbol 38 = .ok (.ireturn, 1) := by decide +kernel
theorem qd_M_symbol_39 : decode qc_M_symbol 39 = .ok (.aload_n 0, 1) := by decide +kernel
theorem qd_M_symbol_40 : decode qc_M_symbol 40 = .ok (.getfield 7, 3) := by decide +kernel
theorem qd_M_symbol_43 : decode qc_M_symbol 43 = .ok (.aload_n 0, 1) := by decide +kernel
theorem qd_M_symbol_44 : decode qc_M_symbol 44 = .ok (.getfield 65, 3) := by decide +kernel
theorem qd_M_symbol_47 : decode qc_M_symbol 47 = .ok (.iload_n 1, 1) := by decide +kernel
theorem qd_M_symbol_48 : decode qc_M_symbol 48 = .ok (.iastore, 1) := by decide +kernel
theorem qd_M_symbol_49 : decode qc_M_symbol 49 = .ok (.aload_n 0, 1) := by decide +kernel
theorem qd_M_symbol_50 : decode qc_M_symbol 50 = .ok (.getfield 13, 3) := by decide +kernel
theorem qd_M_symbol_53 : decode qc_M_symbol 53 = .ok (.aload_n 0, 1) := by decide +kernel
theorem qd_M_symbol_54 : decode qc_M_symbol 54 = .ok (.getfield 65, 3) := by decide +kernel
theorem qd_M_symbol_57 : decode qc_M_symbol 57 = .ok (.aload_n 0, 1) := by decide +kernel
theorem qd_M_symbol_58 : decode qc_M_symbol 58 = .ok (.getfield 65, 3) := by decide +kernel
theorem qd_M_symbol_61 : decode qc_M_symbol 61 = .ok (.iastore, 1) := by decide +kernel
theorem qd_M_symbol_62 : decode qc_M_symbol 62 = .ok (.aload_n 0, 1) := by decide +kernel
theorem qd_M_symbol_63 : decode qc_M_symbol 63 = .ok (.getfield 16, 3) := by decide +kernel
theorem qd_M_symbol_66 : decode qc_M_symbol 66 = .ok (.aload_n 0, 1) := by decide +kernel
theorem qd_M_symbol_67 : decode qc_M_symbol 67 = .ok (.getfield 65, 3) := by decide +kernel
theorem qd_M_symbol_70 : decode qc_M_symbol 70 = .ok (.iconst 1, 1) := by decide +kernel
theorem qd_M_symbol_71 : decode qc_M_symbol 71 = .ok (.iastore, 1) := by decide +kernel
theorem qd_M_symbol_72 : decode qc_M_symbol 72 = .ok (.aload_n 0, 1) := by decide +kernel
theorem qd_M_symbol_73 : decode qc_M_symbol 73 = .ok (.dup, 1) := by decide +kernel
theorem qd_M_symbol_74 : decode qc_M_symbol 74 = .ok (.getfield 65, 3) := by decide +kernel
theorem qd_M_symbol_77 : decode qc_M_symbol 77 = .ok (.iconst 1, 1) := by decide +kernel
theorem qd_M_symbol_78 : decode qc_M_symbol 78 = .ok (.iadd, 1) := by decide +kernel
theorem qd_M_symbol_79 : decode qc_M_symbol 79 = .ok (.putfield 65, 3) := by decide +kernel
theorem qd_M_symbol_82 : decode qc_M_symbol 82 = .ok (.aload_n 0, 1) := by decide +kernel
theorem qd_M_symbol_83 : decode qc_M_symbol 83 = .ok (.getfield 65, 3) := by decide +kernel
theorem qd_M_symbol_86 : decode qc_M_symbol 86 = .ok (.iconst 1, 1) := by decide +kernel
theorem qd_M_symbol_87 : decode qc_M_symbol 87 = .ok (.isub, 1) := by decide +kernel
theorem qd_M_symbol_88 : decode qc_M_symbol 88 = .ok (.ireturn, 1) := by decide +kernel
abbrev qc_M_variable : ByteArray := prog_8_method_11_code
abbrev qy_M_variable : MethodName := ⟨"TermOrdersModel", "variable", "(I)I"⟩
abbrev qw_M_variable : List Cond := (Jvm.Cond.code ({ cls := "TermOrdersModel", name := "variable", desc := "(I)I" } : Jvm.MethodName) prog_8_method_11_code (2 : Nat) (Option.some Jvm.ClassFile.FieldType.int)) :: gw
theorem qd_M_variable_0 : decode qc_M_variable 0 = .ok (.aload_n 0, 1) := by decide +kernel
theorem qd_M_variable_1 : decode qc_M_variable 1 = .ok (.iload_n 1, 1) := by decide +kernel
theorem qd_M_variable_2 : decode qc_M_variable 2 = .ok (.ifCond .lt 8, 3) := by decide +kernel
theorem qd_M_variable_5 : decode qc_M_variable 5 = .ok (.iload_n 1, 1) := by decide +kernel
theorem qd_M_variable_6 : decode qc_M_variable 6 = .ok (.iconst 3, 1) := by decide +kernel
theorem qd_M_variable_7 : decode qc_M_variable 7 = .ok (.if_icmp .le 7, 3) := by decide +kernel
theorem qd_M_variable_10 : decode qc_M_variable 10 = .ok (.iconst 1, 1) := by decide +kernel
theorem qd_M_variable_11 : decode qc_M_variable 11 = .ok (.goto 18, 3) := by decide +kernel
theorem qd_M_variable_14 : decode qc_M_variable 14 = .ok (.aload_n 0, 1) := by decide +kernel
theorem qd_M_variable_15 : decode qc_M_variable 15 = .ok (.getfield 62, 3) := by decide +kernel
theorem qd_M_variable_18 : decode qc_M_variable 18 = .ok (.sipush 160, 3) := by decide +kernel
theorem qd_M_variable_21 : decode qc_M_variable 21 = .ok (.if_icmp .ne 7, 3) := by decide +kernel
theorem qd_M_variable_24 : decode qc_M_variable 24 = .ok (.iconst 2, 1) := by decide +kernel
theorem qd_M_variable_25 : decode qc_M_variable 25 = .ok (.goto 4, 3) := by decide +kernel
theorem qd_M_variable_28 : decode qc_M_variable 28 = .ok (.iconst 0, 1) := by decide +kernel
theorem qd_M_variable_29 : decode qc_M_variable 29 = .ok (.putfield 50, 3) := by decide +kernel
theorem qd_M_variable_32 : decode qc_M_variable 32 = .ok (.aload_n 0, 1) := by decide +kernel
theorem qd_M_variable_33 : decode qc_M_variable 33 = .ok (.getfield 50, 3) := by decide +kernel
theorem qd_M_variable_36 : decode qc_M_variable 36 = .ok (.ifCond .eq 5, 3) := by decide +kernel
theorem qd_M_variable_39 : decode qc_M_variable 39 = .ok (.iconst 0, 1) := by decide +kernel
theorem qd_M_variable_40 : decode qc_M_variable 40 = .ok (.ireturn, 1) := by decide +kernel
theorem qd_M_variable_41 : decode qc_M_variable 41 = .ok (.aload_n 0, 1) := by decide +kernel
theorem qd_M_variable_42 : decode qc_M_variable 42 = .ok (.getfield 19, 3) := by decide +kernel
theorem qd_M_variable_45 : decode qc_M_variable 45 = .ok (.bipush 16, 2) := by decide +kernel
theorem qd_M_variable_47 : decode qc_M_variable 47 = .ok (.aload_n 0, 1) := by decide +kernel
theorem qd_M_variable_48 : decode qc_M_variable 48 = .ok (.getfield 62, 3) := by decide +kernel
theorem qd_M_variable_51 : decode qc_M_variable 51 = .ok (.imul, 1) := by decide +kernel
theorem qd_M_variable_52 : decode qc_M_variable 52 = .ok (.iconst (-1), 1) := by decide +kernel
theorem qd_M_variable_53 : decode qc_M_variable 53 = .ok (.iload_n 1, 1) := by decide +kernel
theorem qd_M_variable_54 : decode qc_M_variable 54 = .ok (.isub, 1) := by decide +kernel
theorem qd_M_variable_55 : decode qc_M_variable 55 = .ok (.iastore, 1) := by decide +kernel
theorem qd_M_variable_56 : decode qc_M_variable 56 = .ok (.aload_n 0, 1) := by decide +kernel
theorem qd_M_variable_57 : decode qc_M_variable 57 = .ok (.getfield 22, 3) := by decide +kernel
theorem qd_M_variable_60 : decode qc_M_variable 60 = .ok (.aload_n 0, 1) := by decide +kernel
theorem qd_M_variable_61 : decode qc_M_variable 61 = .ok (.getfield 62, 3) := by decide +kernel
theorem qd_M_variable_64 : decode qc_M_variable 64 = .ok (.iconst 1, 1) := by decide +kernel
theorem qd_M_variable_65 : decode qc_M_variable 65 = .ok (.iastore, 1) := by decide +kernel
theorem qd_M_variable_66 : decode qc_M_variable 66 = .ok (.aload_n 0, 1) := by decide +kernel
theorem qd_M_variable_67 : decode qc_M_variable 67 = .ok (.dup, 1) := by decide +kernel
theorem qd_M_variable_68 : decode qc_M_variable 68 = .ok (.getfield 62, 3) := by decide +kernel
theorem qd_M_variable_71 : decode qc_M_variable 71 = .ok (.iconst 1, 1) := by decide +kernel
theorem qd_M_variable_72 : decode qc_M_variable 72 = .ok (.iadd, 1) := by decide +kernel
theorem qd_M_variable_73 : decode qc_M_variable 73 = .ok (.putfield 62, 3) := by decide +kernel
theorem qd_M_variable_76 : decode qc_M_variable 76 = .ok (.aload_n 0, 1) := by decide +kernel
theorem qd_M_variable_77 : decode qc_M_variable 77 = .ok (.getfield 62, 3) := by decide +kernel
theorem qd_M_variable_80 : decode qc_M_variable 80 = .ok (.iconst 1, 1) := by decide +kernel
theorem qd_M_variable_81 : decode qc_M_variable 81 = .ok (.isub, 1) := by decide +kernel
theorem qd_M_variable_82 : decode qc_M_variable 82 = .ok (.ireturn, 1) := by decide +kernel
abbrev qc_M_keep : ByteArray := prog_8_method_12_code
abbrev qy_M_keep : MethodName := ⟨"TermOrdersModel", "keep", "(I)I"⟩
abbrev qw_M_keep : List Cond := (Jvm.Cond.code ({ cls := "TermOrdersModel", name := "keep", desc := "(I)I" } : Jvm.MethodName) prog_8_method_12_code (4 : Nat) (Option.some Jvm.ClassFile.FieldType.int)) :: gw
theorem qd_M_keep_0 : decode qc_M_keep 0 = .ok (.sipush 2560, 3) := by decide +kernel
theorem qd_M_keep_3 : decode qc_M_keep 3 = .ok (.istore_n 2, 1) := by decide +kernel
theorem qd_M_keep_4 : decode qc_M_keep 4 = .ok (.aload_n 0, 1) := by decide +kernel
theorem qd_M_keep_5 : decode qc_M_keep 5 = .ok (.aload_n 0, 1) := by decide +kernel
theorem qd_M_keep_6 : decode qc_M_keep 6 = .ok (.iload_n 2, 1) := by decide +kernel
theorem qd_M_keep_7 : decode qc_M_keep 7 = .ok (.iload_n 1, 1) := by decide +kernel
theorem qd_M_keep_8 : decode qc_M_keep 8 = .ok (.invokevirtual 68, 3) := by decide +kernel
theorem qd_M_keep_11 : decode qc_M_keep 11 = .ok (.iconst 4, 1) := by decide +kernel
theorem qd_M_keep_12 : decode qc_M_keep 12 = .ok (.if_icmp .le 7, 3) := by decide +kernel
theorem qd_M_keep_15 : decode qc_M_keep 15 = .ok (.iconst 1, 1) := by decide +kernel
theorem qd_M_keep_16 : decode qc_M_keep 16 = .ok (.goto 18, 3) := by decide +kernel
theorem qd_M_keep_19 : decode qc_M_keep 19 = .ok (.aload_n 0, 1) := by decide +kernel
theorem qd_M_keep_20 : decode qc_M_keep 20 = .ok (.getfield 62, 3) := by decide +kernel
theorem qd_M_keep_23 : decode qc_M_keep 23 = .ok (.sipush 160, 3) := by decide +kernel
theorem qd_M_keep_26 : decode qc_M_keep 26 = .ok (.if_icmp .ne 7, 3) := by decide +kernel
theorem qd_M_keep_29 : decode qc_M_keep 29 = .ok (.iconst 2, 1) := by decide +kernel
theorem qd_M_keep_30 : decode qc_M_keep 30 = .ok (.goto 4, 3) := by decide +kernel
theorem qd_M_keep_33 : decode qc_M_keep 33 = .ok (.iconst 0, 1) := by decide +kernel
theorem qd_M_keep_34 : decode qc_M_keep 34 = .ok (.putfield 50, 3) := by decide +kernel
theorem qd_M_keep_37 : decode qc_M_keep 37 = .ok (.aload_n 0, 1) := by decide +kernel
theorem qd_M_keep_38 : decode qc_M_keep 38 = .ok (.getfield 50, 3) := by decide +kernel
theorem qd_M_keep_41 : decode qc_M_keep 41 = .ok (.ifCond .eq 5, 3) := by decide +kernel
theorem qd_M_keep_44 : decode qc_M_keep 44 = .ok (.iconst 0, 1) := by decide +kernel
theorem qd_M_keep_45 : decode qc_M_keep 45 = .ok (.ireturn, 1) := by decide +kernel
theorem qd_M_keep_46 : decode qc_M_keep 46 = .ok (.iconst 0, 1) := by decide +kernel
theorem qd_M_keep_47 : decode qc_M_keep 47 = .ok (.istore_n 3, 1) := by decide +kernel
theorem qd_M_keep_48 : decode qc_M_keep 48 = .ok (.iload_n 3, 1) := by decide +kernel
theorem qd_M_keep_49 : decode qc_M_keep 49 = .ok (.iload_n 1, 1) := by decide +kernel
theorem qd_M_keep_50 : decode qc_M_keep 50 = .ok (.if_icmp .ge 31, 3) := by decide +kernel
theorem qd_M_keep_53 : decode qc_M_keep 53 = .ok (.aload_n 0, 1) := by decide +kernel
theorem qd_M_keep_54 : decode qc_M_keep 54 = .ok (.getfield 19, 3) := by decide +kernel
theorem qd_M_keep_57 : decode qc_M_keep 57 = .ok (.bipush 16, 2) := by decide +kernel
theorem qd_M_keep_59 : decode qc_M_keep 59 = .ok (.aload_n 0, 1) := by decide +kernel
theorem qd_M_keep_60 : decode qc_M_keep 60 = .ok (.getfield 62, 3) := by decide +kernel
theorem qd_M_keep_63 : decode qc_M_keep 63 = .ok (.imul, 1) := by decide +kernel
theorem qd_M_keep_64 : decode qc_M_keep 64 = .ok (.iload_n 3, 1) := by decide +kernel
theorem qd_M_keep_65 : decode qc_M_keep 65 = .ok (.iadd, 1) := by decide +kernel
theorem qd_M_keep_66 : decode qc_M_keep 66 = .ok (.aload_n 0, 1) := by decide +kernel
theorem qd_M_keep_67 : decode qc_M_keep 67 = .ok (.getfield 19, 3) := by decide +kernel
theorem qd_M_keep_70 : decode qc_M_keep 70 = .ok (.iload_n 2, 1) := by decide +kernel
theorem qd_M_keep_71 : decode qc_M_keep 71 = .ok (.iload_n 3, 1) := by decide +kernel
theorem qd_M_keep_72 : decode qc_M_keep 72 = .ok (.iadd, 1) := by decide +kernel
theorem qd_M_keep_73 : decode qc_M_keep 73 = .ok (.iaload, 1) := by decide +kernel
theorem qd_M_keep_74 : decode qc_M_keep 74 = .ok (.iastore, 1) := by decide +kernel
theorem qd_M_keep_75 : decode qc_M_keep 75 = .ok (.iinc 3 1, 3) := by decide +kernel
theorem qd_M_keep_78 : decode qc_M_keep 78 = .ok (.goto (-30), 3) := by decide +kernel
theorem qd_M_keep_81 : decode qc_M_keep 81 = .ok (.aload_n 0, 1) := by decide +kernel
theorem qd_M_keep_82 : decode qc_M_keep 82 = .ok (.getfield 22, 3) := by decide +kernel
theorem qd_M_keep_85 : decode qc_M_keep 85 = .ok (.aload_n 0, 1) := by decide +kernel
theorem qd_M_keep_86 : decode qc_M_keep 86 = .ok (.getfield 62, 3) := by decide +kernel
theorem qd_M_keep_89 : decode qc_M_keep 89 = .ok (.iload_n 1, 1) := by decide +kernel
theorem qd_M_keep_90 : decode qc_M_keep 90 = .ok (.iastore, 1) := by decide +kernel
theorem qd_M_keep_91 : decode qc_M_keep 91 = .ok (.aload_n 0, 1) := by decide +kernel
theorem qd_M_keep_92 : decode qc_M_keep 92 = .ok (.dup, 1) := by decide +kernel
theorem qd_M_keep_93 : decode qc_M_keep 93 = .ok (.getfield 62, 3) := by decide +kernel
theorem qd_M_keep_96 : decode qc_M_keep 96 = .ok (.iconst 1, 1) := by decide +kernel
theorem qd_M_keep_97 : decode qc_M_keep 97 = .ok (.iadd, 1) := by decide +kernel
theorem qd_M_keep_98 : decode qc_M_keep 98 = .ok (.putfield 62, 3) := by decide +kernel
theorem qd_M_keep_101 : decode qc_M_keep 101 = .ok (.aload_n 0, 1) := by decide +kernel
theorem qd_M_keep_102 : decode qc_M_keep 102 = .ok (.getfield 62, 3) := by decide +kernel
theorem qd_M_keep_105 : decode qc_M_keep 105 = .ok (.iconst 1, 1) := by decide +kernel
theorem qd_M_keep_106 : decode qc_M_keep 106 = .ok (.isub, 1) := by decide +kernel
theorem qd_M_keep_107 : decode qc_M_keep 107 = .ok (.ireturn, 1) := by decide +kernel
abbrev qc_M_append : ByteArray := prog_8_method_13_code
abbrev qy_M_append : MethodName := ⟨"TermOrdersModel", "append", "(IIII)I"⟩
abbrev qw_M_append : List Cond := (Jvm.Cond.code ({ cls := "TermOrdersModel", name := "append", desc := "(IIII)I" } : Jvm.MethodName) prog_8_method_13_code (6 : Nat) (Option.some Jvm.ClassFile.FieldType.int)) :: gw
theorem qd_M_append_0 : decode qc_M_append 0 = .ok (.iload_n 3, 1) := by decide +kernel
theorem qd_M_append_1 : decode qc_M_append 1 = .ok (.istore 5, 2) := by decide +kernel
theorem qd_M_append_3 : decode qc_M_append 3 = .ok (.iload 5, 2) := by decide +kernel
theorem qd_M_append_5 : decode qc_M_append 5 = .ok (.iload 4, 2) := by decide +kernel
theorem qd_M_append_7 : decode qc_M_append 7 = .ok (.if_icmp .ge 33, 3) := by decide +kernel
theorem qd_M_append_10 : decode qc_M_append 10 = .ok (.aload_n 0, 1) := by decide +kernel
theorem qd_M_append_11 : decode qc_M_append 11 = .ok (.getfield 19, 3) := by decide +kernel
theorem qd_M_append_14 : decode qc_M_append 14 = .ok (.sipush 2560, 3) := by decide +kernel
theorem qd_M_append_17 : decode qc_M_append 17 = .ok (.iload_n 1, 1) := by decide +kernel
theorem qd_M_append_18 : decode qc_M_append 18 = .ok (.iadd, 1) := by decide +kernel
theorem qd_M_append_19 : decode qc_M_append 19 = .ok (.iload 5, 2) := by decide +kernel
theorem qd_M_append_21 : decode qc_M_append 21 = .ok (.iadd, 1) := by decide +kernel
theorem qd_M_append_22 : decode qc_M_append 22 = .ok (.iload_n 3, 1) := by decide +kernel
theorem qd_M_append_23 : decode qc_M_append 23 = .ok (.isub, 1) := by decide +kernel
theorem qd_M_append_24 : decode qc_M_append 24 = .ok (.aload_n 0, 1) := by decide +kernel
theorem qd_M_append_25 : decode qc_M_append 25 = .ok (.getfield 19, 3) := by decide +kernel
theorem qd_M_append_28 : decode qc_M_append 28 = .ok (.iload_n 2, 1) := by decide +kernel
theorem qd_M_append_29 : decode qc_M_append 29 = .ok (.iload 5, 2) := by decide +kernel
theorem qd_M_append_31 : decode qc_M_append 31 = .ok (.iadd, 1) := by decide +kernel
theorem qd_M_append_32 : decode qc_M_append 32 = .ok (.iaload, 1) := by decide +kernel
theorem qd_M_append_33 : decode qc_M_append 33 = .ok (.iastore, 1) := by decide +kernel
theorem qd_M_append_34 : decode qc_M_append 34 = .ok (.iinc 5 1, 3) := by decide +kernel
theorem qd_M_append_37 : decode qc_M_append 37 = .ok (.goto (-34), 3) := by decide +kernel
theorem qd_M_append_40 : decode qc_M_append 40 = .ok (.iload_n 1, 1) := by decide +kernel
theorem qd_M_append_41 : decode qc_M_append 41 = .ok (.iload 4, 2) := by decide +kernel
theorem qd_M_append_43 : decode qc_M_append 43 = .ok (.iadd, 1) := by decide +kernel
theorem qd_M_append_44 : decode qc_M_append 44 = .ok (.iload_n 3, 1) := by decide +kernel
theorem qd_M_append_45 : decode qc_M_append 45 = .ok (.isub, 1) := by decide +kernel
theorem qd_M_append_46 : decode qc_M_append 46 = .ok (.ireturn, 1) := by decide +kernel
abbrev qc_M_term : ByteArray := prog_8_method_14_code
abbrev qy_M_term : MethodName := ⟨"TermOrdersModel", "term", "(IIII)I"⟩
abbrev qw_M_term : List Cond := (Jvm.Cond.code ({ cls := "TermOrdersModel", name := "term", desc := "(IIII)I" } : Jvm.MethodName) prog_8_method_14_code (10 : Nat) (Option.some Jvm.ClassFile.FieldType.int)) :: gw
theorem qd_M_term_0 : decode qc_M_term 0 = .ok (.iconst 1, 1) := by decide +kernel
theorem qd_M_term_1 : decode qc_M_term 1 = .ok (.istore 5, 2) := by decide +kernel
theorem qd_M_term_3 : decode qc_M_term 3 = .ok (.aload_n 0, 1) := by decide +kernel
theorem qd_M_term_4 : decode qc_M_term 4 = .ok (.iload_n 1, 1) := by decide +kernel
theorem qd_M_term_5 : decode qc_M_term 5 = .ok (.invokevirtual 71, 3) := by decide +kernel
theorem qd_M_term_8 : decode qc_M_term 8 = .ok (.istore 6, 2) := by decide +kernel
theorem qd_M_term_10 : decode qc_M_term 10 = .ok (.iconst 0, 1) := by decide +kernel
theorem qd_M_term_11 : decode qc_M_term 11 = .ok (.istore 7, 2) := by decide +kernel
theorem qd_M_term_13 : decode qc_M_term 13 = .ok (.iload 6, 2) := by decide +kernel
theorem qd_M_term_15 : decode qc_M_term 15 = .ok (.ifCond .eq 73, 3) := by decide +kernel
theorem qd_M_term_18 : decode qc_M_term 18 = .ok (.iload 7, 2) := by decide +kernel
theorem qd_M_term_20 : decode qc_M_term 20 = .ok (.aload_n 0, 1) := by decide +kernel
theorem qd_M_term_21 : decode qc_M_term 21 = .ok (.getfield 7, 3) := by decide +kernel
theorem qd_M_term_24 : decode qc_M_term 24 = .ok (.iload_n 1, 1) := by decide +kernel
theorem qd_M_term_25 : decode qc_M_term 25 = .ok (.iaload, 1) := by decide +kernel
theorem qd_M_term_26 : decode qc_M_term 26 = .ok (.if_icmp .ge 62, 3) := by decide +kernel
theorem qd_M_term_29 : decode qc_M_term 29 = .ok (.iload 7, 2) := by decide +kernel
theorem qd_M_term_31 : decode qc_M_term 31 = .ok (.ifCond .ne 7, 3) := by decide +kernel
theorem qd_M_term_34 : decode qc_M_term 34 = .ok (.iload_n 2, 1) := by decide +kernel
theorem qd_M_term_35 : decode qc_M_term 35 = .ok (.goto 15, 3) := by decide +kernel
theorem qd_M_term_38 : decode qc_M_term 38 = .ok (.iload 7, 2) := by decide +kernel
theorem qd_M_term_40 : decode qc_M_term 40 = .ok (.iconst 1, 1) := by decide +kernel
theorem qd_M_term_41 : decode qc_M_term 41 = .ok (.if_icmp .ne 7, 3) := by decide +kernel
theorem qd_M_term_44 : decode qc_M_term 44 = .ok (.iload_n 3, 1) := by decide +kernel
theorem qd_M_term_45 : decode qc_M_term 45 = .ok (.goto 5, 3) := by decide +kernel
theorem qd_M_term_48 : decode qc_M_term 48 = .ok (.iload 4, 2) := by decide +kernel
theorem qd_M_term_50 : decode qc_M_term 50 = .ok (.istore 8, 2) := by decide +kernel
theorem qd_M_term_52 : decode qc_M_term 52 = .ok (.aload_n 0, 1) := by decide +kernel
theorem qd_M_term_53 : decode qc_M_term 53 = .ok (.iload 8, 2) := by decide +kernel
theorem qd_M_term_55 : decode qc_M_term 55 = .ok (.invokevirtual 75, 3) := by decide +kernel
theorem qd_M_term_58 : decode qc_M_term 58 = .ok (.istore 6, 2) := by decide +kernel
theorem qd_M_term_60 : decode qc_M_term 60 = .ok (.iload 6, 2) := by decide +kernel
theorem qd_M_term_62 : decode qc_M_term 62 = .ok (.ifCond .eq 16, 3) := by decide +kernel
theorem qd_M_term_65 : decode qc_M_term 65 = .ok (.iload 5, 2) := by decide +kernel
theorem qd_M_term_67 : decode qc_M_term 67 = .ok (.aload_n 0, 1) := by decide +kernel
theorem qd_M_term_68 : decode qc_M_term 68 = .ok (.getfield 22, 3) := by decide +kernel
theorem qd_M_term_71 : decode qc_M_term 71 = .ok (.iload 8, 2) := by decide +kernel
theorem qd_M_term_73 : decode qc_M_term 73 = .ok (.iaload, 1) := by decide +kernel
theorem qd_M_term_74 : decode qc_M_term 74 = .ok (.iadd, 1) := by decide +kernel
theorem qd_M_term_75 : decode qc_M_term 75 = .ok (.goto 5, 3) := by decide +kernel
theorem qd_M_term_78 : decode qc_M_term 78 = .ok (.iload 5, 2) := by decide +kernel
theorem qd_M_term_80 : decode qc_M_term 80 = .ok (.istore 5, 2) := by decide +kernel
theorem qd_M_term_82 : decode qc_M_term 82 = .ok (.iinc 7 1, 3) := by decide +kernel
theorem qd_M_term_85 : decode qc_M_term 85 = .ok (.goto (-72), 3) := by decide +kernel
theorem qd_M_term_88 : decode qc_M_term 88 = .ok (.aload_n 0, 1) := by decide +kernel
theorem qd_M_term_89 : decode qc_M_term 89 = .ok (.iload 6, 2) := by decide +kernel
theorem qd_M_term_91 : decode qc_M_term 91 = .ok (.ifCond .eq 10, 3) := by decide +kernel
theorem qd_M_term_94 : decode qc_M_term 94 = .ok (.iload 5, 2) := by decide +kernel
theorem qd_M_term_96 : decode qc_M_term 96 = .ok (.bipush 16, 2) := by decide +kernel
theorem qd_M_term_98 : decode qc_M_term 98 = .ok (.if_icmp .le 7, 3) := by decide +kernel
theorem qd_M_term_101 : decode qc_M_term 101 = .ok (.iconst 1, 1) := by decide +kernel
theorem qd_M_term_102 : decode qc_M_term 102 = .ok (.goto 4, 3) := by decide +kernel
theorem qd_M_term_105 : decode qc_M_term 105 = .ok (.iconst 0, 1) := by decide +kernel
theorem qd_M_term_106 : decode qc_M_term 106 = .ok (.putfield 50, 3) := by decide +kernel
theorem qd_M_term_109 : decode qc_M_term 109 = .ok (.aload_n 0, 1) := by decide +kernel
theorem qd_M_term_110 : decode qc_M_term 110 = .ok (.getfield 50, 3) := by decide +kernel
theorem qd_M_term_113 : decode qc_M_term 113 = .ok (.ifCond .eq 5, 3) := by decide +kernel
theorem qd_M_term_116 : decode qc_M_term 116 = .ok (.iconst 0, 1) := by decide +kernel
theorem qd_M_term_117 : decode qc_M_term 117 = .ok (.ireturn, 1) := by decide +kernel
theorem qd_M_term_118 : decode qc_M_term 118 = .ok (.aload_n 0, 1) := by decide +kernel
theorem qd_M_term_119 : decode qc_M_term 119 = .ok (.getfield 19, 3) := by decide +kernel
theorem qd_M_term_122 : decode qc_M_term 122 = .ok (.sipush 2560, 3) := by decide +kernel
theorem qd_M_term_125 : decode qc_M_term 125 = .ok (.iload_n 1, 1) := by decide +kernel
theorem qd_M_term_126 : decode qc_M_term 126 = .ok (.iastore, 1) := by decide +kernel
theorem qd_M_term_127 : decode qc_M_term 127 = .ok (.iconst 1, 1) := by decide +kernel
theorem qd_M_term_128 : decode qc_M_term 128 = .ok (.istore 7, 2) := by decide +kernel
theorem qd_M_term_130 : decode qc_M_term 130 = .ok (.iconst 0, 1) := by decide +kernel
theorem qd_M_term_131 : decode qc_M_term 131 = .ok (.istore 8, 2) := by decide +kernel
theorem qd_M_term_133 : decode qc_M_term 133 = .ok (.iload 8, 2) := by decide +kernel
theorem qd_M_term_135 : decode qc_M_term 135 = .ok (.aload_n 0, 1) := by decide +kernel
theorem qd_M_term_136 : decode qc_M_term 136 = .ok (.getfield 7, 3) := by decide +kernel
theorem qd_M_term_139 : decode qc_M_term 139 = .ok (.iload_n 1, 1) := by decide +kernel
theorem qd_M_term_140 : decode qc_M_term 140 = .ok (.iaload, 1) := by decide +kernel
theorem qd_M_term_141 : decode qc_M_term 141 = .ok (.if_icmp .ge 53, 3) := by decide +kernel
theorem qd_M_term_144 : decode qc_M_term 144 = .ok (.iload 8, 2) := by decide +kernel
theorem qd_M_term_146 : decode qc_M_term 146 = .ok (.ifCond .ne 7, 3) := by decide +kernel
theorem qd_M_term_149 : decode qc_M_term 149 = .ok (.iload_n 2, 1) := by decide +kernel
theorem qd_M_term_150 : decode qc_M_term 150 = .ok (.goto 15, 3) := by decide +kernel
theorem qd_M_term_153 : decode qc_M_term 153 = .ok (.iload 8, 2) := by decide +kernel
theorem qd_M_term_155 : decode qc_M_term 155 = .ok (.iconst 1, 1) := by decide +kernel
theorem qd_M_term_156 : decode qc_M_term 156 = .ok (.if_icmp .ne 7, 3) := by decide +kernel
theorem qd_M_term_159 : decode qc_M_term 159 = .ok (.iload_n 3, 1) := by decide +kernel
theorem qd_M_term_160 : decode qc_M_term 160 = .ok (.goto 5, 3) := by decide +kernel
theorem qd_M_term_163 : decode qc_M_term 163 = .ok (.iload 4, 2) := by decide +kernel
theorem qd_M_term_165 : decode qc_M_term 165 = .ok (.istore 9, 2) := by decide +kernel
theorem qd_M_term_167 : decode qc_M_term 167 = .ok (.aload_n 0, 1) := by decide +kernel
theorem qd_M_term_168 : decode qc_M_term 168 = .ok (.iload 7, 2) := by decide +kernel
theorem qd_M_term_170 : decode qc_M_term 170 = .ok (.bipush 16, 2) := by decide +kernel
theorem qd_M_term_172 : decode qc_M_term 172 = .ok (.iload 9, 2) := by decide +kernel
theorem qd_M_term_174 : decode qc_M_term 174 = .ok (.imul, 1) := by decide +kernel
theorem qd_M_term_175 : decode qc_M_term 175 = .ok (.iconst 0, 1) := by decide +kernel
theorem qd_M_term_176 : decode qc_M_term 176 = .ok (.aload_n 0, 1) := by decide +kernel
theorem qd_M_term_177 : decode qc_M_term 177 = .ok (.getfield 22, 3) := by decide +kernel
theorem qd_M_term_180 : decode qc_M_term 180 = .ok (.iload 9, 2) := by decide +kernel
theorem qd_M_term_182 : decode qc_M_term 182 = .ok (.iaload, 1) := by decide +kernel
theorem qd_M_term_183 : decode qc_M_term 183 = .ok (.invokevirtual 78, 3) := by decide +kernel
theorem qd_M_term_186 : decode qc_M_term 186 = .ok (.istore 7, 2) := by decide +kernel
theorem qd_M_term_188 : decode qc_M_term 188 = .ok (.iinc 8 1, 3) := by decide +kernel
theorem qd_M_term_191 : decode qc_M_term 191 = .ok (.goto (-58), 3) := by decide +kernel
theorem qd_M_term_194 : decode qc_M_term 194 = .ok (.aload_n 0, 1) := by decide +kernel
theorem qd_M_term_195 : decode qc_M_term 195 = .ok (.iload 5, 2) := by decide +kernel
theorem qd_M_term_197 : decode qc_M_term 197 = .ok (.invokevirtual 82, 3) := by decide +kernel
theorem qd_M_term_200 : decode qc_M_term 200 = .ok (.ireturn, 1) := by decide +kernel
abbrev qc_M_has : ByteArray := prog_8_method_15_code
abbrev qy_M_has : MethodName := ⟨"TermOrdersModel", "has", "(II)Z"⟩
abbrev qw_M_has : List Cond := (Jvm.Cond.code ({ cls := "TermOrdersModel", name := "has", desc := "(II)Z" } : Jvm.MethodName) prog_8_method_15_code (4 : Nat) (Option.some Jvm.ClassFile.FieldType.boolean)) :: gw
theorem qd_M_has_0 : decode qc_M_has 0 = .ok (.iconst 0, 1) := by decide +kernel
theorem qd_M_has_1 : decode qc_M_has 1 = .ok (.istore_n 3, 1) := by decide +kernel
theorem qd_M_has_2 : decode qc_M_has 2 = .ok (.iload_n 3, 1) := by decide +kernel
theorem qd_M_has_3 : decode qc_M_has 3 = .ok (.aload_n 0, 1) := by decide +kernel
theorem qd_M_has_4 : decode qc_M_has 4 = .ok (.getfield 22, 3) := by decide +kernel
theorem qd_M_has_7 : decode qc_M_has 7 = .ok (.iload_n 1, 1) := by decide +kernel
theorem qd_M_has_8 : decode qc_M_has 8 = .ok (.iaload, 1) := by decide +kernel
theorem qd_M_has_9 : decode qc_M_has 9 = .ok (.if_icmp .ge 26, 3) := by decide +kernel
theorem qd_M_has_12 : decode qc_M_has 12 = .ok (.aload_n 0, 1) := by decide +kernel
theorem qd_M_has_13 : decode qc_M_has 13 = .ok (.getfield 19, 3) := by decide +kernel
theorem qd_M_has_16 : decode qc_M_has 16 = .ok (.bipush 16, 2) := by decide +kernel
theorem qd_M_has_18 : decode qc_M_has 18 = .ok (.iload_n 1, 1) := by decide +kernel
theorem qd_M_has_19 : decode qc_M_has 19 = .ok (.imul, 1) := by decide +kernel
theorem qd_M_has_20 : decode qc_M_has 20 = .ok (.iload_n 3, 1) := by decide +kernel
theorem qd_M_has_21 : decode qc_M_has 21 = .ok (.iadd, 1) := by decide +kernel
theorem qd_M_has_22 : decode qc_M_has 22 = .ok (.iaload, 1) := by decide +kernel
theorem qd_M_has_23 : decode qc_M_has 23 = .ok (.iload_n 2, 1) := by decide +kernel
theorem qd_M_has_24 : decode qc_M_has 24 = .ok (.if_icmp .ne 5, 3) := by decide +kernel
theorem qd_M_has_27 : decode qc_M_has 27 = .ok (.iconst 1, 1) := by decide +kernel
theorem qd_M_has_28 : decode qc_M_has 28 = .ok (.ireturn, 1) := by decide +kernel
theorem qd_M_has_29 : decode qc_M_has 29 = .ok (.iinc 3 1, 3) := by decide +kernel
theorem qd_M_has_32 : decode qc_M_has 32 = .ok (.goto (-30), 3) := by decide +kernel
theorem qd_M_has_35 : decode qc_M_has 35 = .ok (.iconst 0, 1) := by decide +kernel
theorem qd_M_has_36 : decode qc_M_has 36 = .ok (.ireturn, 1) := by decide +kernel
abbrev qc_M_rule : ByteArray := prog_8_method_16_code
abbrev qy_M_rule : MethodName := ⟨"TermOrdersModel", "rule", "(II)I"⟩
abbrev qw_M_rule : List Cond := (Jvm.Cond.code ({ cls := "TermOrdersModel", name := "rule", desc := "(II)I" } : Jvm.MethodName) prog_8_method_16_code (6 : Nat) (Option.some Jvm.ClassFile.FieldType.int)) :: gw
theorem qd_M_rule_0 : decode qc_M_rule 0 = .ok (.aload_n 0, 1) := by decide +kernel
theorem qd_M_rule_1 : decode qc_M_rule 1 = .ok (.iload_n 1, 1) := by decide +kernel
theorem qd_M_rule_2 : decode qc_M_rule 2 = .ok (.invokevirtual 75, 3) := by decide +kernel
theorem qd_M_rule_5 : decode qc_M_rule 5 = .ok (.ifCond .eq 27, 3) := by decide +kernel
theorem qd_M_rule_8 : decode qc_M_rule 8 = .ok (.aload_n 0, 1) := by decide +kernel
theorem qd_M_rule_9 : decode qc_M_rule 9 = .ok (.iload_n 2, 1) := by decide +kernel
theorem qd_M_rule_10 : decode qc_M_rule 10 = .ok (.invokevirtual 75, 3) := by decide +kernel
theorem qd_M_rule_13 : decode qc_M_rule 13 = .ok (.ifCond .eq 19, 3) := by decide +kernel
theorem qd_M_rule_16 : decode qc_M_rule 16 = .ok (.aload_n 0, 1) := by decide +kernel
theorem qd_M_rule_17 : decode qc_M_rule 17 = .ok (.getfield 19, 3) := by decide +kernel
theorem qd_M_rule_20 : decode qc_M_rule 20 = .ok (.bipush 16, 2) := by decide +kernel
theorem qd_M_rule_22 : decode qc_M_rule 22 = .ok (.iload_n 1, 1) := by decide +kernel
theorem qd_M_rule_23 : decode qc_M_rule 23 = .ok (.imul, 1) := by decide +kernel
theorem qd_M_rule_24 : decode qc_M_rule 24 = .ok (.iaload, 1) := by decide +kernel
theorem qd_M_rule_25 : decode qc_M_rule 25 = .ok (.ifCond .lt 7, 3) := by decide +kernel
theorem qd_M_rule_28 : decode qc_M_rule 28 = .ok (.iconst 1, 1) := by decide +kernel
theorem qd_M_rule_29 : decode qc_M_rule 29 = .ok (.goto 4, 3) := by decide +kernel
theorem qd_M_rule_32 : decode qc_M_rule 32 = .ok (.iconst 0, 1) := by decide +kernel
theorem qd_M_rule_33 : decode qc_M_rule 33 = .ok (.istore_n 3, 1) := by decide +kernel
theorem qd_M_rule_34 : decode qc_M_rule 34 = .ok (.iconst 0, 1) := by decide +kernel
theorem qd_M_rule_35 : decode qc_M_rule 35 = .ok (.istore 4, 2) := by decide +kernel
theorem qd_M_rule_37 : decode qc_M_rule 37 = .ok (.iload_n 3, 1) := by decide +kernel
theorem qd_M_rule_38 : decode qc_M_rule 38 = .ok (.ifCond .eq 55, 3) := by decide +kernel
theorem qd_M_rule_41 : decode qc_M_rule 41 = .ok (.iload 4, 2) := by decide +kernel
theorem qd_M_rule_43 : decode qc_M_rule 43 = .ok (.aload_n 0, 1) := by decide +kernel
theorem qd_M_rule_44 : decode qc_M_rule 44 = .ok (.getfield 22, 3) := by decide +kernel
theorem qd_M_rule_47 : decode qc_M_rule 47 = .ok (.iload_n 2, 1) := by decide +kernel
theorem qd_M_rule_48 : decode qc_M_rule 48 = .ok (.iaload, 1) := by decide +kernel
theorem qd_M_rule_49 : decode qc_M_rule 49 = .ok (.if_icmp .ge 44, 3) := by decide +kernel
theorem qd_M_rule_52 : decode qc_M_rule 52 = .ok (.aload_n 0, 1) := by decide +kernel
theorem qd_M_rule_53 : decode qc_M_rule 53 = .ok (.getfield 19, 3) := by decide +kernel
theorem qd_M_rule_56 : decode qc_M_rule 56 = .ok (.bipush 16, 2) := by decide +kernel
theorem qd_M_rule_58 : decode qc_M_rule 58 = .ok (.iload_n 2, 1) := by decide +kernel
theorem qd_M_rule_59 : decode qc_M_rule 59 = .ok (.imul, 1) := by decide +kernel
theorem qd_M_rule_60 : decode qc_M_rule 60 = .ok (.iload 4, 2) := by decide +kernel
theorem qd_M_rule_62 : decode qc_M_rule 62 = .ok (.iadd, 1) := by decide +kernel
theorem qd_M_rule_63 : decode qc_M_rule 63 = .ok (.iaload, 1) := by decide +kernel
theorem qd_M_rule_64 : decode qc_M_rule 64 = .ok (.istore 5, 2) := by decide +kernel
theorem qd_M_rule_66 : decode qc_M_rule 66 = .ok (.iload 5, 2) := by decide +kernel
theorem qd_M_rule_68 : decode qc_M_rule 68 = .ok (.ifCond .ge 13, 3) := by decide +kernel
theorem qd_M_rule_71 : decode qc_M_rule 71 = .ok (.aload_n 0, 1) := by decide +kernel
theorem qd_M_rule_72 : decode qc_M_rule 72 = .ok (.iload_n 1, 1) := by decide +kernel
theorem qd_M_rule_73 : decode qc_M_rule 73 = .ok (.iload 5, 2) := by decide +kernel
theorem qd_M_rule_75 : decode qc_M_rule 75 = .ok (.invokevirtual 85, 3) := by decide +kernel
theorem qd_M_rule_78 : decode qc_M_rule 78 = .ok (.ifCond .eq 7, 3) := by decide +kernel
theorem qd_M_rule_81 : decode qc_M_rule 81 = .ok (.iconst 1, 1) := by decide +kernel
theorem qd_M_rule_82 : decode qc_M_rule 82 = .ok (.goto 4, 3) := by decide +kernel
theorem qd_M_rule_85 : decode qc_M_rule 85 = .ok (.iconst 0, 1) := by decide +kernel
theorem qd_M_rule_86 : decode qc_M_rule 86 = .ok (.istore_n 3, 1) := by decide +kernel
theorem qd_M_rule_87 : decode qc_M_rule 87 = .ok (.iinc 4 1, 3) := by decide +kernel
theorem qd_M_rule_90 : decode qc_M_rule 90 = .ok (.goto (-53), 3) := by decide +kernel
theorem qd_M_rule_93 : decode qc_M_rule 93 = .ok (.aload_n 0, 1) := by decide +kernel
theorem qd_M_rule_94 : decode qc_M_rule 94 = .ok (.iload_n 3, 1) := by decide +kernel
theorem qd_M_rule_95 : decode qc_M_rule 95 = .ok (.ifCond .ne 7, 3) := by decide +kernel
theorem qd_M_rule_98 : decode qc_M_rule 98 = .ok (.iconst 1, 1) := by decide +kernel
theorem qd_M_rule_99 : decode qc_M_rule 99 = .ok (.goto 17, 3) := by decide +kernel
theorem qd_M_rule_102 : decode qc_M_rule 102 = .ok (.aload_n 0, 1) := by decide +kernel
theorem qd_M_rule_103 : decode qc_M_rule 103 = .ok (.getfield 89, 3) := by decide +kernel
theorem qd_M_rule_106 : decode qc_M_rule 106 = .ok (.bipush 8, 2) := by decide +kernel
theorem qd_M_rule_108 : decode qc_M_rule 108 = .ok (.if_icmp .ne 7, 3) := by decide +kernel
theorem qd_M_rule_111 : decode qc_M_rule 111 = .ok (.iconst 2, 1) := by decide +kernel
theorem qd_M_rule_112 : decode qc_M_rule 112 = .ok (.goto 4, 3) := by decide +kernel
theorem qd_M_rule_115 : decode qc_M_rule 115 = .ok (.iconst 0, 1) := by decide +kernel
theorem qd_M_rule_116 : decode qc_M_rule 116 = .ok (.putfield 50, 3) := by decide +kernel
theorem qd_M_rule_119 : decode qc_M_rule 119 = .ok (.aload_n 0, 1) := by decide +kernel
theorem qd_M_rule_120 : decode qc_M_rule 120 = .ok (.getfield 50, 3) := by decide +kernel
theorem qd_M_rule_123 : decode qc_M_rule 123 = .ok (.ifCond .eq 5, 3) := by decide +kernel
theorem qd_M_rule_126 : decode qc_M_rule 126 = .ok (.iconst 0, 1) := by decide +kernel
theorem qd_M_rule_127 : decode qc_M_rule 127 = .ok (.ireturn, 1) := by decide +kernel
theorem qd_M_rule_128 : decode qc_M_rule 128 = .ok (.aload_n 0, 1) := by decide +kernel
theorem qd_M_rule_129 : decode qc_M_rule 129 = .ok (.getfield 25, 3) := by decide +kernel
theorem qd_M_rule_132 : decode qc_M_rule 132 = .ok (.aload_n 0, 1) := by decide +kernel
theorem qd_M_rule_133 : decode qc_M_rule 133 = .ok (.getfield 89, 3) := by decide +kernel
theorem qd_M_rule_136 : decode qc_M_rule 136 = .ok (.iload_n 1, 1) := by decide +kernel
theorem qd_M_rule_137 : decode qc_M_rule 137 = .ok (.iastore, 1) := by decide +kernel
theorem qd_M_rule_138 : decode qc_M_rule 138 = .ok (.aload_n 0, 1) := by decide +kernel
theorem qd_M_rule_139 : decode qc_M_rule 139 = .ok (.getfield 28, 3) := by decide +kernel
theorem qd_M_rule_142 : decode qc_M_rule 142 = .ok (.aload_n 0, 1) := by decide +kernel
theorem qd_M_rule_143 : decode qc_M_rule 143 = .ok (.getfield 89, 3) := by decide +kernel
theorem qd_M_rule_146 : decode qc_M_rule 146 = .ok (.iload_n 2, 1) := by decide +kernel
theorem qd_M_rule_147 : decode qc_M_rule 147 = .ok (.iastore, 1) := by decide +kernel
theorem qd_M_rule_148 : decode qc_M_rule 148 = .ok (.aload_n 0, 1) := by decide +kernel
theorem qd_M_rule_149 : decode qc_M_rule 149 = .ok (.dup, 1) := by decide +kernel
theorem qd_M_rule_150 : decode qc_M_rule 150 = .ok (.getfield 89, 3) := by decide +kernel
theorem qd_M_rule_153 : decode qc_M_rule 153 = .ok (.iconst 1, 1) := by decide +kernel
theorem qd_M_rule_154 : decode qc_M_rule 154 = .ok (.iadd, 1) := by decide +kernel
theorem qd_M_rule_155 : decode qc_M_rule 155 = .ok (.putfield 89, 3) := by decide +kernel
theorem qd_M_rule_158 : decode qc_M_rule 158 = .ok (.aload_n 0, 1) := by decide +kernel
theorem qd_M_rule_159 : decode qc_M_rule 159 = .ok (.getfield 89, 3) := by decide +kernel
theorem qd_M_rule_162 : decode qc_M_rule 162 = .ok (.iconst 1, 1) := by decide +kernel
theorem qd_M_rule_163 : decode qc_M_rule 163 = .ok (.isub, 1) := by decide +kernel
theorem qd_M_rule_164 : decode qc_M_rule 164 = .ok (.ireturn, 1) := by decide +kernel
abbrev qc_M_order : ByteArray := prog_8_method_17_code
abbrev qy_M_order : MethodName := ⟨"TermOrdersModel", "order", "(III)V"⟩
abbrev qw_M_order : List Cond := (Jvm.Cond.code ({ cls := "TermOrdersModel", name := "order", desc := "(III)V" } : Jvm.MethodName) prog_8_method_17_code (4 : Nat) (Option.none : Option Jvm.ClassFile.FieldType)) :: gw
theorem qd_M_order_0 : decode qc_M_order 0 = .ok (.aload_n 0, 1) := by decide +kernel
theorem qd_M_order_1 : decode qc_M_order 1 = .ok (.aload_n 0, 1) := by decide +kernel
theorem qd_M_order_2 : decode qc_M_order 2 = .ok (.iload_n 1, 1) := by decide +kernel
theorem qd_M_order_3 : decode qc_M_order 3 = .ok (.invokevirtual 71, 3) := by decide +kernel
theorem qd_M_order_6 : decode qc_M_order 6 = .ok (.ifCond .eq 22, 3) := by decide +kernel
theorem qd_M_order_9 : decode qc_M_order 9 = .ok (.iload_n 2, 1) := by decide +kernel
theorem qd_M_order_10 : decode qc_M_order 10 = .ok (.ifCond .lt 18, 3) := by decide +kernel
theorem qd_M_order_13 : decode qc_M_order 13 = .ok (.iload_n 2, 1) := by decide +kernel
theorem qd_M_order_14 : decode qc_M_order 14 = .ok (.iconst 4, 1) := by decide +kernel
theorem qd_M_order_15 : decode qc_M_order 15 = .ok (.if_icmp .gt 13, 3) := by decide +kernel
theorem qd_M_order_18 : decode qc_M_order 18 = .ok (.iload_n 3, 1) := by decide +kernel
theorem qd_M_order_19 : decode qc_M_order 19 = .ok (.ifCond .lt 9, 3) := by decide +kernel
theorem qd_M_order_22 : decode qc_M_order 22 = .ok (.iload_n 3, 1) := by decide +kernel
theorem qd_M_order_23 : decode qc_M_order 23 = .ok (.bipush 9, 2) := by decide +kernel
theorem qd_M_order_25 : decode qc_M_order 25 = .ok (.if_icmp .le 7, 3) := by decide +kernel
theorem qd_M_order_28 : decode qc_M_order 28 = .ok (.iconst 1, 1) := by decide +kernel
theorem qd_M_order_29 : decode qc_M_order 29 = .ok (.goto 4, 3) := by decide +kernel
theorem qd_M_order_32 : decode qc_M_order 32 = .ok (.iconst 0, 1) := by decide +kernel
theorem qd_M_order_33 : decode qc_M_order 33 = .ok (.putfield 50, 3) := by decide +kernel
theorem qd_M_order_36 : decode qc_M_order 36 = .ok (.aload_n 0, 1) := by decide +kernel
theorem qd_M_order_37 : decode qc_M_order 37 = .ok (.getfield 50, 3) := by decide +kernel
theorem qd_M_order_40 : decode qc_M_order 40 = .ok (.ifCond .ne 17, 3) := by decide +kernel
theorem qd_M_order_43 : decode qc_M_order 43 = .ok (.aload_n 0, 1) := by decide +kernel
theorem qd_M_order_44 : decode qc_M_order 44 = .ok (.getfield 13, 3) := by decide +kernel
theorem qd_M_order_47 : decode qc_M_order 47 = .ok (.iload_n 1, 1) := by decide +kernel
theorem qd_M_order_48 : decode qc_M_order 48 = .ok (.iload_n 2, 1) := by decide +kernel
theorem qd_M_order_49 : decode qc_M_order 49 = .ok (.iastore, 1) := by decide +kernel
theorem qd_M_order_50 : decode qc_M_order 50 = .ok (.aload_n 0, 1) := by decide +kernel
theorem qd_M_order_51 : decode qc_M_order 51 = .ok (.getfield 16, 3) := by decide +kernel
theorem qd_M_order_54 : decode qc_M_order 54 = .ok (.iload_n 1, 1) := by decide +kernel
theorem qd_M_order_55 : decode qc_M_order 55 = .ok (.iload_n 3, 1) := by decide +kernel
theorem qd_M_order_56 : decode qc_M_order 56 = .ok (.iastore, 1) := by decide +kernel
theorem qd_M_order_57 : decode qc_M_order 57 = .ok (.return_, 1) := by decide +kernel
abbrev qc_M_rank : ByteArray := prog_8_method_18_code
abbrev qy_M_rank : MethodName := ⟨"TermOrdersModel", "rank", "(I)I"⟩
abbrev qw_M_rank : List Cond := (Jvm.Cond.code ({ cls := "TermOrdersModel", name := "rank", desc := "(I)I" } : Jvm.MethodName) prog_8_method_18_code (2 : Nat) (Option.some Jvm.ClassFile.FieldType.int)) :: gw
theorem qd_M_rank_0 : decode qc_M_rank 0 = .ok (.aload_n 0, 1) := by decide +kernel
theorem qd_M_rank_1 : decode qc_M_rank 1 = .ok (.aload_n 0, 1) := by decide +kernel
theorem qd_M_rank_2 : decode qc_M_rank 2 = .ok (.iload_n 1, 1) := by decide +kernel
theorem qd_M_rank_3 : decode qc_M_rank 3 = .ok (.invokevirtual 71, 3) := by decide +kernel
theorem qd_M_rank_6 : decode qc_M_rank 6 = .ok (.ifCond .eq 7, 3) := by decide +kernel
theorem qd_M_rank_9 : decode qc_M_rank 9 = .ok (.iconst 0, 1) := by decide +kernel
theorem qd_M_rank_10 : decode qc_M_rank 10 = .ok (.goto 4, 3) := by decide +kernel
theorem qd_M_rank_13 : decode qc_M_rank 13 = .ok (.iconst 1, 1) := by decide +kernel
theorem qd_M_rank_14 : decode qc_M_rank 14 = .ok (.putfield 50, 3) := by decide +kernel
theorem qd_M_rank_17 : decode qc_M_rank 17 = .ok (.aload_n 0, 1) := by decide +kernel
theorem qd_M_rank_18 : decode qc_M_rank 18 = .ok (.getfield 50, 3) := by decide +kernel
theorem qd_M_rank_21 : decode qc_M_rank 21 = .ok (.ifCond .ne 12, 3) := by decide +kernel
theorem qd_M_rank_24 : decode qc_M_rank 24 = .ok (.aload_n 0, 1) := by decide +kernel
theorem qd_M_rank_25 : decode qc_M_rank 25 = .ok (.getfield 13, 3) := by decide +kernel
theorem qd_M_rank_28 : decode qc_M_rank 28 = .ok (.iload_n 1, 1) := by decide +kernel
theorem qd_M_rank_29 : decode qc_M_rank 29 = .ok (.iaload, 1) := by decide +kernel
theorem qd_M_rank_30 : decode qc_M_rank 30 = .ok (.goto 4, 3) := by decide +kernel
theorem qd_M_rank_33 : decode qc_M_rank 33 = .ok (.iconst 0, 1) := by decide +kernel
theorem qd_M_rank_34 : decode qc_M_rank 34 = .ok (.ireturn, 1) := by decide +kernel
abbrev qc_M_path : ByteArray := prog_8_method_19_code
abbrev qy_M_path : MethodName := ⟨"TermOrdersModel", "path", "(IIII)Z"⟩
abbrev qw_M_path : List Cond := (Jvm.Cond.code ({ cls := "TermOrdersModel", name := "path", desc := "(IIII)Z" } : Jvm.MethodName) prog_8_method_19_code (10 : Nat) (Option.some Jvm.ClassFile.FieldType.boolean)) :: gw
theorem qd_M_path_0 : decode qc_M_path 0 = .ok (.iload_n 2, 1) := by decide +kernel
theorem qd_M_path_1 : decode qc_M_path 1 = .ok (.iconst 1, 1) := by decide +kernel
theorem qd_M_path_2 : decode qc_M_path 2 = .ok (.iadd, 1) := by decide +kernel
theorem qd_M_path_3 : decode qc_M_path 3 = .ok (.istore 5, 2) := by decide +kernel
theorem qd_M_path_5 : decode qc_M_path 5 = .ok (.aload_n 0, 1) := by decide +kernel
theorem qd_M_path_6 : decode qc_M_path 6 = .ok (.getfield 19, 3) := by decide +kernel
theorem qd_M_path_9 : decode qc_M_path 9 = .ok (.iload_n 1, 1) := by decide +kernel
theorem qd_M_path_10 : decode qc_M_path 10 = .ok (.iload_n 2, 1) := by decide +kernel
theorem qd_M_path_11 : decode qc_M_path 11 = .ok (.iadd, 1) := by decide +kernel
theorem qd_M_path_12 : decode qc_M_path 12 = .ok (.iaload, 1) := by decide +kernel
theorem qd_M_path_13 : decode qc_M_path 13 = .ok (.istore 6, 2) := by decide +kernel
theorem qd_M_path_15 : decode qc_M_path 15 = .ok (.aload_n 0, 1) := by decide +kernel
theorem qd_M_path_16 : decode qc_M_path 16 = .ok (.getfield 19, 3) := by decide +kernel
theorem qd_M_path_19 : decode qc_M_path 19 = .ok (.iload_n 3, 1) := by decide +kernel
theorem qd_M_path_20 : decode qc_M_path 20 = .ok (.iload 4, 2) := by decide +kernel
theorem qd_M_path_22 : decode qc_M_path 22 = .ok (.iadd, 1) := by decide +kernel
theorem qd_M_path_23 : decode qc_M_path 23 = .ok (.iaload, 1) := by decide +kernel
theorem qd_M_path_24 : decode qc_M_path 24 = .ok (.istore 7, 2) := by decide +kernel
theorem qd_M_path_26 : decode qc_M_path 26 = .ok (.iconst 0, 1) := by decide +kernel
theorem qd_M_path_27 : decode qc_M_path 27 = .ok (.istore 8, 2) := by decide +kernel
theorem qd_M_path_29 : decode qc_M_path 29 = .ok (.iload 8, 2) := by decide +kernel
theorem qd_M_path_31 : decode qc_M_path 31 = .ok (.aload_n 0, 1) := by decide +kernel
theorem qd_M_path_32 : decode qc_M_path 32 = .ok (.iload 6, 2) := by decide +kernel
theorem qd_M_path_34 : decode qc_M_path 34 = .ok (.invokevirtual 54, 3) := by decide +kernel
theorem qd_M_path_37 : decode qc_M_path 37 = .ok (.if_icmp .ge 49, 3) := by decide +kernel
theorem qd_M_path_40 : decode qc_M_path 40 = .ok (.aload_n 0, 1) := by decide +kernel
theorem qd_M_path_41 : decode qc_M_path 41 = .ok (.getfield 40, 3) := by decide +kernel
theorem qd_M_path_44 : decode qc_M_path 44 = .ok (.bipush 16, 2) := by decide +kernel
theorem qd_M_path_46 : decode qc_M_path 46 = .ok (.iload 5, 2) := by decide +kernel
theorem qd_M_path_48 : decode qc_M_path 48 = .ok (.imul, 1) := by decide +kernel
theorem qd_M_path_49 : decode qc_M_path 49 = .ok (.iload 4, 2) := by decide +kernel
theorem qd_M_path_51 : decode qc_M_path 51 = .ok (.iadd, 1) := by decide +kernel
theorem qd_M_path_52 : decode qc_M_path 52 = .ok (.baload, 1) := by decide +kernel
theorem qd_M_path_53 : decode qc_M_path 53 = .ok (.ifCond .ne 16, 3) := by decide +kernel
theorem qd_M_path_56 : decode qc_M_path 56 = .ok (.aload_n 0, 1) := by decide +kernel
theorem qd_M_path_57 : decode qc_M_path 57 = .ok (.iload_n 1, 1) := by decide +kernel
theorem qd_M_path_58 : decode qc_M_path 58 = .ok (.iload 5, 2) := by decide +kernel
theorem qd_M_path_60 : decode qc_M_path 60 = .ok (.iload_n 3, 1) := by decide +kernel
theorem qd_M_path_61 : decode qc_M_path 61 = .ok (.iload 4, 2) := by decide +kernel
theorem qd_M_path_63 : decode qc_M_path 63 = .ok (.invokevirtual 92, 3) := by decide +kernel
theorem qd_M_path_66 : decode qc_M_path 66 = .ok (.ifCond .eq 5, 3) := by decide +kernel
theorem qd_M_path_69 : decode qc_M_path 69 = .ok (.iconst 1, 1) := by decide +kernel
theorem qd_M_path_70 : decode qc_M_path 70 = .ok (.ireturn, 1) := by decide +kernel
theorem qd_M_path_71 : decode qc_M_path 71 = .ok (.aload_n 0, 1) := by decide +kernel
theorem qd_M_path_72 : decode qc_M_path 72 = .ok (.getfield 37, 3) := by decide +kernel
theorem qd_M_path_75 : decode qc_M_path 75 = .ok (.iload 5, 2) := by decide +kernel
theorem qd_M_path_77 : decode qc_M_path 77 = .ok (.iaload, 1) := by decide +kernel
theorem qd_M_path_78 : decode qc_M_path 78 = .ok (.istore 5, 2) := by decide +kernel
theorem qd_M_path_80 : decode qc_M_path 80 = .ok (.iinc 8 1, 3) := by decide +kernel
theorem qd_M_path_83 : decode qc_M_path 83 = .ok (.goto (-54), 3) := by decide +kernel
theorem qd_M_path_86 : decode qc_M_path 86 = .ok (.iload 6, 2) := by decide +kernel
theorem qd_M_path_88 : decode qc_M_path 88 = .ok (.ifCond .lt 32, 3) := by decide +kernel
theorem qd_M_path_91 : decode qc_M_path 91 = .ok (.iload 7, 2) := by decide +kernel
theorem qd_M_path_93 : decode qc_M_path 93 = .ok (.ifCond .lt 27, 3) := by decide +kernel
theorem qd_M_path_96 : decode qc_M_path 96 = .ok (.iload 6, 2) := by decide +kernel
theorem qd_M_path_98 : decode qc_M_path 98 = .ok (.iload 7, 2) := by decide +kernel
theorem qd_M_path_100 : decode qc_M_path 100 = .ok (.if_icmp .eq 22, 3) := by decide +kernel
theorem qd_M_path_103 : decode qc_M_path 103 = .ok (.aload_n 0, 1) := by decide +kernel
theorem qd_M_path_104 : decode qc_M_path 104 = .ok (.getfield 13, 3) := by decide +kernel
theorem qd_M_path_107 : decode qc_M_path 107 = .ok (.iload 6, 2) := by decide +kernel
theorem qd_M_path_109 : decode qc_M_path 109 = .ok (.iaload, 1) := by decide +kernel
theorem qd_M_path_110 : decode qc_M_path 110 = .ok (.aload_n 0, 1) := by decide +kernel
theorem qd_M_path_111 : decode qc_M_path 111 = .ok (.getfield 13, 3) := by decide +kernel
theorem qd_M_path_114 : decode qc_M_path 114 = .ok (.iload 7, 2) := by decide +kernel
theorem qd_M_path_116 : decode qc_M_path 116 = .ok (.iaload, 1) := by decide +kernel
theorem qd_M_path_117 : decode qc_M_path 117 = .ok (.if_icmp .gt 5, 3) := by decide +kernel
theorem qd_M_path_120 : decode qc_M_path 120 = .ok (.iconst 0, 1) := by decide +kernel
theorem qd_M_path_121 : decode qc_M_path 121 = .ok (.ireturn, 1) := by decide +kernel
theorem qd_M_path_122 : decode qc_M_path 122 = .ok (.iload 4, 2) := by decide +kernel
theorem qd_M_path_124 : decode qc_M_path 124 = .ok (.iconst 1, 1) := by decide +kernel
theorem qd_M_path_125 : decode qc_M_path 125 = .ok (.iadd, 1) := by decide +kernel
theorem qd_M_path_126 : decode qc_M_path 126 = .ok (.istore 8, 2) := by decide +kernel
theorem qd_M_path_128 : decode qc_M_path 128 = .ok (.iconst 0, 1) := by decide +kernel
theorem qd_M_path_129 : decode qc_M_path 129 = .ok (.istore 9, 2) := by decide +kernel
theorem qd_M_path_131 : decode qc_M_path 131 = .ok (.iload 9, 2) := by decide +kernel
theorem qd_M_path_133 : decode qc_M_path 133 = .ok (.aload_n 0, 1) := by decide +kernel
theorem qd_M_path_134 : decode qc_M_path 134 = .ok (.iload 7, 2) := by decide +kernel
theorem qd_M_path_136 : decode qc_M_path 136 = .ok (.invokevirtual 54, 3) := by decide +kernel
theorem qd_M_path_139 : decode qc_M_path 139 = .ok (.if_icmp .ge 38, 3) := by decide +kernel
theorem qd_M_path_142 : decode qc_M_path 142 = .ok (.aload_n 0, 1) := by decide +kernel
theorem qd_M_path_143 : decode qc_M_path 143 = .ok (.getfield 40, 3) := by decide +kernel
theorem qd_M_path_146 : decode qc_M_path 146 = .ok (.bipush 16, 2) := by decide +kernel
theorem qd_M_path_148 : decode qc_M_path 148 = .ok (.iload_n 2, 1) := by decide +kernel
theorem qd_M_path_149 : decode qc_M_path 149 = .ok (.imul, 1) := by decide +kernel
theorem qd_M_path_150 : decode qc_M_path 150 = .ok (.iload 8, 2) := by decide +kernel
theorem qd_M_path_152 : decode qc_M_path 152 = .ok (.iadd, 1) := by decide +kernel
theorem qd_M_path_153 : decode qc_M_path 153 = .ok (.baload, 1) := by decide +kernel
theorem qd_M_path_154 : decode qc_M_path 154 = .ok (.ifCond .ne 5, 3) := by decide +kernel
theorem qd_M_path_157 : decode qc_M_path 157 = .ok (.iconst 0, 1) := by decide +kernel
theorem qd_M_path_158 : decode qc_M_path 158 = .ok (.ireturn, 1) := by decide +kernel
theorem qd_M_path_159 : decode qc_M_path 159 = .ok (.aload_n 0, 1) := by decide +kernel
theorem qd_M_path_160 : decode qc_M_path 160 = .ok (.getfield 37, 3) := by decide +kernel
theorem qd_M_path_163 : decode qc_M_path 163 = .ok (.bipush 16, 2) := by decide +kernel
theorem qd_M_path_165 : decode qc_M_path 165 = .ok (.iload 8, 2) := by decide +kernel
theorem qd_M_path_167 : decode qc_M_path 167 = .ok (.iadd, 1) := by decide +kernel
theorem qd_M_path_168 : decode qc_M_path 168 = .ok (.iaload, 1) := by decide +kernel
theorem qd_M_path_169 : decode qc_M_path 169 = .ok (.istore 8, 2) := by decide +kernel
theorem qd_M_path_171 : decode qc_M_path 171 = .ok (.iinc 9 1, 3) := by decide +kernel
theorem qd_M_path_174 : decode qc_M_path 174 = .ok (.goto (-43), 3) := by decide +kernel
theorem qd_M_path_177 : decode qc_M_path 177 = .ok (.iload 6, 2) := by decide +kernel
theorem qd_M_path_179 : decode qc_M_path 179 = .ok (.iload 7, 2) := by decide +kernel
theorem qd_M_path_181 : decode qc_M_path 181 = .ok (.if_icmp .ne 15, 3) := by decide +kernel
theorem qd_M_path_184 : decode qc_M_path 184 = .ok (.aload_n 0, 1) := by decide +kernel
theorem qd_M_path_185 : decode qc_M_path 185 = .ok (.iload_n 1, 1) := by decide +kernel
theorem qd_M_path_186 : decode qc_M_path 186 = .ok (.iload_n 2, 1) := by decide +kernel
theorem qd_M_path_187 : decode qc_M_path 187 = .ok (.iload_n 3, 1) := by decide +kernel
theorem qd_M_path_188 : decode qc_M_path 188 = .ok (.iload 4, 2) := by decide +kernel
theorem qd_M_path_190 : decode qc_M_path 190 = .ok (.invokevirtual 96, 3) := by decide +kernel
theorem qd_M_path_193 : decode qc_M_path 193 = .ok (.ifCond .eq 7, 3) := by decide +kernel
theorem qd_M_path_196 : decode qc_M_path 196 = .ok (.iconst 1, 1) := by decide +kernel
theorem qd_M_path_197 : decode qc_M_path 197 = .ok (.goto 4, 3) := by decide +kernel
theorem qd_M_path_200 : decode qc_M_path 200 = .ok (.iconst 0, 1) := by decide +kernel
theorem qd_M_path_201 : decode qc_M_path 201 = .ok (.ireturn, 1) := by decide +kernel
abbrev qc_M_inOrder : ByteArray := prog_8_method_20_code
abbrev qy_M_inOrder : MethodName := ⟨"TermOrdersModel", "inOrder", "(IIII)Z"⟩
abbrev qw_M_inOrder : List Cond := (Jvm.Cond.code ({ cls := "TermOrdersModel", name := "inOrder", desc := "(IIII)Z" } : Jvm.MethodName) prog_8_method_20_code (8 : Nat) (Option.some Jvm.ClassFile.FieldType.boolean)) :: gw
theorem qd_M_inOrder_0 : decode qc_M_inOrder 0 = .ok (.iload_n 2, 1) := by decide +kernel
theorem qd_M_inOrder_1 : decode qc_M_inOrder 1 = .ok (.iconst 1, 1) := by decide +kernel
theorem qd_M_inOrder_2 : decode qc_M_inOrder 2 = .ok (.iadd, 1) := by decide +kernel
theorem qd_M_inOrder_3 : decode qc_M_inOrder 3 = .ok (.istore 5, 2) := by decide +kernel
theorem qd_M_inOrder_5 : decode qc_M_inOrder 5 = .ok (.iload 4, 2) := by decide +kernel
theorem qd_M_inOrder_7 : decode qc_M_inOrder 7 = .ok (.iconst 1, 1) := by decide +kernel
theorem qd_M_inOrder_8 : decode qc_M_inOrder 8 = .ok (.iadd, 1) := by decide +kernel
theorem qd_M_inOrder_9 : decode qc_M_inOrder 9 = .ok (.istore 6, 2) := by decide +kernel
theorem qd_M_inOrder_11 : decode qc_M_inOrder 11 = .ok (.iconst 0, 1) := by decide +kernel
theorem qd_M_inOrder_12 : decode qc_M_inOrder 12 = .ok (.istore 7, 2) := by decide +kernel
theorem qd_M_inOrder_14 : decode qc_M_inOrder 14 = .ok (.iload 7, 2) := by decide +kernel
theorem qd_M_inOrder_16 : decode qc_M_inOrder 16 = .ok (.aload_n 0, 1) := by decide +kernel
theorem qd_M_inOrder_17 : decode qc_M_inOrder 17 = .ok (.aload_n 0, 1) := by decide +kernel
theorem qd_M_inOrder_18 : decode qc_M_inOrder 18 = .ok (.getfield 19, 3) := by decide +kernel
theorem qd_M_inOrder_21 : decode qc_M_inOrder 21 = .ok (.iload_n 1, 1) := by decide +kernel
theorem qd_M_inOrder_22 : decode qc_M_inOrder 22 = .ok (.iload_n 2, 1) := by decide +kernel
theorem qd_M_inOrder_23 : decode qc_M_inOrder 23 = .ok (.iadd, 1) := by decide +kernel
theorem qd_M_inOrder_24 : decode qc_M_inOrder 24 = .ok (.iaload, 1) := by decide +kernel
theorem qd_M_inOrder_25 : decode qc_M_inOrder 25 = .ok (.invokevirtual 54, 3) := by decide +kernel
theorem qd_M_inOrder_28 : decode qc_M_inOrder 28 = .ok (.if_icmp .ge 57, 3) := by decide +kernel
theorem qd_M_inOrder_31 : decode qc_M_inOrder 31 = .ok (.aload_n 0, 1) := by decide +kernel
theorem qd_M_inOrder_32 : decode qc_M_inOrder 32 = .ok (.iload_n 1, 1) := by decide +kernel
theorem qd_M_inOrder_33 : decode qc_M_inOrder 33 = .ok (.iload 5, 2) := by decide +kernel
theorem qd_M_inOrder_35 : decode qc_M_inOrder 35 = .ok (.iload_n 3, 1) := by decide +kernel
theorem qd_M_inOrder_36 : decode qc_M_inOrder 36 = .ok (.iload 6, 2) := by decide +kernel
theorem qd_M_inOrder_38 : decode qc_M_inOrder 38 = .ok (.invokevirtual 92, 3) := by decide +kernel
theorem qd_M_inOrder_41 : decode qc_M_inOrder 41 = .ok (.ifCond .ne 17, 3) := by decide +kernel
theorem qd_M_inOrder_44 : decode qc_M_inOrder 44 = .ok (.aload_n 0, 1) := by decide +kernel
theorem qd_M_inOrder_45 : decode qc_M_inOrder 45 = .ok (.getfield 40, 3) := by decide +kernel
theorem qd_M_inOrder_48 : decode qc_M_inOrder 48 = .ok (.bipush 16, 2) := by decide +kernel
theorem qd_M_inOrder_50 : decode qc_M_inOrder 50 = .ok (.iload 5, 2) := by decide +kernel
theorem qd_M_inOrder_52 : decode qc_M_inOrder 52 = .ok (.imul, 1) := by decide +kernel
theorem qd_M_inOrder_53 : decode qc_M_inOrder 53 = .ok (.iload 6, 2) := by decide +kernel
theorem qd_M_inOrder_55 : decode qc_M_inOrder 55 = .ok (.iadd, 1) := by decide +kernel
theorem qd_M_inOrder_56 : decode qc_M_inOrder 56 = .ok (.baload, 1) := by decide +kernel
theorem qd_M_inOrder_57 : decode qc_M_inOrder 57 = .ok (.ireturn, 1) := by decide +kernel
theorem qd_M_inOrder_58 : decode qc_M_inOrder 58 = .ok (.aload_n 0, 1) := by decide +kernel
theorem qd_M_inOrder_59 : decode qc_M_inOrder 59 = .ok (.getfield 37, 3) := by decide +kernel
theorem qd_M_inOrder_62 : decode qc_M_inOrder 62 = .ok (.iload 5, 2) := by decide +kernel
theorem qd_M_inOrder_64 : decode qc_M_inOrder 64 = .ok (.iaload, 1) := by decide +kernel
theorem qd_M_inOrder_65 : decode qc_M_inOrder 65 = .ok (.istore 5, 2) := by decide +kernel
theorem qd_M_inOrder_67 : decode qc_M_inOrder 67 = .ok (.aload_n 0, 1) := by decide +kernel
theorem qd_M_inOrder_68 : decode qc_M_inOrder 68 = .ok (.getfield 37, 3) := by decide +kernel
theorem qd_M_inOrder_71 : decode qc_M_inOrder 71 = .ok (.bipush 16, 2) := by decide +kernel
theorem qd_M_inOrder_73 : decode qc_M_inOrder 73 = .ok (.iload 6, 2) := by decide +kernel
theorem qd_M_inOrder_75 : decode qc_M_inOrder 75 = .ok (.iadd, 1) := by decide +kernel
theorem qd_M_inOrder_76 : decode qc_M_inOrder 76 = .ok (.iaload, 1) := by decide +kernel
theorem qd_M_inOrder_77 : decode qc_M_inOrder 77 = .ok (.istore 6, 2) := by decide +kernel
theorem qd_M_inOrder_79 : decode qc_M_inOrder 79 = .ok (.iinc 7 1, 3) := by decide +kernel
theorem qd_M_inOrder_82 : decode qc_M_inOrder 82 = .ok (.goto (-68), 3) := by decide +kernel
theorem qd_M_inOrder_85 : decode qc_M_inOrder 85 = .ok (.iconst 0, 1) := by decide +kernel
theorem qd_M_inOrder_86 : decode qc_M_inOrder 86 = .ok (.ireturn, 1) := by decide +kernel
abbrev qc_M_times : ByteArray := prog_8_method_21_code
abbrev qy_M_times : MethodName := ⟨"TermOrdersModel", "times", "(IIII)I"⟩
abbrev qw_M_times : List Cond := (Jvm.Cond.code ({ cls := "TermOrdersModel", name := "times", desc := "(IIII)I" } : Jvm.MethodName) prog_8_method_21_code (7 : Nat) (Option.some Jvm.ClassFile.FieldType.int)) :: gw
theorem qd_M_times_0 : decode qc_M_times 0 = .ok (.iconst 0, 1) := by decide +kernel
theorem qd_M_times_1 : decode qc_M_times 1 = .ok (.istore 5, 2) := by decide +kernel
theorem qd_M_times_3 : decode qc_M_times 3 = .ok (.iload_n 2, 1) := by decide +kernel
theorem qd_M_times_4 : decode qc_M_times 4 = .ok (.istore 6, 2) := by decide +kernel
theorem qd_M_times_6 : decode qc_M_times 6 = .ok (.iload 6, 2) := by decide +kernel
theorem qd_M_times_8 : decode qc_M_times 8 = .ok (.iload_n 3, 1) := by decide +kernel
theorem qd_M_times_9 : decode qc_M_times 9 = .ok (.if_icmp .ge 34, 3) := by decide +kernel
theorem qd_M_times_12 : decode qc_M_times 12 = .ok (.aload_n 0, 1) := by decide +kernel
theorem qd_M_times_13 : decode qc_M_times 13 = .ok (.getfield 19, 3) := by decide +kernel
theorem qd_M_times_16 : decode qc_M_times 16 = .ok (.iload_n 1, 1) := by decide +kernel
theorem qd_M_times_17 : decode qc_M_times 17 = .ok (.iload 6, 2) := by decide +kernel
theorem qd_M_times_19 : decode qc_M_times 19 = .ok (.iadd, 1) := by decide +kernel
theorem qd_M_times_20 : decode qc_M_times 20 = .ok (.iaload, 1) := by decide +kernel
theorem qd_M_times_21 : decode qc_M_times 21 = .ok (.iload 4, 2) := by decide +kernel
theorem qd_M_times_23 : decode qc_M_times 23 = .ok (.if_icmp .ne 10, 3) := by decide +kernel
theorem qd_M_times_26 : decode qc_M_times 26 = .ok (.iload 5, 2) := by decide +kernel
theorem qd_M_times_28 : decode qc_M_times 28 = .ok (.iconst 1, 1) := by decide +kernel
theorem qd_M_times_29 : decode qc_M_times 29 = .ok (.iadd, 1) := by decide +kernel
theorem qd_M_times_30 : decode qc_M_times 30 = .ok (.goto 5, 3) := by decide +kernel
theorem qd_M_times_33 : decode qc_M_times 33 = .ok (.iload 5, 2) := by decide +kernel
theorem qd_M_times_35 : decode qc_M_times 35 = .ok (.istore 5, 2) := by decide +kernel
theorem qd_M_times_37 : decode qc_M_times 37 = .ok (.iinc 6 1, 3) := by decide +kernel
theorem qd_M_times_40 : decode qc_M_times 40 = .ok (.goto (-34), 3) := by decide +kernel
theorem qd_M_times_43 : decode qc_M_times 43 = .ok (.iload 5, 2) := by decide +kernel
theorem qd_M_times_45 : decode qc_M_times 45 = .ok (.ireturn, 1) := by decide +kernel
abbrev qc_M_weighs : ByteArray := prog_8_method_22_code
abbrev qy_M_weighs : MethodName := ⟨"TermOrdersModel", "weighs", "(IIII)Z"⟩
abbrev qw_M_weighs : List Cond := (Jvm.Cond.code ({ cls := "TermOrdersModel", name := "weighs", desc := "(IIII)Z" } : Jvm.MethodName) prog_8_method_22_code (10 : Nat) (Option.some Jvm.ClassFile.FieldType.boolean)) :: gw
theorem qd_M_weighs_0 : decode qc_M_weighs 0 = .ok (.iconst 0, 1) := by decide +kernel
theorem qd_M_weighs_1 : decode qc_M_weighs 1 = .ok (.istore 5, 2) := by decide +kernel
theorem qd_M_weighs_3 : decode qc_M_weighs 3 = .ok (.iload 5, 2) := by decide +kernel
theorem qd_M_weighs_5 : decode qc_M_weighs 5 = .ok (.iconst 4, 1) := by decide +kernel
theorem qd_M_weighs_6 : decode qc_M_weighs 6 = .ok (.if_icmp .ge 51, 3) := by decide +kernel
theorem qd_M_weighs_9 : decode qc_M_weighs 9 = .ok (.aload_n 0, 1) := by decide +kernel
theorem qd_M_weighs_10 : decode qc_M_weighs 10 = .ok (.iload_n 3, 1) := by decide +kernel
theorem qd_M_weighs_11 : decode qc_M_weighs 11 = .ok (.iload 4, 2) := by decide +kernel
theorem qd_M_weighs_13 : decode qc_M_weighs 13 = .ok (.aload_n 0, 1) := by decide +kernel
theorem qd_M_weighs_14 : decode qc_M_weighs 14 = .ok (.getfield 37, 3) := by decide +kernel
theorem qd_M_weighs_17 : decode qc_M_weighs 17 = .ok (.bipush 16, 2) := by decide +kernel
theorem qd_M_weighs_19 : decode qc_M_weighs 19 = .ok (.iload 4, 2) := by decide +kernel
theorem qd_M_weighs_21 : decode qc_M_weighs 21 = .ok (.iadd, 1) := by decide +kernel
theorem qd_M_weighs_22 : decode qc_M_weighs 22 = .ok (.iaload, 1) := by decide +kernel
theorem qd_M_weighs_23 : decode qc_M_weighs 23 = .ok (.iconst (-1), 1) := by decide +kernel
theorem qd_M_weighs_24 : decode qc_M_weighs 24 = .ok (.iload 5, 2) := by decide +kernel
theorem qd_M_weighs_26 : decode qc_M_weighs 26 = .ok (.isub, 1) := by decide +kernel
theorem qd_M_weighs_27 : decode qc_M_weighs 27 = .ok (.invokevirtual 99, 3) := by decide +kernel
theorem qd_M_weighs_30 : decode qc_M_weighs 30 = .ok (.aload_n 0, 1) := by decide +kernel
theorem qd_M_weighs_31 : decode qc_M_weighs 31 = .ok (.iload_n 1, 1) := by decide +kernel
theorem qd_M_weighs_32 : decode qc_M_weighs 32 = .ok (.iload_n 2, 1) := by decide +kernel
theorem qd_M_weighs_33 : decode qc_M_weighs 33 = .ok (.aload_n 0, 1) := by decide +kernel
theorem qd_M_weighs_34 : decode qc_M_weighs 34 = .ok (.getfield 37, 3) := by decide +kernel
theorem qd_M_weighs_37 : decode qc_M_weighs 37 = .ok (.iload_n 2, 1) := by decide +kernel
theorem qd_M_weighs_38 : decode qc_M_weighs 38 = .ok (.iaload, 1) := by decide +kernel
theorem qd_M_weighs_39 : decode qc_M_weighs 39 = .ok (.iconst (-1), 1) := by decide +kernel
theorem qd_M_weighs_40 : decode qc_M_weighs 40 = .ok (.iload 5, 2) := by decide +kernel
theorem qd_M_weighs_42 : decode qc_M_weighs 42 = .ok (.isub, 1) := by decide +kernel
theorem qd_M_weighs_43 : decode qc_M_weighs 43 = .ok (.invokevirtual 99, 3) := by decide +kernel
theorem qd_M_weighs_46 : decode qc_M_weighs 46 = .ok (.if_icmp .le 5, 3) := by decide +kernel
theorem qd_M_weighs_49 : decode qc_M_weighs 49 = .ok (.iconst 0, 1) := by decide +kernel
theorem qd_M_weighs_50 : decode qc_M_weighs 50 = .ok (.ireturn, 1) := by decide +kernel
theorem qd_M_weighs_51 : decode qc_M_weighs 51 = .ok (.iinc 5 1, 3) := by decide +kernel
theorem qd_M_weighs_54 : decode qc_M_weighs 54 = .ok (.goto (-51), 3) := by decide +kernel
theorem qd_M_weighs_57 : decode qc_M_weighs 57 = .ok (.aload_n 0, 1) := by decide +kernel
theorem qd_M_weighs_58 : decode qc_M_weighs 58 = .ok (.getfield 19, 3) := by decide +kernel
theorem qd_M_weighs_61 : decode qc_M_weighs 61 = .ok (.iload_n 1, 1) := by decide +kernel
theorem qd_M_weighs_62 : decode qc_M_weighs 62 = .ok (.iload_n 2, 1) := by decide +kernel
theorem qd_M_weighs_63 : decode qc_M_weighs 63 = .ok (.iadd, 1) := by decide +kernel
theorem qd_M_weighs_64 : decode qc_M_weighs 64 = .ok (.iaload, 1) := by decide +kernel
theorem qd_M_weighs_65 : decode qc_M_weighs 65 = .ok (.istore 5, 2) := by decide +kernel
theorem qd_M_weighs_67 : decode qc_M_weighs 67 = .ok (.aload_n 0, 1) := by decide +kernel
theorem qd_M_weighs_68 : decode qc_M_weighs 68 = .ok (.getfield 19, 3) := by decide +kernel
theorem qd_M_weighs_71 : decode qc_M_weighs 71 = .ok (.iload_n 3, 1) := by decide +kernel
theorem qd_M_weighs_72 : decode qc_M_weighs 72 = .ok (.iload 4, 2) := by decide +kernel
theorem qd_M_weighs_74 : decode qc_M_weighs 74 = .ok (.iadd, 1) := by decide +kernel
theorem qd_M_weighs_75 : decode qc_M_weighs 75 = .ok (.iaload, 1) := by decide +kernel
theorem qd_M_weighs_76 : decode qc_M_weighs 76 = .ok (.istore 6, 2) := by decide +kernel
theorem qd_M_weighs_78 : decode qc_M_weighs 78 = .ok (.aload_n 0, 1) := by decide +kernel
theorem qd_M_weighs_79 : decode qc_M_weighs 79 = .ok (.getfield 34, 3) := by decide +kernel
theorem qd_M_weighs_82 : decode qc_M_weighs 82 = .ok (.iload_n 2, 1) := by decide +kernel
theorem qd_M_weighs_83 : decode qc_M_weighs 83 = .ok (.iaload, 1) := by decide +kernel
theorem qd_M_weighs_84 : decode qc_M_weighs 84 = .ok (.aload_n 0, 1) := by decide +kernel
theorem qd_M_weighs_85 : decode qc_M_weighs 85 = .ok (.getfield 34, 3) := by decide +kernel
theorem qd_M_weighs_88 : decode qc_M_weighs 88 = .ok (.bipush 16, 2) := by decide +kernel
theorem qd_M_weighs_90 : decode qc_M_weighs 90 = .ok (.iload 4, 2) := by decide +kernel
theorem qd_M_weighs_92 : decode qc_M_weighs 92 = .ok (.iadd, 1) := by decide +kernel
theorem qd_M_weighs_93 : decode qc_M_weighs 93 = .ok (.iaload, 1) := by decide +kernel
theorem qd_M_weighs_94 : decode qc_M_weighs 94 = .ok (.if_icmp .eq 28, 3) := by decide +kernel
theorem qd_M_weighs_97 : decode qc_M_weighs 97 = .ok (.aload_n 0, 1) := by decide +kernel
theorem qd_M_weighs_98 : decode qc_M_weighs 98 = .ok (.getfield 34, 3) := by decide +kernel
theorem qd_M_weighs_101 : decode qc_M_weighs 101 = .ok (.iload_n 2, 1) := by decide +kernel
theorem qd_M_weighs_102 : decode qc_M_weighs 102 = .ok (.iaload, 1) := by decide +kernel
theorem qd_M_weighs_103 : decode qc_M_weighs 103 = .ok (.aload_n 0, 1) := by decide +kernel
theorem qd_M_weighs_104 : decode qc_M_weighs 104 = .ok (.getfield 34, 3) := by decide +kernel
theorem qd_M_weighs_107 : decode qc_M_weighs 107 = .ok (.bipush 16, 2) := by decide +kernel
theorem qd_M_weighs_109 : decode qc_M_weighs 109 = .ok (.iload 4, 2) := by decide +kernel
theorem qd_M_weighs_111 : decode qc_M_weighs 111 = .ok (.iadd, 1) := by decide +kernel
theorem qd_M_weighs_112 : decode qc_M_weighs 112 = .ok (.iaload, 1) := by decide +kernel
theorem qd_M_weighs_113 : decode qc_M_weighs 113 = .ok (.if_icmp .le 7, 3) := by decide +kernel
theorem qd_M_weighs_116 : decode qc_M_weighs 116 = .ok (.iconst 1, 1) := by decide +kernel
theorem qd_M_weighs_117 : decode qc_M_weighs 117 = .ok (.goto 4, 3) := by decide +kernel
theorem qd_M_weighs_120 : decode qc_M_weighs 120 = .ok (.iconst 0, 1) := by decide +kernel
theorem qd_M_weighs_121 : decode qc_M_weighs 121 = .ok (.ireturn, 1) := by decide +kernel
theorem qd_M_weighs_122 : decode qc_M_weighs 122 = .ok (.iload 6, 2) := by decide +kernel
theorem qd_M_weighs_124 : decode qc_M_weighs 124 = .ok (.ifCond .ge 100, 3) := by decide +kernel
theorem qd_M_weighs_127 : decode qc_M_weighs 127 = .ok (.aload_n 0, 1) := by decide +kernel
theorem qd_M_weighs_128 : decode qc_M_weighs 128 = .ok (.getfield 37, 3) := by decide +kernel
theorem qd_M_weighs_131 : decode qc_M_weighs 131 = .ok (.iload_n 2, 1) := by decide +kernel
theorem qd_M_weighs_132 : decode qc_M_weighs 132 = .ok (.iaload, 1) := by decide +kernel
theorem qd_M_weighs_133 : decode qc_M_weighs 133 = .ok (.iconst 1, 1) := by decide +kernel
theorem qd_M_weighs_134 : decode qc_M_weighs 134 = .ok (.isub, 1) := by decide +kernel
theorem qd_M_weighs_135 : decode qc_M_weighs 135 = .ok (.istore 7, 2) := by decide +kernel
theorem qd_M_weighs_137 : decode qc_M_weighs 137 = .ok (.iload 7, 2) := by decide +kernel
theorem qd_M_weighs_139 : decode qc_M_weighs 139 = .ok (.iload_n 2, 1) := by decide +kernel
theorem qd_M_weighs_140 : decode qc_M_weighs 140 = .ok (.if_icmp .le 36, 3) := by decide +kernel
theorem qd_M_weighs_143 : decode qc_M_weighs 143 = .ok (.iload 5, 2) := by decide +kernel
theorem qd_M_weighs_145 : decode qc_M_weighs 145 = .ok (.ifCond .lt 31, 3) := by decide +kernel
theorem qd_M_weighs_148 : decode qc_M_weighs 148 = .ok (.aload_n 0, 1) := by decide +kernel
theorem qd_M_weighs_149 : decode qc_M_weighs 149 = .ok (.iload 5, 2) := by decide +kernel
theorem qd_M_weighs_151 : decode qc_M_weighs 151 = .ok (.invokevirtual 54, 3) := by decide +kernel
theorem qd_M_weighs_154 : decode qc_M_weighs 154 = .ok (.iconst 1, 1) := by decide +kernel
theorem qd_M_weighs_155 : decode qc_M_weighs 155 = .ok (.if_icmp .ne 21, 3) := by decide +kernel
theorem qd_M_weighs_158 : decode qc_M_weighs 158 = .ok (.aload_n 0, 1) := by decide +kernel
theorem qd_M_weighs_159 : decode qc_M_weighs 159 = .ok (.getfield 19, 3) := by decide +kernel
theorem qd_M_weighs_162 : decode qc_M_weighs 162 = .ok (.iload_n 1, 1) := by decide +kernel
theorem qd_M_weighs_163 : decode qc_M_weighs 163 = .ok (.iload 7, 2) := by decide +kernel
theorem qd_M_weighs_165 : decode qc_M_weighs 165 = .ok (.iadd, 1) := by decide +kernel
theorem qd_M_weighs_166 : decode qc_M_weighs 166 = .ok (.iaload, 1) := by decide +kernel
theorem qd_M_weighs_167 : decode qc_M_weighs 167 = .ok (.iload 6, 2) := by decide +kernel
theorem qd_M_weighs_169 : decode qc_M_weighs 169 = .ok (.if_icmp .ne 7, 3) := by decide +kernel
theorem qd_M_weighs_172 : decode qc_M_weighs 172 = .ok (.iconst 1, 1) := by decide +kernel
theorem qd_M_weighs_173 : decode qc_M_weighs 173 = .ok (.goto 4, 3) := by decide +kernel
theorem qd_M_weighs_176 : decode qc_M_weighs 176 = .ok (.iconst 0, 1) := by decide +kernel
theorem qd_M_weighs_177 : decode qc_M_weighs 177 = .ok (.istore 8, 2) := by decide +kernel
theorem qd_M_weighs_179 : decode qc_M_weighs 179 = .ok (.iload_n 2, 1) := by decide +kernel
theorem qd_M_weighs_180 : decode qc_M_weighs 180 = .ok (.istore 9, 2) := by decide +kernel
theorem qd_M_weighs_182 : decode qc_M_weighs 182 = .ok (.iload 9, 2) := by decide +kernel
theorem qd_M_weighs_184 : decode qc_M_weighs 184 = .ok (.iload 7, 2) := by decide +kernel
theorem qd_M_weighs_186 : decode qc_M_weighs 186 = .ok (.if_icmp .ge 35, 3) := by decide +kernel
theorem qd_M_weighs_189 : decode qc_M_weighs 189 = .ok (.iload 8, 2) := by decide +kernel
theorem qd_M_weighs_191 : decode qc_M_weighs 191 = .ok (.ifCond .eq 21, 3) := by decide +kernel
theorem qd_M_weighs_194 : decode qc_M_weighs 194 = .ok (.aload_n 0, 1) := by decide +kernel
theorem qd_M_weighs_195 : decode qc_M_weighs 195 = .ok (.getfield 19, 3) := by decide +kernel
theorem qd_M_weighs_198 : decode qc_M_weighs 198 = .ok (.iload_n 1, 1) := by decide +kernel
theorem qd_M_weighs_199 : decode qc_M_weighs 199 = .ok (.iload 9, 2) := by decide +kernel
theorem qd_M_weighs_201 : decode qc_M_weighs 201 = .ok (.iadd, 1) := by decide +kernel
theorem qd_M_weighs_202 : decode qc_M_weighs 202 = .ok (.iaload, 1) := by decide +kernel
theorem qd_M_weighs_203 : decode qc_M_weighs 203 = .ok (.iload 5, 2) := by decide +kernel
theorem qd_M_weighs_205 : decode qc_M_weighs 205 = .ok (.if_icmp .ne 7, 3) := by decide +kernel
theorem qd_M_weighs_208 : decode qc_M_weighs 208 = .ok (.iconst 1, 1) := by decide +kernel
theorem qd_M_weighs_209 : decode qc_M_weighs 209 = .ok (.goto 4, 3) := by decide +kernel
theorem qd_M_weighs_212 : decode qc_M_weighs 212 = .ok (.iconst 0, 1) := by decide +kernel
theorem qd_M_weighs_213 : decode qc_M_weighs 213 = .ok (.istore 8, 2) := by decide +kernel
theorem qd_M_weighs_215 : decode qc_M_weighs 215 = .ok (.iinc 9 1, 3) := by decide +kernel
theorem qd_M_weighs_218 : decode qc_M_weighs 218 = .ok (.goto (-36), 3) := by decide +kernel
theorem qd_M_weighs_221 : decode qc_M_weighs 221 = .ok (.iload 8, 2) := by decide +kernel
theorem qd_M_weighs_223 : decode qc_M_weighs 223 = .ok (.ireturn, 1) := by decide +kernel
theorem qd_M_weighs_224 : decode qc_M_weighs 224 = .ok (.iload 5, 2) := by decide +kernel
theorem qd_M_weighs_226 : decode qc_M_weighs 226 = .ok (.ifCond .lt 46, 3) := by decide +kernel
theorem qd_M_weighs_229 : decode qc_M_weighs 229 = .ok (.iload 5, 2) := by decide +kernel
theorem qd_M_weighs_231 : decode qc_M_weighs 231 = .ok (.iload 6, 2) := by decide +kernel
theorem qd_M_weighs_233 : decode qc_M_weighs 233 = .ok (.if_icmp .ne 18, 3) := by decide +kernel
theorem qd_M_weighs_236 : decode qc_M_weighs 236 = .ok (.aload_n 0, 1) := by decide +kernel
theorem qd_M_weighs_237 : decode qc_M_weighs 237 = .ok (.iload_n 1, 1) := by decide +kernel
theorem qd_M_weighs_238 : decode qc_M_weighs 238 = .ok (.iload_n 2, 1) := by decide +kernel
theorem qd_M_weighs_239 : decode qc_M_weighs 239 = .ok (.iload_n 3, 1) := by decide +kernel
theorem qd_M_weighs_240 : decode qc_M_weighs 240 = .ok (.iload 4, 2) := by decide +kernel
theorem qd_M_weighs_242 : decode qc_M_weighs 242 = .ok (.invokevirtual 96, 3) := by decide +kernel
theorem qd_M_weighs_245 : decode qc_M_weighs 245 = .ok (.ifCond .eq 27, 3) := by decide +kernel
theorem qd_M_weighs_248 : decode qc_M_weighs 248 = .ok (.goto 20, 3) := by decide +kernel
theorem qd_M_weighs_251 : decode qc_M_weighs 251 = .ok (.aload_n 0, 1) := by decide +kernel
theorem qd_M_weighs_252 : decode qc_M_weighs 252 = .ok (.getfield 13, 3) := by decide +kernel
theorem qd_M_weighs_255 : decode qc_M_weighs 255 = .ok (.iload 5, 2) := by decide +kernel
theorem qd_M_weighs_257 : decode qc_M_weighs 257 = .ok (.iaload, 1) := by decide +kernel
theorem qd_M_weighs_258 : decode qc_M_weighs 258 = .ok (.aload_n 0, 1) := by decide +kernel
theorem qd_M_weighs_259 : decode qc_M_weighs 259 = .ok (.getfield 13, 3) := by decide +kernel
theorem qd_M_weighs_262 : decode qc_M_weighs 262 = .ok (.iload 6, 2) := by decide +kernel
theorem qd_M_weighs_264 : decode qc_M_weighs 264 = .ok (.iaload, 1) := by decide +kernel
theorem qd_M_weighs_265 : decode qc_M_weighs 265 = .ok (.if_icmp .le 7, 3) := by decide +kernel
theorem qd_M_weighs_268 : decode qc_M_weighs 268 = .ok (.iconst 1, 1) := by decide +kernel
theorem qd_M_weighs_269 : decode qc_M_weighs 269 = .ok (.goto 4, 3) := by decide +kernel
theorem qd_M_weighs_272 : decode qc_M_weighs 272 = .ok (.iconst 0, 1) := by decide +kernel
theorem qd_M_weighs_273 : decode qc_M_weighs 273 = .ok (.ireturn, 1) := by decide +kernel
abbrev qc_M_isGreater : ByteArray := prog_8_method_23_code
abbrev qy_M_isGreater : MethodName := ⟨"TermOrdersModel", "isGreater", "(III)Z"⟩
abbrev qw_M_isGreater : List Cond := (Jvm.Cond.code ({ cls := "TermOrdersModel", name := "isGreater", desc := "(III)Z" } : Jvm.MethodName) prog_8_method_23_code (8 : Nat) (Option.some Jvm.ClassFile.FieldType.boolean)) :: gw
theorem qd_M_isGreater_0 : decode qc_M_isGreater 0 = .ok (.bipush 16, 2) := by decide +kernel
theorem qd_M_isGreater_2 : decode qc_M_isGreater 2 = .ok (.iload_n 2, 1) := by decide +kernel
theorem qd_M_isGreater_3 : decode qc_M_isGreater 3 = .ok (.imul, 1) := by decide +kernel
theorem qd_M_isGreater_4 : decode qc_M_isGreater 4 = .ok (.istore 4, 2) := by decide +kernel
theorem qd_M_isGreater_6 : decode qc_M_isGreater 6 = .ok (.bipush 16, 2) := by decide +kernel
theorem qd_M_isGreater_8 : decode qc_M_isGreater 8 = .ok (.iload_n 3, 1) := by decide +kernel
theorem qd_M_isGreater_9 : decode qc_M_isGreater 9 = .ok (.imul, 1) := by decide +kernel
theorem qd_M_isGreater_10 : decode qc_M_isGreater 10 = .ok (.istore 5, 2) := by decide +kernel
theorem qd_M_isGreater_12 : decode qc_M_isGreater 12 = .ok (.iconst 0, 1) := by decide +kernel
theorem qd_M_isGreater_13 : decode qc_M_isGreater 13 = .ok (.istore 6, 2) := by decide +kernel
theorem qd_M_isGreater_15 : decode qc_M_isGreater 15 = .ok (.iload 6, 2) := by decide +kernel
theorem qd_M_isGreater_17 : decode qc_M_isGreater 17 = .ok (.aload_n 0, 1) := by decide +kernel
theorem qd_M_isGreater_18 : decode qc_M_isGreater 18 = .ok (.getfield 22, 3) := by decide +kernel
theorem qd_M_isGreater_21 : decode qc_M_isGreater 21 = .ok (.iload_n 2, 1) := by decide +kernel
theorem qd_M_isGreater_22 : decode qc_M_isGreater 22 = .ok (.iaload, 1) := by decide +kernel
theorem qd_M_isGreater_23 : decode qc_M_isGreater 23 = .ok (.if_icmp .ge 46, 3) := by decide +kernel
theorem qd_M_isGreater_26 : decode qc_M_isGreater 26 = .ok (.aload_n 0, 1) := by decide +kernel
theorem qd_M_isGreater_27 : decode qc_M_isGreater 27 = .ok (.getfield 37, 3) := by decide +kernel
theorem qd_M_isGreater_30 : decode qc_M_isGreater 30 = .ok (.iload 6, 2) := by decide +kernel
theorem qd_M_isGreater_32 : decode qc_M_isGreater 32 = .ok (.aload_n 0, 1) := by decide +kernel
theorem qd_M_isGreater_33 : decode qc_M_isGreater 33 = .ok (.iload 4, 2) := by decide +kernel
theorem qd_M_isGreater_35 : decode qc_M_isGreater 35 = .ok (.iload 6, 2) := by decide +kernel
theorem qd_M_isGreater_37 : decode qc_M_isGreater 37 = .ok (.invokevirtual 58, 3) := by decide +kernel
theorem qd_M_isGreater_40 : decode qc_M_isGreater 40 = .ok (.iastore, 1) := by decide +kernel
theorem qd_M_isGreater_41 : decode qc_M_isGreater 41 = .ok (.aload_n 0, 1) := by decide +kernel
theorem qd_M_isGreater_42 : decode qc_M_isGreater 42 = .ok (.getfield 34, 3) := by decide +kernel
theorem qd_M_isGreater_45 : decode qc_M_isGreater 45 = .ok (.iload 6, 2) := by decide +kernel
theorem qd_M_isGreater_47 : decode qc_M_isGreater 47 = .ok (.aload_n 0, 1) := by decide +kernel
theorem qd_M_isGreater_48 : decode qc_M_isGreater 48 = .ok (.iload 4, 2) := by decide +kernel
theorem qd_M_isGreater_50 : decode qc_M_isGreater 50 = .ok (.iload 6, 2) := by decide +kernel
theorem qd_M_isGreater_52 : decode qc_M_isGreater 52 = .ok (.aload_n 0, 1) := by decide +kernel
theorem qd_M_isGreater_53 : decode qc_M_isGreater 53 = .ok (.getfield 37, 3) := by decide +kernel
theorem qd_M_isGreater_56 : decode qc_M_isGreater 56 = .ok (.iload 6, 2) := by decide +kernel
theorem qd_M_isGreater_58 : decode qc_M_isGreater 58 = .ok (.iaload, 1) := by decide +kernel
theorem qd_M_isGreater_59 : decode qc_M_isGreater 59 = .ok (.invokevirtual 102, 3) := by decide +kernel
theorem qd_M_isGreater_62 : decode qc_M_isGreater 62 = .ok (.iastore, 1) := by decide +kernel
theorem qd_M_isGreater_63 : decode qc_M_isGreater 63 = .ok (.iinc 6 1, 3) := by decide +kernel
theorem qd_M_isGreater_66 : decode qc_M_isGreater 66 = .ok (.goto (-51), 3) := by decide +kernel
theorem qd_M_isGreater_69 : decode qc_M_isGreater 69 = .ok (.iconst 0, 1) := by decide +kernel
theorem qd_M_isGreater_70 : decode qc_M_isGreater 70 = .ok (.istore 6, 2) := by decide +kernel
theorem qd_M_isGreater_72 : decode qc_M_isGreater 72 = .ok (.iload 6, 2) := by decide +kernel
theorem qd_M_isGreater_74 : decode qc_M_isGreater 74 = .ok (.aload_n 0, 1) := by decide +kernel
theorem qd_M_isGreater_75 : decode qc_M_isGreater 75 = .ok (.getfield 22, 3) := by decide +kernel
theorem qd_M_isGreater_78 : decode qc_M_isGreater 78 = .ok (.iload_n 3, 1) := by decide +kernel
theorem qd_M_isGreater_79 : decode qc_M_isGreater 79 = .ok (.iaload, 1) := by decide +kernel
theorem qd_M_isGreater_80 : decode qc_M_isGreater 80 = .ok (.if_icmp .ge 55, 3) := by decide +kernel
theorem qd_M_isGreater_83 : decode qc_M_isGreater 83 = .ok (.aload_n 0, 1) := by decide +kernel
theorem qd_M_isGreater_84 : decode qc_M_isGreater 84 = .ok (.getfield 37, 3) := by decide +kernel
theorem qd_M_isGreater_87 : decode qc_M_isGreater 87 = .ok (.bipush 16, 2) := by decide +kernel
theorem qd_M_isGreater_89 : decode qc_M_isGreater 89 = .ok (.iload 6, 2) := by decide +kernel
theorem qd_M_isGreater_91 : decode qc_M_isGreater 91 = .ok (.iadd, 1) := by decide +kernel
theorem qd_M_isGreater_92 : decode qc_M_isGreater 92 = .ok (.aload_n 0, 1) := by decide +kernel
theorem qd_M_isGreater_93 : decode qc_M_isGreater 93 = .ok (.iload 5, 2) := by decide +kernel
theorem qd_M_isGreater_95 : decode qc_M_isGreater 95 = .ok (.iload 6, 2) := by decide +kernel
theorem qd_M_isGreater_97 : decode qc_M_isGreater 97 = .ok (.invokevirtual 58, 3) := by decide +kernel
theorem qd_M_isGreater_100 : decode qc_M_isGreater 100 = .ok (.iastore, 1) := by decide +kernel
theorem qd_M_isGreater_101 : decode qc_M_isGreater 101 = .ok (.aload_n 0, 1) := by decide +kernel
theorem qd_M_isGreater_102 : decode qc_M_isGreater 102 = .ok (.getfield 34, 3) := by decide +kernel
theorem qd_M_isGreater_105 : decode qc_M_isGreater 105 = .ok (.bipush 16, 2) := by decide +kernel
theorem qd_M_isGreater_107 : decode qc_M_isGreater 107 = .ok (.iload 6, 2) := by decide +kernel
theorem qd_M_isGreater_109 : decode qc_M_isGreater 109 = .ok (.iadd, 1) := by decide +kernel
theorem qd_M_isGreater_110 : decode qc_M_isGreater 110 = .ok (.aload_n 0, 1) := by decide +kernel
theorem qd_M_isGreater_111 : decode qc_M_isGreater 111 = .ok (.iload 5, 2) := by decide +kernel
theorem qd_M_isGreater_113 : decode qc_M_isGreater 113 = .ok (.iload 6, 2) := by decide +kernel
theorem qd_M_isGreater_115 : decode qc_M_isGreater 115 = .ok (.aload_n 0, 1) := by decide +kernel
theorem qd_M_isGreater_116 : decode qc_M_isGreater 116 = .ok (.getfield 37, 3) := by decide +kernel
theorem qd_M_isGreater_119 : decode qc_M_isGreater 119 = .ok (.bipush 16, 2) := by decide +kernel
theorem qd_M_isGreater_121 : decode qc_M_isGreater 121 = .ok (.iload 6, 2) := by decide +kernel
theorem qd_M_isGreater_123 : decode qc_M_isGreater 123 = .ok (.iadd, 1) := by decide +kernel
theorem qd_M_isGreater_124 : decode qc_M_isGreater 124 = .ok (.iaload, 1) := by decide +kernel
theorem qd_M_isGreater_125 : decode qc_M_isGreater 125 = .ok (.invokevirtual 102, 3) := by decide +kernel
theorem qd_M_isGreater_128 : decode qc_M_isGreater 128 = .ok (.iastore, 1) := by decide +kernel
theorem qd_M_isGreater_129 : decode qc_M_isGreater 129 = .ok (.iinc 6 1, 3) := by decide +kernel
theorem qd_M_isGreater_132 : decode qc_M_isGreater 132 = .ok (.goto (-60), 3) := by decide +kernel
theorem qd_M_isGreater_135 : decode qc_M_isGreater 135 = .ok (.aload_n 0, 1) := by decide +kernel
theorem qd_M_isGreater_136 : decode qc_M_isGreater 136 = .ok (.getfield 22, 3) := by decide +kernel
theorem qd_M_isGreater_139 : decode qc_M_isGreater 139 = .ok (.iload_n 2, 1) := by decide +kernel
theorem qd_M_isGreater_140 : decode qc_M_isGreater 140 = .ok (.iaload, 1) := by decide +kernel
theorem qd_M_isGreater_141 : decode qc_M_isGreater 141 = .ok (.iconst 1, 1) := by decide +kernel
theorem qd_M_isGreater_142 : decode qc_M_isGreater 142 = .ok (.isub, 1) := by decide +kernel
theorem qd_M_isGreater_143 : decode qc_M_isGreater 143 = .ok (.istore 6, 2) := by decide +kernel
theorem qd_M_isGreater_145 : decode qc_M_isGreater 145 = .ok (.iload 6, 2) := by decide +kernel
theorem qd_M_isGreater_147 : decode qc_M_isGreater 147 = .ok (.ifCond .lt 74, 3) := by decide +kernel
theorem qd_M_isGreater_150 : decode qc_M_isGreater 150 = .ok (.aload_n 0, 1) := by decide +kernel
theorem qd_M_isGreater_151 : decode qc_M_isGreater 151 = .ok (.getfield 22, 3) := by decide +kernel
theorem qd_M_isGreater_154 : decode qc_M_isGreater 154 = .ok (.iload_n 3, 1) := by decide +kernel
theorem qd_M_isGreater_155 : decode qc_M_isGreater 155 = .ok (.iaload, 1) := by decide +kernel
theorem qd_M_isGreater_156 : decode qc_M_isGreater 156 = .ok (.iconst 1, 1) := by decide +kernel
theorem qd_M_isGreater_157 : decode qc_M_isGreater 157 = .ok (.isub, 1) := by decide +kernel
theorem qd_M_isGreater_158 : decode qc_M_isGreater 158 = .ok (.istore 7, 2) := by decide +kernel
theorem qd_M_isGreater_160 : decode qc_M_isGreater 160 = .ok (.iload 7, 2) := by decide +kernel
theorem qd_M_isGreater_162 : decode qc_M_isGreater 162 = .ok (.ifCond .lt 53, 3) := by decide +kernel
theorem qd_M_isGreater_165 : decode qc_M_isGreater 165 = .ok (.aload_n 0, 1) := by decide +kernel
theorem qd_M_isGreater_166 : decode qc_M_isGreater 166 = .ok (.getfield 40, 3) := by decide +kernel
theorem qd_M_isGreater_169 : decode qc_M_isGreater 169 = .ok (.bipush 16, 2) := by decide +kernel
theorem qd_M_isGreater_171 : decode qc_M_isGreater 171 = .ok (.iload 6, 2) := by decide +kernel
theorem qd_M_isGreater_173 : decode qc_M_isGreater 173 = .ok (.imul, 1) := by decide +kernel
theorem qd_M_isGreater_174 : decode qc_M_isGreater 174 = .ok (.iload 7, 2) := by decide +kernel
theorem qd_M_isGreater_176 : decode qc_M_isGreater 176 = .ok (.iadd, 1) := by decide +kernel
theorem qd_M_isGreater_177 : decode qc_M_isGreater 177 = .ok (.iload_n 1, 1) := by decide +kernel
theorem qd_M_isGreater_178 : decode qc_M_isGreater 178 = .ok (.ifCond .ne 18, 3) := by decide +kernel
theorem qd_M_isGreater_181 : decode qc_M_isGreater 181 = .ok (.aload_n 0, 1) := by decide +kernel
theorem qd_M_isGreater_182 : decode qc_M_isGreater 182 = .ok (.iload 4, 2) := by decide +kernel
theorem qd_M_isGreater_184 : decode qc_M_isGreater 184 = .ok (.iload 6, 2) := by decide +kernel
theorem qd_M_isGreater_186 : decode qc_M_isGreater 186 = .ok (.iload 5, 2) := by decide +kernel
theorem qd_M_isGreater_188 : decode qc_M_isGreater 188 = .ok (.iload 7, 2) := by decide +kernel
theorem qd_M_isGreater_190 : decode qc_M_isGreater 190 = .ok (.invokevirtual 106, 3) := by decide +kernel
theorem qd_M_isGreater_193 : decode qc_M_isGreater 193 = .ok (.goto 15, 3) := by decide +kernel
theorem qd_M_isGreater_196 : decode qc_M_isGreater 196 = .ok (.aload_n 0, 1) := by decide +kernel
theorem qd_M_isGreater_197 : decode qc_M_isGreater 197 = .ok (.iload 4, 2) := by decide +kernel
theorem qd_M_isGreater_199 : decode qc_M_isGreater 199 = .ok (.iload 6, 2) := by decide +kernel
theorem qd_M_isGreater_201 : decode qc_M_isGreater 201 = .ok (.iload 5, 2) := by decide +kernel
theorem qd_M_isGreater_203 : decode qc_M_isGreater 203 = .ok (.iload 7, 2) := by decide +kernel
theorem qd_M_isGreater_205 : decode qc_M_isGreater 205 = .ok (.invokevirtual 109, 3) := by decide +kernel
theorem qd_M_isGreater_208 : decode qc_M_isGreater 208 = .ok (.bastore, 1) := by decide +kernel
theorem qd_M_isGreater_209 : decode qc_M_isGreater 209 = .ok (.iinc 7 (-1), 3) := by decide +kernel
theorem qd_M_isGreater_212 : decode qc_M_isGreater 212 = .ok (.goto (-52), 3) := by decide +kernel
theorem qd_M_isGreater_215 : decode qc_M_isGreater 215 = .ok (.iinc 6 (-1), 3) := by decide +kernel
theorem qd_M_isGreater_218 : decode qc_M_isGreater 218 = .ok (.goto (-73), 3) := by decide +kernel
theorem qd_M_isGreater_221 : decode qc_M_isGreater 221 = .ok (.aload_n 0, 1) := by decide +kernel
theorem qd_M_isGreater_222 : decode qc_M_isGreater 222 = .ok (.getfield 40, 3) := by decide +kernel
theorem qd_M_isGreater_225 : decode qc_M_isGreater 225 = .ok (.iconst 0, 1) := by decide +kernel
theorem qd_M_isGreater_226 : decode qc_M_isGreater 226 = .ok (.baload, 1) := by decide +kernel
theorem qd_M_isGreater_227 : decode qc_M_isGreater 227 = .ok (.ireturn, 1) := by decide +kernel
abbrev qc_M_greater : ByteArray := prog_8_method_24_code
abbrev qy_M_greater : MethodName := ⟨"TermOrdersModel", "greater", "(III)Z"⟩
abbrev qw_M_greater : List Cond := (Jvm.Cond.code ({ cls := "TermOrdersModel", name := "greater", desc := "(III)Z" } : Jvm.MethodName) prog_8_method_24_code (4 : Nat) (Option.some Jvm.ClassFile.FieldType.boolean)) :: gw
theorem qd_M_greater_0 : decode qc_M_greater 0 = .ok (.aload_n 0, 1) := by decide +kernel
theorem qd_M_greater_1 : decode qc_M_greater 1 = .ok (.iload_n 1, 1) := by decide +kernel
theorem qd_M_greater_2 : decode qc_M_greater 2 = .ok (.ifCond .lt 24, 3) := by decide +kernel
theorem qd_M_greater_5 : decode qc_M_greater 5 = .ok (.iload_n 1, 1) := by decide +kernel
theorem qd_M_greater_6 : decode qc_M_greater 6 = .ok (.iconst 1, 1) := by decide +kernel
theorem qd_M_greater_7 : decode qc_M_greater 7 = .ok (.if_icmp .gt 19, 3) := by decide +kernel
theorem qd_M_greater_10 : decode qc_M_greater 10 = .ok (.aload_n 0, 1) := by decide +kernel
theorem qd_M_greater_11 : decode qc_M_greater 11 = .ok (.iload_n 2, 1) := by decide +kernel
theorem qd_M_greater_12 : decode qc_M_greater 12 = .ok (.invokevirtual 75, 3) := by decide +kernel
theorem qd_M_greater_15 : decode qc_M_greater 15 = .ok (.ifCond .eq 11, 3) := by decide +kernel
theorem qd_M_greater_18 : decode qc_M_greater 18 = .ok (.aload_n 0, 1) := by decide +kernel
theorem qd_M_greater_19 : decode qc_M_greater 19 = .ok (.iload_n 3, 1) := by decide +kernel
theorem qd_M_greater_20 : decode qc_M_greater 20 = .ok (.invokevirtual 75, 3) := by decide +kernel
theorem qd_M_greater_23 : decode qc_M_greater 23 = .ok (.ifCond .ne 7, 3) := by decide +kernel
theorem qd_M_greater_26 : decode qc_M_greater 26 = .ok (.iconst 1, 1) := by decide +kernel
theorem qd_M_greater_27 : decode qc_M_greater 27 = .ok (.goto 4, 3) := by decide +kernel
theorem qd_M_greater_30 : decode qc_M_greater 30 = .ok (.iconst 0, 1) := by decide +kernel
theorem qd_M_greater_31 : decode qc_M_greater 31 = .ok (.putfield 50, 3) := by decide +kernel
theorem qd_M_greater_34 : decode qc_M_greater 34 = .ok (.aload_n 0, 1) := by decide +kernel
theorem qd_M_greater_35 : decode qc_M_greater 35 = .ok (.getfield 50, 3) := by decide +kernel
theorem qd_M_greater_38 : decode qc_M_greater 38 = .ok (.ifCond .ne 17, 3) := by decide +kernel
theorem qd_M_greater_41 : decode qc_M_greater 41 = .ok (.aload_n 0, 1) := by decide +kernel
theorem qd_M_greater_42 : decode qc_M_greater 42 = .ok (.iload_n 1, 1) := by decide +kernel
theorem qd_M_greater_43 : decode qc_M_greater 43 = .ok (.iload_n 2, 1) := by decide +kernel
theorem qd_M_greater_44 : decode qc_M_greater 44 = .ok (.iload_n 3, 1) := by decide +kernel
theorem qd_M_greater_45 : decode qc_M_greater 45 = .ok (.invokevirtual 112, 3) := by decide +kernel
theorem qd_M_greater_48 : decode qc_M_greater 48 = .ok (.ifCond .eq 7, 3) := by decide +kernel
theorem qd_M_greater_51 : decode qc_M_greater 51 = .ok (.iconst 1, 1) := by decide +kernel
theorem qd_M_greater_52 : decode qc_M_greater 52 = .ok (.goto 4, 3) := by decide +kernel
theorem qd_M_greater_55 : decode qc_M_greater 55 = .ok (.iconst 0, 1) := by decide +kernel
theorem qd_M_greater_56 : decode qc_M_greater 56 = .ok (.ireturn, 1) := by decide +kernel
abbrev qc_M_same : ByteArray := prog_8_method_25_code
abbrev qy_M_same : MethodName := ⟨"TermOrdersModel", "same", "(II)Z"⟩
abbrev qw_M_same : List Cond := (Jvm.Cond.code ({ cls := "TermOrdersModel", name := "same", desc := "(II)Z" } : Jvm.MethodName) prog_8_method_25_code (3 : Nat) (Option.some Jvm.ClassFile.FieldType.boolean)) :: gw
theorem qd_M_same_0 : decode qc_M_same 0 = .ok (.aload_n 0, 1) := by decide +kernel
theorem qd_M_same_1 : decode qc_M_same 1 = .ok (.aload_n 0, 1) := by decide +kernel
theorem qd_M_same_2 : decode qc_M_same 2 = .ok (.iload_n 1, 1) := by decide +kernel
theorem qd_M_same_3 : decode qc_M_same 3 = .ok (.invokevirtual 75, 3) := by decide +kernel
theorem qd_M_same_6 : decode qc_M_same 6 = .ok (.ifCond .eq 11, 3) := by decide +kernel
theorem qd_M_same_9 : decode qc_M_same 9 = .ok (.aload_n 0, 1) := by decide +kernel
theorem qd_M_same_10 : decode qc_M_same 10 = .ok (.iload_n 2, 1) := by decide +kernel
theorem qd_M_same_11 : decode qc_M_same 11 = .ok (.invokevirtual 75, 3) := by decide +kernel
theorem qd_M_same_14 : decode qc_M_same 14 = .ok (.ifCond .ne 7, 3) := by decide +kernel
theorem qd_M_same_17 : decode qc_M_same 17 = .ok (.iconst 1, 1) := by decide +kernel
theorem qd_M_same_18 : decode qc_M_same 18 = .ok (.goto 4, 3) := by decide +kernel
theorem qd_M_same_21 : decode qc_M_same 21 = .ok (.iconst 0, 1) := by decide +kernel
theorem qd_M_same_22 : decode qc_M_same 22 = .ok (.putfield 50, 3) := by decide +kernel
theorem qd_M_same_25 : decode qc_M_same 25 = .ok (.aload_n 0, 1) := by decide +kernel
theorem qd_M_same_26 : decode qc_M_same 26 = .ok (.getfield 50, 3) := by decide +kernel
theorem qd_M_same_29 : decode qc_M_same 29 = .ok (.ifCond .ne 24, 3) := by decide +kernel
theorem qd_M_same_32 : decode qc_M_same 32 = .ok (.aload_n 0, 1) := by decide +kernel
theorem qd_M_same_33 : decode qc_M_same 33 = .ok (.bipush 16, 2) := by decide +kernel
theorem qd_M_same_35 : decode qc_M_same 35 = .ok (.iload_n 1, 1) := by decide +kernel
theorem qd_M_same_36 : decode qc_M_same 36 = .ok (.imul, 1) := by decide +kernel
theorem qd_M_same_37 : decode qc_M_same 37 = .ok (.iconst 0, 1) := by decide +kernel
theorem qd_M_same_38 : decode qc_M_same 38 = .ok (.bipush 16, 2) := by decide +kernel
theorem qd_M_same_40 : decode qc_M_same 40 = .ok (.iload_n 2, 1) := by decide +kernel
theorem qd_M_same_41 : decode qc_M_same 41 = .ok (.imul, 1) := by decide +kernel
theorem qd_M_same_42 : decode qc_M_same 42 = .ok (.iconst 0, 1) := by decide +kernel
theorem qd_M_same_43 : decode qc_M_same 43 = .ok (.invokevirtual 92, 3) := by decide +kernel
theorem qd_M_same_46 : decode qc_M_same 46 = .ok (.ifCond .eq 7, 3) := by decide +kernel
theorem qd_M_same_49 : decode qc_M_same 49 = .ok (.iconst 1, 1) := by decide +kernel
theorem qd_M_same_50 : decode qc_M_same 50 = .ok (.goto 4, 3) := by decide +kernel
theorem qd_M_same_53 : decode qc_M_same 53 = .ok (.iconst 0, 1) := by decide +kernel
theorem qd_M_same_54 : decode qc_M_same 54 = .ok (.ireturn, 1) := by decide +kernel
abbrev qc_M_isAdmissible : ByteArray := prog_8_method_26_code
abbrev qy_M_isAdmissible : MethodName := ⟨"TermOrdersModel", "isAdmissible", "()Z"⟩
abbrev qw_M_isAdmissible : List Cond := (Jvm.Cond.code ({ cls := "TermOrdersModel", name := "isAdmissible", desc := "()Z" } : Jvm.MethodName) prog_8_method_26_code (3 : Nat) (Option.some Jvm.ClassFile.FieldType.boolean)) :: gw
theorem qd_M_isAdmissible_0 : decode qc_M_isAdmissible 0 = .ok (.iconst 0, 1) := by decide +kernel
theorem qd_M_isAdmissible_1 : decode qc_M_isAdmissible 1 = .ok (.istore_n 1, 1) := by decide +kernel
theorem qd_M_isAdmissible_2 : decode qc_M_isAdmissible 2 = .ok (.iload_n 1, 1) := by decide +kernel
theorem qd_M_isAdmissible_3 : decode qc_M_isAdmissible 3 = .ok (.aload_n 0, 1) := by decide +kernel
theorem qd_M_isAdmissible_4 : decode qc_M_isAdmissible 4 = .ok (.getfield 65, 3) := by decide +kernel
theorem qd_M_isAdmissible_7 : decode qc_M_isAdmissible 7 = .ok (.if_icmp .ge 86, 3) := by decide +kernel
theorem qd_M_isAdmissible_10 : decode qc_M_isAdmissible 10 = .ok (.aload_n 0, 1) := by decide +kernel
theorem qd_M_isAdmissible_11 : decode qc_M_isAdmissible 11 = .ok (.getfield 7, 3) := by decide +kernel
theorem qd_M_isAdmissible_14 : decode qc_M_isAdmissible 14 = .ok (.iload_n 1, 1) := by decide +kernel
theorem qd_M_isAdmissible_15 : decode qc_M_isAdmissible 15 = .ok (.iaload, 1) := by decide +kernel
theorem qd_M_isAdmissible_16 : decode qc_M_isAdmissible 16 = .ok (.ifCond .ne 14, 3) := by decide +kernel
theorem qd_M_isAdmissible_19 : decode qc_M_isAdmissible 19 = .ok (.aload_n 0, 1) := by decide +kernel
theorem qd_M_isAdmissible_20 : decode qc_M_isAdmissible 20 = .ok (.getfield 16, 3) := by decide +kernel
theorem qd_M_isAdmissible_23 : decode qc_M_isAdmissible 23 = .ok (.iload_n 1, 1) := by decide +kernel
theorem qd_M_isAdmissible_24 : decode qc_M_isAdmissible 24 = .ok (.iaload, 1) := by decide +kernel
theorem qd_M_isAdmissible_25 : decode qc_M_isAdmissible 25 = .ok (.ifCond .ne 5, 3) := by decide +kernel
theorem qd_M_isAdmissible_28 : decode qc_M_isAdmissible 28 = .ok (.iconst 0, 1) := by decide +kernel
theorem qd_M_isAdmissible_29 : decode qc_M_isAdmissible 29 = .ok (.ireturn, 1) := by decide +kernel
theorem qd_M_isAdmissible_30 : decode qc_M_isAdmissible 30 = .ok (.iconst 0, 1) := by decide +kernel
theorem qd_M_isAdmissible_31 : decode qc_M_isAdmissible 31 = .ok (.istore_n 2, 1) := by decide +kernel
theorem qd_M_isAdmissible_32 : decode qc_M_isAdmissible 32 = .ok (.iload_n 2, 1) := by decide +kernel
theorem qd_M_isAdmissible_33 : decode qc_M_isAdmissible 33 = .ok (.aload_n 0, 1) := by decide +kernel
theorem qd_M_isAdmissible_34 : decode qc_M_isAdmissible 34 = .ok (.getfield 65, 3) := by decide +kernel
theorem qd_M_isAdmissible_37 : decode qc_M_isAdmissible 37 = .ok (.if_icmp .ge 50, 3) := by decide +kernel
theorem qd_M_isAdmissible_40 : decode qc_M_isAdmissible 40 = .ok (.aload_n 0, 1) := by decide +kernel
theorem qd_M_isAdmissible_41 : decode qc_M_isAdmissible 41 = .ok (.getfield 7, 3) := by decide +kernel
theorem qd_M_isAdmissible_44 : decode qc_M_isAdmissible 44 = .ok (.iload_n 1, 1) := by decide +kernel
theorem qd_M_isAdmissible_45 : decode qc_M_isAdmissible 45 = .ok (.iaload, 1) := by decide +kernel
theorem qd_M_isAdmissible_46 : decode qc_M_isAdmissible 46 = .ok (.iconst 1, 1) := by decide +kernel
theorem qd_M_isAdmissible_47 : decode qc_M_isAdmissible 47 = .ok (.if_icmp .ne 34, 3) := by decide +kernel
theorem qd_M_isAdmissible_50 : decode qc_M_isAdmissible 50 = .ok (.aload_n 0, 1) := by decide +kernel
theorem qd_M_isAdmissible_51 : decode qc_M_isAdmissible 51 = .ok (.getfield 16, 3) := by decide +kernel
theorem qd_M_isAdmissible_54 : decode qc_M_isAdmissible 54 = .ok (.iload_n 1, 1) := by decide +kernel
theorem qd_M_isAdmissible_55 : decode qc_M_isAdmissible 55 = .ok (.iaload, 1) := by decide +kernel
theorem qd_M_isAdmissible_56 : decode qc_M_isAdmissible 56 = .ok (.ifCond .ne 25, 3) := by decide +kernel
theorem qd_M_isAdmissible_59 : decode qc_M_isAdmissible 59 = .ok (.iload_n 2, 1) := by decide +kernel
theorem qd_M_isAdmissible_60 : decode qc_M_isAdmissible 60 = .ok (.iload_n 1, 1) := by decide +kernel
theorem qd_M_isAdmissible_61 : decode qc_M_isAdmissible 61 = .ok (.if_icmp .eq 20, 3) := by decide +kernel
theorem qd_M_isAdmissible_64 : decode qc_M_isAdmissible 64 = .ok (.aload_n 0, 1) := by decide +kernel
theorem qd_M_isAdmissible_65 : decode qc_M_isAdmissible 65 = .ok (.getfield 13, 3) := by decide +kernel
theorem qd_M_isAdmissible_68 : decode qc_M_isAdmissible 68 = .ok (.iload_n 2, 1) := by decide +kernel
theorem qd_M_isAdmissible_69 : decode qc_M_isAdmissible 69 = .ok (.iaload, 1) := by decide +kernel
theorem qd_M_isAdmissible_70 : decode qc_M_isAdmissible 70 = .ok (.aload_n 0, 1) := by decide +kernel
theorem qd_M_isAdmissible_71 : decode qc_M_isAdmissible 71 = .ok (.getfield 13, 3) := by decide +kernel
theorem qd_M_isAdmissible_74 : decode qc_M_isAdmissible 74 = .ok (.iload_n 1, 1) := by decide +kernel
theorem qd_M_isAdmissible_75 : decode qc_M_isAdmissible 75 = .ok (.iaload, 1) := by decide +kernel
theorem qd_M_isAdmissible_76 : decode qc_M_isAdmissible 76 = .ok (.if_icmp .lt 5, 3) := by decide +kernel
theorem qd_M_isAdmissible_79 : decode qc_M_isAdmissible 79 = .ok (.iconst 0, 1) := by decide +kernel
theorem qd_M_isAdmissible_80 : decode qc_M_isAdmissible 80 = .ok (.ireturn, 1) := by decide +kernel
theorem qd_M_isAdmissible_81 : decode qc_M_isAdmissible 81 = .ok (.iinc 2 1, 3) := by decide +kernel
theorem qd_M_isAdmissible_84 : decode qc_M_isAdmissible 84 = .ok (.goto (-52), 3) := by decide +kernel
theorem qd_M_isAdmissible_87 : decode qc_M_isAdmissible 87 = .ok (.iinc 1 1, 3) := by decide +kernel
theorem qd_M_isAdmissible_90 : decode qc_M_isAdmissible 90 = .ok (.goto (-88), 3) := by decide +kernel
theorem qd_M_isAdmissible_93 : decode qc_M_isAdmissible 93 = .ok (.iconst 1, 1) := by decide +kernel
theorem qd_M_isAdmissible_94 : decode qc_M_isAdmissible 94 = .ok (.ireturn, 1) := by decide +kernel
abbrev qc_M_admissible : ByteArray := prog_8_method_27_code
abbrev qy_M_admissible : MethodName := ⟨"TermOrdersModel", "admissible", "()Z"⟩
abbrev qw_M_admissible : List Cond := (Jvm.Cond.code ({ cls := "TermOrdersModel", name := "admissible", desc := "()Z" } : Jvm.MethodName) prog_8_method_27_code (1 : Nat) (Option.some Jvm.ClassFile.FieldType.boolean)) :: gw
theorem qd_M_admissible_0 : decode qc_M_admissible 0 = .ok (.aload_n 0, 1) := by decide +kernel
theorem qd_M_admissible_1 : decode qc_M_admissible 1 = .ok (.iconst 0, 1) := by decide +kernel
theorem qd_M_admissible_2 : decode qc_M_admissible 2 = .ok (.putfield 50, 3) := by decide +kernel
theorem qd_M_admissible_5 : decode qc_M_admissible 5 = .ok (.aload_n 0, 1) := by decide +kernel
theorem qd_M_admissible_6 : decode qc_M_admissible 6 = .ok (.invokevirtual 116, 3) := by decide +kernel
theorem qd_M_admissible_9 : decode qc_M_admissible 9 = .ok (.ireturn, 1) := by decide +kernel
abbrev qc_M_orients : ByteArray := prog_8_method_28_code
abbrev qy_M_orients : MethodName := ⟨"TermOrdersModel", "orients", "(I)I"⟩
abbrev qw_M_orients : List Cond := (Jvm.Cond.code ({ cls := "TermOrdersModel", name := "orients", desc := "(I)I" } : Jvm.MethodName) prog_8_method_28_code (4 : Nat) (Option.some Jvm.ClassFile.FieldType.int)) :: gw
theorem qd_M_orients_0 : decode qc_M_orients 0 = .ok (.iconst 0, 1) := by decide +kernel
theorem qd_M_orients_1 : decode qc_M_orients 1 = .ok (.istore_n 2, 1) := by decide +kernel
theorem qd_M_orients_2 : decode qc_M_orients 2 = .ok (.iconst 0, 1) := by decide +kernel
theorem qd_M_orients_3 : decode qc_M_orients 3 = .ok (.istore_n 3, 1) := by decide +kernel
theorem qd_M_orients_4 : decode qc_M_orients 4 = .ok (.iload_n 3, 1) := by decide +kernel
theorem qd_M_orients_5 : decode qc_M_orients 5 = .ok (.aload_n 0, 1) := by decide +kernel
theorem qd_M_orients_6 : decode qc_M_orients 6 = .ok (.getfield 89, 3) := by decide +kernel
theorem qd_M_orients_9 : decode qc_M_orients 9 = .ok (.if_icmp .ge 39, 3) := by decide +kernel
theorem qd_M_orients_12 : decode qc_M_orients 12 = .ok (.iload_n 2, 1) := by decide +kernel
theorem qd_M_orients_13 : decode qc_M_orients 13 = .ok (.aload_n 0, 1) := by decide +kernel
theorem qd_M_orients_14 : decode qc_M_orients 14 = .ok (.iload_n 1, 1) := by decide +kernel
theorem qd_M_orients_15 : decode qc_M_orients 15 = .ok (.aload_n 0, 1) := by decide +kernel
theorem qd_M_orients_16 : decode qc_M_orients 16 = .ok (.getfield 25, 3) := by decide +kernel
theorem qd_M_orients_19 : decode qc_M_orients 19 = .ok (.iload_n 3, 1) := by decide +kernel
theorem qd_M_orients_20 : decode qc_M_orients 20 = .ok (.iaload, 1) := by decide +kernel
theorem qd_M_orients_21 : decode qc_M_orients 21 = .ok (.aload_n 0, 1) := by decide +kernel
theorem qd_M_orients_22 : decode qc_M_orients 22 = .ok (.getfield 28, 3) := by decide +kernel
theorem qd_M_orients_25 : decode qc_M_orients 25 = .ok (.iload_n 3, 1) := by decide +kernel
theorem qd_M_orients_26 : decode qc_M_orients 26 = .ok (.iaload, 1) := by decide +kernel
theorem qd_M_orients_27 : decode qc_M_orients 27 = .ok (.invokevirtual 112, 3) := by decide +kernel
theorem qd_M_orients_30 : decode qc_M_orients 30 = .ok (.ifCond .eq 9, 3) := by decide +kernel
theorem qd_M_orients_33 : decode qc_M_orients 33 = .ok (.iconst 1, 1) := by decide +kernel
theorem qd_M_orients_34 : decode qc_M_orients 34 = .ok (.iload_n 3, 1) := by decide +kernel
theorem qd_M_orients_35 : decode qc_M_orients 35 = .ok (.ishl, 1) := by decide +kernel
theorem qd_M_orients_36 : decode qc_M_orients 36 = .ok (.goto 4, 3) := by decide +kernel
theorem qd_M_orients_39 : decode qc_M_orients 39 = .ok (.iconst 0, 1) := by decide +kernel
theorem qd_M_orients_40 : decode qc_M_orients 40 = .ok (.ior, 1) := by decide +kernel
theorem qd_M_orients_41 : decode qc_M_orients 41 = .ok (.istore_n 2, 1) := by decide +kernel
theorem qd_M_orients_42 : decode qc_M_orients 42 = .ok (.iinc 3 1, 3) := by decide +kernel
theorem qd_M_orients_45 : decode qc_M_orients 45 = .ok (.goto (-41), 3) := by decide +kernel
theorem qd_M_orients_48 : decode qc_M_orients 48 = .ok (.iload_n 2, 1) := by decide +kernel
theorem qd_M_orients_49 : decode qc_M_orients 49 = .ok (.ireturn, 1) := by decide +kernel
abbrev qc_M_oriented : ByteArray := prog_8_method_29_code
abbrev qy_M_oriented : MethodName := ⟨"TermOrdersModel", "oriented", "(I)I"⟩
abbrev qw_M_oriented : List Cond := (Jvm.Cond.code ({ cls := "TermOrdersModel", name := "oriented", desc := "(I)I" } : Jvm.MethodName) prog_8_method_29_code (2 : Nat) (Option.some Jvm.ClassFile.FieldType.int)) :: gw
theorem qd_M_oriented_0 : decode qc_M_oriented 0 = .ok (.aload_n 0, 1) := by decide +kernel
theorem qd_M_oriented_1 : decode qc_M_oriented 1 = .ok (.iload_n 1, 1) := by decide +kernel
theorem qd_M_oriented_2 : decode qc_M_oriented 2 = .ok (.ifCond .lt 8, 3) := by decide +kernel
theorem qd_M_oriented_5 : decode qc_M_oriented 5 = .ok (.iload_n 1, 1) := by decide +kernel
theorem qd_M_oriented_6 : decode qc_M_oriented 6 = .ok (.iconst 1, 1) := by decide +kernel
theorem qd_M_oriented_7 : decode qc_M_oriented 7 = .ok (.if_icmp .le 7, 3) := by decide +kernel
theorem qd_M_oriented_10 : decode qc_M_oriented 10 = .ok (.iconst 1, 1) := by decide +kernel
theorem qd_M_oriented_11 : decode qc_M_oriented 11 = .ok (.goto 4, 3) := by decide +kernel
theorem qd_M_oriented_14 : decode qc_M_oriented 14 = .ok (.iconst 0, 1) := by decide +kernel
theorem qd_M_oriented_15 : decode qc_M_oriented 15 = .ok (.putfield 50, 3) := by decide +kernel
theorem qd_M_oriented_18 : decode qc_M_oriented 18 = .ok (.aload_n 0, 1) := by decide +kernel
theorem qd_M_oriented_19 : decode qc_M_oriented 19 = .ok (.getfield 50, 3) := by decide +kernel
theorem qd_M_oriented_22 : decode qc_M_oriented 22 = .ok (.ifCond .ne 11, 3) := by decide +kernel
theorem qd_M_oriented_25 : decode qc_M_oriented 25 = .ok (.aload_n 0, 1) := by decide +kernel
theorem qd_M_oriented_26 : decode qc_M_oriented 26 = .ok (.iload_n 1, 1) := by decide +kernel
theorem qd_M_oriented_27 : decode qc_M_oriented 27 = .ok (.invokevirtual 120, 3) := by decide +kernel
theorem qd_M_oriented_30 : decode qc_M_oriented 30 = .ok (.goto 4, 3) := by decide +kernel
theorem qd_M_oriented_33 : decode qc_M_oriented 33 = .ok (.iconst 0, 1) := by decide +kernel
theorem qd_M_oriented_34 : decode qc_M_oriented 34 = .ok (.ireturn, 1) := by decide +kernel
abbrev qc_M_ranked : ByteArray := prog_8_method_30_code
abbrev qy_M_ranked : MethodName := ⟨"TermOrdersModel", "ranked", "(I)Z"⟩
abbrev qw_M_ranked : List Cond := (Jvm.Cond.code ({ cls := "TermOrdersModel", name := "ranked", desc := "(I)Z" } : Jvm.MethodName) prog_8_method_30_code (5 : Nat) (Option.some Jvm.ClassFile.FieldType.boolean)) :: gw
theorem qd_M_ranked_0 : decode qc_M_ranked 0 = .ok (.iload_n 1, 1) := by decide +kernel
theorem qd_M_ranked_1 : decode qc_M_ranked 1 = .ok (.istore_n 2, 1) := by decide +kernel
theorem qd_M_ranked_2 : decode qc_M_ranked 2 = .ok (.aload_n 0, 1) := by decide +kernel
theorem qd_M_ranked_3 : decode qc_M_ranked 3 = .ok (.getfield 65, 3) := by decide +kernel
theorem qd_M_ranked_6 : decode qc_M_ranked 6 = .ok (.iconst 1, 1) := by decide +kernel
theorem qd_M_ranked_7 : decode qc_M_ranked 7 = .ok (.isub, 1) := by decide +kernel
theorem qd_M_ranked_8 : decode qc_M_ranked 8 = .ok (.istore_n 3, 1) := by decide +kernel
theorem qd_M_ranked_9 : decode qc_M_ranked 9 = .ok (.iload_n 3, 1) := by decide +kernel
theorem qd_M_ranked_10 : decode qc_M_ranked 10 = .ok (.ifCond .lt 28, 3) := by decide +kernel
theorem qd_M_ranked_13 : decode qc_M_ranked 13 = .ok (.aload_n 0, 1) := by decide +kernel
theorem qd_M_ranked_14 : decode qc_M_ranked 14 = .ok (.getfield 13, 3) := by decide +kernel
theorem qd_M_ranked_17 : decode qc_M_ranked 17 = .ok (.iload_n 3, 1) := by decide +kernel
theorem qd_M_ranked_18 : decode qc_M_ranked 18 = .ok (.iload_n 2, 1) := by decide +kernel
theorem qd_M_ranked_19 : decode qc_M_ranked 19 = .ok (.aload_n 0, 1) := by decide +kernel
theorem qd_M_ranked_20 : decode qc_M_ranked 20 = .ok (.getfield 65, 3) := by decide +kernel
theorem qd_M_ranked_23 : decode qc_M_ranked 23 = .ok (.irem, 1) := by decide +kernel
theorem qd_M_ranked_24 : decode qc_M_ranked 24 = .ok (.iastore, 1) := by decide +kernel
theorem qd_M_ranked_25 : decode qc_M_ranked 25 = .ok (.iload_n 2, 1) := by decide +kernel
theorem qd_M_ranked_26 : decode qc_M_ranked 26 = .ok (.aload_n 0, 1) := by decide +kernel
theorem qd_M_ranked_27 : decode qc_M_ranked 27 = .ok (.getfield 65, 3) := by decide +kernel
theorem qd_M_ranked_30 : decode qc_M_ranked 30 = .ok (.idiv, 1) := by decide +kernel
theorem qd_M_ranked_31 : decode qc_M_ranked 31 = .ok (.istore_n 2, 1) := by decide +kernel
theorem qd_M_ranked_32 : decode qc_M_ranked 32 = .ok (.iinc 3 (-1), 3) := by decide +kernel
theorem qd_M_ranked_35 : decode qc_M_ranked 35 = .ok (.goto (-26), 3) := by decide +kernel
theorem qd_M_ranked_38 : decode qc_M_ranked 38 = .ok (.iconst 0, 1) := by decide +kernel
theorem qd_M_ranked_39 : decode qc_M_ranked 39 = .ok (.istore_n 3, 1) := by decide +kernel
theorem qd_M_ranked_40 : decode qc_M_ranked 40 = .ok (.iload_n 3, 1) := by decide +kernel
theorem qd_M_ranked_41 : decode qc_M_ranked 41 = .ok (.aload_n 0, 1) := by decide +kernel
theorem qd_M_ranked_42 : decode qc_M_ranked 42 = .ok (.getfield 65, 3) := by decide +kernel
theorem qd_M_ranked_45 : decode qc_M_ranked 45 = .ok (.if_icmp .ge 42, 3) := by decide +kernel
theorem qd_M_ranked_48 : decode qc_M_ranked 48 = .ok (.iconst 0, 1) := by decide +kernel
theorem qd_M_ranked_49 : decode qc_M_ranked 49 = .ok (.istore 4, 2) := by decide +kernel
theorem qd_M_ranked_51 : decode qc_M_ranked 51 = .ok (.iload 4, 2) := by decide +kernel
theorem qd_M_ranked_53 : decode qc_M_ranked 53 = .ok (.iload_n 3, 1) := by decide +kernel
theorem qd_M_ranked_54 : decode qc_M_ranked 54 = .ok (.if_icmp .ge 27, 3) := by decide +kernel
theorem qd_M_ranked_57 : decode qc_M_ranked 57 = .ok (.aload_n 0, 1) := by decide +kernel
theorem qd_M_ranked_58 : decode qc_M_ranked 58 = .ok (.getfield 13, 3) := by decide +kernel
theorem qd_M_ranked_61 : decode qc_M_ranked 61 = .ok (.iload 4, 2) := by decide +kernel
theorem qd_M_ranked_63 : decode qc_M_ranked 63 = .ok (.iaload, 1) := by decide +kernel
theorem qd_M_ranked_64 : decode qc_M_ranked 64 = .ok (.aload_n 0, 1) := by decide +kernel
theorem qd_M_ranked_65 : decode qc_M_ranked 65 = .ok (.getfield 13, 3) := by decide +kernel
theorem qd_M_ranked_68 : decode qc_M_ranked 68 = .ok (.iload_n 3, 1) := by decide +kernel
theorem qd_M_ranked_69 : decode qc_M_ranked 69 = .ok (.iaload, 1) := by decide +kernel
theorem qd_M_ranked_70 : decode qc_M_ranked 70 = .ok (.if_icmp .ne 5, 3) := by decide +kernel
theorem qd_M_ranked_73 : decode qc_M_ranked 73 = .ok (.iconst 0, 1) := by decide +kernel
theorem qd_M_ranked_74 : decode qc_M_ranked 74 = .ok (.ireturn, 1) := by decide +kernel
theorem qd_M_ranked_75 : decode qc_M_ranked 75 = .ok (.iinc 4 1, 3) := by decide +kernel
theorem qd_M_ranked_78 : decode qc_M_ranked 78 = .ok (.goto (-27), 3) := by decide +kernel
theorem qd_M_ranked_81 : decode qc_M_ranked 81 = .ok (.iinc 3 1, 3) := by decide +kernel
theorem qd_M_ranked_84 : decode qc_M_ranked 84 = .ok (.goto (-44), 3) := by decide +kernel
theorem qd_M_ranked_87 : decode qc_M_ranked 87 = .ok (.iconst 1, 1) := by decide +kernel
theorem qd_M_ranked_88 : decode qc_M_ranked 88 = .ok (.ireturn, 1) := by decide +kernel
abbrev qc_M_search : ByteArray := prog_8_method_31_code
abbrev qy_M_search : MethodName := ⟨"TermOrdersModel", "search", "(I)Z"⟩
abbrev qw_M_search : List Cond := (Jvm.Cond.code ({ cls := "TermOrdersModel", name := "search", desc := "(I)Z" } : Jvm.MethodName) prog_8_method_31_code (4 : Nat) (Option.some Jvm.ClassFile.FieldType.boolean)) :: gw
theorem qd_M_search_0 : decode qc_M_search 0 = .ok (.aload_n 0, 1) := by decide +kernel
theorem qd_M_search_1 : decode qc_M_search 1 = .ok (.iload_n 1, 1) := by decide +kernel
theorem qd_M_search_2 : decode qc_M_search 2 = .ok (.ifCond .lt 8, 3) := by decide +kernel
theorem qd_M_search_5 : decode qc_M_search 5 = .ok (.iload_n 1, 1) := by decide +kernel
theorem qd_M_search_6 : decode qc_M_search 6 = .ok (.iconst 1, 1) := by decide +kernel
theorem qd_M_search_7 : decode qc_M_search 7 = .ok (.if_icmp .le 7, 3) := by decide +kernel
theorem qd_M_search_10 : decode qc_M_search 10 = .ok (.iconst 1, 1) := by decide +kernel
theorem qd_M_search_11 : decode qc_M_search 11 = .ok (.goto 4, 3) := by decide +kernel
theorem qd_M_search_14 : decode qc_M_search 14 = .ok (.iconst 0, 1) := by decide +kernel
theorem qd_M_search_15 : decode qc_M_search 15 = .ok (.putfield 50, 3) := by decide +kernel
theorem qd_M_search_18 : decode qc_M_search 18 = .ok (.aload_n 0, 1) := by decide +kernel
theorem qd_M_search_19 : decode qc_M_search 19 = .ok (.getfield 50, 3) := by decide +kernel
theorem qd_M_search_22 : decode qc_M_search 22 = .ok (.ifCond .eq 5, 3) := by decide +kernel
theorem qd_M_search_25 : decode qc_M_search 25 = .ok (.iconst 0, 1) := by decide +kernel
theorem qd_M_search_26 : decode qc_M_search 26 = .ok (.ireturn, 1) := by decide +kernel
theorem qd_M_search_27 : decode qc_M_search 27 = .ok (.iconst 1, 1) := by decide +kernel
theorem qd_M_search_28 : decode qc_M_search 28 = .ok (.istore_n 2, 1) := by decide +kernel
theorem qd_M_search_29 : decode qc_M_search 29 = .ok (.iconst 0, 1) := by decide +kernel
theorem qd_M_search_30 : decode qc_M_search 30 = .ok (.istore_n 3, 1) := by decide +kernel
theorem qd_M_search_31 : decode qc_M_search 31 = .ok (.iload_n 3, 1) := by decide +kernel
theorem qd_M_search_32 : decode qc_M_search 32 = .ok (.aload_n 0, 1) := by decide +kernel
theorem qd_M_search_33 : decode qc_M_search 33 = .ok (.getfield 65, 3) := by decide +kernel
theorem qd_M_search_36 : decode qc_M_search 36 = .ok (.if_icmp .ge 28, 3) := by decide +kernel
theorem qd_M_search_39 : decode qc_M_search 39 = .ok (.aload_n 0, 1) := by decide +kernel
theorem qd_M_search_40 : decode qc_M_search 40 = .ok (.getfield 47, 3) := by decide +kernel
theorem qd_M_search_43 : decode qc_M_search 43 = .ok (.iload_n 3, 1) := by decide +kernel
theorem qd_M_search_44 : decode qc_M_search 44 = .ok (.aload_n 0, 1) := by decide +kernel
theorem qd_M_search_45 : decode qc_M_search 45 = .ok (.getfield 13, 3) := by decide +kernel
theorem qd_M_search_48 : decode qc_M_search 48 = .ok (.iload_n 3, 1) := by decide +kernel
theorem qd_M_search_49 : decode qc_M_search 49 = .ok (.iaload, 1) := by decide +kernel
theorem qd_M_search_50 : decode qc_M_search 50 = .ok (.iastore, 1) := by decide +kernel
theorem qd_M_search_51 : decode qc_M_search 51 = .ok (.iload_n 2, 1) := by decide +kernel
theorem qd_M_search_52 : decode qc_M_search 52 = .ok (.aload_n 0, 1) := by decide +kernel
theorem qd_M_search_53 : decode qc_M_search 53 = .ok (.getfield 65, 3) := by decide +kernel
theorem qd_M_search_56 : decode qc_M_search 56 = .ok (.imul, 1) := by decide +kernel
theorem qd_M_search_57 : decode qc_M_search 57 = .ok (.istore_n 2, 1) := by decide +kernel
theorem qd_M_search_58 : decode qc_M_search 58 = .ok (.iinc 3 1, 3) := by decide +kernel
theorem qd_M_search_61 : decode qc_M_search 61 = .ok (.goto (-30), 3) := by decide +kernel
theorem qd_M_search_64 : decode qc_M_search 64 = .ok (.iconst 0, 1) := by decide +kernel
theorem qd_M_search_65 : decode qc_M_search 65 = .ok (.istore_n 3, 1) := by decide +kernel
theorem qd_M_search_66 : decode qc_M_search 66 = .ok (.iload_n 3, 1) := by decide +kernel
theorem qd_M_search_67 : decode qc_M_search 67 = .ok (.iload_n 2, 1) := by decide +kernel
theorem qd_M_search_68 : decode qc_M_search 68 = .ok (.if_icmp .ge 46, 3) := by decide +kernel
theorem qd_M_search_71 : decode qc_M_search 71 = .ok (.aload_n 0, 1) := by decide +kernel
theorem qd_M_search_72 : decode qc_M_search 72 = .ok (.iload_n 3, 1) := by decide +kernel
theorem qd_M_search_73 : decode qc_M_search 73 = .ok (.invokevirtual 123, 3) := by decide +kernel
theorem qd_M_search_76 : decode qc_M_search 76 = .ok (.ifCond .eq 32, 3) := by decide +kernel
theorem qd_M_search_79 : decode qc_M_search 79 = .ok (.iload_n 1, 1) := by decide +kernel
theorem qd_M_search_80 : decode qc_M_search 80 = .ok (.ifCond .eq 10, 3) := by decide +kernel
theorem qd_M_search_83 : decode qc_M_search 83 = .ok (.aload_n 0, 1) := by decide +kernel
theorem qd_M_search_84 : decode qc_M_search 84 = .ok (.invokevirtual 116, 3) := by decide +kernel
theorem qd_M_search_87 : decode qc_M_search 87 = .ok (.ifCond .eq 21, 3) := by decide +kernel
theorem qd_M_search_90 : decode qc_M_search 90 = .ok (.aload_n 0, 1) := by decide +kernel
theorem qd_M_search_91 : decode qc_M_search 91 = .ok (.iload_n 1, 1) := by decide +kernel
theorem qd_M_search_92 : decode qc_M_search 92 = .ok (.invokevirtual 120, 3) := by decide +kernel
theorem qd_M_search_95 : decode qc_M_search 95 = .ok (.iconst 1, 1) := by decide +kernel
theorem qd_M_search_96 : decode qc_M_search 96 = .ok (.aload_n 0, 1) := by decide +kernel
theorem qd_M_search_97 : decode qc_M_search 97 = .ok (.getfield 89, 3) := by decide +kernel
theorem qd_M_search_100 : decode qc_M_search 100 = .ok (.ishl, 1) := by decide +kernel
theorem qd_M_search_101 : decode qc_M_search 101 = .ok (.iconst 1, 1) := by decide +kernel
theorem qd_M_search_102 : decode qc_M_search 102 = .ok (.isub, 1) := by decide +kernel
theorem qd_M_search_103 : decode qc_M_search 103 = .ok (.if_icmp .ne 5, 3) := by decide +kernel
theorem qd_M_search_106 : decode qc_M_search 106 = .ok (.iconst 1, 1) := by decide +kernel
theorem qd_M_search_107 : decode qc_M_search 107 = .ok (.ireturn, 1) := by decide +kernel
theorem qd_M_search_108 : decode qc_M_search 108 = .ok (.iinc 3 1, 3) := by decide +kernel
theorem qd_M_search_111 : decode qc_M_search 111 = .ok (.goto (-45), 3) := by decide +kernel
theorem qd_M_search_114 : decode qc_M_search 114 = .ok (.iconst 0, 1) := by decide +kernel
theorem qd_M_search_115 : decode qc_M_search 115 = .ok (.istore_n 3, 1) := by decide +kernel
theorem qd_M_search_116 : decode qc_M_search 116 = .ok (.iload_n 3, 1) := by decide +kernel
theorem qd_M_search_117 : decode qc_M_search 117 = .ok (.aload_n 0, 1) := by decide +kernel
theorem qd_M_search_118 : decode qc_M_search 118 = .ok (.getfield 65, 3) := by decide +kernel
theorem qd_M_search_121 : decode qc_M_search 121 = .ok (.if_icmp .ge 21, 3) := by decide +kernel
theorem qd_M_search_124 : decode qc_M_search 124 = .ok (.aload_n 0, 1) := by decide +kernel
theorem qd_M_search_125 : decode qc_M_search 125 = .ok (.getfield 13, 3) := by decide +kernel
theorem qd_M_search_128 : decode qc_M_search 128 = .ok (.iload_n 3, 1) := by decide +kernel
theorem qd_M_search_129 : decode qc_M_search 129 = .ok (.aload_n 0, 1) := by decide +kernel
theorem qd_M_search_130 : decode qc_M_search 130 = .ok (.getfield 47, 3) := by decide +kernel
theorem qd_M_search_133 : decode qc_M_search 133 = .ok (.iload_n 3, 1) := by decide +kernel
theorem qd_M_search_134 : decode qc_M_search 134 = .ok (.iaload, 1) := by decide +kernel
theorem qd_M_search_135 : decode qc_M_search 135 = .ok (.iastore, 1) := by decide +kernel
theorem qd_M_search_136 : decode qc_M_search 136 = .ok (.iinc 3 1, 3) := by decide +kernel
theorem qd_M_search_139 : decode qc_M_search 139 = .ok (.goto (-23), 3) := by decide +kernel
theorem qd_M_search_142 : decode qc_M_search 142 = .ok (.iconst 0, 1) := by decide +kernel
theorem qd_M_search_143 : decode qc_M_search 143 = .ok (.ireturn, 1) := by decide +kernel
abbrev qc_M_matches : ByteArray := prog_8_method_32_code
abbrev qy_M_matches : MethodName := ⟨"TermOrdersModel", "matches", "(III)Z"⟩
abbrev qw_M_matches : List Cond := (Jvm.Cond.code ({ cls := "TermOrdersModel", name := "matches", desc := "(III)Z" } : Jvm.MethodName) prog_8_method_32_code (9 : Nat) (Option.some Jvm.ClassFile.FieldType.boolean)) :: gw
theorem qd_M_matches_0 : decode qc_M_matches 0 = .ok (.bipush 16, 2) := by decide +kernel
theorem qd_M_matches_2 : decode qc_M_matches 2 = .ok (.aload_n 0, 1) := by decide +kernel
theorem qd_M_matches_3 : decode qc_M_matches 3 = .ok (.getfield 25, 3) := by decide +kernel
theorem qd_M_matches_6 : decode qc_M_matches 6 = .ok (.iload_n 1, 1) := by decide +kernel
theorem qd_M_matches_7 : decode qc_M_matches 7 = .ok (.iaload, 1) := by decide +kernel
theorem qd_M_matches_8 : decode qc_M_matches 8 = .ok (.imul, 1) := by decide +kernel
theorem qd_M_matches_9 : decode qc_M_matches 9 = .ok (.istore 4, 2) := by decide +kernel
theorem qd_M_matches_11 : decode qc_M_matches 11 = .ok (.iload_n 3, 1) := by decide +kernel
theorem qd_M_matches_12 : decode qc_M_matches 12 = .ok (.istore 5, 2) := by decide +kernel
theorem qd_M_matches_14 : decode qc_M_matches 14 = .ok (.iconst 0, 1) := by decide +kernel
theorem qd_M_matches_15 : decode qc_M_matches 15 = .ok (.istore 6, 2) := by decide +kernel
theorem qd_M_matches_17 : decode qc_M_matches 17 = .ok (.iload 6, 2) := by decide +kernel
theorem qd_M_matches_19 : decode qc_M_matches 19 = .ok (.iconst 4, 1) := by decide +kernel
theorem qd_M_matches_20 : decode qc_M_matches 20 = .ok (.if_icmp .ge 17, 3) := by decide +kernel
theorem qd_M_matches_23 : decode qc_M_matches 23 = .ok (.aload_n 0, 1) := by decide +kernel
theorem qd_M_matches_24 : decode qc_M_matches 24 = .ok (.getfield 44, 3) := by decide +kernel
theorem qd_M_matches_27 : decode qc_M_matches 27 = .ok (.iload 6, 2) := by decide +kernel
theorem qd_M_matches_29 : decode qc_M_matches 29 = .ok (.iconst (-1), 1) := by decide +kernel
theorem qd_M_matches_30 : decode qc_M_matches 30 = .ok (.iastore, 1) := by decide +kernel
theorem qd_M_matches_31 : decode qc_M_matches 31 = .ok (.iinc 6 1, 3) := by decide +kernel
theorem qd_M_matches_34 : decode qc_M_matches 34 = .ok (.goto (-17), 3) := by decide +kernel
theorem qd_M_matches_37 : decode qc_M_matches 37 = .ok (.iconst 0, 1) := by decide +kernel
theorem qd_M_matches_38 : decode qc_M_matches 38 = .ok (.istore 6, 2) := by decide +kernel
theorem qd_M_matches_40 : decode qc_M_matches 40 = .ok (.iload 6, 2) := by decide +kernel
theorem qd_M_matches_42 : decode qc_M_matches 42 = .ok (.aload_n 0, 1) := by decide +kernel
theorem qd_M_matches_43 : decode qc_M_matches 43 = .ok (.getfield 22, 3) := by decide +kernel
theorem qd_M_matches_46 : decode qc_M_matches 46 = .ok (.aload_n 0, 1) := by decide +kernel
theorem qd_M_matches_47 : decode qc_M_matches 47 = .ok (.getfield 25, 3) := by decide +kernel
theorem qd_M_matches_50 : decode qc_M_matches 50 = .ok (.iload_n 1, 1) := by decide +kernel
theorem qd_M_matches_51 : decode qc_M_matches 51 = .ok (.iaload, 1) := by decide +kernel
theorem qd_M_matches_52 : decode qc_M_matches 52 = .ok (.iaload, 1) := by decide +kernel
theorem qd_M_matches_53 : decode qc_M_matches 53 = .ok (.if_icmp .ge 134, 3) := by decide +kernel
theorem qd_M_matches_56 : decode qc_M_matches 56 = .ok (.aload_n 0, 1) := by decide +kernel
theorem qd_M_matches_57 : decode qc_M_matches 57 = .ok (.getfield 19, 3) := by decide +kernel
theorem qd_M_matches_60 : decode qc_M_matches 60 = .ok (.iload 4, 2) := by decide +kernel
theorem qd_M_matches_62 : decode qc_M_matches 62 = .ok (.iload 6, 2) := by decide +kernel
theorem qd_M_matches_64 : decode qc_M_matches 64 = .ok (.iadd, 1) := by decide +kernel
theorem qd_M_matches_65 : decode qc_M_matches 65 = .ok (.iaload, 1) := by decide +kernel
theorem qd_M_matches_66 : decode qc_M_matches 66 = .ok (.istore 7, 2) := by decide +kernel
theorem qd_M_matches_68 : decode qc_M_matches 68 = .ok (.iload 7, 2) := by decide +kernel
theorem qd_M_matches_70 : decode qc_M_matches 70 = .ok (.ifCond .lt 19, 3) := by decide +kernel
theorem qd_M_matches_73 : decode qc_M_matches 73 = .ok (.aload_n 0, 1) := by decide +kernel
theorem qd_M_matches_74 : decode qc_M_matches 74 = .ok (.getfield 19, 3) := by decide +kernel
theorem qd_M_matches_77 : decode qc_M_matches 77 = .ok (.iload_n 2, 1) := by decide +kernel
theorem qd_M_matches_78 : decode qc_M_matches 78 = .ok (.iload 5, 2) := by decide +kernel
theorem qd_M_matches_80 : decode qc_M_matches 80 = .ok (.iadd, 1) := by decide +kernel
theorem qd_M_matches_81 : decode qc_M_matches 81 = .ok (.iaload, 1) := by decide +kernel
theorem qd_M_matches_82 : decode qc_M_matches 82 = .ok (.iload 7, 2) := by decide +kernel
theorem qd_M_matches_84 : decode qc_M_matches 84 = .ok (.if_icmp .eq 5, 3) := by decide +kernel
theorem qd_M_matches_87 : decode qc_M_matches 87 = .ok (.iconst 0, 1) := by decide +kernel
theorem qd_M_matches_88 : decode qc_M_matches 88 = .ok (.ireturn, 1) := by decide +kernel
theorem qd_M_matches_89 : decode qc_M_matches 89 = .ok (.iload 7, 2) := by decide +kernel
theorem qd_M_matches_91 : decode qc_M_matches 91 = .ok (.ifCond .lt 10, 3) := by decide +kernel
theorem qd_M_matches_94 : decode qc_M_matches 94 = .ok (.iload 5, 2) := by decide +kernel
theorem qd_M_matches_96 : decode qc_M_matches 96 = .ok (.iconst 1, 1) := by decide +kernel
theorem qd_M_matches_97 : decode qc_M_matches 97 = .ok (.iadd, 1) := by decide +kernel
theorem qd_M_matches_98 : decode qc_M_matches 98 = .ok (.goto 10, 3) := by decide +kernel
theorem qd_M_matches_101 : decode qc_M_matches 101 = .ok (.aload_n 0, 1) := by decide +kernel
theorem qd_M_matches_102 : decode qc_M_matches 102 = .ok (.iload_n 2, 1) := by decide +kernel
theorem qd_M_matches_103 : decode qc_M_matches 103 = .ok (.iload 5, 2) := by decide +kernel
theorem qd_M_matches_105 : decode qc_M_matches 105 = .ok (.invokevirtual 58, 3) := by decide +kernel
theorem qd_M_matches_108 : decode qc_M_matches 108 = .ok (.istore 8, 2) := by decide +kernel
theorem qd_M_matches_110 : decode qc_M_matches 110 = .ok (.iload 7, 2) := by decide +kernel
theorem qd_M_matches_112 : decode qc_M_matches 112 = .ok (.ifCond .ge 37, 3) := by decide +kernel
theorem qd_M_matches_115 : decode qc_M_matches 115 = .ok (.aload_n 0, 1) := by decide +kernel
theorem qd_M_matches_116 : decode qc_M_matches 116 = .ok (.getfield 44, 3) := by decide +kernel
theorem qd_M_matches_119 : decode qc_M_matches 119 = .ok (.iconst (-1), 1) := by decide +kernel
theorem qd_M_matches_120 : decode qc_M_matches 120 = .ok (.iload 7, 2) := by decide +kernel
theorem qd_M_matches_122 : decode qc_M_matches 122 = .ok (.isub, 1) := by decide +kernel
theorem qd_M_matches_123 : decode qc_M_matches 123 = .ok (.iaload, 1) := by decide +kernel
theorem qd_M_matches_124 : decode qc_M_matches 124 = .ok (.ifCond .lt 25, 3) := by decide +kernel
theorem qd_M_matches_127 : decode qc_M_matches 127 = .ok (.aload_n 0, 1) := by decide +kernel
theorem qd_M_matches_128 : decode qc_M_matches 128 = .ok (.iload_n 2, 1) := by decide +kernel
theorem qd_M_matches_129 : decode qc_M_matches 129 = .ok (.aload_n 0, 1) := by decide +kernel
theorem qd_M_matches_130 : decode qc_M_matches 130 = .ok (.getfield 44, 3) := by decide +kernel
theorem qd_M_matches_133 : decode qc_M_matches 133 = .ok (.iconst (-1), 1) := by decide +kernel
theorem qd_M_matches_134 : decode qc_M_matches 134 = .ok (.iload 7, 2) := by decide +kernel
theorem qd_M_matches_136 : decode qc_M_matches 136 = .ok (.isub, 1) := by decide +kernel
theorem qd_M_matches_137 : decode qc_M_matches 137 = .ok (.iaload, 1) := by decide +kernel
theorem qd_M_matches_138 : decode qc_M_matches 138 = .ok (.iload_n 2, 1) := by decide +kernel
theorem qd_M_matches_139 : decode qc_M_matches 139 = .ok (.iload 5, 2) := by decide +kernel
theorem qd_M_matches_141 : decode qc_M_matches 141 = .ok (.invokevirtual 92, 3) := by decide +kernel
theorem qd_M_matches_144 : decode qc_M_matches 144 = .ok (.ifCond .ne 5, 3) := by decide +kernel
theorem qd_M_matches_147 : decode qc_M_matches 147 = .ok (.iconst 0, 1) := by decide +kernel
theorem qd_M_matches_148 : decode qc_M_matches 148 = .ok (.ireturn, 1) := by decide +kernel
theorem qd_M_matches_149 : decode qc_M_matches 149 = .ok (.iload 7, 2) := by decide +kernel
theorem qd_M_matches_151 : decode qc_M_matches 151 = .ok (.ifCond .ge 26, 3) := by decide +kernel
theorem qd_M_matches_154 : decode qc_M_matches 154 = .ok (.aload_n 0, 1) := by decide +kernel
theorem qd_M_matches_155 : decode qc_M_matches 155 = .ok (.getfield 44, 3) := by decide +kernel
theorem qd_M_matches_158 : decode qc_M_matches 158 = .ok (.iconst (-1), 1) := by decide +kernel
theorem qd_M_matches_159 : decode qc_M_matches 159 = .ok (.iload 7, 2) := by decide +kernel
theorem qd_M_matches_161 : decode qc_M_matches 161 = .ok (.isub, 1) := by decide +kernel
theorem qd_M_matches_162 : decode qc_M_matches 162 = .ok (.iaload, 1) := by decide +kernel
theorem qd_M_matches_163 : decode qc_M_matches 163 = .ok (.ifCond .ge 14, 3) := by decide +kernel
theorem qd_M_matches_166 : decode qc_M_matches 166 = .ok (.aload_n 0, 1) := by decide +kernel
theorem qd_M_matches_167 : decode qc_M_matches 167 = .ok (.getfield 44, 3) := by decide +kernel
theorem qd_M_matches_170 : decode qc_M_matches 170 = .ok (.iconst (-1), 1) := by decide +kernel
theorem qd_M_matches_171 : decode qc_M_matches 171 = .ok (.iload 7, 2) := by decide +kernel
theorem qd_M_matches_173 : decode qc_M_matches 173 = .ok (.isub, 1) := by decide +kernel
theorem qd_M_matches_174 : decode qc_M_matches 174 = .ok (.iload 5, 2) := by decide +kernel
theorem qd_M_matches_176 : decode qc_M_matches 176 = .ok (.iastore, 1) := by decide +kernel
theorem qd_M_matches_177 : decode qc_M_matches 177 = .ok (.iload 8, 2) := by decide +kernel
theorem qd_M_matches_179 : decode qc_M_matches 179 = .ok (.istore 5, 2) := by decide +kernel
theorem qd_M_matches_181 : decode qc_M_matches 181 = .ok (.iinc 6 1, 3) := by decide +kernel
theorem qd_M_matches_184 : decode qc_M_matches 184 = .ok (.goto (-144), 3) := by decide +kernel
theorem qd_M_matches_187 : decode qc_M_matches 187 = .ok (.iconst 1, 1) := by decide +kernel
theorem qd_M_matches_188 : decode qc_M_matches 188 = .ok (.ireturn, 1) := by decide +kernel
abbrev qc_M_ruleAt : ByteArray := prog_8_method_33_code
abbrev qy_M_ruleAt : MethodName := ⟨"TermOrdersModel", "ruleAt", "(II)I"⟩
abbrev qw_M_ruleAt : List Cond := (Jvm.Cond.code ({ cls := "TermOrdersModel", name := "ruleAt", desc := "(II)I" } : Jvm.MethodName) prog_8_method_33_code (4 : Nat) (Option.some Jvm.ClassFile.FieldType.int)) :: gw
theorem qd_M_ruleAt_0 : decode qc_M_ruleAt 0 = .ok (.iconst 0, 1) := by decide +kernel
theorem qd_M_ruleAt_1 : decode qc_M_ruleAt 1 = .ok (.istore_n 3, 1) := by decide +kernel
theorem qd_M_ruleAt_2 : decode qc_M_ruleAt 2 = .ok (.iload_n 3, 1) := by decide +kernel
theorem qd_M_ruleAt_3 : decode qc_M_ruleAt 3 = .ok (.aload_n 0, 1) := by decide +kernel
theorem qd_M_ruleAt_4 : decode qc_M_ruleAt 4 = .ok (.getfield 89, 3) := by decide +kernel
theorem qd_M_ruleAt_7 : decode qc_M_ruleAt 7 = .ok (.if_icmp .ge 21, 3) := by decide +kernel
theorem qd_M_ruleAt_10 : decode qc_M_ruleAt 10 = .ok (.aload_n 0, 1) := by decide +kernel
theorem qd_M_ruleAt_11 : decode qc_M_ruleAt 11 = .ok (.iload_n 3, 1) := by decide +kernel
theorem qd_M_ruleAt_12 : decode qc_M_ruleAt 12 = .ok (.iload_n 1, 1) := by decide +kernel
theorem qd_M_ruleAt_13 : decode qc_M_ruleAt 13 = .ok (.iload_n 2, 1) := by decide +kernel
theorem qd_M_ruleAt_14 : decode qc_M_ruleAt 14 = .ok (.invokevirtual 126, 3) := by decide +kernel
theorem qd_M_ruleAt_17 : decode qc_M_ruleAt 17 = .ok (.ifCond .eq 5, 3) := by decide +kernel
theorem qd_M_ruleAt_20 : decode qc_M_ruleAt 20 = .ok (.iload_n 3, 1) := by decide +kernel
theorem qd_M_ruleAt_21 : decode qc_M_ruleAt 21 = .ok (.ireturn, 1) := by decide +kernel
theorem qd_M_ruleAt_22 : decode qc_M_ruleAt 22 = .ok (.iinc 3 1, 3) := by decide +kernel
theorem qd_M_ruleAt_25 : decode qc_M_ruleAt 25 = .ok (.goto (-23), 3) := by decide +kernel
theorem qd_M_ruleAt_28 : decode qc_M_ruleAt 28 = .ok (.iconst (-1), 1) := by decide +kernel
theorem qd_M_ruleAt_29 : decode qc_M_ruleAt 29 = .ok (.ireturn, 1) := by decide +kernel
abbrev qc_M_placeOf : ByteArray := prog_8_method_34_code
abbrev qy_M_placeOf : MethodName := ⟨"TermOrdersModel", "placeOf", "(I)I"⟩
abbrev qw_M_placeOf : List Cond := (Jvm.Cond.code ({ cls := "TermOrdersModel", name := "placeOf", desc := "(I)I" } : Jvm.MethodName) prog_8_method_34_code (7 : Nat) (Option.some Jvm.ClassFile.FieldType.int)) :: gw
theorem qd_M_placeOf_0 : decode qc_M_placeOf 0 = .ok (.bipush 16, 2) := by decide +kernel
theorem qd_M_placeOf_2 : decode qc_M_placeOf 2 = .ok (.iload_n 1, 1) := by decide +kernel
theorem qd_M_placeOf_3 : decode qc_M_placeOf 3 = .ok (.imul, 1) := by decide +kernel
theorem qd_M_placeOf_4 : decode qc_M_placeOf 4 = .ok (.istore_n 2, 1) := by decide +kernel
theorem qd_M_placeOf_5 : decode qc_M_placeOf 5 = .ok (.iconst 0, 1) := by decide +kernel
theorem qd_M_placeOf_6 : decode qc_M_placeOf 6 = .ok (.istore_n 3, 1) := by decide +kernel
theorem qd_M_placeOf_7 : decode qc_M_placeOf 7 = .ok (.iload_n 3, 1) := by decide +kernel
theorem qd_M_placeOf_8 : decode qc_M_placeOf 8 = .ok (.aload_n 0, 1) := by decide +kernel
theorem qd_M_placeOf_9 : decode qc_M_placeOf 9 = .ok (.getfield 22, 3) := by decide +kernel
theorem qd_M_placeOf_12 : decode qc_M_placeOf 12 = .ok (.iload_n 1, 1) := by decide +kernel
theorem qd_M_placeOf_13 : decode qc_M_placeOf 13 = .ok (.iaload, 1) := by decide +kernel
theorem qd_M_placeOf_14 : decode qc_M_placeOf 14 = .ok (.if_icmp .ge 80, 3) := by decide +kernel
theorem qd_M_placeOf_17 : decode qc_M_placeOf 17 = .ok (.aload_n 0, 1) := by decide +kernel
theorem qd_M_placeOf_18 : decode qc_M_placeOf 18 = .ok (.iload_n 2, 1) := by decide +kernel
theorem qd_M_placeOf_19 : decode qc_M_placeOf 19 = .ok (.iload_n 3, 1) := by decide +kernel
theorem qd_M_placeOf_20 : decode qc_M_placeOf 20 = .ok (.invokevirtual 129, 3) := by decide +kernel
theorem qd_M_placeOf_23 : decode qc_M_placeOf 23 = .ok (.ifCond .lt 7, 3) := by decide +kernel
theorem qd_M_placeOf_26 : decode qc_M_placeOf 26 = .ok (.iconst 1, 1) := by decide +kernel
theorem qd_M_placeOf_27 : decode qc_M_placeOf 27 = .ok (.goto 4, 3) := by decide +kernel
theorem qd_M_placeOf_30 : decode qc_M_placeOf 30 = .ok (.iconst 0, 1) := by decide +kernel
theorem qd_M_placeOf_31 : decode qc_M_placeOf 31 = .ok (.istore 4, 2) := by decide +kernel
theorem qd_M_placeOf_33 : decode qc_M_placeOf 33 = .ok (.aload_n 0, 1) := by decide +kernel
theorem qd_M_placeOf_34 : decode qc_M_placeOf 34 = .ok (.iload_n 2, 1) := by decide +kernel
theorem qd_M_placeOf_35 : decode qc_M_placeOf 35 = .ok (.iload_n 3, 1) := by decide +kernel
theorem qd_M_placeOf_36 : decode qc_M_placeOf 36 = .ok (.invokevirtual 58, 3) := by decide +kernel
theorem qd_M_placeOf_39 : decode qc_M_placeOf 39 = .ok (.istore 5, 2) := by decide +kernel
theorem qd_M_placeOf_41 : decode qc_M_placeOf 41 = .ok (.iload_n 3, 1) := by decide +kernel
theorem qd_M_placeOf_42 : decode qc_M_placeOf 42 = .ok (.iconst 1, 1) := by decide +kernel
theorem qd_M_placeOf_43 : decode qc_M_placeOf 43 = .ok (.iadd, 1) := by decide +kernel
theorem qd_M_placeOf_44 : decode qc_M_placeOf 44 = .ok (.istore 6, 2) := by decide +kernel
theorem qd_M_placeOf_46 : decode qc_M_placeOf 46 = .ok (.iload 6, 2) := by decide +kernel
theorem qd_M_placeOf_48 : decode qc_M_placeOf 48 = .ok (.iload 5, 2) := by decide +kernel
theorem qd_M_placeOf_50 : decode qc_M_placeOf 50 = .ok (.if_icmp .ge 31, 3) := by decide +kernel
theorem qd_M_placeOf_53 : decode qc_M_placeOf 53 = .ok (.iload 4, 2) := by decide +kernel
theorem qd_M_placeOf_55 : decode qc_M_placeOf 55 = .ok (.ifCond .eq 26, 3) := by decide +kernel
theorem qd_M_placeOf_58 : decode qc_M_placeOf 58 = .ok (.aload_n 0, 1) := by decide +kernel
theorem qd_M_placeOf_59 : decode qc_M_placeOf 59 = .ok (.iload_n 2, 1) := by decide +kernel
theorem qd_M_placeOf_60 : decode qc_M_placeOf 60 = .ok (.iload 6, 2) := by decide +kernel
theorem qd_M_placeOf_62 : decode qc_M_placeOf 62 = .ok (.invokevirtual 129, 3) := by decide +kernel
theorem qd_M_placeOf_65 : decode qc_M_placeOf 65 = .ok (.ifCond .ge 7, 3) := by decide +kernel
theorem qd_M_placeOf_68 : decode qc_M_placeOf 68 = .ok (.iconst 1, 1) := by decide +kernel
theorem qd_M_placeOf_69 : decode qc_M_placeOf 69 = .ok (.goto 4, 3) := by decide +kernel
theorem qd_M_placeOf_72 : decode qc_M_placeOf 72 = .ok (.iconst 0, 1) := by decide +kernel
theorem qd_M_placeOf_73 : decode qc_M_placeOf 73 = .ok (.istore 4, 2) := by decide +kernel
theorem qd_M_placeOf_75 : decode qc_M_placeOf 75 = .ok (.iinc 6 1, 3) := by decide +kernel
theorem qd_M_placeOf_78 : decode qc_M_placeOf 78 = .ok (.goto (-32), 3) := by decide +kernel
theorem qd_M_placeOf_81 : decode qc_M_placeOf 81 = .ok (.iload 4, 2) := by decide +kernel
theorem qd_M_placeOf_83 : decode qc_M_placeOf 83 = .ok (.ifCond .eq 5, 3) := by decide +kernel
theorem qd_M_placeOf_86 : decode qc_M_placeOf 86 = .ok (.iload_n 3, 1) := by decide +kernel
theorem qd_M_placeOf_87 : decode qc_M_placeOf 87 = .ok (.ireturn, 1) := by decide +kernel
theorem qd_M_placeOf_88 : decode qc_M_placeOf 88 = .ok (.iinc 3 1, 3) := by decide +kernel
theorem qd_M_placeOf_91 : decode qc_M_placeOf 91 = .ok (.goto (-84), 3) := by decide +kernel
theorem qd_M_placeOf_94 : decode qc_M_placeOf 94 = .ok (.iconst (-1), 1) := by decide +kernel
theorem qd_M_placeOf_95 : decode qc_M_placeOf 95 = .ok (.ireturn, 1) := by decide +kernel
abbrev qc_M_step : ByteArray := prog_8_method_35_code
abbrev qy_M_step : MethodName := ⟨"TermOrdersModel", "step", "(I)I"⟩
abbrev qw_M_step : List Cond := (Jvm.Cond.code ({ cls := "TermOrdersModel", name := "step", desc := "(I)I" } : Jvm.MethodName) prog_8_method_35_code (10 : Nat) (Option.some Jvm.ClassFile.FieldType.int)) :: gw
theorem qd_M_step_0 : decode qc_M_step 0 = .ok (.aload_n 0, 1) := by decide +kernel
theorem qd_M_step_1 : decode qc_M_step 1 = .ok (.aload_n 0, 1) := by decide +kernel
theorem qd_M_step_2 : decode qc_M_step 2 = .ok (.iload_n 1, 1) := by decide +kernel
theorem qd_M_step_3 : decode qc_M_step 3 = .ok (.invokevirtual 75, 3) := by decide +kernel
theorem qd_M_step_6 : decode qc_M_step 6 = .ok (.ifCond .eq 7, 3) := by decide +kernel
theorem qd_M_step_9 : decode qc_M_step 9 = .ok (.iconst 0, 1) := by decide +kernel
theorem qd_M_step_10 : decode qc_M_step 10 = .ok (.goto 4, 3) := by decide +kernel
theorem qd_M_step_13 : decode qc_M_step 13 = .ok (.iconst 1, 1) := by decide +kernel
theorem qd_M_step_14 : decode qc_M_step 14 = .ok (.putfield 50, 3) := by decide +kernel
theorem qd_M_step_17 : decode qc_M_step 17 = .ok (.aload_n 0, 1) := by decide +kernel
theorem qd_M_step_18 : decode qc_M_step 18 = .ok (.getfield 50, 3) := by decide +kernel
theorem qd_M_step_21 : decode qc_M_step 21 = .ok (.ifCond .ne 11, 3) := by decide +kernel
theorem qd_M_step_24 : decode qc_M_step 24 = .ok (.aload_n 0, 1) := by decide +kernel
theorem qd_M_step_25 : decode qc_M_step 25 = .ok (.iload_n 1, 1) := by decide +kernel
theorem qd_M_step_26 : decode qc_M_step 26 = .ok (.invokevirtual 132, 3) := by decide +kernel
theorem qd_M_step_29 : decode qc_M_step 29 = .ok (.goto 4, 3) := by decide +kernel
theorem qd_M_step_32 : decode qc_M_step 32 = .ok (.iconst (-1), 1) := by decide +kernel
theorem qd_M_step_33 : decode qc_M_step 33 = .ok (.istore_n 2, 1) := by decide +kernel
theorem qd_M_step_34 : decode qc_M_step 34 = .ok (.aload_n 0, 1) := by decide +kernel
theorem qd_M_step_35 : decode qc_M_step 35 = .ok (.getfield 50, 3) := by decide +kernel
theorem qd_M_step_38 : decode qc_M_step 38 = .ok (.ifCond .ne 7, 3) := by decide +kernel
theorem qd_M_step_41 : decode qc_M_step 41 = .ok (.iload_n 2, 1) := by decide +kernel
theorem qd_M_step_42 : decode qc_M_step 42 = .ok (.ifCond .ge 16, 3) := by decide +kernel
theorem qd_M_step_45 : decode qc_M_step 45 = .ok (.aload_n 0, 1) := by decide +kernel
theorem qd_M_step_46 : decode qc_M_step 46 = .ok (.getfield 50, 3) := by decide +kernel
theorem qd_M_step_49 : decode qc_M_step 49 = .ok (.ifCond .ne 7, 3) := by decide +kernel
theorem qd_M_step_52 : decode qc_M_step 52 = .ok (.iconst (-1), 1) := by decide +kernel
theorem qd_M_step_53 : decode qc_M_step 53 = .ok (.goto 4, 3) := by decide +kernel
theorem qd_M_step_56 : decode qc_M_step 56 = .ok (.iconst 0, 1) := by decide +kernel
theorem qd_M_step_57 : decode qc_M_step 57 = .ok (.ireturn, 1) := by decide +kernel
theorem qd_M_step_58 : decode qc_M_step 58 = .ok (.bipush 16, 2) := by decide +kernel
theorem qd_M_step_60 : decode qc_M_step 60 = .ok (.iload_n 1, 1) := by decide +kernel
theorem qd_M_step_61 : decode qc_M_step 61 = .ok (.imul, 1) := by decide +kernel
theorem qd_M_step_62 : decode qc_M_step 62 = .ok (.istore_n 3, 1) := by decide +kernel
theorem qd_M_step_63 : decode qc_M_step 63 = .ok (.aload_n 0, 1) := by decide +kernel
theorem qd_M_step_64 : decode qc_M_step 64 = .ok (.iload_n 3, 1) := by decide +kernel
theorem qd_M_step_65 : decode qc_M_step 65 = .ok (.iload_n 2, 1) := by decide +kernel
theorem qd_M_step_66 : decode qc_M_step 66 = .ok (.invokevirtual 129, 3) := by decide +kernel
theorem qd_M_step_69 : decode qc_M_step 69 = .ok (.istore 4, 2) := by decide +kernel
theorem qd_M_step_71 : decode qc_M_step 71 = .ok (.aload_n 0, 1) := by decide +kernel
theorem qd_M_step_72 : decode qc_M_step 72 = .ok (.iload_n 3, 1) := by decide +kernel
theorem qd_M_step_73 : decode qc_M_step 73 = .ok (.iload_n 2, 1) := by decide +kernel
theorem qd_M_step_74 : decode qc_M_step 74 = .ok (.invokevirtual 58, 3) := by decide +kernel
theorem qd_M_step_77 : decode qc_M_step 77 = .ok (.istore 5, 2) := by decide +kernel
theorem qd_M_step_79 : decode qc_M_step 79 = .ok (.aload_n 0, 1) := by decide +kernel
theorem qd_M_step_80 : decode qc_M_step 80 = .ok (.getfield 22, 3) := by decide +kernel
theorem qd_M_step_83 : decode qc_M_step 83 = .ok (.iload_n 1, 1) := by decide +kernel
theorem qd_M_step_84 : decode qc_M_step 84 = .ok (.iaload, 1) := by decide +kernel
theorem qd_M_step_85 : decode qc_M_step 85 = .ok (.iload 5, 2) := by decide +kernel
theorem qd_M_step_87 : decode qc_M_step 87 = .ok (.iload_n 2, 1) := by decide +kernel
theorem qd_M_step_88 : decode qc_M_step 88 = .ok (.isub, 1) := by decide +kernel
theorem qd_M_step_89 : decode qc_M_step 89 = .ok (.isub, 1) := by decide +kernel
theorem qd_M_step_90 : decode qc_M_step 90 = .ok (.istore 6, 2) := by decide +kernel
theorem qd_M_step_92 : decode qc_M_step 92 = .ok (.iconst 0, 1) := by decide +kernel
theorem qd_M_step_93 : decode qc_M_step 93 = .ok (.istore 7, 2) := by decide +kernel
theorem qd_M_step_95 : decode qc_M_step 95 = .ok (.iload 7, 2) := by decide +kernel
theorem qd_M_step_97 : decode qc_M_step 97 = .ok (.aload_n 0, 1) := by decide +kernel
theorem qd_M_step_98 : decode qc_M_step 98 = .ok (.getfield 22, 3) := by decide +kernel
theorem qd_M_step_101 : decode qc_M_step 101 = .ok (.aload_n 0, 1) := by decide +kernel
theorem qd_M_step_102 : decode qc_M_step 102 = .ok (.getfield 28, 3) := by decide +kernel
theorem qd_M_step_105 : decode qc_M_step 105 = .ok (.iload 4, 2) := by decide +kernel
theorem qd_M_step_107 : decode qc_M_step 107 = .ok (.iaload, 1) := by decide +kernel
theorem qd_M_step_108 : decode qc_M_step 108 = .ok (.iaload, 1) := by decide +kernel
theorem qd_M_step_109 : decode qc_M_step 109 = .ok (.if_icmp .ge 67, 3) := by decide +kernel
theorem qd_M_step_112 : decode qc_M_step 112 = .ok (.aload_n 0, 1) := by decide +kernel
theorem qd_M_step_113 : decode qc_M_step 113 = .ok (.getfield 19, 3) := by decide +kernel
theorem qd_M_step_116 : decode qc_M_step 116 = .ok (.bipush 16, 2) := by decide +kernel
theorem qd_M_step_118 : decode qc_M_step 118 = .ok (.aload_n 0, 1) := by decide +kernel
theorem qd_M_step_119 : decode qc_M_step 119 = .ok (.getfield 28, 3) := by decide +kernel
theorem qd_M_step_122 : decode qc_M_step 122 = .ok (.iload 4, 2) := by decide +kernel
theorem qd_M_step_124 : decode qc_M_step 124 = .ok (.iaload, 1) := by decide +kernel
theorem qd_M_step_125 : decode qc_M_step 125 = .ok (.imul, 1) := by decide +kernel
theorem qd_M_step_126 : decode qc_M_step 126 = .ok (.iload 7, 2) := by decide +kernel
theorem qd_M_step_128 : decode qc_M_step 128 = .ok (.iadd, 1) := by decide +kernel
theorem qd_M_step_129 : decode qc_M_step 129 = .ok (.iaload, 1) := by decide +kernel
theorem qd_M_step_130 : decode qc_M_step 130 = .ok (.istore 8, 2) := by decide +kernel
theorem qd_M_step_132 : decode qc_M_step 132 = .ok (.iload 6, 2) := by decide +kernel
theorem qd_M_step_134 : decode qc_M_step 134 = .ok (.iload 8, 2) := by decide +kernel
theorem qd_M_step_136 : decode qc_M_step 136 = .ok (.ifCond .lt 7, 3) := by decide +kernel
theorem qd_M_step_139 : decode qc_M_step 139 = .ok (.iconst 1, 1) := by decide +kernel
theorem qd_M_step_140 : decode qc_M_step 140 = .ok (.goto 27, 3) := by decide +kernel
theorem qd_M_step_143 : decode qc_M_step 143 = .ok (.aload_n 0, 1) := by decide +kernel
theorem qd_M_step_144 : decode qc_M_step 144 = .ok (.iload_n 3, 1) := by decide +kernel
theorem qd_M_step_145 : decode qc_M_step 145 = .ok (.aload_n 0, 1) := by decide +kernel
theorem qd_M_step_146 : decode qc_M_step 146 = .ok (.getfield 44, 3) := by decide +kernel
theorem qd_M_step_149 : decode qc_M_step 149 = .ok (.iconst (-1), 1) := by decide +kernel
theorem qd_M_step_150 : decode qc_M_step 150 = .ok (.iload 8, 2) := by decide +kernel
theorem qd_M_step_152 : decode qc_M_step 152 = .ok (.isub, 1) := by decide +kernel
theorem qd_M_step_153 : decode qc_M_step 153 = .ok (.iaload, 1) := by decide +kernel
theorem qd_M_step_154 : decode qc_M_step 154 = .ok (.invokevirtual 58, 3) := by decide +kernel
theorem qd_M_step_157 : decode qc_M_step 157 = .ok (.aload_n 0, 1) := by decide +kernel
theorem qd_M_step_158 : decode qc_M_step 158 = .ok (.getfield 44, 3) := by decide +kernel
theorem qd_M_step_161 : decode qc_M_step 161 = .ok (.iconst (-1), 1) := by decide +kernel
theorem qd_M_step_162 : decode qc_M_step 162 = .ok (.iload 8, 2) := by decide +kernel
theorem qd_M_step_164 : decode qc_M_step 164 = .ok (.isub, 1) := by decide +kernel
theorem qd_M_step_165 : decode qc_M_step 165 = .ok (.iaload, 1) := by decide +kernel
theorem qd_M_step_166 : decode qc_M_step 166 = .ok (.isub, 1) := by decide +kernel
theorem qd_M_step_167 : decode qc_M_step 167 = .ok (.iadd, 1) := by decide +kernel
theorem qd_M_step_168 : decode qc_M_step 168 = .ok (.istore 6, 2) := by decide +kernel
theorem qd_M_step_170 : decode qc_M_step 170 = .ok (.iinc 7 1, 3) := by decide +kernel
theorem qd_M_step_173 : decode qc_M_step 173 = .ok (.goto (-78), 3) := by decide +kernel
theorem qd_M_step_176 : decode qc_M_step 176 = .ok (.aload_n 0, 1) := by decide +kernel
theorem qd_M_step_177 : decode qc_M_step 177 = .ok (.iload 6, 2) := by decide +kernel
theorem qd_M_step_179 : decode qc_M_step 179 = .ok (.bipush 16, 2) := by decide +kernel
theorem qd_M_step_181 : decode qc_M_step 181 = .ok (.if_icmp .le 7, 3) := by decide +kernel
theorem qd_M_step_184 : decode qc_M_step 184 = .ok (.iconst 1, 1) := by decide +kernel
theorem qd_M_step_185 : decode qc_M_step 185 = .ok (.goto 4, 3) := by decide +kernel
theorem qd_M_step_188 : decode qc_M_step 188 = .ok (.iconst 0, 1) := by decide +kernel
theorem qd_M_step_189 : decode qc_M_step 189 = .ok (.putfield 50, 3) := by decide +kernel
theorem qd_M_step_192 : decode qc_M_step 192 = .ok (.aload_n 0, 1) := by decide +kernel
theorem qd_M_step_193 : decode qc_M_step 193 = .ok (.getfield 50, 3) := by decide +kernel
theorem qd_M_step_196 : decode qc_M_step 196 = .ok (.ifCond .eq 5, 3) := by decide +kernel
theorem qd_M_step_199 : decode qc_M_step 199 = .ok (.iconst 0, 1) := by decide +kernel
theorem qd_M_step_200 : decode qc_M_step 200 = .ok (.ireturn, 1) := by decide +kernel
theorem qd_M_step_201 : decode qc_M_step 201 = .ok (.aload_n 0, 1) := by decide +kernel
theorem qd_M_step_202 : decode qc_M_step 202 = .ok (.iconst 0, 1) := by decide +kernel
theorem qd_M_step_203 : decode qc_M_step 203 = .ok (.iload_n 3, 1) := by decide +kernel
theorem qd_M_step_204 : decode qc_M_step 204 = .ok (.iconst 0, 1) := by decide +kernel
theorem qd_M_step_205 : decode qc_M_step 205 = .ok (.iload_n 2, 1) := by decide +kernel
theorem qd_M_step_206 : decode qc_M_step 206 = .ok (.invokevirtual 78, 3) := by decide +kernel
theorem qd_M_step_209 : decode qc_M_step 209 = .ok (.istore 7, 2) := by decide +kernel
theorem qd_M_step_211 : decode qc_M_step 211 = .ok (.iconst 0, 1) := by decide +kernel
theorem qd_M_step_212 : decode qc_M_step 212 = .ok (.istore 8, 2) := by decide +kernel
theorem qd_M_step_214 : decode qc_M_step 214 = .ok (.iload 8, 2) := by decide +kernel
theorem qd_M_step_216 : decode qc_M_step 216 = .ok (.aload_n 0, 1) := by decide +kernel
theorem qd_M_step_217 : decode qc_M_step 217 = .ok (.getfield 22, 3) := by decide +kernel
theorem qd_M_step_220 : decode qc_M_step 220 = .ok (.aload_n 0, 1) := by decide +kernel
theorem qd_M_step_221 : decode qc_M_step 221 = .ok (.getfield 28, 3) := by decide +kernel
theorem qd_M_step_224 : decode qc_M_step 224 = .ok (.iload 4, 2) := by decide +kernel
theorem qd_M_step_226 : decode qc_M_step 226 = .ok (.iaload, 1) := by decide +kernel
theorem qd_M_step_227 : decode qc_M_step 227 = .ok (.iaload, 1) := by decide +kernel
theorem qd_M_step_228 : decode qc_M_step 228 = .ok (.if_icmp .ge 85, 3) := by decide +kernel
theorem qd_M_step_231 : decode qc_M_step 231 = .ok (.aload_n 0, 1) := by decide +kernel
theorem qd_M_step_232 : decode qc_M_step 232 = .ok (.getfield 19, 3) := by decide +kernel
theorem qd_M_step_235 : decode qc_M_step 235 = .ok (.bipush 16, 2) := by decide +kernel
theorem qd_M_step_237 : decode qc_M_step 237 = .ok (.aload_n 0, 1) := by decide +kernel
theorem qd_M_step_238 : decode qc_M_step 238 = .ok (.getfield 28, 3) := by decide +kernel
theorem qd_M_step_241 : decode qc_M_step 241 = .ok (.iload 4, 2) := by decide +kernel
theorem qd_M_step_243 : decode qc_M_step 243 = .ok (.iaload, 1) := by decide +kernel
theorem qd_M_step_244 : decode qc_M_step 244 = .ok (.imul, 1) := by decide +kernel
theorem qd_M_step_245 : decode qc_M_step 245 = .ok (.iload 8, 2) := by decide +kernel
theorem qd_M_step_247 : decode qc_M_step 247 = .ok (.iadd, 1) := by decide +kernel
theorem qd_M_step_248 : decode qc_M_step 248 = .ok (.iaload, 1) := by decide +kernel
theorem qd_M_step_249 : decode qc_M_step 249 = .ok (.istore 9, 2) := by decide +kernel
theorem qd_M_step_251 : decode qc_M_step 251 = .ok (.iload 9, 2) := by decide +kernel
theorem qd_M_step_253 : decode qc_M_step 253 = .ok (.ifCond .lt 22, 3) := by decide +kernel
theorem qd_M_step_256 : decode qc_M_step 256 = .ok (.aload_n 0, 1) := by decide +kernel
theorem qd_M_step_257 : decode qc_M_step 257 = .ok (.getfield 19, 3) := by decide +kernel
theorem qd_M_step_260 : decode qc_M_step 260 = .ok (.sipush 2560, 3) := by decide +kernel
theorem qd_M_step_263 : decode qc_M_step 263 = .ok (.iload 7, 2) := by decide +kernel
theorem qd_M_step_265 : decode qc_M_step 265 = .ok (.iadd, 1) := by decide +kernel
theorem qd_M_step_266 : decode qc_M_step 266 = .ok (.iload 9, 2) := by decide +kernel
theorem qd_M_step_268 : decode qc_M_step 268 = .ok (.iastore, 1) := by decide +kernel
theorem qd_M_step_269 : decode qc_M_step 269 = .ok (.iinc 7 1, 3) := by decide +kernel
theorem qd_M_step_272 : decode qc_M_step 272 = .ok (.goto 35, 3) := by decide +kernel
theorem qd_M_step_275 : decode qc_M_step 275 = .ok (.aload_n 0, 1) := by decide +kernel
theorem qd_M_step_276 : decode qc_M_step 276 = .ok (.iload 7, 2) := by decide +kernel
theorem qd_M_step_278 : decode qc_M_step 278 = .ok (.iload_n 3, 1) := by decide +kernel
theorem qd_M_step_279 : decode qc_M_step 279 = .ok (.aload_n 0, 1) := by decide +kernel
theorem qd_M_step_280 : decode qc_M_step 280 = .ok (.getfield 44, 3) := by decide +kernel
theorem qd_M_step_283 : decode qc_M_step 283 = .ok (.iconst (-1), 1) := by decide +kernel
theorem qd_M_step_284 : decode qc_M_step 284 = .ok (.iload 9, 2) := by decide +kernel
theorem qd_M_step_286 : decode qc_M_step 286 = .ok (.isub, 1) := by decide +kernel
theorem qd_M_step_287 : decode qc_M_step 287 = .ok (.iaload, 1) := by decide +kernel
theorem qd_M_step_288 : decode qc_M_step 288 = .ok (.aload_n 0, 1) := by decide +kernel
theorem qd_M_step_289 : decode qc_M_step 289 = .ok (.iload_n 3, 1) := by decide +kernel
theorem qd_M_step_290 : decode qc_M_step 290 = .ok (.aload_n 0, 1) := by decide +kernel
theorem qd_M_step_291 : decode qc_M_step 291 = .ok (.getfield 44, 3) := by decide +kernel
theorem qd_M_step_294 : decode qc_M_step 294 = .ok (.iconst (-1), 1) := by decide +kernel
theorem qd_M_step_295 : decode qc_M_step 295 = .ok (.iload 9, 2) := by decide +kernel
theorem qd_M_step_297 : decode qc_M_step 297 = .ok (.isub, 1) := by decide +kernel
theorem qd_M_step_298 : decode qc_M_step 298 = .ok (.iaload, 1) := by decide +kernel
theorem qd_M_step_299 : decode qc_M_step 299 = .ok (.invokevirtual 58, 3) := by decide +kernel
theorem qd_M_step_302 : decode qc_M_step 302 = .ok (.invokevirtual 78, 3) := by decide +kernel
theorem qd_M_step_305 : decode qc_M_step 305 = .ok (.istore 7, 2) := by decide +kernel
theorem qd_M_step_307 : decode qc_M_step 307 = .ok (.iinc 8 1, 3) := by decide +kernel
theorem qd_M_step_310 : decode qc_M_step 310 = .ok (.goto (-96), 3) := by decide +kernel
theorem qd_M_step_313 : decode qc_M_step 313 = .ok (.aload_n 0, 1) := by decide +kernel
theorem qd_M_step_314 : decode qc_M_step 314 = .ok (.iload 7, 2) := by decide +kernel
theorem qd_M_step_316 : decode qc_M_step 316 = .ok (.iload_n 3, 1) := by decide +kernel
theorem qd_M_step_317 : decode qc_M_step 317 = .ok (.iload 5, 2) := by decide +kernel
theorem qd_M_step_319 : decode qc_M_step 319 = .ok (.aload_n 0, 1) := by decide +kernel
theorem qd_M_step_320 : decode qc_M_step 320 = .ok (.getfield 22, 3) := by decide +kernel
theorem qd_M_step_323 : decode qc_M_step 323 = .ok (.iload_n 1, 1) := by decide +kernel
theorem qd_M_step_324 : decode qc_M_step 324 = .ok (.iaload, 1) := by decide +kernel
theorem qd_M_step_325 : decode qc_M_step 325 = .ok (.invokevirtual 78, 3) := by decide +kernel
theorem qd_M_step_328 : decode qc_M_step 328 = .ok (.istore 7, 2) := by decide +kernel
theorem qd_M_step_330 : decode qc_M_step 330 = .ok (.aload_n 0, 1) := by decide +kernel
theorem qd_M_step_331 : decode qc_M_step 331 = .ok (.iload 7, 2) := by decide +kernel
theorem qd_M_step_333 : decode qc_M_step 333 = .ok (.invokevirtual 82, 3) := by decide +kernel
theorem qd_M_step_336 : decode qc_M_step 336 = .ok (.ireturn, 1) := by decide +kernel
abbrev qc_M_about : ByteArray := prog_8_method_36_code
abbrev qy_M_about : MethodName := ⟨"TermOrdersModel", "about", "(II)I"⟩
abbrev qw_M_about : List Cond := (Jvm.Cond.code ({ cls := "TermOrdersModel", name := "about", desc := "(II)I" } : Jvm.MethodName) prog_8_method_36_code (4 : Nat) (Option.some Jvm.ClassFile.FieldType.int)) :: gw
theorem qd_M_about_0 : decode qc_M_about 0 = .ok (.aload_n 0, 1) := by decide +kernel
theorem qd_M_about_1 : decode qc_M_about 1 = .ok (.aload_n 0, 1) := by decide +kernel
theorem qd_M_about_2 : decode qc_M_about 2 = .ok (.iload_n 1, 1) := by decide +kernel
theorem qd_M_about_3 : decode qc_M_about 3 = .ok (.invokevirtual 75, 3) := by decide +kernel
theorem qd_M_about_6 : decode qc_M_about 6 = .ok (.ifCond .eq 12, 3) := by decide +kernel
theorem qd_M_about_9 : decode qc_M_about 9 = .ok (.iload_n 2, 1) := by decide +kernel
theorem qd_M_about_10 : decode qc_M_about 10 = .ok (.ifCond .lt 8, 3) := by decide +kernel
theorem qd_M_about_13 : decode qc_M_about 13 = .ok (.iload_n 2, 1) := by decide +kernel
theorem qd_M_about_14 : decode qc_M_about 14 = .ok (.iconst 3, 1) := by decide +kernel
theorem qd_M_about_15 : decode qc_M_about 15 = .ok (.if_icmp .le 7, 3) := by decide +kernel
theorem qd_M_about_18 : decode qc_M_about 18 = .ok (.iconst 1, 1) := by decide +kernel
theorem qd_M_about_19 : decode qc_M_about 19 = .ok (.goto 4, 3) := by decide +kernel
theorem qd_M_about_22 : decode qc_M_about 22 = .ok (.iconst 0, 1) := by decide +kernel
theorem qd_M_about_23 : decode qc_M_about 23 = .ok (.putfield 50, 3) := by decide +kernel
theorem qd_M_about_26 : decode qc_M_about 26 = .ok (.aload_n 0, 1) := by decide +kernel
theorem qd_M_about_27 : decode qc_M_about 27 = .ok (.getfield 50, 3) := by decide +kernel
theorem qd_M_about_30 : decode qc_M_about 30 = .ok (.ifCond .eq 5, 3) := by decide +kernel
theorem qd_M_about_33 : decode qc_M_about 33 = .ok (.iconst 0, 1) := by decide +kernel
theorem qd_M_about_34 : decode qc_M_about 34 = .ok (.ireturn, 1) := by decide +kernel
theorem qd_M_about_35 : decode qc_M_about 35 = .ok (.bipush 16, 2) := by decide +kernel
theorem qd_M_about_37 : decode qc_M_about 37 = .ok (.iload_n 1, 1) := by decide +kernel
theorem qd_M_about_38 : decode qc_M_about 38 = .ok (.imul, 1) := by decide +kernel
theorem qd_M_about_39 : decode qc_M_about 39 = .ok (.istore_n 3, 1) := by decide +kernel
theorem qd_M_about_40 : decode qc_M_about 40 = .ok (.iload_n 2, 1) := by decide +kernel
theorem qd_M_about_41 : decode qc_M_about 41 = .ok (.ifCond .ne 12, 3) := by decide +kernel
theorem qd_M_about_44 : decode qc_M_about 44 = .ok (.aload_n 0, 1) := by decide +kernel
theorem qd_M_about_45 : decode qc_M_about 45 = .ok (.getfield 19, 3) := by decide +kernel
theorem qd_M_about_48 : decode qc_M_about 48 = .ok (.iload_n 3, 1) := by decide +kernel
theorem qd_M_about_49 : decode qc_M_about 49 = .ok (.iaload, 1) := by decide +kernel
theorem qd_M_about_50 : decode qc_M_about 50 = .ok (.goto 48, 3) := by decide +kernel
theorem qd_M_about_53 : decode qc_M_about 53 = .ok (.iload_n 2, 1) := by decide +kernel
theorem qd_M_about_54 : decode qc_M_about 54 = .ok (.iconst 1, 1) := by decide +kernel
theorem qd_M_about_55 : decode qc_M_about 55 = .ok (.if_icmp .ne 17, 3) := by decide +kernel
theorem qd_M_about_58 : decode qc_M_about 58 = .ok (.aload_n 0, 1) := by decide +kernel
theorem qd_M_about_59 : decode qc_M_about 59 = .ok (.iload_n 3, 1) := by decide +kernel
theorem qd_M_about_60 : decode qc_M_about 60 = .ok (.aload_n 0, 1) := by decide +kernel
theorem qd_M_about_61 : decode qc_M_about 61 = .ok (.getfield 22, 3) := by decide +kernel
theorem qd_M_about_64 : decode qc_M_about 64 = .ok (.iload_n 1, 1) := by decide +kernel
theorem qd_M_about_65 : decode qc_M_about 65 = .ok (.iaload, 1) := by decide +kernel
theorem qd_M_about_66 : decode qc_M_about 66 = .ok (.invokevirtual 68, 3) := by decide +kernel
theorem qd_M_about_69 : decode qc_M_about 69 = .ok (.goto 29, 3) := by decide +kernel
theorem qd_M_about_72 : decode qc_M_about 72 = .ok (.iload_n 2, 1) := by decide +kernel
theorem qd_M_about_73 : decode qc_M_about 73 = .ok (.iconst 2, 1) := by decide +kernel
theorem qd_M_about_74 : decode qc_M_about 74 = .ok (.if_icmp .ne 12, 3) := by decide +kernel
theorem qd_M_about_77 : decode qc_M_about 77 = .ok (.aload_n 0, 1) := by decide +kernel
theorem qd_M_about_78 : decode qc_M_about 78 = .ok (.getfield 22, 3) := by decide +kernel
theorem qd_M_about_81 : decode qc_M_about 81 = .ok (.iload_n 1, 1) := by decide +kernel
theorem qd_M_about_82 : decode qc_M_about 82 = .ok (.iaload, 1) := by decide +kernel
theorem qd_M_about_83 : decode qc_M_about 83 = .ok (.goto 15, 3) := by decide +kernel
theorem qd_M_about_86 : decode qc_M_about 86 = .ok (.aload_n 0, 1) := by decide +kernel
theorem qd_M_about_87 : decode qc_M_about 87 = .ok (.iload_n 3, 1) := by decide +kernel
theorem qd_M_about_88 : decode qc_M_about 88 = .ok (.iconst 0, 1) := by decide +kernel
theorem qd_M_about_89 : decode qc_M_about 89 = .ok (.aload_n 0, 1) := by decide +kernel
theorem qd_M_about_90 : decode qc_M_about 90 = .ok (.getfield 22, 3) := by decide +kernel
theorem qd_M_about_93 : decode qc_M_about 93 = .ok (.iload_n 1, 1) := by decide +kernel
theorem qd_M_about_94 : decode qc_M_about 94 = .ok (.iaload, 1) := by decide +kernel
theorem qd_M_about_95 : decode qc_M_about 95 = .ok (.invokevirtual 102, 3) := by decide +kernel
theorem qd_M_about_98 : decode qc_M_about 98 = .ok (.ireturn, 1) := by decide +kernel
abbrev qc_M_place : ByteArray := prog_8_method_37_code
abbrev qy_M_place : MethodName := ⟨"TermOrdersModel", "place", "(II)I"⟩
abbrev qw_M_place : List Cond := (Jvm.Cond.code ({ cls := "TermOrdersModel", name := "place", desc := "(II)I" } : Jvm.MethodName) prog_8_method_37_code (3 : Nat) (Option.some Jvm.ClassFile.FieldType.int)) :: gw
theorem qd_M_place_0 : decode qc_M_place 0 = .ok (.aload_n 0, 1) := by decide +kernel
theorem qd_M_place_1 : decode qc_M_place 1 = .ok (.aload_n 0, 1) := by decide +kernel
theorem qd_M_place_2 : decode qc_M_place 2 = .ok (.iload_n 1, 1) := by decide +kernel
theorem qd_M_place_3 : decode qc_M_place 3 = .ok (.invokevirtual 75, 3) := by decide +kernel
theorem qd_M_place_6 : decode qc_M_place 6 = .ok (.ifCond .ne 7, 3) := by decide +kernel
theorem qd_M_place_9 : decode qc_M_place 9 = .ok (.iconst 1, 1) := by decide +kernel
theorem qd_M_place_10 : decode qc_M_place 10 = .ok (.goto 22, 3) := by decide +kernel
theorem qd_M_place_13 : decode qc_M_place 13 = .ok (.iload_n 2, 1) := by decide +kernel
theorem qd_M_place_14 : decode qc_M_place 14 = .ok (.ifCond .lt 13, 3) := by decide +kernel
theorem qd_M_place_17 : decode qc_M_place 17 = .ok (.iload_n 2, 1) := by decide +kernel
theorem qd_M_place_18 : decode qc_M_place 18 = .ok (.aload_n 0, 1) := by decide +kernel
theorem qd_M_place_19 : decode qc_M_place 19 = .ok (.getfield 22, 3) := by decide +kernel
theorem qd_M_place_22 : decode qc_M_place 22 = .ok (.iload_n 1, 1) := by decide +kernel
theorem qd_M_place_23 : decode qc_M_place 23 = .ok (.iaload, 1) := by decide +kernel
theorem qd_M_place_24 : decode qc_M_place 24 = .ok (.if_icmp .lt 7, 3) := by decide +kernel
theorem qd_M_place_27 : decode qc_M_place 27 = .ok (.iconst 2, 1) := by decide +kernel
theorem qd_M_place_28 : decode qc_M_place 28 = .ok (.goto 4, 3) := by decide +kernel
theorem qd_M_place_31 : decode qc_M_place 31 = .ok (.iconst 0, 1) := by decide +kernel
theorem qd_M_place_32 : decode qc_M_place 32 = .ok (.putfield 50, 3) := by decide +kernel
theorem qd_M_place_35 : decode qc_M_place 35 = .ok (.aload_n 0, 1) := by decide +kernel
theorem qd_M_place_36 : decode qc_M_place 36 = .ok (.getfield 50, 3) := by decide +kernel
theorem qd_M_place_39 : decode qc_M_place 39 = .ok (.ifCond .ne 17, 3) := by decide +kernel
theorem qd_M_place_42 : decode qc_M_place 42 = .ok (.aload_n 0, 1) := by decide +kernel
theorem qd_M_place_43 : decode qc_M_place 43 = .ok (.getfield 19, 3) := by decide +kernel
theorem qd_M_place_46 : decode qc_M_place 46 = .ok (.bipush 16, 2) := by decide +kernel
theorem qd_M_place_48 : decode qc_M_place 48 = .ok (.iload_n 1, 1) := by decide +kernel
theorem qd_M_place_49 : decode qc_M_place 49 = .ok (.imul, 1) := by decide +kernel
theorem qd_M_place_50 : decode qc_M_place 50 = .ok (.iload_n 2, 1) := by decide +kernel
theorem qd_M_place_51 : decode qc_M_place 51 = .ok (.iadd, 1) := by decide +kernel
theorem qd_M_place_52 : decode qc_M_place 52 = .ok (.iaload, 1) := by decide +kernel
theorem qd_M_place_53 : decode qc_M_place 53 = .ok (.goto 4, 3) := by decide +kernel
theorem qd_M_place_56 : decode qc_M_place 56 = .ok (.iconst 0, 1) := by decide +kernel
theorem qd_M_place_57 : decode qc_M_place 57 = .ok (.ireturn, 1) := by decide +kernel
abbrev qc_M_count : ByteArray := prog_8_method_38_code
abbrev qy_M_count : MethodName := ⟨"TermOrdersModel", "count", "(I)I"⟩
abbrev qw_M_count : List Cond := (Jvm.Cond.code ({ cls := "TermOrdersModel", name := "count", desc := "(I)I" } : Jvm.MethodName) prog_8_method_38_code (2 : Nat) (Option.some Jvm.ClassFile.FieldType.int)) :: gw
theorem qd_M_count_0 : decode qc_M_count 0 = .ok (.aload_n 0, 1) := by decide +kernel
theorem qd_M_count_1 : decode qc_M_count 1 = .ok (.iconst 0, 1) := by decide +kernel
theorem qd_M_count_2 : decode qc_M_count 2 = .ok (.putfield 50, 3) := by decide +kernel
theorem qd_M_count_5 : decode qc_M_count 5 = .ok (.iload_n 1, 1) := by decide +kernel
theorem qd_M_count_6 : decode qc_M_count 6 = .ok (.ifCond .ne 10, 3) := by decide +kernel
theorem qd_M_count_9 : decode qc_M_count 9 = .ok (.aload_n 0, 1) := by decide +kernel
theorem qd_M_count_10 : decode qc_M_count 10 = .ok (.getfield 65, 3) := by decide +kernel
theorem qd_M_count_13 : decode qc_M_count 13 = .ok (.goto 28, 3) := by decide +kernel
theorem qd_M_count_16 : decode qc_M_count 16 = .ok (.iload_n 1, 1) := by decide +kernel
theorem qd_M_count_17 : decode qc_M_count 17 = .ok (.iconst 1, 1) := by decide +kernel
theorem qd_M_count_18 : decode qc_M_count 18 = .ok (.if_icmp .ne 10, 3) := by decide +kernel
theorem qd_M_count_21 : decode qc_M_count 21 = .ok (.aload_n 0, 1) := by decide +kernel
theorem qd_M_count_22 : decode qc_M_count 22 = .ok (.getfield 62, 3) := by decide +kernel
theorem qd_M_count_25 : decode qc_M_count 25 = .ok (.goto 16, 3) := by decide +kernel
theorem qd_M_count_28 : decode qc_M_count 28 = .ok (.iload_n 1, 1) := by decide +kernel
theorem qd_M_count_29 : decode qc_M_count 29 = .ok (.iconst 2, 1) := by decide +kernel
theorem qd_M_count_30 : decode qc_M_count 30 = .ok (.if_icmp .ne 10, 3) := by decide +kernel
theorem qd_M_count_33 : decode qc_M_count 33 = .ok (.aload_n 0, 1) := by decide +kernel
theorem qd_M_count_34 : decode qc_M_count 34 = .ok (.getfield 89, 3) := by decide +kernel
theorem qd_M_count_37 : decode qc_M_count 37 = .ok (.goto 4, 3) := by decide +kernel
theorem qd_M_count_40 : decode qc_M_count 40 = .ok (.iconst (-1), 1) := by decide +kernel
theorem qd_M_count_41 : decode qc_M_count 41 = .ok (.ireturn, 1) := by decide +kernel
