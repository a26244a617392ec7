abbrev qc_X_init : ByteArray := prog_1_method_1_code
abbrev qy_X_init : MethodName := ⟨"TermOrders", "<init>", "()V"⟩
abbrev qw_X_init : List Cond := (Jvm.Cond.code ({ cls := "TermOrders", name := "<init>", desc := "()V" } : Jvm.MethodName) prog_1_method_1_code (1 : Nat) (Option.none : Option Jvm.ClassFile.FieldType)) :: gw
theorem qd_X_init_0 : decode qc_X_init 0 = .ok (.aload_n 0, 1) := by decide +kernel
theorem qd_X_init_1 : decode qc_X_init 1 = .ok (.invokespecial 1, 3) := by decide +kernel
theorem qd_X_init_4 : decode qc_X_init 4 = .ok (.aload_n 0, 1) := by decide +kernel
theorem qd_X_init_5 : decode qc_X_init 5 = .ok (.new 7, 3) := by decide +kernel
theorem qd_X_init_8 : decode qc_X_init 8 = .ok (.dup, 1) := by decide +kernel
theorem qd_X_init_9 : decode qc_X_init 9 = .ok (.invokespecial 9, 3) := by decide +kernel
theorem qd_X_init_12 : decode qc_X_init 12 = .ok (.putfield 10, 3) := by decide +kernel
theorem qd_X_init_15 : decode qc_X_init 15 = .ok (.aload_n 0, 1) := by decide +kernel
theorem qd_X_init_16 : decode qc_X_init 16 = .ok (.new 16, 3) := by decide +kernel
theorem qd_X_init_19 : decode qc_X_init 19 = .ok (.dup, 1) := by decide +kernel
theorem qd_X_init_20 : decode qc_X_init 20 = .ok (.aload_n 0, 1) := by decide +kernel
theorem qd_X_init_21 : decode qc_X_init 21 = .ok (.getfield 10, 3) := by decide +kernel
theorem qd_X_init_24 : decode qc_X_init 24 = .ok (.invokespecial 18, 3) := by decide +kernel
theorem qd_X_init_27 : decode qc_X_init 27 = .ok (.putfield 21, 3) := by decide +kernel
theorem qd_X_init_30 : decode qc_X_init 30 = .ok (.aload_n 0, 1) := by decide +kernel
theorem qd_X_init_31 : decode qc_X_init 31 = .ok (.sipush 160, 3) := by decide +kernel
theorem qd_X_init_34 : decode qc_X_init 34 = .ok (.anewarray 25, 3) := by decide +kernel
theorem qd_X_init_37 : decode qc_X_init 37 = .ok (.putfield 27, 3) := by decide +kernel
theorem qd_X_init_40 : decode qc_X_init 40 = .ok (.aload_n 0, 1) := by decide +kernel
theorem qd_X_init_41 : decode qc_X_init 41 = .ok (.new 31, 3) := by decide +kernel
theorem qd_X_init_44 : decode qc_X_init 44 = .ok (.dup, 1) := by decide +kernel
theorem qd_X_init_45 : decode qc_X_init 45 = .ok (.invokespecial 33, 3) := by decide +kernel
theorem qd_X_init_48 : decode qc_X_init 48 = .ok (.putfield 34, 3) := by decide +kernel
theorem qd_X_init_51 : decode qc_X_init 51 = .ok (.aload_n 0, 1) := by decide +kernel
theorem qd_X_init_52 : decode qc_X_init 52 = .ok (.new 38, 3) := by decide +kernel
theorem qd_X_init_55 : decode qc_X_init 55 = .ok (.dup, 1) := by decide +kernel
theorem qd_X_init_56 : decode qc_X_init 56 = .ok (.aload_n 0, 1) := by decide +kernel
theorem qd_X_init_57 : decode qc_X_init 57 = .ok (.getfield 10, 3) := by decide +kernel
theorem qd_X_init_60 : decode qc_X_init 60 = .ok (.invokespecial 40, 3) := by decide +kernel
theorem qd_X_init_63 : decode qc_X_init 63 = .ok (.putfield 41, 3) := by decide +kernel
theorem qd_X_init_66 : decode qc_X_init 66 = .ok (.aload_n 0, 1) := by decide +kernel
theorem qd_X_init_67 : decode qc_X_init 67 = .ok (.iconst 0, 1) := by decide +kernel
theorem qd_X_init_68 : decode qc_X_init 68 = .ok (.putfield 45, 3) := by decide +kernel
theorem qd_X_init_71 : decode qc_X_init 71 = .ok (.return_, 1) := by decide +kernel
abbrev qc_X_symbol : ByteArray := prog_1_method_2_code
abbrev qy_X_symbol : MethodName := ⟨"TermOrders", "symbol", "(I)I"⟩
abbrev qw_X_symbol : List Cond := (Jvm.Cond.code ({ cls := "TermOrders", name := "symbol", desc := "(I)I" } : Jvm.MethodName) prog_1_method_2_code (2 : Nat) (Option.some Jvm.ClassFile.FieldType.int)) :: gw
theorem qd_X_symbol_0 : decode qc_X_symbol 0 = .ok (.iload_n 1, 1) := by decide +kernel
theorem qd_X_symbol_1 : decode qc_X_symbol 1 = .ok (.ifCond .lt 8, 3) := by decide +kernel
theorem qd_X_symbol_4 : decode qc_X_symbol 4 = .ok (.iload_n 1, 1) := by decide +kernel
theorem qd_X_symbol_5 : decode qc_X_symbol 5 = .ok (.iconst 3, 1) := by decide +kernel
theorem qd_X_symbol_6 : decode qc_X_symbol 6 = .ok (.if_icmp .le 13, 3) := by decide +kernel
theorem qd_X_symbol_9 : decode qc_X_symbol 9 = .ok (.new 49, 3) := by decide +kernel
theorem qd_X_symbol_12 : decode qc_X_symbol 12 = .ok (.dup, 1) := by decide +kernel
theorem qd_X_symbol_13 : decode qc_X_symbol 13 = .ok (.ldc 51, 2) := by decide +kernel
theorem qd_X_symbol_15 : decode qc_X_symbol 15 = .ok (.invokespecial 53, 3) := by decide +kernel
theorem qd_X_symbol_18 : decode qc_X_symbol 18 = .ok (.athrow, 1) := by decide +kernel
theorem qd_X_symbol_19 : decode qc_X_symbol 19 = .ok (.aload_n 0, 1) := by decide +kernel
theorem qd_X_symbol_20 : decode qc_X_symbol 20 = .ok (.getfield 10, 3) := by decide +kernel
theorem qd_X_symbol_23 : decode qc_X_symbol 23 = .ok (.getfield 56, 3) := by decide +kernel
theorem qd_X_symbol_26 : decode qc_X_symbol 26 = .ok (.iconst 5, 1) := by decide +kernel
theorem qd_X_symbol_27 : decode qc_X_symbol 27 = .ok (.if_icmp .ne 13, 3) := by decide +kernel
theorem qd_X_symbol_30 : decode qc_X_symbol 30 = .ok (.new 59, 3) := by decide +kernel
theorem qd_X_symbol_33 : decode qc_X_symbol 33 = .ok (.dup, 1) := by decide +kernel
theorem qd_X_symbol_34 : decode qc_X_symbol 34 = .ok (.ldc 61, 2) := by decide +kernel
theorem qd_X_symbol_36 : decode qc_X_symbol 36 = .ok (.invokespecial 63, 3) := by decide +kernel
theorem qd_X_symbol_39 : decode qc_X_symbol 39 = .ok (.athrow, 1) := by decide +kernel
theorem qd_X_symbol_40 : decode qc_X_symbol 40 = .ok (.aload_n 0, 1) := by decide +kernel
theorem qd_X_symbol_41 : decode qc_X_symbol 41 = .ok (.getfield 10, 3) := by decide +kernel
theorem qd_X_symbol_44 : decode qc_X_symbol 44 = .ok (.iload_n 1, 1) := by decide +kernel
theorem qd_X_symbol_45 : decode qc_X_symbol 45 = .ok (.invokevirtual 64, 3) := by decide +kernel
theorem qd_X_symbol_48 : decode qc_X_symbol 48 = .ok (.ireturn, 1) := by decide +kernel
abbrev qc_X_variable : ByteArray := prog_1_method_3_code
abbrev qy_X_variable : MethodName := ⟨"TermOrders", "variable", "(I)I"⟩
abbrev qw_X_variable : List Cond := (Jvm.Cond.code ({ cls := "TermOrders", name := "variable", desc := "(I)I" } : Jvm.MethodName) prog_1_method_3_code (2 : Nat) (Option.some Jvm.ClassFile.FieldType.int)) :: gw
theorem qd_X_variable_0 : decode qc_X_variable 0 = .ok (.iload_n 1, 1) := by decide +kernel
theorem qd_X_variable_1 : decode qc_X_variable 1 = .ok (.ifCond .lt 8, 3) := by decide +kernel
theorem qd_X_variable_4 : decode qc_X_variable 4 = .ok (.iload_n 1, 1) := by decide +kernel
theorem qd_X_variable_5 : decode qc_X_variable 5 = .ok (.iconst 4, 1) := by decide +kernel
theorem qd_X_variable_6 : decode qc_X_variable 6 = .ok (.if_icmp .lt 13, 3) := by decide +kernel
theorem qd_X_variable_9 : decode qc_X_variable 9 = .ok (.new 49, 3) := by decide +kernel
theorem qd_X_variable_12 : decode qc_X_variable 12 = .ok (.dup, 1) := by decide +kernel
theorem qd_X_variable_13 : decode qc_X_variable 13 = .ok (.ldc 68, 2) := by decide +kernel
theorem qd_X_variable_15 : decode qc_X_variable 15 = .ok (.invokespecial 53, 3) := by decide +kernel
theorem qd_X_variable_18 : decode qc_X_variable 18 = .ok (.athrow, 1) := by decide +kernel
theorem qd_X_variable_19 : decode qc_X_variable 19 = .ok (.aload_n 0, 1) := by decide +kernel
theorem qd_X_variable_20 : decode qc_X_variable 20 = .ok (.getfield 21, 3) := by decide +kernel
theorem qd_X_variable_23 : decode qc_X_variable 23 = .ok (.invokevirtual 70, 3) := by decide +kernel
theorem qd_X_variable_26 : decode qc_X_variable 26 = .ok (.aload_n 0, 1) := by decide +kernel
theorem qd_X_variable_27 : decode qc_X_variable 27 = .ok (.getfield 21, 3) := by decide +kernel
theorem qd_X_variable_30 : decode qc_X_variable 30 = .ok (.iload_n 1, 1) := by decide +kernel
theorem qd_X_variable_31 : decode qc_X_variable 31 = .ok (.invokevirtual 73, 3) := by decide +kernel
theorem qd_X_variable_34 : decode qc_X_variable 34 = .ok (.aload_n 0, 1) := by decide +kernel
theorem qd_X_variable_35 : decode qc_X_variable 35 = .ok (.invokevirtual 77, 3) := by decide +kernel
theorem qd_X_variable_38 : decode qc_X_variable 38 = .ok (.ireturn, 1) := by decide +kernel
abbrev qc_X_term : ByteArray := prog_1_method_4_code
abbrev qy_X_term : MethodName := ⟨"TermOrders", "term", "(IIII)I"⟩
abbrev qw_X_term : List Cond := (Jvm.Cond.code ({ cls := "TermOrders", name := "term", desc := "(IIII)I" } : Jvm.MethodName) prog_1_method_4_code (8 : Nat) (Option.some Jvm.ClassFile.FieldType.int)) :: gw
theorem qd_X_term_0 : decode qc_X_term 0 = .ok (.aload_n 0, 1) := by decide +kernel
theorem qd_X_term_1 : decode qc_X_term 1 = .ok (.iload_n 1, 1) := by decide +kernel
theorem qd_X_term_2 : decode qc_X_term 2 = .ok (.invokevirtual 81, 3) := by decide +kernel
theorem qd_X_term_5 : decode qc_X_term 5 = .ok (.aload_n 0, 1) := by decide +kernel
theorem qd_X_term_6 : decode qc_X_term 6 = .ok (.getfield 21, 3) := by decide +kernel
theorem qd_X_term_9 : decode qc_X_term 9 = .ok (.invokevirtual 70, 3) := by decide +kernel
theorem qd_X_term_12 : decode qc_X_term 12 = .ok (.aload_n 0, 1) := by decide +kernel
theorem qd_X_term_13 : decode qc_X_term 13 = .ok (.getfield 21, 3) := by decide +kernel
theorem qd_X_term_16 : decode qc_X_term 16 = .ok (.iload_n 1, 1) := by decide +kernel
theorem qd_X_term_17 : decode qc_X_term 17 = .ok (.invokevirtual 84, 3) := by decide +kernel
theorem qd_X_term_20 : decode qc_X_term 20 = .ok (.aload_n 0, 1) := by decide +kernel
theorem qd_X_term_21 : decode qc_X_term 21 = .ok (.getfield 10, 3) := by decide +kernel
theorem qd_X_term_24 : decode qc_X_term 24 = .ok (.getfield 87, 3) := by decide +kernel
theorem qd_X_term_27 : decode qc_X_term 27 = .ok (.iload_n 1, 1) := by decide +kernel
theorem qd_X_term_28 : decode qc_X_term 28 = .ok (.iaload, 1) := by decide +kernel
theorem qd_X_term_29 : decode qc_X_term 29 = .ok (.istore 5, 2) := by decide +kernel
theorem qd_X_term_31 : decode qc_X_term 31 = .ok (.iconst 0, 1) := by decide +kernel
theorem qd_X_term_32 : decode qc_X_term 32 = .ok (.istore 6, 2) := by decide +kernel
theorem qd_X_term_34 : decode qc_X_term 34 = .ok (.iload 6, 2) := by decide +kernel
theorem qd_X_term_36 : decode qc_X_term 36 = .ok (.iload 5, 2) := by decide +kernel
theorem qd_X_term_38 : decode qc_X_term 38 = .ok (.if_icmp .ge 51, 3) := by decide +kernel
theorem qd_X_term_41 : decode qc_X_term 41 = .ok (.aload_n 0, 1) := by decide +kernel
theorem qd_X_term_42 : decode qc_X_term 42 = .ok (.iload 6, 2) := by decide +kernel
theorem qd_X_term_44 : decode qc_X_term 44 = .ok (.ifCond .ne 7, 3) := by decide +kernel
theorem qd_X_term_47 : decode qc_X_term 47 = .ok (.iload_n 2, 1) := by decide +kernel
theorem qd_X_term_48 : decode qc_X_term 48 = .ok (.goto 15, 3) := by decide +kernel
theorem qd_X_term_51 : decode qc_X_term 51 = .ok (.iload 6, 2) := by decide +kernel
theorem qd_X_term_53 : decode qc_X_term 53 = .ok (.iconst 1, 1) := by decide +kernel
theorem qd_X_term_54 : decode qc_X_term 54 = .ok (.if_icmp .ne 7, 3) := by decide +kernel
theorem qd_X_term_57 : decode qc_X_term 57 = .ok (.iload_n 3, 1) := by decide +kernel
theorem qd_X_term_58 : decode qc_X_term 58 = .ok (.goto 5, 3) := by decide +kernel
theorem qd_X_term_61 : decode qc_X_term 61 = .ok (.iload 4, 2) := by decide +kernel
theorem qd_X_term_63 : decode qc_X_term 63 = .ok (.invokevirtual 91, 3) := by decide +kernel
theorem qd_X_term_66 : decode qc_X_term 66 = .ok (.astore 7, 2) := by decide +kernel
theorem qd_X_term_68 : decode qc_X_term 68 = .ok (.aload_n 0, 1) := by decide +kernel
theorem qd_X_term_69 : decode qc_X_term 69 = .ok (.getfield 21, 3) := by decide +kernel
theorem qd_X_term_72 : decode qc_X_term 72 = .ok (.aload 7, 2) := by decide +kernel
theorem qd_X_term_74 : decode qc_X_term 74 = .ok (.iconst 0, 1) := by decide +kernel
theorem qd_X_term_75 : decode qc_X_term 75 = .ok (.aload 7, 2) := by decide +kernel
theorem qd_X_term_77 : decode qc_X_term 77 = .ok (.getfield 95, 3) := by decide +kernel
theorem qd_X_term_80 : decode qc_X_term 80 = .ok (.invokevirtual 98, 3) := by decide +kernel
theorem qd_X_term_83 : decode qc_X_term 83 = .ok (.iinc 6 1, 3) := by decide +kernel
theorem qd_X_term_86 : decode qc_X_term 86 = .ok (.goto (-52), 3) := by decide +kernel
theorem qd_X_term_89 : decode qc_X_term 89 = .ok (.aload_n 0, 1) := by decide +kernel
theorem qd_X_term_90 : decode qc_X_term 90 = .ok (.invokevirtual 77, 3) := by decide +kernel
theorem qd_X_term_93 : decode qc_X_term 93 = .ok (.ireturn, 1) := by decide +kernel
abbrev qc_X_rule : ByteArray := prog_1_method_5_code
abbrev qy_X_rule : MethodName := ⟨"TermOrders", "rule", "(II)I"⟩
abbrev qw_X_rule : List Cond := (Jvm.Cond.code ({ cls := "TermOrders", name := "rule", desc := "(II)I" } : Jvm.MethodName) prog_1_method_5_code (5 : Nat) (Option.some Jvm.ClassFile.FieldType.int)) :: gw
theorem qd_X_rule_0 : decode qc_X_rule 0 = .ok (.aload_n 0, 1) := by decide +kernel
theorem qd_X_rule_1 : decode qc_X_rule 1 = .ok (.iload_n 1, 1) := by decide +kernel
theorem qd_X_rule_2 : decode qc_X_rule 2 = .ok (.invokevirtual 91, 3) := by decide +kernel
theorem qd_X_rule_5 : decode qc_X_rule 5 = .ok (.astore_n 3, 1) := by decide +kernel
theorem qd_X_rule_6 : decode qc_X_rule 6 = .ok (.aload_n 0, 1) := by decide +kernel
theorem qd_X_rule_7 : decode qc_X_rule 7 = .ok (.iload_n 2, 1) := by decide +kernel
theorem qd_X_rule_8 : decode qc_X_rule 8 = .ok (.invokevirtual 91, 3) := by decide +kernel
theorem qd_X_rule_11 : decode qc_X_rule 11 = .ok (.astore 4, 2) := by decide +kernel
theorem qd_X_rule_13 : decode qc_X_rule 13 = .ok (.aload_n 3, 1) := by decide +kernel
theorem qd_X_rule_14 : decode qc_X_rule 14 = .ok (.iconst 0, 1) := by decide +kernel
theorem qd_X_rule_15 : decode qc_X_rule 15 = .ok (.invokevirtual 102, 3) := by decide +kernel
theorem qd_X_rule_18 : decode qc_X_rule 18 = .ok (.ifCond .ne 12, 3) := by decide +kernel
theorem qd_X_rule_21 : decode qc_X_rule 21 = .ok (.aload_n 3, 1) := by decide +kernel
theorem qd_X_rule_22 : decode qc_X_rule 22 = .ok (.aload 4, 2) := by decide +kernel
theorem qd_X_rule_24 : decode qc_X_rule 24 = .ok (.invokevirtual 106, 3) := by decide +kernel
theorem qd_X_rule_27 : decode qc_X_rule 27 = .ok (.ifCond .ne 13, 3) := by decide +kernel
theorem qd_X_rule_30 : decode qc_X_rule 30 = .ok (.new 49, 3) := by decide +kernel
theorem qd_X_rule_33 : decode qc_X_rule 33 = .ok (.dup, 1) := by decide +kernel
theorem qd_X_rule_34 : decode qc_X_rule 34 = .ok (.ldc 110, 2) := by decide +kernel
theorem qd_X_rule_36 : decode qc_X_rule 36 = .ok (.invokespecial 53, 3) := by decide +kernel
theorem qd_X_rule_39 : decode qc_X_rule 39 = .ok (.athrow, 1) := by decide +kernel
theorem qd_X_rule_40 : decode qc_X_rule 40 = .ok (.aload_n 0, 1) := by decide +kernel
theorem qd_X_rule_41 : decode qc_X_rule 41 = .ok (.getfield 34, 3) := by decide +kernel
theorem qd_X_rule_44 : decode qc_X_rule 44 = .ok (.getfield 112, 3) := by decide +kernel
theorem qd_X_rule_47 : decode qc_X_rule 47 = .ok (.bipush 8, 2) := by decide +kernel
theorem qd_X_rule_49 : decode qc_X_rule 49 = .ok (.if_icmp .ne 13, 3) := by decide +kernel
theorem qd_X_rule_52 : decode qc_X_rule 52 = .ok (.new 59, 3) := by decide +kernel
theorem qd_X_rule_55 : decode qc_X_rule 55 = .ok (.dup, 1) := by decide +kernel
theorem qd_X_rule_56 : decode qc_X_rule 56 = .ok (.ldc 113, 2) := by decide +kernel
theorem qd_X_rule_58 : decode qc_X_rule 58 = .ok (.invokespecial 63, 3) := by decide +kernel
theorem qd_X_rule_61 : decode qc_X_rule 61 = .ok (.athrow, 1) := by decide +kernel
theorem qd_X_rule_62 : decode qc_X_rule 62 = .ok (.aload_n 0, 1) := by decide +kernel
theorem qd_X_rule_63 : decode qc_X_rule 63 = .ok (.getfield 34, 3) := by decide +kernel
theorem qd_X_rule_66 : decode qc_X_rule 66 = .ok (.aload_n 3, 1) := by decide +kernel
theorem qd_X_rule_67 : decode qc_X_rule 67 = .ok (.aload 4, 2) := by decide +kernel
theorem qd_X_rule_69 : decode qc_X_rule 69 = .ok (.invokevirtual 115, 3) := by decide +kernel
theorem qd_X_rule_72 : decode qc_X_rule 72 = .ok (.ireturn, 1) := by decide +kernel
abbrev qc_X_order : ByteArray := prog_1_method_6_code
abbrev qy_X_order : MethodName := ⟨"TermOrders", "order", "(III)V"⟩
abbrev qw_X_order : List Cond := (Jvm.Cond.code ({ cls := "TermOrders", name := "order", desc := "(III)V" } : Jvm.MethodName) prog_1_method_6_code (4 : Nat) (Option.none : Option Jvm.ClassFile.FieldType)) :: gw
theorem qd_X_order_0 : decode qc_X_order 0 = .ok (.aload_n 0, 1) := by decide +kernel
theorem qd_X_order_1 : decode qc_X_order 1 = .ok (.iload_n 1, 1) := by decide +kernel
theorem qd_X_order_2 : decode qc_X_order 2 = .ok (.invokevirtual 81, 3) := by decide +kernel
theorem qd_X_order_5 : decode qc_X_order 5 = .ok (.iload_n 2, 1) := by decide +kernel
theorem qd_X_order_6 : decode qc_X_order 6 = .ok (.ifCond .lt 8, 3) := by decide +kernel
theorem qd_X_order_9 : decode qc_X_order 9 = .ok (.iload_n 2, 1) := by decide +kernel
theorem qd_X_order_10 : decode qc_X_order 10 = .ok (.iconst 4, 1) := by decide +kernel
theorem qd_X_order_11 : decode qc_X_order 11 = .ok (.if_icmp .le 13, 3) := by decide +kernel
theorem qd_X_order_14 : decode qc_X_order 14 = .ok (.new 49, 3) := by decide +kernel
theorem qd_X_order_17 : decode qc_X_order 17 = .ok (.dup, 1) := by decide +kernel
theorem qd_X_order_18 : decode qc_X_order 18 = .ok (.ldc 118, 2) := by decide +kernel
theorem qd_X_order_20 : decode qc_X_order 20 = .ok (.invokespecial 53, 3) := by decide +kernel
theorem qd_X_order_23 : decode qc_X_order 23 = .ok (.athrow, 1) := by decide +kernel
theorem qd_X_order_24 : decode qc_X_order 24 = .ok (.iload_n 3, 1) := by decide +kernel
theorem qd_X_order_25 : decode qc_X_order 25 = .ok (.ifCond .lt 9, 3) := by decide +kernel
theorem qd_X_order_28 : decode qc_X_order 28 = .ok (.iload_n 3, 1) := by decide +kernel
theorem qd_X_order_29 : decode qc_X_order 29 = .ok (.bipush 9, 2) := by decide +kernel
theorem qd_X_order_31 : decode qc_X_order 31 = .ok (.if_icmp .le 13, 3) := by decide +kernel
theorem qd_X_order_34 : decode qc_X_order 34 = .ok (.new 49, 3) := by decide +kernel
theorem qd_X_order_37 : decode qc_X_order 37 = .ok (.dup, 1) := by decide +kernel
theorem qd_X_order_38 : decode qc_X_order 38 = .ok (.ldc 120, 2) := by decide +kernel
theorem qd_X_order_40 : decode qc_X_order 40 = .ok (.invokespecial 53, 3) := by decide +kernel
theorem qd_X_order_43 : decode qc_X_order 43 = .ok (.athrow, 1) := by decide +kernel
theorem qd_X_order_44 : decode qc_X_order 44 = .ok (.aload_n 0, 1) := by decide +kernel
theorem qd_X_order_45 : decode qc_X_order 45 = .ok (.getfield 10, 3) := by decide +kernel
theorem qd_X_order_48 : decode qc_X_order 48 = .ok (.getfield 122, 3) := by decide +kernel
theorem qd_X_order_51 : decode qc_X_order 51 = .ok (.iload_n 1, 1) := by decide +kernel
theorem qd_X_order_52 : decode qc_X_order 52 = .ok (.iload_n 2, 1) := by decide +kernel
theorem qd_X_order_53 : decode qc_X_order 53 = .ok (.iastore, 1) := by decide +kernel
theorem qd_X_order_54 : decode qc_X_order 54 = .ok (.aload_n 0, 1) := by decide +kernel
theorem qd_X_order_55 : decode qc_X_order 55 = .ok (.getfield 10, 3) := by decide +kernel
theorem qd_X_order_58 : decode qc_X_order 58 = .ok (.getfield 125, 3) := by decide +kernel
theorem qd_X_order_61 : decode qc_X_order 61 = .ok (.iload_n 1, 1) := by decide +kernel
theorem qd_X_order_62 : decode qc_X_order 62 = .ok (.iload_n 3, 1) := by decide +kernel
theorem qd_X_order_63 : decode qc_X_order 63 = .ok (.iastore, 1) := by decide +kernel
theorem qd_X_order_64 : decode qc_X_order 64 = .ok (.return_, 1) := by decide +kernel
abbrev qc_X_rank : ByteArray := prog_1_method_7_code
abbrev qy_X_rank : MethodName := ⟨"TermOrders", "rank", "(I)I"⟩
abbrev qw_X_rank : List Cond := (Jvm.Cond.code ({ cls := "TermOrders", name := "rank", desc := "(I)I" } : Jvm.MethodName) prog_1_method_7_code (2 : Nat) (Option.some Jvm.ClassFile.FieldType.int)) :: gw
theorem qd_X_rank_0 : decode qc_X_rank 0 = .ok (.aload_n 0, 1) := by decide +kernel
theorem qd_X_rank_1 : decode qc_X_rank 1 = .ok (.iload_n 1, 1) := by decide +kernel
theorem qd_X_rank_2 : decode qc_X_rank 2 = .ok (.invokevirtual 81, 3) := by decide +kernel
theorem qd_X_rank_5 : decode qc_X_rank 5 = .ok (.aload_n 0, 1) := by decide +kernel
theorem qd_X_rank_6 : decode qc_X_rank 6 = .ok (.getfield 10, 3) := by decide +kernel
theorem qd_X_rank_9 : decode qc_X_rank 9 = .ok (.getfield 122, 3) := by decide +kernel
theorem qd_X_rank_12 : decode qc_X_rank 12 = .ok (.iload_n 1, 1) := by decide +kernel
theorem qd_X_rank_13 : decode qc_X_rank 13 = .ok (.iaload, 1) := by decide +kernel
theorem qd_X_rank_14 : decode qc_X_rank 14 = .ok (.ireturn, 1) := by decide +kernel
abbrev qc_X_greater : ByteArray := prog_1_method_8_code
abbrev qy_X_greater : MethodName := ⟨"TermOrders", "greater", "(III)Z"⟩
abbrev qw_X_greater : List Cond := (Jvm.Cond.code ({ cls := "TermOrders", name := "greater", desc := "(III)Z" } : Jvm.MethodName) prog_1_method_8_code (4 : Nat) (Option.some Jvm.ClassFile.FieldType.boolean)) :: gw
theorem qd_X_greater_0 : decode qc_X_greater 0 = .ok (.aload_n 0, 1) := by decide +kernel
theorem qd_X_greater_1 : decode qc_X_greater 1 = .ok (.iload_n 1, 1) := by decide +kernel
theorem qd_X_greater_2 : decode qc_X_greater 2 = .ok (.invokevirtual 128, 3) := by decide +kernel
theorem qd_X_greater_5 : decode qc_X_greater 5 = .ok (.aload_n 0, 1) := by decide +kernel
theorem qd_X_greater_6 : decode qc_X_greater 6 = .ok (.getfield 41, 3) := by decide +kernel
theorem qd_X_greater_9 : decode qc_X_greater 9 = .ok (.iload_n 1, 1) := by decide +kernel
theorem qd_X_greater_10 : decode qc_X_greater 10 = .ok (.aload_n 0, 1) := by decide +kernel
theorem qd_X_greater_11 : decode qc_X_greater 11 = .ok (.iload_n 2, 1) := by decide +kernel
theorem qd_X_greater_12 : decode qc_X_greater 12 = .ok (.invokevirtual 91, 3) := by decide +kernel
theorem qd_X_greater_15 : decode qc_X_greater 15 = .ok (.aload_n 0, 1) := by decide +kernel
theorem qd_X_greater_16 : decode qc_X_greater 16 = .ok (.iload_n 3, 1) := by decide +kernel
theorem qd_X_greater_17 : decode qc_X_greater 17 = .ok (.invokevirtual 91, 3) := by decide +kernel
theorem qd_X_greater_20 : decode qc_X_greater 20 = .ok (.invokevirtual 131, 3) := by decide +kernel
theorem qd_X_greater_23 : decode qc_X_greater 23 = .ok (.ireturn, 1) := by decide +kernel
abbrev qc_X_same : ByteArray := prog_1_method_9_code
abbrev qy_X_same : MethodName := ⟨"TermOrders", "same", "(II)Z"⟩
abbrev qw_X_same : List Cond := (Jvm.Cond.code ({ cls := "TermOrders", name := "same", desc := "(II)Z" } : Jvm.MethodName) prog_1_method_9_code (3 : Nat) (Option.some Jvm.ClassFile.FieldType.boolean)) :: gw
theorem qd_X_same_0 : decode qc_X_same 0 = .ok (.aload_n 0, 1) := by decide +kernel
theorem qd_X_same_1 : decode qc_X_same 1 = .ok (.iload_n 1, 1) := by decide +kernel
theorem qd_X_same_2 : decode qc_X_same 2 = .ok (.invokevirtual 91, 3) := by decide +kernel
theorem qd_X_same_5 : decode qc_X_same 5 = .ok (.iconst 0, 1) := by decide +kernel
theorem qd_X_same_6 : decode qc_X_same 6 = .ok (.aload_n 0, 1) := by decide +kernel
theorem qd_X_same_7 : decode qc_X_same 7 = .ok (.iload_n 2, 1) := by decide +kernel
theorem qd_X_same_8 : decode qc_X_same 8 = .ok (.invokevirtual 91, 3) := by decide +kernel
theorem qd_X_same_11 : decode qc_X_same 11 = .ok (.iconst 0, 1) := by decide +kernel
theorem qd_X_same_12 : decode qc_X_same 12 = .ok (.invokevirtual 135, 3) := by decide +kernel
theorem qd_X_same_15 : decode qc_X_same 15 = .ok (.ireturn, 1) := by decide +kernel
abbrev qc_X_admissible : ByteArray := prog_1_method_10_code
abbrev qy_X_admissible : MethodName := ⟨"TermOrders", "admissible", "()Z"⟩
abbrev qw_X_admissible : List Cond := (Jvm.Cond.code ({ cls := "TermOrders", name := "admissible", desc := "()Z" } : Jvm.MethodName) prog_1_method_10_code (1 : Nat) (Option.some Jvm.ClassFile.FieldType.boolean)) :: gw
theorem qd_X_admissible_0 : decode qc_X_admissible 0 = .ok (.aload_n 0, 1) := by decide +kernel
theorem qd_X_admissible_1 : decode qc_X_admissible 1 = .ok (.getfield 10, 3) := by decide +kernel
theorem qd_X_admissible_4 : decode qc_X_admissible 4 = .ok (.invokevirtual 139, 3) := by decide +kernel
theorem qd_X_admissible_7 : decode qc_X_admissible 7 = .ok (.ireturn, 1) := by decide +kernel
abbrev qc_X_oriented : ByteArray := prog_1_method_11_code
abbrev qy_X_oriented : MethodName := ⟨"TermOrders", "oriented", "(I)I"⟩
abbrev qw_X_oriented : List Cond := (Jvm.Cond.code ({ cls := "TermOrders", name := "oriented", desc := "(I)I" } : Jvm.MethodName) prog_1_method_11_code (4 : Nat) (Option.some Jvm.ClassFile.FieldType.int)) :: gw
theorem qd_X_oriented_0 : decode qc_X_oriented 0 = .ok (.aload_n 0, 1) := by decide +kernel
theorem qd_X_oriented_1 : decode qc_X_oriented 1 = .ok (.iload_n 1, 1) := by decide +kernel
theorem qd_X_oriented_2 : decode qc_X_oriented 2 = .ok (.invokevirtual 128, 3) := by decide +kernel
theorem qd_X_oriented_5 : decode qc_X_oriented 5 = .ok (.iconst 0, 1) := by decide +kernel
theorem qd_X_oriented_6 : decode qc_X_oriented 6 = .ok (.istore_n 2, 1) := by decide +kernel
theorem qd_X_oriented_7 : decode qc_X_oriented 7 = .ok (.iconst 0, 1) := by decide +kernel
theorem qd_X_oriented_8 : decode qc_X_oriented 8 = .ok (.istore_n 3, 1) := by decide +kernel
theorem qd_X_oriented_9 : decode qc_X_oriented 9 = .ok (.iload_n 3, 1) := by decide +kernel
theorem qd_X_oriented_10 : decode qc_X_oriented 10 = .ok (.aload_n 0, 1) := by decide +kernel
theorem qd_X_oriented_11 : decode qc_X_oriented 11 = .ok (.getfield 34, 3) := by decide +kernel
theorem qd_X_oriented_14 : decode qc_X_oriented 14 = .ok (.getfield 112, 3) := by decide +kernel
theorem qd_X_oriented_17 : decode qc_X_oriented 17 = .ok (.if_icmp .ge 44, 3) := by decide +kernel
theorem qd_X_oriented_20 : decode qc_X_oriented 20 = .ok (.aload_n 0, 1) := by decide +kernel
theorem qd_X_oriented_21 : decode qc_X_oriented 21 = .ok (.getfield 41, 3) := by decide +kernel
theorem qd_X_oriented_24 : decode qc_X_oriented 24 = .ok (.iload_n 1, 1) := by decide +kernel
theorem qd_X_oriented_25 : decode qc_X_oriented 25 = .ok (.aload_n 0, 1) := by decide +kernel
theorem qd_X_oriented_26 : decode qc_X_oriented 26 = .ok (.getfield 34, 3) := by decide +kernel
theorem qd_X_oriented_29 : decode qc_X_oriented 29 = .ok (.getfield 143, 3) := by decide +kernel
theorem qd_X_oriented_32 : decode qc_X_oriented 32 = .ok (.iload_n 3, 1) := by decide +kernel
theorem qd_X_oriented_33 : decode qc_X_oriented 33 = .ok (.aaload, 1) := by decide +kernel
theorem qd_X_oriented_34 : decode qc_X_oriented 34 = .ok (.aload_n 0, 1) := by decide +kernel
theorem qd_X_oriented_35 : decode qc_X_oriented 35 = .ok (.getfield 34, 3) := by decide +kernel
theorem qd_X_oriented_38 : decode qc_X_oriented 38 = .ok (.getfield 146, 3) := by decide +kernel
theorem qd_X_oriented_41 : decode qc_X_oriented 41 = .ok (.iload_n 3, 1) := by decide +kernel
theorem qd_X_oriented_42 : decode qc_X_oriented 42 = .ok (.aaload, 1) := by decide +kernel
theorem qd_X_oriented_43 : decode qc_X_oriented 43 = .ok (.invokevirtual 131, 3) := by decide +kernel
theorem qd_X_oriented_46 : decode qc_X_oriented 46 = .ok (.ifCond .eq 9, 3) := by decide +kernel
theorem qd_X_oriented_49 : decode qc_X_oriented 49 = .ok (.iload_n 2, 1) := by decide +kernel
theorem qd_X_oriented_50 : decode qc_X_oriented 50 = .ok (.iconst 1, 1) := by decide +kernel
theorem qd_X_oriented_51 : decode qc_X_oriented 51 = .ok (.iload_n 3, 1) := by decide +kernel
theorem qd_X_oriented_52 : decode qc_X_oriented 52 = .ok (.ishl, 1) := by decide +kernel
theorem qd_X_oriented_53 : decode qc_X_oriented 53 = .ok (.ior, 1) := by decide +kernel
theorem qd_X_oriented_54 : decode qc_X_oriented 54 = .ok (.istore_n 2, 1) := by decide +kernel
theorem qd_X_oriented_55 : decode qc_X_oriented 55 = .ok (.iinc 3 1, 3) := by decide +kernel
theorem qd_X_oriented_58 : decode qc_X_oriented 58 = .ok (.goto (-49), 3) := by decide +kernel
theorem qd_X_oriented_61 : decode qc_X_oriented 61 = .ok (.iload_n 2, 1) := by decide +kernel
theorem qd_X_oriented_62 : decode qc_X_oriented 62 = .ok (.ireturn, 1) := by decide +kernel
abbrev qc_X_search : ByteArray := prog_1_method_12_code
abbrev qy_X_search : MethodName := ⟨"TermOrders", "search", "(I)Z"⟩
abbrev qw_X_search : List Cond := (Jvm.Cond.code ({ cls := "TermOrders", name := "search", desc := "(I)Z" } : Jvm.MethodName) prog_1_method_12_code (4 : Nat) (Option.some Jvm.ClassFile.FieldType.boolean)) :: gw
theorem qd_X_search_0 : decode qc_X_search 0 = .ok (.aload_n 0, 1) := by decide +kernel
theorem qd_X_search_1 : decode qc_X_search 1 = .ok (.iload_n 1, 1) := by decide +kernel
theorem qd_X_search_2 : decode qc_X_search 2 = .ok (.invokevirtual 128, 3) := by decide +kernel
theorem qd_X_search_5 : decode qc_X_search 5 = .ok (.aload_n 0, 1) := by decide +kernel
theorem qd_X_search_6 : decode qc_X_search 6 = .ok (.getfield 10, 3) := by decide +kernel
theorem qd_X_search_9 : decode qc_X_search 9 = .ok (.invokevirtual 149, 3) := by decide +kernel
theorem qd_X_search_12 : decode qc_X_search 12 = .ok (.aload_n 0, 1) := by decide +kernel
theorem qd_X_search_13 : decode qc_X_search 13 = .ok (.getfield 10, 3) := by decide +kernel
theorem qd_X_search_16 : decode qc_X_search 16 = .ok (.invokevirtual 152, 3) := by decide +kernel
theorem qd_X_search_19 : decode qc_X_search 19 = .ok (.aload_n 0, 1) := by decide +kernel
theorem qd_X_search_20 : decode qc_X_search 20 = .ok (.iload_n 1, 1) := by decide +kernel
theorem qd_X_search_21 : decode qc_X_search 21 = .ok (.invokevirtual 155, 3) := by decide +kernel
theorem qd_X_search_24 : decode qc_X_search 24 = .ok (.istore_n 2, 1) := by decide +kernel
theorem qd_X_search_25 : decode qc_X_search 25 = .ok (.iconst 1, 1) := by decide +kernel
theorem qd_X_search_26 : decode qc_X_search 26 = .ok (.istore_n 3, 1) := by decide +kernel
theorem qd_X_search_27 : decode qc_X_search 27 = .ok (.iload_n 3, 1) := by decide +kernel
theorem qd_X_search_28 : decode qc_X_search 28 = .ok (.bipush 120, 2) := by decide +kernel
theorem qd_X_search_30 : decode qc_X_search 30 = .ok (.if_icmp .ge 29, 3) := by decide +kernel
theorem qd_X_search_33 : decode qc_X_search 33 = .ok (.iload_n 2, 1) := by decide +kernel
theorem qd_X_search_34 : decode qc_X_search 34 = .ok (.ifCond .ne 25, 3) := by decide +kernel
theorem qd_X_search_37 : decode qc_X_search 37 = .ok (.aload_n 0, 1) := by decide +kernel
theorem qd_X_search_38 : decode qc_X_search 38 = .ok (.getfield 10, 3) := by decide +kernel
theorem qd_X_search_41 : decode qc_X_search 41 = .ok (.invokevirtual 158, 3) := by decide +kernel
theorem qd_X_search_44 : decode qc_X_search 44 = .ok (.ifCond .eq 15, 3) := by decide +kernel
theorem qd_X_search_47 : decode qc_X_search 47 = .ok (.aload_n 0, 1) := by decide +kernel
theorem qd_X_search_48 : decode qc_X_search 48 = .ok (.iload_n 1, 1) := by decide +kernel
theorem qd_X_search_49 : decode qc_X_search 49 = .ok (.invokevirtual 155, 3) := by decide +kernel
theorem qd_X_search_52 : decode qc_X_search 52 = .ok (.istore_n 2, 1) := by decide +kernel
theorem qd_X_search_53 : decode qc_X_search 53 = .ok (.iinc 3 1, 3) := by decide +kernel
theorem qd_X_search_56 : decode qc_X_search 56 = .ok (.goto (-29), 3) := by decide +kernel
theorem qd_X_search_59 : decode qc_X_search 59 = .ok (.iload_n 2, 1) := by decide +kernel
theorem qd_X_search_60 : decode qc_X_search 60 = .ok (.ifCond .ne 10, 3) := by decide +kernel
theorem qd_X_search_63 : decode qc_X_search 63 = .ok (.aload_n 0, 1) := by decide +kernel
theorem qd_X_search_64 : decode qc_X_search 64 = .ok (.getfield 10, 3) := by decide +kernel
theorem qd_X_search_67 : decode qc_X_search 67 = .ok (.invokevirtual 161, 3) := by decide +kernel
theorem qd_X_search_70 : decode qc_X_search 70 = .ok (.iload_n 2, 1) := by decide +kernel
theorem qd_X_search_71 : decode qc_X_search 71 = .ok (.ireturn, 1) := by decide +kernel
abbrev qc_X_step : ByteArray := prog_1_method_13_code
abbrev qy_X_step : MethodName := ⟨"TermOrders", "step", "(I)I"⟩
abbrev qw_X_step : List Cond := (Jvm.Cond.code ({ cls := "TermOrders", name := "step", desc := "(I)I" } : Jvm.MethodName) prog_1_method_13_code (3 : Nat) (Option.some Jvm.ClassFile.FieldType.int)) :: gw
theorem qd_X_step_0 : decode qc_X_step 0 = .ok (.aload_n 0, 1) := by decide +kernel
theorem qd_X_step_1 : decode qc_X_step 1 = .ok (.getfield 34, 3) := by decide +kernel
theorem qd_X_step_4 : decode qc_X_step 4 = .ok (.aload_n 0, 1) := by decide +kernel
theorem qd_X_step_5 : decode qc_X_step 5 = .ok (.iload_n 1, 1) := by decide +kernel
theorem qd_X_step_6 : decode qc_X_step 6 = .ok (.invokevirtual 91, 3) := by decide +kernel
theorem qd_X_step_9 : decode qc_X_step 9 = .ok (.aload_n 0, 1) := by decide +kernel
theorem qd_X_step_10 : decode qc_X_step 10 = .ok (.getfield 21, 3) := by decide +kernel
theorem qd_X_step_13 : decode qc_X_step 13 = .ok (.invokevirtual 164, 3) := by decide +kernel
theorem qd_X_step_16 : decode qc_X_step 16 = .ok (.istore_n 2, 1) := by decide +kernel
theorem qd_X_step_17 : decode qc_X_step 17 = .ok (.iload_n 2, 1) := by decide +kernel
theorem qd_X_step_18 : decode qc_X_step 18 = .ok (.ifCond .eq 10, 3) := by decide +kernel
theorem qd_X_step_21 : decode qc_X_step 21 = .ok (.aload_n 0, 1) := by decide +kernel
theorem qd_X_step_22 : decode qc_X_step 22 = .ok (.invokevirtual 77, 3) := by decide +kernel
theorem qd_X_step_25 : decode qc_X_step 25 = .ok (.goto 4, 3) := by decide +kernel
theorem qd_X_step_28 : decode qc_X_step 28 = .ok (.iconst (-1), 1) := by decide +kernel
theorem qd_X_step_29 : decode qc_X_step 29 = .ok (.ireturn, 1) := by decide +kernel
abbrev qc_X_about : ByteArray := prog_1_method_14_code
abbrev qy_X_about : MethodName := ⟨"TermOrders", "about", "(II)I"⟩
abbrev qw_X_about : List Cond := (Jvm.Cond.code ({ cls := "TermOrders", name := "about", desc := "(II)I" } : Jvm.MethodName) prog_1_method_14_code (4 : Nat) (Option.some Jvm.ClassFile.FieldType.int)) :: gw
theorem qd_X_about_0 : decode qc_X_about 0 = .ok (.aload_n 0, 1) := by decide +kernel
theorem qd_X_about_1 : decode qc_X_about 1 = .ok (.iload_n 1, 1) := by decide +kernel
theorem qd_X_about_2 : decode qc_X_about 2 = .ok (.invokevirtual 91, 3) := by decide +kernel
theorem qd_X_about_5 : decode qc_X_about 5 = .ok (.astore_n 3, 1) := by decide +kernel
theorem qd_X_about_6 : decode qc_X_about 6 = .ok (.iload_n 2, 1) := by decide +kernel
theorem qd_X_about_7 : decode qc_X_about 7 = .ok (.tableswitch 56 0 3 #[29, 36, 41, 46], 29) := by decide +kernel
theorem qd_X_about_36 : decode qc_X_about 36 = .ok (.aload_n 3, 1) := by decide +kernel
theorem qd_X_about_37 : decode qc_X_about 37 = .ok (.getfield 168, 3) := by decide +kernel
theorem qd_X_about_40 : decode qc_X_about 40 = .ok (.iconst 0, 1) := by decide +kernel
theorem qd_X_about_41 : decode qc_X_about 41 = .ok (.iaload, 1) := by decide +kernel
theorem qd_X_about_42 : decode qc_X_about 42 = .ok (.ireturn, 1) := by decide +kernel
theorem qd_X_about_43 : decode qc_X_about 43 = .ok (.aload_n 3, 1) := by decide +kernel
theorem qd_X_about_44 : decode qc_X_about 44 = .ok (.getfield 171, 3) := by decide +kernel
theorem qd_X_about_47 : decode qc_X_about 47 = .ok (.ireturn, 1) := by decide +kernel
theorem qd_X_about_48 : decode qc_X_about 48 = .ok (.aload_n 3, 1) := by decide +kernel
theorem qd_X_about_49 : decode qc_X_about 49 = .ok (.getfield 95, 3) := by decide +kernel
theorem qd_X_about_52 : decode qc_X_about 52 = .ok (.ireturn, 1) := by decide +kernel
theorem qd_X_about_53 : decode qc_X_about 53 = .ok (.aload_n 0, 1) := by decide +kernel
theorem qd_X_about_54 : decode qc_X_about 54 = .ok (.getfield 10, 3) := by decide +kernel
theorem qd_X_about_57 : decode qc_X_about 57 = .ok (.aload_n 3, 1) := by decide +kernel
theorem qd_X_about_58 : decode qc_X_about 58 = .ok (.iconst 0, 1) := by decide +kernel
theorem qd_X_about_59 : decode qc_X_about 59 = .ok (.invokevirtual 174, 3) := by decide +kernel
theorem qd_X_about_62 : decode qc_X_about 62 = .ok (.ireturn, 1) := by decide +kernel
theorem qd_X_about_63 : decode qc_X_about 63 = .ok (.new 49, 3) := by decide +kernel
theorem qd_X_about_66 : decode qc_X_about 66 = .ok (.dup, 1) := by decide +kernel
theorem qd_X_about_67 : decode qc_X_about 67 = .ok (.ldc 178, 2) := by decide +kernel
theorem qd_X_about_69 : decode qc_X_about 69 = .ok (.invokespecial 53, 3) := by decide +kernel
theorem qd_X_about_72 : decode qc_X_about 72 = .ok (.athrow, 1) := by decide +kernel
abbrev qc_X_place : ByteArray := prog_1_method_15_code
abbrev qy_X_place : MethodName := ⟨"TermOrders", "place", "(II)I"⟩
abbrev qw_X_place : List Cond := (Jvm.Cond.code ({ cls := "TermOrders", name := "place", desc := "(II)I" } : Jvm.MethodName) prog_1_method_15_code (4 : Nat) (Option.some Jvm.ClassFile.FieldType.int)) :: gw
theorem qd_X_place_0 : decode qc_X_place 0 = .ok (.aload_n 0, 1) := by decide +kernel
theorem qd_X_place_1 : decode qc_X_place 1 = .ok (.iload_n 1, 1) := by decide +kernel
theorem qd_X_place_2 : decode qc_X_place 2 = .ok (.invokevirtual 91, 3) := by decide +kernel
theorem qd_X_place_5 : decode qc_X_place 5 = .ok (.astore_n 3, 1) := by decide +kernel
theorem qd_X_place_6 : decode qc_X_place 6 = .ok (.iload_n 2, 1) := by decide +kernel
theorem qd_X_place_7 : decode qc_X_place 7 = .ok (.ifCond .lt 11, 3) := by decide +kernel
theorem qd_X_place_10 : decode qc_X_place 10 = .ok (.iload_n 2, 1) := by decide +kernel
theorem qd_X_place_11 : decode qc_X_place 11 = .ok (.aload_n 3, 1) := by decide +kernel
theorem qd_X_place_12 : decode qc_X_place 12 = .ok (.getfield 95, 3) := by decide +kernel
theorem qd_X_place_15 : decode qc_X_place 15 = .ok (.if_icmp .lt 13, 3) := by decide +kernel
theorem qd_X_place_18 : decode qc_X_place 18 = .ok (.new 180, 3) := by decide +kernel
theorem qd_X_place_21 : decode qc_X_place 21 = .ok (.dup, 1) := by decide +kernel
theorem qd_X_place_22 : decode qc_X_place 22 = .ok (.ldc 182, 2) := by decide +kernel
theorem qd_X_place_24 : decode qc_X_place 24 = .ok (.invokespecial 184, 3) := by decide +kernel
theorem qd_X_place_27 : decode qc_X_place 27 = .ok (.athrow, 1) := by decide +kernel
theorem qd_X_place_28 : decode qc_X_place 28 = .ok (.aload_n 3, 1) := by decide +kernel
theorem qd_X_place_29 : decode qc_X_place 29 = .ok (.getfield 168, 3) := by decide +kernel
theorem qd_X_place_32 : decode qc_X_place 32 = .ok (.iload_n 2, 1) := by decide +kernel
theorem qd_X_place_33 : decode qc_X_place 33 = .ok (.iaload, 1) := by decide +kernel
theorem qd_X_place_34 : decode qc_X_place 34 = .ok (.ireturn, 1) := by decide +kernel
abbrev qc_X_count : ByteArray := prog_1_method_16_code
abbrev qy_X_count : MethodName := ⟨"TermOrders", "count", "(I)I"⟩
abbrev qw_X_count : List Cond := (Jvm.Cond.code ({ cls := "TermOrders", name := "count", desc := "(I)I" } : Jvm.MethodName) prog_1_method_16_code (2 : Nat) (Option.some Jvm.ClassFile.FieldType.int)) :: gw
theorem qd_X_count_0 : decode qc_X_count 0 = .ok (.iload_n 1, 1) := by decide +kernel
theorem qd_X_count_1 : decode qc_X_count 1 = .ok (.tableswitch 48 0 2 #[27, 35, 40], 27) := by decide +kernel
theorem qd_X_count_28 : decode qc_X_count 28 = .ok (.aload_n 0, 1) := by decide +kernel
theorem qd_X_count_29 : decode qc_X_count 29 = .ok (.getfield 10, 3) := by decide +kernel
theorem qd_X_count_32 : decode qc_X_count 32 = .ok (.getfield 56, 3) := by decide +kernel
theorem qd_X_count_35 : decode qc_X_count 35 = .ok (.ireturn, 1) := by decide +kernel
theorem qd_X_count_36 : decode qc_X_count 36 = .ok (.aload_n 0, 1) := by decide +kernel
theorem qd_X_count_37 : decode qc_X_count 37 = .ok (.getfield 45, 3) := by decide +kernel
theorem qd_X_count_40 : decode qc_X_count 40 = .ok (.ireturn, 1) := by decide +kernel
theorem qd_X_count_41 : decode qc_X_count 41 = .ok (.aload_n 0, 1) := by decide +kernel
theorem qd_X_count_42 : decode qc_X_count 42 = .ok (.getfield 34, 3) := by decide +kernel
theorem qd_X_count_45 : decode qc_X_count 45 = .ok (.getfield 112, 3) := by decide +kernel
theorem qd_X_count_48 : decode qc_X_count 48 = .ok (.ireturn, 1) := by decide +kernel
theorem qd_X_count_49 : decode qc_X_count 49 = .ok (.iconst (-1), 1) := by decide +kernel
theorem qd_X_count_50 : decode qc_X_count 50 = .ok (.ireturn, 1) := by decide +kernel
abbrev qc_X_checkSymbol : ByteArray := prog_1_method_17_code
abbrev qy_X_checkSymbol : MethodName := ⟨"TermOrders", "checkSymbol", "(I)V"⟩
abbrev qw_X_checkSymbol : List Cond := (Jvm.Cond.code ({ cls := "TermOrders", name := "checkSymbol", desc := "(I)V" } : Jvm.MethodName) prog_1_method_17_code (2 : Nat) (Option.none : Option Jvm.ClassFile.FieldType)) :: gw
theorem qd_X_checkSymbol_0 : decode qc_X_checkSymbol 0 = .ok (.iload_n 1, 1) := by decide +kernel
theorem qd_X_checkSymbol_1 : decode qc_X_checkSymbol 1 = .ok (.ifCond .lt 14, 3) := by decide +kernel
theorem qd_X_checkSymbol_4 : decode qc_X_checkSymbol 4 = .ok (.iload_n 1, 1) := by decide +kernel
theorem qd_X_checkSymbol_5 : decode qc_X_checkSymbol 5 = .ok (.aload_n 0, 1) := by decide +kernel
theorem qd_X_checkSymbol_6 : decode qc_X_checkSymbol 6 = .ok (.getfield 10, 3) := by decide +kernel
theorem qd_X_checkSymbol_9 : decode qc_X_checkSymbol 9 = .ok (.getfield 56, 3) := by decide +kernel
theorem qd_X_checkSymbol_12 : decode qc_X_checkSymbol 12 = .ok (.if_icmp .lt 13, 3) := by decide +kernel
theorem qd_X_checkSymbol_15 : decode qc_X_checkSymbol 15 = .ok (.new 49, 3) := by decide +kernel
theorem qd_X_checkSymbol_18 : decode qc_X_checkSymbol 18 = .ok (.dup, 1) := by decide +kernel
theorem qd_X_checkSymbol_19 : decode qc_X_checkSymbol 19 = .ok (.ldc 185, 2) := by decide +kernel
theorem qd_X_checkSymbol_21 : decode qc_X_checkSymbol 21 = .ok (.invokespecial 53, 3) := by decide +kernel
theorem qd_X_checkSymbol_24 : decode qc_X_checkSymbol 24 = .ok (.athrow, 1) := by decide +kernel
theorem qd_X_checkSymbol_25 : decode qc_X_checkSymbol 25 = .ok (.return_, 1) := by decide +kernel
abbrev qc_X_checkOrder : ByteArray := prog_1_method_18_code
abbrev qy_X_checkOrder : MethodName := ⟨"TermOrders", "checkOrder", "(I)V"⟩
abbrev qw_X_checkOrder : List Cond := (Jvm.Cond.code ({ cls := "TermOrders", name := "checkOrder", desc := "(I)V" } : Jvm.MethodName) prog_1_method_18_code (2 : Nat) (Option.none : Option Jvm.ClassFile.FieldType)) :: gw
theorem qd_X_checkOrder_0 : decode qc_X_checkOrder 0 = .ok (.iload_n 1, 1) := by decide +kernel
theorem qd_X_checkOrder_1 : decode qc_X_checkOrder 1 = .ok (.ifCond .eq 18, 3) := by decide +kernel
theorem qd_X_checkOrder_4 : decode qc_X_checkOrder 4 = .ok (.iload_n 1, 1) := by decide +kernel
theorem qd_X_checkOrder_5 : decode qc_X_checkOrder 5 = .ok (.iconst 1, 1) := by decide +kernel
theorem qd_X_checkOrder_6 : decode qc_X_checkOrder 6 = .ok (.if_icmp .eq 13, 3) := by decide +kernel
theorem qd_X_checkOrder_9 : decode qc_X_checkOrder 9 = .ok (.new 49, 3) := by decide +kernel
theorem qd_X_checkOrder_12 : decode qc_X_checkOrder 12 = .ok (.dup, 1) := by decide +kernel
theorem qd_X_checkOrder_13 : decode qc_X_checkOrder 13 = .ok (.ldc 187, 2) := by decide +kernel
theorem qd_X_checkOrder_15 : decode qc_X_checkOrder 15 = .ok (.invokespecial 53, 3) := by decide +kernel
theorem qd_X_checkOrder_18 : decode qc_X_checkOrder 18 = .ok (.athrow, 1) := by decide +kernel
theorem qd_X_checkOrder_19 : decode qc_X_checkOrder 19 = .ok (.return_, 1) := by decide +kernel
abbrev qc_X_termOf : ByteArray := prog_1_method_19_code
abbrev qy_X_termOf : MethodName := ⟨"TermOrders", "termOf", "(I)LTermOrders$Term;"⟩
abbrev qw_X_termOf : List Cond := (Jvm.Cond.code ({ cls := "TermOrders", name := "termOf", desc := "(I)LTermOrders$Term;" } : Jvm.MethodName) prog_1_method_19_code (2 : Nat) (Option.some (Jvm.ClassFile.FieldType.object "TermOrders$Term"))) :: gw
theorem qd_X_termOf_0 : decode qc_X_termOf 0 = .ok (.iload_n 1, 1) := by decide +kernel
theorem qd_X_termOf_1 : decode qc_X_termOf 1 = .ok (.ifCond .lt 11, 3) := by decide +kernel
theorem qd_X_termOf_4 : decode qc_X_termOf 4 = .ok (.iload_n 1, 1) := by decide +kernel
theorem qd_X_termOf_5 : decode qc_X_termOf 5 = .ok (.aload_n 0, 1) := by decide +kernel
theorem qd_X_termOf_6 : decode qc_X_termOf 6 = .ok (.getfield 45, 3) := by decide +kernel
theorem qd_X_termOf_9 : decode qc_X_termOf 9 = .ok (.if_icmp .lt 13, 3) := by decide +kernel
theorem qd_X_termOf_12 : decode qc_X_termOf 12 = .ok (.new 49, 3) := by decide +kernel
theorem qd_X_termOf_15 : decode qc_X_termOf 15 = .ok (.dup, 1) := by decide +kernel
theorem qd_X_termOf_16 : decode qc_X_termOf 16 = .ok (.ldc 189, 2) := by decide +kernel
theorem qd_X_termOf_18 : decode qc_X_termOf 18 = .ok (.invokespecial 53, 3) := by decide +kernel
theorem qd_X_termOf_21 : decode qc_X_termOf 21 = .ok (.athrow, 1) := by decide +kernel
theorem qd_X_termOf_22 : decode qc_X_termOf 22 = .ok (.aload_n 0, 1) := by decide +kernel
theorem qd_X_termOf_23 : decode qc_X_termOf 23 = .ok (.getfield 27, 3) := by decide +kernel
theorem qd_X_termOf_26 : decode qc_X_termOf 26 = .ok (.iload_n 1, 1) := by decide +kernel
theorem qd_X_termOf_27 : decode qc_X_termOf 27 = .ok (.aaload, 1) := by decide +kernel
theorem qd_X_termOf_28 : decode qc_X_termOf 28 = .ok (.areturn, 1) := by decide +kernel
abbrev qc_X_keepDraft : ByteArray := prog_1_method_20_code
abbrev qy_X_keepDraft : MethodName := ⟨"TermOrders", "keepDraft", "()I"⟩
abbrev qw_X_keepDraft : List Cond := (Jvm.Cond.code ({ cls := "TermOrders", name := "keepDraft", desc := "()I" } : Jvm.MethodName) prog_1_method_20_code (1 : Nat) (Option.some Jvm.ClassFile.FieldType.int)) :: gw
theorem qd_X_keepDraft_0 : decode qc_X_keepDraft 0 = .ok (.aload_n 0, 1) := by decide +kernel
theorem qd_X_keepDraft_1 : decode qc_X_keepDraft 1 = .ok (.getfield 21, 3) := by decide +kernel
theorem qd_X_keepDraft_4 : decode qc_X_keepDraft 4 = .ok (.invokevirtual 191, 3) := by decide +kernel
theorem qd_X_keepDraft_7 : decode qc_X_keepDraft 7 = .ok (.ifCond .ne 13, 3) := by decide +kernel
theorem qd_X_keepDraft_10 : decode qc_X_keepDraft 10 = .ok (.new 49, 3) := by decide +kernel
theorem qd_X_keepDraft_13 : decode qc_X_keepDraft 13 = .ok (.dup, 1) := by decide +kernel
theorem qd_X_keepDraft_14 : decode qc_X_keepDraft 14 = .ok (.ldc 194, 2) := by decide +kernel
theorem qd_X_keepDraft_16 : decode qc_X_keepDraft 16 = .ok (.invokespecial 53, 3) := by decide +kernel
theorem qd_X_keepDraft_19 : decode qc_X_keepDraft 19 = .ok (.athrow, 1) := by decide +kernel
theorem qd_X_keepDraft_20 : decode qc_X_keepDraft 20 = .ok (.aload_n 0, 1) := by decide +kernel
theorem qd_X_keepDraft_21 : decode qc_X_keepDraft 21 = .ok (.getfield 45, 3) := by decide +kernel
theorem qd_X_keepDraft_24 : decode qc_X_keepDraft 24 = .ok (.sipush 160, 3) := by decide +kernel
theorem qd_X_keepDraft_27 : decode qc_X_keepDraft 27 = .ok (.if_icmp .ne 13, 3) := by decide +kernel
theorem qd_X_keepDraft_30 : decode qc_X_keepDraft 30 = .ok (.new 59, 3) := by decide +kernel
theorem qd_X_keepDraft_33 : decode qc_X_keepDraft 33 = .ok (.dup, 1) := by decide +kernel
theorem qd_X_keepDraft_34 : decode qc_X_keepDraft 34 = .ok (.ldc 196, 2) := by decide +kernel
theorem qd_X_keepDraft_36 : decode qc_X_keepDraft 36 = .ok (.invokespecial 63, 3) := by decide +kernel
theorem qd_X_keepDraft_39 : decode qc_X_keepDraft 39 = .ok (.athrow, 1) := by decide +kernel
theorem qd_X_keepDraft_40 : decode qc_X_keepDraft 40 = .ok (.aload_n 0, 1) := by decide +kernel
theorem qd_X_keepDraft_41 : decode qc_X_keepDraft 41 = .ok (.getfield 27, 3) := by decide +kernel
theorem qd_X_keepDraft_44 : decode qc_X_keepDraft 44 = .ok (.aload_n 0, 1) := by decide +kernel
theorem qd_X_keepDraft_45 : decode qc_X_keepDraft 45 = .ok (.getfield 45, 3) := by decide +kernel
theorem qd_X_keepDraft_48 : decode qc_X_keepDraft 48 = .ok (.aload_n 0, 1) := by decide +kernel
theorem qd_X_keepDraft_49 : decode qc_X_keepDraft 49 = .ok (.getfield 21, 3) := by decide +kernel
theorem qd_X_keepDraft_52 : decode qc_X_keepDraft 52 = .ok (.invokevirtual 198, 3) := by decide +kernel
theorem qd_X_keepDraft_55 : decode qc_X_keepDraft 55 = .ok (.aastore, 1) := by decide +kernel
theorem qd_X_keepDraft_56 : decode qc_X_keepDraft 56 = .ok (.aload_n 0, 1) := by decide +kernel
theorem qd_X_keepDraft_57 : decode qc_X_keepDraft 57 = .ok (.dup, 1) := by decide +kernel
theorem qd_X_keepDraft_58 : decode qc_X_keepDraft 58 = .ok (.getfield 45, 3) := by decide +kernel
theorem qd_X_keepDraft_61 : decode qc_X_keepDraft 61 = .ok (.iconst 1, 1) := by decide +kernel
theorem qd_X_keepDraft_62 : decode qc_X_keepDraft 62 = .ok (.iadd, 1) := by decide +kernel
theorem qd_X_keepDraft_63 : decode qc_X_keepDraft 63 = .ok (.putfield 45, 3) := by decide +kernel
theorem qd_X_keepDraft_66 : decode qc_X_keepDraft 66 = .ok (.aload_n 0, 1) := by decide +kernel
theorem qd_X_keepDraft_67 : decode qc_X_keepDraft 67 = .ok (.getfield 45, 3) := by decide +kernel
theorem qd_X_keepDraft_70 : decode qc_X_keepDraft 70 = .ok (.iconst 1, 1) := by decide +kernel
theorem qd_X_keepDraft_71 : decode qc_X_keepDraft 71 = .ok (.isub, 1) := by decide +kernel
theorem qd_X_keepDraft_72 : decode qc_X_keepDraft 72 = .ok (.ireturn, 1) := by decide +kernel
abbrev qc_X_isOrientedAsDue : ByteArray := prog_1_method_21_code
abbrev qy_X_isOrientedAsDue : MethodName := ⟨"TermOrders", "isOrientedAsDue", "(I)Z"⟩
abbrev qw_X_isOrientedAsDue : List Cond := (Jvm.Cond.code ({ cls := "TermOrders", name := "isOrientedAsDue", desc := "(I)Z" } : Jvm.MethodName) prog_1_method_21_code (3 : Nat) (Option.some Jvm.ClassFile.FieldType.boolean)) :: gw
theorem qd_X_isOrientedAsDue_0 : decode qc_X_isOrientedAsDue 0 = .ok (.iload_n 1, 1) := by decide +kernel
theorem qd_X_isOrientedAsDue_1 : decode qc_X_isOrientedAsDue 1 = .ok (.iconst 1, 1) := by decide +kernel
theorem qd_X_isOrientedAsDue_2 : decode qc_X_isOrientedAsDue 2 = .ok (.if_icmp .ne 15, 3) := by decide +kernel
theorem qd_X_isOrientedAsDue_5 : decode qc_X_isOrientedAsDue 5 = .ok (.aload_n 0, 1) := by decide +kernel
theorem qd_X_isOrientedAsDue_6 : decode qc_X_isOrientedAsDue 6 = .ok (.getfield 10, 3) := by decide +kernel
theorem qd_X_isOrientedAsDue_9 : decode qc_X_isOrientedAsDue 9 = .ok (.invokevirtual 139, 3) := by decide +kernel
theorem qd_X_isOrientedAsDue_12 : decode qc_X_isOrientedAsDue 12 = .ok (.ifCond .ne 5, 3) := by decide +kernel
theorem qd_X_isOrientedAsDue_15 : decode qc_X_isOrientedAsDue 15 = .ok (.iconst 0, 1) := by decide +kernel
theorem qd_X_isOrientedAsDue_16 : decode qc_X_isOrientedAsDue 16 = .ok (.ireturn, 1) := by decide +kernel
theorem qd_X_isOrientedAsDue_17 : decode qc_X_isOrientedAsDue 17 = .ok (.iconst 0, 1) := by decide +kernel
theorem qd_X_isOrientedAsDue_18 : decode qc_X_isOrientedAsDue 18 = .ok (.istore_n 2, 1) := by decide +kernel
theorem qd_X_isOrientedAsDue_19 : decode qc_X_isOrientedAsDue 19 = .ok (.iload_n 2, 1) := by decide +kernel
theorem qd_X_isOrientedAsDue_20 : decode qc_X_isOrientedAsDue 20 = .ok (.aload_n 0, 1) := by decide +kernel
theorem qd_X_isOrientedAsDue_21 : decode qc_X_isOrientedAsDue 21 = .ok (.getfield 34, 3) := by decide +kernel
theorem qd_X_isOrientedAsDue_24 : decode qc_X_isOrientedAsDue 24 = .ok (.getfield 112, 3) := by decide +kernel
theorem qd_X_isOrientedAsDue_27 : decode qc_X_isOrientedAsDue 27 = .ok (.if_icmp .ge 40, 3) := by decide +kernel
theorem qd_X_isOrientedAsDue_30 : decode qc_X_isOrientedAsDue 30 = .ok (.aload_n 0, 1) := by decide +kernel
theorem qd_X_isOrientedAsDue_31 : decode qc_X_isOrientedAsDue 31 = .ok (.getfield 41, 3) := by decide +kernel
theorem qd_X_isOrientedAsDue_34 : decode qc_X_isOrientedAsDue 34 = .ok (.iload_n 1, 1) := by decide +kernel
theorem qd_X_isOrientedAsDue_35 : decode qc_X_isOrientedAsDue 35 = .ok (.aload_n 0, 1) := by decide +kernel
theorem qd_X_isOrientedAsDue_36 : decode qc_X_isOrientedAsDue 36 = .ok (.getfield 34, 3) := by decide +kernel
theorem qd_X_isOrientedAsDue_39 : decode qc_X_isOrientedAsDue 39 = .ok (.getfield 143, 3) := by decide +kernel
theorem qd_X_isOrientedAsDue_42 : decode qc_X_isOrientedAsDue 42 = .ok (.iload_n 2, 1) := by decide +kernel
theorem qd_X_isOrientedAsDue_43 : decode qc_X_isOrientedAsDue 43 = .ok (.aaload, 1) := by decide +kernel
theorem qd_X_isOrientedAsDue_44 : decode qc_X_isOrientedAsDue 44 = .ok (.aload_n 0, 1) := by decide +kernel
theorem qd_X_isOrientedAsDue_45 : decode qc_X_isOrientedAsDue 45 = .ok (.getfield 34, 3) := by decide +kernel
theorem qd_X_isOrientedAsDue_48 : decode qc_X_isOrientedAsDue 48 = .ok (.getfield 146, 3) := by decide +kernel
theorem qd_X_isOrientedAsDue_51 : decode qc_X_isOrientedAsDue 51 = .ok (.iload_n 2, 1) := by decide +kernel
theorem qd_X_isOrientedAsDue_52 : decode qc_X_isOrientedAsDue 52 = .ok (.aaload, 1) := by decide +kernel
theorem qd_X_isOrientedAsDue_53 : decode qc_X_isOrientedAsDue 53 = .ok (.invokevirtual 131, 3) := by decide +kernel
theorem qd_X_isOrientedAsDue_56 : decode qc_X_isOrientedAsDue 56 = .ok (.ifCond .ne 5, 3) := by decide +kernel
theorem qd_X_isOrientedAsDue_59 : decode qc_X_isOrientedAsDue 59 = .ok (.iconst 0, 1) := by decide +kernel
theorem qd_X_isOrientedAsDue_60 : decode qc_X_isOrientedAsDue 60 = .ok (.ireturn, 1) := by decide +kernel
theorem qd_X_isOrientedAsDue_61 : decode qc_X_isOrientedAsDue 61 = .ok (.iinc 2 1, 3) := by decide +kernel
theorem qd_X_isOrientedAsDue_64 : decode qc_X_isOrientedAsDue 64 = .ok (.goto (-45), 3) := by decide +kernel
theorem qd_X_isOrientedAsDue_67 : decode qc_X_isOrientedAsDue 67 = .ok (.iconst 1, 1) := by decide +kernel
theorem qd_X_isOrientedAsDue_68 : decode qc_X_isOrientedAsDue 68 = .ok (.ireturn, 1) := by decide +kernel
abbrev qc_D_init : ByteArray := prog_2_method_1_code
abbrev qy_D_init : MethodName := ⟨"TermOrders$Draft", "<init>", "(LTermOrders$Symbols;)V"⟩
abbrev qw_D_init : List Cond := (Jvm.Cond.code ({ cls := "TermOrders$Draft", name := "<init>", desc := "(LTermOrders$Symbols;)V" } : Jvm.MethodName) prog_2_method_1_code (2 : Nat) (Option.none : Option Jvm.ClassFile.FieldType)) :: gw
theorem qd_D_init_0 : decode qc_D_init 0 = .ok (.aload_n 0, 1) := by decide +kernel
theorem qd_D_init_1 : decode qc_D_init 1 = .ok (.invokespecial 3, 3) := by decide +kernel
theorem qd_D_init_4 : decode qc_D_init 4 = .ok (.aload_n 0, 1) := by decide +kernel
theorem qd_D_init_5 : decode qc_D_init 5 = .ok (.bipush 16, 2) := by decide +kernel
theorem qd_D_init_7 : decode qc_D_init 7 = .ok (.newarray .int, 2) := by decide +kernel
theorem qd_D_init_9 : decode qc_D_init 9 = .ok (.putfield 9, 3) := by decide +kernel
theorem qd_D_init_12 : decode qc_D_init 12 = .ok (.aload_n 0, 1) := by decide +kernel
theorem qd_D_init_13 : decode qc_D_init 13 = .ok (.bipush 16, 2) := by decide +kernel
theorem qd_D_init_15 : decode qc_D_init 15 = .ok (.newarray .int, 2) := by decide +kernel
theorem qd_D_init_17 : decode qc_D_init 17 = .ok (.putfield 15, 3) := by decide +kernel
theorem qd_D_init_20 : decode qc_D_init 20 = .ok (.aload_n 0, 1) := by decide +kernel
theorem qd_D_init_21 : decode qc_D_init 21 = .ok (.bipush 16, 2) := by decide +kernel
theorem qd_D_init_23 : decode qc_D_init 23 = .ok (.newarray .int, 2) := by decide +kernel
theorem qd_D_init_25 : decode qc_D_init 25 = .ok (.putfield 18, 3) := by decide +kernel
theorem qd_D_init_28 : decode qc_D_init 28 = .ok (.aload_n 0, 1) := by decide +kernel
theorem qd_D_init_29 : decode qc_D_init 29 = .ok (.bipush 16, 2) := by decide +kernel
theorem qd_D_init_31 : decode qc_D_init 31 = .ok (.newarray .int, 2) := by decide +kernel
theorem qd_D_init_33 : decode qc_D_init 33 = .ok (.putfield 21, 3) := by decide +kernel
theorem qd_D_init_36 : decode qc_D_init 36 = .ok (.aload_n 0, 1) := by decide +kernel
theorem qd_D_init_37 : decode qc_D_init 37 = .ok (.iconst 0, 1) := by decide +kernel
theorem qd_D_init_38 : decode qc_D_init 38 = .ok (.putfield 24, 3) := by decide +kernel
theorem qd_D_init_41 : decode qc_D_init 41 = .ok (.aload_n 0, 1) := by decide +kernel
theorem qd_D_init_42 : decode qc_D_init 42 = .ok (.iconst 0, 1) := by decide +kernel
theorem qd_D_init_43 : decode qc_D_init 43 = .ok (.putfield 28, 3) := by decide +kernel
theorem qd_D_init_46 : decode qc_D_init 46 = .ok (.aload_n 0, 1) := by decide +kernel
theorem qd_D_init_47 : decode qc_D_init 47 = .ok (.aload_n 1, 1) := by decide +kernel
theorem qd_D_init_48 : decode qc_D_init 48 = .ok (.putfield 32, 3) := by decide +kernel
theorem qd_D_init_51 : decode qc_D_init 51 = .ok (.return_, 1) := by decide +kernel
abbrev qc_D_clear : ByteArray := prog_2_method_2_code
abbrev qy_D_clear : MethodName := ⟨"TermOrders$Draft", "clear", "()V"⟩
abbrev qw_D_clear : List Cond := (Jvm.Cond.code ({ cls := "TermOrders$Draft", name := "clear", desc := "()V" } : Jvm.MethodName) prog_2_method_2_code (1 : Nat) (Option.none : Option Jvm.ClassFile.FieldType)) :: gw
theorem qd_D_clear_0 : decode qc_D_clear 0 = .ok (.aload_n 0, 1) := by decide +kernel
theorem qd_D_clear_1 : decode qc_D_clear 1 = .ok (.iconst 0, 1) := by decide +kernel
theorem qd_D_clear_2 : decode qc_D_clear 2 = .ok (.putfield 24, 3) := by decide +kernel
theorem qd_D_clear_5 : decode qc_D_clear 5 = .ok (.aload_n 0, 1) := by decide +kernel
theorem qd_D_clear_6 : decode qc_D_clear 6 = .ok (.iconst 0, 1) := by decide +kernel
theorem qd_D_clear_7 : decode qc_D_clear 7 = .ok (.putfield 28, 3) := by decide +kernel
theorem qd_D_clear_10 : decode qc_D_clear 10 = .ok (.return_, 1) := by decide +kernel
abbrev qc_D_writeVariable : ByteArray := prog_2_method_3_code
abbrev qy_D_writeVariable : MethodName := ⟨"TermOrders$Draft", "writeVariable", "(I)V"⟩
abbrev qw_D_writeVariable : List Cond := (Jvm.Cond.code ({ cls := "TermOrders$Draft", name := "writeVariable", desc := "(I)V" } : Jvm.MethodName) prog_2_method_3_code (2 : Nat) (Option.none : Option Jvm.ClassFile.FieldType)) :: gw
theorem qd_D_writeVariable_0 : decode qc_D_writeVariable 0 = .ok (.aload_n 0, 1) := by decide +kernel
theorem qd_D_writeVariable_1 : decode qc_D_writeVariable 1 = .ok (.iconst (-1), 1) := by decide +kernel
theorem qd_D_writeVariable_2 : decode qc_D_writeVariable 2 = .ok (.iload_n 1, 1) := by decide +kernel
theorem qd_D_writeVariable_3 : decode qc_D_writeVariable 3 = .ok (.isub, 1) := by decide +kernel
theorem qd_D_writeVariable_4 : decode qc_D_writeVariable 4 = .ok (.iconst 0, 1) := by decide +kernel
theorem qd_D_writeVariable_5 : decode qc_D_writeVariable 5 = .ok (.invokevirtual 36, 3) := by decide +kernel
theorem qd_D_writeVariable_8 : decode qc_D_writeVariable 8 = .ok (.return_, 1) := by decide +kernel
abbrev qc_D_writeSymbol : ByteArray := prog_2_method_4_code
abbrev qy_D_writeSymbol : MethodName := ⟨"TermOrders$Draft", "writeSymbol", "(I)V"⟩
abbrev qw_D_writeSymbol : List Cond := (Jvm.Cond.code ({ cls := "TermOrders$Draft", name := "writeSymbol", desc := "(I)V" } : Jvm.MethodName) prog_2_method_4_code (2 : Nat) (Option.none : Option Jvm.ClassFile.FieldType)) :: gw
theorem qd_D_writeSymbol_0 : decode qc_D_writeSymbol 0 = .ok (.aload_n 0, 1) := by decide +kernel
theorem qd_D_writeSymbol_1 : decode qc_D_writeSymbol 1 = .ok (.iload_n 1, 1) := by decide +kernel
theorem qd_D_writeSymbol_2 : decode qc_D_writeSymbol 2 = .ok (.aload_n 0, 1) := by decide +kernel
theorem qd_D_writeSymbol_3 : decode qc_D_writeSymbol 3 = .ok (.getfield 32, 3) := by decide +kernel
theorem qd_D_writeSymbol_6 : decode qc_D_writeSymbol 6 = .ok (.getfield 40, 3) := by decide +kernel
theorem qd_D_writeSymbol_9 : decode qc_D_writeSymbol 9 = .ok (.iload_n 1, 1) := by decide +kernel
theorem qd_D_writeSymbol_10 : decode qc_D_writeSymbol 10 = .ok (.iaload, 1) := by decide +kernel
theorem qd_D_writeSymbol_11 : decode qc_D_writeSymbol 11 = .ok (.invokevirtual 36, 3) := by decide +kernel
theorem qd_D_writeSymbol_14 : decode qc_D_writeSymbol 14 = .ok (.return_, 1) := by decide +kernel
abbrev qc_D_write : ByteArray := prog_2_method_5_code
abbrev qy_D_write : MethodName := ⟨"TermOrders$Draft", "write", "(II)V"⟩
abbrev qw_D_write : List Cond := (Jvm.Cond.code ({ cls := "TermOrders$Draft", name := "write", desc := "(II)V" } : Jvm.MethodName) prog_2_method_5_code (3 : Nat) (Option.none : Option Jvm.ClassFile.FieldType)) :: gw
theorem qd_D_write_0 : decode qc_D_write 0 = .ok (.aload_n 0, 1) := by decide +kernel
theorem qd_D_write_1 : decode qc_D_write 1 = .ok (.getfield 24, 3) := by decide +kernel
theorem qd_D_write_4 : decode qc_D_write 4 = .ok (.bipush 16, 2) := by decide +kernel
theorem qd_D_write_6 : decode qc_D_write 6 = .ok (.if_icmp .ne 9, 3) := by decide +kernel
theorem qd_D_write_9 : decode qc_D_write 9 = .ok (.aload_n 0, 1) := by decide +kernel
theorem qd_D_write_10 : decode qc_D_write 10 = .ok (.iconst 1, 1) := by decide +kernel
theorem qd_D_write_11 : decode qc_D_write 11 = .ok (.putfield 28, 3) := by decide +kernel
theorem qd_D_write_14 : decode qc_D_write 14 = .ok (.return_, 1) := by decide +kernel
theorem qd_D_write_15 : decode qc_D_write 15 = .ok (.aload_n 0, 1) := by decide +kernel
theorem qd_D_write_16 : decode qc_D_write 16 = .ok (.getfield 9, 3) := by decide +kernel
theorem qd_D_write_19 : decode qc_D_write 19 = .ok (.aload_n 0, 1) := by decide +kernel
theorem qd_D_write_20 : decode qc_D_write 20 = .ok (.getfield 24, 3) := by decide +kernel
theorem qd_D_write_23 : decode qc_D_write 23 = .ok (.iload_n 1, 1) := by decide +kernel
theorem qd_D_write_24 : decode qc_D_write 24 = .ok (.iastore, 1) := by decide +kernel
theorem qd_D_write_25 : decode qc_D_write 25 = .ok (.aload_n 0, 1) := by decide +kernel
theorem qd_D_write_26 : decode qc_D_write 26 = .ok (.getfield 15, 3) := by decide +kernel
theorem qd_D_write_29 : decode qc_D_write 29 = .ok (.aload_n 0, 1) := by decide +kernel
theorem qd_D_write_30 : decode qc_D_write 30 = .ok (.getfield 24, 3) := by decide +kernel
theorem qd_D_write_33 : decode qc_D_write 33 = .ok (.iload_n 2, 1) := by decide +kernel
theorem qd_D_write_34 : decode qc_D_write 34 = .ok (.iastore, 1) := by decide +kernel
theorem qd_D_write_35 : decode qc_D_write 35 = .ok (.aload_n 0, 1) := by decide +kernel
theorem qd_D_write_36 : decode qc_D_write 36 = .ok (.dup, 1) := by decide +kernel
theorem qd_D_write_37 : decode qc_D_write 37 = .ok (.getfield 24, 3) := by decide +kernel
theorem qd_D_write_40 : decode qc_D_write 40 = .ok (.iconst 1, 1) := by decide +kernel
theorem qd_D_write_41 : decode qc_D_write 41 = .ok (.iadd, 1) := by decide +kernel
theorem qd_D_write_42 : decode qc_D_write 42 = .ok (.putfield 24, 3) := by decide +kernel
theorem qd_D_write_45 : decode qc_D_write 45 = .ok (.return_, 1) := by decide +kernel
abbrev qc_D_copyPlaces : ByteArray := prog_2_method_6_code
abbrev qy_D_copyPlaces : MethodName := ⟨"TermOrders$Draft", "copyPlaces", "(LTermOrders$Term;II)V"⟩
abbrev qw_D_copyPlaces : List Cond := (Jvm.Cond.code ({ cls := "TermOrders$Draft", name := "copyPlaces", desc := "(LTermOrders$Term;II)V" } : Jvm.MethodName) prog_2_method_6_code (5 : Nat) (Option.none : Option Jvm.ClassFile.FieldType)) :: gw
theorem qd_D_copyPlaces_0 : decode qc_D_copyPlaces 0 = .ok (.iload_n 2, 1) := by decide +kernel
theorem qd_D_copyPlaces_1 : decode qc_D_copyPlaces 1 = .ok (.istore 4, 2) := by decide +kernel
theorem qd_D_copyPlaces_3 : decode qc_D_copyPlaces 3 = .ok (.iload 4, 2) := by decide +kernel
theorem qd_D_copyPlaces_5 : decode qc_D_copyPlaces 5 = .ok (.iload_n 3, 1) := by decide +kernel
theorem qd_D_copyPlaces_6 : decode qc_D_copyPlaces 6 = .ok (.if_icmp .ge 27, 3) := by decide +kernel
theorem qd_D_copyPlaces_9 : decode qc_D_copyPlaces 9 = .ok (.aload_n 0, 1) := by decide +kernel
theorem qd_D_copyPlaces_10 : decode qc_D_copyPlaces 10 = .ok (.aload_n 1, 1) := by decide +kernel
theorem qd_D_copyPlaces_11 : decode qc_D_copyPlaces 11 = .ok (.getfield 45, 3) := by decide +kernel
theorem qd_D_copyPlaces_14 : decode qc_D_copyPlaces 14 = .ok (.iload 4, 2) := by decide +kernel
theorem qd_D_copyPlaces_16 : decode qc_D_copyPlaces 16 = .ok (.iaload, 1) := by decide +kernel
theorem qd_D_copyPlaces_17 : decode qc_D_copyPlaces 17 = .ok (.aload_n 1, 1) := by decide +kernel
theorem qd_D_copyPlaces_18 : decode qc_D_copyPlaces 18 = .ok (.getfield 48, 3) := by decide +kernel
theorem qd_D_copyPlaces_21 : decode qc_D_copyPlaces 21 = .ok (.iload 4, 2) := by decide +kernel
theorem qd_D_copyPlaces_23 : decode qc_D_copyPlaces 23 = .ok (.iaload, 1) := by decide +kernel
theorem qd_D_copyPlaces_24 : decode qc_D_copyPlaces 24 = .ok (.invokevirtual 36, 3) := by decide +kernel
theorem qd_D_copyPlaces_27 : decode qc_D_copyPlaces 27 = .ok (.iinc 4 1, 3) := by decide +kernel
theorem qd_D_copyPlaces_30 : decode qc_D_copyPlaces 30 = .ok (.goto (-27), 3) := by decide +kernel
theorem qd_D_copyPlaces_33 : decode qc_D_copyPlaces 33 = .ok (.return_, 1) := by decide +kernel
abbrev qc_D_isWithinLimits : ByteArray := prog_2_method_7_code
abbrev qy_D_isWithinLimits : MethodName := ⟨"TermOrders$Draft", "isWithinLimits", "()Z"⟩
abbrev qw_D_isWithinLimits : List Cond := (Jvm.Cond.code ({ cls := "TermOrders$Draft", name := "isWithinLimits", desc := "()Z" } : Jvm.MethodName) prog_2_method_7_code (2 : Nat) (Option.some Jvm.ClassFile.FieldType.boolean)) :: gw
theorem qd_D_isWithinLimits_0 : decode qc_D_isWithinLimits 0 = .ok (.aload_n 0, 1) := by decide +kernel
theorem qd_D_isWithinLimits_1 : decode qc_D_isWithinLimits 1 = .ok (.getfield 28, 3) := by decide +kernel
theorem qd_D_isWithinLimits_4 : decode qc_D_isWithinLimits 4 = .ok (.ifCond .eq 5, 3) := by decide +kernel
theorem qd_D_isWithinLimits_7 : decode qc_D_isWithinLimits 7 = .ok (.iconst 0, 1) := by decide +kernel
theorem qd_D_isWithinLimits_8 : decode qc_D_isWithinLimits 8 = .ok (.ireturn, 1) := by decide +kernel
theorem qd_D_isWithinLimits_9 : decode qc_D_isWithinLimits 9 = .ok (.aload_n 0, 1) := by decide +kernel
theorem qd_D_isWithinLimits_10 : decode qc_D_isWithinLimits 10 = .ok (.getfield 24, 3) := by decide +kernel
theorem qd_D_isWithinLimits_13 : decode qc_D_isWithinLimits 13 = .ok (.iconst 1, 1) := by decide +kernel
theorem qd_D_isWithinLimits_14 : decode qc_D_isWithinLimits 14 = .ok (.isub, 1) := by decide +kernel
theorem qd_D_isWithinLimits_15 : decode qc_D_isWithinLimits 15 = .ok (.istore_n 1, 1) := by decide +kernel
theorem qd_D_isWithinLimits_16 : decode qc_D_isWithinLimits 16 = .ok (.iload_n 1, 1) := by decide +kernel
theorem qd_D_isWithinLimits_17 : decode qc_D_isWithinLimits 17 = .ok (.ifCond .lt 14, 3) := by decide +kernel
theorem qd_D_isWithinLimits_20 : decode qc_D_isWithinLimits 20 = .ok (.aload_n 0, 1) := by decide +kernel
theorem qd_D_isWithinLimits_21 : decode qc_D_isWithinLimits 21 = .ok (.iload_n 1, 1) := by decide +kernel
theorem qd_D_isWithinLimits_22 : decode qc_D_isWithinLimits 22 = .ok (.invokevirtual 49, 3) := by decide +kernel
theorem qd_D_isWithinLimits_25 : decode qc_D_isWithinLimits 25 = .ok (.iinc 1 (-1), 3) := by decide +kernel
theorem qd_D_isWithinLimits_28 : decode qc_D_isWithinLimits 28 = .ok (.goto (-12), 3) := by decide +kernel
theorem qd_D_isWithinLimits_31 : decode qc_D_isWithinLimits 31 = .ok (.aload_n 0, 1) := by decide +kernel
theorem qd_D_isWithinLimits_32 : decode qc_D_isWithinLimits 32 = .ok (.getfield 21, 3) := by decide +kernel
theorem qd_D_isWithinLimits_35 : decode qc_D_isWithinLimits 35 = .ok (.iconst 0, 1) := by decide +kernel
theorem qd_D_isWithinLimits_36 : decode qc_D_isWithinLimits 36 = .ok (.iaload, 1) := by decide +kernel
theorem qd_D_isWithinLimits_37 : decode qc_D_isWithinLimits 37 = .ok (.iconst 4, 1) := by decide +kernel
theorem qd_D_isWithinLimits_38 : decode qc_D_isWithinLimits 38 = .ok (.if_icmp .gt 7, 3) := by decide +kernel
theorem qd_D_isWithinLimits_41 : decode qc_D_isWithinLimits 41 = .ok (.iconst 1, 1) := by decide +kernel
theorem qd_D_isWithinLimits_42 : decode qc_D_isWithinLimits 42 = .ok (.goto 4, 3) := by decide +kernel
theorem qd_D_isWithinLimits_45 : decode qc_D_isWithinLimits 45 = .ok (.iconst 0, 1) := by decide +kernel
theorem qd_D_isWithinLimits_46 : decode qc_D_isWithinLimits 46 = .ok (.ireturn, 1) := by decide +kernel
abbrev qc_D_measure : ByteArray := prog_2_method_8_code
abbrev qy_D_measure : MethodName := ⟨"TermOrders$Draft", "measure", "(I)V"⟩
abbrev qw_D_measure : List Cond := (Jvm.Cond.code ({ cls := "TermOrders$Draft", name := "measure", desc := "(I)V" } : Jvm.MethodName) prog_2_method_8_code (5 : Nat) (Option.none : Option Jvm.ClassFile.FieldType)) :: gw
theorem qd_D_measure_0 : decode qc_D_measure 0 = .ok (.iload_n 1, 1) := by decide +kernel
theorem qd_D_measure_1 : decode qc_D_measure 1 = .ok (.iconst 1, 1) := by decide +kernel
theorem qd_D_measure_2 : decode qc_D_measure 2 = .ok (.iadd, 1) := by decide +kernel
theorem qd_D_measure_3 : decode qc_D_measure 3 = .ok (.istore_n 2, 1) := by decide +kernel
theorem qd_D_measure_4 : decode qc_D_measure 4 = .ok (.iconst 0, 1) := by decide +kernel
theorem qd_D_measure_5 : decode qc_D_measure 5 = .ok (.istore_n 3, 1) := by decide +kernel
theorem qd_D_measure_6 : decode qc_D_measure 6 = .ok (.iconst 0, 1) := by decide +kernel
theorem qd_D_measure_7 : decode qc_D_measure 7 = .ok (.istore 4, 2) := by decide +kernel
theorem qd_D_measure_9 : decode qc_D_measure 9 = .ok (.iload 4, 2) := by decide +kernel
theorem qd_D_measure_11 : decode qc_D_measure 11 = .ok (.aload_n 0, 1) := by decide +kernel
theorem qd_D_measure_12 : decode qc_D_measure 12 = .ok (.getfield 15, 3) := by decide +kernel
theorem qd_D_measure_15 : decode qc_D_measure 15 = .ok (.iload_n 1, 1) := by decide +kernel
theorem qd_D_measure_16 : decode qc_D_measure 16 = .ok (.iaload, 1) := by decide +kernel
theorem qd_D_measure_17 : decode qc_D_measure 17 = .ok (.if_icmp .ge 37, 3) := by decide +kernel
theorem qd_D_measure_20 : decode qc_D_measure 20 = .ok (.iload_n 2, 1) := by decide +kernel
theorem qd_D_measure_21 : decode qc_D_measure 21 = .ok (.aload_n 0, 1) := by decide +kernel
theorem qd_D_measure_22 : decode qc_D_measure 22 = .ok (.getfield 24, 3) := by decide +kernel
theorem qd_D_measure_25 : decode qc_D_measure 25 = .ok (.if_icmp .ge 29, 3) := by decide +kernel
theorem qd_D_measure_28 : decode qc_D_measure 28 = .ok (.iload_n 3, 1) := by decide +kernel
theorem qd_D_measure_29 : decode qc_D_measure 29 = .ok (.aload_n 0, 1) := by decide +kernel
theorem qd_D_measure_30 : decode qc_D_measure 30 = .ok (.getfield 21, 3) := by decide +kernel
theorem qd_D_measure_33 : decode qc_D_measure 33 = .ok (.iload_n 2, 1) := by decide +kernel
theorem qd_D_measure_34 : decode qc_D_measure 34 = .ok (.iaload, 1) := by decide +kernel
theorem qd_D_measure_35 : decode qc_D_measure 35 = .ok (.iconst 1, 1) := by decide +kernel
theorem qd_D_measure_36 : decode qc_D_measure 36 = .ok (.iadd, 1) := by decide +kernel
theorem qd_D_measure_37 : decode qc_D_measure 37 = .ok (.invokestatic 53, 3) := by decide +kernel
theorem qd_D_measure_40 : decode qc_D_measure 40 = .ok (.istore_n 3, 1) := by decide +kernel
theorem qd_D_measure_41 : decode qc_D_measure 41 = .ok (.aload_n 0, 1) := by decide +kernel
theorem qd_D_measure_42 : decode qc_D_measure 42 = .ok (.getfield 18, 3) := by decide +kernel
theorem qd_D_measure_45 : decode qc_D_measure 45 = .ok (.iload_n 2, 1) := by decide +kernel
theorem qd_D_measure_46 : decode qc_D_measure 46 = .ok (.iaload, 1) := by decide +kernel
theorem qd_D_measure_47 : decode qc_D_measure 47 = .ok (.istore_n 2, 1) := by decide +kernel
theorem qd_D_measure_48 : decode qc_D_measure 48 = .ok (.iinc 4 1, 3) := by decide +kernel
theorem qd_D_measure_51 : decode qc_D_measure 51 = .ok (.goto (-42), 3) := by decide +kernel
theorem qd_D_measure_54 : decode qc_D_measure 54 = .ok (.aload_n 0, 1) := by decide +kernel
theorem qd_D_measure_55 : decode qc_D_measure 55 = .ok (.getfield 21, 3) := by decide +kernel
theorem qd_D_measure_58 : decode qc_D_measure 58 = .ok (.iload_n 1, 1) := by decide +kernel
theorem qd_D_measure_59 : decode qc_D_measure 59 = .ok (.iload_n 3, 1) := by decide +kernel
theorem qd_D_measure_60 : decode qc_D_measure 60 = .ok (.iastore, 1) := by decide +kernel
theorem qd_D_measure_61 : decode qc_D_measure 61 = .ok (.aload_n 0, 1) := by decide +kernel
theorem qd_D_measure_62 : decode qc_D_measure 62 = .ok (.getfield 18, 3) := by decide +kernel
theorem qd_D_measure_65 : decode qc_D_measure 65 = .ok (.iload_n 1, 1) := by decide +kernel
theorem qd_D_measure_66 : decode qc_D_measure 66 = .ok (.iload_n 2, 1) := by decide +kernel
theorem qd_D_measure_67 : decode qc_D_measure 67 = .ok (.iastore, 1) := by decide +kernel
theorem qd_D_measure_68 : decode qc_D_measure 68 = .ok (.return_, 1) := by decide +kernel
abbrev qc_D_toTerm : ByteArray := prog_2_method_9_code
abbrev qy_D_toTerm : MethodName := ⟨"TermOrders$Draft", "toTerm", "()LTermOrders$Term;"⟩
abbrev qw_D_toTerm : List Cond := (Jvm.Cond.code ({ cls := "TermOrders$Draft", name := "toTerm", desc := "()LTermOrders$Term;" } : Jvm.MethodName) prog_2_method_9_code (1 : Nat) (Option.some (Jvm.ClassFile.FieldType.object "TermOrders$Term"))) :: gw
theorem qd_D_toTerm_0 : decode qc_D_toTerm 0 = .ok (.new 46, 3) := by decide +kernel
theorem qd_D_toTerm_3 : decode qc_D_toTerm 3 = .ok (.dup, 1) := by decide +kernel
theorem qd_D_toTerm_4 : decode qc_D_toTerm 4 = .ok (.aload_n 0, 1) := by decide +kernel
theorem qd_D_toTerm_5 : decode qc_D_toTerm 5 = .ok (.getfield 9, 3) := by decide +kernel
theorem qd_D_toTerm_8 : decode qc_D_toTerm 8 = .ok (.aload_n 0, 1) := by decide +kernel
theorem qd_D_toTerm_9 : decode qc_D_toTerm 9 = .ok (.getfield 24, 3) := by decide +kernel
theorem qd_D_toTerm_12 : decode qc_D_toTerm 12 = .ok (.invokestatic 59, 3) := by decide +kernel
theorem qd_D_toTerm_15 : decode qc_D_toTerm 15 = .ok (.aload_n 0, 1) := by decide +kernel
theorem qd_D_toTerm_16 : decode qc_D_toTerm 16 = .ok (.getfield 15, 3) := by decide +kernel
theorem qd_D_toTerm_19 : decode qc_D_toTerm 19 = .ok (.aload_n 0, 1) := by decide +kernel
theorem qd_D_toTerm_20 : decode qc_D_toTerm 20 = .ok (.getfield 24, 3) := by decide +kernel
theorem qd_D_toTerm_23 : decode qc_D_toTerm 23 = .ok (.invokestatic 59, 3) := by decide +kernel
theorem qd_D_toTerm_26 : decode qc_D_toTerm 26 = .ok (.aload_n 0, 1) := by decide +kernel
theorem qd_D_toTerm_27 : decode qc_D_toTerm 27 = .ok (.getfield 18, 3) := by decide +kernel
theorem qd_D_toTerm_30 : decode qc_D_toTerm 30 = .ok (.aload_n 0, 1) := by decide +kernel
theorem qd_D_toTerm_31 : decode qc_D_toTerm 31 = .ok (.getfield 24, 3) := by decide +kernel
theorem qd_D_toTerm_34 : decode qc_D_toTerm 34 = .ok (.invokestatic 59, 3) := by decide +kernel
theorem qd_D_toTerm_37 : decode qc_D_toTerm 37 = .ok (.aload_n 0, 1) := by decide +kernel
theorem qd_D_toTerm_38 : decode qc_D_toTerm 38 = .ok (.getfield 21, 3) := by decide +kernel
theorem qd_D_toTerm_41 : decode qc_D_toTerm 41 = .ok (.iconst 0, 1) := by decide +kernel
theorem qd_D_toTerm_42 : decode qc_D_toTerm 42 = .ok (.iaload, 1) := by decide +kernel
theorem qd_D_toTerm_43 : decode qc_D_toTerm 43 = .ok (.invokespecial 65, 3) := by decide +kernel
theorem qd_D_toTerm_46 : decode qc_D_toTerm 46 = .ok (.areturn, 1) := by decide +kernel
abbrev qc_O_init : ByteArray := prog_3_method_1_code
abbrev qy_O_init : MethodName := ⟨"TermOrders$Orders", "<init>", "(LTermOrders$Symbols;)V"⟩
abbrev qw_O_init : List Cond := (Jvm.Cond.code ({ cls := "TermOrders$Orders", name := "<init>", desc := "(LTermOrders$Symbols;)V" } : Jvm.MethodName) prog_3_method_1_code (2 : Nat) (Option.none : Option Jvm.ClassFile.FieldType)) :: gw
theorem qd_O_init_0 : decode qc_O_init 0 = .ok (.aload_n 0, 1) := by decide +kernel
theorem qd_O_init_1 : decode qc_O_init 1 = .ok (.invokespecial 3, 3) := by decide +kernel
theorem qd_O_init_4 : decode qc_O_init 4 = .ok (.aload_n 0, 1) := by decide +kernel
theorem qd_O_init_5 : decode qc_O_init 5 = .ok (.sipush 256, 3) := by decide +kernel
theorem qd_O_init_8 : decode qc_O_init 8 = .ok (.newarray .boolean, 2) := by decide +kernel
theorem qd_O_init_10 : decode qc_O_init 10 = .ok (.putfield 9, 3) := by decide +kernel
theorem qd_O_init_13 : decode qc_O_init 13 = .ok (.aload_n 0, 1) := by decide +kernel
theorem qd_O_init_14 : decode qc_O_init 14 = .ok (.aload_n 1, 1) := by decide +kernel
theorem qd_O_init_15 : decode qc_O_init 15 = .ok (.putfield 15, 3) := by decide +kernel
theorem qd_O_init_18 : decode qc_O_init 18 = .ok (.return_, 1) := by decide +kernel
abbrev qc_O_isGreater : ByteArray := prog_3_method_2_code
abbrev qy_O_isGreater : MethodName := ⟨"TermOrders$Orders", "isGreater", "(ILTermOrders$Term;LTermOrders$Term;)Z"⟩
abbrev qw_O_isGreater : List Cond := (Jvm.Cond.code ({ cls := "TermOrders$Orders", name := "isGreater", desc := "(ILTermOrders$Term;LTermOrders$Term;)Z" } : Jvm.MethodName) prog_3_method_2_code (4 : Nat) (Option.some Jvm.ClassFile.FieldType.boolean)) :: gw
theorem qd_O_isGreater_0 : decode qc_O_isGreater 0 = .ok (.iload_n 1, 1) := by decide +kernel
theorem qd_O_isGreater_1 : decode qc_O_isGreater 1 = .ok (.ifCond .ne 12, 3) := by decide +kernel
theorem qd_O_isGreater_4 : decode qc_O_isGreater 4 = .ok (.aload_n 0, 1) := by decide +kernel
theorem qd_O_isGreater_5 : decode qc_O_isGreater 5 = .ok (.aload_n 2, 1) := by decide +kernel
theorem qd_O_isGreater_6 : decode qc_O_isGreater 6 = .ok (.aload_n 3, 1) := by decide +kernel
theorem qd_O_isGreater_7 : decode qc_O_isGreater 7 = .ok (.invokevirtual 19, 3) := by decide +kernel
theorem qd_O_isGreater_10 : decode qc_O_isGreater 10 = .ok (.goto 9, 3) := by decide +kernel
theorem qd_O_isGreater_13 : decode qc_O_isGreater 13 = .ok (.aload_n 0, 1) := by decide +kernel
theorem qd_O_isGreater_14 : decode qc_O_isGreater 14 = .ok (.aload_n 2, 1) := by decide +kernel
theorem qd_O_isGreater_15 : decode qc_O_isGreater 15 = .ok (.aload_n 3, 1) := by decide +kernel
theorem qd_O_isGreater_16 : decode qc_O_isGreater 16 = .ok (.invokevirtual 23, 3) := by decide +kernel
theorem qd_O_isGreater_19 : decode qc_O_isGreater 19 = .ok (.ireturn, 1) := by decide +kernel
abbrev qc_O_isGreaterByPaths : ByteArray := prog_3_method_3_code
abbrev qy_O_isGreaterByPaths : MethodName := ⟨"TermOrders$Orders", "isGreaterByPaths", "(LTermOrders$Term;LTermOrders$Term;)Z"⟩
abbrev qw_O_isGreaterByPaths : List Cond := (Jvm.Cond.code ({ cls := "TermOrders$Orders", name := "isGreaterByPaths", desc := "(LTermOrders$Term;LTermOrders$Term;)Z" } : Jvm.MethodName) prog_3_method_3_code (5 : Nat) (Option.some Jvm.ClassFile.FieldType.boolean)) :: gw
theorem qd_O_isGreaterByPaths_0 : decode qc_O_isGreaterByPaths 0 = .ok (.aload_n 1, 1) := by decide +kernel
theorem qd_O_isGreaterByPaths_1 : decode qc_O_isGreaterByPaths 1 = .ok (.getfield 26, 3) := by decide +kernel
theorem qd_O_isGreaterByPaths_4 : decode qc_O_isGreaterByPaths 4 = .ok (.iconst 1, 1) := by decide +kernel
theorem qd_O_isGreaterByPaths_5 : decode qc_O_isGreaterByPaths 5 = .ok (.isub, 1) := by decide +kernel
theorem qd_O_isGreaterByPaths_6 : decode qc_O_isGreaterByPaths 6 = .ok (.istore_n 3, 1) := by decide +kernel
theorem qd_O_isGreaterByPaths_7 : decode qc_O_isGreaterByPaths 7 = .ok (.iload_n 3, 1) := by decide +kernel
theorem qd_O_isGreaterByPaths_8 : decode qc_O_isGreaterByPaths 8 = .ok (.ifCond .lt 49, 3) := by decide +kernel
theorem qd_O_isGreaterByPaths_11 : decode qc_O_isGreaterByPaths 11 = .ok (.aload_n 2, 1) := by decide +kernel
theorem qd_O_isGreaterByPaths_12 : decode qc_O_isGreaterByPaths 12 = .ok (.getfield 26, 3) := by decide +kernel
theorem qd_O_isGreaterByPaths_15 : decode qc_O_isGreaterByPaths 15 = .ok (.iconst 1, 1) := by decide +kernel
theorem qd_O_isGreaterByPaths_16 : decode qc_O_isGreaterByPaths 16 = .ok (.isub, 1) := by decide +kernel
theorem qd_O_isGreaterByPaths_17 : decode qc_O_isGreaterByPaths 17 = .ok (.istore 4, 2) := by decide +kernel
theorem qd_O_isGreaterByPaths_19 : decode qc_O_isGreaterByPaths 19 = .ok (.iload 4, 2) := by decide +kernel
theorem qd_O_isGreaterByPaths_21 : decode qc_O_isGreaterByPaths 21 = .ok (.ifCond .lt 30, 3) := by decide +kernel
theorem qd_O_isGreaterByPaths_24 : decode qc_O_isGreaterByPaths 24 = .ok (.aload_n 0, 1) := by decide +kernel
theorem qd_O_isGreaterByPaths_25 : decode qc_O_isGreaterByPaths 25 = .ok (.getfield 9, 3) := by decide +kernel
theorem qd_O_isGreaterByPaths_28 : decode qc_O_isGreaterByPaths 28 = .ok (.iload_n 3, 1) := by decide +kernel
theorem qd_O_isGreaterByPaths_29 : decode qc_O_isGreaterByPaths 29 = .ok (.bipush 16, 2) := by decide +kernel
theorem qd_O_isGreaterByPaths_31 : decode qc_O_isGreaterByPaths 31 = .ok (.imul, 1) := by decide +kernel
theorem qd_O_isGreaterByPaths_32 : decode qc_O_isGreaterByPaths 32 = .ok (.iload 4, 2) := by decide +kernel
theorem qd_O_isGreaterByPaths_34 : decode qc_O_isGreaterByPaths 34 = .ok (.iadd, 1) := by decide +kernel
theorem qd_O_isGreaterByPaths_35 : decode qc_O_isGreaterByPaths 35 = .ok (.aload_n 0, 1) := by decide +kernel
theorem qd_O_isGreaterByPaths_36 : decode qc_O_isGreaterByPaths 36 = .ok (.aload_n 1, 1) := by decide +kernel
theorem qd_O_isGreaterByPaths_37 : decode qc_O_isGreaterByPaths 37 = .ok (.iload_n 3, 1) := by decide +kernel
theorem qd_O_isGreaterByPaths_38 : decode qc_O_isGreaterByPaths 38 = .ok (.aload_n 2, 1) := by decide +kernel
theorem qd_O_isGreaterByPaths_39 : decode qc_O_isGreaterByPaths 39 = .ok (.iload 4, 2) := by decide +kernel
theorem qd_O_isGreaterByPaths_41 : decode qc_O_isGreaterByPaths 41 = .ok (.invokevirtual 32, 3) := by decide +kernel
theorem qd_O_isGreaterByPaths_44 : decode qc_O_isGreaterByPaths 44 = .ok (.bastore, 1) := by decide +kernel
theorem qd_O_isGreaterByPaths_45 : decode qc_O_isGreaterByPaths 45 = .ok (.iinc 4 (-1), 3) := by decide +kernel
theorem qd_O_isGreaterByPaths_48 : decode qc_O_isGreaterByPaths 48 = .ok (.goto (-29), 3) := by decide +kernel
theorem qd_O_isGreaterByPaths_51 : decode qc_O_isGreaterByPaths 51 = .ok (.iinc 3 (-1), 3) := by decide +kernel
theorem qd_O_isGreaterByPaths_54 : decode qc_O_isGreaterByPaths 54 = .ok (.goto (-47), 3) := by decide +kernel
theorem qd_O_isGreaterByPaths_57 : decode qc_O_isGreaterByPaths 57 = .ok (.aload_n 0, 1) := by decide +kernel
theorem qd_O_isGreaterByPaths_58 : decode qc_O_isGreaterByPaths 58 = .ok (.getfield 9, 3) := by decide +kernel
theorem qd_O_isGreaterByPaths_61 : decode qc_O_isGreaterByPaths 61 = .ok (.iconst 0, 1) := by decide +kernel
theorem qd_O_isGreaterByPaths_62 : decode qc_O_isGreaterByPaths 62 = .ok (.baload, 1) := by decide +kernel
theorem qd_O_isGreaterByPaths_63 : decode qc_O_isGreaterByPaths 63 = .ok (.ireturn, 1) := by decide +kernel
abbrev qc_O_isPlaceGreaterByPaths : ByteArray := prog_3_method_4_code
abbrev qy_O_isPlaceGreaterByPaths : MethodName := ⟨"TermOrders$Orders", "isPlaceGreaterByPaths", "(LTermOrders$Term;ILTermOrders$Term;I)Z"⟩
abbrev qw_O_isPlaceGreaterByPaths : List Cond := (Jvm.Cond.code ({ cls := "TermOrders$Orders", name := "isPlaceGreaterByPaths", desc := "(LTermOrders$Term;ILTermOrders$Term;I)Z" } : Jvm.MethodName) prog_3_method_4_code (6 : Nat) (Option.some Jvm.ClassFile.FieldType.boolean)) :: gw
theorem qd_O_isPlaceGreaterByPaths_0 : decode qc_O_isPlaceGreaterByPaths 0 = .ok (.aload_n 0, 1) := by decide +kernel
theorem qd_O_isPlaceGreaterByPaths_1 : decode qc_O_isPlaceGreaterByPaths 1 = .ok (.aload_n 1, 1) := by decide +kernel
theorem qd_O_isPlaceGreaterByPaths_2 : decode qc_O_isPlaceGreaterByPaths 2 = .ok (.iload_n 2, 1) := by decide +kernel
theorem qd_O_isPlaceGreaterByPaths_3 : decode qc_O_isPlaceGreaterByPaths 3 = .ok (.aload_n 3, 1) := by decide +kernel
theorem qd_O_isPlaceGreaterByPaths_4 : decode qc_O_isPlaceGreaterByPaths 4 = .ok (.iload 4, 2) := by decide +kernel
theorem qd_O_isPlaceGreaterByPaths_6 : decode qc_O_isPlaceGreaterByPaths 6 = .ok (.invokevirtual 36, 3) := by decide +kernel
theorem qd_O_isPlaceGreaterByPaths_9 : decode qc_O_isPlaceGreaterByPaths 9 = .ok (.ifCond .eq 5, 3) := by decide +kernel
theorem qd_O_isPlaceGreaterByPaths_12 : decode qc_O_isPlaceGreaterByPaths 12 = .ok (.iconst 1, 1) := by decide +kernel
theorem qd_O_isPlaceGreaterByPaths_13 : decode qc_O_isPlaceGreaterByPaths 13 = .ok (.ireturn, 1) := by decide +kernel
theorem qd_O_isPlaceGreaterByPaths_14 : decode qc_O_isPlaceGreaterByPaths 14 = .ok (.aload_n 1, 1) := by decide +kernel
theorem qd_O_isPlaceGreaterByPaths_15 : decode qc_O_isPlaceGreaterByPaths 15 = .ok (.iload_n 2, 1) := by decide +kernel
theorem qd_O_isPlaceGreaterByPaths_16 : decode qc_O_isPlaceGreaterByPaths 16 = .ok (.invokevirtual 39, 3) := by decide +kernel
theorem qd_O_isPlaceGreaterByPaths_19 : decode qc_O_isPlaceGreaterByPaths 19 = .ok (.ifCond .ne 23, 3) := by decide +kernel
theorem qd_O_isPlaceGreaterByPaths_22 : decode qc_O_isPlaceGreaterByPaths 22 = .ok (.aload_n 3, 1) := by decide +kernel
theorem qd_O_isPlaceGreaterByPaths_23 : decode qc_O_isPlaceGreaterByPaths 23 = .ok (.iload 4, 2) := by decide +kernel
theorem qd_O_isPlaceGreaterByPaths_25 : decode qc_O_isPlaceGreaterByPaths 25 = .ok (.invokevirtual 39, 3) := by decide +kernel
theorem qd_O_isPlaceGreaterByPaths_28 : decode qc_O_isPlaceGreaterByPaths 28 = .ok (.ifCond .ne 14, 3) := by decide +kernel
theorem qd_O_isPlaceGreaterByPaths_31 : decode qc_O_isPlaceGreaterByPaths 31 = .ok (.aload_n 0, 1) := by decide +kernel
theorem qd_O_isPlaceGreaterByPaths_32 : decode qc_O_isPlaceGreaterByPaths 32 = .ok (.iload_n 2, 1) := by decide +kernel
theorem qd_O_isPlaceGreaterByPaths_33 : decode qc_O_isPlaceGreaterByPaths 33 = .ok (.aload_n 3, 1) := by decide +kernel
theorem qd_O_isPlaceGreaterByPaths_34 : decode qc_O_isPlaceGreaterByPaths 34 = .ok (.iload 4, 2) := by decide +kernel
theorem qd_O_isPlaceGreaterByPaths_36 : decode qc_O_isPlaceGreaterByPaths 36 = .ok (.invokevirtual 43, 3) := by decide +kernel
theorem qd_O_isPlaceGreaterByPaths_39 : decode qc_O_isPlaceGreaterByPaths 39 = .ok (.ifCond .ne 5, 3) := by decide +kernel
theorem qd_O_isPlaceGreaterByPaths_42 : decode qc_O_isPlaceGreaterByPaths 42 = .ok (.iconst 0, 1) := by decide +kernel
theorem qd_O_isPlaceGreaterByPaths_43 : decode qc_O_isPlaceGreaterByPaths 43 = .ok (.ireturn, 1) := by decide +kernel
theorem qd_O_isPlaceGreaterByPaths_44 : decode qc_O_isPlaceGreaterByPaths 44 = .ok (.aload_n 1, 1) := by decide +kernel
theorem qd_O_isPlaceGreaterByPaths_45 : decode qc_O_isPlaceGreaterByPaths 45 = .ok (.getfield 47, 3) := by decide +kernel
theorem qd_O_isPlaceGreaterByPaths_48 : decode qc_O_isPlaceGreaterByPaths 48 = .ok (.iload_n 2, 1) := by decide +kernel
theorem qd_O_isPlaceGreaterByPaths_49 : decode qc_O_isPlaceGreaterByPaths 49 = .ok (.iaload, 1) := by decide +kernel
theorem qd_O_isPlaceGreaterByPaths_50 : decode qc_O_isPlaceGreaterByPaths 50 = .ok (.aload_n 3, 1) := by decide +kernel
theorem qd_O_isPlaceGreaterByPaths_51 : decode qc_O_isPlaceGreaterByPaths 51 = .ok (.getfield 47, 3) := by decide +kernel
theorem qd_O_isPlaceGreaterByPaths_54 : decode qc_O_isPlaceGreaterByPaths 54 = .ok (.iload 4, 2) := by decide +kernel
theorem qd_O_isPlaceGreaterByPaths_56 : decode qc_O_isPlaceGreaterByPaths 56 = .ok (.iaload, 1) := by decide +kernel
theorem qd_O_isPlaceGreaterByPaths_57 : decode qc_O_isPlaceGreaterByPaths 57 = .ok (.if_icmp .eq 24, 3) := by decide +kernel
theorem qd_O_isPlaceGreaterByPaths_60 : decode qc_O_isPlaceGreaterByPaths 60 = .ok (.aload_n 0, 1) := by decide +kernel
theorem qd_O_isPlaceGreaterByPaths_61 : decode qc_O_isPlaceGreaterByPaths 61 = .ok (.getfield 15, 3) := by decide +kernel
theorem qd_O_isPlaceGreaterByPaths_64 : decode qc_O_isPlaceGreaterByPaths 64 = .ok (.aload_n 1, 1) := by decide +kernel
theorem qd_O_isPlaceGreaterByPaths_65 : decode qc_O_isPlaceGreaterByPaths 65 = .ok (.getfield 47, 3) := by decide +kernel
theorem qd_O_isPlaceGreaterByPaths_68 : decode qc_O_isPlaceGreaterByPaths 68 = .ok (.iload_n 2, 1) := by decide +kernel
theorem qd_O_isPlaceGreaterByPaths_69 : decode qc_O_isPlaceGreaterByPaths 69 = .ok (.iaload, 1) := by decide +kernel
theorem qd_O_isPlaceGreaterByPaths_70 : decode qc_O_isPlaceGreaterByPaths 70 = .ok (.aload_n 3, 1) := by decide +kernel
theorem qd_O_isPlaceGreaterByPaths_71 : decode qc_O_isPlaceGreaterByPaths 71 = .ok (.getfield 47, 3) := by decide +kernel
theorem qd_O_isPlaceGreaterByPaths_74 : decode qc_O_isPlaceGreaterByPaths 74 = .ok (.iload 4, 2) := by decide +kernel
theorem qd_O_isPlaceGreaterByPaths_76 : decode qc_O_isPlaceGreaterByPaths 76 = .ok (.iaload, 1) := by decide +kernel
theorem qd_O_isPlaceGreaterByPaths_77 : decode qc_O_isPlaceGreaterByPaths 77 = .ok (.invokevirtual 51, 3) := by decide +kernel
theorem qd_O_isPlaceGreaterByPaths_80 : decode qc_O_isPlaceGreaterByPaths 80 = .ok (.ireturn, 1) := by decide +kernel
theorem qd_O_isPlaceGreaterByPaths_81 : decode qc_O_isPlaceGreaterByPaths 81 = .ok (.aload_n 1, 1) := by decide +kernel
theorem qd_O_isPlaceGreaterByPaths_82 : decode qc_O_isPlaceGreaterByPaths 82 = .ok (.iload_n 2, 1) := by decide +kernel
theorem qd_O_isPlaceGreaterByPaths_83 : decode qc_O_isPlaceGreaterByPaths 83 = .ok (.aload_n 3, 1) := by decide +kernel
theorem qd_O_isPlaceGreaterByPaths_84 : decode qc_O_isPlaceGreaterByPaths 84 = .ok (.iload 4, 2) := by decide +kernel
theorem qd_O_isPlaceGreaterByPaths_86 : decode qc_O_isPlaceGreaterByPaths 86 = .ok (.invokevirtual 57, 3) := by decide +kernel
theorem qd_O_isPlaceGreaterByPaths_89 : decode qc_O_isPlaceGreaterByPaths 89 = .ok (.istore 5, 2) := by decide +kernel
theorem qd_O_isPlaceGreaterByPaths_91 : decode qc_O_isPlaceGreaterByPaths 91 = .ok (.iload 5, 2) := by decide +kernel
theorem qd_O_isPlaceGreaterByPaths_93 : decode qc_O_isPlaceGreaterByPaths 93 = .ok (.iconst (-1), 1) := by decide +kernel
theorem qd_O_isPlaceGreaterByPaths_94 : decode qc_O_isPlaceGreaterByPaths 94 = .ok (.if_icmp .eq 34, 3) := by decide +kernel
theorem qd_O_isPlaceGreaterByPaths_97 : decode qc_O_isPlaceGreaterByPaths 97 = .ok (.aload_n 0, 1) := by decide +kernel
theorem qd_O_isPlaceGreaterByPaths_98 : decode qc_O_isPlaceGreaterByPaths 98 = .ok (.getfield 9, 3) := by decide +kernel
theorem qd_O_isPlaceGreaterByPaths_101 : decode qc_O_isPlaceGreaterByPaths 101 = .ok (.aload_n 1, 1) := by decide +kernel
theorem qd_O_isPlaceGreaterByPaths_102 : decode qc_O_isPlaceGreaterByPaths 102 = .ok (.iload_n 2, 1) := by decide +kernel
theorem qd_O_isPlaceGreaterByPaths_103 : decode qc_O_isPlaceGreaterByPaths 103 = .ok (.iload 5, 2) := by decide +kernel
theorem qd_O_isPlaceGreaterByPaths_105 : decode qc_O_isPlaceGreaterByPaths 105 = .ok (.invokevirtual 61, 3) := by decide +kernel
theorem qd_O_isPlaceGreaterByPaths_108 : decode qc_O_isPlaceGreaterByPaths 108 = .ok (.bipush 16, 2) := by decide +kernel
theorem qd_O_isPlaceGreaterByPaths_110 : decode qc_O_isPlaceGreaterByPaths 110 = .ok (.imul, 1) := by decide +kernel
theorem qd_O_isPlaceGreaterByPaths_111 : decode qc_O_isPlaceGreaterByPaths 111 = .ok (.aload_n 3, 1) := by decide +kernel
theorem qd_O_isPlaceGreaterByPaths_112 : decode qc_O_isPlaceGreaterByPaths 112 = .ok (.iload 4, 2) := by decide +kernel
theorem qd_O_isPlaceGreaterByPaths_114 : decode qc_O_isPlaceGreaterByPaths 114 = .ok (.iload 5, 2) := by decide +kernel
theorem qd_O_isPlaceGreaterByPaths_116 : decode qc_O_isPlaceGreaterByPaths 116 = .ok (.invokevirtual 61, 3) := by decide +kernel
theorem qd_O_isPlaceGreaterByPaths_119 : decode qc_O_isPlaceGreaterByPaths 119 = .ok (.iadd, 1) := by decide +kernel
theorem qd_O_isPlaceGreaterByPaths_120 : decode qc_O_isPlaceGreaterByPaths 120 = .ok (.baload, 1) := by decide +kernel
theorem qd_O_isPlaceGreaterByPaths_121 : decode qc_O_isPlaceGreaterByPaths 121 = .ok (.ifCond .eq 7, 3) := by decide +kernel
theorem qd_O_isPlaceGreaterByPaths_124 : decode qc_O_isPlaceGreaterByPaths 124 = .ok (.iconst 1, 1) := by decide +kernel
theorem qd_O_isPlaceGreaterByPaths_125 : decode qc_O_isPlaceGreaterByPaths 125 = .ok (.goto 4, 3) := by decide +kernel
theorem qd_O_isPlaceGreaterByPaths_128 : decode qc_O_isPlaceGreaterByPaths 128 = .ok (.iconst 0, 1) := by decide +kernel
theorem qd_O_isPlaceGreaterByPaths_129 : decode qc_O_isPlaceGreaterByPaths 129 = .ok (.ireturn, 1) := by decide +kernel
abbrev qc_O_hasPartNotBelow : ByteArray := prog_3_method_5_code
abbrev qy_O_hasPartNotBelow : MethodName := ⟨"TermOrders$Orders", "hasPartNotBelow", "(LTermOrders$Term;ILTermOrders$Term;I)Z"⟩
abbrev qw_O_hasPartNotBelow : List Cond := (Jvm.Cond.code ({ cls := "TermOrders$Orders", name := "hasPartNotBelow", desc := "(LTermOrders$Term;ILTermOrders$Term;I)Z" } : Jvm.MethodName) prog_3_method_5_code (7 : Nat) (Option.some Jvm.ClassFile.FieldType.boolean)) :: gw
theorem qd_O_hasPartNotBelow_0 : decode qc_O_hasPartNotBelow 0 = .ok (.iconst 0, 1) := by decide +kernel
theorem qd_O_hasPartNotBelow_1 : decode qc_O_hasPartNotBelow 1 = .ok (.istore 5, 2) := by decide +kernel
theorem qd_O_hasPartNotBelow_3 : decode qc_O_hasPartNotBelow 3 = .ok (.iload 5, 2) := by decide +kernel
theorem qd_O_hasPartNotBelow_5 : decode qc_O_hasPartNotBelow 5 = .ok (.aload_n 1, 1) := by decide +kernel
theorem qd_O_hasPartNotBelow_6 : decode qc_O_hasPartNotBelow 6 = .ok (.getfield 65, 3) := by decide +kernel
theorem qd_O_hasPartNotBelow_9 : decode qc_O_hasPartNotBelow 9 = .ok (.iload_n 2, 1) := by decide +kernel
theorem qd_O_hasPartNotBelow_10 : decode qc_O_hasPartNotBelow 10 = .ok (.iaload, 1) := by decide +kernel
theorem qd_O_hasPartNotBelow_11 : decode qc_O_hasPartNotBelow 11 = .ok (.if_icmp .ge 48, 3) := by decide +kernel
theorem qd_O_hasPartNotBelow_14 : decode qc_O_hasPartNotBelow 14 = .ok (.aload_n 1, 1) := by decide +kernel
theorem qd_O_hasPartNotBelow_15 : decode qc_O_hasPartNotBelow 15 = .ok (.iload_n 2, 1) := by decide +kernel
theorem qd_O_hasPartNotBelow_16 : decode qc_O_hasPartNotBelow 16 = .ok (.iload 5, 2) := by decide +kernel
theorem qd_O_hasPartNotBelow_18 : decode qc_O_hasPartNotBelow 18 = .ok (.invokevirtual 61, 3) := by decide +kernel
theorem qd_O_hasPartNotBelow_21 : decode qc_O_hasPartNotBelow 21 = .ok (.istore 6, 2) := by decide +kernel
theorem qd_O_hasPartNotBelow_23 : decode qc_O_hasPartNotBelow 23 = .ok (.aload_n 0, 1) := by decide +kernel
theorem qd_O_hasPartNotBelow_24 : decode qc_O_hasPartNotBelow 24 = .ok (.getfield 9, 3) := by decide +kernel
theorem qd_O_hasPartNotBelow_27 : decode qc_O_hasPartNotBelow 27 = .ok (.iload 6, 2) := by decide +kernel
theorem qd_O_hasPartNotBelow_29 : decode qc_O_hasPartNotBelow 29 = .ok (.bipush 16, 2) := by decide +kernel
theorem qd_O_hasPartNotBelow_31 : decode qc_O_hasPartNotBelow 31 = .ok (.imul, 1) := by decide +kernel
theorem qd_O_hasPartNotBelow_32 : decode qc_O_hasPartNotBelow 32 = .ok (.iload 4, 2) := by decide +kernel
theorem qd_O_hasPartNotBelow_34 : decode qc_O_hasPartNotBelow 34 = .ok (.iadd, 1) := by decide +kernel
theorem qd_O_hasPartNotBelow_35 : decode qc_O_hasPartNotBelow 35 = .ok (.baload, 1) := by decide +kernel
theorem qd_O_hasPartNotBelow_36 : decode qc_O_hasPartNotBelow 36 = .ok (.ifCond .ne 15, 3) := by decide +kernel
theorem qd_O_hasPartNotBelow_39 : decode qc_O_hasPartNotBelow 39 = .ok (.aload_n 1, 1) := by decide +kernel
theorem qd_O_hasPartNotBelow_40 : decode qc_O_hasPartNotBelow 40 = .ok (.iload 6, 2) := by decide +kernel
theorem qd_O_hasPartNotBelow_42 : decode qc_O_hasPartNotBelow 42 = .ok (.aload_n 3, 1) := by decide +kernel
theorem qd_O_hasPartNotBelow_43 : decode qc_O_hasPartNotBelow 43 = .ok (.iload 4, 2) := by decide +kernel
theorem qd_O_hasPartNotBelow_45 : decode qc_O_hasPartNotBelow 45 = .ok (.invokevirtual 68, 3) := by decide +kernel
theorem qd_O_hasPartNotBelow_48 : decode qc_O_hasPartNotBelow 48 = .ok (.ifCond .eq 5, 3) := by decide +kernel
theorem qd_O_hasPartNotBelow_51 : decode qc_O_hasPartNotBelow 51 = .ok (.iconst 1, 1) := by decide +kernel
theorem qd_O_hasPartNotBelow_52 : decode qc_O_hasPartNotBelow 52 = .ok (.ireturn, 1) := by decide +kernel
theorem qd_O_hasPartNotBelow_53 : decode qc_O_hasPartNotBelow 53 = .ok (.iinc 5 1, 3) := by decide +kernel
theorem qd_O_hasPartNotBelow_56 : decode qc_O_hasPartNotBelow 56 = .ok (.goto (-53), 3) := by decide +kernel
theorem qd_O_hasPartNotBelow_59 : decode qc_O_hasPartNotBelow 59 = .ok (.iconst 0, 1) := by decide +kernel
theorem qd_O_hasPartNotBelow_60 : decode qc_O_hasPartNotBelow 60 = .ok (.ireturn, 1) := by decide +kernel
abbrev qc_O_isGreaterThanParts : ByteArray := prog_3_method_6_code
abbrev qy_O_isGreaterThanParts : MethodName := ⟨"TermOrders$Orders", "isGreaterThanParts", "(ILTermOrders$Term;I)Z"⟩
abbrev qw_O_isGreaterThanParts : List Cond := (Jvm.Cond.code ({ cls := "TermOrders$Orders", name := "isGreaterThanParts", desc := "(ILTermOrders$Term;I)Z" } : Jvm.MethodName) prog_3_method_6_code (5 : Nat) (Option.some Jvm.ClassFile.FieldType.boolean)) :: gw
theorem qd_O_isGreaterThanParts_0 : decode qc_O_isGreaterThanParts 0 = .ok (.iconst 0, 1) := by decide +kernel
theorem qd_O_isGreaterThanParts_1 : decode qc_O_isGreaterThanParts 1 = .ok (.istore 4, 2) := by decide +kernel
theorem qd_O_isGreaterThanParts_3 : decode qc_O_isGreaterThanParts 3 = .ok (.iload 4, 2) := by decide +kernel
theorem qd_O_isGreaterThanParts_5 : decode qc_O_isGreaterThanParts 5 = .ok (.aload_n 2, 1) := by decide +kernel
theorem qd_O_isGreaterThanParts_6 : decode qc_O_isGreaterThanParts 6 = .ok (.getfield 65, 3) := by decide +kernel
theorem qd_O_isGreaterThanParts_9 : decode qc_O_isGreaterThanParts 9 = .ok (.iload_n 3, 1) := by decide +kernel
theorem qd_O_isGreaterThanParts_10 : decode qc_O_isGreaterThanParts 10 = .ok (.iaload, 1) := by decide +kernel
theorem qd_O_isGreaterThanParts_11 : decode qc_O_isGreaterThanParts 11 = .ok (.if_icmp .ge 31, 3) := by decide +kernel
theorem qd_O_isGreaterThanParts_14 : decode qc_O_isGreaterThanParts 14 = .ok (.aload_n 0, 1) := by decide +kernel
theorem qd_O_isGreaterThanParts_15 : decode qc_O_isGreaterThanParts 15 = .ok (.getfield 9, 3) := by decide +kernel
theorem qd_O_isGreaterThanParts_18 : decode qc_O_isGreaterThanParts 18 = .ok (.iload_n 1, 1) := by decide +kernel
theorem qd_O_isGreaterThanParts_19 : decode qc_O_isGreaterThanParts 19 = .ok (.bipush 16, 2) := by decide +kernel
theorem qd_O_isGreaterThanParts_21 : decode qc_O_isGreaterThanParts 21 = .ok (.imul, 1) := by decide +kernel
theorem qd_O_isGreaterThanParts_22 : decode qc_O_isGreaterThanParts 22 = .ok (.aload_n 2, 1) := by decide +kernel
theorem qd_O_isGreaterThanParts_23 : decode qc_O_isGreaterThanParts 23 = .ok (.iload_n 3, 1) := by decide +kernel
theorem qd_O_isGreaterThanParts_24 : decode qc_O_isGreaterThanParts 24 = .ok (.iload 4, 2) := by decide +kernel
theorem qd_O_isGreaterThanParts_26 : decode qc_O_isGreaterThanParts 26 = .ok (.invokevirtual 61, 3) := by decide +kernel
theorem qd_O_isGreaterThanParts_29 : decode qc_O_isGreaterThanParts 29 = .ok (.iadd, 1) := by decide +kernel
theorem qd_O_isGreaterThanParts_30 : decode qc_O_isGreaterThanParts 30 = .ok (.baload, 1) := by decide +kernel
theorem qd_O_isGreaterThanParts_31 : decode qc_O_isGreaterThanParts 31 = .ok (.ifCond .ne 5, 3) := by decide +kernel
theorem qd_O_isGreaterThanParts_34 : decode qc_O_isGreaterThanParts 34 = .ok (.iconst 0, 1) := by decide +kernel
theorem qd_O_isGreaterThanParts_35 : decode qc_O_isGreaterThanParts 35 = .ok (.ireturn, 1) := by decide +kernel
theorem qd_O_isGreaterThanParts_36 : decode qc_O_isGreaterThanParts 36 = .ok (.iinc 4 1, 3) := by decide +kernel
theorem qd_O_isGreaterThanParts_39 : decode qc_O_isGreaterThanParts 39 = .ok (.goto (-36), 3) := by decide +kernel
theorem qd_O_isGreaterThanParts_42 : decode qc_O_isGreaterThanParts 42 = .ok (.iconst 1, 1) := by decide +kernel
theorem qd_O_isGreaterThanParts_43 : decode qc_O_isGreaterThanParts 43 = .ok (.ireturn, 1) := by decide +kernel
abbrev qc_O_isGreaterByWeights : ByteArray := prog_3_method_7_code
abbrev qy_O_isGreaterByWeights : MethodName := ⟨"TermOrders$Orders", "isGreaterByWeights", "(LTermOrders$Term;LTermOrders$Term;)Z"⟩
abbrev qw_O_isGreaterByWeights : List Cond := (Jvm.Cond.code ({ cls := "TermOrders$Orders", name := "isGreaterByWeights", desc := "(LTermOrders$Term;LTermOrders$Term;)Z" } : Jvm.MethodName) prog_3_method_7_code (9 : Nat) (Option.some Jvm.ClassFile.FieldType.boolean)) :: gw
theorem qd_O_isGreaterByWeights_0 : decode qc_O_isGreaterByWeights 0 = .ok (.iconst 0, 1) := by decide +kernel
theorem qd_O_isGreaterByWeights_1 : decode qc_O_isGreaterByWeights 1 = .ok (.istore_n 3, 1) := by decide +kernel
theorem qd_O_isGreaterByWeights_2 : decode qc_O_isGreaterByWeights 2 = .ok (.iconst 0, 1) := by decide +kernel
theorem qd_O_isGreaterByWeights_3 : decode qc_O_isGreaterByWeights 3 = .ok (.istore 4, 2) := by decide +kernel
theorem qd_O_isGreaterByWeights_5 : decode qc_O_isGreaterByWeights 5 = .ok (.iconst 0, 1) := by decide +kernel
theorem qd_O_isGreaterByWeights_6 : decode qc_O_isGreaterByWeights 6 = .ok (.istore 5, 2) := by decide +kernel
theorem qd_O_isGreaterByWeights_8 : decode qc_O_isGreaterByWeights 8 = .ok (.iload 5, 2) := by decide +kernel
theorem qd_O_isGreaterByWeights_10 : decode qc_O_isGreaterByWeights 10 = .ok (.iconst 4, 1) := by decide +kernel
theorem qd_O_isGreaterByWeights_11 : decode qc_O_isGreaterByWeights 11 = .ok (.if_icmp .gt 170, 3) := by decide +kernel
theorem qd_O_isGreaterByWeights_14 : decode qc_O_isGreaterByWeights 14 = .ok (.aload_n 1, 1) := by decide +kernel
theorem qd_O_isGreaterByWeights_15 : decode qc_O_isGreaterByWeights 15 = .ok (.iload_n 3, 1) := by decide +kernel
theorem qd_O_isGreaterByWeights_16 : decode qc_O_isGreaterByWeights 16 = .ok (.aload_n 2, 1) := by decide +kernel
theorem qd_O_isGreaterByWeights_17 : decode qc_O_isGreaterByWeights 17 = .ok (.iload 4, 2) := by decide +kernel
theorem qd_O_isGreaterByWeights_19 : decode qc_O_isGreaterByWeights 19 = .ok (.invokevirtual 71, 3) := by decide +kernel
theorem qd_O_isGreaterByWeights_22 : decode qc_O_isGreaterByWeights 22 = .ok (.ifCond .ne 5, 3) := by decide +kernel
theorem qd_O_isGreaterByWeights_25 : decode qc_O_isGreaterByWeights 25 = .ok (.iconst 0, 1) := by decide +kernel
theorem qd_O_isGreaterByWeights_26 : decode qc_O_isGreaterByWeights 26 = .ok (.ireturn, 1) := by decide +kernel
theorem qd_O_isGreaterByWeights_27 : decode qc_O_isGreaterByWeights 27 = .ok (.aload_n 0, 1) := by decide +kernel
theorem qd_O_isGreaterByWeights_28 : decode qc_O_isGreaterByWeights 28 = .ok (.getfield 15, 3) := by decide +kernel
theorem qd_O_isGreaterByWeights_31 : decode qc_O_isGreaterByWeights 31 = .ok (.aload_n 1, 1) := by decide +kernel
theorem qd_O_isGreaterByWeights_32 : decode qc_O_isGreaterByWeights 32 = .ok (.iload_n 3, 1) := by decide +kernel
theorem qd_O_isGreaterByWeights_33 : decode qc_O_isGreaterByWeights 33 = .ok (.invokevirtual 74, 3) := by decide +kernel
theorem qd_O_isGreaterByWeights_36 : decode qc_O_isGreaterByWeights 36 = .ok (.istore 6, 2) := by decide +kernel
theorem qd_O_isGreaterByWeights_38 : decode qc_O_isGreaterByWeights 38 = .ok (.aload_n 0, 1) := by decide +kernel
theorem qd_O_isGreaterByWeights_39 : decode qc_O_isGreaterByWeights 39 = .ok (.getfield 15, 3) := by decide +kernel
theorem qd_O_isGreaterByWeights_42 : decode qc_O_isGreaterByWeights 42 = .ok (.aload_n 2, 1) := by decide +kernel
theorem qd_O_isGreaterByWeights_43 : decode qc_O_isGreaterByWeights 43 = .ok (.iload 4, 2) := by decide +kernel
theorem qd_O_isGreaterByWeights_45 : decode qc_O_isGreaterByWeights 45 = .ok (.invokevirtual 74, 3) := by decide +kernel
theorem qd_O_isGreaterByWeights_48 : decode qc_O_isGreaterByWeights 48 = .ok (.istore 7, 2) := by decide +kernel
theorem qd_O_isGreaterByWeights_50 : decode qc_O_isGreaterByWeights 50 = .ok (.iload 6, 2) := by decide +kernel
theorem qd_O_isGreaterByWeights_52 : decode qc_O_isGreaterByWeights 52 = .ok (.iload 7, 2) := by decide +kernel
theorem qd_O_isGreaterByWeights_54 : decode qc_O_isGreaterByWeights 54 = .ok (.if_icmp .eq 16, 3) := by decide +kernel
theorem qd_O_isGreaterByWeights_57 : decode qc_O_isGreaterByWeights 57 = .ok (.iload 6, 2) := by decide +kernel
theorem qd_O_isGreaterByWeights_59 : decode qc_O_isGreaterByWeights 59 = .ok (.iload 7, 2) := by decide +kernel
theorem qd_O_isGreaterByWeights_61 : decode qc_O_isGreaterByWeights 61 = .ok (.if_icmp .le 7, 3) := by decide +kernel
theorem qd_O_isGreaterByWeights_64 : decode qc_O_isGreaterByWeights 64 = .ok (.iconst 1, 1) := by decide +kernel
theorem qd_O_isGreaterByWeights_65 : decode qc_O_isGreaterByWeights 65 = .ok (.goto 4, 3) := by decide +kernel
theorem qd_O_isGreaterByWeights_68 : decode qc_O_isGreaterByWeights 68 = .ok (.iconst 0, 1) := by decide +kernel
theorem qd_O_isGreaterByWeights_69 : decode qc_O_isGreaterByWeights 69 = .ok (.ireturn, 1) := by decide +kernel
theorem qd_O_isGreaterByWeights_70 : decode qc_O_isGreaterByWeights 70 = .ok (.aload_n 2, 1) := by decide +kernel
theorem qd_O_isGreaterByWeights_71 : decode qc_O_isGreaterByWeights 71 = .ok (.iload 4, 2) := by decide +kernel
theorem qd_O_isGreaterByWeights_73 : decode qc_O_isGreaterByWeights 73 = .ok (.invokevirtual 39, 3) := by decide +kernel
theorem qd_O_isGreaterByWeights_76 : decode qc_O_isGreaterByWeights 76 = .ok (.ifCond .eq 16, 3) := by decide +kernel
theorem qd_O_isGreaterByWeights_79 : decode qc_O_isGreaterByWeights 79 = .ok (.aload_n 1, 1) := by decide +kernel
theorem qd_O_isGreaterByWeights_80 : decode qc_O_isGreaterByWeights 80 = .ok (.iload_n 3, 1) := by decide +kernel
theorem qd_O_isGreaterByWeights_81 : decode qc_O_isGreaterByWeights 81 = .ok (.aload_n 2, 1) := by decide +kernel
theorem qd_O_isGreaterByWeights_82 : decode qc_O_isGreaterByWeights 82 = .ok (.getfield 47, 3) := by decide +kernel
theorem qd_O_isGreaterByWeights_85 : decode qc_O_isGreaterByWeights 85 = .ok (.iload 4, 2) := by decide +kernel
theorem qd_O_isGreaterByWeights_87 : decode qc_O_isGreaterByWeights 87 = .ok (.iaload, 1) := by decide +kernel
theorem qd_O_isGreaterByWeights_88 : decode qc_O_isGreaterByWeights 88 = .ok (.invokevirtual 78, 3) := by decide +kernel
theorem qd_O_isGreaterByWeights_91 : decode qc_O_isGreaterByWeights 91 = .ok (.ireturn, 1) := by decide +kernel
theorem qd_O_isGreaterByWeights_92 : decode qc_O_isGreaterByWeights 92 = .ok (.aload_n 1, 1) := by decide +kernel
theorem qd_O_isGreaterByWeights_93 : decode qc_O_isGreaterByWeights 93 = .ok (.iload_n 3, 1) := by decide +kernel
theorem qd_O_isGreaterByWeights_94 : decode qc_O_isGreaterByWeights 94 = .ok (.invokevirtual 39, 3) := by decide +kernel
theorem qd_O_isGreaterByWeights_97 : decode qc_O_isGreaterByWeights 97 = .ok (.ifCond .eq 5, 3) := by decide +kernel
theorem qd_O_isGreaterByWeights_100 : decode qc_O_isGreaterByWeights 100 = .ok (.iconst 0, 1) := by decide +kernel
theorem qd_O_isGreaterByWeights_101 : decode qc_O_isGreaterByWeights 101 = .ok (.ireturn, 1) := by decide +kernel
theorem qd_O_isGreaterByWeights_102 : decode qc_O_isGreaterByWeights 102 = .ok (.aload_n 1, 1) := by decide +kernel
theorem qd_O_isGreaterByWeights_103 : decode qc_O_isGreaterByWeights 103 = .ok (.getfield 47, 3) := by decide +kernel
theorem qd_O_isGreaterByWeights_106 : decode qc_O_isGreaterByWeights 106 = .ok (.iload_n 3, 1) := by decide +kernel
theorem qd_O_isGreaterByWeights_107 : decode qc_O_isGreaterByWeights 107 = .ok (.iaload, 1) := by decide +kernel
theorem qd_O_isGreaterByWeights_108 : decode qc_O_isGreaterByWeights 108 = .ok (.aload_n 2, 1) := by decide +kernel
theorem qd_O_isGreaterByWeights_109 : decode qc_O_isGreaterByWeights 109 = .ok (.getfield 47, 3) := by decide +kernel
theorem qd_O_isGreaterByWeights_112 : decode qc_O_isGreaterByWeights 112 = .ok (.iload 4, 2) := by decide +kernel
theorem qd_O_isGreaterByWeights_114 : decode qc_O_isGreaterByWeights 114 = .ok (.iaload, 1) := by decide +kernel
theorem qd_O_isGreaterByWeights_115 : decode qc_O_isGreaterByWeights 115 = .ok (.if_icmp .eq 24, 3) := by decide +kernel
theorem qd_O_isGreaterByWeights_118 : decode qc_O_isGreaterByWeights 118 = .ok (.aload_n 0, 1) := by decide +kernel
theorem qd_O_isGreaterByWeights_119 : decode qc_O_isGreaterByWeights 119 = .ok (.getfield 15, 3) := by decide +kernel
theorem qd_O_isGreaterByWeights_122 : decode qc_O_isGreaterByWeights 122 = .ok (.aload_n 1, 1) := by decide +kernel
theorem qd_O_isGreaterByWeights_123 : decode qc_O_isGreaterByWeights 123 = .ok (.getfield 47, 3) := by decide +kernel
theorem qd_O_isGreaterByWeights_126 : decode qc_O_isGreaterByWeights 126 = .ok (.iload_n 3, 1) := by decide +kernel
theorem qd_O_isGreaterByWeights_127 : decode qc_O_isGreaterByWeights 127 = .ok (.iaload, 1) := by decide +kernel
theorem qd_O_isGreaterByWeights_128 : decode qc_O_isGreaterByWeights 128 = .ok (.aload_n 2, 1) := by decide +kernel
theorem qd_O_isGreaterByWeights_129 : decode qc_O_isGreaterByWeights 129 = .ok (.getfield 47, 3) := by decide +kernel
theorem qd_O_isGreaterByWeights_132 : decode qc_O_isGreaterByWeights 132 = .ok (.iload 4, 2) := by decide +kernel
theorem qd_O_isGreaterByWeights_134 : decode qc_O_isGreaterByWeights 134 = .ok (.iaload, 1) := by decide +kernel
theorem qd_O_isGreaterByWeights_135 : decode qc_O_isGreaterByWeights 135 = .ok (.invokevirtual 51, 3) := by decide +kernel
theorem qd_O_isGreaterByWeights_138 : decode qc_O_isGreaterByWeights 138 = .ok (.ireturn, 1) := by decide +kernel
theorem qd_O_isGreaterByWeights_139 : decode qc_O_isGreaterByWeights 139 = .ok (.aload_n 1, 1) := by decide +kernel
theorem qd_O_isGreaterByWeights_140 : decode qc_O_isGreaterByWeights 140 = .ok (.iload_n 3, 1) := by decide +kernel
theorem qd_O_isGreaterByWeights_141 : decode qc_O_isGreaterByWeights 141 = .ok (.aload_n 2, 1) := by decide +kernel
theorem qd_O_isGreaterByWeights_142 : decode qc_O_isGreaterByWeights 142 = .ok (.iload 4, 2) := by decide +kernel
theorem qd_O_isGreaterByWeights_144 : decode qc_O_isGreaterByWeights 144 = .ok (.invokevirtual 57, 3) := by decide +kernel
theorem qd_O_isGreaterByWeights_147 : decode qc_O_isGreaterByWeights 147 = .ok (.istore 8, 2) := by decide +kernel
theorem qd_O_isGreaterByWeights_149 : decode qc_O_isGreaterByWeights 149 = .ok (.iload 8, 2) := by decide +kernel
theorem qd_O_isGreaterByWeights_151 : decode qc_O_isGreaterByWeights 151 = .ok (.iconst (-1), 1) := by decide +kernel
theorem qd_O_isGreaterByWeights_152 : decode qc_O_isGreaterByWeights 152 = .ok (.if_icmp .ne 5, 3) := by decide +kernel
theorem qd_O_isGreaterByWeights_155 : decode qc_O_isGreaterByWeights 155 = .ok (.iconst 0, 1) := by decide +kernel
theorem qd_O_isGreaterByWeights_156 : decode qc_O_isGreaterByWeights 156 = .ok (.ireturn, 1) := by decide +kernel
theorem qd_O_isGreaterByWeights_157 : decode qc_O_isGreaterByWeights 157 = .ok (.aload_n 1, 1) := by decide +kernel
theorem qd_O_isGreaterByWeights_158 : decode qc_O_isGreaterByWeights 158 = .ok (.iload_n 3, 1) := by decide +kernel
theorem qd_O_isGreaterByWeights_159 : decode qc_O_isGreaterByWeights 159 = .ok (.iload 8, 2) := by decide +kernel
theorem qd_O_isGreaterByWeights_161 : decode qc_O_isGreaterByWeights 161 = .ok (.invokevirtual 61, 3) := by decide +kernel
theorem qd_O_isGreaterByWeights_164 : decode qc_O_isGreaterByWeights 164 = .ok (.istore_n 3, 1) := by decide +kernel
theorem qd_O_isGreaterByWeights_165 : decode qc_O_isGreaterByWeights 165 = .ok (.aload_n 2, 1) := by decide +kernel
theorem qd_O_isGreaterByWeights_166 : decode qc_O_isGreaterByWeights 166 = .ok (.iload 4, 2) := by decide +kernel
theorem qd_O_isGreaterByWeights_168 : decode qc_O_isGreaterByWeights 168 = .ok (.iload 8, 2) := by decide +kernel
theorem qd_O_isGreaterByWeights_170 : decode qc_O_isGreaterByWeights 170 = .ok (.invokevirtual 61, 3) := by decide +kernel
theorem qd_O_isGreaterByWeights_173 : decode qc_O_isGreaterByWeights 173 = .ok (.istore 4, 2) := by decide +kernel
theorem qd_O_isGreaterByWeights_175 : decode qc_O_isGreaterByWeights 175 = .ok (.iinc 5 1, 3) := by decide +kernel
theorem qd_O_isGreaterByWeights_178 : decode qc_O_isGreaterByWeights 178 = .ok (.goto (-170), 3) := by decide +kernel
theorem qd_O_isGreaterByWeights_181 : decode qc_O_isGreaterByWeights 181 = .ok (.iconst 0, 1) := by decide +kernel
theorem qd_O_isGreaterByWeights_182 : decode qc_O_isGreaterByWeights 182 = .ok (.ireturn, 1) := by decide +kernel
abbrev qc_R_init : ByteArray := prog_4_method_1_code
abbrev qy_R_init : MethodName := ⟨"TermOrders$Rules", "<init>", "()V"⟩
abbrev qw_R_init : List Cond := (Jvm.Cond.code ({ cls := "TermOrders$Rules", name := "<init>", desc := "()V" } : Jvm.MethodName) prog_4_method_1_code (1 : Nat) (Option.none : Option Jvm.ClassFile.FieldType)) :: gw
theorem qd_R_init_0 : decode qc_R_init 0 = .ok (.aload_n 0, 1) := by decide +kernel
theorem qd_R_init_1 : decode qc_R_init 1 = .ok (.invokespecial 3, 3) := by decide +kernel
theorem qd_R_init_4 : decode qc_R_init 4 = .ok (.aload_n 0, 1) := by decide +kernel
theorem qd_R_init_5 : decode qc_R_init 5 = .ok (.bipush 8, 2) := by decide +kernel
theorem qd_R_init_7 : decode qc_R_init 7 = .ok (.anewarray 9, 3) := by decide +kernel
theorem qd_R_init_10 : decode qc_R_init 10 = .ok (.putfield 11, 3) := by decide +kernel
theorem qd_R_init_13 : decode qc_R_init 13 = .ok (.aload_n 0, 1) := by decide +kernel
theorem qd_R_init_14 : decode qc_R_init 14 = .ok (.bipush 8, 2) := by decide +kernel
theorem qd_R_init_16 : decode qc_R_init 16 = .ok (.anewarray 9, 3) := by decide +kernel
theorem qd_R_init_19 : decode qc_R_init 19 = .ok (.putfield 17, 3) := by decide +kernel
theorem qd_R_init_22 : decode qc_R_init 22 = .ok (.aload_n 0, 1) := by decide +kernel
theorem qd_R_init_23 : decode qc_R_init 23 = .ok (.iconst 4, 1) := by decide +kernel
theorem qd_R_init_24 : decode qc_R_init 24 = .ok (.newarray .int, 2) := by decide +kernel
theorem qd_R_init_26 : decode qc_R_init 26 = .ok (.putfield 20, 3) := by decide +kernel
theorem qd_R_init_29 : decode qc_R_init 29 = .ok (.aload_n 0, 1) := by decide +kernel
theorem qd_R_init_30 : decode qc_R_init 30 = .ok (.iconst 0, 1) := by decide +kernel
theorem qd_R_init_31 : decode qc_R_init 31 = .ok (.putfield 24, 3) := by decide +kernel
theorem qd_R_init_34 : decode qc_R_init 34 = .ok (.return_, 1) := by decide +kernel
abbrev qc_R_add : ByteArray := prog_4_method_2_code
abbrev qy_R_add : MethodName := ⟨"TermOrders$Rules", "add", "(LTermOrders$Term;LTermOrders$Term;)I"⟩
abbrev qw_R_add : List Cond := (Jvm.Cond.code ({ cls := "TermOrders$Rules", name := "add", desc := "(LTermOrders$Term;LTermOrders$Term;)I" } : Jvm.MethodName) prog_4_method_2_code (3 : Nat) (Option.some Jvm.ClassFile.FieldType.int)) :: gw
theorem qd_R_add_0 : decode qc_R_add 0 = .ok (.aload_n 0, 1) := by decide +kernel
theorem qd_R_add_1 : decode qc_R_add 1 = .ok (.getfield 11, 3) := by decide +kernel
theorem qd_R_add_4 : decode qc_R_add 4 = .ok (.aload_n 0, 1) := by decide +kernel
theorem qd_R_add_5 : decode qc_R_add 5 = .ok (.getfield 24, 3) := by decide +kernel
theorem qd_R_add_8 : decode qc_R_add 8 = .ok (.aload_n 1, 1) := by decide +kernel
theorem qd_R_add_9 : decode qc_R_add 9 = .ok (.aastore, 1) := by decide +kernel
theorem qd_R_add_10 : decode qc_R_add 10 = .ok (.aload_n 0, 1) := by decide +kernel
theorem qd_R_add_11 : decode qc_R_add 11 = .ok (.getfield 17, 3) := by decide +kernel
theorem qd_R_add_14 : decode qc_R_add 14 = .ok (.aload_n 0, 1) := by decide +kernel
theorem qd_R_add_15 : decode qc_R_add 15 = .ok (.getfield 24, 3) := by decide +kernel
theorem qd_R_add_18 : decode qc_R_add 18 = .ok (.aload_n 2, 1) := by decide +kernel
theorem qd_R_add_19 : decode qc_R_add 19 = .ok (.aastore, 1) := by decide +kernel
theorem qd_R_add_20 : decode qc_R_add 20 = .ok (.aload_n 0, 1) := by decide +kernel
theorem qd_R_add_21 : decode qc_R_add 21 = .ok (.dup, 1) := by decide +kernel
theorem qd_R_add_22 : decode qc_R_add 22 = .ok (.getfield 24, 3) := by decide +kernel
theorem qd_R_add_25 : decode qc_R_add 25 = .ok (.iconst 1, 1) := by decide +kernel
theorem qd_R_add_26 : decode qc_R_add 26 = .ok (.iadd, 1) := by decide +kernel
theorem qd_R_add_27 : decode qc_R_add 27 = .ok (.putfield 24, 3) := by decide +kernel
theorem qd_R_add_30 : decode qc_R_add 30 = .ok (.aload_n 0, 1) := by decide +kernel
theorem qd_R_add_31 : decode qc_R_add 31 = .ok (.getfield 24, 3) := by decide +kernel
theorem qd_R_add_34 : decode qc_R_add 34 = .ok (.iconst 1, 1) := by decide +kernel
theorem qd_R_add_35 : decode qc_R_add 35 = .ok (.isub, 1) := by decide +kernel
theorem qd_R_add_36 : decode qc_R_add 36 = .ok (.ireturn, 1) := by decide +kernel
abbrev qc_R_firstInnermostPlace : ByteArray := prog_4_method_3_code
abbrev qy_R_firstInnermostPlace : MethodName := ⟨"TermOrders$Rules", "firstInnermostPlace", "(LTermOrders$Term;)I"⟩
abbrev qw_R_firstInnermostPlace : List Cond := (Jvm.Cond.code ({ cls := "TermOrders$Rules", name := "firstInnermostPlace", desc := "(LTermOrders$Term;)I" } : Jvm.MethodName) prog_4_method_3_code (5 : Nat) (Option.some Jvm.ClassFile.FieldType.int)) :: gw
theorem qd_R_firstInnermostPlace_0 : decode qc_R_firstInnermostPlace 0 = .ok (.iconst (-1), 1) := by decide +kernel
theorem qd_R_firstInnermostPlace_1 : decode qc_R_firstInnermostPlace 1 = .ok (.istore_n 2, 1) := by decide +kernel
theorem qd_R_firstInnermostPlace_2 : decode qc_R_firstInnermostPlace 2 = .ok (.aload_n 1, 1) := by decide +kernel
theorem qd_R_firstInnermostPlace_3 : decode qc_R_firstInnermostPlace 3 = .ok (.getfield 28, 3) := by decide +kernel
theorem qd_R_firstInnermostPlace_6 : decode qc_R_firstInnermostPlace 6 = .ok (.istore_n 3, 1) := by decide +kernel
theorem qd_R_firstInnermostPlace_7 : decode qc_R_firstInnermostPlace 7 = .ok (.iconst 0, 1) := by decide +kernel
theorem qd_R_firstInnermostPlace_8 : decode qc_R_firstInnermostPlace 8 = .ok (.istore 4, 2) := by decide +kernel
theorem qd_R_firstInnermostPlace_10 : decode qc_R_firstInnermostPlace 10 = .ok (.iload 4, 2) := by decide +kernel
theorem qd_R_firstInnermostPlace_12 : decode qc_R_firstInnermostPlace 12 = .ok (.aload_n 1, 1) := by decide +kernel
theorem qd_R_firstInnermostPlace_13 : decode qc_R_firstInnermostPlace 13 = .ok (.getfield 28, 3) := by decide +kernel
theorem qd_R_firstInnermostPlace_16 : decode qc_R_firstInnermostPlace 16 = .ok (.if_icmp .ge 37, 3) := by decide +kernel
theorem qd_R_firstInnermostPlace_19 : decode qc_R_firstInnermostPlace 19 = .ok (.iload 4, 2) := by decide +kernel
theorem qd_R_firstInnermostPlace_21 : decode qc_R_firstInnermostPlace 21 = .ok (.iload_n 3, 1) := by decide +kernel
theorem qd_R_firstInnermostPlace_22 : decode qc_R_firstInnermostPlace 22 = .ok (.if_icmp .ge 31, 3) := by decide +kernel
theorem qd_R_firstInnermostPlace_25 : decode qc_R_firstInnermostPlace 25 = .ok (.aload_n 0, 1) := by decide +kernel
theorem qd_R_firstInnermostPlace_26 : decode qc_R_firstInnermostPlace 26 = .ok (.aload_n 1, 1) := by decide +kernel
theorem qd_R_firstInnermostPlace_27 : decode qc_R_firstInnermostPlace 27 = .ok (.iload 4, 2) := by decide +kernel
theorem qd_R_firstInnermostPlace_29 : decode qc_R_firstInnermostPlace 29 = .ok (.invokevirtual 31, 3) := by decide +kernel
theorem qd_R_firstInnermostPlace_32 : decode qc_R_firstInnermostPlace 32 = .ok (.iconst (-1), 1) := by decide +kernel
theorem qd_R_firstInnermostPlace_33 : decode qc_R_firstInnermostPlace 33 = .ok (.if_icmp .eq 14, 3) := by decide +kernel
theorem qd_R_firstInnermostPlace_36 : decode qc_R_firstInnermostPlace 36 = .ok (.iload 4, 2) := by decide +kernel
theorem qd_R_firstInnermostPlace_38 : decode qc_R_firstInnermostPlace 38 = .ok (.istore_n 2, 1) := by decide +kernel
theorem qd_R_firstInnermostPlace_39 : decode qc_R_firstInnermostPlace 39 = .ok (.aload_n 1, 1) := by decide +kernel
theorem qd_R_firstInnermostPlace_40 : decode qc_R_firstInnermostPlace 40 = .ok (.getfield 35, 3) := by decide +kernel
theorem qd_R_firstInnermostPlace_43 : decode qc_R_firstInnermostPlace 43 = .ok (.iload 4, 2) := by decide +kernel
theorem qd_R_firstInnermostPlace_45 : decode qc_R_firstInnermostPlace 45 = .ok (.iaload, 1) := by decide +kernel
theorem qd_R_firstInnermostPlace_46 : decode qc_R_firstInnermostPlace 46 = .ok (.istore_n 3, 1) := by decide +kernel
theorem qd_R_firstInnermostPlace_47 : decode qc_R_firstInnermostPlace 47 = .ok (.iinc 4 1, 3) := by decide +kernel
theorem qd_R_firstInnermostPlace_50 : decode qc_R_firstInnermostPlace 50 = .ok (.goto (-40), 3) := by decide +kernel
theorem qd_R_firstInnermostPlace_53 : decode qc_R_firstInnermostPlace 53 = .ok (.iload_n 2, 1) := by decide +kernel
theorem qd_R_firstInnermostPlace_54 : decode qc_R_firstInnermostPlace 54 = .ok (.ireturn, 1) := by decide +kernel
abbrev qc_R_leastMatchingRule : ByteArray := prog_4_method_4_code
abbrev qy_R_leastMatchingRule : MethodName := ⟨"TermOrders$Rules", "leastMatchingRule", "(LTermOrders$Term;I)I"⟩
abbrev qw_R_leastMatchingRule : List Cond := (Jvm.Cond.code ({ cls := "TermOrders$Rules", name := "leastMatchingRule", desc := "(LTermOrders$Term;I)I" } : Jvm.MethodName) prog_4_method_4_code (4 : Nat) (Option.some Jvm.ClassFile.FieldType.int)) :: gw
theorem qd_R_leastMatchingRule_0 : decode qc_R_leastMatchingRule 0 = .ok (.iconst 0, 1) := by decide +kernel
theorem qd_R_leastMatchingRule_1 : decode qc_R_leastMatchingRule 1 = .ok (.istore_n 3, 1) := by decide +kernel
theorem qd_R_leastMatchingRule_2 : decode qc_R_leastMatchingRule 2 = .ok (.iload_n 3, 1) := by decide +kernel
theorem qd_R_leastMatchingRule_3 : decode qc_R_leastMatchingRule 3 = .ok (.aload_n 0, 1) := by decide +kernel
theorem qd_R_leastMatchingRule_4 : decode qc_R_leastMatchingRule 4 = .ok (.getfield 24, 3) := by decide +kernel
theorem qd_R_leastMatchingRule_7 : decode qc_R_leastMatchingRule 7 = .ok (.if_icmp .ge 26, 3) := by decide +kernel
theorem qd_R_leastMatchingRule_10 : decode qc_R_leastMatchingRule 10 = .ok (.aload_n 0, 1) := by decide +kernel
theorem qd_R_leastMatchingRule_11 : decode qc_R_leastMatchingRule 11 = .ok (.aload_n 0, 1) := by decide +kernel
theorem qd_R_leastMatchingRule_12 : decode qc_R_leastMatchingRule 12 = .ok (.getfield 11, 3) := by decide +kernel
theorem qd_R_leastMatchingRule_15 : decode qc_R_leastMatchingRule 15 = .ok (.iload_n 3, 1) := by decide +kernel
theorem qd_R_leastMatchingRule_16 : decode qc_R_leastMatchingRule 16 = .ok (.aaload, 1) := by decide +kernel
theorem qd_R_leastMatchingRule_17 : decode qc_R_leastMatchingRule 17 = .ok (.aload_n 1, 1) := by decide +kernel
theorem qd_R_leastMatchingRule_18 : decode qc_R_leastMatchingRule 18 = .ok (.iload_n 2, 1) := by decide +kernel
theorem qd_R_leastMatchingRule_19 : decode qc_R_leastMatchingRule 19 = .ok (.invokevirtual 38, 3) := by decide +kernel
theorem qd_R_leastMatchingRule_22 : decode qc_R_leastMatchingRule 22 = .ok (.ifCond .eq 5, 3) := by decide +kernel
theorem qd_R_leastMatchingRule_25 : decode qc_R_leastMatchingRule 25 = .ok (.iload_n 3, 1) := by decide +kernel
theorem qd_R_leastMatchingRule_26 : decode qc_R_leastMatchingRule 26 = .ok (.ireturn, 1) := by decide +kernel
theorem qd_R_leastMatchingRule_27 : decode qc_R_leastMatchingRule 27 = .ok (.iinc 3 1, 3) := by decide +kernel
theorem qd_R_leastMatchingRule_30 : decode qc_R_leastMatchingRule 30 = .ok (.goto (-28), 3) := by decide +kernel
theorem qd_R_leastMatchingRule_33 : decode qc_R_leastMatchingRule 33 = .ok (.iconst (-1), 1) := by decide +kernel
theorem qd_R_leastMatchingRule_34 : decode qc_R_leastMatchingRule 34 = .ok (.ireturn, 1) := by decide +kernel
abbrev qc_R_bindMatch : ByteArray := prog_4_method_5_code
abbrev qy_R_bindMatch : MethodName := ⟨"TermOrders$Rules", "bindMatch", "(LTermOrders$Term;LTermOrders$Term;I)Z"⟩
abbrev qw_R_bindMatch : List Cond := (Jvm.Cond.code ({ cls := "TermOrders$Rules", name := "bindMatch", desc := "(LTermOrders$Term;LTermOrders$Term;I)Z" } : Jvm.MethodName) prog_4_method_5_code (6 : Nat) (Option.some Jvm.ClassFile.FieldType.boolean)) :: gw
theorem qd_R_bindMatch_0 : decode qc_R_bindMatch 0 = .ok (.aload_n 0, 1) := by decide +kernel
theorem qd_R_bindMatch_1 : decode qc_R_bindMatch 1 = .ok (.getfield 20, 3) := by decide +kernel
theorem qd_R_bindMatch_4 : decode qc_R_bindMatch 4 = .ok (.iconst (-1), 1) := by decide +kernel
theorem qd_R_bindMatch_5 : decode qc_R_bindMatch 5 = .ok (.invokestatic 42, 3) := by decide +kernel
theorem qd_R_bindMatch_8 : decode qc_R_bindMatch 8 = .ok (.iload_n 3, 1) := by decide +kernel
theorem qd_R_bindMatch_9 : decode qc_R_bindMatch 9 = .ok (.istore 4, 2) := by decide +kernel
theorem qd_R_bindMatch_11 : decode qc_R_bindMatch 11 = .ok (.iconst 0, 1) := by decide +kernel
theorem qd_R_bindMatch_12 : decode qc_R_bindMatch 12 = .ok (.istore 5, 2) := by decide +kernel
theorem qd_R_bindMatch_14 : decode qc_R_bindMatch 14 = .ok (.iload 5, 2) := by decide +kernel
theorem qd_R_bindMatch_16 : decode qc_R_bindMatch 16 = .ok (.aload_n 1, 1) := by decide +kernel
theorem qd_R_bindMatch_17 : decode qc_R_bindMatch 17 = .ok (.getfield 28, 3) := by decide +kernel
theorem qd_R_bindMatch_20 : decode qc_R_bindMatch 20 = .ok (.if_icmp .ge 87, 3) := by decide +kernel
theorem qd_R_bindMatch_23 : decode qc_R_bindMatch 23 = .ok (.iload 4, 2) := by decide +kernel
theorem qd_R_bindMatch_25 : decode qc_R_bindMatch 25 = .ok (.aload_n 2, 1) := by decide +kernel
theorem qd_R_bindMatch_26 : decode qc_R_bindMatch 26 = .ok (.getfield 28, 3) := by decide +kernel
theorem qd_R_bindMatch_29 : decode qc_R_bindMatch 29 = .ok (.if_icmp .lt 5, 3) := by decide +kernel
theorem qd_R_bindMatch_32 : decode qc_R_bindMatch 32 = .ok (.iconst 0, 1) := by decide +kernel
theorem qd_R_bindMatch_33 : decode qc_R_bindMatch 33 = .ok (.ireturn, 1) := by decide +kernel
theorem qd_R_bindMatch_34 : decode qc_R_bindMatch 34 = .ok (.aload_n 1, 1) := by decide +kernel
theorem qd_R_bindMatch_35 : decode qc_R_bindMatch 35 = .ok (.iload 5, 2) := by decide +kernel
theorem qd_R_bindMatch_37 : decode qc_R_bindMatch 37 = .ok (.invokevirtual 48, 3) := by decide +kernel
theorem qd_R_bindMatch_40 : decode qc_R_bindMatch 40 = .ok (.ifCond .eq 36, 3) := by decide +kernel
theorem qd_R_bindMatch_43 : decode qc_R_bindMatch 43 = .ok (.aload_n 0, 1) := by decide +kernel
theorem qd_R_bindMatch_44 : decode qc_R_bindMatch 44 = .ok (.iconst (-1), 1) := by decide +kernel
theorem qd_R_bindMatch_45 : decode qc_R_bindMatch 45 = .ok (.aload_n 1, 1) := by decide +kernel
theorem qd_R_bindMatch_46 : decode qc_R_bindMatch 46 = .ok (.getfield 52, 3) := by decide +kernel
theorem qd_R_bindMatch_49 : decode qc_R_bindMatch 49 = .ok (.iload 5, 2) := by decide +kernel
theorem qd_R_bindMatch_51 : decode qc_R_bindMatch 51 = .ok (.iaload, 1) := by decide +kernel
theorem qd_R_bindMatch_52 : decode qc_R_bindMatch 52 = .ok (.isub, 1) := by decide +kernel
theorem qd_R_bindMatch_53 : decode qc_R_bindMatch 53 = .ok (.aload_n 2, 1) := by decide +kernel
theorem qd_R_bindMatch_54 : decode qc_R_bindMatch 54 = .ok (.iload 4, 2) := by decide +kernel
theorem qd_R_bindMatch_56 : decode qc_R_bindMatch 56 = .ok (.invokevirtual 55, 3) := by decide +kernel
theorem qd_R_bindMatch_59 : decode qc_R_bindMatch 59 = .ok (.ifCond .ne 5, 3) := by decide +kernel
theorem qd_R_bindMatch_62 : decode qc_R_bindMatch 62 = .ok (.iconst 0, 1) := by decide +kernel
theorem qd_R_bindMatch_63 : decode qc_R_bindMatch 63 = .ok (.ireturn, 1) := by decide +kernel
theorem qd_R_bindMatch_64 : decode qc_R_bindMatch 64 = .ok (.aload_n 2, 1) := by decide +kernel
theorem qd_R_bindMatch_65 : decode qc_R_bindMatch 65 = .ok (.getfield 35, 3) := by decide +kernel
theorem qd_R_bindMatch_68 : decode qc_R_bindMatch 68 = .ok (.iload 4, 2) := by decide +kernel
theorem qd_R_bindMatch_70 : decode qc_R_bindMatch 70 = .ok (.iaload, 1) := by decide +kernel
theorem qd_R_bindMatch_71 : decode qc_R_bindMatch 71 = .ok (.istore 4, 2) := by decide +kernel
theorem qd_R_bindMatch_73 : decode qc_R_bindMatch 73 = .ok (.goto 28, 3) := by decide +kernel
theorem qd_R_bindMatch_76 : decode qc_R_bindMatch 76 = .ok (.aload_n 1, 1) := by decide +kernel
theorem qd_R_bindMatch_77 : decode qc_R_bindMatch 77 = .ok (.getfield 52, 3) := by decide +kernel
theorem qd_R_bindMatch_80 : decode qc_R_bindMatch 80 = .ok (.iload 5, 2) := by decide +kernel
theorem qd_R_bindMatch_82 : decode qc_R_bindMatch 82 = .ok (.iaload, 1) := by decide +kernel
theorem qd_R_bindMatch_83 : decode qc_R_bindMatch 83 = .ok (.aload_n 2, 1) := by decide +kernel
theorem qd_R_bindMatch_84 : decode qc_R_bindMatch 84 = .ok (.getfield 52, 3) := by decide +kernel
theorem qd_R_bindMatch_87 : decode qc_R_bindMatch 87 = .ok (.iload 4, 2) := by decide +kernel
theorem qd_R_bindMatch_89 : decode qc_R_bindMatch 89 = .ok (.iaload, 1) := by decide +kernel
theorem qd_R_bindMatch_90 : decode qc_R_bindMatch 90 = .ok (.if_icmp .ne 9, 3) := by decide +kernel
theorem qd_R_bindMatch_93 : decode qc_R_bindMatch 93 = .ok (.iinc 4 1, 3) := by decide +kernel
theorem qd_R_bindMatch_96 : decode qc_R_bindMatch 96 = .ok (.goto 5, 3) := by decide +kernel
theorem qd_R_bindMatch_99 : decode qc_R_bindMatch 99 = .ok (.iconst 0, 1) := by decide +kernel
theorem qd_R_bindMatch_100 : decode qc_R_bindMatch 100 = .ok (.ireturn, 1) := by decide +kernel
theorem qd_R_bindMatch_101 : decode qc_R_bindMatch 101 = .ok (.iinc 5 1, 3) := by decide +kernel
theorem qd_R_bindMatch_104 : decode qc_R_bindMatch 104 = .ok (.goto (-90), 3) := by decide +kernel
theorem qd_R_bindMatch_107 : decode qc_R_bindMatch 107 = .ok (.iconst 1, 1) := by decide +kernel
theorem qd_R_bindMatch_108 : decode qc_R_bindMatch 108 = .ok (.ireturn, 1) := by decide +kernel
abbrev qc_R_bind : ByteArray := prog_4_method_6_code
abbrev qy_R_bind : MethodName := ⟨"TermOrders$Rules", "bind", "(ILTermOrders$Term;I)Z"⟩
abbrev qw_R_bind : List Cond := (Jvm.Cond.code ({ cls := "TermOrders$Rules", name := "bind", desc := "(ILTermOrders$Term;I)Z" } : Jvm.MethodName) prog_4_method_6_code (4 : Nat) (Option.some Jvm.ClassFile.FieldType.boolean)) :: gw
theorem qd_R_bind_0 : decode qc_R_bind 0 = .ok (.aload_n 0, 1) := by decide +kernel
theorem qd_R_bind_1 : decode qc_R_bind 1 = .ok (.getfield 20, 3) := by decide +kernel
theorem qd_R_bind_4 : decode qc_R_bind 4 = .ok (.iload_n 1, 1) := by decide +kernel
theorem qd_R_bind_5 : decode qc_R_bind 5 = .ok (.iaload, 1) := by decide +kernel
theorem qd_R_bind_6 : decode qc_R_bind 6 = .ok (.iconst (-1), 1) := by decide +kernel
theorem qd_R_bind_7 : decode qc_R_bind 7 = .ok (.if_icmp .ne 12, 3) := by decide +kernel
theorem qd_R_bind_10 : decode qc_R_bind 10 = .ok (.aload_n 0, 1) := by decide +kernel
theorem qd_R_bind_11 : decode qc_R_bind 11 = .ok (.getfield 20, 3) := by decide +kernel
theorem qd_R_bind_14 : decode qc_R_bind 14 = .ok (.iload_n 1, 1) := by decide +kernel
theorem qd_R_bind_15 : decode qc_R_bind 15 = .ok (.iload_n 3, 1) := by decide +kernel
theorem qd_R_bind_16 : decode qc_R_bind 16 = .ok (.iastore, 1) := by decide +kernel
theorem qd_R_bind_17 : decode qc_R_bind 17 = .ok (.iconst 1, 1) := by decide +kernel
theorem qd_R_bind_18 : decode qc_R_bind 18 = .ok (.ireturn, 1) := by decide +kernel
theorem qd_R_bind_19 : decode qc_R_bind 19 = .ok (.aload_n 2, 1) := by decide +kernel
theorem qd_R_bind_20 : decode qc_R_bind 20 = .ok (.aload_n 0, 1) := by decide +kernel
theorem qd_R_bind_21 : decode qc_R_bind 21 = .ok (.getfield 20, 3) := by decide +kernel
theorem qd_R_bind_24 : decode qc_R_bind 24 = .ok (.iload_n 1, 1) := by decide +kernel
theorem qd_R_bind_25 : decode qc_R_bind 25 = .ok (.iaload, 1) := by decide +kernel
theorem qd_R_bind_26 : decode qc_R_bind 26 = .ok (.aload_n 2, 1) := by decide +kernel
theorem qd_R_bind_27 : decode qc_R_bind 27 = .ok (.iload_n 3, 1) := by decide +kernel
theorem qd_R_bind_28 : decode qc_R_bind 28 = .ok (.invokevirtual 59, 3) := by decide +kernel
theorem qd_R_bind_31 : decode qc_R_bind 31 = .ok (.ireturn, 1) := by decide +kernel
abbrev qc_R_writeStep : ByteArray := prog_4_method_7_code
abbrev qy_R_writeStep : MethodName := ⟨"TermOrders$Rules", "writeStep", "(LTermOrders$Term;LTermOrders$Draft;)Z"⟩
abbrev qw_R_writeStep : List Cond := (Jvm.Cond.code ({ cls := "TermOrders$Rules", name := "writeStep", desc := "(LTermOrders$Term;LTermOrders$Draft;)Z" } : Jvm.MethodName) prog_4_method_7_code (5 : Nat) (Option.some Jvm.ClassFile.FieldType.boolean)) :: gw
theorem qd_R_writeStep_0 : decode qc_R_writeStep 0 = .ok (.aload_n 0, 1) := by decide +kernel
theorem qd_R_writeStep_1 : decode qc_R_writeStep 1 = .ok (.aload_n 1, 1) := by decide +kernel
theorem qd_R_writeStep_2 : decode qc_R_writeStep 2 = .ok (.invokevirtual 62, 3) := by decide +kernel
theorem qd_R_writeStep_5 : decode qc_R_writeStep 5 = .ok (.istore_n 3, 1) := by decide +kernel
theorem qd_R_writeStep_6 : decode qc_R_writeStep 6 = .ok (.iload_n 3, 1) := by decide +kernel
theorem qd_R_writeStep_7 : decode qc_R_writeStep 7 = .ok (.iconst (-1), 1) := by decide +kernel
theorem qd_R_writeStep_8 : decode qc_R_writeStep 8 = .ok (.if_icmp .ne 7, 3) := by decide +kernel
theorem qd_R_writeStep_11 : decode qc_R_writeStep 11 = .ok (.iconst (-1), 1) := by decide +kernel
theorem qd_R_writeStep_12 : decode qc_R_writeStep 12 = .ok (.goto 9, 3) := by decide +kernel
theorem qd_R_writeStep_15 : decode qc_R_writeStep 15 = .ok (.aload_n 0, 1) := by decide +kernel
theorem qd_R_writeStep_16 : decode qc_R_writeStep 16 = .ok (.aload_n 1, 1) := by decide +kernel
theorem qd_R_writeStep_17 : decode qc_R_writeStep 17 = .ok (.iload_n 3, 1) := by decide +kernel
theorem qd_R_writeStep_18 : decode qc_R_writeStep 18 = .ok (.invokevirtual 31, 3) := by decide +kernel
theorem qd_R_writeStep_21 : decode qc_R_writeStep 21 = .ok (.istore 4, 2) := by decide +kernel
theorem qd_R_writeStep_23 : decode qc_R_writeStep 23 = .ok (.iload 4, 2) := by decide +kernel
theorem qd_R_writeStep_25 : decode qc_R_writeStep 25 = .ok (.iconst (-1), 1) := by decide +kernel
theorem qd_R_writeStep_26 : decode qc_R_writeStep 26 = .ok (.if_icmp .ne 5, 3) := by decide +kernel
theorem qd_R_writeStep_29 : decode qc_R_writeStep 29 = .ok (.iconst 0, 1) := by decide +kernel
theorem qd_R_writeStep_30 : decode qc_R_writeStep 30 = .ok (.ireturn, 1) := by decide +kernel
theorem qd_R_writeStep_31 : decode qc_R_writeStep 31 = .ok (.aload_n 2, 1) := by decide +kernel
theorem qd_R_writeStep_32 : decode qc_R_writeStep 32 = .ok (.invokevirtual 66, 3) := by decide +kernel
theorem qd_R_writeStep_35 : decode qc_R_writeStep 35 = .ok (.aload_n 2, 1) := by decide +kernel
theorem qd_R_writeStep_36 : decode qc_R_writeStep 36 = .ok (.aload_n 1, 1) := by decide +kernel
theorem qd_R_writeStep_37 : decode qc_R_writeStep 37 = .ok (.iconst 0, 1) := by decide +kernel
theorem qd_R_writeStep_38 : decode qc_R_writeStep 38 = .ok (.iload_n 3, 1) := by decide +kernel
theorem qd_R_writeStep_39 : decode qc_R_writeStep 39 = .ok (.invokevirtual 71, 3) := by decide +kernel
theorem qd_R_writeStep_42 : decode qc_R_writeStep 42 = .ok (.aload_n 0, 1) := by decide +kernel
theorem qd_R_writeStep_43 : decode qc_R_writeStep 43 = .ok (.aload_n 0, 1) := by decide +kernel
theorem qd_R_writeStep_44 : decode qc_R_writeStep 44 = .ok (.getfield 17, 3) := by decide +kernel
theorem qd_R_writeStep_47 : decode qc_R_writeStep 47 = .ok (.iload 4, 2) := by decide +kernel
theorem qd_R_writeStep_49 : decode qc_R_writeStep 49 = .ok (.aaload, 1) := by decide +kernel
theorem qd_R_writeStep_50 : decode qc_R_writeStep 50 = .ok (.aload_n 1, 1) := by decide +kernel
theorem qd_R_writeStep_51 : decode qc_R_writeStep 51 = .ok (.aload_n 2, 1) := by decide +kernel
theorem qd_R_writeStep_52 : decode qc_R_writeStep 52 = .ok (.invokevirtual 75, 3) := by decide +kernel
theorem qd_R_writeStep_55 : decode qc_R_writeStep 55 = .ok (.aload_n 2, 1) := by decide +kernel
theorem qd_R_writeStep_56 : decode qc_R_writeStep 56 = .ok (.aload_n 1, 1) := by decide +kernel
theorem qd_R_writeStep_57 : decode qc_R_writeStep 57 = .ok (.aload_n 1, 1) := by decide +kernel
theorem qd_R_writeStep_58 : decode qc_R_writeStep 58 = .ok (.getfield 35, 3) := by decide +kernel
theorem qd_R_writeStep_61 : decode qc_R_writeStep 61 = .ok (.iload_n 3, 1) := by decide +kernel
theorem qd_R_writeStep_62 : decode qc_R_writeStep 62 = .ok (.iaload, 1) := by decide +kernel
theorem qd_R_writeStep_63 : decode qc_R_writeStep 63 = .ok (.aload_n 1, 1) := by decide +kernel
theorem qd_R_writeStep_64 : decode qc_R_writeStep 64 = .ok (.getfield 28, 3) := by decide +kernel
theorem qd_R_writeStep_67 : decode qc_R_writeStep 67 = .ok (.invokevirtual 71, 3) := by decide +kernel
theorem qd_R_writeStep_70 : decode qc_R_writeStep 70 = .ok (.iconst 1, 1) := by decide +kernel
theorem qd_R_writeStep_71 : decode qc_R_writeStep 71 = .ok (.ireturn, 1) := by decide +kernel
abbrev qc_R_writeBound : ByteArray := prog_4_method_8_code
abbrev qy_R_writeBound : MethodName := ⟨"TermOrders$Rules", "writeBound", "(LTermOrders$Term;LTermOrders$Term;LTermOrders$Draft;)V"⟩
abbrev qw_R_writeBound : List Cond := (Jvm.Cond.code ({ cls := "TermOrders$Rules", name := "writeBound", desc := "(LTermOrders$Term;LTermOrders$Term;LTermOrders$Draft;)V" } : Jvm.MethodName) prog_4_method_8_code (6 : Nat) (Option.none : Option Jvm.ClassFile.FieldType)) :: gw
theorem qd_R_writeBound_0 : decode qc_R_writeBound 0 = .ok (.iconst 0, 1) := by decide +kernel
theorem qd_R_writeBound_1 : decode qc_R_writeBound 1 = .ok (.istore 4, 2) := by decide +kernel
theorem qd_R_writeBound_3 : decode qc_R_writeBound 3 = .ok (.iload 4, 2) := by decide +kernel
theorem qd_R_writeBound_5 : decode qc_R_writeBound 5 = .ok (.aload_n 1, 1) := by decide +kernel
theorem qd_R_writeBound_6 : decode qc_R_writeBound 6 = .ok (.getfield 28, 3) := by decide +kernel
theorem qd_R_writeBound_9 : decode qc_R_writeBound 9 = .ok (.if_icmp .ge 79, 3) := by decide +kernel
theorem qd_R_writeBound_12 : decode qc_R_writeBound 12 = .ok (.aload_n 1, 1) := by decide +kernel
theorem qd_R_writeBound_13 : decode qc_R_writeBound 13 = .ok (.iload 4, 2) := by decide +kernel
theorem qd_R_writeBound_15 : decode qc_R_writeBound 15 = .ok (.invokevirtual 48, 3) := by decide +kernel
theorem qd_R_writeBound_18 : decode qc_R_writeBound 18 = .ok (.ifCond .eq 20, 3) := by decide +kernel
theorem qd_R_writeBound_21 : decode qc_R_writeBound 21 = .ok (.aload_n 0, 1) := by decide +kernel
theorem qd_R_writeBound_22 : decode qc_R_writeBound 22 = .ok (.getfield 20, 3) := by decide +kernel
theorem qd_R_writeBound_25 : decode qc_R_writeBound 25 = .ok (.iconst (-1), 1) := by decide +kernel
theorem qd_R_writeBound_26 : decode qc_R_writeBound 26 = .ok (.aload_n 1, 1) := by decide +kernel
theorem qd_R_writeBound_27 : decode qc_R_writeBound 27 = .ok (.getfield 52, 3) := by decide +kernel
theorem qd_R_writeBound_30 : decode qc_R_writeBound 30 = .ok (.iload 4, 2) := by decide +kernel
theorem qd_R_writeBound_32 : decode qc_R_writeBound 32 = .ok (.iaload, 1) := by decide +kernel
theorem qd_R_writeBound_33 : decode qc_R_writeBound 33 = .ok (.isub, 1) := by decide +kernel
theorem qd_R_writeBound_34 : decode qc_R_writeBound 34 = .ok (.iaload, 1) := by decide +kernel
theorem qd_R_writeBound_35 : decode qc_R_writeBound 35 = .ok (.goto 4, 3) := by decide +kernel
theorem qd_R_writeBound_38 : decode qc_R_writeBound 38 = .ok (.iconst (-1), 1) := by decide +kernel
theorem qd_R_writeBound_39 : decode qc_R_writeBound 39 = .ok (.istore 5, 2) := by decide +kernel
theorem qd_R_writeBound_41 : decode qc_R_writeBound 41 = .ok (.iload 5, 2) := by decide +kernel
theorem qd_R_writeBound_43 : decode qc_R_writeBound 43 = .ok (.iconst (-1), 1) := by decide +kernel
theorem qd_R_writeBound_44 : decode qc_R_writeBound 44 = .ok (.if_icmp .ne 24, 3) := by decide +kernel
theorem qd_R_writeBound_47 : decode qc_R_writeBound 47 = .ok (.aload_n 3, 1) := by decide +kernel
theorem qd_R_writeBound_48 : decode qc_R_writeBound 48 = .ok (.aload_n 1, 1) := by decide +kernel
theorem qd_R_writeBound_49 : decode qc_R_writeBound 49 = .ok (.getfield 52, 3) := by decide +kernel
theorem qd_R_writeBound_52 : decode qc_R_writeBound 52 = .ok (.iload 4, 2) := by decide +kernel
theorem qd_R_writeBound_54 : decode qc_R_writeBound 54 = .ok (.iaload, 1) := by decide +kernel
theorem qd_R_writeBound_55 : decode qc_R_writeBound 55 = .ok (.aload_n 1, 1) := by decide +kernel
theorem qd_R_writeBound_56 : decode qc_R_writeBound 56 = .ok (.getfield 79, 3) := by decide +kernel
theorem qd_R_writeBound_59 : decode qc_R_writeBound 59 = .ok (.iload 4, 2) := by decide +kernel
theorem qd_R_writeBound_61 : decode qc_R_writeBound 61 = .ok (.iaload, 1) := by decide +kernel
theorem qd_R_writeBound_62 : decode qc_R_writeBound 62 = .ok (.invokevirtual 82, 3) := by decide +kernel
theorem qd_R_writeBound_65 : decode qc_R_writeBound 65 = .ok (.goto 17, 3) := by decide +kernel
theorem qd_R_writeBound_68 : decode qc_R_writeBound 68 = .ok (.aload_n 3, 1) := by decide +kernel
theorem qd_R_writeBound_69 : decode qc_R_writeBound 69 = .ok (.aload_n 2, 1) := by decide +kernel
theorem qd_R_writeBound_70 : decode qc_R_writeBound 70 = .ok (.iload 5, 2) := by decide +kernel
theorem qd_R_writeBound_72 : decode qc_R_writeBound 72 = .ok (.aload_n 2, 1) := by decide +kernel
theorem qd_R_writeBound_73 : decode qc_R_writeBound 73 = .ok (.getfield 35, 3) := by decide +kernel
theorem qd_R_writeBound_76 : decode qc_R_writeBound 76 = .ok (.iload 5, 2) := by decide +kernel
theorem qd_R_writeBound_78 : decode qc_R_writeBound 78 = .ok (.iaload, 1) := by decide +kernel
theorem qd_R_writeBound_79 : decode qc_R_writeBound 79 = .ok (.invokevirtual 71, 3) := by decide +kernel
theorem qd_R_writeBound_82 : decode qc_R_writeBound 82 = .ok (.iinc 4 1, 3) := by decide +kernel
theorem qd_R_writeBound_85 : decode qc_R_writeBound 85 = .ok (.goto (-82), 3) := by decide +kernel
theorem qd_R_writeBound_88 : decode qc_R_writeBound 88 = .ok (.return_, 1) := by decide +kernel
abbrev qc_S_init : ByteArray := prog_5_method_1_code
abbrev qy_S_init : MethodName := ⟨"TermOrders$Symbols", "<init>", "()V"⟩
abbrev qw_S_init : List Cond := (Jvm.Cond.code ({ cls := "TermOrders$Symbols", name := "<init>", desc := "()V" } : Jvm.MethodName) prog_5_method_1_code (1 : Nat) (Option.none : Option Jvm.ClassFile.FieldType)) :: gw
theorem qd_S_init_0 : decode qc_S_init 0 = .ok (.aload_n 0, 1) := by decide +kernel
theorem qd_S_init_1 : decode qc_S_init 1 = .ok (.invokespecial 3, 3) := by decide +kernel
theorem qd_S_init_4 : decode qc_S_init 4 = .ok (.aload_n 0, 1) := by decide +kernel
theorem qd_S_init_5 : decode qc_S_init 5 = .ok (.iconst 5, 1) := by decide +kernel
theorem qd_S_init_6 : decode qc_S_init 6 = .ok (.newarray .int, 2) := by decide +kernel
theorem qd_S_init_8 : decode qc_S_init 8 = .ok (.putfield 9, 3) := by decide +kernel
theorem qd_S_init_11 : decode qc_S_init 11 = .ok (.aload_n 0, 1) := by decide +kernel
theorem qd_S_init_12 : decode qc_S_init 12 = .ok (.iconst 5, 1) := by decide +kernel
theorem qd_S_init_13 : decode qc_S_init 13 = .ok (.newarray .int, 2) := by decide +kernel
theorem qd_S_init_15 : decode qc_S_init 15 = .ok (.putfield 15, 3) := by decide +kernel
theorem qd_S_init_18 : decode qc_S_init 18 = .ok (.aload_n 0, 1) := by decide +kernel
theorem qd_S_init_19 : decode qc_S_init 19 = .ok (.iconst 5, 1) := by decide +kernel
theorem qd_S_init_20 : decode qc_S_init 20 = .ok (.newarray .int, 2) := by decide +kernel
theorem qd_S_init_22 : decode qc_S_init 22 = .ok (.putfield 18, 3) := by decide +kernel
theorem qd_S_init_25 : decode qc_S_init 25 = .ok (.aload_n 0, 1) := by decide +kernel
theorem qd_S_init_26 : decode qc_S_init 26 = .ok (.iconst 5, 1) := by decide +kernel
theorem qd_S_init_27 : decode qc_S_init 27 = .ok (.newarray .int, 2) := by decide +kernel
theorem qd_S_init_29 : decode qc_S_init 29 = .ok (.putfield 21, 3) := by decide +kernel
theorem qd_S_init_32 : decode qc_S_init 32 = .ok (.aload_n 0, 1) := by decide +kernel
theorem qd_S_init_33 : decode qc_S_init 33 = .ok (.iconst 0, 1) := by decide +kernel
theorem qd_S_init_34 : decode qc_S_init 34 = .ok (.putfield 24, 3) := by decide +kernel
theorem qd_S_init_37 : decode qc_S_init 37 = .ok (.return_, 1) := by decide +kernel
abbrev qc_S_add : ByteArray := prog_5_method_2_code
abbrev qy_S_add : MethodName := ⟨"TermOrders$Symbols", "add", "(I)I"⟩
abbrev qw_S_add : List Cond := (Jvm.Cond.code ({ cls := "TermOrders$Symbols", name := "add", desc := "(I)I" } : Jvm.MethodName) prog_5_method_2_code (3 : Nat) (Option.some Jvm.ClassFile.FieldType.int)) :: gw
theorem qd_S_add_0 : decode qc_S_add 0 = .ok (.aload_n 0, 1) := by decide +kernel
theorem qd_S_add_1 : decode qc_S_add 1 = .ok (.getfield 24, 3) := by decide +kernel
theorem qd_S_add_4 : decode qc_S_add 4 = .ok (.istore_n 2, 1) := by decide +kernel
theorem qd_S_add_5 : decode qc_S_add 5 = .ok (.aload_n 0, 1) := by decide +kernel
theorem qd_S_add_6 : decode qc_S_add 6 = .ok (.getfield 9, 3) := by decide +kernel
theorem qd_S_add_9 : decode qc_S_add 9 = .ok (.iload_n 2, 1) := by decide +kernel
theorem qd_S_add_10 : decode qc_S_add 10 = .ok (.iload_n 1, 1) := by decide +kernel
theorem qd_S_add_11 : decode qc_S_add 11 = .ok (.iastore, 1) := by decide +kernel
theorem qd_S_add_12 : decode qc_S_add 12 = .ok (.aload_n 0, 1) := by decide +kernel
theorem qd_S_add_13 : decode qc_S_add 13 = .ok (.getfield 15, 3) := by decide +kernel
theorem qd_S_add_16 : decode qc_S_add 16 = .ok (.iload_n 2, 1) := by decide +kernel
theorem qd_S_add_17 : decode qc_S_add 17 = .ok (.iload_n 2, 1) := by decide +kernel
theorem qd_S_add_18 : decode qc_S_add 18 = .ok (.iastore, 1) := by decide +kernel
theorem qd_S_add_19 : decode qc_S_add 19 = .ok (.aload_n 0, 1) := by decide +kernel
theorem qd_S_add_20 : decode qc_S_add 20 = .ok (.getfield 18, 3) := by decide +kernel
theorem qd_S_add_23 : decode qc_S_add 23 = .ok (.iload_n 2, 1) := by decide +kernel
theorem qd_S_add_24 : decode qc_S_add 24 = .ok (.iconst 1, 1) := by decide +kernel
theorem qd_S_add_25 : decode qc_S_add 25 = .ok (.iastore, 1) := by decide +kernel
theorem qd_S_add_26 : decode qc_S_add 26 = .ok (.aload_n 0, 1) := by decide +kernel
theorem qd_S_add_27 : decode qc_S_add 27 = .ok (.dup, 1) := by decide +kernel
theorem qd_S_add_28 : decode qc_S_add 28 = .ok (.getfield 24, 3) := by decide +kernel
theorem qd_S_add_31 : decode qc_S_add 31 = .ok (.iconst 1, 1) := by decide +kernel
theorem qd_S_add_32 : decode qc_S_add 32 = .ok (.iadd, 1) := by decide +kernel
theorem qd_S_add_33 : decode qc_S_add 33 = .ok (.putfield 24, 3) := by decide +kernel
theorem qd_S_add_36 : decode qc_S_add 36 = .ok (.iload_n 2, 1) := by decide +kernel
theorem qd_S_add_37 : decode qc_S_add 37 = .ok (.ireturn, 1) := by decide +kernel
abbrev qc_S_saveRanks : ByteArray := prog_5_method_3_code
abbrev qy_S_saveRanks : MethodName := ⟨"TermOrders$Symbols", "saveRanks", "()V"⟩
abbrev qw_S_saveRanks : List Cond := (Jvm.Cond.code ({ cls := "TermOrders$Symbols", name := "saveRanks", desc := "()V" } : Jvm.MethodName) prog_5_method_3_code (1 : Nat) (Option.none : Option Jvm.ClassFile.FieldType)) :: gw
theorem qd_S_saveRanks_0 : decode qc_S_saveRanks 0 = .ok (.aload_n 0, 1) := by decide +kernel
theorem qd_S_saveRanks_1 : decode qc_S_saveRanks 1 = .ok (.getfield 15, 3) := by decide +kernel
theorem qd_S_saveRanks_4 : decode qc_S_saveRanks 4 = .ok (.iconst 0, 1) := by decide +kernel
theorem qd_S_saveRanks_5 : decode qc_S_saveRanks 5 = .ok (.aload_n 0, 1) := by decide +kernel
theorem qd_S_saveRanks_6 : decode qc_S_saveRanks 6 = .ok (.getfield 21, 3) := by decide +kernel
theorem qd_S_saveRanks_9 : decode qc_S_saveRanks 9 = .ok (.iconst 0, 1) := by decide +kernel
theorem qd_S_saveRanks_10 : decode qc_S_saveRanks 10 = .ok (.iconst 5, 1) := by decide +kernel
theorem qd_S_saveRanks_11 : decode qc_S_saveRanks 11 = .ok (.invokestatic 28, 3) := by decide +kernel
theorem qd_S_saveRanks_14 : decode qc_S_saveRanks 14 = .ok (.return_, 1) := by decide +kernel
abbrev qc_S_restoreRanks : ByteArray := prog_5_method_4_code
abbrev qy_S_restoreRanks : MethodName := ⟨"TermOrders$Symbols", "restoreRanks", "()V"⟩
abbrev qw_S_restoreRanks : List Cond := (Jvm.Cond.code ({ cls := "TermOrders$Symbols", name := "restoreRanks", desc := "()V" } : Jvm.MethodName) prog_5_method_4_code (1 : Nat) (Option.none : Option Jvm.ClassFile.FieldType)) :: gw
theorem qd_S_restoreRanks_0 : decode qc_S_restoreRanks 0 = .ok (.aload_n 0, 1) := by decide +kernel
theorem qd_S_restoreRanks_1 : decode qc_S_restoreRanks 1 = .ok (.getfield 21, 3) := by decide +kernel
theorem qd_S_restoreRanks_4 : decode qc_S_restoreRanks 4 = .ok (.iconst 0, 1) := by decide +kernel
theorem qd_S_restoreRanks_5 : decode qc_S_restoreRanks 5 = .ok (.aload_n 0, 1) := by decide +kernel
theorem qd_S_restoreRanks_6 : decode qc_S_restoreRanks 6 = .ok (.getfield 15, 3) := by decide +kernel
theorem qd_S_restoreRanks_9 : decode qc_S_restoreRanks 9 = .ok (.iconst 0, 1) := by decide +kernel
theorem qd_S_restoreRanks_10 : decode qc_S_restoreRanks 10 = .ok (.iconst 5, 1) := by decide +kernel
theorem qd_S_restoreRanks_11 : decode qc_S_restoreRanks 11 = .ok (.invokestatic 28, 3) := by decide +kernel
theorem qd_S_restoreRanks_14 : decode qc_S_restoreRanks 14 = .ok (.return_, 1) := by decide +kernel
abbrev qc_S_takeFirstRanks : ByteArray := prog_5_method_5_code
abbrev qy_S_takeFirstRanks : MethodName := ⟨"TermOrders$Symbols", "takeFirstRanks", "()V"⟩
abbrev qw_S_takeFirstRanks : List Cond := (Jvm.Cond.code ({ cls := "TermOrders$Symbols", name := "takeFirstRanks", desc := "()V" } : Jvm.MethodName) prog_5_method_5_code (2 : Nat) (Option.none : Option Jvm.ClassFile.FieldType)) :: gw
theorem qd_S_takeFirstRanks_0 : decode qc_S_takeFirstRanks 0 = .ok (.iconst 0, 1) := by decide +kernel
theorem qd_S_takeFirstRanks_1 : decode qc_S_takeFirstRanks 1 = .ok (.istore_n 1, 1) := by decide +kernel
theorem qd_S_takeFirstRanks_2 : decode qc_S_takeFirstRanks 2 = .ok (.iload_n 1, 1) := by decide +kernel
theorem qd_S_takeFirstRanks_3 : decode qc_S_takeFirstRanks 3 = .ok (.aload_n 0, 1) := by decide +kernel
theorem qd_S_takeFirstRanks_4 : decode qc_S_takeFirstRanks 4 = .ok (.getfield 24, 3) := by decide +kernel
theorem qd_S_takeFirstRanks_7 : decode qc_S_takeFirstRanks 7 = .ok (.if_icmp .ge 16, 3) := by decide +kernel
theorem qd_S_takeFirstRanks_10 : decode qc_S_takeFirstRanks 10 = .ok (.aload_n 0, 1) := by decide +kernel
theorem qd_S_takeFirstRanks_11 : decode qc_S_takeFirstRanks 11 = .ok (.getfield 15, 3) := by decide +kernel
theorem qd_S_takeFirstRanks_14 : decode qc_S_takeFirstRanks 14 = .ok (.iload_n 1, 1) := by decide +kernel
theorem qd_S_takeFirstRanks_15 : decode qc_S_takeFirstRanks 15 = .ok (.iload_n 1, 1) := by decide +kernel
theorem qd_S_takeFirstRanks_16 : decode qc_S_takeFirstRanks 16 = .ok (.iastore, 1) := by decide +kernel
theorem qd_S_takeFirstRanks_17 : decode qc_S_takeFirstRanks 17 = .ok (.iinc 1 1, 3) := by decide +kernel
theorem qd_S_takeFirstRanks_20 : decode qc_S_takeFirstRanks 20 = .ok (.goto (-18), 3) := by decide +kernel
theorem qd_S_takeFirstRanks_23 : decode qc_S_takeFirstRanks 23 = .ok (.return_, 1) := by decide +kernel
abbrev qc_S_takeNextRanks : ByteArray := prog_5_method_6_code
abbrev qy_S_takeNextRanks : MethodName := ⟨"TermOrders$Symbols", "takeNextRanks", "()Z"⟩
abbrev qw_S_takeNextRanks : List Cond := (Jvm.Cond.code ({ cls := "TermOrders$Symbols", name := "takeNextRanks", desc := "()Z" } : Jvm.MethodName) prog_5_method_6_code (4 : Nat) (Option.some Jvm.ClassFile.FieldType.boolean)) :: gw
theorem qd_S_takeNextRanks_0 : decode qc_S_takeNextRanks 0 = .ok (.aload_n 0, 1) := by decide +kernel
theorem qd_S_takeNextRanks_1 : decode qc_S_takeNextRanks 1 = .ok (.invokevirtual 34, 3) := by decide +kernel
theorem qd_S_takeNextRanks_4 : decode qc_S_takeNextRanks 4 = .ok (.istore_n 1, 1) := by decide +kernel
theorem qd_S_takeNextRanks_5 : decode qc_S_takeNextRanks 5 = .ok (.iload_n 1, 1) := by decide +kernel
theorem qd_S_takeNextRanks_6 : decode qc_S_takeNextRanks 6 = .ok (.iconst (-1), 1) := by decide +kernel
theorem qd_S_takeNextRanks_7 : decode qc_S_takeNextRanks 7 = .ok (.if_icmp .ne 5, 3) := by decide +kernel
theorem qd_S_takeNextRanks_10 : decode qc_S_takeNextRanks 10 = .ok (.iconst 0, 1) := by decide +kernel
theorem qd_S_takeNextRanks_11 : decode qc_S_takeNextRanks 11 = .ok (.ireturn, 1) := by decide +kernel
theorem qd_S_takeNextRanks_12 : decode qc_S_takeNextRanks 12 = .ok (.aload_n 0, 1) := by decide +kernel
theorem qd_S_takeNextRanks_13 : decode qc_S_takeNextRanks 13 = .ok (.iload_n 1, 1) := by decide +kernel
theorem qd_S_takeNextRanks_14 : decode qc_S_takeNextRanks 14 = .ok (.aload_n 0, 1) := by decide +kernel
theorem qd_S_takeNextRanks_15 : decode qc_S_takeNextRanks 15 = .ok (.iload_n 1, 1) := by decide +kernel
theorem qd_S_takeNextRanks_16 : decode qc_S_takeNextRanks 16 = .ok (.invokevirtual 38, 3) := by decide +kernel
theorem qd_S_takeNextRanks_19 : decode qc_S_takeNextRanks 19 = .ok (.invokevirtual 42, 3) := by decide +kernel
theorem qd_S_takeNextRanks_22 : decode qc_S_takeNextRanks 22 = .ok (.iload_n 1, 1) := by decide +kernel
theorem qd_S_takeNextRanks_23 : decode qc_S_takeNextRanks 23 = .ok (.iconst 1, 1) := by decide +kernel
theorem qd_S_takeNextRanks_24 : decode qc_S_takeNextRanks 24 = .ok (.iadd, 1) := by decide +kernel
theorem qd_S_takeNextRanks_25 : decode qc_S_takeNextRanks 25 = .ok (.istore_n 2, 1) := by decide +kernel
theorem qd_S_takeNextRanks_26 : decode qc_S_takeNextRanks 26 = .ok (.aload_n 0, 1) := by decide +kernel
theorem qd_S_takeNextRanks_27 : decode qc_S_takeNextRanks 27 = .ok (.getfield 24, 3) := by decide +kernel
theorem qd_S_takeNextRanks_30 : decode qc_S_takeNextRanks 30 = .ok (.iconst 1, 1) := by decide +kernel
theorem qd_S_takeNextRanks_31 : decode qc_S_takeNextRanks 31 = .ok (.isub, 1) := by decide +kernel
theorem qd_S_takeNextRanks_32 : decode qc_S_takeNextRanks 32 = .ok (.istore_n 3, 1) := by decide +kernel
theorem qd_S_takeNextRanks_33 : decode qc_S_takeNextRanks 33 = .ok (.iload_n 2, 1) := by decide +kernel
theorem qd_S_takeNextRanks_34 : decode qc_S_takeNextRanks 34 = .ok (.iload_n 3, 1) := by decide +kernel
theorem qd_S_takeNextRanks_35 : decode qc_S_takeNextRanks 35 = .ok (.if_icmp .ge 18, 3) := by decide +kernel
theorem qd_S_takeNextRanks_38 : decode qc_S_takeNextRanks 38 = .ok (.aload_n 0, 1) := by decide +kernel
theorem qd_S_takeNextRanks_39 : decode qc_S_takeNextRanks 39 = .ok (.iload_n 2, 1) := by decide +kernel
theorem qd_S_takeNextRanks_40 : decode qc_S_takeNextRanks 40 = .ok (.iload_n 3, 1) := by decide +kernel
theorem qd_S_takeNextRanks_41 : decode qc_S_takeNextRanks 41 = .ok (.invokevirtual 42, 3) := by decide +kernel
theorem qd_S_takeNextRanks_44 : decode qc_S_takeNextRanks 44 = .ok (.iinc 2 1, 3) := by decide +kernel
theorem qd_S_takeNextRanks_47 : decode qc_S_takeNextRanks 47 = .ok (.iinc 3 (-1), 3) := by decide +kernel
theorem qd_S_takeNextRanks_50 : decode qc_S_takeNextRanks 50 = .ok (.goto (-17), 3) := by decide +kernel
theorem qd_S_takeNextRanks_53 : decode qc_S_takeNextRanks 53 = .ok (.iconst 1, 1) := by decide +kernel
theorem qd_S_takeNextRanks_54 : decode qc_S_takeNextRanks 54 = .ok (.ireturn, 1) := by decide +kernel
abbrev qc_S_lastBelowItsNext : ByteArray := prog_5_method_7_code
abbrev qy_S_lastBelowItsNext : MethodName := ⟨"TermOrders$Symbols", "lastBelowItsNext", "()I"⟩
abbrev qw_S_lastBelowItsNext : List Cond := (Jvm.Cond.code ({ cls := "TermOrders$Symbols", name := "lastBelowItsNext", desc := "()I" } : Jvm.MethodName) prog_5_method_7_code (2 : Nat) (Option.some Jvm.ClassFile.FieldType.int)) :: gw
theorem qd_S_lastBelowItsNext_0 : decode qc_S_lastBelowItsNext 0 = .ok (.aload_n 0, 1) := by decide +kernel
theorem qd_S_lastBelowItsNext_1 : decode qc_S_lastBelowItsNext 1 = .ok (.getfield 24, 3) := by decide +kernel
theorem qd_S_lastBelowItsNext_4 : decode qc_S_lastBelowItsNext 4 = .ok (.iconst 2, 1) := by decide +kernel
theorem qd_S_lastBelowItsNext_5 : decode qc_S_lastBelowItsNext 5 = .ok (.isub, 1) := by decide +kernel
theorem qd_S_lastBelowItsNext_6 : decode qc_S_lastBelowItsNext 6 = .ok (.istore_n 1, 1) := by decide +kernel
theorem qd_S_lastBelowItsNext_7 : decode qc_S_lastBelowItsNext 7 = .ok (.iload_n 1, 1) := by decide +kernel
theorem qd_S_lastBelowItsNext_8 : decode qc_S_lastBelowItsNext 8 = .ok (.ifCond .lt 22, 3) := by decide +kernel
theorem qd_S_lastBelowItsNext_11 : decode qc_S_lastBelowItsNext 11 = .ok (.aload_n 0, 1) := by decide +kernel
theorem qd_S_lastBelowItsNext_12 : decode qc_S_lastBelowItsNext 12 = .ok (.iload_n 1, 1) := by decide +kernel
theorem qd_S_lastBelowItsNext_13 : decode qc_S_lastBelowItsNext 13 = .ok (.iconst 1, 1) := by decide +kernel
theorem qd_S_lastBelowItsNext_14 : decode qc_S_lastBelowItsNext 14 = .ok (.iadd, 1) := by decide +kernel
theorem qd_S_lastBelowItsNext_15 : decode qc_S_lastBelowItsNext 15 = .ok (.iload_n 1, 1) := by decide +kernel
theorem qd_S_lastBelowItsNext_16 : decode qc_S_lastBelowItsNext 16 = .ok (.invokevirtual 46, 3) := by decide +kernel
theorem qd_S_lastBelowItsNext_19 : decode qc_S_lastBelowItsNext 19 = .ok (.ifCond .eq 5, 3) := by decide +kernel
theorem qd_S_lastBelowItsNext_22 : decode qc_S_lastBelowItsNext 22 = .ok (.iload_n 1, 1) := by decide +kernel
theorem qd_S_lastBelowItsNext_23 : decode qc_S_lastBelowItsNext 23 = .ok (.ireturn, 1) := by decide +kernel
theorem qd_S_lastBelowItsNext_24 : decode qc_S_lastBelowItsNext 24 = .ok (.iinc 1 (-1), 3) := by decide +kernel
theorem qd_S_lastBelowItsNext_27 : decode qc_S_lastBelowItsNext 27 = .ok (.goto (-20), 3) := by decide +kernel
theorem qd_S_lastBelowItsNext_30 : decode qc_S_lastBelowItsNext 30 = .ok (.iconst (-1), 1) := by decide +kernel
theorem qd_S_lastBelowItsNext_31 : decode qc_S_lastBelowItsNext 31 = .ok (.ireturn, 1) := by decide +kernel
abbrev qc_S_lastAbove : ByteArray := prog_5_method_8_code
abbrev qy_S_lastAbove : MethodName := ⟨"TermOrders$Symbols", "lastAbove", "(I)I"⟩
abbrev qw_S_lastAbove : List Cond := (Jvm.Cond.code ({ cls := "TermOrders$Symbols", name := "lastAbove", desc := "(I)I" } : Jvm.MethodName) prog_5_method_8_code (3 : Nat) (Option.some Jvm.ClassFile.FieldType.int)) :: gw
theorem qd_S_lastAbove_0 : decode qc_S_lastAbove 0 = .ok (.aload_n 0, 1) := by decide +kernel
theorem qd_S_lastAbove_1 : decode qc_S_lastAbove 1 = .ok (.getfield 24, 3) := by decide +kernel
theorem qd_S_lastAbove_4 : decode qc_S_lastAbove 4 = .ok (.iconst 1, 1) := by decide +kernel
theorem qd_S_lastAbove_5 : decode qc_S_lastAbove 5 = .ok (.isub, 1) := by decide +kernel
theorem qd_S_lastAbove_6 : decode qc_S_lastAbove 6 = .ok (.istore_n 2, 1) := by decide +kernel
theorem qd_S_lastAbove_7 : decode qc_S_lastAbove 7 = .ok (.iload_n 2, 1) := by decide +kernel
theorem qd_S_lastAbove_8 : decode qc_S_lastAbove 8 = .ok (.iload_n 1, 1) := by decide +kernel
theorem qd_S_lastAbove_9 : decode qc_S_lastAbove 9 = .ok (.if_icmp .le 18, 3) := by decide +kernel
theorem qd_S_lastAbove_12 : decode qc_S_lastAbove 12 = .ok (.aload_n 0, 1) := by decide +kernel
theorem qd_S_lastAbove_13 : decode qc_S_lastAbove 13 = .ok (.iload_n 2, 1) := by decide +kernel
theorem qd_S_lastAbove_14 : decode qc_S_lastAbove 14 = .ok (.iload_n 1, 1) := by decide +kernel
theorem qd_S_lastAbove_15 : decode qc_S_lastAbove 15 = .ok (.invokevirtual 46, 3) := by decide +kernel
theorem qd_S_lastAbove_18 : decode qc_S_lastAbove 18 = .ok (.ifCond .ne 9, 3) := by decide +kernel
theorem qd_S_lastAbove_21 : decode qc_S_lastAbove 21 = .ok (.iinc 2 (-1), 3) := by decide +kernel
theorem qd_S_lastAbove_24 : decode qc_S_lastAbove 24 = .ok (.goto (-17), 3) := by decide +kernel
theorem qd_S_lastAbove_27 : decode qc_S_lastAbove 27 = .ok (.iload_n 2, 1) := by decide +kernel
theorem qd_S_lastAbove_28 : decode qc_S_lastAbove 28 = .ok (.ireturn, 1) := by decide +kernel
abbrev qc_S_swapRanks : ByteArray := prog_5_method_9_code
abbrev qy_S_swapRanks : MethodName := ⟨"TermOrders$Symbols", "swapRanks", "(II)V"⟩
abbrev qw_S_swapRanks : List Cond := (Jvm.Cond.code ({ cls := "TermOrders$Symbols", name := "swapRanks", desc := "(II)V" } : Jvm.MethodName) prog_5_method_9_code (4 : Nat) (Option.none : Option Jvm.ClassFile.FieldType)) :: gw
theorem qd_S_swapRanks_0 : decode qc_S_swapRanks 0 = .ok (.aload_n 0, 1) := by decide +kernel
theorem qd_S_swapRanks_1 : decode qc_S_swapRanks 1 = .ok (.getfield 15, 3) := by decide +kernel
theorem qd_S_swapRanks_4 : decode qc_S_swapRanks 4 = .ok (.iload_n 1, 1) := by decide +kernel
theorem qd_S_swapRanks_5 : decode qc_S_swapRanks 5 = .ok (.iaload, 1) := by decide +kernel
theorem qd_S_swapRanks_6 : decode qc_S_swapRanks 6 = .ok (.istore_n 3, 1) := by decide +kernel
theorem qd_S_swapRanks_7 : decode qc_S_swapRanks 7 = .ok (.aload_n 0, 1) := by decide +kernel
theorem qd_S_swapRanks_8 : decode qc_S_swapRanks 8 = .ok (.getfield 15, 3) := by decide +kernel
theorem qd_S_swapRanks_11 : decode qc_S_swapRanks 11 = .ok (.iload_n 1, 1) := by decide +kernel
theorem qd_S_swapRanks_12 : decode qc_S_swapRanks 12 = .ok (.aload_n 0, 1) := by decide +kernel
theorem qd_S_swapRanks_13 : decode qc_S_swapRanks 13 = .ok (.getfield 15, 3) := by decide +kernel
theorem qd_S_swapRanks_16 : decode qc_S_swapRanks 16 = .ok (.iload_n 2, 1) := by decide +kernel
theorem qd_S_swapRanks_17 : decode qc_S_swapRanks 17 = .ok (.iaload, 1) := by decide +kernel
theorem qd_S_swapRanks_18 : decode qc_S_swapRanks 18 = .ok (.iastore, 1) := by decide +kernel
theorem qd_S_swapRanks_19 : decode qc_S_swapRanks 19 = .ok (.aload_n 0, 1) := by decide +kernel
theorem qd_S_swapRanks_20 : decode qc_S_swapRanks 20 = .ok (.getfield 15, 3) := by decide +kernel
theorem qd_S_swapRanks_23 : decode qc_S_swapRanks 23 = .ok (.iload_n 2, 1) := by decide +kernel
theorem qd_S_swapRanks_24 : decode qc_S_swapRanks 24 = .ok (.iload_n 3, 1) := by decide +kernel
theorem qd_S_swapRanks_25 : decode qc_S_swapRanks 25 = .ok (.iastore, 1) := by decide +kernel
theorem qd_S_swapRanks_26 : decode qc_S_swapRanks 26 = .ok (.return_, 1) := by decide +kernel
abbrev qc_S_isAbove : ByteArray := prog_5_method_10_code
abbrev qy_S_isAbove : MethodName := ⟨"TermOrders$Symbols", "isAbove", "(II)Z"⟩
abbrev qw_S_isAbove : List Cond := (Jvm.Cond.code ({ cls := "TermOrders$Symbols", name := "isAbove", desc := "(II)Z" } : Jvm.MethodName) prog_5_method_10_code (3 : Nat) (Option.some Jvm.ClassFile.FieldType.boolean)) :: gw
theorem qd_S_isAbove_0 : decode qc_S_isAbove 0 = .ok (.aload_n 0, 1) := by decide +kernel
theorem qd_S_isAbove_1 : decode qc_S_isAbove 1 = .ok (.getfield 15, 3) := by decide +kernel
theorem qd_S_isAbove_4 : decode qc_S_isAbove 4 = .ok (.iload_n 1, 1) := by decide +kernel
theorem qd_S_isAbove_5 : decode qc_S_isAbove 5 = .ok (.iaload, 1) := by decide +kernel
theorem qd_S_isAbove_6 : decode qc_S_isAbove 6 = .ok (.aload_n 0, 1) := by decide +kernel
theorem qd_S_isAbove_7 : decode qc_S_isAbove 7 = .ok (.getfield 15, 3) := by decide +kernel
theorem qd_S_isAbove_10 : decode qc_S_isAbove 10 = .ok (.iload_n 2, 1) := by decide +kernel
theorem qd_S_isAbove_11 : decode qc_S_isAbove 11 = .ok (.iaload, 1) := by decide +kernel
theorem qd_S_isAbove_12 : decode qc_S_isAbove 12 = .ok (.if_icmp .le 7, 3) := by decide +kernel
theorem qd_S_isAbove_15 : decode qc_S_isAbove 15 = .ok (.iconst 1, 1) := by decide +kernel
theorem qd_S_isAbove_16 : decode qc_S_isAbove 16 = .ok (.goto 4, 3) := by decide +kernel
theorem qd_S_isAbove_19 : decode qc_S_isAbove 19 = .ok (.iconst 0, 1) := by decide +kernel
theorem qd_S_isAbove_20 : decode qc_S_isAbove 20 = .ok (.ireturn, 1) := by decide +kernel
abbrev qc_S_isAboveAllOthers : ByteArray := prog_5_method_11_code
abbrev qy_S_isAboveAllOthers : MethodName := ⟨"TermOrders$Symbols", "isAboveAllOthers", "(I)Z"⟩
abbrev qw_S_isAboveAllOthers : List Cond := (Jvm.Cond.code ({ cls := "TermOrders$Symbols", name := "isAboveAllOthers", desc := "(I)Z" } : Jvm.MethodName) prog_5_method_11_code (3 : Nat) (Option.some Jvm.ClassFile.FieldType.boolean)) :: gw
theorem qd_S_isAboveAllOthers_0 : decode qc_S_isAboveAllOthers 0 = .ok (.iconst 0, 1) := by decide +kernel
theorem qd_S_isAboveAllOthers_1 : decode qc_S_isAboveAllOthers 1 = .ok (.istore_n 2, 1) := by decide +kernel
theorem qd_S_isAboveAllOthers_2 : decode qc_S_isAboveAllOthers 2 = .ok (.iload_n 2, 1) := by decide +kernel
theorem qd_S_isAboveAllOthers_3 : decode qc_S_isAboveAllOthers 3 = .ok (.aload_n 0, 1) := by decide +kernel
theorem qd_S_isAboveAllOthers_4 : decode qc_S_isAboveAllOthers 4 = .ok (.getfield 24, 3) := by decide +kernel
theorem qd_S_isAboveAllOthers_7 : decode qc_S_isAboveAllOthers 7 = .ok (.if_icmp .ge 25, 3) := by decide +kernel
theorem qd_S_isAboveAllOthers_10 : decode qc_S_isAboveAllOthers 10 = .ok (.iload_n 2, 1) := by decide +kernel
theorem qd_S_isAboveAllOthers_11 : decode qc_S_isAboveAllOthers 11 = .ok (.iload_n 1, 1) := by decide +kernel
theorem qd_S_isAboveAllOthers_12 : decode qc_S_isAboveAllOthers 12 = .ok (.if_icmp .eq 14, 3) := by decide +kernel
theorem qd_S_isAboveAllOthers_15 : decode qc_S_isAboveAllOthers 15 = .ok (.aload_n 0, 1) := by decide +kernel
theorem qd_S_isAboveAllOthers_16 : decode qc_S_isAboveAllOthers 16 = .ok (.iload_n 1, 1) := by decide +kernel
theorem qd_S_isAboveAllOthers_17 : decode qc_S_isAboveAllOthers 17 = .ok (.iload_n 2, 1) := by decide +kernel
theorem qd_S_isAboveAllOthers_18 : decode qc_S_isAboveAllOthers 18 = .ok (.invokevirtual 46, 3) := by decide +kernel
theorem qd_S_isAboveAllOthers_21 : decode qc_S_isAboveAllOthers 21 = .ok (.ifCond .ne 5, 3) := by decide +kernel
theorem qd_S_isAboveAllOthers_24 : decode qc_S_isAboveAllOthers 24 = .ok (.iconst 0, 1) := by decide +kernel
theorem qd_S_isAboveAllOthers_25 : decode qc_S_isAboveAllOthers 25 = .ok (.ireturn, 1) := by decide +kernel
theorem qd_S_isAboveAllOthers_26 : decode qc_S_isAboveAllOthers 26 = .ok (.iinc 2 1, 3) := by decide +kernel
theorem qd_S_isAboveAllOthers_29 : decode qc_S_isAboveAllOthers 29 = .ok (.goto (-27), 3) := by decide +kernel
theorem qd_S_isAboveAllOthers_32 : decode qc_S_isAboveAllOthers 32 = .ok (.iconst 1, 1) := by decide +kernel
theorem qd_S_isAboveAllOthers_33 : decode qc_S_isAboveAllOthers 33 = .ok (.ireturn, 1) := by decide +kernel
abbrev qc_S_haveAdmissibleWeights : ByteArray := prog_5_method_12_code
abbrev qy_S_haveAdmissibleWeights : MethodName := ⟨"TermOrders$Symbols", "haveAdmissibleWeights", "()Z"⟩
abbrev qw_S_haveAdmissibleWeights : List Cond := (Jvm.Cond.code ({ cls := "TermOrders$Symbols", name := "haveAdmissibleWeights", desc := "()Z" } : Jvm.MethodName) prog_5_method_12_code (2 : Nat) (Option.some Jvm.ClassFile.FieldType.boolean)) :: gw
theorem qd_S_haveAdmissibleWeights_0 : decode qc_S_haveAdmissibleWeights 0 = .ok (.iconst 0, 1) := by decide +kernel
theorem qd_S_haveAdmissibleWeights_1 : decode qc_S_haveAdmissibleWeights 1 = .ok (.istore_n 1, 1) := by decide +kernel
theorem qd_S_haveAdmissibleWeights_2 : decode qc_S_haveAdmissibleWeights 2 = .ok (.iload_n 1, 1) := by decide +kernel
theorem qd_S_haveAdmissibleWeights_3 : decode qc_S_haveAdmissibleWeights 3 = .ok (.aload_n 0, 1) := by decide +kernel
theorem qd_S_haveAdmissibleWeights_4 : decode qc_S_haveAdmissibleWeights 4 = .ok (.getfield 24, 3) := by decide +kernel
theorem qd_S_haveAdmissibleWeights_7 : decode qc_S_haveAdmissibleWeights 7 = .ok (.if_icmp .ge 28, 3) := by decide +kernel
theorem qd_S_haveAdmissibleWeights_10 : decode qc_S_haveAdmissibleWeights 10 = .ok (.aload_n 0, 1) := by decide +kernel
theorem qd_S_haveAdmissibleWeights_11 : decode qc_S_haveAdmissibleWeights 11 = .ok (.getfield 18, 3) := by decide +kernel
theorem qd_S_haveAdmissibleWeights_14 : decode qc_S_haveAdmissibleWeights 14 = .ok (.iload_n 1, 1) := by decide +kernel
theorem qd_S_haveAdmissibleWeights_15 : decode qc_S_haveAdmissibleWeights 15 = .ok (.iaload, 1) := by decide +kernel
theorem qd_S_haveAdmissibleWeights_16 : decode qc_S_haveAdmissibleWeights 16 = .ok (.ifCond .ne 13, 3) := by decide +kernel
theorem qd_S_haveAdmissibleWeights_19 : decode qc_S_haveAdmissibleWeights 19 = .ok (.aload_n 0, 1) := by decide +kernel
theorem qd_S_haveAdmissibleWeights_20 : decode qc_S_haveAdmissibleWeights 20 = .ok (.iload_n 1, 1) := by decide +kernel
theorem qd_S_haveAdmissibleWeights_21 : decode qc_S_haveAdmissibleWeights 21 = .ok (.invokevirtual 50, 3) := by decide +kernel
theorem qd_S_haveAdmissibleWeights_24 : decode qc_S_haveAdmissibleWeights 24 = .ok (.ifCond .ne 5, 3) := by decide +kernel
theorem qd_S_haveAdmissibleWeights_27 : decode qc_S_haveAdmissibleWeights 27 = .ok (.iconst 0, 1) := by decide +kernel
theorem qd_S_haveAdmissibleWeights_28 : decode qc_S_haveAdmissibleWeights 28 = .ok (.ireturn, 1) := by decide +kernel
theorem qd_S_haveAdmissibleWeights_29 : decode qc_S_haveAdmissibleWeights 29 = .ok (.iinc 1 1, 3) := by decide +kernel
theorem qd_S_haveAdmissibleWeights_32 : decode qc_S_haveAdmissibleWeights 32 = .ok (.goto (-30), 3) := by decide +kernel
theorem qd_S_haveAdmissibleWeights_35 : decode qc_S_haveAdmissibleWeights 35 = .ok (.iconst 1, 1) := by decide +kernel
theorem qd_S_haveAdmissibleWeights_36 : decode qc_S_haveAdmissibleWeights 36 = .ok (.ireturn, 1) := by decide +kernel
abbrev qc_S_mayWeighNothing : ByteArray := prog_5_method_13_code
abbrev qy_S_mayWeighNothing : MethodName := ⟨"TermOrders$Symbols", "mayWeighNothing", "(I)Z"⟩
abbrev qw_S_mayWeighNothing : List Cond := (Jvm.Cond.code ({ cls := "TermOrders$Symbols", name := "mayWeighNothing", desc := "(I)Z" } : Jvm.MethodName) prog_5_method_13_code (2 : Nat) (Option.some Jvm.ClassFile.FieldType.boolean)) :: gw
theorem qd_S_mayWeighNothing_0 : decode qc_S_mayWeighNothing 0 = .ok (.aload_n 0, 1) := by decide +kernel
theorem qd_S_mayWeighNothing_1 : decode qc_S_mayWeighNothing 1 = .ok (.getfield 9, 3) := by decide +kernel
theorem qd_S_mayWeighNothing_4 : decode qc_S_mayWeighNothing 4 = .ok (.iload_n 1, 1) := by decide +kernel
theorem qd_S_mayWeighNothing_5 : decode qc_S_mayWeighNothing 5 = .ok (.iaload, 1) := by decide +kernel
theorem qd_S_mayWeighNothing_6 : decode qc_S_mayWeighNothing 6 = .ok (.ifCond .ne 5, 3) := by decide +kernel
theorem qd_S_mayWeighNothing_9 : decode qc_S_mayWeighNothing 9 = .ok (.iconst 0, 1) := by decide +kernel
theorem qd_S_mayWeighNothing_10 : decode qc_S_mayWeighNothing 10 = .ok (.ireturn, 1) := by decide +kernel
theorem qd_S_mayWeighNothing_11 : decode qc_S_mayWeighNothing 11 = .ok (.aload_n 0, 1) := by decide +kernel
theorem qd_S_mayWeighNothing_12 : decode qc_S_mayWeighNothing 12 = .ok (.getfield 9, 3) := by decide +kernel
theorem qd_S_mayWeighNothing_15 : decode qc_S_mayWeighNothing 15 = .ok (.iload_n 1, 1) := by decide +kernel
theorem qd_S_mayWeighNothing_16 : decode qc_S_mayWeighNothing 16 = .ok (.iaload, 1) := by decide +kernel
theorem qd_S_mayWeighNothing_17 : decode qc_S_mayWeighNothing 17 = .ok (.iconst 1, 1) := by decide +kernel
theorem qd_S_mayWeighNothing_18 : decode qc_S_mayWeighNothing 18 = .ok (.if_icmp .gt 11, 3) := by decide +kernel
theorem qd_S_mayWeighNothing_21 : decode qc_S_mayWeighNothing 21 = .ok (.aload_n 0, 1) := by decide +kernel
theorem qd_S_mayWeighNothing_22 : decode qc_S_mayWeighNothing 22 = .ok (.iload_n 1, 1) := by decide +kernel
theorem qd_S_mayWeighNothing_23 : decode qc_S_mayWeighNothing 23 = .ok (.invokevirtual 54, 3) := by decide +kernel
theorem qd_S_mayWeighNothing_26 : decode qc_S_mayWeighNothing 26 = .ok (.ifCond .eq 7, 3) := by decide +kernel
theorem qd_S_mayWeighNothing_29 : decode qc_S_mayWeighNothing 29 = .ok (.iconst 1, 1) := by decide +kernel
theorem qd_S_mayWeighNothing_30 : decode qc_S_mayWeighNothing 30 = .ok (.goto 4, 3) := by decide +kernel
theorem qd_S_mayWeighNothing_33 : decode qc_S_mayWeighNothing 33 = .ok (.iconst 0, 1) := by decide +kernel
theorem qd_S_mayWeighNothing_34 : decode qc_S_mayWeighNothing 34 = .ok (.ireturn, 1) := by decide +kernel
abbrev qc_S_weightOfPlace : ByteArray := prog_5_method_14_code
abbrev qy_S_weightOfPlace : MethodName := ⟨"TermOrders$Symbols", "weightOfPlace", "(LTermOrders$Term;I)I"⟩
abbrev qw_S_weightOfPlace : List Cond := (Jvm.Cond.code ({ cls := "TermOrders$Symbols", name := "weightOfPlace", desc := "(LTermOrders$Term;I)I" } : Jvm.MethodName) prog_5_method_14_code (5 : Nat) (Option.some Jvm.ClassFile.FieldType.int)) :: gw
theorem qd_S_weightOfPlace_0 : decode qc_S_weightOfPlace 0 = .ok (.iconst 0, 1) := by decide +kernel
theorem qd_S_weightOfPlace_1 : decode qc_S_weightOfPlace 1 = .ok (.istore_n 3, 1) := by decide +kernel
theorem qd_S_weightOfPlace_2 : decode qc_S_weightOfPlace 2 = .ok (.iload_n 2, 1) := by decide +kernel
theorem qd_S_weightOfPlace_3 : decode qc_S_weightOfPlace 3 = .ok (.istore 4, 2) := by decide +kernel
theorem qd_S_weightOfPlace_5 : decode qc_S_weightOfPlace 5 = .ok (.iload 4, 2) := by decide +kernel
theorem qd_S_weightOfPlace_7 : decode qc_S_weightOfPlace 7 = .ok (.aload_n 1, 1) := by decide +kernel
theorem qd_S_weightOfPlace_8 : decode qc_S_weightOfPlace 8 = .ok (.getfield 57, 3) := by decide +kernel
theorem qd_S_weightOfPlace_11 : decode qc_S_weightOfPlace 11 = .ok (.iload_n 2, 1) := by decide +kernel
theorem qd_S_weightOfPlace_12 : decode qc_S_weightOfPlace 12 = .ok (.iaload, 1) := by decide +kernel
theorem qd_S_weightOfPlace_13 : decode qc_S_weightOfPlace 13 = .ok (.if_icmp .ge 37, 3) := by decide +kernel
theorem qd_S_weightOfPlace_16 : decode qc_S_weightOfPlace 16 = .ok (.iload_n 3, 1) := by decide +kernel
theorem qd_S_weightOfPlace_17 : decode qc_S_weightOfPlace 17 = .ok (.aload_n 1, 1) := by decide +kernel
theorem qd_S_weightOfPlace_18 : decode qc_S_weightOfPlace 18 = .ok (.iload 4, 2) := by decide +kernel
theorem qd_S_weightOfPlace_20 : decode qc_S_weightOfPlace 20 = .ok (.invokevirtual 62, 3) := by decide +kernel
theorem qd_S_weightOfPlace_23 : decode qc_S_weightOfPlace 23 = .ok (.ifCond .eq 7, 3) := by decide +kernel
theorem qd_S_weightOfPlace_26 : decode qc_S_weightOfPlace 26 = .ok (.iconst 1, 1) := by decide +kernel
theorem qd_S_weightOfPlace_27 : decode qc_S_weightOfPlace 27 = .ok (.goto 15, 3) := by decide +kernel
theorem qd_S_weightOfPlace_30 : decode qc_S_weightOfPlace 30 = .ok (.aload_n 0, 1) := by decide +kernel
theorem qd_S_weightOfPlace_31 : decode qc_S_weightOfPlace 31 = .ok (.getfield 18, 3) := by decide +kernel
theorem qd_S_weightOfPlace_34 : decode qc_S_weightOfPlace 34 = .ok (.aload_n 1, 1) := by decide +kernel
theorem qd_S_weightOfPlace_35 : decode qc_S_weightOfPlace 35 = .ok (.getfield 65, 3) := by decide +kernel
theorem qd_S_weightOfPlace_38 : decode qc_S_weightOfPlace 38 = .ok (.iload 4, 2) := by decide +kernel
theorem qd_S_weightOfPlace_40 : decode qc_S_weightOfPlace 40 = .ok (.iaload, 1) := by decide +kernel
theorem qd_S_weightOfPlace_41 : decode qc_S_weightOfPlace 41 = .ok (.iaload, 1) := by decide +kernel
theorem qd_S_weightOfPlace_42 : decode qc_S_weightOfPlace 42 = .ok (.iadd, 1) := by decide +kernel
theorem qd_S_weightOfPlace_43 : decode qc_S_weightOfPlace 43 = .ok (.istore_n 3, 1) := by decide +kernel
theorem qd_S_weightOfPlace_44 : decode qc_S_weightOfPlace 44 = .ok (.iinc 4 1, 3) := by decide +kernel
theorem qd_S_weightOfPlace_47 : decode qc_S_weightOfPlace 47 = .ok (.goto (-42), 3) := by decide +kernel
theorem qd_S_weightOfPlace_50 : decode qc_S_weightOfPlace 50 = .ok (.iload_n 3, 1) := by decide +kernel
theorem qd_S_weightOfPlace_51 : decode qc_S_weightOfPlace 51 = .ok (.ireturn, 1) := by decide +kernel
abbrev qc_T_init : ByteArray := prog_6_method_1_code
abbrev qy_T_init : MethodName := ⟨"TermOrders$Term", "<init>", "([I[I[II)V"⟩
abbrev qw_T_init : List Cond := (Jvm.Cond.code ({ cls := "TermOrders$Term", name := "<init>", desc := "([I[I[II)V" } : Jvm.MethodName) prog_6_method_1_code (5 : Nat) (Option.none : Option Jvm.ClassFile.FieldType)) :: gw
theorem qd_T_init_0 : decode qc_T_init 0 = .ok (.aload_n 0, 1) := by decide +kernel
theorem qd_T_init_1 : decode qc_T_init 1 = .ok (.invokespecial 3, 3) := by decide +kernel
theorem qd_T_init_4 : decode qc_T_init 4 = .ok (.aload_n 0, 1) := by decide +kernel
theorem qd_T_init_5 : decode qc_T_init 5 = .ok (.aload_n 1, 1) := by decide +kernel
theorem qd_T_init_6 : decode qc_T_init 6 = .ok (.putfield 9, 3) := by decide +kernel
theorem qd_T_init_9 : decode qc_T_init 9 = .ok (.aload_n 0, 1) := by decide +kernel
theorem qd_T_init_10 : decode qc_T_init 10 = .ok (.aload_n 2, 1) := by decide +kernel
theorem qd_T_init_11 : decode qc_T_init 11 = .ok (.putfield 15, 3) := by decide +kernel
theorem qd_T_init_14 : decode qc_T_init 14 = .ok (.aload_n 0, 1) := by decide +kernel
theorem qd_T_init_15 : decode qc_T_init 15 = .ok (.aload_n 3, 1) := by decide +kernel
theorem qd_T_init_16 : decode qc_T_init 16 = .ok (.putfield 18, 3) := by decide +kernel
theorem qd_T_init_19 : decode qc_T_init 19 = .ok (.aload_n 0, 1) := by decide +kernel
theorem qd_T_init_20 : decode qc_T_init 20 = .ok (.aload_n 1, 1) := by decide +kernel
theorem qd_T_init_21 : decode qc_T_init 21 = .ok (.arraylength, 1) := by decide +kernel
theorem qd_T_init_22 : decode qc_T_init 22 = .ok (.putfield 21, 3) := by decide +kernel
theorem qd_T_init_25 : decode qc_T_init 25 = .ok (.aload_n 0, 1) := by decide +kernel
theorem qd_T_init_26 : decode qc_T_init 26 = .ok (.iload 4, 2) := by decide +kernel
theorem qd_T_init_28 : decode qc_T_init 28 = .ok (.putfield 25, 3) := by decide +kernel
theorem qd_T_init_31 : decode qc_T_init 31 = .ok (.return_, 1) := by decide +kernel
abbrev qc_T_isVariable : ByteArray := prog_6_method_2_code
abbrev qy_T_isVariable : MethodName := ⟨"TermOrders$Term", "isVariable", "(I)Z"⟩
abbrev qw_T_isVariable : List Cond := (Jvm.Cond.code ({ cls := "TermOrders$Term", name := "isVariable", desc := "(I)Z" } : Jvm.MethodName) prog_6_method_2_code (2 : Nat) (Option.some Jvm.ClassFile.FieldType.boolean)) :: gw
theorem qd_T_isVariable_0 : decode qc_T_isVariable 0 = .ok (.aload_n 0, 1) := by decide +kernel
theorem qd_T_isVariable_1 : decode qc_T_isVariable 1 = .ok (.getfield 9, 3) := by decide +kernel
theorem qd_T_isVariable_4 : decode qc_T_isVariable 4 = .ok (.iload_n 1, 1) := by decide +kernel
theorem qd_T_isVariable_5 : decode qc_T_isVariable 5 = .ok (.iaload, 1) := by decide +kernel
theorem qd_T_isVariable_6 : decode qc_T_isVariable 6 = .ok (.ifCond .ge 7, 3) := by decide +kernel
theorem qd_T_isVariable_9 : decode qc_T_isVariable 9 = .ok (.iconst 1, 1) := by decide +kernel
theorem qd_T_isVariable_10 : decode qc_T_isVariable 10 = .ok (.goto 4, 3) := by decide +kernel
theorem qd_T_isVariable_13 : decode qc_T_isVariable 13 = .ok (.iconst 0, 1) := by decide +kernel
theorem qd_T_isVariable_14 : decode qc_T_isVariable 14 = .ok (.ireturn, 1) := by decide +kernel
abbrev qc_T_partOf : ByteArray := prog_6_method_3_code
abbrev qy_T_partOf : MethodName := ⟨"TermOrders$Term", "partOf", "(II)I"⟩
abbrev qw_T_partOf : List Cond := (Jvm.Cond.code ({ cls := "TermOrders$Term", name := "partOf", desc := "(II)I" } : Jvm.MethodName) prog_6_method_3_code (5 : Nat) (Option.some Jvm.ClassFile.FieldType.int)) :: gw
theorem qd_T_partOf_0 : decode qc_T_partOf 0 = .ok (.iload_n 1, 1) := by decide +kernel
theorem qd_T_partOf_1 : decode qc_T_partOf 1 = .ok (.iconst 1, 1) := by decide +kernel
theorem qd_T_partOf_2 : decode qc_T_partOf 2 = .ok (.iadd, 1) := by decide +kernel
theorem qd_T_partOf_3 : decode qc_T_partOf 3 = .ok (.istore_n 3, 1) := by decide +kernel
theorem qd_T_partOf_4 : decode qc_T_partOf 4 = .ok (.iconst 0, 1) := by decide +kernel
theorem qd_T_partOf_5 : decode qc_T_partOf 5 = .ok (.istore 4, 2) := by decide +kernel
theorem qd_T_partOf_7 : decode qc_T_partOf 7 = .ok (.iload 4, 2) := by decide +kernel
theorem qd_T_partOf_9 : decode qc_T_partOf 9 = .ok (.iload_n 2, 1) := by decide +kernel
theorem qd_T_partOf_10 : decode qc_T_partOf 10 = .ok (.if_icmp .ge 24, 3) := by decide +kernel
theorem qd_T_partOf_13 : decode qc_T_partOf 13 = .ok (.iload_n 3, 1) := by decide +kernel
theorem qd_T_partOf_14 : decode qc_T_partOf 14 = .ok (.aload_n 0, 1) := by decide +kernel
theorem qd_T_partOf_15 : decode qc_T_partOf 15 = .ok (.getfield 21, 3) := by decide +kernel
theorem qd_T_partOf_18 : decode qc_T_partOf 18 = .ok (.if_icmp .ge 16, 3) := by decide +kernel
theorem qd_T_partOf_21 : decode qc_T_partOf 21 = .ok (.aload_n 0, 1) := by decide +kernel
theorem qd_T_partOf_22 : decode qc_T_partOf 22 = .ok (.getfield 18, 3) := by decide +kernel
theorem qd_T_partOf_25 : decode qc_T_partOf 25 = .ok (.iload_n 3, 1) := by decide +kernel
theorem qd_T_partOf_26 : decode qc_T_partOf 26 = .ok (.iaload, 1) := by decide +kernel
theorem qd_T_partOf_27 : decode qc_T_partOf 27 = .ok (.istore_n 3, 1) := by decide +kernel
theorem qd_T_partOf_28 : decode qc_T_partOf 28 = .ok (.iinc 4 1, 3) := by decide +kernel
theorem qd_T_partOf_31 : decode qc_T_partOf 31 = .ok (.goto (-24), 3) := by decide +kernel
theorem qd_T_partOf_34 : decode qc_T_partOf 34 = .ok (.iload_n 3, 1) := by decide +kernel
theorem qd_T_partOf_35 : decode qc_T_partOf 35 = .ok (.ireturn, 1) := by decide +kernel
abbrev qc_T_isSamePlace : ByteArray := prog_6_method_4_code
abbrev qy_T_isSamePlace : MethodName := ⟨"TermOrders$Term", "isSamePlace", "(ILTermOrders$Term;I)Z"⟩
abbrev qw_T_isSamePlace : List Cond := (Jvm.Cond.code ({ cls := "TermOrders$Term", name := "isSamePlace", desc := "(ILTermOrders$Term;I)Z" } : Jvm.MethodName) prog_6_method_4_code (6 : Nat) (Option.some Jvm.ClassFile.FieldType.boolean)) :: gw
theorem qd_T_isSamePlace_0 : decode qc_T_isSamePlace 0 = .ok (.aload_n 0, 1) := by decide +kernel
theorem qd_T_isSamePlace_1 : decode qc_T_isSamePlace 1 = .ok (.getfield 18, 3) := by decide +kernel
theorem qd_T_isSamePlace_4 : decode qc_T_isSamePlace 4 = .ok (.iload_n 1, 1) := by decide +kernel
theorem qd_T_isSamePlace_5 : decode qc_T_isSamePlace 5 = .ok (.iaload, 1) := by decide +kernel
theorem qd_T_isSamePlace_6 : decode qc_T_isSamePlace 6 = .ok (.iload_n 1, 1) := by decide +kernel
theorem qd_T_isSamePlace_7 : decode qc_T_isSamePlace 7 = .ok (.isub, 1) := by decide +kernel
theorem qd_T_isSamePlace_8 : decode qc_T_isSamePlace 8 = .ok (.istore 4, 2) := by decide +kernel
theorem qd_T_isSamePlace_10 : decode qc_T_isSamePlace 10 = .ok (.iload 4, 2) := by decide +kernel
theorem qd_T_isSamePlace_12 : decode qc_T_isSamePlace 12 = .ok (.aload_n 2, 1) := by decide +kernel
theorem qd_T_isSamePlace_13 : decode qc_T_isSamePlace 13 = .ok (.getfield 18, 3) := by decide +kernel
theorem qd_T_isSamePlace_16 : decode qc_T_isSamePlace 16 = .ok (.iload_n 3, 1) := by decide +kernel
theorem qd_T_isSamePlace_17 : decode qc_T_isSamePlace 17 = .ok (.iaload, 1) := by decide +kernel
theorem qd_T_isSamePlace_18 : decode qc_T_isSamePlace 18 = .ok (.iload_n 3, 1) := by decide +kernel
theorem qd_T_isSamePlace_19 : decode qc_T_isSamePlace 19 = .ok (.isub, 1) := by decide +kernel
theorem qd_T_isSamePlace_20 : decode qc_T_isSamePlace 20 = .ok (.if_icmp .eq 5, 3) := by decide +kernel
theorem qd_T_isSamePlace_23 : decode qc_T_isSamePlace 23 = .ok (.iconst 0, 1) := by decide +kernel
theorem qd_T_isSamePlace_24 : decode qc_T_isSamePlace 24 = .ok (.ireturn, 1) := by decide +kernel
theorem qd_T_isSamePlace_25 : decode qc_T_isSamePlace 25 = .ok (.iconst 0, 1) := by decide +kernel
theorem qd_T_isSamePlace_26 : decode qc_T_isSamePlace 26 = .ok (.istore 5, 2) := by decide +kernel
theorem qd_T_isSamePlace_28 : decode qc_T_isSamePlace 28 = .ok (.iload 5, 2) := by decide +kernel
theorem qd_T_isSamePlace_30 : decode qc_T_isSamePlace 30 = .ok (.iload 4, 2) := by decide +kernel
theorem qd_T_isSamePlace_32 : decode qc_T_isSamePlace 32 = .ok (.if_icmp .ge 32, 3) := by decide +kernel
theorem qd_T_isSamePlace_35 : decode qc_T_isSamePlace 35 = .ok (.aload_n 0, 1) := by decide +kernel
theorem qd_T_isSamePlace_36 : decode qc_T_isSamePlace 36 = .ok (.getfield 9, 3) := by decide +kernel
theorem qd_T_isSamePlace_39 : decode qc_T_isSamePlace 39 = .ok (.iload_n 1, 1) := by decide +kernel
theorem qd_T_isSamePlace_40 : decode qc_T_isSamePlace 40 = .ok (.iload 5, 2) := by decide +kernel
theorem qd_T_isSamePlace_42 : decode qc_T_isSamePlace 42 = .ok (.iadd, 1) := by decide +kernel
theorem qd_T_isSamePlace_43 : decode qc_T_isSamePlace 43 = .ok (.iaload, 1) := by decide +kernel
theorem qd_T_isSamePlace_44 : decode qc_T_isSamePlace 44 = .ok (.aload_n 2, 1) := by decide +kernel
theorem qd_T_isSamePlace_45 : decode qc_T_isSamePlace 45 = .ok (.getfield 9, 3) := by decide +kernel
theorem qd_T_isSamePlace_48 : decode qc_T_isSamePlace 48 = .ok (.iload_n 3, 1) := by decide +kernel
theorem qd_T_isSamePlace_49 : decode qc_T_isSamePlace 49 = .ok (.iload 5, 2) := by decide +kernel
theorem qd_T_isSamePlace_51 : decode qc_T_isSamePlace 51 = .ok (.iadd, 1) := by decide +kernel
theorem qd_T_isSamePlace_52 : decode qc_T_isSamePlace 52 = .ok (.iaload, 1) := by decide +kernel
theorem qd_T_isSamePlace_53 : decode qc_T_isSamePlace 53 = .ok (.if_icmp .eq 5, 3) := by decide +kernel
theorem qd_T_isSamePlace_56 : decode qc_T_isSamePlace 56 = .ok (.iconst 0, 1) := by decide +kernel
theorem qd_T_isSamePlace_57 : decode qc_T_isSamePlace 57 = .ok (.ireturn, 1) := by decide +kernel
theorem qd_T_isSamePlace_58 : decode qc_T_isSamePlace 58 = .ok (.iinc 5 1, 3) := by decide +kernel
theorem qd_T_isSamePlace_61 : decode qc_T_isSamePlace 61 = .ok (.goto (-33), 3) := by decide +kernel
theorem qd_T_isSamePlace_64 : decode qc_T_isSamePlace 64 = .ok (.iconst 1, 1) := by decide +kernel
theorem qd_T_isSamePlace_65 : decode qc_T_isSamePlace 65 = .ok (.ireturn, 1) := by decide +kernel
abbrev qc_T_firstOtherPart : ByteArray := prog_6_method_5_code
abbrev qy_T_firstOtherPart : MethodName := ⟨"TermOrders$Term", "firstOtherPart", "(ILTermOrders$Term;I)I"⟩
abbrev qw_T_firstOtherPart : List Cond := (Jvm.Cond.code ({ cls := "TermOrders$Term", name := "firstOtherPart", desc := "(ILTermOrders$Term;I)I" } : Jvm.MethodName) prog_6_method_5_code (5 : Nat) (Option.some Jvm.ClassFile.FieldType.int)) :: gw
theorem qd_T_firstOtherPart_0 : decode qc_T_firstOtherPart 0 = .ok (.iconst 0, 1) := by decide +kernel
theorem qd_T_firstOtherPart_1 : decode qc_T_firstOtherPart 1 = .ok (.istore 4, 2) := by decide +kernel
theorem qd_T_firstOtherPart_3 : decode qc_T_firstOtherPart 3 = .ok (.iload 4, 2) := by decide +kernel
theorem qd_T_firstOtherPart_5 : decode qc_T_firstOtherPart 5 = .ok (.aload_n 0, 1) := by decide +kernel
theorem qd_T_firstOtherPart_6 : decode qc_T_firstOtherPart 6 = .ok (.getfield 15, 3) := by decide +kernel
theorem qd_T_firstOtherPart_9 : decode qc_T_firstOtherPart 9 = .ok (.iload_n 1, 1) := by decide +kernel
theorem qd_T_firstOtherPart_10 : decode qc_T_firstOtherPart 10 = .ok (.iaload, 1) := by decide +kernel
theorem qd_T_firstOtherPart_11 : decode qc_T_firstOtherPart 11 = .ok (.if_icmp .ge 34, 3) := by decide +kernel
theorem qd_T_firstOtherPart_14 : decode qc_T_firstOtherPart 14 = .ok (.aload_n 0, 1) := by decide +kernel
theorem qd_T_firstOtherPart_15 : decode qc_T_firstOtherPart 15 = .ok (.aload_n 0, 1) := by decide +kernel
theorem qd_T_firstOtherPart_16 : decode qc_T_firstOtherPart 16 = .ok (.iload_n 1, 1) := by decide +kernel
theorem qd_T_firstOtherPart_17 : decode qc_T_firstOtherPart 17 = .ok (.iload 4, 2) := by decide +kernel
theorem qd_T_firstOtherPart_19 : decode qc_T_firstOtherPart 19 = .ok (.invokevirtual 28, 3) := by decide +kernel
theorem qd_T_firstOtherPart_22 : decode qc_T_firstOtherPart 22 = .ok (.aload_n 2, 1) := by decide +kernel
theorem qd_T_firstOtherPart_23 : decode qc_T_firstOtherPart 23 = .ok (.aload_n 2, 1) := by decide +kernel
theorem qd_T_firstOtherPart_24 : decode qc_T_firstOtherPart 24 = .ok (.iload_n 3, 1) := by decide +kernel
theorem qd_T_firstOtherPart_25 : decode qc_T_firstOtherPart 25 = .ok (.iload 4, 2) := by decide +kernel
theorem qd_T_firstOtherPart_27 : decode qc_T_firstOtherPart 27 = .ok (.invokevirtual 28, 3) := by decide +kernel
theorem qd_T_firstOtherPart_30 : decode qc_T_firstOtherPart 30 = .ok (.invokevirtual 32, 3) := by decide +kernel
theorem qd_T_firstOtherPart_33 : decode qc_T_firstOtherPart 33 = .ok (.ifCond .ne 6, 3) := by decide +kernel
theorem qd_T_firstOtherPart_36 : decode qc_T_firstOtherPart 36 = .ok (.iload 4, 2) := by decide +kernel
theorem qd_T_firstOtherPart_38 : decode qc_T_firstOtherPart 38 = .ok (.ireturn, 1) := by decide +kernel
theorem qd_T_firstOtherPart_39 : decode qc_T_firstOtherPart 39 = .ok (.iinc 4 1, 3) := by decide +kernel
theorem qd_T_firstOtherPart_42 : decode qc_T_firstOtherPart 42 = .ok (.goto (-39), 3) := by decide +kernel
theorem qd_T_firstOtherPart_45 : decode qc_T_firstOtherPart 45 = .ok (.iconst (-1), 1) := by decide +kernel
theorem qd_T_firstOtherPart_46 : decode qc_T_firstOtherPart 46 = .ok (.ireturn, 1) := by decide +kernel
abbrev qc_T_countInPlace : ByteArray := prog_6_method_6_code
abbrev qy_T_countInPlace : MethodName := ⟨"TermOrders$Term", "countInPlace", "(II)I"⟩
abbrev qw_T_countInPlace : List Cond := (Jvm.Cond.code ({ cls := "TermOrders$Term", name := "countInPlace", desc := "(II)I" } : Jvm.MethodName) prog_6_method_6_code (5 : Nat) (Option.some Jvm.ClassFile.FieldType.int)) :: gw
theorem qd_T_countInPlace_0 : decode qc_T_countInPlace 0 = .ok (.iconst 0, 1) := by decide +kernel
theorem qd_T_countInPlace_1 : decode qc_T_countInPlace 1 = .ok (.istore_n 3, 1) := by decide +kernel
theorem qd_T_countInPlace_2 : decode qc_T_countInPlace 2 = .ok (.iload_n 1, 1) := by decide +kernel
theorem qd_T_countInPlace_3 : decode qc_T_countInPlace 3 = .ok (.istore 4, 2) := by decide +kernel
theorem qd_T_countInPlace_5 : decode qc_T_countInPlace 5 = .ok (.iload 4, 2) := by decide +kernel
theorem qd_T_countInPlace_7 : decode qc_T_countInPlace 7 = .ok (.aload_n 0, 1) := by decide +kernel
theorem qd_T_countInPlace_8 : decode qc_T_countInPlace 8 = .ok (.getfield 18, 3) := by decide +kernel
theorem qd_T_countInPlace_11 : decode qc_T_countInPlace 11 = .ok (.iload_n 1, 1) := by decide +kernel
theorem qd_T_countInPlace_12 : decode qc_T_countInPlace 12 = .ok (.iaload, 1) := by decide +kernel
theorem qd_T_countInPlace_13 : decode qc_T_countInPlace 13 = .ok (.if_icmp .ge 23, 3) := by decide +kernel
theorem qd_T_countInPlace_16 : decode qc_T_countInPlace 16 = .ok (.aload_n 0, 1) := by decide +kernel
theorem qd_T_countInPlace_17 : decode qc_T_countInPlace 17 = .ok (.getfield 9, 3) := by decide +kernel
theorem qd_T_countInPlace_20 : decode qc_T_countInPlace 20 = .ok (.iload 4, 2) := by decide +kernel
theorem qd_T_countInPlace_22 : decode qc_T_countInPlace 22 = .ok (.iaload, 1) := by decide +kernel
theorem qd_T_countInPlace_23 : decode qc_T_countInPlace 23 = .ok (.iload_n 2, 1) := by decide +kernel
theorem qd_T_countInPlace_24 : decode qc_T_countInPlace 24 = .ok (.if_icmp .ne 6, 3) := by decide +kernel
theorem qd_T_countInPlace_27 : decode qc_T_countInPlace 27 = .ok (.iinc 3 1, 3) := by decide +kernel
theorem qd_T_countInPlace_30 : decode qc_T_countInPlace 30 = .ok (.iinc 4 1, 3) := by decide +kernel
theorem qd_T_countInPlace_33 : decode qc_T_countInPlace 33 = .ok (.goto (-28), 3) := by decide +kernel
theorem qd_T_countInPlace_36 : decode qc_T_countInPlace 36 = .ok (.iload_n 3, 1) := by decide +kernel
theorem qd_T_countInPlace_37 : decode qc_T_countInPlace 37 = .ok (.ireturn, 1) := by decide +kernel
abbrev qc_T_hasAllVariablesOf : ByteArray := prog_6_method_7_code
abbrev qy_T_hasAllVariablesOf : MethodName := ⟨"TermOrders$Term", "hasAllVariablesOf", "(LTermOrders$Term;)Z"⟩
abbrev qw_T_hasAllVariablesOf : List Cond := (Jvm.Cond.code ({ cls := "TermOrders$Term", name := "hasAllVariablesOf", desc := "(LTermOrders$Term;)Z" } : Jvm.MethodName) prog_6_method_7_code (3 : Nat) (Option.some Jvm.ClassFile.FieldType.boolean)) :: gw
theorem qd_T_hasAllVariablesOf_0 : decode qc_T_hasAllVariablesOf 0 = .ok (.iconst 0, 1) := by decide +kernel
theorem qd_T_hasAllVariablesOf_1 : decode qc_T_hasAllVariablesOf 1 = .ok (.istore_n 2, 1) := by decide +kernel
theorem qd_T_hasAllVariablesOf_2 : decode qc_T_hasAllVariablesOf 2 = .ok (.iload_n 2, 1) := by decide +kernel
theorem qd_T_hasAllVariablesOf_3 : decode qc_T_hasAllVariablesOf 3 = .ok (.aload_n 1, 1) := by decide +kernel
theorem qd_T_hasAllVariablesOf_4 : decode qc_T_hasAllVariablesOf 4 = .ok (.getfield 21, 3) := by decide +kernel
theorem qd_T_hasAllVariablesOf_7 : decode qc_T_hasAllVariablesOf 7 = .ok (.if_icmp .ge 33, 3) := by decide +kernel
theorem qd_T_hasAllVariablesOf_10 : decode qc_T_hasAllVariablesOf 10 = .ok (.aload_n 1, 1) := by decide +kernel
theorem qd_T_hasAllVariablesOf_11 : decode qc_T_hasAllVariablesOf 11 = .ok (.iload_n 2, 1) := by decide +kernel
theorem qd_T_hasAllVariablesOf_12 : decode qc_T_hasAllVariablesOf 12 = .ok (.invokevirtual 36, 3) := by decide +kernel
theorem qd_T_hasAllVariablesOf_15 : decode qc_T_hasAllVariablesOf 15 = .ok (.ifCond .eq 19, 3) := by decide +kernel
theorem qd_T_hasAllVariablesOf_18 : decode qc_T_hasAllVariablesOf 18 = .ok (.aload_n 0, 1) := by decide +kernel
theorem qd_T_hasAllVariablesOf_19 : decode qc_T_hasAllVariablesOf 19 = .ok (.iconst 0, 1) := by decide +kernel
theorem qd_T_hasAllVariablesOf_20 : decode qc_T_hasAllVariablesOf 20 = .ok (.aload_n 1, 1) := by decide +kernel
theorem qd_T_hasAllVariablesOf_21 : decode qc_T_hasAllVariablesOf 21 = .ok (.getfield 9, 3) := by decide +kernel
theorem qd_T_hasAllVariablesOf_24 : decode qc_T_hasAllVariablesOf 24 = .ok (.iload_n 2, 1) := by decide +kernel
theorem qd_T_hasAllVariablesOf_25 : decode qc_T_hasAllVariablesOf 25 = .ok (.iaload, 1) := by decide +kernel
theorem qd_T_hasAllVariablesOf_26 : decode qc_T_hasAllVariablesOf 26 = .ok (.invokevirtual 40, 3) := by decide +kernel
theorem qd_T_hasAllVariablesOf_29 : decode qc_T_hasAllVariablesOf 29 = .ok (.ifCond .ne 5, 3) := by decide +kernel
theorem qd_T_hasAllVariablesOf_32 : decode qc_T_hasAllVariablesOf 32 = .ok (.iconst 0, 1) := by decide +kernel
theorem qd_T_hasAllVariablesOf_33 : decode qc_T_hasAllVariablesOf 33 = .ok (.ireturn, 1) := by decide +kernel
theorem qd_T_hasAllVariablesOf_34 : decode qc_T_hasAllVariablesOf 34 = .ok (.iinc 2 1, 3) := by decide +kernel
theorem qd_T_hasAllVariablesOf_37 : decode qc_T_hasAllVariablesOf 37 = .ok (.goto (-35), 3) := by decide +kernel
theorem qd_T_hasAllVariablesOf_40 : decode qc_T_hasAllVariablesOf 40 = .ok (.iconst 1, 1) := by decide +kernel
theorem qd_T_hasAllVariablesOf_41 : decode qc_T_hasAllVariablesOf 41 = .ok (.ireturn, 1) := by decide +kernel
abbrev qc_T_hasEachVariableAsOften : ByteArray := prog_6_method_8_code
abbrev qy_T_hasEachVariableAsOften : MethodName := ⟨"TermOrders$Term", "hasEachVariableAsOften", "(ILTermOrders$Term;I)Z"⟩
abbrev qw_T_hasEachVariableAsOften : List Cond := (Jvm.Cond.code ({ cls := "TermOrders$Term", name := "hasEachVariableAsOften", desc := "(ILTermOrders$Term;I)Z" } : Jvm.MethodName) prog_6_method_8_code (5 : Nat) (Option.some Jvm.ClassFile.FieldType.boolean)) :: gw
theorem qd_T_hasEachVariableAsOften_0 : decode qc_T_hasEachVariableAsOften 0 = .ok (.iconst 0, 1) := by decide +kernel
theorem qd_T_hasEachVariableAsOften_1 : decode qc_T_hasEachVariableAsOften 1 = .ok (.istore 4, 2) := by decide +kernel
theorem qd_T_hasEachVariableAsOften_3 : decode qc_T_hasEachVariableAsOften 3 = .ok (.iload 4, 2) := by decide +kernel
theorem qd_T_hasEachVariableAsOften_5 : decode qc_T_hasEachVariableAsOften 5 = .ok (.iconst 4, 1) := by decide +kernel
theorem qd_T_hasEachVariableAsOften_6 : decode qc_T_hasEachVariableAsOften 6 = .ok (.if_icmp .ge 32, 3) := by decide +kernel
theorem qd_T_hasEachVariableAsOften_9 : decode qc_T_hasEachVariableAsOften 9 = .ok (.aload_n 0, 1) := by decide +kernel
theorem qd_T_hasEachVariableAsOften_10 : decode qc_T_hasEachVariableAsOften 10 = .ok (.iload_n 1, 1) := by decide +kernel
theorem qd_T_hasEachVariableAsOften_11 : decode qc_T_hasEachVariableAsOften 11 = .ok (.iconst (-1), 1) := by decide +kernel
theorem qd_T_hasEachVariableAsOften_12 : decode qc_T_hasEachVariableAsOften 12 = .ok (.iload 4, 2) := by decide +kernel
theorem qd_T_hasEachVariableAsOften_14 : decode qc_T_hasEachVariableAsOften 14 = .ok (.isub, 1) := by decide +kernel
theorem qd_T_hasEachVariableAsOften_15 : decode qc_T_hasEachVariableAsOften 15 = .ok (.invokevirtual 40, 3) := by decide +kernel
theorem qd_T_hasEachVariableAsOften_18 : decode qc_T_hasEachVariableAsOften 18 = .ok (.aload_n 2, 1) := by decide +kernel
theorem qd_T_hasEachVariableAsOften_19 : decode qc_T_hasEachVariableAsOften 19 = .ok (.iload_n 3, 1) := by decide +kernel
theorem qd_T_hasEachVariableAsOften_20 : decode qc_T_hasEachVariableAsOften 20 = .ok (.iconst (-1), 1) := by decide +kernel
theorem qd_T_hasEachVariableAsOften_21 : decode qc_T_hasEachVariableAsOften 21 = .ok (.iload 4, 2) := by decide +kernel
theorem qd_T_hasEachVariableAsOften_23 : decode qc_T_hasEachVariableAsOften 23 = .ok (.isub, 1) := by decide +kernel
theorem qd_T_hasEachVariableAsOften_24 : decode qc_T_hasEachVariableAsOften 24 = .ok (.invokevirtual 40, 3) := by decide +kernel
theorem qd_T_hasEachVariableAsOften_27 : decode qc_T_hasEachVariableAsOften 27 = .ok (.if_icmp .ge 5, 3) := by decide +kernel
theorem qd_T_hasEachVariableAsOften_30 : decode qc_T_hasEachVariableAsOften 30 = .ok (.iconst 0, 1) := by decide +kernel
theorem qd_T_hasEachVariableAsOften_31 : decode qc_T_hasEachVariableAsOften 31 = .ok (.ireturn, 1) := by decide +kernel
theorem qd_T_hasEachVariableAsOften_32 : decode qc_T_hasEachVariableAsOften 32 = .ok (.iinc 4 1, 3) := by decide +kernel
theorem qd_T_hasEachVariableAsOften_35 : decode qc_T_hasEachVariableAsOften 35 = .ok (.goto (-32), 3) := by decide +kernel
theorem qd_T_hasEachVariableAsOften_38 : decode qc_T_hasEachVariableAsOften 38 = .ok (.iconst 1, 1) := by decide +kernel
theorem qd_T_hasEachVariableAsOften_39 : decode qc_T_hasEachVariableAsOften 39 = .ok (.ireturn, 1) := by decide +kernel
abbrev qc_T_isVariableWithin : ByteArray := prog_6_method_9_code
abbrev qy_T_isVariableWithin : MethodName := ⟨"TermOrders$Term", "isVariableWithin", "(II)Z"⟩
abbrev qw_T_isVariableWithin : List Cond := (Jvm.Cond.code ({ cls := "TermOrders$Term", name := "isVariableWithin", desc := "(II)Z" } : Jvm.MethodName) prog_6_method_9_code (5 : Nat) (Option.some Jvm.ClassFile.FieldType.boolean)) :: gw
theorem qd_T_isVariableWithin_0 : decode qc_T_isVariableWithin 0 = .ok (.aload_n 0, 1) := by decide +kernel
theorem qd_T_isVariableWithin_1 : decode qc_T_isVariableWithin 1 = .ok (.getfield 18, 3) := by decide +kernel
theorem qd_T_isVariableWithin_4 : decode qc_T_isVariableWithin 4 = .ok (.iload_n 1, 1) := by decide +kernel
theorem qd_T_isVariableWithin_5 : decode qc_T_isVariableWithin 5 = .ok (.iaload, 1) := by decide +kernel
theorem qd_T_isVariableWithin_6 : decode qc_T_isVariableWithin 6 = .ok (.iconst 1, 1) := by decide +kernel
theorem qd_T_isVariableWithin_7 : decode qc_T_isVariableWithin 7 = .ok (.isub, 1) := by decide +kernel
theorem qd_T_isVariableWithin_8 : decode qc_T_isVariableWithin 8 = .ok (.istore_n 3, 1) := by decide +kernel
theorem qd_T_isVariableWithin_9 : decode qc_T_isVariableWithin 9 = .ok (.iload_n 3, 1) := by decide +kernel
theorem qd_T_isVariableWithin_10 : decode qc_T_isVariableWithin 10 = .ok (.iload_n 1, 1) := by decide +kernel
theorem qd_T_isVariableWithin_11 : decode qc_T_isVariableWithin 11 = .ok (.if_icmp .eq 13, 3) := by decide +kernel
theorem qd_T_isVariableWithin_14 : decode qc_T_isVariableWithin 14 = .ok (.aload_n 0, 1) := by decide +kernel
theorem qd_T_isVariableWithin_15 : decode qc_T_isVariableWithin 15 = .ok (.getfield 9, 3) := by decide +kernel
theorem qd_T_isVariableWithin_18 : decode qc_T_isVariableWithin 18 = .ok (.iload_n 3, 1) := by decide +kernel
theorem qd_T_isVariableWithin_19 : decode qc_T_isVariableWithin 19 = .ok (.iaload, 1) := by decide +kernel
theorem qd_T_isVariableWithin_20 : decode qc_T_isVariableWithin 20 = .ok (.iload_n 2, 1) := by decide +kernel
theorem qd_T_isVariableWithin_21 : decode qc_T_isVariableWithin 21 = .ok (.if_icmp .eq 5, 3) := by decide +kernel
theorem qd_T_isVariableWithin_24 : decode qc_T_isVariableWithin 24 = .ok (.iconst 0, 1) := by decide +kernel
theorem qd_T_isVariableWithin_25 : decode qc_T_isVariableWithin 25 = .ok (.ireturn, 1) := by decide +kernel
theorem qd_T_isVariableWithin_26 : decode qc_T_isVariableWithin 26 = .ok (.iload_n 1, 1) := by decide +kernel
theorem qd_T_isVariableWithin_27 : decode qc_T_isVariableWithin 27 = .ok (.istore 4, 2) := by decide +kernel
theorem qd_T_isVariableWithin_29 : decode qc_T_isVariableWithin 29 = .ok (.iload 4, 2) := by decide +kernel
theorem qd_T_isVariableWithin_31 : decode qc_T_isVariableWithin 31 = .ok (.iload_n 3, 1) := by decide +kernel
theorem qd_T_isVariableWithin_32 : decode qc_T_isVariableWithin 32 = .ok (.if_icmp .ge 38, 3) := by decide +kernel
theorem qd_T_isVariableWithin_35 : decode qc_T_isVariableWithin 35 = .ok (.aload_n 0, 1) := by decide +kernel
theorem qd_T_isVariableWithin_36 : decode qc_T_isVariableWithin 36 = .ok (.getfield 15, 3) := by decide +kernel
theorem qd_T_isVariableWithin_39 : decode qc_T_isVariableWithin 39 = .ok (.iload 4, 2) := by decide +kernel
theorem qd_T_isVariableWithin_41 : decode qc_T_isVariableWithin 41 = .ok (.iaload, 1) := by decide +kernel
theorem qd_T_isVariableWithin_42 : decode qc_T_isVariableWithin 42 = .ok (.iconst 1, 1) := by decide +kernel
theorem qd_T_isVariableWithin_43 : decode qc_T_isVariableWithin 43 = .ok (.if_icmp .ne 19, 3) := by decide +kernel
theorem qd_T_isVariableWithin_46 : decode qc_T_isVariableWithin 46 = .ok (.aload_n 0, 1) := by decide +kernel
theorem qd_T_isVariableWithin_47 : decode qc_T_isVariableWithin 47 = .ok (.getfield 9, 3) := by decide +kernel
theorem qd_T_isVariableWithin_50 : decode qc_T_isVariableWithin 50 = .ok (.iload 4, 2) := by decide +kernel
theorem qd_T_isVariableWithin_52 : decode qc_T_isVariableWithin 52 = .ok (.iaload, 1) := by decide +kernel
theorem qd_T_isVariableWithin_53 : decode qc_T_isVariableWithin 53 = .ok (.aload_n 0, 1) := by decide +kernel
theorem qd_T_isVariableWithin_54 : decode qc_T_isVariableWithin 54 = .ok (.getfield 9, 3) := by decide +kernel
theorem qd_T_isVariableWithin_57 : decode qc_T_isVariableWithin 57 = .ok (.iload_n 1, 1) := by decide +kernel
theorem qd_T_isVariableWithin_58 : decode qc_T_isVariableWithin 58 = .ok (.iaload, 1) := by decide +kernel
theorem qd_T_isVariableWithin_59 : decode qc_T_isVariableWithin 59 = .ok (.if_icmp .eq 5, 3) := by decide +kernel
theorem qd_T_isVariableWithin_62 : decode qc_T_isVariableWithin 62 = .ok (.iconst 0, 1) := by decide +kernel
theorem qd_T_isVariableWithin_63 : decode qc_T_isVariableWithin 63 = .ok (.ireturn, 1) := by decide +kernel
theorem qd_T_isVariableWithin_64 : decode qc_T_isVariableWithin 64 = .ok (.iinc 4 1, 3) := by decide +kernel
theorem qd_T_isVariableWithin_67 : decode qc_T_isVariableWithin 67 = .ok (.goto (-38), 3) := by decide +kernel
theorem qd_T_isVariableWithin_70 : decode qc_T_isVariableWithin 70 = .ok (.iconst 1, 1) := by decide +kernel
theorem qd_T_isVariableWithin_71 : decode qc_T_isVariableWithin 71 = .ok (.ireturn, 1) := by decide +kernel
abbrev qc_A_copyOf : ByteArray := prog_19_method_123_code
abbrev qy_A_copyOf : MethodName := ⟨"java/util/Arrays", "copyOf", "([II)[I"⟩
abbrev qw_A_copyOf : List Cond := (Jvm.Cond.code ({ cls := "java/util/Arrays", name := "copyOf", desc := "([II)[I" } : Jvm.MethodName) prog_19_method_123_code (3 : Nat) (Option.some (Jvm.ClassFile.FieldType.array Jvm.ClassFile.FieldType.int))) :: gw
theorem qd_A_copyOf_0 : decode qc_A_copyOf 0 = .ok (.iload_n 1, 1) := by decide +kernel
theorem qd_A_copyOf_1 : decode qc_A_copyOf 1 = .ok (.aload_n 0, 1) := by decide +kernel
theorem qd_A_copyOf_2 : decode qc_A_copyOf 2 = .ok (.arraylength, 1) := by decide +kernel
theorem qd_A_copyOf_3 : decode qc_A_copyOf 3 = .ok (.if_icmp .ne 11, 3) := by decide +kernel
theorem qd_A_copyOf_6 : decode qc_A_copyOf 6 = .ok (.aload_n 0, 1) := by decide +kernel
theorem qd_A_copyOf_7 : decode qc_A_copyOf 7 = .ok (.invokevirtual 316, 3) := by decide +kernel
theorem qd_A_copyOf_10 : decode qc_A_copyOf 10 = .ok (.checkcast 317, 3) := by decide +kernel
theorem qd_A_copyOf_13 : decode qc_A_copyOf 13 = .ok (.areturn, 1) := by decide +kernel
theorem qd_A_copyOf_14 : decode qc_A_copyOf 14 = .ok (.iload_n 1, 1) := by decide +kernel
theorem qd_A_copyOf_15 : decode qc_A_copyOf 15 = .ok (.newarray .int, 2) := by decide +kernel
theorem qd_A_copyOf_17 : decode qc_A_copyOf 17 = .ok (.astore_n 2, 1) := by decide +kernel
theorem qd_A_copyOf_18 : decode qc_A_copyOf 18 = .ok (.aload_n 0, 1) := by decide +kernel
theorem qd_A_copyOf_19 : decode qc_A_copyOf 19 = .ok (.iconst 0, 1) := by decide +kernel
theorem qd_A_copyOf_20 : decode qc_A_copyOf 20 = .ok (.aload_n 2, 1) := by decide +kernel
theorem qd_A_copyOf_21 : decode qc_A_copyOf 21 = .ok (.iconst 0, 1) := by decide +kernel
theorem qd_A_copyOf_22 : decode qc_A_copyOf 22 = .ok (.aload_n 0, 1) := by decide +kernel
theorem qd_A_copyOf_23 : decode qc_A_copyOf 23 = .ok (.arraylength, 1) := by decide +kernel
theorem qd_A_copyOf_24 : decode qc_A_copyOf 24 = .ok (.iload_n 1, 1) := by decide +kernel
theorem qd_A_copyOf_25 : decode qc_A_copyOf 25 = .ok (.invokestatic 304, 3) := by decide +kernel
theorem qd_A_copyOf_28 : decode qc_A_copyOf 28 = .ok (.invokestatic 150, 3) := by decide +kernel
theorem qd_A_copyOf_31 : decode qc_A_copyOf 31 = .ok (.aload_n 2, 1) := by decide +kernel
theorem qd_A_copyOf_32 : decode qc_A_copyOf 32 = .ok (.areturn, 1) := by decide +kernel
abbrev qc_A_fill : ByteArray := prog_19_method_103_code
abbrev qy_A_fill : MethodName := ⟨"java/util/Arrays", "fill", "([II)V"⟩
abbrev qw_A_fill : List Cond := (Jvm.Cond.code ({ cls := "java/util/Arrays", name := "fill", desc := "([II)V" } : Jvm.MethodName) prog_19_method_103_code (4 : Nat) (Option.none : Option Jvm.ClassFile.FieldType)) :: gw
theorem qd_A_fill_0 : decode qc_A_fill 0 = .ok (.iconst 0, 1) := by decide +kernel
theorem qd_A_fill_1 : decode qc_A_fill 1 = .ok (.istore_n 2, 1) := by decide +kernel
theorem qd_A_fill_2 : decode qc_A_fill 2 = .ok (.aload_n 0, 1) := by decide +kernel
theorem qd_A_fill_3 : decode qc_A_fill 3 = .ok (.arraylength, 1) := by decide +kernel
theorem qd_A_fill_4 : decode qc_A_fill 4 = .ok (.istore_n 3, 1) := by decide +kernel
theorem qd_A_fill_5 : decode qc_A_fill 5 = .ok (.iload_n 2, 1) := by decide +kernel
theorem qd_A_fill_6 : decode qc_A_fill 6 = .ok (.iload_n 3, 1) := by decide +kernel
theorem qd_A_fill_7 : decode qc_A_fill 7 = .ok (.if_icmp .ge 13, 3) := by decide +kernel
theorem qd_A_fill_10 : decode qc_A_fill 10 = .ok (.aload_n 0, 1) := by decide +kernel
theorem qd_A_fill_11 : decode qc_A_fill 11 = .ok (.iload_n 2, 1) := by decide +kernel
theorem qd_A_fill_12 : decode qc_A_fill 12 = .ok (.iload_n 1, 1) := by decide +kernel
theorem qd_A_fill_13 : decode qc_A_fill 13 = .ok (.iastore, 1) := by decide +kernel
theorem qd_A_fill_14 : decode qc_A_fill 14 = .ok (.iinc 2 1, 3) := by decide +kernel
theorem qd_A_fill_17 : decode qc_A_fill 17 = .ok (.goto (-12), 3) := by decide +kernel
theorem qd_A_fill_20 : decode qc_A_fill 20 = .ok (.return_, 1) := by decide +kernel
