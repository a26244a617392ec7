abbrev qc_L_symbol : ByteArray := method_3_code
abbrev qy_L_symbol : MethodName := ⟨"TermOrdersLaw", "symbol", "(LTermOrders;I[J)I"⟩
abbrev qw_L_symbol : List Cond := (Jvm.Cond.codeWith ({ cls := "TermOrdersLaw", name := "symbol", desc := "(LTermOrders;I[J)I" } : Jvm.MethodName) method_3_code (4 : Nat) (Option.some Jvm.ClassFile.FieldType.int) [((0 : Nat), (9 : Nat), (12 : Nat), (13 : Nat)), ((0 : Nat), (9 : Nat), (15 : Nat), (15 : Nat))]) :: gw
theorem qd_L_symbol_0 : decode qc_L_symbol 0 = .ok (.aload_n 2, 1) := by decide +kernel
theorem qd_L_symbol_1 : decode qc_L_symbol 1 = .ok (.iconst 0, 1) := by decide +kernel
theorem qd_L_symbol_2 : decode qc_L_symbol 2 = .ok (.aload_n 0, 1) := by decide +kernel
theorem qd_L_symbol_3 : decode qc_L_symbol 3 = .ok (.iload_n 1, 1) := by decide +kernel
theorem qd_L_symbol_4 : decode qc_L_symbol 4 = .ok (.invokevirtual 7, 3) := by decide +kernel
theorem qd_L_symbol_7 : decode qc_L_symbol 7 = .ok (.i2l, 1) := by decide +kernel
theorem qd_L_symbol_8 : decode qc_L_symbol 8 = .ok (.lastore, 1) := by decide +kernel
theorem qd_L_symbol_9 : decode qc_L_symbol 9 = .ok (.goto 9, 3) := by decide +kernel
theorem qd_L_symbol_12 : decode qc_L_symbol 12 = .ok (.astore_n 3, 1) := by decide +kernel
theorem qd_L_symbol_13 : decode qc_L_symbol 13 = .ok (.iconst 1, 1) := by decide +kernel
theorem qd_L_symbol_14 : decode qc_L_symbol 14 = .ok (.ireturn, 1) := by decide +kernel
theorem qd_L_symbol_15 : decode qc_L_symbol 15 = .ok (.astore_n 3, 1) := by decide +kernel
theorem qd_L_symbol_16 : decode qc_L_symbol 16 = .ok (.iconst 2, 1) := by decide +kernel
theorem qd_L_symbol_17 : decode qc_L_symbol 17 = .ok (.ireturn, 1) := by decide +kernel
theorem qd_L_symbol_18 : decode qc_L_symbol 18 = .ok (.iconst 0, 1) := by decide +kernel
theorem qd_L_symbol_19 : decode qc_L_symbol 19 = .ok (.ireturn, 1) := by decide +kernel
abbrev qc_L_variable : ByteArray := method_4_code
abbrev qy_L_variable : MethodName := ⟨"TermOrdersLaw", "variable", "(LTermOrders;I[J)I"⟩
abbrev qw_L_variable : List Cond := (Jvm.Cond.codeWith ({ cls := "TermOrdersLaw", name := "variable", desc := "(LTermOrders;I[J)I" } : Jvm.MethodName) method_4_code (4 : Nat) (Option.some Jvm.ClassFile.FieldType.int) [((0 : Nat), (9 : Nat), (12 : Nat), (13 : Nat)), ((0 : Nat), (9 : Nat), (15 : Nat), (15 : Nat))]) :: gw
theorem qd_L_variable_0 : decode qc_L_variable 0 = .ok (.aload_n 2, 1) := by decide +kernel
theorem qd_L_variable_1 : decode qc_L_variable 1 = .ok (.iconst 0, 1) := by decide +kernel
theorem qd_L_variable_2 : decode qc_L_variable 2 = .ok (.aload_n 0, 1) := by decide +kernel
theorem qd_L_variable_3 : decode qc_L_variable 3 = .ok (.iload_n 1, 1) := by decide +kernel
theorem qd_L_variable_4 : decode qc_L_variable 4 = .ok (.invokevirtual 17, 3) := by decide +kernel
theorem qd_L_variable_7 : decode qc_L_variable 7 = .ok (.i2l, 1) := by decide +kernel
theorem qd_L_variable_8 : decode qc_L_variable 8 = .ok (.lastore, 1) := by decide +kernel
theorem qd_L_variable_9 : decode qc_L_variable 9 = .ok (.goto 9, 3) := by decide +kernel
theorem qd_L_variable_12 : decode qc_L_variable 12 = .ok (.astore_n 3, 1) := by decide +kernel
theorem qd_L_variable_13 : decode qc_L_variable 13 = .ok (.iconst 1, 1) := by decide +kernel
theorem qd_L_variable_14 : decode qc_L_variable 14 = .ok (.ireturn, 1) := by decide +kernel
theorem qd_L_variable_15 : decode qc_L_variable 15 = .ok (.astore_n 3, 1) := by decide +kernel
theorem qd_L_variable_16 : decode qc_L_variable 16 = .ok (.iconst 2, 1) := by decide +kernel
theorem qd_L_variable_17 : decode qc_L_variable 17 = .ok (.ireturn, 1) := by decide +kernel
theorem qd_L_variable_18 : decode qc_L_variable 18 = .ok (.iconst 0, 1) := by decide +kernel
theorem qd_L_variable_19 : decode qc_L_variable 19 = .ok (.ireturn, 1) := by decide +kernel
abbrev qc_L_term : ByteArray := method_5_code
abbrev qy_L_term : MethodName := ⟨"TermOrdersLaw", "term", "(LTermOrders;IIII[J)I"⟩
abbrev qw_L_term : List Cond := (Jvm.Cond.codeWith ({ cls := "TermOrdersLaw", name := "term", desc := "(LTermOrders;IIII[J)I" } : Jvm.MethodName) method_5_code (7 : Nat) (Option.some Jvm.ClassFile.FieldType.int) [((0 : Nat), (14 : Nat), (17 : Nat), (13 : Nat)), ((0 : Nat), (14 : Nat), (21 : Nat), (15 : Nat))]) :: gw
theorem qd_L_term_0 : decode qc_L_term 0 = .ok (.aload 5, 2) := by decide +kernel
theorem qd_L_term_2 : decode qc_L_term 2 = .ok (.iconst 0, 1) := by decide +kernel
theorem qd_L_term_3 : decode qc_L_term 3 = .ok (.aload_n 0, 1) := by decide +kernel
theorem qd_L_term_4 : decode qc_L_term 4 = .ok (.iload_n 1, 1) := by decide +kernel
theorem qd_L_term_5 : decode qc_L_term 5 = .ok (.iload_n 2, 1) := by decide +kernel
theorem qd_L_term_6 : decode qc_L_term 6 = .ok (.iload_n 3, 1) := by decide +kernel
theorem qd_L_term_7 : decode qc_L_term 7 = .ok (.iload 4, 2) := by decide +kernel
theorem qd_L_term_9 : decode qc_L_term 9 = .ok (.invokevirtual 20, 3) := by decide +kernel
theorem qd_L_term_12 : decode qc_L_term 12 = .ok (.i2l, 1) := by decide +kernel
theorem qd_L_term_13 : decode qc_L_term 13 = .ok (.lastore, 1) := by decide +kernel
theorem qd_L_term_14 : decode qc_L_term 14 = .ok (.goto 11, 3) := by decide +kernel
theorem qd_L_term_17 : decode qc_L_term 17 = .ok (.astore 6, 2) := by decide +kernel
theorem qd_L_term_19 : decode qc_L_term 19 = .ok (.iconst 1, 1) := by decide +kernel
theorem qd_L_term_20 : decode qc_L_term 20 = .ok (.ireturn, 1) := by decide +kernel
theorem qd_L_term_21 : decode qc_L_term 21 = .ok (.astore 6, 2) := by decide +kernel
theorem qd_L_term_23 : decode qc_L_term 23 = .ok (.iconst 2, 1) := by decide +kernel
theorem qd_L_term_24 : decode qc_L_term 24 = .ok (.ireturn, 1) := by decide +kernel
theorem qd_L_term_25 : decode qc_L_term 25 = .ok (.iconst 0, 1) := by decide +kernel
theorem qd_L_term_26 : decode qc_L_term 26 = .ok (.ireturn, 1) := by decide +kernel
abbrev qc_L_rule : ByteArray := method_6_code
abbrev qy_L_rule : MethodName := ⟨"TermOrdersLaw", "rule", "(LTermOrders;II[J)I"⟩
abbrev qw_L_rule : List Cond := (Jvm.Cond.codeWith ({ cls := "TermOrdersLaw", name := "rule", desc := "(LTermOrders;II[J)I" } : Jvm.MethodName) method_6_code (5 : Nat) (Option.some Jvm.ClassFile.FieldType.int) [((0 : Nat), (10 : Nat), (13 : Nat), (13 : Nat)), ((0 : Nat), (10 : Nat), (17 : Nat), (15 : Nat))]) :: gw
theorem qd_L_rule_0 : decode qc_L_rule 0 = .ok (.aload_n 3, 1) := by decide +kernel
theorem qd_L_rule_1 : decode qc_L_rule 1 = .ok (.iconst 0, 1) := by decide +kernel
theorem qd_L_rule_2 : decode qc_L_rule 2 = .ok (.aload_n 0, 1) := by decide +kernel
theorem qd_L_rule_3 : decode qc_L_rule 3 = .ok (.iload_n 1, 1) := by decide +kernel
theorem qd_L_rule_4 : decode qc_L_rule 4 = .ok (.iload_n 2, 1) := by decide +kernel
theorem qd_L_rule_5 : decode qc_L_rule 5 = .ok (.invokevirtual 24, 3) := by decide +kernel
theorem qd_L_rule_8 : decode qc_L_rule 8 = .ok (.i2l, 1) := by decide +kernel
theorem qd_L_rule_9 : decode qc_L_rule 9 = .ok (.lastore, 1) := by decide +kernel
theorem qd_L_rule_10 : decode qc_L_rule 10 = .ok (.goto 11, 3) := by decide +kernel
theorem qd_L_rule_13 : decode qc_L_rule 13 = .ok (.astore 4, 2) := by decide +kernel
theorem qd_L_rule_15 : decode qc_L_rule 15 = .ok (.iconst 1, 1) := by decide +kernel
theorem qd_L_rule_16 : decode qc_L_rule 16 = .ok (.ireturn, 1) := by decide +kernel
theorem qd_L_rule_17 : decode qc_L_rule 17 = .ok (.astore 4, 2) := by decide +kernel
theorem qd_L_rule_19 : decode qc_L_rule 19 = .ok (.iconst 2, 1) := by decide +kernel
theorem qd_L_rule_20 : decode qc_L_rule 20 = .ok (.ireturn, 1) := by decide +kernel
theorem qd_L_rule_21 : decode qc_L_rule 21 = .ok (.iconst 0, 1) := by decide +kernel
theorem qd_L_rule_22 : decode qc_L_rule 22 = .ok (.ireturn, 1) := by decide +kernel
abbrev qc_L_order : ByteArray := method_7_code
abbrev qy_L_order : MethodName := ⟨"TermOrdersLaw", "order", "(LTermOrders;III)I"⟩
abbrev qw_L_order : List Cond := (Jvm.Cond.codeWith ({ cls := "TermOrdersLaw", name := "order", desc := "(LTermOrders;III)I" } : Jvm.MethodName) method_7_code (5 : Nat) (Option.some Jvm.ClassFile.FieldType.int) [((0 : Nat), (7 : Nat), (10 : Nat), (13 : Nat))]) :: gw
theorem qd_L_order_0 : decode qc_L_order 0 = .ok (.aload_n 0, 1) := by decide +kernel
theorem qd_L_order_1 : decode qc_L_order 1 = .ok (.iload_n 1, 1) := by decide +kernel
theorem qd_L_order_2 : decode qc_L_order 2 = .ok (.iload_n 2, 1) := by decide +kernel
theorem qd_L_order_3 : decode qc_L_order 3 = .ok (.iload_n 3, 1) := by decide +kernel
theorem qd_L_order_4 : decode qc_L_order 4 = .ok (.invokevirtual 28, 3) := by decide +kernel
theorem qd_L_order_7 : decode qc_L_order 7 = .ok (.goto 7, 3) := by decide +kernel
theorem qd_L_order_10 : decode qc_L_order 10 = .ok (.astore 4, 2) := by decide +kernel
theorem qd_L_order_12 : decode qc_L_order 12 = .ok (.iconst 1, 1) := by decide +kernel
theorem qd_L_order_13 : decode qc_L_order 13 = .ok (.ireturn, 1) := by decide +kernel
theorem qd_L_order_14 : decode qc_L_order 14 = .ok (.iconst 0, 1) := by decide +kernel
theorem qd_L_order_15 : decode qc_L_order 15 = .ok (.ireturn, 1) := by decide +kernel
abbrev qc_L_rank : ByteArray := method_8_code
abbrev qy_L_rank : MethodName := ⟨"TermOrdersLaw", "rank", "(LTermOrders;I[J)I"⟩
abbrev qw_L_rank : List Cond := (Jvm.Cond.codeWith ({ cls := "TermOrdersLaw", name := "rank", desc := "(LTermOrders;I[J)I" } : Jvm.MethodName) method_8_code (4 : Nat) (Option.some Jvm.ClassFile.FieldType.int) [((0 : Nat), (9 : Nat), (12 : Nat), (13 : Nat))]) :: gw
theorem qd_L_rank_0 : decode qc_L_rank 0 = .ok (.aload_n 2, 1) := by decide +kernel
theorem qd_L_rank_1 : decode qc_L_rank 1 = .ok (.iconst 0, 1) := by decide +kernel
theorem qd_L_rank_2 : decode qc_L_rank 2 = .ok (.aload_n 0, 1) := by decide +kernel
theorem qd_L_rank_3 : decode qc_L_rank 3 = .ok (.iload_n 1, 1) := by decide +kernel
theorem qd_L_rank_4 : decode qc_L_rank 4 = .ok (.invokevirtual 32, 3) := by decide +kernel
theorem qd_L_rank_7 : decode qc_L_rank 7 = .ok (.i2l, 1) := by decide +kernel
theorem qd_L_rank_8 : decode qc_L_rank 8 = .ok (.lastore, 1) := by decide +kernel
theorem qd_L_rank_9 : decode qc_L_rank 9 = .ok (.goto 6, 3) := by decide +kernel
theorem qd_L_rank_12 : decode qc_L_rank 12 = .ok (.astore_n 3, 1) := by decide +kernel
theorem qd_L_rank_13 : decode qc_L_rank 13 = .ok (.iconst 1, 1) := by decide +kernel
theorem qd_L_rank_14 : decode qc_L_rank 14 = .ok (.ireturn, 1) := by decide +kernel
theorem qd_L_rank_15 : decode qc_L_rank 15 = .ok (.iconst 0, 1) := by decide +kernel
theorem qd_L_rank_16 : decode qc_L_rank 16 = .ok (.ireturn, 1) := by decide +kernel
abbrev qc_L_greater : ByteArray := method_9_code
abbrev qy_L_greater : MethodName := ⟨"TermOrdersLaw", "greater", "(LTermOrders;III[J)I"⟩
abbrev qw_L_greater : List Cond := (Jvm.Cond.codeWith ({ cls := "TermOrdersLaw", name := "greater", desc := "(LTermOrders;III[J)I" } : Jvm.MethodName) method_9_code (6 : Nat) (Option.some Jvm.ClassFile.FieldType.int) [((0 : Nat), (19 : Nat), (22 : Nat), (13 : Nat))]) :: gw
theorem qd_L_greater_0 : decode qc_L_greater 0 = .ok (.aload 4, 2) := by decide +kernel
theorem qd_L_greater_2 : decode qc_L_greater 2 = .ok (.iconst 0, 1) := by decide +kernel
theorem qd_L_greater_3 : decode qc_L_greater 3 = .ok (.aload_n 0, 1) := by decide +kernel
theorem qd_L_greater_4 : decode qc_L_greater 4 = .ok (.iload_n 1, 1) := by decide +kernel
theorem qd_L_greater_5 : decode qc_L_greater 5 = .ok (.iload_n 2, 1) := by decide +kernel
theorem qd_L_greater_6 : decode qc_L_greater 6 = .ok (.iload_n 3, 1) := by decide +kernel
theorem qd_L_greater_7 : decode qc_L_greater 7 = .ok (.invokevirtual 35, 3) := by decide +kernel
theorem qd_L_greater_10 : decode qc_L_greater 10 = .ok (.ifCond .eq 7, 3) := by decide +kernel
theorem qd_L_greater_13 : decode qc_L_greater 13 = .ok (.lconst 1, 1) := by decide +kernel
theorem qd_L_greater_14 : decode qc_L_greater 14 = .ok (.goto 4, 3) := by decide +kernel
theorem qd_L_greater_17 : decode qc_L_greater 17 = .ok (.lconst 0, 1) := by decide +kernel
theorem qd_L_greater_18 : decode qc_L_greater 18 = .ok (.lastore, 1) := by decide +kernel
theorem qd_L_greater_19 : decode qc_L_greater 19 = .ok (.goto 7, 3) := by decide +kernel
theorem qd_L_greater_22 : decode qc_L_greater 22 = .ok (.astore 5, 2) := by decide +kernel
theorem qd_L_greater_24 : decode qc_L_greater 24 = .ok (.iconst 1, 1) := by decide +kernel
theorem qd_L_greater_25 : decode qc_L_greater 25 = .ok (.ireturn, 1) := by decide +kernel
theorem qd_L_greater_26 : decode qc_L_greater 26 = .ok (.iconst 0, 1) := by decide +kernel
theorem qd_L_greater_27 : decode qc_L_greater 27 = .ok (.ireturn, 1) := by decide +kernel
abbrev qc_L_same : ByteArray := method_10_code
abbrev qy_L_same : MethodName := ⟨"TermOrdersLaw", "same", "(LTermOrders;II[J)I"⟩
abbrev qw_L_same : List Cond := (Jvm.Cond.codeWith ({ cls := "TermOrdersLaw", name := "same", desc := "(LTermOrders;II[J)I" } : Jvm.MethodName) method_10_code (5 : Nat) (Option.some Jvm.ClassFile.FieldType.int) [((0 : Nat), (17 : Nat), (20 : Nat), (13 : Nat))]) :: gw
theorem qd_L_same_0 : decode qc_L_same 0 = .ok (.aload_n 3, 1) := by decide +kernel
theorem qd_L_same_1 : decode qc_L_same 1 = .ok (.iconst 0, 1) := by decide +kernel
theorem qd_L_same_2 : decode qc_L_same 2 = .ok (.aload_n 0, 1) := by decide +kernel
theorem qd_L_same_3 : decode qc_L_same 3 = .ok (.iload_n 1, 1) := by decide +kernel
theorem qd_L_same_4 : decode qc_L_same 4 = .ok (.iload_n 2, 1) := by decide +kernel
theorem qd_L_same_5 : decode qc_L_same 5 = .ok (.invokevirtual 39, 3) := by decide +kernel
theorem qd_L_same_8 : decode qc_L_same 8 = .ok (.ifCond .eq 7, 3) := by decide +kernel
theorem qd_L_same_11 : decode qc_L_same 11 = .ok (.lconst 1, 1) := by decide +kernel
theorem qd_L_same_12 : decode qc_L_same 12 = .ok (.goto 4, 3) := by decide +kernel
theorem qd_L_same_15 : decode qc_L_same 15 = .ok (.lconst 0, 1) := by decide +kernel
theorem qd_L_same_16 : decode qc_L_same 16 = .ok (.lastore, 1) := by decide +kernel
theorem qd_L_same_17 : decode qc_L_same 17 = .ok (.goto 7, 3) := by decide +kernel
theorem qd_L_same_20 : decode qc_L_same 20 = .ok (.astore 4, 2) := by decide +kernel
theorem qd_L_same_22 : decode qc_L_same 22 = .ok (.iconst 1, 1) := by decide +kernel
theorem qd_L_same_23 : decode qc_L_same 23 = .ok (.ireturn, 1) := by decide +kernel
theorem qd_L_same_24 : decode qc_L_same 24 = .ok (.iconst 0, 1) := by decide +kernel
theorem qd_L_same_25 : decode qc_L_same 25 = .ok (.ireturn, 1) := by decide +kernel
abbrev qc_L_oriented : ByteArray := method_11_code
abbrev qy_L_oriented : MethodName := ⟨"TermOrdersLaw", "oriented", "(LTermOrders;I[J)I"⟩
abbrev qw_L_oriented : List Cond := (Jvm.Cond.codeWith ({ cls := "TermOrdersLaw", name := "oriented", desc := "(LTermOrders;I[J)I" } : Jvm.MethodName) method_11_code (4 : Nat) (Option.some Jvm.ClassFile.FieldType.int) [((0 : Nat), (9 : Nat), (12 : Nat), (13 : Nat))]) :: gw
theorem qd_L_oriented_0 : decode qc_L_oriented 0 = .ok (.aload_n 2, 1) := by decide +kernel
theorem qd_L_oriented_1 : decode qc_L_oriented 1 = .ok (.iconst 0, 1) := by decide +kernel
theorem qd_L_oriented_2 : decode qc_L_oriented 2 = .ok (.aload_n 0, 1) := by decide +kernel
theorem qd_L_oriented_3 : decode qc_L_oriented 3 = .ok (.iload_n 1, 1) := by decide +kernel
theorem qd_L_oriented_4 : decode qc_L_oriented 4 = .ok (.invokevirtual 43, 3) := by decide +kernel
theorem qd_L_oriented_7 : decode qc_L_oriented 7 = .ok (.i2l, 1) := by decide +kernel
theorem qd_L_oriented_8 : decode qc_L_oriented 8 = .ok (.lastore, 1) := by decide +kernel
theorem qd_L_oriented_9 : decode qc_L_oriented 9 = .ok (.goto 6, 3) := by decide +kernel
theorem qd_L_oriented_12 : decode qc_L_oriented 12 = .ok (.astore_n 3, 1) := by decide +kernel
theorem qd_L_oriented_13 : decode qc_L_oriented 13 = .ok (.iconst 1, 1) := by decide +kernel
theorem qd_L_oriented_14 : decode qc_L_oriented 14 = .ok (.ireturn, 1) := by decide +kernel
theorem qd_L_oriented_15 : decode qc_L_oriented 15 = .ok (.iconst 0, 1) := by decide +kernel
theorem qd_L_oriented_16 : decode qc_L_oriented 16 = .ok (.ireturn, 1) := by decide +kernel
abbrev qc_L_search : ByteArray := method_12_code
abbrev qy_L_search : MethodName := ⟨"TermOrdersLaw", "search", "(LTermOrders;I[J)I"⟩
abbrev qw_L_search : List Cond := (Jvm.Cond.codeWith ({ cls := "TermOrdersLaw", name := "search", desc := "(LTermOrders;I[J)I" } : Jvm.MethodName) method_12_code (4 : Nat) (Option.some Jvm.ClassFile.FieldType.int) [((0 : Nat), (16 : Nat), (19 : Nat), (13 : Nat))]) :: gw
theorem qd_L_search_0 : decode qc_L_search 0 = .ok (.aload_n 2, 1) := by decide +kernel
theorem qd_L_search_1 : decode qc_L_search 1 = .ok (.iconst 0, 1) := by decide +kernel
theorem qd_L_search_2 : decode qc_L_search 2 = .ok (.aload_n 0, 1) := by decide +kernel
theorem qd_L_search_3 : decode qc_L_search 3 = .ok (.iload_n 1, 1) := by decide +kernel
theorem qd_L_search_4 : decode qc_L_search 4 = .ok (.invokevirtual 46, 3) := by decide +kernel
theorem qd_L_search_7 : decode qc_L_search 7 = .ok (.ifCond .eq 7, 3) := by decide +kernel
theorem qd_L_search_10 : decode qc_L_search 10 = .ok (.lconst 1, 1) := by decide +kernel
theorem qd_L_search_11 : decode qc_L_search 11 = .ok (.goto 4, 3) := by decide +kernel
theorem qd_L_search_14 : decode qc_L_search 14 = .ok (.lconst 0, 1) := by decide +kernel
theorem qd_L_search_15 : decode qc_L_search 15 = .ok (.lastore, 1) := by decide +kernel
theorem qd_L_search_16 : decode qc_L_search 16 = .ok (.goto 6, 3) := by decide +kernel
theorem qd_L_search_19 : decode qc_L_search 19 = .ok (.astore_n 3, 1) := by decide +kernel
theorem qd_L_search_20 : decode qc_L_search 20 = .ok (.iconst 1, 1) := by decide +kernel
theorem qd_L_search_21 : decode qc_L_search 21 = .ok (.ireturn, 1) := by decide +kernel
theorem qd_L_search_22 : decode qc_L_search 22 = .ok (.iconst 0, 1) := by decide +kernel
theorem qd_L_search_23 : decode qc_L_search 23 = .ok (.ireturn, 1) := by decide +kernel
abbrev qc_L_step : ByteArray := method_13_code
abbrev qy_L_step : MethodName := ⟨"TermOrdersLaw", "step", "(LTermOrders;I[J)I"⟩
abbrev qw_L_step : List Cond := (Jvm.Cond.codeWith ({ cls := "TermOrdersLaw", name := "step", desc := "(LTermOrders;I[J)I" } : Jvm.MethodName) method_13_code (4 : Nat) (Option.some Jvm.ClassFile.FieldType.int) [((0 : Nat), (9 : Nat), (12 : Nat), (13 : Nat)), ((0 : Nat), (9 : Nat), (15 : Nat), (15 : Nat))]) :: gw
theorem qd_L_step_0 : decode qc_L_step 0 = .ok (.aload_n 2, 1) := by decide +kernel
theorem qd_L_step_1 : decode qc_L_step 1 = .ok (.iconst 0, 1) := by decide +kernel
theorem qd_L_step_2 : decode qc_L_step 2 = .ok (.aload_n 0, 1) := by decide +kernel
theorem qd_L_step_3 : decode qc_L_step 3 = .ok (.iload_n 1, 1) := by decide +kernel
theorem qd_L_step_4 : decode qc_L_step 4 = .ok (.invokevirtual 50, 3) := by decide +kernel
theorem qd_L_step_7 : decode qc_L_step 7 = .ok (.i2l, 1) := by decide +kernel
theorem qd_L_step_8 : decode qc_L_step 8 = .ok (.lastore, 1) := by decide +kernel
theorem qd_L_step_9 : decode qc_L_step 9 = .ok (.goto 9, 3) := by decide +kernel
theorem qd_L_step_12 : decode qc_L_step 12 = .ok (.astore_n 3, 1) := by decide +kernel
theorem qd_L_step_13 : decode qc_L_step 13 = .ok (.iconst 1, 1) := by decide +kernel
theorem qd_L_step_14 : decode qc_L_step 14 = .ok (.ireturn, 1) := by decide +kernel
theorem qd_L_step_15 : decode qc_L_step 15 = .ok (.astore_n 3, 1) := by decide +kernel
theorem qd_L_step_16 : decode qc_L_step 16 = .ok (.iconst 2, 1) := by decide +kernel
theorem qd_L_step_17 : decode qc_L_step 17 = .ok (.ireturn, 1) := by decide +kernel
theorem qd_L_step_18 : decode qc_L_step 18 = .ok (.iconst 0, 1) := by decide +kernel
theorem qd_L_step_19 : decode qc_L_step 19 = .ok (.ireturn, 1) := by decide +kernel
abbrev qc_L_about : ByteArray := method_14_code
abbrev qy_L_about : MethodName := ⟨"TermOrdersLaw", "about", "(LTermOrders;II[J)I"⟩
abbrev qw_L_about : List Cond := (Jvm.Cond.codeWith ({ cls := "TermOrdersLaw", name := "about", desc := "(LTermOrders;II[J)I" } : Jvm.MethodName) method_14_code (5 : Nat) (Option.some Jvm.ClassFile.FieldType.int) [((0 : Nat), (10 : Nat), (13 : Nat), (13 : Nat))]) :: gw
theorem qd_L_about_0 : decode qc_L_about 0 = .ok (.aload_n 3, 1) := by decide +kernel
theorem qd_L_about_1 : decode qc_L_about 1 = .ok (.iconst 0, 1) := by decide +kernel
theorem qd_L_about_2 : decode qc_L_about 2 = .ok (.aload_n 0, 1) := by decide +kernel
theorem qd_L_about_3 : decode qc_L_about 3 = .ok (.iload_n 1, 1) := by decide +kernel
theorem qd_L_about_4 : decode qc_L_about 4 = .ok (.iload_n 2, 1) := by decide +kernel
theorem qd_L_about_5 : decode qc_L_about 5 = .ok (.invokevirtual 53, 3) := by decide +kernel
theorem qd_L_about_8 : decode qc_L_about 8 = .ok (.i2l, 1) := by decide +kernel
theorem qd_L_about_9 : decode qc_L_about 9 = .ok (.lastore, 1) := by decide +kernel
theorem qd_L_about_10 : decode qc_L_about 10 = .ok (.goto 7, 3) := by decide +kernel
theorem qd_L_about_13 : decode qc_L_about 13 = .ok (.astore 4, 2) := by decide +kernel
theorem qd_L_about_15 : decode qc_L_about 15 = .ok (.iconst 1, 1) := by decide +kernel
theorem qd_L_about_16 : decode qc_L_about 16 = .ok (.ireturn, 1) := by decide +kernel
theorem qd_L_about_17 : decode qc_L_about 17 = .ok (.iconst 0, 1) := by decide +kernel
theorem qd_L_about_18 : decode qc_L_about 18 = .ok (.ireturn, 1) := by decide +kernel
abbrev qc_L_place : ByteArray := method_15_code
abbrev qy_L_place : MethodName := ⟨"TermOrdersLaw", "place", "(LTermOrders;II[J)I"⟩
abbrev qw_L_place : List Cond := (Jvm.Cond.codeWith ({ cls := "TermOrdersLaw", name := "place", desc := "(LTermOrders;II[J)I" } : Jvm.MethodName) method_15_code (5 : Nat) (Option.some Jvm.ClassFile.FieldType.int) [((0 : Nat), (10 : Nat), (13 : Nat), (13 : Nat)), ((0 : Nat), (10 : Nat), (17 : Nat), (59 : Nat))]) :: gw
theorem qd_L_place_0 : decode qc_L_place 0 = .ok (.aload_n 3, 1) := by decide +kernel
theorem qd_L_place_1 : decode qc_L_place 1 = .ok (.iconst 0, 1) := by decide +kernel
theorem qd_L_place_2 : decode qc_L_place 2 = .ok (.aload_n 0, 1) := by decide +kernel
theorem qd_L_place_3 : decode qc_L_place 3 = .ok (.iload_n 1, 1) := by decide +kernel
theorem qd_L_place_4 : decode qc_L_place 4 = .ok (.iload_n 2, 1) := by decide +kernel
theorem qd_L_place_5 : decode qc_L_place 5 = .ok (.invokevirtual 56, 3) := by decide +kernel
theorem qd_L_place_8 : decode qc_L_place 8 = .ok (.i2l, 1) := by decide +kernel
theorem qd_L_place_9 : decode qc_L_place 9 = .ok (.lastore, 1) := by decide +kernel
theorem qd_L_place_10 : decode qc_L_place 10 = .ok (.goto 11, 3) := by decide +kernel
theorem qd_L_place_13 : decode qc_L_place 13 = .ok (.astore 4, 2) := by decide +kernel
theorem qd_L_place_15 : decode qc_L_place 15 = .ok (.iconst 1, 1) := by decide +kernel
theorem qd_L_place_16 : decode qc_L_place 16 = .ok (.ireturn, 1) := by decide +kernel
theorem qd_L_place_17 : decode qc_L_place 17 = .ok (.astore 4, 2) := by decide +kernel
theorem qd_L_place_19 : decode qc_L_place 19 = .ok (.iconst 2, 1) := by decide +kernel
theorem qd_L_place_20 : decode qc_L_place 20 = .ok (.ireturn, 1) := by decide +kernel
theorem qd_L_place_21 : decode qc_L_place 21 = .ok (.iconst 0, 1) := by decide +kernel
theorem qd_L_place_22 : decode qc_L_place 22 = .ok (.ireturn, 1) := by decide +kernel
abbrev qc_L_law : ByteArray := code
abbrev qy_L_law : MethodName := ⟨"TermOrdersLaw", "law", "([I)Z"⟩
theorem qd_L_law_0 : decode qc_L_law 0 = .ok (.new 8, 3) := by decide +kernel
theorem qd_L_law_3 : decode qc_L_law 3 = .ok (.dup, 1) := by decide +kernel
theorem qd_L_law_4 : decode qc_L_law 4 = .ok (.invokespecial 61, 3) := by decide +kernel
theorem qd_L_law_7 : decode qc_L_law 7 = .ok (.astore_n 1, 1) := by decide +kernel
theorem qd_L_law_8 : decode qc_L_law 8 = .ok (.new 62, 3) := by decide +kernel
theorem qd_L_law_11 : decode qc_L_law 11 = .ok (.dup, 1) := by decide +kernel
theorem qd_L_law_12 : decode qc_L_law 12 = .ok (.invokespecial 64, 3) := by decide +kernel
theorem qd_L_law_15 : decode qc_L_law 15 = .ok (.astore_n 2, 1) := by decide +kernel
theorem qd_L_law_16 : decode qc_L_law 16 = .ok (.iconst 1, 1) := by decide +kernel
theorem qd_L_law_17 : decode qc_L_law 17 = .ok (.newarray .long, 2) := by decide +kernel
theorem qd_L_law_19 : decode qc_L_law 19 = .ok (.astore_n 3, 1) := by decide +kernel
theorem qd_L_law_20 : decode qc_L_law 20 = .ok (.iconst 0, 1) := by decide +kernel
theorem qd_L_law_21 : decode qc_L_law 21 = .ok (.istore 4, 2) := by decide +kernel
theorem qd_L_law_23 : decode qc_L_law 23 = .ok (.iload 4, 2) := by decide +kernel
theorem qd_L_law_25 : decode qc_L_law 25 = .ok (.aload_n 0, 1) := by decide +kernel
theorem qd_L_law_26 : decode qc_L_law 26 = .ok (.arraylength, 1) := by decide +kernel
theorem qd_L_law_27 : decode qc_L_law 27 = .ok (.iconst 5, 1) := by decide +kernel
theorem qd_L_law_28 : decode qc_L_law 28 = .ok (.isub, 1) := by decide +kernel
theorem qd_L_law_29 : decode qc_L_law 29 = .ok (.if_icmp .gt 988, 3) := by decide +kernel
theorem qd_L_law_32 : decode qc_L_law 32 = .ok (.aload_n 0, 1) := by decide +kernel
theorem qd_L_law_33 : decode qc_L_law 33 = .ok (.iload 4, 2) := by decide +kernel
theorem qd_L_law_35 : decode qc_L_law 35 = .ok (.iaload, 1) := by decide +kernel
theorem qd_L_law_36 : decode qc_L_law 36 = .ok (.bipush 15, 2) := by decide +kernel
theorem qd_L_law_38 : decode qc_L_law 38 = .ok (.iand, 1) := by decide +kernel
theorem qd_L_law_39 : decode qc_L_law 39 = .ok (.tableswitch 972 0 14 #[73, 129, 185, 277, 345, 405, 461, 548, 623, 636, 692, 755, 811, 879, 947], 73) := by decide +kernel
theorem qd_L_law_112 : decode qc_L_law 112 = .ok (.aload_n 1, 1) := by decide +kernel
theorem qd_L_law_113 : decode qc_L_law 113 = .ok (.aload_n 0, 1) := by decide +kernel
theorem qd_L_law_114 : decode qc_L_law 114 = .ok (.iload 4, 2) := by decide +kernel
theorem qd_L_law_116 : decode qc_L_law 116 = .ok (.iconst 1, 1) := by decide +kernel
theorem qd_L_law_117 : decode qc_L_law 117 = .ok (.iadd, 1) := by decide +kernel
theorem qd_L_law_118 : decode qc_L_law 118 = .ok (.iaload, 1) := by decide +kernel
theorem qd_L_law_119 : decode qc_L_law 119 = .ok (.aload_n 3, 1) := by decide +kernel
theorem qd_L_law_120 : decode qc_L_law 120 = .ok (.invokestatic 65, 3) := by decide +kernel
theorem qd_L_law_123 : decode qc_L_law 123 = .ok (.istore 5, 2) := by decide +kernel
theorem qd_L_law_125 : decode qc_L_law 125 = .ok (.aload_n 2, 1) := by decide +kernel
theorem qd_L_law_126 : decode qc_L_law 126 = .ok (.aload_n 0, 1) := by decide +kernel
theorem qd_L_law_127 : decode qc_L_law 127 = .ok (.iload 4, 2) := by decide +kernel
theorem qd_L_law_129 : decode qc_L_law 129 = .ok (.iconst 1, 1) := by decide +kernel
theorem qd_L_law_130 : decode qc_L_law 130 = .ok (.iadd, 1) := by decide +kernel
theorem qd_L_law_131 : decode qc_L_law 131 = .ok (.iaload, 1) := by decide +kernel
theorem qd_L_law_132 : decode qc_L_law 132 = .ok (.invokevirtual 70, 3) := by decide +kernel
theorem qd_L_law_135 : decode qc_L_law 135 = .ok (.istore 6, 2) := by decide +kernel
theorem qd_L_law_137 : decode qc_L_law 137 = .ok (.aload_n 2, 1) := by decide +kernel
theorem qd_L_law_138 : decode qc_L_law 138 = .ok (.invokevirtual 71, 3) := by decide +kernel
theorem qd_L_law_141 : decode qc_L_law 141 = .ok (.iload 5, 2) := by decide +kernel
theorem qd_L_law_143 : decode qc_L_law 143 = .ok (.if_icmp .eq 5, 3) := by decide +kernel
theorem qd_L_law_146 : decode qc_L_law 146 = .ok (.iconst 0, 1) := by decide +kernel
theorem qd_L_law_147 : decode qc_L_law 147 = .ok (.ireturn, 1) := by decide +kernel
theorem qd_L_law_148 : decode qc_L_law 148 = .ok (.iload 5, 2) := by decide +kernel
theorem qd_L_law_150 : decode qc_L_law 150 = .ok (.ifCond .ne 15, 3) := by decide +kernel
theorem qd_L_law_153 : decode qc_L_law 153 = .ok (.aload_n 3, 1) := by decide +kernel
theorem qd_L_law_154 : decode qc_L_law 154 = .ok (.iconst 0, 1) := by decide +kernel
theorem qd_L_law_155 : decode qc_L_law 155 = .ok (.laload, 1) := by decide +kernel
theorem qd_L_law_156 : decode qc_L_law 156 = .ok (.iload 6, 2) := by decide +kernel
theorem qd_L_law_158 : decode qc_L_law 158 = .ok (.i2l, 1) := by decide +kernel
theorem qd_L_law_159 : decode qc_L_law 159 = .ok (.lcmp, 1) := by decide +kernel
theorem qd_L_law_160 : decode qc_L_law 160 = .ok (.ifCond .eq 5, 3) := by decide +kernel
theorem qd_L_law_163 : decode qc_L_law 163 = .ok (.iconst 0, 1) := by decide +kernel
theorem qd_L_law_164 : decode qc_L_law 164 = .ok (.ireturn, 1) := by decide +kernel
theorem qd_L_law_165 : decode qc_L_law 165 = .ok (.goto 846, 3) := by decide +kernel
theorem qd_L_law_168 : decode qc_L_law 168 = .ok (.aload_n 1, 1) := by decide +kernel
theorem qd_L_law_169 : decode qc_L_law 169 = .ok (.aload_n 0, 1) := by decide +kernel
theorem qd_L_law_170 : decode qc_L_law 170 = .ok (.iload 4, 2) := by decide +kernel
theorem qd_L_law_172 : decode qc_L_law 172 = .ok (.iconst 1, 1) := by decide +kernel
theorem qd_L_law_173 : decode qc_L_law 173 = .ok (.iadd, 1) := by decide +kernel
theorem qd_L_law_174 : decode qc_L_law 174 = .ok (.iaload, 1) := by decide +kernel
theorem qd_L_law_175 : decode qc_L_law 175 = .ok (.aload_n 3, 1) := by decide +kernel
theorem qd_L_law_176 : decode qc_L_law 176 = .ok (.invokestatic 75, 3) := by decide +kernel
theorem qd_L_law_179 : decode qc_L_law 179 = .ok (.istore 5, 2) := by decide +kernel
theorem qd_L_law_181 : decode qc_L_law 181 = .ok (.aload_n 2, 1) := by decide +kernel
theorem qd_L_law_182 : decode qc_L_law 182 = .ok (.aload_n 0, 1) := by decide +kernel
theorem qd_L_law_183 : decode qc_L_law 183 = .ok (.iload 4, 2) := by decide +kernel
theorem qd_L_law_185 : decode qc_L_law 185 = .ok (.iconst 1, 1) := by decide +kernel
theorem qd_L_law_186 : decode qc_L_law 186 = .ok (.iadd, 1) := by decide +kernel
theorem qd_L_law_187 : decode qc_L_law 187 = .ok (.iaload, 1) := by decide +kernel
theorem qd_L_law_188 : decode qc_L_law 188 = .ok (.invokevirtual 77, 3) := by decide +kernel
theorem qd_L_law_191 : decode qc_L_law 191 = .ok (.istore 6, 2) := by decide +kernel
theorem qd_L_law_193 : decode qc_L_law 193 = .ok (.aload_n 2, 1) := by decide +kernel
theorem qd_L_law_194 : decode qc_L_law 194 = .ok (.invokevirtual 71, 3) := by decide +kernel
theorem qd_L_law_197 : decode qc_L_law 197 = .ok (.iload 5, 2) := by decide +kernel
theorem qd_L_law_199 : decode qc_L_law 199 = .ok (.if_icmp .eq 5, 3) := by decide +kernel
theorem qd_L_law_202 : decode qc_L_law 202 = .ok (.iconst 0, 1) := by decide +kernel
theorem qd_L_law_203 : decode qc_L_law 203 = .ok (.ireturn, 1) := by decide +kernel
theorem qd_L_law_204 : decode qc_L_law 204 = .ok (.iload 5, 2) := by decide +kernel
theorem qd_L_law_206 : decode qc_L_law 206 = .ok (.ifCond .ne 15, 3) := by decide +kernel
theorem qd_L_law_209 : decode qc_L_law 209 = .ok (.aload_n 3, 1) := by decide +kernel
theorem qd_L_law_210 : decode qc_L_law 210 = .ok (.iconst 0, 1) := by decide +kernel
theorem qd_L_law_211 : decode qc_L_law 211 = .ok (.laload, 1) := by decide +kernel
theorem qd_L_law_212 : decode qc_L_law 212 = .ok (.iload 6, 2) := by decide +kernel
theorem qd_L_law_214 : decode qc_L_law 214 = .ok (.i2l, 1) := by decide +kernel
theorem qd_L_law_215 : decode qc_L_law 215 = .ok (.lcmp, 1) := by decide +kernel
theorem qd_L_law_216 : decode qc_L_law 216 = .ok (.ifCond .eq 5, 3) := by decide +kernel
theorem qd_L_law_219 : decode qc_L_law 219 = .ok (.iconst 0, 1) := by decide +kernel
theorem qd_L_law_220 : decode qc_L_law 220 = .ok (.ireturn, 1) := by decide +kernel
theorem qd_L_law_221 : decode qc_L_law 221 = .ok (.goto 790, 3) := by decide +kernel
theorem qd_L_law_224 : decode qc_L_law 224 = .ok (.aload_n 1, 1) := by decide +kernel
theorem qd_L_law_225 : decode qc_L_law 225 = .ok (.aload_n 0, 1) := by decide +kernel
theorem qd_L_law_226 : decode qc_L_law 226 = .ok (.iload 4, 2) := by decide +kernel
theorem qd_L_law_228 : decode qc_L_law 228 = .ok (.iconst 1, 1) := by decide +kernel
theorem qd_L_law_229 : decode qc_L_law 229 = .ok (.iadd, 1) := by decide +kernel
theorem qd_L_law_230 : decode qc_L_law 230 = .ok (.iaload, 1) := by decide +kernel
theorem qd_L_law_231 : decode qc_L_law 231 = .ok (.aload_n 0, 1) := by decide +kernel
theorem qd_L_law_232 : decode qc_L_law 232 = .ok (.iload 4, 2) := by decide +kernel
theorem qd_L_law_234 : decode qc_L_law 234 = .ok (.iconst 2, 1) := by decide +kernel
theorem qd_L_law_235 : decode qc_L_law 235 = .ok (.iadd, 1) := by decide +kernel
theorem qd_L_law_236 : decode qc_L_law 236 = .ok (.iaload, 1) := by decide +kernel
theorem qd_L_law_237 : decode qc_L_law 237 = .ok (.aload_n 0, 1) := by decide +kernel
theorem qd_L_law_238 : decode qc_L_law 238 = .ok (.iload 4, 2) := by decide +kernel
theorem qd_L_law_240 : decode qc_L_law 240 = .ok (.iconst 3, 1) := by decide +kernel
theorem qd_L_law_241 : decode qc_L_law 241 = .ok (.iadd, 1) := by decide +kernel
theorem qd_L_law_242 : decode qc_L_law 242 = .ok (.iaload, 1) := by decide +kernel
theorem qd_L_law_243 : decode qc_L_law 243 = .ok (.aload_n 0, 1) := by decide +kernel
theorem qd_L_law_244 : decode qc_L_law 244 = .ok (.iload 4, 2) := by decide +kernel
theorem qd_L_law_246 : decode qc_L_law 246 = .ok (.iconst 4, 1) := by decide +kernel
theorem qd_L_law_247 : decode qc_L_law 247 = .ok (.iadd, 1) := by decide +kernel
theorem qd_L_law_248 : decode qc_L_law 248 = .ok (.iaload, 1) := by decide +kernel
theorem qd_L_law_249 : decode qc_L_law 249 = .ok (.aload_n 3, 1) := by decide +kernel
theorem qd_L_law_250 : decode qc_L_law 250 = .ok (.invokestatic 78, 3) := by decide +kernel
theorem qd_L_law_253 : decode qc_L_law 253 = .ok (.istore 5, 2) := by decide +kernel
theorem qd_L_law_255 : decode qc_L_law 255 = .ok (.aload_n 2, 1) := by decide +kernel
theorem qd_L_law_256 : decode qc_L_law 256 = .ok (.aload_n 0, 1) := by decide +kernel
theorem qd_L_law_257 : decode qc_L_law 257 = .ok (.iload 4, 2) := by decide +kernel
theorem qd_L_law_259 : decode qc_L_law 259 = .ok (.iconst 1, 1) := by decide +kernel
theorem qd_L_law_260 : decode qc_L_law 260 = .ok (.iadd, 1) := by decide +kernel
theorem qd_L_law_261 : decode qc_L_law 261 = .ok (.iaload, 1) := by decide +kernel
theorem qd_L_law_262 : decode qc_L_law 262 = .ok (.aload_n 0, 1) := by decide +kernel
theorem qd_L_law_263 : decode qc_L_law 263 = .ok (.iload 4, 2) := by decide +kernel
theorem qd_L_law_265 : decode qc_L_law 265 = .ok (.iconst 2, 1) := by decide +kernel
theorem qd_L_law_266 : decode qc_L_law 266 = .ok (.iadd, 1) := by decide +kernel
theorem qd_L_law_267 : decode qc_L_law 267 = .ok (.iaload, 1) := by decide +kernel
theorem qd_L_law_268 : decode qc_L_law 268 = .ok (.aload_n 0, 1) := by decide +kernel
theorem qd_L_law_269 : decode qc_L_law 269 = .ok (.iload 4, 2) := by decide +kernel
theorem qd_L_law_271 : decode qc_L_law 271 = .ok (.iconst 3, 1) := by decide +kernel
theorem qd_L_law_272 : decode qc_L_law 272 = .ok (.iadd, 1) := by decide +kernel
theorem qd_L_law_273 : decode qc_L_law 273 = .ok (.iaload, 1) := by decide +kernel
theorem qd_L_law_274 : decode qc_L_law 274 = .ok (.aload_n 0, 1) := by decide +kernel
theorem qd_L_law_275 : decode qc_L_law 275 = .ok (.iload 4, 2) := by decide +kernel
theorem qd_L_law_277 : decode qc_L_law 277 = .ok (.iconst 4, 1) := by decide +kernel
theorem qd_L_law_278 : decode qc_L_law 278 = .ok (.iadd, 1) := by decide +kernel
theorem qd_L_law_279 : decode qc_L_law 279 = .ok (.iaload, 1) := by decide +kernel
theorem qd_L_law_280 : decode qc_L_law 280 = .ok (.invokevirtual 81, 3) := by decide +kernel
theorem qd_L_law_283 : decode qc_L_law 283 = .ok (.istore 6, 2) := by decide +kernel
theorem qd_L_law_285 : decode qc_L_law 285 = .ok (.aload_n 2, 1) := by decide +kernel
theorem qd_L_law_286 : decode qc_L_law 286 = .ok (.invokevirtual 71, 3) := by decide +kernel
theorem qd_L_law_289 : decode qc_L_law 289 = .ok (.iload 5, 2) := by decide +kernel
theorem qd_L_law_291 : decode qc_L_law 291 = .ok (.if_icmp .eq 5, 3) := by decide +kernel
theorem qd_L_law_294 : decode qc_L_law 294 = .ok (.iconst 0, 1) := by decide +kernel
theorem qd_L_law_295 : decode qc_L_law 295 = .ok (.ireturn, 1) := by decide +kernel
theorem qd_L_law_296 : decode qc_L_law 296 = .ok (.iload 5, 2) := by decide +kernel
theorem qd_L_law_298 : decode qc_L_law 298 = .ok (.ifCond .ne 15, 3) := by decide +kernel
theorem qd_L_law_301 : decode qc_L_law 301 = .ok (.aload_n 3, 1) := by decide +kernel
theorem qd_L_law_302 : decode qc_L_law 302 = .ok (.iconst 0, 1) := by decide +kernel
theorem qd_L_law_303 : decode qc_L_law 303 = .ok (.laload, 1) := by decide +kernel
theorem qd_L_law_304 : decode qc_L_law 304 = .ok (.iload 6, 2) := by decide +kernel
theorem qd_L_law_306 : decode qc_L_law 306 = .ok (.i2l, 1) := by decide +kernel
theorem qd_L_law_307 : decode qc_L_law 307 = .ok (.lcmp, 1) := by decide +kernel
theorem qd_L_law_308 : decode qc_L_law 308 = .ok (.ifCond .eq 5, 3) := by decide +kernel
theorem qd_L_law_311 : decode qc_L_law 311 = .ok (.iconst 0, 1) := by decide +kernel
theorem qd_L_law_312 : decode qc_L_law 312 = .ok (.ireturn, 1) := by decide +kernel
theorem qd_L_law_313 : decode qc_L_law 313 = .ok (.goto 698, 3) := by decide +kernel
theorem qd_L_law_316 : decode qc_L_law 316 = .ok (.aload_n 1, 1) := by decide +kernel
theorem qd_L_law_317 : decode qc_L_law 317 = .ok (.aload_n 0, 1) := by decide +kernel
theorem qd_L_law_318 : decode qc_L_law 318 = .ok (.iload 4, 2) := by decide +kernel
theorem qd_L_law_320 : decode qc_L_law 320 = .ok (.iconst 1, 1) := by decide +kernel
theorem qd_L_law_321 : decode qc_L_law 321 = .ok (.iadd, 1) := by decide +kernel
theorem qd_L_law_322 : decode qc_L_law 322 = .ok (.iaload, 1) := by decide +kernel
theorem qd_L_law_323 : decode qc_L_law 323 = .ok (.aload_n 0, 1) := by decide +kernel
theorem qd_L_law_324 : decode qc_L_law 324 = .ok (.iload 4, 2) := by decide +kernel
theorem qd_L_law_326 : decode qc_L_law 326 = .ok (.iconst 2, 1) := by decide +kernel
theorem qd_L_law_327 : decode qc_L_law 327 = .ok (.iadd, 1) := by decide +kernel
theorem qd_L_law_328 : decode qc_L_law 328 = .ok (.iaload, 1) := by decide +kernel
theorem qd_L_law_329 : decode qc_L_law 329 = .ok (.aload_n 3, 1) := by decide +kernel
theorem qd_L_law_330 : decode qc_L_law 330 = .ok (.invokestatic 82, 3) := by decide +kernel
theorem qd_L_law_333 : decode qc_L_law 333 = .ok (.istore 5, 2) := by decide +kernel
theorem qd_L_law_335 : decode qc_L_law 335 = .ok (.aload_n 2, 1) := by decide +kernel
theorem qd_L_law_336 : decode qc_L_law 336 = .ok (.aload_n 0, 1) := by decide +kernel
theorem qd_L_law_337 : decode qc_L_law 337 = .ok (.iload 4, 2) := by decide +kernel
theorem qd_L_law_339 : decode qc_L_law 339 = .ok (.iconst 1, 1) := by decide +kernel
theorem qd_L_law_340 : decode qc_L_law 340 = .ok (.iadd, 1) := by decide +kernel
theorem qd_L_law_341 : decode qc_L_law 341 = .ok (.iaload, 1) := by decide +kernel
theorem qd_L_law_342 : decode qc_L_law 342 = .ok (.aload_n 0, 1) := by decide +kernel
theorem qd_L_law_343 : decode qc_L_law 343 = .ok (.iload 4, 2) := by decide +kernel
theorem qd_L_law_345 : decode qc_L_law 345 = .ok (.iconst 2, 1) := by decide +kernel
theorem qd_L_law_346 : decode qc_L_law 346 = .ok (.iadd, 1) := by decide +kernel
theorem qd_L_law_347 : decode qc_L_law 347 = .ok (.iaload, 1) := by decide +kernel
theorem qd_L_law_348 : decode qc_L_law 348 = .ok (.invokevirtual 85, 3) := by decide +kernel
theorem qd_L_law_351 : decode qc_L_law 351 = .ok (.istore 6, 2) := by decide +kernel
theorem qd_L_law_353 : decode qc_L_law 353 = .ok (.aload_n 2, 1) := by decide +kernel
theorem qd_L_law_354 : decode qc_L_law 354 = .ok (.invokevirtual 71, 3) := by decide +kernel
theorem qd_L_law_357 : decode qc_L_law 357 = .ok (.iload 5, 2) := by decide +kernel
theorem qd_L_law_359 : decode qc_L_law 359 = .ok (.if_icmp .eq 5, 3) := by decide +kernel
theorem qd_L_law_362 : decode qc_L_law 362 = .ok (.iconst 0, 1) := by decide +kernel
theorem qd_L_law_363 : decode qc_L_law 363 = .ok (.ireturn, 1) := by decide +kernel
theorem qd_L_law_364 : decode qc_L_law 364 = .ok (.iload 5, 2) := by decide +kernel
theorem qd_L_law_366 : decode qc_L_law 366 = .ok (.ifCond .ne 15, 3) := by decide +kernel
theorem qd_L_law_369 : decode qc_L_law 369 = .ok (.aload_n 3, 1) := by decide +kernel
theorem qd_L_law_370 : decode qc_L_law 370 = .ok (.iconst 0, 1) := by decide +kernel
theorem qd_L_law_371 : decode qc_L_law 371 = .ok (.laload, 1) := by decide +kernel
theorem qd_L_law_372 : decode qc_L_law 372 = .ok (.iload 6, 2) := by decide +kernel
theorem qd_L_law_374 : decode qc_L_law 374 = .ok (.i2l, 1) := by decide +kernel
theorem qd_L_law_375 : decode qc_L_law 375 = .ok (.lcmp, 1) := by decide +kernel
theorem qd_L_law_376 : decode qc_L_law 376 = .ok (.ifCond .eq 5, 3) := by decide +kernel
theorem qd_L_law_379 : decode qc_L_law 379 = .ok (.iconst 0, 1) := by decide +kernel
theorem qd_L_law_380 : decode qc_L_law 380 = .ok (.ireturn, 1) := by decide +kernel
theorem qd_L_law_381 : decode qc_L_law 381 = .ok (.goto 630, 3) := by decide +kernel
theorem qd_L_law_384 : decode qc_L_law 384 = .ok (.aload_n 1, 1) := by decide +kernel
theorem qd_L_law_385 : decode qc_L_law 385 = .ok (.aload_n 0, 1) := by decide +kernel
theorem qd_L_law_386 : decode qc_L_law 386 = .ok (.iload 4, 2) := by decide +kernel
theorem qd_L_law_388 : decode qc_L_law 388 = .ok (.iconst 1, 1) := by decide +kernel
theorem qd_L_law_389 : decode qc_L_law 389 = .ok (.iadd, 1) := by decide +kernel
theorem qd_L_law_390 : decode qc_L_law 390 = .ok (.iaload, 1) := by decide +kernel
theorem qd_L_law_391 : decode qc_L_law 391 = .ok (.aload_n 0, 1) := by decide +kernel
theorem qd_L_law_392 : decode qc_L_law 392 = .ok (.iload 4, 2) := by decide +kernel
theorem qd_L_law_394 : decode qc_L_law 394 = .ok (.iconst 2, 1) := by decide +kernel
theorem qd_L_law_395 : decode qc_L_law 395 = .ok (.iadd, 1) := by decide +kernel
theorem qd_L_law_396 : decode qc_L_law 396 = .ok (.iaload, 1) := by decide +kernel
theorem qd_L_law_397 : decode qc_L_law 397 = .ok (.aload_n 0, 1) := by decide +kernel
theorem qd_L_law_398 : decode qc_L_law 398 = .ok (.iload 4, 2) := by decide +kernel
theorem qd_L_law_400 : decode qc_L_law 400 = .ok (.iconst 3, 1) := by decide +kernel
theorem qd_L_law_401 : decode qc_L_law 401 = .ok (.iadd, 1) := by decide +kernel
theorem qd_L_law_402 : decode qc_L_law 402 = .ok (.iaload, 1) := by decide +kernel
theorem qd_L_law_403 : decode qc_L_law 403 = .ok (.invokestatic 86, 3) := by decide +kernel
theorem qd_L_law_406 : decode qc_L_law 406 = .ok (.istore 5, 2) := by decide +kernel
theorem qd_L_law_408 : decode qc_L_law 408 = .ok (.aload_n 2, 1) := by decide +kernel
theorem qd_L_law_409 : decode qc_L_law 409 = .ok (.aload_n 0, 1) := by decide +kernel
theorem qd_L_law_410 : decode qc_L_law 410 = .ok (.iload 4, 2) := by decide +kernel
theorem qd_L_law_412 : decode qc_L_law 412 = .ok (.iconst 1, 1) := by decide +kernel
theorem qd_L_law_413 : decode qc_L_law 413 = .ok (.iadd, 1) := by decide +kernel
theorem qd_L_law_414 : decode qc_L_law 414 = .ok (.iaload, 1) := by decide +kernel
theorem qd_L_law_415 : decode qc_L_law 415 = .ok (.aload_n 0, 1) := by decide +kernel
theorem qd_L_law_416 : decode qc_L_law 416 = .ok (.iload 4, 2) := by decide +kernel
theorem qd_L_law_418 : decode qc_L_law 418 = .ok (.iconst 2, 1) := by decide +kernel
theorem qd_L_law_419 : decode qc_L_law 419 = .ok (.iadd, 1) := by decide +kernel
theorem qd_L_law_420 : decode qc_L_law 420 = .ok (.iaload, 1) := by decide +kernel
theorem qd_L_law_421 : decode qc_L_law 421 = .ok (.aload_n 0, 1) := by decide +kernel
theorem qd_L_law_422 : decode qc_L_law 422 = .ok (.iload 4, 2) := by decide +kernel
theorem qd_L_law_424 : decode qc_L_law 424 = .ok (.iconst 3, 1) := by decide +kernel
theorem qd_L_law_425 : decode qc_L_law 425 = .ok (.iadd, 1) := by decide +kernel
theorem qd_L_law_426 : decode qc_L_law 426 = .ok (.iaload, 1) := by decide +kernel
theorem qd_L_law_427 : decode qc_L_law 427 = .ok (.invokevirtual 89, 3) := by decide +kernel
theorem qd_L_law_430 : decode qc_L_law 430 = .ok (.aload_n 2, 1) := by decide +kernel
theorem qd_L_law_431 : decode qc_L_law 431 = .ok (.invokevirtual 71, 3) := by decide +kernel
theorem qd_L_law_434 : decode qc_L_law 434 = .ok (.iload 5, 2) := by decide +kernel
theorem qd_L_law_436 : decode qc_L_law 436 = .ok (.if_icmp .eq 5, 3) := by decide +kernel
theorem qd_L_law_439 : decode qc_L_law 439 = .ok (.iconst 0, 1) := by decide +kernel
theorem qd_L_law_440 : decode qc_L_law 440 = .ok (.ireturn, 1) := by decide +kernel
theorem qd_L_law_441 : decode qc_L_law 441 = .ok (.goto 570, 3) := by decide +kernel
theorem qd_L_law_444 : decode qc_L_law 444 = .ok (.aload_n 1, 1) := by decide +kernel
theorem qd_L_law_445 : decode qc_L_law 445 = .ok (.aload_n 0, 1) := by decide +kernel
theorem qd_L_law_446 : decode qc_L_law 446 = .ok (.iload 4, 2) := by decide +kernel
theorem qd_L_law_448 : decode qc_L_law 448 = .ok (.iconst 1, 1) := by decide +kernel
theorem qd_L_law_449 : decode qc_L_law 449 = .ok (.iadd, 1) := by decide +kernel
theorem qd_L_law_450 : decode qc_L_law 450 = .ok (.iaload, 1) := by decide +kernel
theorem qd_L_law_451 : decode qc_L_law 451 = .ok (.aload_n 3, 1) := by decide +kernel
theorem qd_L_law_452 : decode qc_L_law 452 = .ok (.invokestatic 90, 3) := by decide +kernel
theorem qd_L_law_455 : decode qc_L_law 455 = .ok (.istore 5, 2) := by decide +kernel
theorem qd_L_law_457 : decode qc_L_law 457 = .ok (.aload_n 2, 1) := by decide +kernel
theorem qd_L_law_458 : decode qc_L_law 458 = .ok (.aload_n 0, 1) := by decide +kernel
theorem qd_L_law_459 : decode qc_L_law 459 = .ok (.iload 4, 2) := by decide +kernel
theorem qd_L_law_461 : decode qc_L_law 461 = .ok (.iconst 1, 1) := by decide +kernel
theorem qd_L_law_462 : decode qc_L_law 462 = .ok (.iadd, 1) := by decide +kernel
theorem qd_L_law_463 : decode qc_L_law 463 = .ok (.iaload, 1) := by decide +kernel
theorem qd_L_law_464 : decode qc_L_law 464 = .ok (.invokevirtual 92, 3) := by decide +kernel
theorem qd_L_law_467 : decode qc_L_law 467 = .ok (.istore 6, 2) := by decide +kernel
theorem qd_L_law_469 : decode qc_L_law 469 = .ok (.aload_n 2, 1) := by decide +kernel
theorem qd_L_law_470 : decode qc_L_law 470 = .ok (.invokevirtual 71, 3) := by decide +kernel
theorem qd_L_law_473 : decode qc_L_law 473 = .ok (.iload 5, 2) := by decide +kernel
theorem qd_L_law_475 : decode qc_L_law 475 = .ok (.if_icmp .eq 5, 3) := by decide +kernel
theorem qd_L_law_478 : decode qc_L_law 478 = .ok (.iconst 0, 1) := by decide +kernel
theorem qd_L_law_479 : decode qc_L_law 479 = .ok (.ireturn, 1) := by decide +kernel
theorem qd_L_law_480 : decode qc_L_law 480 = .ok (.iload 5, 2) := by decide +kernel
theorem qd_L_law_482 : decode qc_L_law 482 = .ok (.ifCond .ne 15, 3) := by decide +kernel
theorem qd_L_law_485 : decode qc_L_law 485 = .ok (.aload_n 3, 1) := by decide +kernel
theorem qd_L_law_486 : decode qc_L_law 486 = .ok (.iconst 0, 1) := by decide +kernel
theorem qd_L_law_487 : decode qc_L_law 487 = .ok (.laload, 1) := by decide +kernel
theorem qd_L_law_488 : decode qc_L_law 488 = .ok (.iload 6, 2) := by decide +kernel
theorem qd_L_law_490 : decode qc_L_law 490 = .ok (.i2l, 1) := by decide +kernel
theorem qd_L_law_491 : decode qc_L_law 491 = .ok (.lcmp, 1) := by decide +kernel
theorem qd_L_law_492 : decode qc_L_law 492 = .ok (.ifCond .eq 5, 3) := by decide +kernel
theorem qd_L_law_495 : decode qc_L_law 495 = .ok (.iconst 0, 1) := by decide +kernel
theorem qd_L_law_496 : decode qc_L_law 496 = .ok (.ireturn, 1) := by decide +kernel
theorem qd_L_law_497 : decode qc_L_law 497 = .ok (.goto 514, 3) := by decide +kernel
theorem qd_L_law_500 : decode qc_L_law 500 = .ok (.aload_n 1, 1) := by decide +kernel
theorem qd_L_law_501 : decode qc_L_law 501 = .ok (.aload_n 0, 1) := by decide +kernel
theorem qd_L_law_502 : decode qc_L_law 502 = .ok (.iload 4, 2) := by decide +kernel
theorem qd_L_law_504 : decode qc_L_law 504 = .ok (.iconst 1, 1) := by decide +kernel
theorem qd_L_law_505 : decode qc_L_law 505 = .ok (.iadd, 1) := by decide +kernel
theorem qd_L_law_506 : decode qc_L_law 506 = .ok (.iaload, 1) := by decide +kernel
theorem qd_L_law_507 : decode qc_L_law 507 = .ok (.aload_n 0, 1) := by decide +kernel
theorem qd_L_law_508 : decode qc_L_law 508 = .ok (.iload 4, 2) := by decide +kernel
theorem qd_L_law_510 : decode qc_L_law 510 = .ok (.iconst 2, 1) := by decide +kernel
theorem qd_L_law_511 : decode qc_L_law 511 = .ok (.iadd, 1) := by decide +kernel
theorem qd_L_law_512 : decode qc_L_law 512 = .ok (.iaload, 1) := by decide +kernel
theorem qd_L_law_513 : decode qc_L_law 513 = .ok (.aload_n 0, 1) := by decide +kernel
theorem qd_L_law_514 : decode qc_L_law 514 = .ok (.iload 4, 2) := by decide +kernel
theorem qd_L_law_516 : decode qc_L_law 516 = .ok (.iconst 3, 1) := by decide +kernel
theorem qd_L_law_517 : decode qc_L_law 517 = .ok (.iadd, 1) := by decide +kernel
theorem qd_L_law_518 : decode qc_L_law 518 = .ok (.iaload, 1) := by decide +kernel
theorem qd_L_law_519 : decode qc_L_law 519 = .ok (.aload_n 3, 1) := by decide +kernel
theorem qd_L_law_520 : decode qc_L_law 520 = .ok (.invokestatic 93, 3) := by decide +kernel
theorem qd_L_law_523 : decode qc_L_law 523 = .ok (.istore 5, 2) := by decide +kernel
theorem qd_L_law_525 : decode qc_L_law 525 = .ok (.aload_n 2, 1) := by decide +kernel
theorem qd_L_law_526 : decode qc_L_law 526 = .ok (.aload_n 0, 1) := by decide +kernel
theorem qd_L_law_527 : decode qc_L_law 527 = .ok (.iload 4, 2) := by decide +kernel
theorem qd_L_law_529 : decode qc_L_law 529 = .ok (.iconst 1, 1) := by decide +kernel
theorem qd_L_law_530 : decode qc_L_law 530 = .ok (.iadd, 1) := by decide +kernel
theorem qd_L_law_531 : decode qc_L_law 531 = .ok (.iaload, 1) := by decide +kernel
theorem qd_L_law_532 : decode qc_L_law 532 = .ok (.aload_n 0, 1) := by decide +kernel
theorem qd_L_law_533 : decode qc_L_law 533 = .ok (.iload 4, 2) := by decide +kernel
theorem qd_L_law_535 : decode qc_L_law 535 = .ok (.iconst 2, 1) := by decide +kernel
theorem qd_L_law_536 : decode qc_L_law 536 = .ok (.iadd, 1) := by decide +kernel
theorem qd_L_law_537 : decode qc_L_law 537 = .ok (.iaload, 1) := by decide +kernel
theorem qd_L_law_538 : decode qc_L_law 538 = .ok (.aload_n 0, 1) := by decide +kernel
theorem qd_L_law_539 : decode qc_L_law 539 = .ok (.iload 4, 2) := by decide +kernel
theorem qd_L_law_541 : decode qc_L_law 541 = .ok (.iconst 3, 1) := by decide +kernel
theorem qd_L_law_542 : decode qc_L_law 542 = .ok (.iadd, 1) := by decide +kernel
theorem qd_L_law_543 : decode qc_L_law 543 = .ok (.iaload, 1) := by decide +kernel
theorem qd_L_law_544 : decode qc_L_law 544 = .ok (.invokevirtual 96, 3) := by decide +kernel
theorem qd_L_law_547 : decode qc_L_law 547 = .ok (.istore 6, 2) := by decide +kernel
theorem qd_L_law_549 : decode qc_L_law 549 = .ok (.aload_n 2, 1) := by decide +kernel
theorem qd_L_law_550 : decode qc_L_law 550 = .ok (.invokevirtual 71, 3) := by decide +kernel
theorem qd_L_law_553 : decode qc_L_law 553 = .ok (.iload 5, 2) := by decide +kernel
theorem qd_L_law_555 : decode qc_L_law 555 = .ok (.if_icmp .eq 5, 3) := by decide +kernel
theorem qd_L_law_558 : decode qc_L_law 558 = .ok (.iconst 0, 1) := by decide +kernel
theorem qd_L_law_559 : decode qc_L_law 559 = .ok (.ireturn, 1) := by decide +kernel
theorem qd_L_law_560 : decode qc_L_law 560 = .ok (.iload 5, 2) := by decide +kernel
theorem qd_L_law_562 : decode qc_L_law 562 = .ok (.ifCond .ne 22, 3) := by decide +kernel
theorem qd_L_law_565 : decode qc_L_law 565 = .ok (.aload_n 3, 1) := by decide +kernel
theorem qd_L_law_566 : decode qc_L_law 566 = .ok (.iconst 0, 1) := by decide +kernel
theorem qd_L_law_567 : decode qc_L_law 567 = .ok (.laload, 1) := by decide +kernel
theorem qd_L_law_568 : decode qc_L_law 568 = .ok (.iload 6, 2) := by decide +kernel
theorem qd_L_law_570 : decode qc_L_law 570 = .ok (.ifCond .eq 7, 3) := by decide +kernel
theorem qd_L_law_573 : decode qc_L_law 573 = .ok (.lconst 1, 1) := by decide +kernel
theorem qd_L_law_574 : decode qc_L_law 574 = .ok (.goto 4, 3) := by decide +kernel
theorem qd_L_law_577 : decode qc_L_law 577 = .ok (.lconst 0, 1) := by decide +kernel
theorem qd_L_law_578 : decode qc_L_law 578 = .ok (.lcmp, 1) := by decide +kernel
theorem qd_L_law_579 : decode qc_L_law 579 = .ok (.ifCond .eq 5, 3) := by decide +kernel
theorem qd_L_law_582 : decode qc_L_law 582 = .ok (.iconst 0, 1) := by decide +kernel
theorem qd_L_law_583 : decode qc_L_law 583 = .ok (.ireturn, 1) := by decide +kernel
theorem qd_L_law_584 : decode qc_L_law 584 = .ok (.goto 427, 3) := by decide +kernel
theorem qd_L_law_587 : decode qc_L_law 587 = .ok (.aload_n 1, 1) := by decide +kernel
theorem qd_L_law_588 : decode qc_L_law 588 = .ok (.aload_n 0, 1) := by decide +kernel
theorem qd_L_law_589 : decode qc_L_law 589 = .ok (.iload 4, 2) := by decide +kernel
theorem qd_L_law_591 : decode qc_L_law 591 = .ok (.iconst 1, 1) := by decide +kernel
theorem qd_L_law_592 : decode qc_L_law 592 = .ok (.iadd, 1) := by decide +kernel
theorem qd_L_law_593 : decode qc_L_law 593 = .ok (.iaload, 1) := by decide +kernel
theorem qd_L_law_594 : decode qc_L_law 594 = .ok (.aload_n 0, 1) := by decide +kernel
theorem qd_L_law_595 : decode qc_L_law 595 = .ok (.iload 4, 2) := by decide +kernel
theorem qd_L_law_597 : decode qc_L_law 597 = .ok (.iconst 2, 1) := by decide +kernel
theorem qd_L_law_598 : decode qc_L_law 598 = .ok (.iadd, 1) := by decide +kernel
theorem qd_L_law_599 : decode qc_L_law 599 = .ok (.iaload, 1) := by decide +kernel
theorem qd_L_law_600 : decode qc_L_law 600 = .ok (.aload_n 3, 1) := by decide +kernel
theorem qd_L_law_601 : decode qc_L_law 601 = .ok (.invokestatic 97, 3) := by decide +kernel
theorem qd_L_law_604 : decode qc_L_law 604 = .ok (.istore 5, 2) := by decide +kernel
theorem qd_L_law_606 : decode qc_L_law 606 = .ok (.aload_n 2, 1) := by decide +kernel
theorem qd_L_law_607 : decode qc_L_law 607 = .ok (.aload_n 0, 1) := by decide +kernel
theorem qd_L_law_608 : decode qc_L_law 608 = .ok (.iload 4, 2) := by decide +kernel
theorem qd_L_law_610 : decode qc_L_law 610 = .ok (.iconst 1, 1) := by decide +kernel
theorem qd_L_law_611 : decode qc_L_law 611 = .ok (.iadd, 1) := by decide +kernel
theorem qd_L_law_612 : decode qc_L_law 612 = .ok (.iaload, 1) := by decide +kernel
theorem qd_L_law_613 : decode qc_L_law 613 = .ok (.aload_n 0, 1) := by decide +kernel
theorem qd_L_law_614 : decode qc_L_law 614 = .ok (.iload 4, 2) := by decide +kernel
theorem qd_L_law_616 : decode qc_L_law 616 = .ok (.iconst 2, 1) := by decide +kernel
theorem qd_L_law_617 : decode qc_L_law 617 = .ok (.iadd, 1) := by decide +kernel
theorem qd_L_law_618 : decode qc_L_law 618 = .ok (.iaload, 1) := by decide +kernel
theorem qd_L_law_619 : decode qc_L_law 619 = .ok (.invokevirtual 99, 3) := by decide +kernel
theorem qd_L_law_622 : decode qc_L_law 622 = .ok (.istore 6, 2) := by decide +kernel
theorem qd_L_law_624 : decode qc_L_law 624 = .ok (.aload_n 2, 1) := by decide +kernel
theorem qd_L_law_625 : decode qc_L_law 625 = .ok (.invokevirtual 71, 3) := by decide +kernel
theorem qd_L_law_628 : decode qc_L_law 628 = .ok (.iload 5, 2) := by decide +kernel
theorem qd_L_law_630 : decode qc_L_law 630 = .ok (.if_icmp .eq 5, 3) := by decide +kernel
theorem qd_L_law_633 : decode qc_L_law 633 = .ok (.iconst 0, 1) := by decide +kernel
theorem qd_L_law_634 : decode qc_L_law 634 = .ok (.ireturn, 1) := by decide +kernel
theorem qd_L_law_635 : decode qc_L_law 635 = .ok (.iload 5, 2) := by decide +kernel
theorem qd_L_law_637 : decode qc_L_law 637 = .ok (.ifCond .ne 22, 3) := by decide +kernel
theorem qd_L_law_640 : decode qc_L_law 640 = .ok (.aload_n 3, 1) := by decide +kernel
theorem qd_L_law_641 : decode qc_L_law 641 = .ok (.iconst 0, 1) := by decide +kernel
theorem qd_L_law_642 : decode qc_L_law 642 = .ok (.laload, 1) := by decide +kernel
theorem qd_L_law_643 : decode qc_L_law 643 = .ok (.iload 6, 2) := by decide +kernel
theorem qd_L_law_645 : decode qc_L_law 645 = .ok (.ifCond .eq 7, 3) := by decide +kernel
theorem qd_L_law_648 : decode qc_L_law 648 = .ok (.lconst 1, 1) := by decide +kernel
theorem qd_L_law_649 : decode qc_L_law 649 = .ok (.goto 4, 3) := by decide +kernel
theorem qd_L_law_652 : decode qc_L_law 652 = .ok (.lconst 0, 1) := by decide +kernel
theorem qd_L_law_653 : decode qc_L_law 653 = .ok (.lcmp, 1) := by decide +kernel
theorem qd_L_law_654 : decode qc_L_law 654 = .ok (.ifCond .eq 5, 3) := by decide +kernel
theorem qd_L_law_657 : decode qc_L_law 657 = .ok (.iconst 0, 1) := by decide +kernel
theorem qd_L_law_658 : decode qc_L_law 658 = .ok (.ireturn, 1) := by decide +kernel
theorem qd_L_law_659 : decode qc_L_law 659 = .ok (.goto 352, 3) := by decide +kernel
theorem qd_L_law_662 : decode qc_L_law 662 = .ok (.aload_n 1, 1) := by decide +kernel
theorem qd_L_law_663 : decode qc_L_law 663 = .ok (.invokevirtual 100, 3) := by decide +kernel
theorem qd_L_law_666 : decode qc_L_law 666 = .ok (.aload_n 2, 1) := by decide +kernel
theorem qd_L_law_667 : decode qc_L_law 667 = .ok (.invokevirtual 104, 3) := by decide +kernel
theorem qd_L_law_670 : decode qc_L_law 670 = .ok (.if_icmp .eq 341, 3) := by decide +kernel
theorem qd_L_law_673 : decode qc_L_law 673 = .ok (.iconst 0, 1) := by decide +kernel
theorem qd_L_law_674 : decode qc_L_law 674 = .ok (.ireturn, 1) := by decide +kernel
theorem qd_L_law_675 : decode qc_L_law 675 = .ok (.aload_n 1, 1) := by decide +kernel
theorem qd_L_law_676 : decode qc_L_law 676 = .ok (.aload_n 0, 1) := by decide +kernel
theorem qd_L_law_677 : decode qc_L_law 677 = .ok (.iload 4, 2) := by decide +kernel
theorem qd_L_law_679 : decode qc_L_law 679 = .ok (.iconst 1, 1) := by decide +kernel
theorem qd_L_law_680 : decode qc_L_law 680 = .ok (.iadd, 1) := by decide +kernel
theorem qd_L_law_681 : decode qc_L_law 681 = .ok (.iaload, 1) := by decide +kernel
theorem qd_L_law_682 : decode qc_L_law 682 = .ok (.aload_n 3, 1) := by decide +kernel
theorem qd_L_law_683 : decode qc_L_law 683 = .ok (.invokestatic 105, 3) := by decide +kernel
theorem qd_L_law_686 : decode qc_L_law 686 = .ok (.istore 5, 2) := by decide +kernel
theorem qd_L_law_688 : decode qc_L_law 688 = .ok (.aload_n 2, 1) := by decide +kernel
theorem qd_L_law_689 : decode qc_L_law 689 = .ok (.aload_n 0, 1) := by decide +kernel
theorem qd_L_law_690 : decode qc_L_law 690 = .ok (.iload 4, 2) := by decide +kernel
theorem qd_L_law_692 : decode qc_L_law 692 = .ok (.iconst 1, 1) := by decide +kernel
theorem qd_L_law_693 : decode qc_L_law 693 = .ok (.iadd, 1) := by decide +kernel
theorem qd_L_law_694 : decode qc_L_law 694 = .ok (.iaload, 1) := by decide +kernel
theorem qd_L_law_695 : decode qc_L_law 695 = .ok (.invokevirtual 107, 3) := by decide +kernel
theorem qd_L_law_698 : decode qc_L_law 698 = .ok (.istore 6, 2) := by decide +kernel
theorem qd_L_law_700 : decode qc_L_law 700 = .ok (.aload_n 2, 1) := by decide +kernel
theorem qd_L_law_701 : decode qc_L_law 701 = .ok (.invokevirtual 71, 3) := by decide +kernel
theorem qd_L_law_704 : decode qc_L_law 704 = .ok (.iload 5, 2) := by decide +kernel
theorem qd_L_law_706 : decode qc_L_law 706 = .ok (.if_icmp .eq 5, 3) := by decide +kernel
theorem qd_L_law_709 : decode qc_L_law 709 = .ok (.iconst 0, 1) := by decide +kernel
theorem qd_L_law_710 : decode qc_L_law 710 = .ok (.ireturn, 1) := by decide +kernel
theorem qd_L_law_711 : decode qc_L_law 711 = .ok (.iload 5, 2) := by decide +kernel
theorem qd_L_law_713 : decode qc_L_law 713 = .ok (.ifCond .ne 15, 3) := by decide +kernel
theorem qd_L_law_716 : decode qc_L_law 716 = .ok (.aload_n 3, 1) := by decide +kernel
theorem qd_L_law_717 : decode qc_L_law 717 = .ok (.iconst 0, 1) := by decide +kernel
theorem qd_L_law_718 : decode qc_L_law 718 = .ok (.laload, 1) := by decide +kernel
theorem qd_L_law_719 : decode qc_L_law 719 = .ok (.iload 6, 2) := by decide +kernel
theorem qd_L_law_721 : decode qc_L_law 721 = .ok (.i2l, 1) := by decide +kernel
theorem qd_L_law_722 : decode qc_L_law 722 = .ok (.lcmp, 1) := by decide +kernel
theorem qd_L_law_723 : decode qc_L_law 723 = .ok (.ifCond .eq 5, 3) := by decide +kernel
theorem qd_L_law_726 : decode qc_L_law 726 = .ok (.iconst 0, 1) := by decide +kernel
theorem qd_L_law_727 : decode qc_L_law 727 = .ok (.ireturn, 1) := by decide +kernel
theorem qd_L_law_728 : decode qc_L_law 728 = .ok (.goto 283, 3) := by decide +kernel
theorem qd_L_law_731 : decode qc_L_law 731 = .ok (.aload_n 1, 1) := by decide +kernel
theorem qd_L_law_732 : decode qc_L_law 732 = .ok (.aload_n 0, 1) := by decide +kernel
theorem qd_L_law_733 : decode qc_L_law 733 = .ok (.iload 4, 2) := by decide +kernel
theorem qd_L_law_735 : decode qc_L_law 735 = .ok (.iconst 1, 1) := by decide +kernel
theorem qd_L_law_736 : decode qc_L_law 736 = .ok (.iadd, 1) := by decide +kernel
theorem qd_L_law_737 : decode qc_L_law 737 = .ok (.iaload, 1) := by decide +kernel
theorem qd_L_law_738 : decode qc_L_law 738 = .ok (.aload_n 3, 1) := by decide +kernel
theorem qd_L_law_739 : decode qc_L_law 739 = .ok (.invokestatic 108, 3) := by decide +kernel
theorem qd_L_law_742 : decode qc_L_law 742 = .ok (.istore 5, 2) := by decide +kernel
theorem qd_L_law_744 : decode qc_L_law 744 = .ok (.aload_n 2, 1) := by decide +kernel
theorem qd_L_law_745 : decode qc_L_law 745 = .ok (.aload_n 0, 1) := by decide +kernel
theorem qd_L_law_746 : decode qc_L_law 746 = .ok (.iload 4, 2) := by decide +kernel
theorem qd_L_law_748 : decode qc_L_law 748 = .ok (.iconst 1, 1) := by decide +kernel
theorem qd_L_law_749 : decode qc_L_law 749 = .ok (.iadd, 1) := by decide +kernel
theorem qd_L_law_750 : decode qc_L_law 750 = .ok (.iaload, 1) := by decide +kernel
theorem qd_L_law_751 : decode qc_L_law 751 = .ok (.invokevirtual 110, 3) := by decide +kernel
theorem qd_L_law_754 : decode qc_L_law 754 = .ok (.istore 6, 2) := by decide +kernel
theorem qd_L_law_756 : decode qc_L_law 756 = .ok (.aload_n 2, 1) := by decide +kernel
theorem qd_L_law_757 : decode qc_L_law 757 = .ok (.invokevirtual 71, 3) := by decide +kernel
theorem qd_L_law_760 : decode qc_L_law 760 = .ok (.iload 5, 2) := by decide +kernel
theorem qd_L_law_762 : decode qc_L_law 762 = .ok (.if_icmp .eq 5, 3) := by decide +kernel
theorem qd_L_law_765 : decode qc_L_law 765 = .ok (.iconst 0, 1) := by decide +kernel
theorem qd_L_law_766 : decode qc_L_law 766 = .ok (.ireturn, 1) := by decide +kernel
theorem qd_L_law_767 : decode qc_L_law 767 = .ok (.iload 5, 2) := by decide +kernel
theorem qd_L_law_769 : decode qc_L_law 769 = .ok (.ifCond .ne 22, 3) := by decide +kernel
theorem qd_L_law_772 : decode qc_L_law 772 = .ok (.aload_n 3, 1) := by decide +kernel
theorem qd_L_law_773 : decode qc_L_law 773 = .ok (.iconst 0, 1) := by decide +kernel
theorem qd_L_law_774 : decode qc_L_law 774 = .ok (.laload, 1) := by decide +kernel
theorem qd_L_law_775 : decode qc_L_law 775 = .ok (.iload 6, 2) := by decide +kernel
theorem qd_L_law_777 : decode qc_L_law 777 = .ok (.ifCond .eq 7, 3) := by decide +kernel
theorem qd_L_law_780 : decode qc_L_law 780 = .ok (.lconst 1, 1) := by decide +kernel
theorem qd_L_law_781 : decode qc_L_law 781 = .ok (.goto 4, 3) := by decide +kernel
theorem qd_L_law_784 : decode qc_L_law 784 = .ok (.lconst 0, 1) := by decide +kernel
theorem qd_L_law_785 : decode qc_L_law 785 = .ok (.lcmp, 1) := by decide +kernel
theorem qd_L_law_786 : decode qc_L_law 786 = .ok (.ifCond .eq 5, 3) := by decide +kernel
theorem qd_L_law_789 : decode qc_L_law 789 = .ok (.iconst 0, 1) := by decide +kernel
theorem qd_L_law_790 : decode qc_L_law 790 = .ok (.ireturn, 1) := by decide +kernel
theorem qd_L_law_791 : decode qc_L_law 791 = .ok (.goto 220, 3) := by decide +kernel
theorem qd_L_law_794 : decode qc_L_law 794 = .ok (.aload_n 1, 1) := by decide +kernel
theorem qd_L_law_795 : decode qc_L_law 795 = .ok (.aload_n 0, 1) := by decide +kernel
theorem qd_L_law_796 : decode qc_L_law 796 = .ok (.iload 4, 2) := by decide +kernel
theorem qd_L_law_798 : decode qc_L_law 798 = .ok (.iconst 1, 1) := by decide +kernel
theorem qd_L_law_799 : decode qc_L_law 799 = .ok (.iadd, 1) := by decide +kernel
theorem qd_L_law_800 : decode qc_L_law 800 = .ok (.iaload, 1) := by decide +kernel
theorem qd_L_law_801 : decode qc_L_law 801 = .ok (.aload_n 3, 1) := by decide +kernel
theorem qd_L_law_802 : decode qc_L_law 802 = .ok (.invokestatic 111, 3) := by decide +kernel
theorem qd_L_law_805 : decode qc_L_law 805 = .ok (.istore 5, 2) := by decide +kernel
theorem qd_L_law_807 : decode qc_L_law 807 = .ok (.aload_n 2, 1) := by decide +kernel
theorem qd_L_law_808 : decode qc_L_law 808 = .ok (.aload_n 0, 1) := by decide +kernel
theorem qd_L_law_809 : decode qc_L_law 809 = .ok (.iload 4, 2) := by decide +kernel
theorem qd_L_law_811 : decode qc_L_law 811 = .ok (.iconst 1, 1) := by decide +kernel
theorem qd_L_law_812 : decode qc_L_law 812 = .ok (.iadd, 1) := by decide +kernel
theorem qd_L_law_813 : decode qc_L_law 813 = .ok (.iaload, 1) := by decide +kernel
theorem qd_L_law_814 : decode qc_L_law 814 = .ok (.invokevirtual 113, 3) := by decide +kernel
theorem qd_L_law_817 : decode qc_L_law 817 = .ok (.istore 6, 2) := by decide +kernel
theorem qd_L_law_819 : decode qc_L_law 819 = .ok (.aload_n 2, 1) := by decide +kernel
theorem qd_L_law_820 : decode qc_L_law 820 = .ok (.invokevirtual 71, 3) := by decide +kernel
theorem qd_L_law_823 : decode qc_L_law 823 = .ok (.iload 5, 2) := by decide +kernel
theorem qd_L_law_825 : decode qc_L_law 825 = .ok (.if_icmp .eq 5, 3) := by decide +kernel
theorem qd_L_law_828 : decode qc_L_law 828 = .ok (.iconst 0, 1) := by decide +kernel
theorem qd_L_law_829 : decode qc_L_law 829 = .ok (.ireturn, 1) := by decide +kernel
theorem qd_L_law_830 : decode qc_L_law 830 = .ok (.iload 5, 2) := by decide +kernel
theorem qd_L_law_832 : decode qc_L_law 832 = .ok (.ifCond .ne 15, 3) := by decide +kernel
theorem qd_L_law_835 : decode qc_L_law 835 = .ok (.aload_n 3, 1) := by decide +kernel
theorem qd_L_law_836 : decode qc_L_law 836 = .ok (.iconst 0, 1) := by decide +kernel
theorem qd_L_law_837 : decode qc_L_law 837 = .ok (.laload, 1) := by decide +kernel
theorem qd_L_law_838 : decode qc_L_law 838 = .ok (.iload 6, 2) := by decide +kernel
theorem qd_L_law_840 : decode qc_L_law 840 = .ok (.i2l, 1) := by decide +kernel
theorem qd_L_law_841 : decode qc_L_law 841 = .ok (.lcmp, 1) := by decide +kernel
theorem qd_L_law_842 : decode qc_L_law 842 = .ok (.ifCond .eq 5, 3) := by decide +kernel
theorem qd_L_law_845 : decode qc_L_law 845 = .ok (.iconst 0, 1) := by decide +kernel
theorem qd_L_law_846 : decode qc_L_law 846 = .ok (.ireturn, 1) := by decide +kernel
theorem qd_L_law_847 : decode qc_L_law 847 = .ok (.goto 164, 3) := by decide +kernel
theorem qd_L_law_850 : decode qc_L_law 850 = .ok (.aload_n 1, 1) := by decide +kernel
theorem qd_L_law_851 : decode qc_L_law 851 = .ok (.aload_n 0, 1) := by decide +kernel
theorem qd_L_law_852 : decode qc_L_law 852 = .ok (.iload 4, 2) := by decide +kernel
theorem qd_L_law_854 : decode qc_L_law 854 = .ok (.iconst 1, 1) := by decide +kernel
theorem qd_L_law_855 : decode qc_L_law 855 = .ok (.iadd, 1) := by decide +kernel
theorem qd_L_law_856 : decode qc_L_law 856 = .ok (.iaload, 1) := by decide +kernel
theorem qd_L_law_857 : decode qc_L_law 857 = .ok (.aload_n 0, 1) := by decide +kernel
theorem qd_L_law_858 : decode qc_L_law 858 = .ok (.iload 4, 2) := by decide +kernel
theorem qd_L_law_860 : decode qc_L_law 860 = .ok (.iconst 2, 1) := by decide +kernel
theorem qd_L_law_861 : decode qc_L_law 861 = .ok (.iadd, 1) := by decide +kernel
theorem qd_L_law_862 : decode qc_L_law 862 = .ok (.iaload, 1) := by decide +kernel
theorem qd_L_law_863 : decode qc_L_law 863 = .ok (.aload_n 3, 1) := by decide +kernel
theorem qd_L_law_864 : decode qc_L_law 864 = .ok (.invokestatic 114, 3) := by decide +kernel
theorem qd_L_law_867 : decode qc_L_law 867 = .ok (.istore 5, 2) := by decide +kernel
theorem qd_L_law_869 : decode qc_L_law 869 = .ok (.aload_n 2, 1) := by decide +kernel
theorem qd_L_law_870 : decode qc_L_law 870 = .ok (.aload_n 0, 1) := by decide +kernel
theorem qd_L_law_871 : decode qc_L_law 871 = .ok (.iload 4, 2) := by decide +kernel
theorem qd_L_law_873 : decode qc_L_law 873 = .ok (.iconst 1, 1) := by decide +kernel
theorem qd_L_law_874 : decode qc_L_law 874 = .ok (.iadd, 1) := by decide +kernel
theorem qd_L_law_875 : decode qc_L_law 875 = .ok (.iaload, 1) := by decide +kernel
theorem qd_L_law_876 : decode qc_L_law 876 = .ok (.aload_n 0, 1) := by decide +kernel
theorem qd_L_law_877 : decode qc_L_law 877 = .ok (.iload 4, 2) := by decide +kernel
theorem qd_L_law_879 : decode qc_L_law 879 = .ok (.iconst 2, 1) := by decide +kernel
theorem qd_L_law_880 : decode qc_L_law 880 = .ok (.iadd, 1) := by decide +kernel
theorem qd_L_law_881 : decode qc_L_law 881 = .ok (.iaload, 1) := by decide +kernel
theorem qd_L_law_882 : decode qc_L_law 882 = .ok (.invokevirtual 116, 3) := by decide +kernel
theorem qd_L_law_885 : decode qc_L_law 885 = .ok (.istore 6, 2) := by decide +kernel
theorem qd_L_law_887 : decode qc_L_law 887 = .ok (.aload_n 2, 1) := by decide +kernel
theorem qd_L_law_888 : decode qc_L_law 888 = .ok (.invokevirtual 71, 3) := by decide +kernel
theorem qd_L_law_891 : decode qc_L_law 891 = .ok (.iload 5, 2) := by decide +kernel
theorem qd_L_law_893 : decode qc_L_law 893 = .ok (.if_icmp .eq 5, 3) := by decide +kernel
theorem qd_L_law_896 : decode qc_L_law 896 = .ok (.iconst 0, 1) := by decide +kernel
theorem qd_L_law_897 : decode qc_L_law 897 = .ok (.ireturn, 1) := by decide +kernel
theorem qd_L_law_898 : decode qc_L_law 898 = .ok (.iload 5, 2) := by decide +kernel
theorem qd_L_law_900 : decode qc_L_law 900 = .ok (.ifCond .ne 15, 3) := by decide +kernel
theorem qd_L_law_903 : decode qc_L_law 903 = .ok (.aload_n 3, 1) := by decide +kernel
theorem qd_L_law_904 : decode qc_L_law 904 = .ok (.iconst 0, 1) := by decide +kernel
theorem qd_L_law_905 : decode qc_L_law 905 = .ok (.laload, 1) := by decide +kernel
theorem qd_L_law_906 : decode qc_L_law 906 = .ok (.iload 6, 2) := by decide +kernel
theorem qd_L_law_908 : decode qc_L_law 908 = .ok (.i2l, 1) := by decide +kernel
theorem qd_L_law_909 : decode qc_L_law 909 = .ok (.lcmp, 1) := by decide +kernel
theorem qd_L_law_910 : decode qc_L_law 910 = .ok (.ifCond .eq 5, 3) := by decide +kernel
theorem qd_L_law_913 : decode qc_L_law 913 = .ok (.iconst 0, 1) := by decide +kernel
theorem qd_L_law_914 : decode qc_L_law 914 = .ok (.ireturn, 1) := by decide +kernel
theorem qd_L_law_915 : decode qc_L_law 915 = .ok (.goto 96, 3) := by decide +kernel
theorem qd_L_law_918 : decode qc_L_law 918 = .ok (.aload_n 1, 1) := by decide +kernel
theorem qd_L_law_919 : decode qc_L_law 919 = .ok (.aload_n 0, 1) := by decide +kernel
theorem qd_L_law_920 : decode qc_L_law 920 = .ok (.iload 4, 2) := by decide +kernel
theorem qd_L_law_922 : decode qc_L_law 922 = .ok (.iconst 1, 1) := by decide +kernel
theorem qd_L_law_923 : decode qc_L_law 923 = .ok (.iadd, 1) := by decide +kernel
theorem qd_L_law_924 : decode qc_L_law 924 = .ok (.iaload, 1) := by decide +kernel
theorem qd_L_law_925 : decode qc_L_law 925 = .ok (.aload_n 0, 1) := by decide +kernel
theorem qd_L_law_926 : decode qc_L_law 926 = .ok (.iload 4, 2) := by decide +kernel
theorem qd_L_law_928 : decode qc_L_law 928 = .ok (.iconst 2, 1) := by decide +kernel
theorem qd_L_law_929 : decode qc_L_law 929 = .ok (.iadd, 1) := by decide +kernel
theorem qd_L_law_930 : decode qc_L_law 930 = .ok (.iaload, 1) := by decide +kernel
theorem qd_L_law_931 : decode qc_L_law 931 = .ok (.aload_n 3, 1) := by decide +kernel
theorem qd_L_law_932 : decode qc_L_law 932 = .ok (.invokestatic 117, 3) := by decide +kernel
theorem qd_L_law_935 : decode qc_L_law 935 = .ok (.istore 5, 2) := by decide +kernel
theorem qd_L_law_937 : decode qc_L_law 937 = .ok (.aload_n 2, 1) := by decide +kernel
theorem qd_L_law_938 : decode qc_L_law 938 = .ok (.aload_n 0, 1) := by decide +kernel
theorem qd_L_law_939 : decode qc_L_law 939 = .ok (.iload 4, 2) := by decide +kernel
theorem qd_L_law_941 : decode qc_L_law 941 = .ok (.iconst 1, 1) := by decide +kernel
theorem qd_L_law_942 : decode qc_L_law 942 = .ok (.iadd, 1) := by decide +kernel
theorem qd_L_law_943 : decode qc_L_law 943 = .ok (.iaload, 1) := by decide +kernel
theorem qd_L_law_944 : decode qc_L_law 944 = .ok (.aload_n 0, 1) := by decide +kernel
theorem qd_L_law_945 : decode qc_L_law 945 = .ok (.iload 4, 2) := by decide +kernel
theorem qd_L_law_947 : decode qc_L_law 947 = .ok (.iconst 2, 1) := by decide +kernel
theorem qd_L_law_948 : decode qc_L_law 948 = .ok (.iadd, 1) := by decide +kernel
theorem qd_L_law_949 : decode qc_L_law 949 = .ok (.iaload, 1) := by decide +kernel
theorem qd_L_law_950 : decode qc_L_law 950 = .ok (.invokevirtual 119, 3) := by decide +kernel
theorem qd_L_law_953 : decode qc_L_law 953 = .ok (.istore 6, 2) := by decide +kernel
theorem qd_L_law_955 : decode qc_L_law 955 = .ok (.aload_n 2, 1) := by decide +kernel
theorem qd_L_law_956 : decode qc_L_law 956 = .ok (.invokevirtual 71, 3) := by decide +kernel
theorem qd_L_law_959 : decode qc_L_law 959 = .ok (.iload 5, 2) := by decide +kernel
theorem qd_L_law_961 : decode qc_L_law 961 = .ok (.if_icmp .eq 5, 3) := by decide +kernel
theorem qd_L_law_964 : decode qc_L_law 964 = .ok (.iconst 0, 1) := by decide +kernel
theorem qd_L_law_965 : decode qc_L_law 965 = .ok (.ireturn, 1) := by decide +kernel
theorem qd_L_law_966 : decode qc_L_law 966 = .ok (.iload 5, 2) := by decide +kernel
theorem qd_L_law_968 : decode qc_L_law 968 = .ok (.ifCond .ne 15, 3) := by decide +kernel
theorem qd_L_law_971 : decode qc_L_law 971 = .ok (.aload_n 3, 1) := by decide +kernel
theorem qd_L_law_972 : decode qc_L_law 972 = .ok (.iconst 0, 1) := by decide +kernel
theorem qd_L_law_973 : decode qc_L_law 973 = .ok (.laload, 1) := by decide +kernel
theorem qd_L_law_974 : decode qc_L_law 974 = .ok (.iload 6, 2) := by decide +kernel
theorem qd_L_law_976 : decode qc_L_law 976 = .ok (.i2l, 1) := by decide +kernel
theorem qd_L_law_977 : decode qc_L_law 977 = .ok (.lcmp, 1) := by decide +kernel
theorem qd_L_law_978 : decode qc_L_law 978 = .ok (.ifCond .eq 5, 3) := by decide +kernel
theorem qd_L_law_981 : decode qc_L_law 981 = .ok (.iconst 0, 1) := by decide +kernel
theorem qd_L_law_982 : decode qc_L_law 982 = .ok (.ireturn, 1) := by decide +kernel
theorem qd_L_law_983 : decode qc_L_law 983 = .ok (.goto 28, 3) := by decide +kernel
theorem qd_L_law_986 : decode qc_L_law 986 = .ok (.aload_n 1, 1) := by decide +kernel
theorem qd_L_law_987 : decode qc_L_law 987 = .ok (.aload_n 0, 1) := by decide +kernel
theorem qd_L_law_988 : decode qc_L_law 988 = .ok (.iload 4, 2) := by decide +kernel
theorem qd_L_law_990 : decode qc_L_law 990 = .ok (.iconst 1, 1) := by decide +kernel
theorem qd_L_law_991 : decode qc_L_law 991 = .ok (.iadd, 1) := by decide +kernel
theorem qd_L_law_992 : decode qc_L_law 992 = .ok (.iaload, 1) := by decide +kernel
theorem qd_L_law_993 : decode qc_L_law 993 = .ok (.invokevirtual 120, 3) := by decide +kernel
theorem qd_L_law_996 : decode qc_L_law 996 = .ok (.aload_n 2, 1) := by decide +kernel
theorem qd_L_law_997 : decode qc_L_law 997 = .ok (.aload_n 0, 1) := by decide +kernel
theorem qd_L_law_998 : decode qc_L_law 998 = .ok (.iload 4, 2) := by decide +kernel
theorem qd_L_law_1000 : decode qc_L_law 1000 = .ok (.iconst 1, 1) := by decide +kernel
theorem qd_L_law_1001 : decode qc_L_law 1001 = .ok (.iadd, 1) := by decide +kernel
theorem qd_L_law_1002 : decode qc_L_law 1002 = .ok (.iaload, 1) := by decide +kernel
theorem qd_L_law_1003 : decode qc_L_law 1003 = .ok (.invokevirtual 123, 3) := by decide +kernel
theorem qd_L_law_1006 : decode qc_L_law 1006 = .ok (.if_icmp .eq 5, 3) := by decide +kernel
theorem qd_L_law_1009 : decode qc_L_law 1009 = .ok (.iconst 0, 1) := by decide +kernel
theorem qd_L_law_1010 : decode qc_L_law 1010 = .ok (.ireturn, 1) := by decide +kernel
theorem qd_L_law_1011 : decode qc_L_law 1011 = .ok (.iinc 4 5, 3) := by decide +kernel
theorem qd_L_law_1014 : decode qc_L_law 1014 = .ok (.goto (-991), 3) := by decide +kernel
theorem qd_L_law_1017 : decode qc_L_law 1017 = .ok (.iconst 1, 1) := by decide +kernel
theorem qd_L_law_1018 : decode qc_L_law 1018 = .ok (.ireturn, 1) := by decide +kernel
