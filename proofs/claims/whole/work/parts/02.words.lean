/-- the words that hold wherever a method of this claim is called -/
def gw : List Cond := lw_tbl.filter goodWord
theorem gw_ok {big : List Cond} (h : ∀ w ∈ gw, w ∈ big) {c : Cond} (hc : c ∈ gw) : GoodIn big (c :: gw) := by
  have key : ∀ w ∈ gw, w ∈ big ∧ ((w.onTables && w.keeps) = true ∨ ∃ ty, w = .arrayClass ty) := fun w hw => ⟨h w hw, good_of_word (List.mem_filter.mp hw).2⟩
  intro w hw
  rcases List.mem_cons.mp hw with rfl | hw
  · exact key _ hc
  · exact key w hw
theorem gw_tb {w : Cond} (h : w ∈ tables_1) (g : goodWord w = true) : w ∈ gw := List.mem_filter.mpr ⟨List.mem_append_right _ h, g⟩
theorem gw_t1 {w : Cond} (h : w ∈ tables_1_1) (g : goodWord w = true) : w ∈ gw := gw_tb (List.mem_append_left _ h) g
theorem tb_t1 {w : Cond} (h : w ∈ tables_1_1) : w ∈ lw_tbl := List.mem_append_right _ (List.mem_append_left _ h)
theorem gw_t2 {w : Cond} (h : w ∈ tables_1_2) (g : goodWord w = true) : w ∈ gw := gw_tb (List.mem_append_right _ (List.mem_append_left _ h)) g
theorem tb_t2 {w : Cond} (h : w ∈ tables_1_2) : w ∈ lw_tbl := List.mem_append_right _ (List.mem_append_right _ (List.mem_append_left _ h))
theorem gw_t3 {w : Cond} (h : w ∈ tables_1_3) (g : goodWord w = true) : w ∈ gw := gw_tb (List.mem_append_right _ (List.mem_append_right _ (List.mem_append_left _ h))) g
theorem tb_t3 {w : Cond} (h : w ∈ tables_1_3) : w ∈ lw_tbl := List.mem_append_right _ (List.mem_append_right _ (List.mem_append_right _ (List.mem_append_left _ h)))
theorem gw_t4 {w : Cond} (h : w ∈ tables_1_4) (g : goodWord w = true) : w ∈ gw := gw_tb (List.mem_append_right _ (List.mem_append_right _ (List.mem_append_right _ (h)))) g
theorem tb_t4 {w : Cond} (h : w ∈ tables_1_4) : w ∈ lw_tbl := List.mem_append_right _ (List.mem_append_right _ (List.mem_append_right _ (List.mem_append_right _ (h))))
theorem wd_0 : (Jvm.Cond.initialized "TermOrdersLaw") ∈ gw := gw_t1 (List.mem_of_getElem? (i := 0) rfl) rfl
theorem wd_1 : (Jvm.Cond.initialized "TermOrders") ∈ gw := gw_t1 (List.mem_of_getElem? (i := 1) rfl) rfl
theorem wd_2 : (Jvm.Cond.initialized "TermOrders$Symbols") ∈ gw := gw_t1 (List.mem_of_getElem? (i := 2) rfl) rfl
theorem wd_3 : (Jvm.Cond.initialized "TermOrders$Draft") ∈ gw := gw_t1 (List.mem_of_getElem? (i := 3) rfl) rfl
theorem wd_4 : (Jvm.Cond.initialized "TermOrders$Rules") ∈ gw := gw_t1 (List.mem_of_getElem? (i := 4) rfl) rfl
theorem wd_5 : (Jvm.Cond.initialized "TermOrders$Orders") ∈ gw := gw_t1 (List.mem_of_getElem? (i := 5) rfl) rfl
theorem wd_6 : (Jvm.Cond.initialized "TermOrdersModel") ∈ gw := gw_t1 (List.mem_of_getElem? (i := 6) rfl) rfl
theorem wd_7 : (Jvm.Cond.initialized "java/lang/Throwable") ∈ gw := gw_t1 (List.mem_of_getElem? (i := 7) rfl) rfl
theorem wd_8 : (Jvm.Cond.initialized "java/lang/Exception") ∈ gw := gw_t1 (List.mem_of_getElem? (i := 8) rfl) rfl
theorem wd_9 : (Jvm.Cond.initialized "java/lang/RuntimeException") ∈ gw := gw_t1 (List.mem_of_getElem? (i := 9) rfl) rfl
theorem wd_10 : (Jvm.Cond.initialized "java/lang/IllegalArgumentException") ∈ gw := gw_t1 (List.mem_of_getElem? (i := 10) rfl) rfl
theorem wd_11 : (Jvm.Cond.initialized "java/lang/IllegalStateException") ∈ gw := gw_t1 (List.mem_of_getElem? (i := 11) rfl) rfl
theorem wd_12 : (Jvm.Cond.initialized "java/lang/Math") ∈ gw := gw_t1 (List.mem_of_getElem? (i := 12) rfl) rfl
theorem wd_13 : (Jvm.Cond.initialized "TermOrders$Term") ∈ gw := gw_t1 (List.mem_of_getElem? (i := 13) rfl) rfl
theorem wd_14 : (Jvm.Cond.initialized "java/util/Arrays") ∈ gw := gw_t1 (List.mem_of_getElem? (i := 14) rfl) rfl
theorem wd_15 : (Jvm.Cond.initialized "java/lang/System") ∈ gw := gw_t1 (List.mem_of_getElem? (i := 15) rfl) rfl
theorem wd_16 : (Jvm.Cond.initialized "java/lang/IndexOutOfBoundsException") ∈ gw := gw_t1 (List.mem_of_getElem? (i := 16) rfl) rfl
theorem wd_17 : (Jvm.Cond.classLink "TermOrdersLaw" (8 : Nat) "TermOrders") ∈ gw := gw_t1 (List.mem_of_getElem? (i := 17) rfl) rfl
theorem wd_18 : (Jvm.Cond.instantiable "TermOrders" (6 : Nat)) ∈ gw := gw_t1 (List.mem_of_getElem? (i := 18) rfl) rfl
theorem wd_19 : (Jvm.Cond.methodLink "TermOrdersLaw" (61 : Nat) ({ cls := "TermOrders", name := "<init>", desc := "()V" } : Jvm.MethodName)) ∈ gw := gw_t1 (List.mem_of_getElem? (i := 19) rfl) rfl
theorem wd_20 : (Jvm.Cond.instanceMethod ({ cls := "TermOrders", name := "<init>", desc := "()V" } : Jvm.MethodName)) ∈ gw := gw_t1 (List.mem_of_getElem? (i := 20) rfl) rfl
theorem wd_21 : (Jvm.Cond.code ({ cls := "TermOrders", name := "<init>", desc := "()V" } : Jvm.MethodName) prog_1_method_1_code (1 : Nat) (Option.none : Option Jvm.ClassFile.FieldType)) ∈ gw := gw_t1 (List.mem_of_getElem? (i := 21) rfl) rfl
theorem wd_22 : (Jvm.Cond.methodLink "TermOrders" (1 : Nat) ({ cls := "java/lang/Object", name := "<init>", desc := "()V" } : Jvm.MethodName)) ∈ gw := gw_t1 (List.mem_of_getElem? (i := 22) rfl) rfl
theorem wd_23 : (Jvm.Cond.instanceMethod ({ cls := "java/lang/Object", name := "<init>", desc := "()V" } : Jvm.MethodName)) ∈ gw := gw_t1 (List.mem_of_getElem? (i := 23) rfl) rfl
theorem wd_24 : (Jvm.Cond.code ({ cls := "java/lang/Object", name := "<init>", desc := "()V" } : Jvm.MethodName) object_method_1_code (1 : Nat) (Option.none : Option Jvm.ClassFile.FieldType)) ∈ gw := gw_t1 (List.mem_of_getElem? (i := 24) rfl) rfl
theorem wd_25 : (Jvm.Cond.classLink "TermOrders" (7 : Nat) "TermOrders$Symbols") ∈ gw := gw_t1 (List.mem_of_getElem? (i := 25) rfl) rfl
theorem wd_26 : (Jvm.Cond.instantiable "TermOrders$Symbols" (5 : Nat)) ∈ gw := gw_t1 (List.mem_of_getElem? (i := 26) rfl) rfl
theorem wd_27 : (Jvm.Cond.methodLinkNest "TermOrders" (9 : Nat) ({ cls := "TermOrders$Symbols", name := "<init>", desc := "()V" } : Jvm.MethodName) "TermOrders") ∈ lw_tbl := tb_t1 (List.mem_of_getElem? (i := 27) rfl)
theorem wd_28 : (Jvm.Cond.instanceMethod ({ cls := "TermOrders$Symbols", name := "<init>", desc := "()V" } : Jvm.MethodName)) ∈ gw := gw_t1 (List.mem_of_getElem? (i := 28) rfl) rfl
theorem wd_29 : (Jvm.Cond.code ({ cls := "TermOrders$Symbols", name := "<init>", desc := "()V" } : Jvm.MethodName) prog_5_method_1_code (1 : Nat) (Option.none : Option Jvm.ClassFile.FieldType)) ∈ gw := gw_t1 (List.mem_of_getElem? (i := 29) rfl) rfl
theorem wd_30 : (Jvm.Cond.methodLink "TermOrders$Symbols" (3 : Nat) ({ cls := "java/lang/Object", name := "<init>", desc := "()V" } : Jvm.MethodName)) ∈ gw := gw_t1 (List.mem_of_getElem? (i := 30) rfl) rfl
theorem wd_31 : (Jvm.Cond.fieldLink "TermOrders$Symbols" (9 : Nat) "TermOrders$Symbols" "arities" "[I") ∈ gw := gw_t1 (List.mem_of_getElem? (i := 31) rfl) rfl
theorem wd_32 : (Jvm.Cond.fieldLinkNest "TermOrders$Draft" (40 : Nat) "TermOrders$Symbols" "arities" "[I" "TermOrders") ∈ lw_tbl := tb_t1 (List.mem_of_getElem? (i := 32) rfl)
theorem wd_33 : (Jvm.Cond.fieldLinkNest "TermOrders" (87 : Nat) "TermOrders$Symbols" "arities" "[I" "TermOrders") ∈ lw_tbl := tb_t1 (List.mem_of_getElem? (i := 33) rfl)
theorem wd_34 : (Jvm.Cond.fieldLink "TermOrders$Symbols" (15 : Nat) "TermOrders$Symbols" "ranks" "[I") ∈ gw := gw_t1 (List.mem_of_getElem? (i := 34) rfl) rfl
theorem wd_35 : (Jvm.Cond.fieldLinkNest "TermOrders" (122 : Nat) "TermOrders$Symbols" "ranks" "[I" "TermOrders") ∈ lw_tbl := tb_t1 (List.mem_of_getElem? (i := 35) rfl)
theorem wd_36 : (Jvm.Cond.fieldLink "TermOrders$Symbols" (18 : Nat) "TermOrders$Symbols" "weights" "[I") ∈ gw := gw_t1 (List.mem_of_getElem? (i := 36) rfl) rfl
theorem wd_37 : (Jvm.Cond.fieldLinkNest "TermOrders" (125 : Nat) "TermOrders$Symbols" "weights" "[I" "TermOrders") ∈ lw_tbl := tb_t1 (List.mem_of_getElem? (i := 37) rfl)
theorem wd_38 : (Jvm.Cond.fieldLink "TermOrders$Symbols" (21 : Nat) "TermOrders$Symbols" "savedRanks" "[I") ∈ gw := gw_t1 (List.mem_of_getElem? (i := 38) rfl) rfl
theorem wd_39 : (Jvm.Cond.fieldLink "TermOrders$Symbols" (24 : Nat) "TermOrders$Symbols" "count" "I") ∈ gw := gw_t1 (List.mem_of_getElem? (i := 39) rfl) rfl
theorem wd_40 : (Jvm.Cond.fieldLinkNest "TermOrders" (56 : Nat) "TermOrders$Symbols" "count" "I" "TermOrders") ∈ lw_tbl := tb_t1 (List.mem_of_getElem? (i := 40) rfl)
theorem wd_41 : (Jvm.Cond.laysFinal "TermOrders$Symbols" "TermOrders$Symbols" "arities" "[I") ∈ gw := gw_t1 (List.mem_of_getElem? (i := 41) rfl) rfl
theorem wd_43 : (Jvm.Cond.laysFinal "TermOrders$Symbols" "TermOrders$Symbols" "ranks" "[I") ∈ gw := gw_t1 (List.mem_of_getElem? (i := 43) rfl) rfl
theorem wd_45 : (Jvm.Cond.laysFinal "TermOrders$Symbols" "TermOrders$Symbols" "weights" "[I") ∈ gw := gw_t1 (List.mem_of_getElem? (i := 45) rfl) rfl
theorem wd_47 : (Jvm.Cond.laysFinal "TermOrders$Symbols" "TermOrders$Symbols" "savedRanks" "[I") ∈ gw := gw_t1 (List.mem_of_getElem? (i := 47) rfl) rfl
theorem wd_49 : (Jvm.Cond.lays "TermOrders$Symbols" "TermOrders$Symbols" "count" "I") ∈ gw := gw_t1 (List.mem_of_getElem? (i := 49) rfl) rfl
theorem wd_51 : (Jvm.Cond.superclass "TermOrders$Symbols" "java/lang/Object") ∈ gw := gw_t1 (List.mem_of_getElem? (i := 51) rfl) rfl
theorem wd_52 : (Jvm.Cond.arrayClass Jvm.ClassFile.FieldType.int) ∈ gw := gw_t1 (List.mem_of_getElem? (i := 52) rfl) rfl
theorem wd_53 : (Jvm.Cond.classLink "TermOrders" (16 : Nat) "TermOrders$Draft") ∈ gw := gw_t1 (List.mem_of_getElem? (i := 53) rfl) rfl
theorem wd_54 : (Jvm.Cond.instantiable "TermOrders$Draft" (7 : Nat)) ∈ gw := gw_t1 (List.mem_of_getElem? (i := 54) rfl) rfl
theorem wd_55 : (Jvm.Cond.methodLinkNest "TermOrders" (18 : Nat) ({ cls := "TermOrders$Draft", name := "<init>", desc := "(LTermOrders$Symbols;)V" } : Jvm.MethodName) "TermOrders") ∈ lw_tbl := tb_t1 (List.mem_of_getElem? (i := 55) rfl)
theorem wd_56 : (Jvm.Cond.instanceMethod ({ cls := "TermOrders$Draft", name := "<init>", desc := "(LTermOrders$Symbols;)V" } : Jvm.MethodName)) ∈ gw := gw_t1 (List.mem_of_getElem? (i := 56) rfl) rfl
theorem wd_57 : (Jvm.Cond.code ({ cls := "TermOrders$Draft", name := "<init>", desc := "(LTermOrders$Symbols;)V" } : Jvm.MethodName) prog_2_method_1_code (2 : Nat) (Option.none : Option Jvm.ClassFile.FieldType)) ∈ gw := gw_t1 (List.mem_of_getElem? (i := 57) rfl) rfl
theorem wd_58 : (Jvm.Cond.methodLink "TermOrders$Draft" (3 : Nat) ({ cls := "java/lang/Object", name := "<init>", desc := "()V" } : Jvm.MethodName)) ∈ gw := gw_t1 (List.mem_of_getElem? (i := 58) rfl) rfl
theorem wd_59 : (Jvm.Cond.fieldLink "TermOrders$Draft" (32 : Nat) "TermOrders$Draft" "symbols" "LTermOrders$Symbols;") ∈ gw := gw_t1 (List.mem_of_getElem? (i := 59) rfl) rfl
theorem wd_60 : (Jvm.Cond.fieldLink "TermOrders$Draft" (9 : Nat) "TermOrders$Draft" "heads" "[I") ∈ gw := gw_t1 (List.mem_of_getElem? (i := 60) rfl) rfl
theorem wd_61 : (Jvm.Cond.fieldLink "TermOrders$Draft" (15 : Nat) "TermOrders$Draft" "partCounts" "[I") ∈ gw := gw_t1 (List.mem_of_getElem? (i := 61) rfl) rfl
theorem wd_62 : (Jvm.Cond.fieldLink "TermOrders$Draft" (18 : Nat) "TermOrders$Draft" "ends" "[I") ∈ gw := gw_t1 (List.mem_of_getElem? (i := 62) rfl) rfl
theorem wd_63 : (Jvm.Cond.fieldLink "TermOrders$Draft" (21 : Nat) "TermOrders$Draft" "heights" "[I") ∈ gw := gw_t1 (List.mem_of_getElem? (i := 63) rfl) rfl
theorem wd_64 : (Jvm.Cond.fieldLink "TermOrders$Draft" (24 : Nat) "TermOrders$Draft" "size" "I") ∈ gw := gw_t1 (List.mem_of_getElem? (i := 64) rfl) rfl
theorem wd_65 : (Jvm.Cond.fieldLink "TermOrders$Draft" (28 : Nat) "TermOrders$Draft" "tooGreat" "Z") ∈ gw := gw_t1 (List.mem_of_getElem? (i := 65) rfl) rfl
theorem wd_66 : (Jvm.Cond.laysFinal "TermOrders$Draft" "TermOrders$Draft" "symbols" "LTermOrders$Symbols;") ∈ gw := gw_t1 (List.mem_of_getElem? (i := 66) rfl) rfl
theorem wd_68 : (Jvm.Cond.laysFinal "TermOrders$Draft" "TermOrders$Draft" "heads" "[I") ∈ gw := gw_t1 (List.mem_of_getElem? (i := 68) rfl) rfl
theorem wd_70 : (Jvm.Cond.laysFinal "TermOrders$Draft" "TermOrders$Draft" "partCounts" "[I") ∈ gw := gw_t1 (List.mem_of_getElem? (i := 70) rfl) rfl
theorem wd_72 : (Jvm.Cond.laysFinal "TermOrders$Draft" "TermOrders$Draft" "ends" "[I") ∈ gw := gw_t1 (List.mem_of_getElem? (i := 72) rfl) rfl
theorem wd_74 : (Jvm.Cond.laysFinal "TermOrders$Draft" "TermOrders$Draft" "heights" "[I") ∈ gw := gw_t1 (List.mem_of_getElem? (i := 74) rfl) rfl
theorem wd_76 : (Jvm.Cond.lays "TermOrders$Draft" "TermOrders$Draft" "size" "I") ∈ gw := gw_t1 (List.mem_of_getElem? (i := 76) rfl) rfl
theorem wd_78 : (Jvm.Cond.lays "TermOrders$Draft" "TermOrders$Draft" "tooGreat" "Z") ∈ gw := gw_t1 (List.mem_of_getElem? (i := 78) rfl) rfl
theorem wd_80 : (Jvm.Cond.superclass "TermOrders$Draft" "java/lang/Object") ∈ gw := gw_t1 (List.mem_of_getElem? (i := 80) rfl) rfl
theorem wd_81 : (Jvm.Cond.classLink "TermOrders" (25 : Nat) "TermOrders$Term") ∈ gw := gw_t1 (List.mem_of_getElem? (i := 81) rfl) rfl
theorem wd_82 : (Jvm.Cond.arrayOver (Jvm.ClassFile.FieldType.object "TermOrders$Term")) ∈ lw_tbl := tb_t1 (List.mem_of_getElem? (i := 82) rfl)
theorem wd_83 : (Jvm.Cond.classLink "TermOrders" (31 : Nat) "TermOrders$Rules") ∈ gw := gw_t1 (List.mem_of_getElem? (i := 83) rfl) rfl
theorem wd_84 : (Jvm.Cond.instantiable "TermOrders$Rules" (4 : Nat)) ∈ gw := gw_t1 (List.mem_of_getElem? (i := 84) rfl) rfl
theorem wd_85 : (Jvm.Cond.methodLinkNest "TermOrders" (33 : Nat) ({ cls := "TermOrders$Rules", name := "<init>", desc := "()V" } : Jvm.MethodName) "TermOrders") ∈ lw_tbl := tb_t1 (List.mem_of_getElem? (i := 85) rfl)
theorem wd_86 : (Jvm.Cond.instanceMethod ({ cls := "TermOrders$Rules", name := "<init>", desc := "()V" } : Jvm.MethodName)) ∈ gw := gw_t1 (List.mem_of_getElem? (i := 86) rfl) rfl
theorem wd_87 : (Jvm.Cond.code ({ cls := "TermOrders$Rules", name := "<init>", desc := "()V" } : Jvm.MethodName) prog_4_method_1_code (1 : Nat) (Option.none : Option Jvm.ClassFile.FieldType)) ∈ gw := gw_t1 (List.mem_of_getElem? (i := 87) rfl) rfl
theorem wd_88 : (Jvm.Cond.methodLink "TermOrders$Rules" (3 : Nat) ({ cls := "java/lang/Object", name := "<init>", desc := "()V" } : Jvm.MethodName)) ∈ gw := gw_t1 (List.mem_of_getElem? (i := 88) rfl) rfl
theorem wd_89 : (Jvm.Cond.classLink "TermOrders$Rules" (9 : Nat) "TermOrders$Term") ∈ gw := gw_t1 (List.mem_of_getElem? (i := 89) rfl) rfl
theorem wd_90 : (Jvm.Cond.fieldLink "TermOrders$Rules" (11 : Nat) "TermOrders$Rules" "lefts" "[LTermOrders$Term;") ∈ gw := gw_t1 (List.mem_of_getElem? (i := 90) rfl) rfl
theorem wd_91 : (Jvm.Cond.fieldLinkNest "TermOrders" (143 : Nat) "TermOrders$Rules" "lefts" "[LTermOrders$Term;" "TermOrders") ∈ lw_tbl := tb_t1 (List.mem_of_getElem? (i := 91) rfl)
theorem wd_92 : (Jvm.Cond.fieldLink "TermOrders$Rules" (17 : Nat) "TermOrders$Rules" "rights" "[LTermOrders$Term;") ∈ gw := gw_t1 (List.mem_of_getElem? (i := 92) rfl) rfl
theorem wd_93 : (Jvm.Cond.fieldLinkNest "TermOrders" (146 : Nat) "TermOrders$Rules" "rights" "[LTermOrders$Term;" "TermOrders") ∈ lw_tbl := tb_t1 (List.mem_of_getElem? (i := 93) rfl)
theorem wd_94 : (Jvm.Cond.fieldLink "TermOrders$Rules" (20 : Nat) "TermOrders$Rules" "bound" "[I") ∈ gw := gw_t1 (List.mem_of_getElem? (i := 94) rfl) rfl
theorem wd_95 : (Jvm.Cond.fieldLink "TermOrders$Rules" (24 : Nat) "TermOrders$Rules" "count" "I") ∈ gw := gw_t1 (List.mem_of_getElem? (i := 95) rfl) rfl
theorem wd_96 : (Jvm.Cond.fieldLinkNest "TermOrders" (112 : Nat) "TermOrders$Rules" "count" "I" "TermOrders") ∈ lw_tbl := tb_t1 (List.mem_of_getElem? (i := 96) rfl)
theorem wd_97 : (Jvm.Cond.laysFinal "TermOrders$Rules" "TermOrders$Rules" "lefts" "[LTermOrders$Term;") ∈ gw := gw_t1 (List.mem_of_getElem? (i := 97) rfl) rfl
theorem wd_99 : (Jvm.Cond.laysFinal "TermOrders$Rules" "TermOrders$Rules" "rights" "[LTermOrders$Term;") ∈ gw := gw_t1 (List.mem_of_getElem? (i := 99) rfl) rfl
theorem wd_101 : (Jvm.Cond.laysFinal "TermOrders$Rules" "TermOrders$Rules" "bound" "[I") ∈ gw := gw_t1 (List.mem_of_getElem? (i := 101) rfl) rfl
theorem wd_103 : (Jvm.Cond.lays "TermOrders$Rules" "TermOrders$Rules" "count" "I") ∈ gw := gw_t1 (List.mem_of_getElem? (i := 103) rfl) rfl
theorem wd_105 : (Jvm.Cond.superclass "TermOrders$Rules" "java/lang/Object") ∈ gw := gw_t1 (List.mem_of_getElem? (i := 105) rfl) rfl
theorem wd_106 : (Jvm.Cond.classLink "TermOrders" (38 : Nat) "TermOrders$Orders") ∈ gw := gw_t1 (List.mem_of_getElem? (i := 106) rfl) rfl
theorem wd_107 : (Jvm.Cond.instantiable "TermOrders$Orders" (2 : Nat)) ∈ gw := gw_t1 (List.mem_of_getElem? (i := 107) rfl) rfl
theorem wd_108 : (Jvm.Cond.methodLinkNest "TermOrders" (40 : Nat) ({ cls := "TermOrders$Orders", name := "<init>", desc := "(LTermOrders$Symbols;)V" } : Jvm.MethodName) "TermOrders") ∈ lw_tbl := tb_t1 (List.mem_of_getElem? (i := 108) rfl)
theorem wd_109 : (Jvm.Cond.instanceMethod ({ cls := "TermOrders$Orders", name := "<init>", desc := "(LTermOrders$Symbols;)V" } : Jvm.MethodName)) ∈ gw := gw_t1 (List.mem_of_getElem? (i := 109) rfl) rfl
theorem wd_110 : (Jvm.Cond.code ({ cls := "TermOrders$Orders", name := "<init>", desc := "(LTermOrders$Symbols;)V" } : Jvm.MethodName) prog_3_method_1_code (2 : Nat) (Option.none : Option Jvm.ClassFile.FieldType)) ∈ gw := gw_t1 (List.mem_of_getElem? (i := 110) rfl) rfl
theorem wd_111 : (Jvm.Cond.methodLink "TermOrders$Orders" (3 : Nat) ({ cls := "java/lang/Object", name := "<init>", desc := "()V" } : Jvm.MethodName)) ∈ gw := gw_t1 (List.mem_of_getElem? (i := 111) rfl) rfl
theorem wd_112 : (Jvm.Cond.fieldLink "TermOrders$Orders" (15 : Nat) "TermOrders$Orders" "symbols" "LTermOrders$Symbols;") ∈ gw := gw_t1 (List.mem_of_getElem? (i := 112) rfl) rfl
theorem wd_113 : (Jvm.Cond.fieldLink "TermOrders$Orders" (9 : Nat) "TermOrders$Orders" "pathGreater" "[Z") ∈ gw := gw_t1 (List.mem_of_getElem? (i := 113) rfl) rfl
theorem wd_114 : (Jvm.Cond.laysFinal "TermOrders$Orders" "TermOrders$Orders" "symbols" "LTermOrders$Symbols;") ∈ gw := gw_t1 (List.mem_of_getElem? (i := 114) rfl) rfl
theorem wd_116 : (Jvm.Cond.laysFinal "TermOrders$Orders" "TermOrders$Orders" "pathGreater" "[Z") ∈ gw := gw_t1 (List.mem_of_getElem? (i := 116) rfl) rfl
theorem wd_118 : (Jvm.Cond.superclass "TermOrders$Orders" "java/lang/Object") ∈ gw := gw_t1 (List.mem_of_getElem? (i := 118) rfl) rfl
theorem wd_119 : (Jvm.Cond.arrayClass Jvm.ClassFile.FieldType.boolean) ∈ gw := gw_t1 (List.mem_of_getElem? (i := 119) rfl) rfl
theorem wd_120 : (Jvm.Cond.fieldLink "TermOrders" (10 : Nat) "TermOrders" "symbols" "LTermOrders$Symbols;") ∈ gw := gw_t1 (List.mem_of_getElem? (i := 120) rfl) rfl
theorem wd_121 : (Jvm.Cond.fieldLink "TermOrders" (21 : Nat) "TermOrders" "draft" "LTermOrders$Draft;") ∈ gw := gw_t1 (List.mem_of_getElem? (i := 121) rfl) rfl
theorem wd_122 : (Jvm.Cond.fieldLink "TermOrders" (27 : Nat) "TermOrders" "terms" "[LTermOrders$Term;") ∈ gw := gw_t1 (List.mem_of_getElem? (i := 122) rfl) rfl
theorem wd_123 : (Jvm.Cond.fieldLink "TermOrders" (34 : Nat) "TermOrders" "rules" "LTermOrders$Rules;") ∈ gw := gw_t1 (List.mem_of_getElem? (i := 123) rfl) rfl
theorem wd_124 : (Jvm.Cond.fieldLink "TermOrders" (41 : Nat) "TermOrders" "orders" "LTermOrders$Orders;") ∈ gw := gw_t1 (List.mem_of_getElem? (i := 124) rfl) rfl
theorem wd_125 : (Jvm.Cond.fieldLink "TermOrders" (45 : Nat) "TermOrders" "termCount" "I") ∈ gw := gw_t1 (List.mem_of_getElem? (i := 125) rfl) rfl
theorem wd_126 : (Jvm.Cond.laysFinal "TermOrders" "TermOrders" "symbols" "LTermOrders$Symbols;") ∈ gw := gw_t1 (List.mem_of_getElem? (i := 126) rfl) rfl
theorem wd_128 : (Jvm.Cond.laysFinal "TermOrders" "TermOrders" "draft" "LTermOrders$Draft;") ∈ gw := gw_t1 (List.mem_of_getElem? (i := 128) rfl) rfl
theorem wd_130 : (Jvm.Cond.laysFinal "TermOrders" "TermOrders" "terms" "[LTermOrders$Term;") ∈ gw := gw_t1 (List.mem_of_getElem? (i := 130) rfl) rfl
theorem wd_132 : (Jvm.Cond.laysFinal "TermOrders" "TermOrders" "rules" "LTermOrders$Rules;") ∈ gw := gw_t1 (List.mem_of_getElem? (i := 132) rfl) rfl
theorem wd_134 : (Jvm.Cond.laysFinal "TermOrders" "TermOrders" "orders" "LTermOrders$Orders;") ∈ gw := gw_t1 (List.mem_of_getElem? (i := 134) rfl) rfl
theorem wd_136 : (Jvm.Cond.lays "TermOrders" "TermOrders" "termCount" "I") ∈ gw := gw_t1 (List.mem_of_getElem? (i := 136) rfl) rfl
theorem wd_138 : (Jvm.Cond.superclass "TermOrders" "java/lang/Object") ∈ gw := gw_t1 (List.mem_of_getElem? (i := 138) rfl) rfl
theorem wd_139 : (Jvm.Cond.methodLink "TermOrdersLaw" (100 : Nat) ({ cls := "TermOrders", name := "admissible", desc := "()Z" } : Jvm.MethodName)) ∈ gw := gw_t1 (List.mem_of_getElem? (i := 139) rfl) rfl
theorem wd_140 : (Jvm.Cond.instanceMethod ({ cls := "TermOrders", name := "admissible", desc := "()Z" } : Jvm.MethodName)) ∈ gw := gw_t1 (List.mem_of_getElem? (i := 140) rfl) rfl
theorem wd_141 : (Jvm.Cond.selects "TermOrders" ({ cls := "TermOrders", name := "admissible", desc := "()Z" } : Jvm.MethodName) ({ cls := "TermOrders", name := "admissible", desc := "()Z" } : Jvm.MethodName)) ∈ gw := gw_t1 (List.mem_of_getElem? (i := 141) rfl) rfl
theorem wd_142 : (Jvm.Cond.code ({ cls := "TermOrders", name := "admissible", desc := "()Z" } : Jvm.MethodName) prog_1_method_10_code (1 : Nat) (Option.some Jvm.ClassFile.FieldType.boolean)) ∈ gw := gw_t1 (List.mem_of_getElem? (i := 142) rfl) rfl
theorem wd_143 : (Jvm.Cond.methodLinkNest "TermOrders" (139 : Nat) ({ cls := "TermOrders$Symbols", name := "haveAdmissibleWeights", desc := "()Z" } : Jvm.MethodName) "TermOrders") ∈ lw_tbl := tb_t1 (List.mem_of_getElem? (i := 143) rfl)
theorem wd_145 : (Jvm.Cond.instanceMethod ({ cls := "TermOrders$Symbols", name := "haveAdmissibleWeights", desc := "()Z" } : Jvm.MethodName)) ∈ gw := gw_t1 (List.mem_of_getElem? (i := 145) rfl) rfl
theorem wd_146 : (Jvm.Cond.code ({ cls := "TermOrders$Symbols", name := "haveAdmissibleWeights", desc := "()Z" } : Jvm.MethodName) prog_5_method_12_code (2 : Nat) (Option.some Jvm.ClassFile.FieldType.boolean)) ∈ gw := gw_t1 (List.mem_of_getElem? (i := 146) rfl) rfl
theorem wd_147 : (Jvm.Cond.methodLink "TermOrders$Symbols" (50 : Nat) ({ cls := "TermOrders$Symbols", name := "mayWeighNothing", desc := "(I)Z" } : Jvm.MethodName)) ∈ gw := gw_t1 (List.mem_of_getElem? (i := 147) rfl) rfl
theorem wd_149 : (Jvm.Cond.instanceMethod ({ cls := "TermOrders$Symbols", name := "mayWeighNothing", desc := "(I)Z" } : Jvm.MethodName)) ∈ gw := gw_t1 (List.mem_of_getElem? (i := 149) rfl) rfl
theorem wd_150 : (Jvm.Cond.code ({ cls := "TermOrders$Symbols", name := "mayWeighNothing", desc := "(I)Z" } : Jvm.MethodName) prog_5_method_13_code (2 : Nat) (Option.some Jvm.ClassFile.FieldType.boolean)) ∈ gw := gw_t1 (List.mem_of_getElem? (i := 150) rfl) rfl
theorem wd_151 : (Jvm.Cond.methodLink "TermOrders$Symbols" (54 : Nat) ({ cls := "TermOrders$Symbols", name := "isAboveAllOthers", desc := "(I)Z" } : Jvm.MethodName)) ∈ gw := gw_t1 (List.mem_of_getElem? (i := 151) rfl) rfl
theorem wd_153 : (Jvm.Cond.instanceMethod ({ cls := "TermOrders$Symbols", name := "isAboveAllOthers", desc := "(I)Z" } : Jvm.MethodName)) ∈ gw := gw_t1 (List.mem_of_getElem? (i := 153) rfl) rfl
theorem wd_154 : (Jvm.Cond.code ({ cls := "TermOrders$Symbols", name := "isAboveAllOthers", desc := "(I)Z" } : Jvm.MethodName) prog_5_method_11_code (3 : Nat) (Option.some Jvm.ClassFile.FieldType.boolean)) ∈ gw := gw_t1 (List.mem_of_getElem? (i := 154) rfl) rfl
theorem wd_155 : (Jvm.Cond.methodLink "TermOrders$Symbols" (46 : Nat) ({ cls := "TermOrders$Symbols", name := "isAbove", desc := "(II)Z" } : Jvm.MethodName)) ∈ gw := gw_t1 (List.mem_of_getElem? (i := 155) rfl) rfl
theorem wd_157 : (Jvm.Cond.instanceMethod ({ cls := "TermOrders$Symbols", name := "isAbove", desc := "(II)Z" } : Jvm.MethodName)) ∈ gw := gw_t1 (List.mem_of_getElem? (i := 157) rfl) rfl
theorem wd_158 : (Jvm.Cond.code ({ cls := "TermOrders$Symbols", name := "isAbove", desc := "(II)Z" } : Jvm.MethodName) prog_5_method_10_code (3 : Nat) (Option.some Jvm.ClassFile.FieldType.boolean)) ∈ gw := gw_t1 (List.mem_of_getElem? (i := 158) rfl) rfl
theorem wd_159 : (Jvm.Cond.methodLink "TermOrdersLaw" (120 : Nat) ({ cls := "TermOrders", name := "count", desc := "(I)I" } : Jvm.MethodName)) ∈ gw := gw_t1 (List.mem_of_getElem? (i := 159) rfl) rfl
theorem wd_160 : (Jvm.Cond.instanceMethod ({ cls := "TermOrders", name := "count", desc := "(I)I" } : Jvm.MethodName)) ∈ gw := gw_t1 (List.mem_of_getElem? (i := 160) rfl) rfl
theorem wd_161 : (Jvm.Cond.selects "TermOrders" ({ cls := "TermOrders", name := "count", desc := "(I)I" } : Jvm.MethodName) ({ cls := "TermOrders", name := "count", desc := "(I)I" } : Jvm.MethodName)) ∈ gw := gw_t1 (List.mem_of_getElem? (i := 161) rfl) rfl
theorem wd_162 : (Jvm.Cond.code ({ cls := "TermOrders", name := "count", desc := "(I)I" } : Jvm.MethodName) prog_1_method_16_code (2 : Nat) (Option.some Jvm.ClassFile.FieldType.int)) ∈ gw := gw_t1 (List.mem_of_getElem? (i := 162) rfl) rfl
theorem wd_163 : (Jvm.Cond.methodLink "TermOrdersLaw" (65 : Nat) ({ cls := "TermOrdersLaw", name := "symbol", desc := "(LTermOrders;I[J)I" } : Jvm.MethodName)) ∈ gw := gw_t1 (List.mem_of_getElem? (i := 163) rfl) rfl
theorem wd_164 : (Jvm.Cond.static ({ cls := "TermOrdersLaw", name := "symbol", desc := "(LTermOrders;I[J)I" } : Jvm.MethodName)) ∈ gw := gw_t1 (List.mem_of_getElem? (i := 164) rfl) rfl
theorem wd_165 : (Jvm.Cond.codeWith ({ cls := "TermOrdersLaw", name := "symbol", desc := "(LTermOrders;I[J)I" } : Jvm.MethodName) method_3_code (4 : Nat) (Option.some Jvm.ClassFile.FieldType.int) [((0 : Nat), (9 : Nat), (12 : Nat), (13 : Nat)), ((0 : Nat), (9 : Nat), (15 : Nat), (15 : Nat))]) ∈ gw := gw_t1 (List.mem_of_getElem? (i := 165) rfl) rfl
theorem wd_166 : (Jvm.Cond.classLink "TermOrdersLaw" (13 : Nat) "java/lang/IllegalArgumentException") ∈ gw := gw_t1 (List.mem_of_getElem? (i := 166) rfl) rfl
theorem wd_167 : (Jvm.Cond.classLink "TermOrdersLaw" (15 : Nat) "java/lang/IllegalStateException") ∈ gw := gw_t1 (List.mem_of_getElem? (i := 167) rfl) rfl
theorem wd_168 : (Jvm.Cond.methodLink "TermOrdersLaw" (7 : Nat) ({ cls := "TermOrders", name := "symbol", desc := "(I)I" } : Jvm.MethodName)) ∈ gw := gw_t1 (List.mem_of_getElem? (i := 168) rfl) rfl
theorem wd_169 : (Jvm.Cond.instanceMethod ({ cls := "TermOrders", name := "symbol", desc := "(I)I" } : Jvm.MethodName)) ∈ gw := gw_t1 (List.mem_of_getElem? (i := 169) rfl) rfl
theorem wd_170 : (Jvm.Cond.selects "TermOrders" ({ cls := "TermOrders", name := "symbol", desc := "(I)I" } : Jvm.MethodName) ({ cls := "TermOrders", name := "symbol", desc := "(I)I" } : Jvm.MethodName)) ∈ gw := gw_t1 (List.mem_of_getElem? (i := 170) rfl) rfl
theorem wd_171 : (Jvm.Cond.code ({ cls := "TermOrders", name := "symbol", desc := "(I)I" } : Jvm.MethodName) prog_1_method_2_code (2 : Nat) (Option.some Jvm.ClassFile.FieldType.int)) ∈ gw := gw_t1 (List.mem_of_getElem? (i := 171) rfl) rfl
theorem wd_172 : (Jvm.Cond.classLink "TermOrders" (49 : Nat) "java/lang/IllegalArgumentException") ∈ gw := gw_t1 (List.mem_of_getElem? (i := 172) rfl) rfl
theorem wd_173 : (Jvm.Cond.instantiable "java/lang/IllegalArgumentException" (6 : Nat)) ∈ gw := gw_t1 (List.mem_of_getElem? (i := 173) rfl) rfl
theorem wd_174 : (Jvm.Cond.castable "java/lang/IllegalArgumentException" "java/lang/IllegalArgumentException") ∈ lw_tbl := tb_t1 (List.mem_of_getElem? (i := 174) rfl)
theorem wd_175 : (Jvm.Cond.declares ({ cls := "java/lang/RuntimeException", name := "<init>", desc := "()V" } : Jvm.MethodName)) ∈ lw_tbl := tb_t1 (List.mem_of_getElem? (i := 175) rfl)
theorem wd_176 : (Jvm.Cond.declares ({ cls := "java/lang/RuntimeException", name := "<init>", desc := "(Ljava/lang/String;)V" } : Jvm.MethodName)) ∈ lw_tbl := tb_t1 (List.mem_of_getElem? (i := 176) rfl)
theorem wd_177 : (Jvm.Cond.declares ({ cls := "java/lang/Exception", name := "<init>", desc := "()V" } : Jvm.MethodName)) ∈ lw_tbl := tb_t1 (List.mem_of_getElem? (i := 177) rfl)
theorem wd_178 : (Jvm.Cond.declares ({ cls := "java/lang/Exception", name := "<init>", desc := "(Ljava/lang/String;)V" } : Jvm.MethodName)) ∈ lw_tbl := tb_t1 (List.mem_of_getElem? (i := 178) rfl)
theorem wd_179 : (Jvm.Cond.declares ({ cls := "java/lang/Throwable", name := "<init>", desc := "()V" } : Jvm.MethodName)) ∈ lw_tbl := tb_t1 (List.mem_of_getElem? (i := 179) rfl)
theorem wd_180 : (Jvm.Cond.declares ({ cls := "java/lang/Throwable", name := "<init>", desc := "(Ljava/lang/String;)V" } : Jvm.MethodName)) ∈ lw_tbl := tb_t1 (List.mem_of_getElem? (i := 180) rfl)
theorem wd_181 : (Jvm.Cond.selects "java/lang/IllegalArgumentException" ({ cls := "java/lang/Throwable", name := "fillInStackTrace", desc := "(I)Ljava/lang/Throwable;" } : Jvm.MethodName) ({ cls := "java/lang/Throwable", name := "fillInStackTrace", desc := "(I)Ljava/lang/Throwable;" } : Jvm.MethodName)) ∈ gw := gw_t1 (List.mem_of_getElem? (i := 181) rfl) rfl
theorem wd_182 : (Jvm.Cond.selects "java/lang/IllegalArgumentException" ({ cls := "java/lang/Throwable", name := "fillInStackTrace", desc := "()Ljava/lang/Throwable;" } : Jvm.MethodName) ({ cls := "java/lang/Throwable", name := "fillInStackTrace", desc := "()Ljava/lang/Throwable;" } : Jvm.MethodName)) ∈ gw := gw_t1 (List.mem_of_getElem? (i := 182) rfl) rfl
theorem wd_183 : (Jvm.Cond.lays "java/lang/IllegalArgumentException" "java/lang/Throwable" "cause" "Ljava/lang/Throwable;") ∈ gw := gw_t1 (List.mem_of_getElem? (i := 183) rfl) rfl
theorem wd_184 : (Jvm.Cond.lays "java/lang/Throwable" "java/lang/Throwable" "cause" "Ljava/lang/Throwable;") ∈ gw := gw_t1 (List.mem_of_getElem? (i := 184) rfl) rfl
theorem wd_185 : (Jvm.Cond.lays "java/lang/IllegalArgumentException" "java/lang/Throwable" "stackTrace" "[Ljava/lang/StackTraceElement;") ∈ gw := gw_t1 (List.mem_of_getElem? (i := 185) rfl) rfl
theorem wd_186 : (Jvm.Cond.lays "java/lang/Throwable" "java/lang/Throwable" "stackTrace" "[Ljava/lang/StackTraceElement;") ∈ gw := gw_t1 (List.mem_of_getElem? (i := 186) rfl) rfl
theorem wd_187 : (Jvm.Cond.lays "java/lang/IllegalArgumentException" "java/lang/Throwable" "suppressedExceptions" "Ljava/util/List;") ∈ gw := gw_t1 (List.mem_of_getElem? (i := 187) rfl) rfl
theorem wd_188 : (Jvm.Cond.lays "java/lang/Throwable" "java/lang/Throwable" "suppressedExceptions" "Ljava/util/List;") ∈ gw := gw_t1 (List.mem_of_getElem? (i := 188) rfl) rfl
theorem wd_189 : (Jvm.Cond.lays "java/lang/IllegalArgumentException" "java/lang/Throwable" "detailMessage" "Ljava/lang/String;") ∈ gw := gw_t1 (List.mem_of_getElem? (i := 189) rfl) rfl
theorem wd_190 : (Jvm.Cond.lays "java/lang/Throwable" "java/lang/Throwable" "detailMessage" "Ljava/lang/String;") ∈ gw := gw_t1 (List.mem_of_getElem? (i := 190) rfl) rfl
theorem wd_191 : (Jvm.Cond.lays "java/lang/IllegalArgumentException" "java/lang/Throwable" "backtrace" "Ljava/lang/Object;") ∈ gw := gw_t1 (List.mem_of_getElem? (i := 191) rfl) rfl
theorem wd_192 : (Jvm.Cond.lays "java/lang/Throwable" "java/lang/Throwable" "backtrace" "Ljava/lang/Object;") ∈ gw := gw_t1 (List.mem_of_getElem? (i := 192) rfl) rfl
theorem wd_193 : (Jvm.Cond.fieldLink "java/lang/Throwable" (198 : Nat) "java/lang/Throwable" "backtrace" "Ljava/lang/Object;") ∈ gw := gw_t1 (List.mem_of_getElem? (i := 193) rfl) rfl
theorem wd_194 : (Jvm.Cond.superclass "java/lang/Throwable" "java/lang/Object") ∈ gw := gw_t1 (List.mem_of_getElem? (i := 194) rfl) rfl
theorem wd_195 : (Jvm.Cond.instanceMethod ({ cls := "java/lang/Throwable", name := "<init>", desc := "()V" } : Jvm.MethodName)) ∈ gw := gw_t1 (List.mem_of_getElem? (i := 195) rfl) rfl
theorem wd_196 : (Jvm.Cond.code ({ cls := "java/lang/Throwable", name := "<init>", desc := "()V" } : Jvm.MethodName) prog_18_method_1_code (1 : Nat) (Option.none : Option Jvm.ClassFile.FieldType)) ∈ gw := gw_t1 (List.mem_of_getElem? (i := 196) rfl) rfl
theorem wd_197 : (Jvm.Cond.methodLink "java/lang/Throwable" (1 : Nat) ({ cls := "java/lang/Object", name := "<init>", desc := "()V" } : Jvm.MethodName)) ∈ gw := gw_t1 (List.mem_of_getElem? (i := 197) rfl) rfl
theorem wd_198 : (Jvm.Cond.fieldLink "java/lang/Throwable" (13 : Nat) "java/lang/Throwable" "UNASSIGNED_STACK" "[Ljava/lang/StackTraceElement;") ∈ gw := gw_t1 (List.mem_of_getElem? (i := 198) rfl) rfl
theorem wd_199 : (Jvm.Cond.laysStatic "java/lang/Throwable" "UNASSIGNED_STACK" "[Ljava/lang/StackTraceElement;") ∈ lw_tbl := tb_t1 (List.mem_of_getElem? (i := 199) rfl)
theorem wd_200 : (Jvm.Cond.fieldLink "java/lang/Throwable" (20 : Nat) "java/lang/Throwable" "SUPPRESSED_SENTINEL" "Ljava/util/List;") ∈ gw := gw_t1 (List.mem_of_getElem? (i := 200) rfl) rfl
theorem wd_201 : (Jvm.Cond.laysStatic "java/lang/Throwable" "SUPPRESSED_SENTINEL" "Ljava/util/List;") ∈ lw_tbl := tb_t1 (List.mem_of_getElem? (i := 201) rfl)
theorem wd_202 : (Jvm.Cond.methodLink "java/lang/Throwable" (27 : Nat) ({ cls := "java/lang/Throwable", name := "fillInStackTrace", desc := "()Ljava/lang/Throwable;" } : Jvm.MethodName)) ∈ gw := gw_t1 (List.mem_of_getElem? (i := 202) rfl) rfl
theorem wd_203 : (Jvm.Cond.instanceMethod ({ cls := "java/lang/Throwable", name := "fillInStackTrace", desc := "()Ljava/lang/Throwable;" } : Jvm.MethodName)) ∈ gw := gw_t1 (List.mem_of_getElem? (i := 203) rfl) rfl
theorem wd_204 : (Jvm.Cond.sameMethod "java/lang/Throwable" "java/lang/Throwable" "fillInStackTrace" "()Ljava/lang/Throwable;") ∈ gw := gw_t1 (List.mem_of_getElem? (i := 204) rfl) rfl
theorem wd_205 : (Jvm.Cond.selects "java/lang/IllegalStateException" ({ cls := "java/lang/Throwable", name := "fillInStackTrace", desc := "()Ljava/lang/Throwable;" } : Jvm.MethodName) ({ cls := "java/lang/Throwable", name := "fillInStackTrace", desc := "()Ljava/lang/Throwable;" } : Jvm.MethodName)) ∈ gw := gw_t1 (List.mem_of_getElem? (i := 205) rfl) rfl
theorem wd_206 : (Jvm.Cond.selects "java/lang/IndexOutOfBoundsException" ({ cls := "java/lang/Throwable", name := "fillInStackTrace", desc := "()Ljava/lang/Throwable;" } : Jvm.MethodName) ({ cls := "java/lang/Throwable", name := "fillInStackTrace", desc := "()Ljava/lang/Throwable;" } : Jvm.MethodName)) ∈ gw := gw_t1 (List.mem_of_getElem? (i := 206) rfl) rfl
theorem wd_207 : (Jvm.Cond.codeSync ({ cls := "java/lang/Throwable", name := "fillInStackTrace", desc := "()Ljava/lang/Throwable;" } : Jvm.MethodName) prog_18_method_18_code (1 : Nat) (Option.some (Jvm.ClassFile.FieldType.object "java/lang/Throwable"))) ∈ gw := gw_t1 (List.mem_of_getElem? (i := 207) rfl) rfl
theorem wd_208 : (Jvm.Cond.methodLink "java/lang/Throwable" (202 : Nat) ({ cls := "java/lang/Throwable", name := "fillInStackTrace", desc := "(I)Ljava/lang/Throwable;" } : Jvm.MethodName)) ∈ gw := gw_t1 (List.mem_of_getElem? (i := 208) rfl) rfl
theorem wd_210 : (Jvm.Cond.instanceMethod ({ cls := "java/lang/Throwable", name := "fillInStackTrace", desc := "(I)Ljava/lang/Throwable;" } : Jvm.MethodName)) ∈ gw := gw_t1 (List.mem_of_getElem? (i := 210) rfl) rfl
theorem wd_211 : (Jvm.Cond.instantiable "java/lang/Throwable" (6 : Nat)) ∈ gw := gw_t1 (List.mem_of_getElem? (i := 211) rfl) rfl
theorem wd_212 : (Jvm.Cond.native ({ cls := "java/lang/Throwable", name := "fillInStackTrace", desc := "(I)Ljava/lang/Throwable;" } : Jvm.MethodName)) ∈ gw := gw_t1 (List.mem_of_getElem? (i := 212) rfl) rfl
theorem wd_213 : (Jvm.Cond.stringRef "TermOrders" (51 : Nat) "an arity is 0 .. 3") ∈ lw_tbl := tb_t1 (List.mem_of_getElem? (i := 213) rfl)
theorem wd_214 : (Jvm.Cond.methodLink "TermOrders" (53 : Nat) ({ cls := "java/lang/IllegalArgumentException", name := "<init>", desc := "(Ljava/lang/String;)V" } : Jvm.MethodName)) ∈ gw := gw_t1 (List.mem_of_getElem? (i := 214) rfl) rfl
theorem wd_215 : (Jvm.Cond.instanceMethod ({ cls := "java/lang/IllegalArgumentException", name := "<init>", desc := "(Ljava/lang/String;)V" } : Jvm.MethodName)) ∈ gw := gw_t1 (List.mem_of_getElem? (i := 215) rfl) rfl
theorem wd_216 : (Jvm.Cond.code ({ cls := "java/lang/IllegalArgumentException", name := "<init>", desc := "(Ljava/lang/String;)V" } : Jvm.MethodName) prog_11_method_2_code (2 : Nat) (Option.none : Option Jvm.ClassFile.FieldType)) ∈ gw := gw_t1 (List.mem_of_getElem? (i := 216) rfl) rfl
theorem wd_217 : (Jvm.Cond.methodLink "java/lang/IllegalArgumentException" (7 : Nat) ({ cls := "java/lang/RuntimeException", name := "<init>", desc := "(Ljava/lang/String;)V" } : Jvm.MethodName)) ∈ gw := gw_t1 (List.mem_of_getElem? (i := 217) rfl) rfl
theorem wd_218 : (Jvm.Cond.instanceMethod ({ cls := "java/lang/RuntimeException", name := "<init>", desc := "(Ljava/lang/String;)V" } : Jvm.MethodName)) ∈ gw := gw_t1 (List.mem_of_getElem? (i := 218) rfl) rfl
theorem wd_219 : (Jvm.Cond.code ({ cls := "java/lang/RuntimeException", name := "<init>", desc := "(Ljava/lang/String;)V" } : Jvm.MethodName) prog_15_method_2_code (2 : Nat) (Option.none : Option Jvm.ClassFile.FieldType)) ∈ gw := gw_t1 (List.mem_of_getElem? (i := 219) rfl) rfl
theorem wd_220 : (Jvm.Cond.methodLink "java/lang/RuntimeException" (7 : Nat) ({ cls := "java/lang/Exception", name := "<init>", desc := "(Ljava/lang/String;)V" } : Jvm.MethodName)) ∈ gw := gw_t1 (List.mem_of_getElem? (i := 220) rfl) rfl
theorem wd_221 : (Jvm.Cond.instanceMethod ({ cls := "java/lang/Exception", name := "<init>", desc := "(Ljava/lang/String;)V" } : Jvm.MethodName)) ∈ gw := gw_t1 (List.mem_of_getElem? (i := 221) rfl) rfl
theorem wd_222 : (Jvm.Cond.code ({ cls := "java/lang/Exception", name := "<init>", desc := "(Ljava/lang/String;)V" } : Jvm.MethodName) prog_10_method_2_code (2 : Nat) (Option.none : Option Jvm.ClassFile.FieldType)) ∈ gw := gw_t1 (List.mem_of_getElem? (i := 222) rfl) rfl
theorem wd_223 : (Jvm.Cond.methodLink "java/lang/Exception" (7 : Nat) ({ cls := "java/lang/Throwable", name := "<init>", desc := "(Ljava/lang/String;)V" } : Jvm.MethodName)) ∈ gw := gw_t1 (List.mem_of_getElem? (i := 223) rfl) rfl
theorem wd_224 : (Jvm.Cond.instanceMethod ({ cls := "java/lang/Throwable", name := "<init>", desc := "(Ljava/lang/String;)V" } : Jvm.MethodName)) ∈ gw := gw_t1 (List.mem_of_getElem? (i := 224) rfl) rfl
theorem wd_225 : (Jvm.Cond.code ({ cls := "java/lang/Throwable", name := "<init>", desc := "(Ljava/lang/String;)V" } : Jvm.MethodName) prog_18_method_2_code (2 : Nat) (Option.none : Option Jvm.ClassFile.FieldType)) ∈ gw := gw_t1 (List.mem_of_getElem? (i := 225) rfl) rfl
theorem wd_227 : (Jvm.Cond.fieldLink "java/lang/Throwable" (31 : Nat) "java/lang/Throwable" "detailMessage" "Ljava/lang/String;") ∈ gw := gw_t1 (List.mem_of_getElem? (i := 227) rfl) rfl
theorem wd_228 : (Jvm.Cond.fieldLink "java/lang/Throwable" (7 : Nat) "java/lang/Throwable" "cause" "Ljava/lang/Throwable;") ∈ gw := gw_t1 (List.mem_of_getElem? (i := 228) rfl) rfl
theorem wd_229 : (Jvm.Cond.fieldLink "java/lang/Throwable" (17 : Nat) "java/lang/Throwable" "stackTrace" "[Ljava/lang/StackTraceElement;") ∈ gw := gw_t1 (List.mem_of_getElem? (i := 229) rfl) rfl
theorem wd_230 : (Jvm.Cond.fieldLink "java/lang/Throwable" (24 : Nat) "java/lang/Throwable" "suppressedExceptions" "Ljava/util/List;") ∈ gw := gw_t1 (List.mem_of_getElem? (i := 230) rfl) rfl
theorem wd_235 : (Jvm.Cond.lays "java/lang/IllegalArgumentException" "java/lang/Throwable" "depth" "I") ∈ gw := gw_t1 (List.mem_of_getElem? (i := 235) rfl) rfl
theorem wd_238 : (Jvm.Cond.superclass "java/lang/IllegalArgumentException" "java/lang/RuntimeException") ∈ gw := gw_t1 (List.mem_of_getElem? (i := 238) rfl) rfl
theorem wd_239 : (Jvm.Cond.arrayClass Jvm.ClassFile.FieldType.byte) ∈ gw := gw_t1 (List.mem_of_getElem? (i := 239) rfl) rfl
theorem wd_240 : (Jvm.Cond.classLink "TermOrders" (59 : Nat) "java/lang/IllegalStateException") ∈ gw := gw_t2 (List.mem_of_getElem? (i := 0) rfl) rfl
theorem wd_241 : (Jvm.Cond.instantiable "java/lang/IllegalStateException" (6 : Nat)) ∈ gw := gw_t2 (List.mem_of_getElem? (i := 1) rfl) rfl
theorem wd_242 : (Jvm.Cond.castable "java/lang/IllegalStateException" "java/lang/IllegalStateException") ∈ lw_tbl := tb_t2 (List.mem_of_getElem? (i := 2) rfl)
theorem wd_243 : (Jvm.Cond.selects "java/lang/IllegalStateException" ({ cls := "java/lang/Throwable", name := "fillInStackTrace", desc := "(I)Ljava/lang/Throwable;" } : Jvm.MethodName) ({ cls := "java/lang/Throwable", name := "fillInStackTrace", desc := "(I)Ljava/lang/Throwable;" } : Jvm.MethodName)) ∈ gw := gw_t2 (List.mem_of_getElem? (i := 3) rfl) rfl
theorem wd_244 : (Jvm.Cond.lays "java/lang/IllegalStateException" "java/lang/Throwable" "cause" "Ljava/lang/Throwable;") ∈ gw := gw_t2 (List.mem_of_getElem? (i := 4) rfl) rfl
theorem wd_245 : (Jvm.Cond.lays "java/lang/IllegalStateException" "java/lang/Throwable" "stackTrace" "[Ljava/lang/StackTraceElement;") ∈ gw := gw_t2 (List.mem_of_getElem? (i := 5) rfl) rfl
theorem wd_246 : (Jvm.Cond.lays "java/lang/IllegalStateException" "java/lang/Throwable" "suppressedExceptions" "Ljava/util/List;") ∈ gw := gw_t2 (List.mem_of_getElem? (i := 6) rfl) rfl
theorem wd_247 : (Jvm.Cond.lays "java/lang/IllegalStateException" "java/lang/Throwable" "detailMessage" "Ljava/lang/String;") ∈ gw := gw_t2 (List.mem_of_getElem? (i := 7) rfl) rfl
theorem wd_248 : (Jvm.Cond.lays "java/lang/IllegalStateException" "java/lang/Throwable" "backtrace" "Ljava/lang/Object;") ∈ gw := gw_t2 (List.mem_of_getElem? (i := 8) rfl) rfl
theorem wd_249 : (Jvm.Cond.stringRef "TermOrders" (61 : Nat) "there are five symbols") ∈ lw_tbl := tb_t2 (List.mem_of_getElem? (i := 9) rfl)
theorem wd_250 : (Jvm.Cond.methodLink "TermOrders" (63 : Nat) ({ cls := "java/lang/IllegalStateException", name := "<init>", desc := "(Ljava/lang/String;)V" } : Jvm.MethodName)) ∈ gw := gw_t2 (List.mem_of_getElem? (i := 10) rfl) rfl
theorem wd_251 : (Jvm.Cond.instanceMethod ({ cls := "java/lang/IllegalStateException", name := "<init>", desc := "(Ljava/lang/String;)V" } : Jvm.MethodName)) ∈ gw := gw_t2 (List.mem_of_getElem? (i := 11) rfl) rfl
theorem wd_252 : (Jvm.Cond.code ({ cls := "java/lang/IllegalStateException", name := "<init>", desc := "(Ljava/lang/String;)V" } : Jvm.MethodName) prog_12_method_2_code (2 : Nat) (Option.none : Option Jvm.ClassFile.FieldType)) ∈ gw := gw_t2 (List.mem_of_getElem? (i := 12) rfl) rfl
theorem wd_253 : (Jvm.Cond.methodLink "java/lang/IllegalStateException" (7 : Nat) ({ cls := "java/lang/RuntimeException", name := "<init>", desc := "(Ljava/lang/String;)V" } : Jvm.MethodName)) ∈ gw := gw_t2 (List.mem_of_getElem? (i := 13) rfl) rfl
theorem wd_254 : (Jvm.Cond.lays "java/lang/IllegalStateException" "java/lang/Throwable" "depth" "I") ∈ gw := gw_t2 (List.mem_of_getElem? (i := 14) rfl) rfl
theorem wd_255 : (Jvm.Cond.superclass "java/lang/IllegalStateException" "java/lang/RuntimeException") ∈ gw := gw_t2 (List.mem_of_getElem? (i := 15) rfl) rfl
theorem wd_256 : (Jvm.Cond.methodLinkNest "TermOrders" (64 : Nat) ({ cls := "TermOrders$Symbols", name := "add", desc := "(I)I" } : Jvm.MethodName) "TermOrders") ∈ lw_tbl := tb_t2 (List.mem_of_getElem? (i := 16) rfl)
theorem wd_258 : (Jvm.Cond.instanceMethod ({ cls := "TermOrders$Symbols", name := "add", desc := "(I)I" } : Jvm.MethodName)) ∈ gw := gw_t2 (List.mem_of_getElem? (i := 18) rfl) rfl
theorem wd_259 : (Jvm.Cond.code ({ cls := "TermOrders$Symbols", name := "add", desc := "(I)I" } : Jvm.MethodName) prog_5_method_2_code (3 : Nat) (Option.some Jvm.ClassFile.FieldType.int)) ∈ gw := gw_t2 (List.mem_of_getElem? (i := 19) rfl) rfl
theorem wd_260 : (Jvm.Cond.methodLink "TermOrdersLaw" (75 : Nat) ({ cls := "TermOrdersLaw", name := "variable", desc := "(LTermOrders;I[J)I" } : Jvm.MethodName)) ∈ gw := gw_t2 (List.mem_of_getElem? (i := 20) rfl) rfl
theorem wd_261 : (Jvm.Cond.static ({ cls := "TermOrdersLaw", name := "variable", desc := "(LTermOrders;I[J)I" } : Jvm.MethodName)) ∈ gw := gw_t2 (List.mem_of_getElem? (i := 21) rfl) rfl
theorem wd_262 : (Jvm.Cond.codeWith ({ cls := "TermOrdersLaw", name := "variable", desc := "(LTermOrders;I[J)I" } : Jvm.MethodName) method_4_code (4 : Nat) (Option.some Jvm.ClassFile.FieldType.int) [((0 : Nat), (9 : Nat), (12 : Nat), (13 : Nat)), ((0 : Nat), (9 : Nat), (15 : Nat), (15 : Nat))]) ∈ gw := gw_t2 (List.mem_of_getElem? (i := 22) rfl) rfl
theorem wd_263 : (Jvm.Cond.methodLink "TermOrdersLaw" (17 : Nat) ({ cls := "TermOrders", name := "variable", desc := "(I)I" } : Jvm.MethodName)) ∈ gw := gw_t2 (List.mem_of_getElem? (i := 23) rfl) rfl
theorem wd_264 : (Jvm.Cond.instanceMethod ({ cls := "TermOrders", name := "variable", desc := "(I)I" } : Jvm.MethodName)) ∈ gw := gw_t2 (List.mem_of_getElem? (i := 24) rfl) rfl
theorem wd_265 : (Jvm.Cond.selects "TermOrders" ({ cls := "TermOrders", name := "variable", desc := "(I)I" } : Jvm.MethodName) ({ cls := "TermOrders", name := "variable", desc := "(I)I" } : Jvm.MethodName)) ∈ gw := gw_t2 (List.mem_of_getElem? (i := 25) rfl) rfl
theorem wd_266 : (Jvm.Cond.code ({ cls := "TermOrders", name := "variable", desc := "(I)I" } : Jvm.MethodName) prog_1_method_3_code (2 : Nat) (Option.some Jvm.ClassFile.FieldType.int)) ∈ gw := gw_t2 (List.mem_of_getElem? (i := 26) rfl) rfl
theorem wd_267 : (Jvm.Cond.stringRef "TermOrders" (68 : Nat) "variables are 0 .. 3") ∈ lw_tbl := tb_t2 (List.mem_of_getElem? (i := 27) rfl)
theorem wd_268 : (Jvm.Cond.methodLinkNest "TermOrders" (70 : Nat) ({ cls := "TermOrders$Draft", name := "clear", desc := "()V" } : Jvm.MethodName) "TermOrders") ∈ lw_tbl := tb_t2 (List.mem_of_getElem? (i := 28) rfl)
theorem wd_270 : (Jvm.Cond.instanceMethod ({ cls := "TermOrders$Draft", name := "clear", desc := "()V" } : Jvm.MethodName)) ∈ gw := gw_t2 (List.mem_of_getElem? (i := 30) rfl) rfl
theorem wd_271 : (Jvm.Cond.code ({ cls := "TermOrders$Draft", name := "clear", desc := "()V" } : Jvm.MethodName) prog_2_method_2_code (1 : Nat) (Option.none : Option Jvm.ClassFile.FieldType)) ∈ gw := gw_t2 (List.mem_of_getElem? (i := 31) rfl) rfl
theorem wd_272 : (Jvm.Cond.methodLinkNest "TermOrders" (73 : Nat) ({ cls := "TermOrders$Draft", name := "writeVariable", desc := "(I)V" } : Jvm.MethodName) "TermOrders") ∈ lw_tbl := tb_t2 (List.mem_of_getElem? (i := 32) rfl)
theorem wd_274 : (Jvm.Cond.instanceMethod ({ cls := "TermOrders$Draft", name := "writeVariable", desc := "(I)V" } : Jvm.MethodName)) ∈ gw := gw_t2 (List.mem_of_getElem? (i := 34) rfl) rfl
theorem wd_275 : (Jvm.Cond.code ({ cls := "TermOrders$Draft", name := "writeVariable", desc := "(I)V" } : Jvm.MethodName) prog_2_method_3_code (2 : Nat) (Option.none : Option Jvm.ClassFile.FieldType)) ∈ gw := gw_t2 (List.mem_of_getElem? (i := 35) rfl) rfl
theorem wd_276 : (Jvm.Cond.methodLink "TermOrders$Draft" (36 : Nat) ({ cls := "TermOrders$Draft", name := "write", desc := "(II)V" } : Jvm.MethodName)) ∈ gw := gw_t2 (List.mem_of_getElem? (i := 36) rfl) rfl
theorem wd_278 : (Jvm.Cond.instanceMethod ({ cls := "TermOrders$Draft", name := "write", desc := "(II)V" } : Jvm.MethodName)) ∈ gw := gw_t2 (List.mem_of_getElem? (i := 38) rfl) rfl
theorem wd_279 : (Jvm.Cond.code ({ cls := "TermOrders$Draft", name := "write", desc := "(II)V" } : Jvm.MethodName) prog_2_method_5_code (3 : Nat) (Option.none : Option Jvm.ClassFile.FieldType)) ∈ gw := gw_t2 (List.mem_of_getElem? (i := 39) rfl) rfl
theorem wd_280 : (Jvm.Cond.methodLink "TermOrders" (77 : Nat) ({ cls := "TermOrders", name := "keepDraft", desc := "()I" } : Jvm.MethodName)) ∈ gw := gw_t2 (List.mem_of_getElem? (i := 40) rfl) rfl
theorem wd_282 : (Jvm.Cond.instanceMethod ({ cls := "TermOrders", name := "keepDraft", desc := "()I" } : Jvm.MethodName)) ∈ gw := gw_t2 (List.mem_of_getElem? (i := 42) rfl) rfl
theorem wd_283 : (Jvm.Cond.code ({ cls := "TermOrders", name := "keepDraft", desc := "()I" } : Jvm.MethodName) prog_1_method_20_code (1 : Nat) (Option.some Jvm.ClassFile.FieldType.int)) ∈ gw := gw_t2 (List.mem_of_getElem? (i := 43) rfl) rfl
theorem wd_284 : (Jvm.Cond.methodLinkNest "TermOrders" (191 : Nat) ({ cls := "TermOrders$Draft", name := "isWithinLimits", desc := "()Z" } : Jvm.MethodName) "TermOrders") ∈ lw_tbl := tb_t2 (List.mem_of_getElem? (i := 44) rfl)
theorem wd_286 : (Jvm.Cond.instanceMethod ({ cls := "TermOrders$Draft", name := "isWithinLimits", desc := "()Z" } : Jvm.MethodName)) ∈ gw := gw_t2 (List.mem_of_getElem? (i := 46) rfl) rfl
theorem wd_287 : (Jvm.Cond.code ({ cls := "TermOrders$Draft", name := "isWithinLimits", desc := "()Z" } : Jvm.MethodName) prog_2_method_7_code (2 : Nat) (Option.some Jvm.ClassFile.FieldType.boolean)) ∈ gw := gw_t2 (List.mem_of_getElem? (i := 47) rfl) rfl
theorem wd_288 : (Jvm.Cond.methodLink "TermOrders$Draft" (49 : Nat) ({ cls := "TermOrders$Draft", name := "measure", desc := "(I)V" } : Jvm.MethodName)) ∈ gw := gw_t2 (List.mem_of_getElem? (i := 48) rfl) rfl
theorem wd_290 : (Jvm.Cond.instanceMethod ({ cls := "TermOrders$Draft", name := "measure", desc := "(I)V" } : Jvm.MethodName)) ∈ gw := gw_t2 (List.mem_of_getElem? (i := 50) rfl) rfl
theorem wd_291 : (Jvm.Cond.code ({ cls := "TermOrders$Draft", name := "measure", desc := "(I)V" } : Jvm.MethodName) prog_2_method_8_code (5 : Nat) (Option.none : Option Jvm.ClassFile.FieldType)) ∈ gw := gw_t2 (List.mem_of_getElem? (i := 51) rfl) rfl
theorem wd_292 : (Jvm.Cond.methodLink "TermOrders$Draft" (53 : Nat) ({ cls := "java/lang/Math", name := "max", desc := "(II)I" } : Jvm.MethodName)) ∈ gw := gw_t2 (List.mem_of_getElem? (i := 52) rfl) rfl
theorem wd_293 : (Jvm.Cond.static ({ cls := "java/lang/Math", name := "max", desc := "(II)I" } : Jvm.MethodName)) ∈ gw := gw_t2 (List.mem_of_getElem? (i := 53) rfl) rfl
theorem wd_294 : (Jvm.Cond.code ({ cls := "java/lang/Math", name := "max", desc := "(II)I" } : Jvm.MethodName) prog_14_method_65_code (2 : Nat) (Option.some Jvm.ClassFile.FieldType.int)) ∈ gw := gw_t2 (List.mem_of_getElem? (i := 54) rfl) rfl
theorem wd_295 : (Jvm.Cond.stringRef "TermOrders" (194 : Nat) "the term would be too high or too great") ∈ lw_tbl := tb_t2 (List.mem_of_getElem? (i := 55) rfl)
theorem wd_296 : (Jvm.Cond.stringRef "TermOrders" (196 : Nat) "there are 160 terms") ∈ lw_tbl := tb_t2 (List.mem_of_getElem? (i := 56) rfl)
theorem wd_297 : (Jvm.Cond.methodLinkNest "TermOrders" (198 : Nat) ({ cls := "TermOrders$Draft", name := "toTerm", desc := "()LTermOrders$Term;" } : Jvm.MethodName) "TermOrders") ∈ lw_tbl := tb_t2 (List.mem_of_getElem? (i := 57) rfl)
theorem wd_299 : (Jvm.Cond.instanceMethod ({ cls := "TermOrders$Draft", name := "toTerm", desc := "()LTermOrders$Term;" } : Jvm.MethodName)) ∈ gw := gw_t2 (List.mem_of_getElem? (i := 59) rfl) rfl
theorem wd_300 : (Jvm.Cond.code ({ cls := "TermOrders$Draft", name := "toTerm", desc := "()LTermOrders$Term;" } : Jvm.MethodName) prog_2_method_9_code (1 : Nat) (Option.some (Jvm.ClassFile.FieldType.object "TermOrders$Term"))) ∈ gw := gw_t2 (List.mem_of_getElem? (i := 60) rfl) rfl
theorem wd_301 : (Jvm.Cond.classLink "TermOrders$Draft" (46 : Nat) "TermOrders$Term") ∈ gw := gw_t2 (List.mem_of_getElem? (i := 61) rfl) rfl
theorem wd_302 : (Jvm.Cond.instantiable "TermOrders$Term" (5 : Nat)) ∈ gw := gw_t2 (List.mem_of_getElem? (i := 62) rfl) rfl
theorem wd_303 : (Jvm.Cond.methodLink "TermOrders$Draft" (59 : Nat) ({ cls := "java/util/Arrays", name := "copyOf", desc := "([II)[I" } : Jvm.MethodName)) ∈ gw := gw_t2 (List.mem_of_getElem? (i := 63) rfl) rfl
theorem wd_304 : (Jvm.Cond.static ({ cls := "java/util/Arrays", name := "copyOf", desc := "([II)[I" } : Jvm.MethodName)) ∈ gw := gw_t2 (List.mem_of_getElem? (i := 64) rfl) rfl
theorem wd_305 : (Jvm.Cond.code ({ cls := "java/util/Arrays", name := "copyOf", desc := "([II)[I" } : Jvm.MethodName) prog_19_method_123_code (3 : Nat) (Option.some (Jvm.ClassFile.FieldType.array Jvm.ClassFile.FieldType.int))) ∈ gw := gw_t2 (List.mem_of_getElem? (i := 65) rfl) rfl
theorem wd_306 : (Jvm.Cond.methodLink "java/util/Arrays" (316 : Nat) ({ cls := "[I", name := "clone", desc := "()Ljava/lang/Object;" } : Jvm.MethodName)) ∈ gw := gw_t2 (List.mem_of_getElem? (i := 66) rfl) rfl
theorem wd_307 : (Jvm.Cond.sameMethod "[I" "java/lang/Object" "clone" "()Ljava/lang/Object;") ∈ gw := gw_t2 (List.mem_of_getElem? (i := 67) rfl) rfl
theorem wd_308 : (Jvm.Cond.native ({ cls := "java/lang/Object", name := "clone", desc := "()Ljava/lang/Object;" } : Jvm.MethodName)) ∈ gw := gw_t2 (List.mem_of_getElem? (i := 68) rfl) rfl
theorem wd_309 : (Jvm.Cond.instanceMethod ({ cls := "java/lang/Object", name := "clone", desc := "()Ljava/lang/Object;" } : Jvm.MethodName)) ∈ gw := gw_t2 (List.mem_of_getElem? (i := 69) rfl) rfl
theorem wd_310 : (Jvm.Cond.selects "[I" ({ cls := "[I", name := "clone", desc := "()Ljava/lang/Object;" } : Jvm.MethodName) ({ cls := "java/lang/Object", name := "clone", desc := "()Ljava/lang/Object;" } : Jvm.MethodName)) ∈ gw := gw_t2 (List.mem_of_getElem? (i := 70) rfl) rfl
theorem wd_311 : (Jvm.Cond.castable "[I" "java/lang/Cloneable") ∈ lw_tbl := tb_t2 (List.mem_of_getElem? (i := 71) rfl)
theorem wd_312 : (Jvm.Cond.classLink "java/util/Arrays" (317 : Nat) "[I") ∈ gw := gw_t2 (List.mem_of_getElem? (i := 72) rfl) rfl
theorem wd_313 : (Jvm.Cond.methodLink "java/util/Arrays" (304 : Nat) ({ cls := "java/lang/Math", name := "min", desc := "(II)I" } : Jvm.MethodName)) ∈ gw := gw_t2 (List.mem_of_getElem? (i := 73) rfl) rfl
theorem wd_314 : (Jvm.Cond.static ({ cls := "java/lang/Math", name := "min", desc := "(II)I" } : Jvm.MethodName)) ∈ gw := gw_t2 (List.mem_of_getElem? (i := 74) rfl) rfl
theorem wd_315 : (Jvm.Cond.code ({ cls := "java/lang/Math", name := "min", desc := "(II)I" } : Jvm.MethodName) prog_14_method_69_code (2 : Nat) (Option.some Jvm.ClassFile.FieldType.int)) ∈ gw := gw_t2 (List.mem_of_getElem? (i := 75) rfl) rfl
theorem wd_316 : (Jvm.Cond.methodLink "java/util/Arrays" (150 : Nat) ({ cls := "java/lang/System", name := "arraycopy", desc := "(Ljava/lang/Object;ILjava/lang/Object;II)V" } : Jvm.MethodName)) ∈ gw := gw_t2 (List.mem_of_getElem? (i := 76) rfl) rfl
theorem wd_317 : (Jvm.Cond.static ({ cls := "java/lang/System", name := "arraycopy", desc := "(Ljava/lang/Object;ILjava/lang/Object;II)V" } : Jvm.MethodName)) ∈ gw := gw_t2 (List.mem_of_getElem? (i := 77) rfl) rfl
theorem wd_318 : (Jvm.Cond.native ({ cls := "java/lang/System", name := "arraycopy", desc := "(Ljava/lang/Object;ILjava/lang/Object;II)V" } : Jvm.MethodName)) ∈ gw := gw_t2 (List.mem_of_getElem? (i := 78) rfl) rfl
theorem wd_319 : (Jvm.Cond.methodLinkNest "TermOrders$Draft" (65 : Nat) ({ cls := "TermOrders$Term", name := "<init>", desc := "([I[I[II)V" } : Jvm.MethodName) "TermOrders") ∈ lw_tbl := tb_t2 (List.mem_of_getElem? (i := 79) rfl)
theorem wd_320 : (Jvm.Cond.instanceMethod ({ cls := "TermOrders$Term", name := "<init>", desc := "([I[I[II)V" } : Jvm.MethodName)) ∈ gw := gw_t2 (List.mem_of_getElem? (i := 80) rfl) rfl
theorem wd_321 : (Jvm.Cond.code ({ cls := "TermOrders$Term", name := "<init>", desc := "([I[I[II)V" } : Jvm.MethodName) prog_6_method_1_code (5 : Nat) (Option.none : Option Jvm.ClassFile.FieldType)) ∈ gw := gw_t2 (List.mem_of_getElem? (i := 81) rfl) rfl
theorem wd_322 : (Jvm.Cond.methodLink "TermOrders$Term" (3 : Nat) ({ cls := "java/lang/Object", name := "<init>", desc := "()V" } : Jvm.MethodName)) ∈ gw := gw_t2 (List.mem_of_getElem? (i := 82) rfl) rfl
theorem wd_323 : (Jvm.Cond.fieldLink "TermOrders$Term" (9 : Nat) "TermOrders$Term" "heads" "[I") ∈ gw := gw_t2 (List.mem_of_getElem? (i := 83) rfl) rfl
theorem wd_324 : (Jvm.Cond.fieldLinkNest "TermOrders$Orders" (47 : Nat) "TermOrders$Term" "heads" "[I" "TermOrders") ∈ lw_tbl := tb_t2 (List.mem_of_getElem? (i := 84) rfl)
theorem wd_325 : (Jvm.Cond.fieldLinkNest "TermOrders$Rules" (52 : Nat) "TermOrders$Term" "heads" "[I" "TermOrders") ∈ lw_tbl := tb_t2 (List.mem_of_getElem? (i := 85) rfl)
theorem wd_326 : (Jvm.Cond.fieldLinkNest "TermOrders$Draft" (45 : Nat) "TermOrders$Term" "heads" "[I" "TermOrders") ∈ lw_tbl := tb_t2 (List.mem_of_getElem? (i := 86) rfl)
theorem wd_327 : (Jvm.Cond.fieldLinkNest "TermOrders$Symbols" (65 : Nat) "TermOrders$Term" "heads" "[I" "TermOrders") ∈ lw_tbl := tb_t2 (List.mem_of_getElem? (i := 87) rfl)
theorem wd_328 : (Jvm.Cond.fieldLinkNest "TermOrders" (168 : Nat) "TermOrders$Term" "heads" "[I" "TermOrders") ∈ lw_tbl := tb_t2 (List.mem_of_getElem? (i := 88) rfl)
theorem wd_329 : (Jvm.Cond.fieldLink "TermOrders$Term" (15 : Nat) "TermOrders$Term" "partCounts" "[I") ∈ gw := gw_t2 (List.mem_of_getElem? (i := 89) rfl) rfl
theorem wd_330 : (Jvm.Cond.fieldLinkNest "TermOrders$Orders" (65 : Nat) "TermOrders$Term" "partCounts" "[I" "TermOrders") ∈ lw_tbl := tb_t2 (List.mem_of_getElem? (i := 90) rfl)
theorem wd_331 : (Jvm.Cond.fieldLinkNest "TermOrders$Draft" (48 : Nat) "TermOrders$Term" "partCounts" "[I" "TermOrders") ∈ lw_tbl := tb_t2 (List.mem_of_getElem? (i := 91) rfl)
theorem wd_332 : (Jvm.Cond.fieldLinkNest "TermOrders$Rules" (79 : Nat) "TermOrders$Term" "partCounts" "[I" "TermOrders") ∈ lw_tbl := tb_t2 (List.mem_of_getElem? (i := 92) rfl)
theorem wd_333 : (Jvm.Cond.fieldLink "TermOrders$Term" (18 : Nat) "TermOrders$Term" "ends" "[I") ∈ gw := gw_t2 (List.mem_of_getElem? (i := 93) rfl) rfl
theorem wd_334 : (Jvm.Cond.fieldLinkNest "TermOrders$Rules" (35 : Nat) "TermOrders$Term" "ends" "[I" "TermOrders") ∈ lw_tbl := tb_t2 (List.mem_of_getElem? (i := 94) rfl)
theorem wd_335 : (Jvm.Cond.fieldLinkNest "TermOrders$Symbols" (57 : Nat) "TermOrders$Term" "ends" "[I" "TermOrders") ∈ lw_tbl := tb_t2 (List.mem_of_getElem? (i := 95) rfl)
theorem wd_336 : (Jvm.Cond.fieldLink "TermOrders$Term" (21 : Nat) "TermOrders$Term" "size" "I") ∈ gw := gw_t2 (List.mem_of_getElem? (i := 96) rfl) rfl
theorem wd_337 : (Jvm.Cond.fieldLinkNest "TermOrders$Orders" (26 : Nat) "TermOrders$Term" "size" "I" "TermOrders") ∈ lw_tbl := tb_t2 (List.mem_of_getElem? (i := 97) rfl)
theorem wd_338 : (Jvm.Cond.fieldLinkNest "TermOrders$Rules" (28 : Nat) "TermOrders$Term" "size" "I" "TermOrders") ∈ lw_tbl := tb_t2 (List.mem_of_getElem? (i := 98) rfl)
theorem wd_339 : (Jvm.Cond.fieldLinkNest "TermOrders" (95 : Nat) "TermOrders$Term" "size" "I" "TermOrders") ∈ lw_tbl := tb_t2 (List.mem_of_getElem? (i := 99) rfl)
theorem wd_340 : (Jvm.Cond.fieldLink "TermOrders$Term" (25 : Nat) "TermOrders$Term" "height" "I") ∈ gw := gw_t2 (List.mem_of_getElem? (i := 100) rfl) rfl
theorem wd_341 : (Jvm.Cond.fieldLinkNest "TermOrders" (171 : Nat) "TermOrders$Term" "height" "I" "TermOrders") ∈ lw_tbl := tb_t2 (List.mem_of_getElem? (i := 101) rfl)
theorem wd_342 : (Jvm.Cond.laysFinal "TermOrders$Term" "TermOrders$Term" "heads" "[I") ∈ gw := gw_t2 (List.mem_of_getElem? (i := 102) rfl) rfl
theorem wd_344 : (Jvm.Cond.laysFinal "TermOrders$Term" "TermOrders$Term" "partCounts" "[I") ∈ gw := gw_t2 (List.mem_of_getElem? (i := 104) rfl) rfl
theorem wd_346 : (Jvm.Cond.laysFinal "TermOrders$Term" "TermOrders$Term" "ends" "[I") ∈ gw := gw_t2 (List.mem_of_getElem? (i := 106) rfl) rfl
theorem wd_348 : (Jvm.Cond.laysFinal "TermOrders$Term" "TermOrders$Term" "size" "I") ∈ gw := gw_t2 (List.mem_of_getElem? (i := 108) rfl) rfl
theorem wd_350 : (Jvm.Cond.laysFinal "TermOrders$Term" "TermOrders$Term" "height" "I") ∈ gw := gw_t2 (List.mem_of_getElem? (i := 110) rfl) rfl
theorem wd_352 : (Jvm.Cond.superclass "TermOrders$Term" "java/lang/Object") ∈ gw := gw_t2 (List.mem_of_getElem? (i := 112) rfl) rfl
theorem wd_353 : (Jvm.Cond.methodLink "TermOrdersLaw" (78 : Nat) ({ cls := "TermOrdersLaw", name := "term", desc := "(LTermOrders;IIII[J)I" } : Jvm.MethodName)) ∈ gw := gw_t2 (List.mem_of_getElem? (i := 113) rfl) rfl
theorem wd_354 : (Jvm.Cond.static ({ cls := "TermOrdersLaw", name := "term", desc := "(LTermOrders;IIII[J)I" } : Jvm.MethodName)) ∈ gw := gw_t2 (List.mem_of_getElem? (i := 114) rfl) rfl
theorem wd_355 : (Jvm.Cond.codeWith ({ cls := "TermOrdersLaw", name := "term", desc := "(LTermOrders;IIII[J)I" } : Jvm.MethodName) method_5_code (7 : Nat) (Option.some Jvm.ClassFile.FieldType.int) [((0 : Nat), (14 : Nat), (17 : Nat), (13 : Nat)), ((0 : Nat), (14 : Nat), (21 : Nat), (15 : Nat))]) ∈ gw := gw_t2 (List.mem_of_getElem? (i := 115) rfl) rfl
theorem wd_356 : (Jvm.Cond.methodLink "TermOrdersLaw" (20 : Nat) ({ cls := "TermOrders", name := "term", desc := "(IIII)I" } : Jvm.MethodName)) ∈ gw := gw_t2 (List.mem_of_getElem? (i := 116) rfl) rfl
theorem wd_357 : (Jvm.Cond.instanceMethod ({ cls := "TermOrders", name := "term", desc := "(IIII)I" } : Jvm.MethodName)) ∈ gw := gw_t2 (List.mem_of_getElem? (i := 117) rfl) rfl
theorem wd_358 : (Jvm.Cond.selects "TermOrders" ({ cls := "TermOrders", name := "term", desc := "(IIII)I" } : Jvm.MethodName) ({ cls := "TermOrders", name := "term", desc := "(IIII)I" } : Jvm.MethodName)) ∈ gw := gw_t2 (List.mem_of_getElem? (i := 118) rfl) rfl
theorem wd_359 : (Jvm.Cond.code ({ cls := "TermOrders", name := "term", desc := "(IIII)I" } : Jvm.MethodName) prog_1_method_4_code (8 : Nat) (Option.some Jvm.ClassFile.FieldType.int)) ∈ gw := gw_t2 (List.mem_of_getElem? (i := 119) rfl) rfl
theorem wd_360 : (Jvm.Cond.methodLink "TermOrders" (81 : Nat) ({ cls := "TermOrders", name := "checkSymbol", desc := "(I)V" } : Jvm.MethodName)) ∈ gw := gw_t2 (List.mem_of_getElem? (i := 120) rfl) rfl
theorem wd_362 : (Jvm.Cond.instanceMethod ({ cls := "TermOrders", name := "checkSymbol", desc := "(I)V" } : Jvm.MethodName)) ∈ gw := gw_t2 (List.mem_of_getElem? (i := 122) rfl) rfl
theorem wd_363 : (Jvm.Cond.code ({ cls := "TermOrders", name := "checkSymbol", desc := "(I)V" } : Jvm.MethodName) prog_1_method_17_code (2 : Nat) (Option.none : Option Jvm.ClassFile.FieldType)) ∈ gw := gw_t2 (List.mem_of_getElem? (i := 123) rfl) rfl
theorem wd_364 : (Jvm.Cond.stringRef "TermOrders" (185 : Nat) "there is no such symbol") ∈ lw_tbl := tb_t2 (List.mem_of_getElem? (i := 124) rfl)
theorem wd_365 : (Jvm.Cond.methodLinkNest "TermOrders" (84 : Nat) ({ cls := "TermOrders$Draft", name := "writeSymbol", desc := "(I)V" } : Jvm.MethodName) "TermOrders") ∈ lw_tbl := tb_t2 (List.mem_of_getElem? (i := 125) rfl)
theorem wd_367 : (Jvm.Cond.instanceMethod ({ cls := "TermOrders$Draft", name := "writeSymbol", desc := "(I)V" } : Jvm.MethodName)) ∈ gw := gw_t2 (List.mem_of_getElem? (i := 127) rfl) rfl
theorem wd_368 : (Jvm.Cond.code ({ cls := "TermOrders$Draft", name := "writeSymbol", desc := "(I)V" } : Jvm.MethodName) prog_2_method_4_code (2 : Nat) (Option.none : Option Jvm.ClassFile.FieldType)) ∈ gw := gw_t2 (List.mem_of_getElem? (i := 128) rfl) rfl
theorem wd_369 : (Jvm.Cond.methodLink "TermOrders" (91 : Nat) ({ cls := "TermOrders", name := "termOf", desc := "(I)LTermOrders$Term;" } : Jvm.MethodName)) ∈ gw := gw_t2 (List.mem_of_getElem? (i := 129) rfl) rfl
theorem wd_371 : (Jvm.Cond.instanceMethod ({ cls := "TermOrders", name := "termOf", desc := "(I)LTermOrders$Term;" } : Jvm.MethodName)) ∈ gw := gw_t2 (List.mem_of_getElem? (i := 131) rfl) rfl
theorem wd_372 : (Jvm.Cond.code ({ cls := "TermOrders", name := "termOf", desc := "(I)LTermOrders$Term;" } : Jvm.MethodName) prog_1_method_19_code (2 : Nat) (Option.some (Jvm.ClassFile.FieldType.object "TermOrders$Term"))) ∈ gw := gw_t2 (List.mem_of_getElem? (i := 132) rfl) rfl
theorem wd_373 : (Jvm.Cond.stringRef "TermOrders" (189 : Nat) "there is no such term") ∈ lw_tbl := tb_t2 (List.mem_of_getElem? (i := 133) rfl)
theorem wd_374 : (Jvm.Cond.methodLinkNest "TermOrders" (98 : Nat) ({ cls := "TermOrders$Draft", name := "copyPlaces", desc := "(LTermOrders$Term;II)V" } : Jvm.MethodName) "TermOrders") ∈ lw_tbl := tb_t2 (List.mem_of_getElem? (i := 134) rfl)
theorem wd_376 : (Jvm.Cond.instanceMethod ({ cls := "TermOrders$Draft", name := "copyPlaces", desc := "(LTermOrders$Term;II)V" } : Jvm.MethodName)) ∈ gw := gw_t2 (List.mem_of_getElem? (i := 136) rfl) rfl
theorem wd_377 : (Jvm.Cond.code ({ cls := "TermOrders$Draft", name := "copyPlaces", desc := "(LTermOrders$Term;II)V" } : Jvm.MethodName) prog_2_method_6_code (5 : Nat) (Option.none : Option Jvm.ClassFile.FieldType)) ∈ gw := gw_t2 (List.mem_of_getElem? (i := 137) rfl) rfl
theorem wd_378 : (Jvm.Cond.methodLink "TermOrdersLaw" (82 : Nat) ({ cls := "TermOrdersLaw", name := "rule", desc := "(LTermOrders;II[J)I" } : Jvm.MethodName)) ∈ gw := gw_t2 (List.mem_of_getElem? (i := 138) rfl) rfl
theorem wd_379 : (Jvm.Cond.static ({ cls := "TermOrdersLaw", name := "rule", desc := "(LTermOrders;II[J)I" } : Jvm.MethodName)) ∈ gw := gw_t2 (List.mem_of_getElem? (i := 139) rfl) rfl
theorem wd_380 : (Jvm.Cond.codeWith ({ cls := "TermOrdersLaw", name := "rule", desc := "(LTermOrders;II[J)I" } : Jvm.MethodName) method_6_code (5 : Nat) (Option.some Jvm.ClassFile.FieldType.int) [((0 : Nat), (10 : Nat), (13 : Nat), (13 : Nat)), ((0 : Nat), (10 : Nat), (17 : Nat), (15 : Nat))]) ∈ gw := gw_t2 (List.mem_of_getElem? (i := 140) rfl) rfl
theorem wd_381 : (Jvm.Cond.methodLink "TermOrdersLaw" (24 : Nat) ({ cls := "TermOrders", name := "rule", desc := "(II)I" } : Jvm.MethodName)) ∈ gw := gw_t2 (List.mem_of_getElem? (i := 141) rfl) rfl
theorem wd_382 : (Jvm.Cond.instanceMethod ({ cls := "TermOrders", name := "rule", desc := "(II)I" } : Jvm.MethodName)) ∈ gw := gw_t2 (List.mem_of_getElem? (i := 142) rfl) rfl
theorem wd_383 : (Jvm.Cond.selects "TermOrders" ({ cls := "TermOrders", name := "rule", desc := "(II)I" } : Jvm.MethodName) ({ cls := "TermOrders", name := "rule", desc := "(II)I" } : Jvm.MethodName)) ∈ gw := gw_t2 (List.mem_of_getElem? (i := 143) rfl) rfl
theorem wd_384 : (Jvm.Cond.code ({ cls := "TermOrders", name := "rule", desc := "(II)I" } : Jvm.MethodName) prog_1_method_5_code (5 : Nat) (Option.some Jvm.ClassFile.FieldType.int)) ∈ gw := gw_t2 (List.mem_of_getElem? (i := 144) rfl) rfl
theorem wd_385 : (Jvm.Cond.methodLinkNest "TermOrders" (102 : Nat) ({ cls := "TermOrders$Term", name := "isVariable", desc := "(I)Z" } : Jvm.MethodName) "TermOrders") ∈ lw_tbl := tb_t2 (List.mem_of_getElem? (i := 145) rfl)
theorem wd_387 : (Jvm.Cond.instanceMethod ({ cls := "TermOrders$Term", name := "isVariable", desc := "(I)Z" } : Jvm.MethodName)) ∈ gw := gw_t2 (List.mem_of_getElem? (i := 147) rfl) rfl
theorem wd_388 : (Jvm.Cond.code ({ cls := "TermOrders$Term", name := "isVariable", desc := "(I)Z" } : Jvm.MethodName) prog_6_method_2_code (2 : Nat) (Option.some Jvm.ClassFile.FieldType.boolean)) ∈ gw := gw_t2 (List.mem_of_getElem? (i := 148) rfl) rfl
theorem wd_389 : (Jvm.Cond.methodLinkNest "TermOrders" (106 : Nat) ({ cls := "TermOrders$Term", name := "hasAllVariablesOf", desc := "(LTermOrders$Term;)Z" } : Jvm.MethodName) "TermOrders") ∈ lw_tbl := tb_t2 (List.mem_of_getElem? (i := 149) rfl)
theorem wd_391 : (Jvm.Cond.instanceMethod ({ cls := "TermOrders$Term", name := "hasAllVariablesOf", desc := "(LTermOrders$Term;)Z" } : Jvm.MethodName)) ∈ gw := gw_t2 (List.mem_of_getElem? (i := 151) rfl) rfl
theorem wd_392 : (Jvm.Cond.code ({ cls := "TermOrders$Term", name := "hasAllVariablesOf", desc := "(LTermOrders$Term;)Z" } : Jvm.MethodName) prog_6_method_7_code (3 : Nat) (Option.some Jvm.ClassFile.FieldType.boolean)) ∈ gw := gw_t2 (List.mem_of_getElem? (i := 152) rfl) rfl
theorem wd_393 : (Jvm.Cond.methodLink "TermOrders$Term" (36 : Nat) ({ cls := "TermOrders$Term", name := "isVariable", desc := "(I)Z" } : Jvm.MethodName)) ∈ gw := gw_t2 (List.mem_of_getElem? (i := 153) rfl) rfl
theorem wd_394 : (Jvm.Cond.methodLink "TermOrders$Term" (40 : Nat) ({ cls := "TermOrders$Term", name := "countInPlace", desc := "(II)I" } : Jvm.MethodName)) ∈ gw := gw_t2 (List.mem_of_getElem? (i := 154) rfl) rfl
theorem wd_396 : (Jvm.Cond.instanceMethod ({ cls := "TermOrders$Term", name := "countInPlace", desc := "(II)I" } : Jvm.MethodName)) ∈ gw := gw_t2 (List.mem_of_getElem? (i := 156) rfl) rfl
theorem wd_397 : (Jvm.Cond.code ({ cls := "TermOrders$Term", name := "countInPlace", desc := "(II)I" } : Jvm.MethodName) prog_6_method_6_code (5 : Nat) (Option.some Jvm.ClassFile.FieldType.int)) ∈ gw := gw_t2 (List.mem_of_getElem? (i := 157) rfl) rfl
theorem wd_398 : (Jvm.Cond.stringRef "TermOrders" (110 : Nat) "a left term is no variable and has all variables of the right one") ∈ lw_tbl := tb_t2 (List.mem_of_getElem? (i := 158) rfl)
theorem wd_399 : (Jvm.Cond.stringRef "TermOrders" (113 : Nat) "there are eight rules") ∈ lw_tbl := tb_t2 (List.mem_of_getElem? (i := 159) rfl)
theorem wd_400 : (Jvm.Cond.methodLinkNest "TermOrders" (115 : Nat) ({ cls := "TermOrders$Rules", name := "add", desc := "(LTermOrders$Term;LTermOrders$Term;)I" } : Jvm.MethodName) "TermOrders") ∈ lw_tbl := tb_t2 (List.mem_of_getElem? (i := 160) rfl)
theorem wd_402 : (Jvm.Cond.instanceMethod ({ cls := "TermOrders$Rules", name := "add", desc := "(LTermOrders$Term;LTermOrders$Term;)I" } : Jvm.MethodName)) ∈ gw := gw_t2 (List.mem_of_getElem? (i := 162) rfl) rfl
theorem wd_403 : (Jvm.Cond.code ({ cls := "TermOrders$Rules", name := "add", desc := "(LTermOrders$Term;LTermOrders$Term;)I" } : Jvm.MethodName) prog_4_method_2_code (3 : Nat) (Option.some Jvm.ClassFile.FieldType.int)) ∈ gw := gw_t2 (List.mem_of_getElem? (i := 163) rfl) rfl
theorem wd_404 : (Jvm.Cond.methodLink "TermOrdersLaw" (86 : Nat) ({ cls := "TermOrdersLaw", name := "order", desc := "(LTermOrders;III)I" } : Jvm.MethodName)) ∈ gw := gw_t2 (List.mem_of_getElem? (i := 164) rfl) rfl
theorem wd_405 : (Jvm.Cond.static ({ cls := "TermOrdersLaw", name := "order", desc := "(LTermOrders;III)I" } : Jvm.MethodName)) ∈ gw := gw_t2 (List.mem_of_getElem? (i := 165) rfl) rfl
theorem wd_406 : (Jvm.Cond.codeWith ({ cls := "TermOrdersLaw", name := "order", desc := "(LTermOrders;III)I" } : Jvm.MethodName) method_7_code (5 : Nat) (Option.some Jvm.ClassFile.FieldType.int) [((0 : Nat), (7 : Nat), (10 : Nat), (13 : Nat))]) ∈ gw := gw_t2 (List.mem_of_getElem? (i := 166) rfl) rfl
theorem wd_407 : (Jvm.Cond.methodLink "TermOrdersLaw" (28 : Nat) ({ cls := "TermOrders", name := "order", desc := "(III)V" } : Jvm.MethodName)) ∈ gw := gw_t2 (List.mem_of_getElem? (i := 167) rfl) rfl
theorem wd_408 : (Jvm.Cond.instanceMethod ({ cls := "TermOrders", name := "order", desc := "(III)V" } : Jvm.MethodName)) ∈ gw := gw_t2 (List.mem_of_getElem? (i := 168) rfl) rfl
theorem wd_409 : (Jvm.Cond.selects "TermOrders" ({ cls := "TermOrders", name := "order", desc := "(III)V" } : Jvm.MethodName) ({ cls := "TermOrders", name := "order", desc := "(III)V" } : Jvm.MethodName)) ∈ gw := gw_t2 (List.mem_of_getElem? (i := 169) rfl) rfl
theorem wd_410 : (Jvm.Cond.code ({ cls := "TermOrders", name := "order", desc := "(III)V" } : Jvm.MethodName) prog_1_method_6_code (4 : Nat) (Option.none : Option Jvm.ClassFile.FieldType)) ∈ gw := gw_t2 (List.mem_of_getElem? (i := 170) rfl) rfl
theorem wd_411 : (Jvm.Cond.stringRef "TermOrders" (118 : Nat) "a rank is 0 .. 4") ∈ lw_tbl := tb_t2 (List.mem_of_getElem? (i := 171) rfl)
theorem wd_412 : (Jvm.Cond.stringRef "TermOrders" (120 : Nat) "a weight is 0 .. 9") ∈ lw_tbl := tb_t2 (List.mem_of_getElem? (i := 172) rfl)
theorem wd_413 : (Jvm.Cond.methodLink "TermOrdersLaw" (90 : Nat) ({ cls := "TermOrdersLaw", name := "rank", desc := "(LTermOrders;I[J)I" } : Jvm.MethodName)) ∈ gw := gw_t2 (List.mem_of_getElem? (i := 173) rfl) rfl
theorem wd_414 : (Jvm.Cond.static ({ cls := "TermOrdersLaw", name := "rank", desc := "(LTermOrders;I[J)I" } : Jvm.MethodName)) ∈ gw := gw_t2 (List.mem_of_getElem? (i := 174) rfl) rfl
theorem wd_415 : (Jvm.Cond.codeWith ({ cls := "TermOrdersLaw", name := "rank", desc := "(LTermOrders;I[J)I" } : Jvm.MethodName) method_8_code (4 : Nat) (Option.some Jvm.ClassFile.FieldType.int) [((0 : Nat), (9 : Nat), (12 : Nat), (13 : Nat))]) ∈ gw := gw_t2 (List.mem_of_getElem? (i := 175) rfl) rfl
theorem wd_416 : (Jvm.Cond.methodLink "TermOrdersLaw" (32 : Nat) ({ cls := "TermOrders", name := "rank", desc := "(I)I" } : Jvm.MethodName)) ∈ gw := gw_t2 (List.mem_of_getElem? (i := 176) rfl) rfl
theorem wd_417 : (Jvm.Cond.instanceMethod ({ cls := "TermOrders", name := "rank", desc := "(I)I" } : Jvm.MethodName)) ∈ gw := gw_t2 (List.mem_of_getElem? (i := 177) rfl) rfl
theorem wd_418 : (Jvm.Cond.selects "TermOrders" ({ cls := "TermOrders", name := "rank", desc := "(I)I" } : Jvm.MethodName) ({ cls := "TermOrders", name := "rank", desc := "(I)I" } : Jvm.MethodName)) ∈ gw := gw_t2 (List.mem_of_getElem? (i := 178) rfl) rfl
theorem wd_419 : (Jvm.Cond.code ({ cls := "TermOrders", name := "rank", desc := "(I)I" } : Jvm.MethodName) prog_1_method_7_code (2 : Nat) (Option.some Jvm.ClassFile.FieldType.int)) ∈ gw := gw_t2 (List.mem_of_getElem? (i := 179) rfl) rfl
theorem wd_420 : (Jvm.Cond.methodLink "TermOrdersLaw" (93 : Nat) ({ cls := "TermOrdersLaw", name := "greater", desc := "(LTermOrders;III[J)I" } : Jvm.MethodName)) ∈ gw := gw_t2 (List.mem_of_getElem? (i := 180) rfl) rfl
theorem wd_421 : (Jvm.Cond.static ({ cls := "TermOrdersLaw", name := "greater", desc := "(LTermOrders;III[J)I" } : Jvm.MethodName)) ∈ gw := gw_t2 (List.mem_of_getElem? (i := 181) rfl) rfl
theorem wd_422 : (Jvm.Cond.codeWith ({ cls := "TermOrdersLaw", name := "greater", desc := "(LTermOrders;III[J)I" } : Jvm.MethodName) method_9_code (6 : Nat) (Option.some Jvm.ClassFile.FieldType.int) [((0 : Nat), (19 : Nat), (22 : Nat), (13 : Nat))]) ∈ gw := gw_t2 (List.mem_of_getElem? (i := 182) rfl) rfl
theorem wd_423 : (Jvm.Cond.methodLink "TermOrdersLaw" (35 : Nat) ({ cls := "TermOrders", name := "greater", desc := "(III)Z" } : Jvm.MethodName)) ∈ gw := gw_t2 (List.mem_of_getElem? (i := 183) rfl) rfl
theorem wd_424 : (Jvm.Cond.instanceMethod ({ cls := "TermOrders", name := "greater", desc := "(III)Z" } : Jvm.MethodName)) ∈ gw := gw_t2 (List.mem_of_getElem? (i := 184) rfl) rfl
theorem wd_425 : (Jvm.Cond.selects "TermOrders" ({ cls := "TermOrders", name := "greater", desc := "(III)Z" } : Jvm.MethodName) ({ cls := "TermOrders", name := "greater", desc := "(III)Z" } : Jvm.MethodName)) ∈ gw := gw_t2 (List.mem_of_getElem? (i := 185) rfl) rfl
theorem wd_426 : (Jvm.Cond.code ({ cls := "TermOrders", name := "greater", desc := "(III)Z" } : Jvm.MethodName) prog_1_method_8_code (4 : Nat) (Option.some Jvm.ClassFile.FieldType.boolean)) ∈ gw := gw_t2 (List.mem_of_getElem? (i := 186) rfl) rfl
theorem wd_427 : (Jvm.Cond.methodLink "TermOrders" (128 : Nat) ({ cls := "TermOrders", name := "checkOrder", desc := "(I)V" } : Jvm.MethodName)) ∈ gw := gw_t2 (List.mem_of_getElem? (i := 187) rfl) rfl
theorem wd_429 : (Jvm.Cond.instanceMethod ({ cls := "TermOrders", name := "checkOrder", desc := "(I)V" } : Jvm.MethodName)) ∈ gw := gw_t2 (List.mem_of_getElem? (i := 189) rfl) rfl
theorem wd_430 : (Jvm.Cond.code ({ cls := "TermOrders", name := "checkOrder", desc := "(I)V" } : Jvm.MethodName) prog_1_method_18_code (2 : Nat) (Option.none : Option Jvm.ClassFile.FieldType)) ∈ gw := gw_t2 (List.mem_of_getElem? (i := 190) rfl) rfl
theorem wd_431 : (Jvm.Cond.stringRef "TermOrders" (187 : Nat) "the orders are 0 and 1") ∈ lw_tbl := tb_t2 (List.mem_of_getElem? (i := 191) rfl)
theorem wd_432 : (Jvm.Cond.methodLinkNest "TermOrders" (131 : Nat) ({ cls := "TermOrders$Orders", name := "isGreater", desc := "(ILTermOrders$Term;LTermOrders$Term;)Z" } : Jvm.MethodName) "TermOrders") ∈ lw_tbl := tb_t2 (List.mem_of_getElem? (i := 192) rfl)
theorem wd_434 : (Jvm.Cond.instanceMethod ({ cls := "TermOrders$Orders", name := "isGreater", desc := "(ILTermOrders$Term;LTermOrders$Term;)Z" } : Jvm.MethodName)) ∈ gw := gw_t2 (List.mem_of_getElem? (i := 194) rfl) rfl
theorem wd_435 : (Jvm.Cond.code ({ cls := "TermOrders$Orders", name := "isGreater", desc := "(ILTermOrders$Term;LTermOrders$Term;)Z" } : Jvm.MethodName) prog_3_method_2_code (4 : Nat) (Option.some Jvm.ClassFile.FieldType.boolean)) ∈ gw := gw_t2 (List.mem_of_getElem? (i := 195) rfl) rfl
theorem wd_436 : (Jvm.Cond.methodLink "TermOrders$Orders" (19 : Nat) ({ cls := "TermOrders$Orders", name := "isGreaterByPaths", desc := "(LTermOrders$Term;LTermOrders$Term;)Z" } : Jvm.MethodName)) ∈ gw := gw_t2 (List.mem_of_getElem? (i := 196) rfl) rfl
theorem wd_438 : (Jvm.Cond.instanceMethod ({ cls := "TermOrders$Orders", name := "isGreaterByPaths", desc := "(LTermOrders$Term;LTermOrders$Term;)Z" } : Jvm.MethodName)) ∈ gw := gw_t2 (List.mem_of_getElem? (i := 198) rfl) rfl
theorem wd_439 : (Jvm.Cond.code ({ cls := "TermOrders$Orders", name := "isGreaterByPaths", desc := "(LTermOrders$Term;LTermOrders$Term;)Z" } : Jvm.MethodName) prog_3_method_3_code (5 : Nat) (Option.some Jvm.ClassFile.FieldType.boolean)) ∈ gw := gw_t2 (List.mem_of_getElem? (i := 199) rfl) rfl
theorem wd_440 : (Jvm.Cond.methodLink "TermOrders$Orders" (32 : Nat) ({ cls := "TermOrders$Orders", name := "isPlaceGreaterByPaths", desc := "(LTermOrders$Term;ILTermOrders$Term;I)Z" } : Jvm.MethodName)) ∈ gw := gw_t2 (List.mem_of_getElem? (i := 200) rfl) rfl
theorem wd_442 : (Jvm.Cond.instanceMethod ({ cls := "TermOrders$Orders", name := "isPlaceGreaterByPaths", desc := "(LTermOrders$Term;ILTermOrders$Term;I)Z" } : Jvm.MethodName)) ∈ gw := gw_t2 (List.mem_of_getElem? (i := 202) rfl) rfl
theorem wd_443 : (Jvm.Cond.code ({ cls := "TermOrders$Orders", name := "isPlaceGreaterByPaths", desc := "(LTermOrders$Term;ILTermOrders$Term;I)Z" } : Jvm.MethodName) prog_3_method_4_code (6 : Nat) (Option.some Jvm.ClassFile.FieldType.boolean)) ∈ gw := gw_t2 (List.mem_of_getElem? (i := 203) rfl) rfl
theorem wd_444 : (Jvm.Cond.methodLink "TermOrders$Orders" (36 : Nat) ({ cls := "TermOrders$Orders", name := "hasPartNotBelow", desc := "(LTermOrders$Term;ILTermOrders$Term;I)Z" } : Jvm.MethodName)) ∈ gw := gw_t2 (List.mem_of_getElem? (i := 204) rfl) rfl
theorem wd_446 : (Jvm.Cond.instanceMethod ({ cls := "TermOrders$Orders", name := "hasPartNotBelow", desc := "(LTermOrders$Term;ILTermOrders$Term;I)Z" } : Jvm.MethodName)) ∈ gw := gw_t2 (List.mem_of_getElem? (i := 206) rfl) rfl
theorem wd_447 : (Jvm.Cond.code ({ cls := "TermOrders$Orders", name := "hasPartNotBelow", desc := "(LTermOrders$Term;ILTermOrders$Term;I)Z" } : Jvm.MethodName) prog_3_method_5_code (7 : Nat) (Option.some Jvm.ClassFile.FieldType.boolean)) ∈ gw := gw_t2 (List.mem_of_getElem? (i := 207) rfl) rfl
theorem wd_448 : (Jvm.Cond.methodLinkNest "TermOrders$Orders" (61 : Nat) ({ cls := "TermOrders$Term", name := "partOf", desc := "(II)I" } : Jvm.MethodName) "TermOrders") ∈ lw_tbl := tb_t2 (List.mem_of_getElem? (i := 208) rfl)
theorem wd_450 : (Jvm.Cond.instanceMethod ({ cls := "TermOrders$Term", name := "partOf", desc := "(II)I" } : Jvm.MethodName)) ∈ gw := gw_t2 (List.mem_of_getElem? (i := 210) rfl) rfl
theorem wd_451 : (Jvm.Cond.code ({ cls := "TermOrders$Term", name := "partOf", desc := "(II)I" } : Jvm.MethodName) prog_6_method_3_code (5 : Nat) (Option.some Jvm.ClassFile.FieldType.int)) ∈ gw := gw_t2 (List.mem_of_getElem? (i := 211) rfl) rfl
theorem wd_452 : (Jvm.Cond.methodLinkNest "TermOrders$Orders" (68 : Nat) ({ cls := "TermOrders$Term", name := "isSamePlace", desc := "(ILTermOrders$Term;I)Z" } : Jvm.MethodName) "TermOrders") ∈ lw_tbl := tb_t2 (List.mem_of_getElem? (i := 212) rfl)
theorem wd_454 : (Jvm.Cond.instanceMethod ({ cls := "TermOrders$Term", name := "isSamePlace", desc := "(ILTermOrders$Term;I)Z" } : Jvm.MethodName)) ∈ gw := gw_t2 (List.mem_of_getElem? (i := 214) rfl) rfl
theorem wd_455 : (Jvm.Cond.code ({ cls := "TermOrders$Term", name := "isSamePlace", desc := "(ILTermOrders$Term;I)Z" } : Jvm.MethodName) prog_6_method_4_code (6 : Nat) (Option.some Jvm.ClassFile.FieldType.boolean)) ∈ gw := gw_t2 (List.mem_of_getElem? (i := 215) rfl) rfl
theorem wd_456 : (Jvm.Cond.methodLinkNest "TermOrders$Orders" (39 : Nat) ({ cls := "TermOrders$Term", name := "isVariable", desc := "(I)Z" } : Jvm.MethodName) "TermOrders") ∈ lw_tbl := tb_t2 (List.mem_of_getElem? (i := 216) rfl)
theorem wd_457 : (Jvm.Cond.methodLink "TermOrders$Orders" (43 : Nat) ({ cls := "TermOrders$Orders", name := "isGreaterThanParts", desc := "(ILTermOrders$Term;I)Z" } : Jvm.MethodName)) ∈ gw := gw_t2 (List.mem_of_getElem? (i := 217) rfl) rfl
theorem wd_459 : (Jvm.Cond.instanceMethod ({ cls := "TermOrders$Orders", name := "isGreaterThanParts", desc := "(ILTermOrders$Term;I)Z" } : Jvm.MethodName)) ∈ gw := gw_t2 (List.mem_of_getElem? (i := 219) rfl) rfl
theorem wd_460 : (Jvm.Cond.code ({ cls := "TermOrders$Orders", name := "isGreaterThanParts", desc := "(ILTermOrders$Term;I)Z" } : Jvm.MethodName) prog_3_method_6_code (5 : Nat) (Option.some Jvm.ClassFile.FieldType.boolean)) ∈ gw := gw_t2 (List.mem_of_getElem? (i := 220) rfl) rfl
theorem wd_461 : (Jvm.Cond.methodLinkNest "TermOrders$Orders" (51 : Nat) ({ cls := "TermOrders$Symbols", name := "isAbove", desc := "(II)Z" } : Jvm.MethodName) "TermOrders") ∈ lw_tbl := tb_t2 (List.mem_of_getElem? (i := 221) rfl)
theorem wd_462 : (Jvm.Cond.methodLinkNest "TermOrders$Orders" (57 : Nat) ({ cls := "TermOrders$Term", name := "firstOtherPart", desc := "(ILTermOrders$Term;I)I" } : Jvm.MethodName) "TermOrders") ∈ lw_tbl := tb_t2 (List.mem_of_getElem? (i := 222) rfl)
theorem wd_464 : (Jvm.Cond.instanceMethod ({ cls := "TermOrders$Term", name := "firstOtherPart", desc := "(ILTermOrders$Term;I)I" } : Jvm.MethodName)) ∈ gw := gw_t2 (List.mem_of_getElem? (i := 224) rfl) rfl
theorem wd_465 : (Jvm.Cond.code ({ cls := "TermOrders$Term", name := "firstOtherPart", desc := "(ILTermOrders$Term;I)I" } : Jvm.MethodName) prog_6_method_5_code (5 : Nat) (Option.some Jvm.ClassFile.FieldType.int)) ∈ gw := gw_t2 (List.mem_of_getElem? (i := 225) rfl) rfl
theorem wd_466 : (Jvm.Cond.methodLink "TermOrders$Term" (28 : Nat) ({ cls := "TermOrders$Term", name := "partOf", desc := "(II)I" } : Jvm.MethodName)) ∈ gw := gw_t2 (List.mem_of_getElem? (i := 226) rfl) rfl
theorem wd_467 : (Jvm.Cond.methodLink "TermOrders$Term" (32 : Nat) ({ cls := "TermOrders$Term", name := "isSamePlace", desc := "(ILTermOrders$Term;I)Z" } : Jvm.MethodName)) ∈ gw := gw_t2 (List.mem_of_getElem? (i := 227) rfl) rfl
theorem wd_468 : (Jvm.Cond.methodLink "TermOrders$Orders" (23 : Nat) ({ cls := "TermOrders$Orders", name := "isGreaterByWeights", desc := "(LTermOrders$Term;LTermOrders$Term;)Z" } : Jvm.MethodName)) ∈ gw := gw_t2 (List.mem_of_getElem? (i := 228) rfl) rfl
theorem wd_470 : (Jvm.Cond.instanceMethod ({ cls := "TermOrders$Orders", name := "isGreaterByWeights", desc := "(LTermOrders$Term;LTermOrders$Term;)Z" } : Jvm.MethodName)) ∈ gw := gw_t2 (List.mem_of_getElem? (i := 230) rfl) rfl
theorem wd_471 : (Jvm.Cond.code ({ cls := "TermOrders$Orders", name := "isGreaterByWeights", desc := "(LTermOrders$Term;LTermOrders$Term;)Z" } : Jvm.MethodName) prog_3_method_7_code (9 : Nat) (Option.some Jvm.ClassFile.FieldType.boolean)) ∈ gw := gw_t2 (List.mem_of_getElem? (i := 231) rfl) rfl
theorem wd_472 : (Jvm.Cond.methodLinkNest "TermOrders$Orders" (71 : Nat) ({ cls := "TermOrders$Term", name := "hasEachVariableAsOften", desc := "(ILTermOrders$Term;I)Z" } : Jvm.MethodName) "TermOrders") ∈ lw_tbl := tb_t2 (List.mem_of_getElem? (i := 232) rfl)
theorem wd_474 : (Jvm.Cond.instanceMethod ({ cls := "TermOrders$Term", name := "hasEachVariableAsOften", desc := "(ILTermOrders$Term;I)Z" } : Jvm.MethodName)) ∈ gw := gw_t2 (List.mem_of_getElem? (i := 234) rfl) rfl
theorem wd_475 : (Jvm.Cond.code ({ cls := "TermOrders$Term", name := "hasEachVariableAsOften", desc := "(ILTermOrders$Term;I)Z" } : Jvm.MethodName) prog_6_method_8_code (5 : Nat) (Option.some Jvm.ClassFile.FieldType.boolean)) ∈ gw := gw_t2 (List.mem_of_getElem? (i := 235) rfl) rfl
theorem wd_476 : (Jvm.Cond.methodLinkNest "TermOrders$Orders" (74 : Nat) ({ cls := "TermOrders$Symbols", name := "weightOfPlace", desc := "(LTermOrders$Term;I)I" } : Jvm.MethodName) "TermOrders") ∈ lw_tbl := tb_t2 (List.mem_of_getElem? (i := 236) rfl)
theorem wd_478 : (Jvm.Cond.instanceMethod ({ cls := "TermOrders$Symbols", name := "weightOfPlace", desc := "(LTermOrders$Term;I)I" } : Jvm.MethodName)) ∈ gw := gw_t2 (List.mem_of_getElem? (i := 238) rfl) rfl
theorem wd_479 : (Jvm.Cond.code ({ cls := "TermOrders$Symbols", name := "weightOfPlace", desc := "(LTermOrders$Term;I)I" } : Jvm.MethodName) prog_5_method_14_code (5 : Nat) (Option.some Jvm.ClassFile.FieldType.int)) ∈ gw := gw_t2 (List.mem_of_getElem? (i := 239) rfl) rfl
theorem wd_480 : (Jvm.Cond.methodLinkNest "TermOrders$Symbols" (62 : Nat) ({ cls := "TermOrders$Term", name := "isVariable", desc := "(I)Z" } : Jvm.MethodName) "TermOrders") ∈ lw_tbl := tb_t3 (List.mem_of_getElem? (i := 0) rfl)
theorem wd_481 : (Jvm.Cond.methodLinkNest "TermOrders$Orders" (78 : Nat) ({ cls := "TermOrders$Term", name := "isVariableWithin", desc := "(II)Z" } : Jvm.MethodName) "TermOrders") ∈ lw_tbl := tb_t3 (List.mem_of_getElem? (i := 1) rfl)
theorem wd_483 : (Jvm.Cond.instanceMethod ({ cls := "TermOrders$Term", name := "isVariableWithin", desc := "(II)Z" } : Jvm.MethodName)) ∈ gw := gw_t3 (List.mem_of_getElem? (i := 3) rfl) rfl
theorem wd_484 : (Jvm.Cond.code ({ cls := "TermOrders$Term", name := "isVariableWithin", desc := "(II)Z" } : Jvm.MethodName) prog_6_method_9_code (5 : Nat) (Option.some Jvm.ClassFile.FieldType.boolean)) ∈ gw := gw_t3 (List.mem_of_getElem? (i := 4) rfl) rfl
theorem wd_485 : (Jvm.Cond.methodLink "TermOrdersLaw" (97 : Nat) ({ cls := "TermOrdersLaw", name := "same", desc := "(LTermOrders;II[J)I" } : Jvm.MethodName)) ∈ gw := gw_t3 (List.mem_of_getElem? (i := 5) rfl) rfl
theorem wd_486 : (Jvm.Cond.static ({ cls := "TermOrdersLaw", name := "same", desc := "(LTermOrders;II[J)I" } : Jvm.MethodName)) ∈ gw := gw_t3 (List.mem_of_getElem? (i := 6) rfl) rfl
theorem wd_487 : (Jvm.Cond.codeWith ({ cls := "TermOrdersLaw", name := "same", desc := "(LTermOrders;II[J)I" } : Jvm.MethodName) method_10_code (5 : Nat) (Option.some Jvm.ClassFile.FieldType.int) [((0 : Nat), (17 : Nat), (20 : Nat), (13 : Nat))]) ∈ gw := gw_t3 (List.mem_of_getElem? (i := 7) rfl) rfl
theorem wd_488 : (Jvm.Cond.methodLink "TermOrdersLaw" (39 : Nat) ({ cls := "TermOrders", name := "same", desc := "(II)Z" } : Jvm.MethodName)) ∈ gw := gw_t3 (List.mem_of_getElem? (i := 8) rfl) rfl
theorem wd_489 : (Jvm.Cond.instanceMethod ({ cls := "TermOrders", name := "same", desc := "(II)Z" } : Jvm.MethodName)) ∈ gw := gw_t3 (List.mem_of_getElem? (i := 9) rfl) rfl
theorem wd_490 : (Jvm.Cond.selects "TermOrders" ({ cls := "TermOrders", name := "same", desc := "(II)Z" } : Jvm.MethodName) ({ cls := "TermOrders", name := "same", desc := "(II)Z" } : Jvm.MethodName)) ∈ gw := gw_t3 (List.mem_of_getElem? (i := 10) rfl) rfl
theorem wd_491 : (Jvm.Cond.code ({ cls := "TermOrders", name := "same", desc := "(II)Z" } : Jvm.MethodName) prog_1_method_9_code (3 : Nat) (Option.some Jvm.ClassFile.FieldType.boolean)) ∈ gw := gw_t3 (List.mem_of_getElem? (i := 11) rfl) rfl
theorem wd_492 : (Jvm.Cond.methodLinkNest "TermOrders" (135 : Nat) ({ cls := "TermOrders$Term", name := "isSamePlace", desc := "(ILTermOrders$Term;I)Z" } : Jvm.MethodName) "TermOrders") ∈ lw_tbl := tb_t3 (List.mem_of_getElem? (i := 12) rfl)
theorem wd_493 : (Jvm.Cond.methodLink "TermOrdersLaw" (105 : Nat) ({ cls := "TermOrdersLaw", name := "oriented", desc := "(LTermOrders;I[J)I" } : Jvm.MethodName)) ∈ gw := gw_t3 (List.mem_of_getElem? (i := 13) rfl) rfl
theorem wd_494 : (Jvm.Cond.static ({ cls := "TermOrdersLaw", name := "oriented", desc := "(LTermOrders;I[J)I" } : Jvm.MethodName)) ∈ gw := gw_t3 (List.mem_of_getElem? (i := 14) rfl) rfl
theorem wd_495 : (Jvm.Cond.codeWith ({ cls := "TermOrdersLaw", name := "oriented", desc := "(LTermOrders;I[J)I" } : Jvm.MethodName) method_11_code (4 : Nat) (Option.some Jvm.ClassFile.FieldType.int) [((0 : Nat), (9 : Nat), (12 : Nat), (13 : Nat))]) ∈ gw := gw_t3 (List.mem_of_getElem? (i := 15) rfl) rfl
theorem wd_496 : (Jvm.Cond.methodLink "TermOrdersLaw" (43 : Nat) ({ cls := "TermOrders", name := "oriented", desc := "(I)I" } : Jvm.MethodName)) ∈ gw := gw_t3 (List.mem_of_getElem? (i := 16) rfl) rfl
theorem wd_497 : (Jvm.Cond.instanceMethod ({ cls := "TermOrders", name := "oriented", desc := "(I)I" } : Jvm.MethodName)) ∈ gw := gw_t3 (List.mem_of_getElem? (i := 17) rfl) rfl
theorem wd_498 : (Jvm.Cond.selects "TermOrders" ({ cls := "TermOrders", name := "oriented", desc := "(I)I" } : Jvm.MethodName) ({ cls := "TermOrders", name := "oriented", desc := "(I)I" } : Jvm.MethodName)) ∈ gw := gw_t3 (List.mem_of_getElem? (i := 18) rfl) rfl
theorem wd_499 : (Jvm.Cond.code ({ cls := "TermOrders", name := "oriented", desc := "(I)I" } : Jvm.MethodName) prog_1_method_11_code (4 : Nat) (Option.some Jvm.ClassFile.FieldType.int)) ∈ gw := gw_t3 (List.mem_of_getElem? (i := 19) rfl) rfl
theorem wd_500 : (Jvm.Cond.methodLink "TermOrdersLaw" (108 : Nat) ({ cls := "TermOrdersLaw", name := "search", desc := "(LTermOrders;I[J)I" } : Jvm.MethodName)) ∈ gw := gw_t3 (List.mem_of_getElem? (i := 20) rfl) rfl
theorem wd_501 : (Jvm.Cond.static ({ cls := "TermOrdersLaw", name := "search", desc := "(LTermOrders;I[J)I" } : Jvm.MethodName)) ∈ gw := gw_t3 (List.mem_of_getElem? (i := 21) rfl) rfl
theorem wd_502 : (Jvm.Cond.codeWith ({ cls := "TermOrdersLaw", name := "search", desc := "(LTermOrders;I[J)I" } : Jvm.MethodName) method_12_code (4 : Nat) (Option.some Jvm.ClassFile.FieldType.int) [((0 : Nat), (16 : Nat), (19 : Nat), (13 : Nat))]) ∈ gw := gw_t3 (List.mem_of_getElem? (i := 22) rfl) rfl
theorem wd_503 : (Jvm.Cond.methodLink "TermOrdersLaw" (46 : Nat) ({ cls := "TermOrders", name := "search", desc := "(I)Z" } : Jvm.MethodName)) ∈ gw := gw_t3 (List.mem_of_getElem? (i := 23) rfl) rfl
theorem wd_504 : (Jvm.Cond.instanceMethod ({ cls := "TermOrders", name := "search", desc := "(I)Z" } : Jvm.MethodName)) ∈ gw := gw_t3 (List.mem_of_getElem? (i := 24) rfl) rfl
theorem wd_505 : (Jvm.Cond.selects "TermOrders" ({ cls := "TermOrders", name := "search", desc := "(I)Z" } : Jvm.MethodName) ({ cls := "TermOrders", name := "search", desc := "(I)Z" } : Jvm.MethodName)) ∈ gw := gw_t3 (List.mem_of_getElem? (i := 25) rfl) rfl
theorem wd_506 : (Jvm.Cond.code ({ cls := "TermOrders", name := "search", desc := "(I)Z" } : Jvm.MethodName) prog_1_method_12_code (4 : Nat) (Option.some Jvm.ClassFile.FieldType.boolean)) ∈ gw := gw_t3 (List.mem_of_getElem? (i := 26) rfl) rfl
theorem wd_507 : (Jvm.Cond.methodLinkNest "TermOrders" (149 : Nat) ({ cls := "TermOrders$Symbols", name := "saveRanks", desc := "()V" } : Jvm.MethodName) "TermOrders") ∈ lw_tbl := tb_t3 (List.mem_of_getElem? (i := 27) rfl)
theorem wd_509 : (Jvm.Cond.instanceMethod ({ cls := "TermOrders$Symbols", name := "saveRanks", desc := "()V" } : Jvm.MethodName)) ∈ gw := gw_t3 (List.mem_of_getElem? (i := 29) rfl) rfl
theorem wd_510 : (Jvm.Cond.code ({ cls := "TermOrders$Symbols", name := "saveRanks", desc := "()V" } : Jvm.MethodName) prog_5_method_3_code (1 : Nat) (Option.none : Option Jvm.ClassFile.FieldType)) ∈ gw := gw_t3 (List.mem_of_getElem? (i := 30) rfl) rfl
theorem wd_511 : (Jvm.Cond.methodLink "TermOrders$Symbols" (28 : Nat) ({ cls := "java/lang/System", name := "arraycopy", desc := "(Ljava/lang/Object;ILjava/lang/Object;II)V" } : Jvm.MethodName)) ∈ gw := gw_t3 (List.mem_of_getElem? (i := 31) rfl) rfl
theorem wd_512 : (Jvm.Cond.methodLinkNest "TermOrders" (152 : Nat) ({ cls := "TermOrders$Symbols", name := "takeFirstRanks", desc := "()V" } : Jvm.MethodName) "TermOrders") ∈ lw_tbl := tb_t3 (List.mem_of_getElem? (i := 32) rfl)
theorem wd_514 : (Jvm.Cond.instanceMethod ({ cls := "TermOrders$Symbols", name := "takeFirstRanks", desc := "()V" } : Jvm.MethodName)) ∈ gw := gw_t3 (List.mem_of_getElem? (i := 34) rfl) rfl
theorem wd_515 : (Jvm.Cond.code ({ cls := "TermOrders$Symbols", name := "takeFirstRanks", desc := "()V" } : Jvm.MethodName) prog_5_method_5_code (2 : Nat) (Option.none : Option Jvm.ClassFile.FieldType)) ∈ gw := gw_t3 (List.mem_of_getElem? (i := 35) rfl) rfl
theorem wd_516 : (Jvm.Cond.methodLink "TermOrders" (155 : Nat) ({ cls := "TermOrders", name := "isOrientedAsDue", desc := "(I)Z" } : Jvm.MethodName)) ∈ gw := gw_t3 (List.mem_of_getElem? (i := 36) rfl) rfl
theorem wd_518 : (Jvm.Cond.instanceMethod ({ cls := "TermOrders", name := "isOrientedAsDue", desc := "(I)Z" } : Jvm.MethodName)) ∈ gw := gw_t3 (List.mem_of_getElem? (i := 38) rfl) rfl
theorem wd_519 : (Jvm.Cond.code ({ cls := "TermOrders", name := "isOrientedAsDue", desc := "(I)Z" } : Jvm.MethodName) prog_1_method_21_code (3 : Nat) (Option.some Jvm.ClassFile.FieldType.boolean)) ∈ gw := gw_t3 (List.mem_of_getElem? (i := 39) rfl) rfl
theorem wd_520 : (Jvm.Cond.methodLinkNest "TermOrders" (158 : Nat) ({ cls := "TermOrders$Symbols", name := "takeNextRanks", desc := "()Z" } : Jvm.MethodName) "TermOrders") ∈ lw_tbl := tb_t3 (List.mem_of_getElem? (i := 40) rfl)
theorem wd_522 : (Jvm.Cond.instanceMethod ({ cls := "TermOrders$Symbols", name := "takeNextRanks", desc := "()Z" } : Jvm.MethodName)) ∈ gw := gw_t3 (List.mem_of_getElem? (i := 42) rfl) rfl
theorem wd_523 : (Jvm.Cond.code ({ cls := "TermOrders$Symbols", name := "takeNextRanks", desc := "()Z" } : Jvm.MethodName) prog_5_method_6_code (4 : Nat) (Option.some Jvm.ClassFile.FieldType.boolean)) ∈ gw := gw_t3 (List.mem_of_getElem? (i := 43) rfl) rfl
theorem wd_524 : (Jvm.Cond.methodLink "TermOrders$Symbols" (34 : Nat) ({ cls := "TermOrders$Symbols", name := "lastBelowItsNext", desc := "()I" } : Jvm.MethodName)) ∈ gw := gw_t3 (List.mem_of_getElem? (i := 44) rfl) rfl
theorem wd_526 : (Jvm.Cond.instanceMethod ({ cls := "TermOrders$Symbols", name := "lastBelowItsNext", desc := "()I" } : Jvm.MethodName)) ∈ gw := gw_t3 (List.mem_of_getElem? (i := 46) rfl) rfl
theorem wd_527 : (Jvm.Cond.code ({ cls := "TermOrders$Symbols", name := "lastBelowItsNext", desc := "()I" } : Jvm.MethodName) prog_5_method_7_code (2 : Nat) (Option.some Jvm.ClassFile.FieldType.int)) ∈ gw := gw_t3 (List.mem_of_getElem? (i := 47) rfl) rfl
theorem wd_528 : (Jvm.Cond.methodLink "TermOrders$Symbols" (38 : Nat) ({ cls := "TermOrders$Symbols", name := "lastAbove", desc := "(I)I" } : Jvm.MethodName)) ∈ gw := gw_t3 (List.mem_of_getElem? (i := 48) rfl) rfl
theorem wd_530 : (Jvm.Cond.instanceMethod ({ cls := "TermOrders$Symbols", name := "lastAbove", desc := "(I)I" } : Jvm.MethodName)) ∈ gw := gw_t3 (List.mem_of_getElem? (i := 50) rfl) rfl
theorem wd_531 : (Jvm.Cond.code ({ cls := "TermOrders$Symbols", name := "lastAbove", desc := "(I)I" } : Jvm.MethodName) prog_5_method_8_code (3 : Nat) (Option.some Jvm.ClassFile.FieldType.int)) ∈ gw := gw_t3 (List.mem_of_getElem? (i := 51) rfl) rfl
theorem wd_532 : (Jvm.Cond.methodLink "TermOrders$Symbols" (42 : Nat) ({ cls := "TermOrders$Symbols", name := "swapRanks", desc := "(II)V" } : Jvm.MethodName)) ∈ gw := gw_t3 (List.mem_of_getElem? (i := 52) rfl) rfl
theorem wd_534 : (Jvm.Cond.instanceMethod ({ cls := "TermOrders$Symbols", name := "swapRanks", desc := "(II)V" } : Jvm.MethodName)) ∈ gw := gw_t3 (List.mem_of_getElem? (i := 54) rfl) rfl
theorem wd_535 : (Jvm.Cond.code ({ cls := "TermOrders$Symbols", name := "swapRanks", desc := "(II)V" } : Jvm.MethodName) prog_5_method_9_code (4 : Nat) (Option.none : Option Jvm.ClassFile.FieldType)) ∈ gw := gw_t3 (List.mem_of_getElem? (i := 55) rfl) rfl
theorem wd_536 : (Jvm.Cond.methodLinkNest "TermOrders" (161 : Nat) ({ cls := "TermOrders$Symbols", name := "restoreRanks", desc := "()V" } : Jvm.MethodName) "TermOrders") ∈ lw_tbl := tb_t3 (List.mem_of_getElem? (i := 56) rfl)
theorem wd_538 : (Jvm.Cond.instanceMethod ({ cls := "TermOrders$Symbols", name := "restoreRanks", desc := "()V" } : Jvm.MethodName)) ∈ gw := gw_t3 (List.mem_of_getElem? (i := 58) rfl) rfl
theorem wd_539 : (Jvm.Cond.code ({ cls := "TermOrders$Symbols", name := "restoreRanks", desc := "()V" } : Jvm.MethodName) prog_5_method_4_code (1 : Nat) (Option.none : Option Jvm.ClassFile.FieldType)) ∈ gw := gw_t3 (List.mem_of_getElem? (i := 59) rfl) rfl
theorem wd_540 : (Jvm.Cond.methodLink "TermOrdersLaw" (111 : Nat) ({ cls := "TermOrdersLaw", name := "step", desc := "(LTermOrders;I[J)I" } : Jvm.MethodName)) ∈ gw := gw_t3 (List.mem_of_getElem? (i := 60) rfl) rfl
theorem wd_541 : (Jvm.Cond.static ({ cls := "TermOrdersLaw", name := "step", desc := "(LTermOrders;I[J)I" } : Jvm.MethodName)) ∈ gw := gw_t3 (List.mem_of_getElem? (i := 61) rfl) rfl
theorem wd_542 : (Jvm.Cond.codeWith ({ cls := "TermOrdersLaw", name := "step", desc := "(LTermOrders;I[J)I" } : Jvm.MethodName) method_13_code (4 : Nat) (Option.some Jvm.ClassFile.FieldType.int) [((0 : Nat), (9 : Nat), (12 : Nat), (13 : Nat)), ((0 : Nat), (9 : Nat), (15 : Nat), (15 : Nat))]) ∈ gw := gw_t3 (List.mem_of_getElem? (i := 62) rfl) rfl
theorem wd_543 : (Jvm.Cond.methodLink "TermOrdersLaw" (50 : Nat) ({ cls := "TermOrders", name := "step", desc := "(I)I" } : Jvm.MethodName)) ∈ gw := gw_t3 (List.mem_of_getElem? (i := 63) rfl) rfl
theorem wd_544 : (Jvm.Cond.instanceMethod ({ cls := "TermOrders", name := "step", desc := "(I)I" } : Jvm.MethodName)) ∈ gw := gw_t3 (List.mem_of_getElem? (i := 64) rfl) rfl
theorem wd_545 : (Jvm.Cond.selects "TermOrders" ({ cls := "TermOrders", name := "step", desc := "(I)I" } : Jvm.MethodName) ({ cls := "TermOrders", name := "step", desc := "(I)I" } : Jvm.MethodName)) ∈ gw := gw_t3 (List.mem_of_getElem? (i := 65) rfl) rfl
theorem wd_546 : (Jvm.Cond.code ({ cls := "TermOrders", name := "step", desc := "(I)I" } : Jvm.MethodName) prog_1_method_13_code (3 : Nat) (Option.some Jvm.ClassFile.FieldType.int)) ∈ gw := gw_t3 (List.mem_of_getElem? (i := 66) rfl) rfl
theorem wd_547 : (Jvm.Cond.methodLinkNest "TermOrders" (164 : Nat) ({ cls := "TermOrders$Rules", name := "writeStep", desc := "(LTermOrders$Term;LTermOrders$Draft;)Z" } : Jvm.MethodName) "TermOrders") ∈ lw_tbl := tb_t3 (List.mem_of_getElem? (i := 67) rfl)
theorem wd_549 : (Jvm.Cond.instanceMethod ({ cls := "TermOrders$Rules", name := "writeStep", desc := "(LTermOrders$Term;LTermOrders$Draft;)Z" } : Jvm.MethodName)) ∈ gw := gw_t3 (List.mem_of_getElem? (i := 69) rfl) rfl
theorem wd_550 : (Jvm.Cond.code ({ cls := "TermOrders$Rules", name := "writeStep", desc := "(LTermOrders$Term;LTermOrders$Draft;)Z" } : Jvm.MethodName) prog_4_method_7_code (5 : Nat) (Option.some Jvm.ClassFile.FieldType.boolean)) ∈ gw := gw_t3 (List.mem_of_getElem? (i := 70) rfl) rfl
theorem wd_551 : (Jvm.Cond.methodLink "TermOrders$Rules" (62 : Nat) ({ cls := "TermOrders$Rules", name := "firstInnermostPlace", desc := "(LTermOrders$Term;)I" } : Jvm.MethodName)) ∈ gw := gw_t3 (List.mem_of_getElem? (i := 71) rfl) rfl
theorem wd_553 : (Jvm.Cond.instanceMethod ({ cls := "TermOrders$Rules", name := "firstInnermostPlace", desc := "(LTermOrders$Term;)I" } : Jvm.MethodName)) ∈ gw := gw_t3 (List.mem_of_getElem? (i := 73) rfl) rfl
theorem wd_554 : (Jvm.Cond.code ({ cls := "TermOrders$Rules", name := "firstInnermostPlace", desc := "(LTermOrders$Term;)I" } : Jvm.MethodName) prog_4_method_3_code (5 : Nat) (Option.some Jvm.ClassFile.FieldType.int)) ∈ gw := gw_t3 (List.mem_of_getElem? (i := 74) rfl) rfl
theorem wd_555 : (Jvm.Cond.methodLink "TermOrders$Rules" (31 : Nat) ({ cls := "TermOrders$Rules", name := "leastMatchingRule", desc := "(LTermOrders$Term;I)I" } : Jvm.MethodName)) ∈ gw := gw_t3 (List.mem_of_getElem? (i := 75) rfl) rfl
theorem wd_557 : (Jvm.Cond.instanceMethod ({ cls := "TermOrders$Rules", name := "leastMatchingRule", desc := "(LTermOrders$Term;I)I" } : Jvm.MethodName)) ∈ gw := gw_t3 (List.mem_of_getElem? (i := 77) rfl) rfl
theorem wd_558 : (Jvm.Cond.code ({ cls := "TermOrders$Rules", name := "leastMatchingRule", desc := "(LTermOrders$Term;I)I" } : Jvm.MethodName) prog_4_method_4_code (4 : Nat) (Option.some Jvm.ClassFile.FieldType.int)) ∈ gw := gw_t3 (List.mem_of_getElem? (i := 78) rfl) rfl
theorem wd_559 : (Jvm.Cond.methodLink "TermOrders$Rules" (38 : Nat) ({ cls := "TermOrders$Rules", name := "bindMatch", desc := "(LTermOrders$Term;LTermOrders$Term;I)Z" } : Jvm.MethodName)) ∈ gw := gw_t3 (List.mem_of_getElem? (i := 79) rfl) rfl
theorem wd_561 : (Jvm.Cond.instanceMethod ({ cls := "TermOrders$Rules", name := "bindMatch", desc := "(LTermOrders$Term;LTermOrders$Term;I)Z" } : Jvm.MethodName)) ∈ gw := gw_t3 (List.mem_of_getElem? (i := 81) rfl) rfl
theorem wd_562 : (Jvm.Cond.code ({ cls := "TermOrders$Rules", name := "bindMatch", desc := "(LTermOrders$Term;LTermOrders$Term;I)Z" } : Jvm.MethodName) prog_4_method_5_code (6 : Nat) (Option.some Jvm.ClassFile.FieldType.boolean)) ∈ gw := gw_t3 (List.mem_of_getElem? (i := 82) rfl) rfl
theorem wd_563 : (Jvm.Cond.methodLink "TermOrders$Rules" (42 : Nat) ({ cls := "java/util/Arrays", name := "fill", desc := "([II)V" } : Jvm.MethodName)) ∈ gw := gw_t3 (List.mem_of_getElem? (i := 83) rfl) rfl
theorem wd_564 : (Jvm.Cond.static ({ cls := "java/util/Arrays", name := "fill", desc := "([II)V" } : Jvm.MethodName)) ∈ gw := gw_t3 (List.mem_of_getElem? (i := 84) rfl) rfl
theorem wd_565 : (Jvm.Cond.code ({ cls := "java/util/Arrays", name := "fill", desc := "([II)V" } : Jvm.MethodName) prog_19_method_103_code (4 : Nat) (Option.none : Option Jvm.ClassFile.FieldType)) ∈ gw := gw_t3 (List.mem_of_getElem? (i := 85) rfl) rfl
theorem wd_566 : (Jvm.Cond.methodLinkNest "TermOrders$Rules" (48 : Nat) ({ cls := "TermOrders$Term", name := "isVariable", desc := "(I)Z" } : Jvm.MethodName) "TermOrders") ∈ lw_tbl := tb_t3 (List.mem_of_getElem? (i := 86) rfl)
theorem wd_567 : (Jvm.Cond.methodLink "TermOrders$Rules" (55 : Nat) ({ cls := "TermOrders$Rules", name := "bind", desc := "(ILTermOrders$Term;I)Z" } : Jvm.MethodName)) ∈ gw := gw_t3 (List.mem_of_getElem? (i := 87) rfl) rfl
theorem wd_569 : (Jvm.Cond.instanceMethod ({ cls := "TermOrders$Rules", name := "bind", desc := "(ILTermOrders$Term;I)Z" } : Jvm.MethodName)) ∈ gw := gw_t3 (List.mem_of_getElem? (i := 89) rfl) rfl
theorem wd_570 : (Jvm.Cond.code ({ cls := "TermOrders$Rules", name := "bind", desc := "(ILTermOrders$Term;I)Z" } : Jvm.MethodName) prog_4_method_6_code (4 : Nat) (Option.some Jvm.ClassFile.FieldType.boolean)) ∈ gw := gw_t3 (List.mem_of_getElem? (i := 90) rfl) rfl
theorem wd_571 : (Jvm.Cond.methodLinkNest "TermOrders$Rules" (59 : Nat) ({ cls := "TermOrders$Term", name := "isSamePlace", desc := "(ILTermOrders$Term;I)Z" } : Jvm.MethodName) "TermOrders") ∈ lw_tbl := tb_t3 (List.mem_of_getElem? (i := 91) rfl)
theorem wd_572 : (Jvm.Cond.methodLinkNest "TermOrders$Rules" (66 : Nat) ({ cls := "TermOrders$Draft", name := "clear", desc := "()V" } : Jvm.MethodName) "TermOrders") ∈ lw_tbl := tb_t3 (List.mem_of_getElem? (i := 92) rfl)
theorem wd_573 : (Jvm.Cond.methodLinkNest "TermOrders$Rules" (71 : Nat) ({ cls := "TermOrders$Draft", name := "copyPlaces", desc := "(LTermOrders$Term;II)V" } : Jvm.MethodName) "TermOrders") ∈ lw_tbl := tb_t3 (List.mem_of_getElem? (i := 93) rfl)
theorem wd_574 : (Jvm.Cond.methodLink "TermOrders$Rules" (75 : Nat) ({ cls := "TermOrders$Rules", name := "writeBound", desc := "(LTermOrders$Term;LTermOrders$Term;LTermOrders$Draft;)V" } : Jvm.MethodName)) ∈ gw := gw_t3 (List.mem_of_getElem? (i := 94) rfl) rfl
theorem wd_576 : (Jvm.Cond.instanceMethod ({ cls := "TermOrders$Rules", name := "writeBound", desc := "(LTermOrders$Term;LTermOrders$Term;LTermOrders$Draft;)V" } : Jvm.MethodName)) ∈ gw := gw_t3 (List.mem_of_getElem? (i := 96) rfl) rfl
theorem wd_577 : (Jvm.Cond.code ({ cls := "TermOrders$Rules", name := "writeBound", desc := "(LTermOrders$Term;LTermOrders$Term;LTermOrders$Draft;)V" } : Jvm.MethodName) prog_4_method_8_code (6 : Nat) (Option.none : Option Jvm.ClassFile.FieldType)) ∈ gw := gw_t3 (List.mem_of_getElem? (i := 97) rfl) rfl
theorem wd_578 : (Jvm.Cond.methodLinkNest "TermOrders$Rules" (82 : Nat) ({ cls := "TermOrders$Draft", name := "write", desc := "(II)V" } : Jvm.MethodName) "TermOrders") ∈ lw_tbl := tb_t3 (List.mem_of_getElem? (i := 98) rfl)
theorem wd_579 : (Jvm.Cond.methodLink "TermOrdersLaw" (114 : Nat) ({ cls := "TermOrdersLaw", name := "about", desc := "(LTermOrders;II[J)I" } : Jvm.MethodName)) ∈ gw := gw_t3 (List.mem_of_getElem? (i := 99) rfl) rfl
theorem wd_580 : (Jvm.Cond.static ({ cls := "TermOrdersLaw", name := "about", desc := "(LTermOrders;II[J)I" } : Jvm.MethodName)) ∈ gw := gw_t3 (List.mem_of_getElem? (i := 100) rfl) rfl
theorem wd_581 : (Jvm.Cond.codeWith ({ cls := "TermOrdersLaw", name := "about", desc := "(LTermOrders;II[J)I" } : Jvm.MethodName) method_14_code (5 : Nat) (Option.some Jvm.ClassFile.FieldType.int) [((0 : Nat), (10 : Nat), (13 : Nat), (13 : Nat))]) ∈ gw := gw_t3 (List.mem_of_getElem? (i := 101) rfl) rfl
theorem wd_582 : (Jvm.Cond.methodLink "TermOrdersLaw" (53 : Nat) ({ cls := "TermOrders", name := "about", desc := "(II)I" } : Jvm.MethodName)) ∈ gw := gw_t3 (List.mem_of_getElem? (i := 102) rfl) rfl
theorem wd_583 : (Jvm.Cond.instanceMethod ({ cls := "TermOrders", name := "about", desc := "(II)I" } : Jvm.MethodName)) ∈ gw := gw_t3 (List.mem_of_getElem? (i := 103) rfl) rfl
theorem wd_584 : (Jvm.Cond.selects "TermOrders" ({ cls := "TermOrders", name := "about", desc := "(II)I" } : Jvm.MethodName) ({ cls := "TermOrders", name := "about", desc := "(II)I" } : Jvm.MethodName)) ∈ gw := gw_t3 (List.mem_of_getElem? (i := 104) rfl) rfl
theorem wd_585 : (Jvm.Cond.code ({ cls := "TermOrders", name := "about", desc := "(II)I" } : Jvm.MethodName) prog_1_method_14_code (4 : Nat) (Option.some Jvm.ClassFile.FieldType.int)) ∈ gw := gw_t3 (List.mem_of_getElem? (i := 105) rfl) rfl
theorem wd_586 : (Jvm.Cond.methodLinkNest "TermOrders" (174 : Nat) ({ cls := "TermOrders$Symbols", name := "weightOfPlace", desc := "(LTermOrders$Term;I)I" } : Jvm.MethodName) "TermOrders") ∈ lw_tbl := tb_t3 (List.mem_of_getElem? (i := 106) rfl)
theorem wd_587 : (Jvm.Cond.stringRef "TermOrders" (178 : Nat) "what is asked about a term is 0 .. 3") ∈ lw_tbl := tb_t3 (List.mem_of_getElem? (i := 107) rfl)
theorem wd_588 : (Jvm.Cond.methodLink "TermOrdersLaw" (117 : Nat) ({ cls := "TermOrdersLaw", name := "place", desc := "(LTermOrders;II[J)I" } : Jvm.MethodName)) ∈ gw := gw_t3 (List.mem_of_getElem? (i := 108) rfl) rfl
theorem wd_589 : (Jvm.Cond.static ({ cls := "TermOrdersLaw", name := "place", desc := "(LTermOrders;II[J)I" } : Jvm.MethodName)) ∈ gw := gw_t3 (List.mem_of_getElem? (i := 109) rfl) rfl
theorem wd_590 : (Jvm.Cond.codeWith ({ cls := "TermOrdersLaw", name := "place", desc := "(LTermOrders;II[J)I" } : Jvm.MethodName) method_15_code (5 : Nat) (Option.some Jvm.ClassFile.FieldType.int) [((0 : Nat), (10 : Nat), (13 : Nat), (13 : Nat)), ((0 : Nat), (10 : Nat), (17 : Nat), (59 : Nat))]) ∈ gw := gw_t3 (List.mem_of_getElem? (i := 110) rfl) rfl
theorem wd_591 : (Jvm.Cond.classLink "TermOrdersLaw" (59 : Nat) "java/lang/IndexOutOfBoundsException") ∈ gw := gw_t3 (List.mem_of_getElem? (i := 111) rfl) rfl
theorem wd_592 : (Jvm.Cond.methodLink "TermOrdersLaw" (56 : Nat) ({ cls := "TermOrders", name := "place", desc := "(II)I" } : Jvm.MethodName)) ∈ gw := gw_t3 (List.mem_of_getElem? (i := 112) rfl) rfl
theorem wd_593 : (Jvm.Cond.instanceMethod ({ cls := "TermOrders", name := "place", desc := "(II)I" } : Jvm.MethodName)) ∈ gw := gw_t3 (List.mem_of_getElem? (i := 113) rfl) rfl
theorem wd_594 : (Jvm.Cond.selects "TermOrders" ({ cls := "TermOrders", name := "place", desc := "(II)I" } : Jvm.MethodName) ({ cls := "TermOrders", name := "place", desc := "(II)I" } : Jvm.MethodName)) ∈ gw := gw_t3 (List.mem_of_getElem? (i := 114) rfl) rfl
theorem wd_595 : (Jvm.Cond.code ({ cls := "TermOrders", name := "place", desc := "(II)I" } : Jvm.MethodName) prog_1_method_15_code (4 : Nat) (Option.some Jvm.ClassFile.FieldType.int)) ∈ gw := gw_t3 (List.mem_of_getElem? (i := 115) rfl) rfl
theorem wd_596 : (Jvm.Cond.classLink "TermOrders" (180 : Nat) "java/lang/IndexOutOfBoundsException") ∈ gw := gw_t3 (List.mem_of_getElem? (i := 116) rfl) rfl
theorem wd_597 : (Jvm.Cond.instantiable "java/lang/IndexOutOfBoundsException" (6 : Nat)) ∈ gw := gw_t3 (List.mem_of_getElem? (i := 117) rfl) rfl
theorem wd_598 : (Jvm.Cond.castable "java/lang/IndexOutOfBoundsException" "java/lang/IndexOutOfBoundsException") ∈ lw_tbl := tb_t3 (List.mem_of_getElem? (i := 118) rfl)
theorem wd_599 : (Jvm.Cond.selects "java/lang/IndexOutOfBoundsException" ({ cls := "java/lang/Throwable", name := "fillInStackTrace", desc := "(I)Ljava/lang/Throwable;" } : Jvm.MethodName) ({ cls := "java/lang/Throwable", name := "fillInStackTrace", desc := "(I)Ljava/lang/Throwable;" } : Jvm.MethodName)) ∈ gw := gw_t3 (List.mem_of_getElem? (i := 119) rfl) rfl
theorem wd_600 : (Jvm.Cond.lays "java/lang/IndexOutOfBoundsException" "java/lang/Throwable" "cause" "Ljava/lang/Throwable;") ∈ gw := gw_t3 (List.mem_of_getElem? (i := 120) rfl) rfl
theorem wd_601 : (Jvm.Cond.lays "java/lang/IndexOutOfBoundsException" "java/lang/Throwable" "stackTrace" "[Ljava/lang/StackTraceElement;") ∈ gw := gw_t3 (List.mem_of_getElem? (i := 121) rfl) rfl
theorem wd_602 : (Jvm.Cond.lays "java/lang/IndexOutOfBoundsException" "java/lang/Throwable" "suppressedExceptions" "Ljava/util/List;") ∈ gw := gw_t3 (List.mem_of_getElem? (i := 122) rfl) rfl
theorem wd_603 : (Jvm.Cond.lays "java/lang/IndexOutOfBoundsException" "java/lang/Throwable" "detailMessage" "Ljava/lang/String;") ∈ gw := gw_t3 (List.mem_of_getElem? (i := 123) rfl) rfl
theorem wd_604 : (Jvm.Cond.lays "java/lang/IndexOutOfBoundsException" "java/lang/Throwable" "backtrace" "Ljava/lang/Object;") ∈ gw := gw_t3 (List.mem_of_getElem? (i := 124) rfl) rfl
theorem wd_605 : (Jvm.Cond.stringRef "TermOrders" (182 : Nat) "the term has no such place") ∈ lw_tbl := tb_t3 (List.mem_of_getElem? (i := 125) rfl)
theorem wd_606 : (Jvm.Cond.methodLink "TermOrders" (184 : Nat) ({ cls := "java/lang/IndexOutOfBoundsException", name := "<init>", desc := "(Ljava/lang/String;)V" } : Jvm.MethodName)) ∈ gw := gw_t3 (List.mem_of_getElem? (i := 126) rfl) rfl
theorem wd_607 : (Jvm.Cond.instanceMethod ({ cls := "java/lang/IndexOutOfBoundsException", name := "<init>", desc := "(Ljava/lang/String;)V" } : Jvm.MethodName)) ∈ gw := gw_t3 (List.mem_of_getElem? (i := 127) rfl) rfl
theorem wd_608 : (Jvm.Cond.code ({ cls := "java/lang/IndexOutOfBoundsException", name := "<init>", desc := "(Ljava/lang/String;)V" } : Jvm.MethodName) prog_13_method_2_code (2 : Nat) (Option.none : Option Jvm.ClassFile.FieldType)) ∈ gw := gw_t3 (List.mem_of_getElem? (i := 128) rfl) rfl
theorem wd_609 : (Jvm.Cond.methodLink "java/lang/IndexOutOfBoundsException" (7 : Nat) ({ cls := "java/lang/RuntimeException", name := "<init>", desc := "(Ljava/lang/String;)V" } : Jvm.MethodName)) ∈ gw := gw_t3 (List.mem_of_getElem? (i := 129) rfl) rfl
theorem wd_610 : (Jvm.Cond.lays "java/lang/IndexOutOfBoundsException" "java/lang/Throwable" "depth" "I") ∈ gw := gw_t3 (List.mem_of_getElem? (i := 130) rfl) rfl
theorem wd_611 : (Jvm.Cond.superclass "java/lang/IndexOutOfBoundsException" "java/lang/RuntimeException") ∈ gw := gw_t3 (List.mem_of_getElem? (i := 131) rfl) rfl
theorem wd_612 : (Jvm.Cond.classLink "TermOrdersLaw" (62 : Nat) "TermOrdersModel") ∈ gw := gw_t3 (List.mem_of_getElem? (i := 132) rfl) rfl
theorem wd_613 : (Jvm.Cond.instantiable "TermOrdersModel" (17 : Nat)) ∈ gw := gw_t3 (List.mem_of_getElem? (i := 133) rfl) rfl
theorem wd_614 : (Jvm.Cond.methodLink "TermOrdersLaw" (64 : Nat) ({ cls := "TermOrdersModel", name := "<init>", desc := "()V" } : Jvm.MethodName)) ∈ gw := gw_t3 (List.mem_of_getElem? (i := 134) rfl) rfl
theorem wd_615 : (Jvm.Cond.instanceMethod ({ cls := "TermOrdersModel", name := "<init>", desc := "()V" } : Jvm.MethodName)) ∈ gw := gw_t3 (List.mem_of_getElem? (i := 135) rfl) rfl
theorem wd_616 : (Jvm.Cond.code ({ cls := "TermOrdersModel", name := "<init>", desc := "()V" } : Jvm.MethodName) prog_8_method_1_code (1 : Nat) (Option.none : Option Jvm.ClassFile.FieldType)) ∈ gw := gw_t3 (List.mem_of_getElem? (i := 136) rfl) rfl
theorem wd_617 : (Jvm.Cond.methodLink "TermOrdersModel" (1 : Nat) ({ cls := "java/lang/Object", name := "<init>", desc := "()V" } : Jvm.MethodName)) ∈ gw := gw_t3 (List.mem_of_getElem? (i := 137) rfl) rfl
theorem wd_618 : (Jvm.Cond.fieldLink "TermOrdersModel" (65 : Nat) "TermOrdersModel" "symbols" "I") ∈ gw := gw_t3 (List.mem_of_getElem? (i := 138) rfl) rfl
theorem wd_619 : (Jvm.Cond.fieldLink "TermOrdersModel" (7 : Nat) "TermOrdersModel" "arity" "[I") ∈ gw := gw_t3 (List.mem_of_getElem? (i := 139) rfl) rfl
theorem wd_620 : (Jvm.Cond.fieldLink "TermOrdersModel" (13 : Nat) "TermOrdersModel" "rank" "[I") ∈ gw := gw_t3 (List.mem_of_getElem? (i := 140) rfl) rfl
theorem wd_621 : (Jvm.Cond.fieldLink "TermOrdersModel" (16 : Nat) "TermOrdersModel" "weight" "[I") ∈ gw := gw_t3 (List.mem_of_getElem? (i := 141) rfl) rfl
theorem wd_622 : (Jvm.Cond.fieldLink "TermOrdersModel" (62 : Nat) "TermOrdersModel" "terms" "I") ∈ gw := gw_t3 (List.mem_of_getElem? (i := 142) rfl) rfl
theorem wd_623 : (Jvm.Cond.fieldLink "TermOrdersModel" (19 : Nat) "TermOrdersModel" "code" "[I") ∈ gw := gw_t3 (List.mem_of_getElem? (i := 143) rfl) rfl
theorem wd_624 : (Jvm.Cond.fieldLink "TermOrdersModel" (22 : Nat) "TermOrdersModel" "size" "[I") ∈ gw := gw_t3 (List.mem_of_getElem? (i := 144) rfl) rfl
theorem wd_625 : (Jvm.Cond.fieldLink "TermOrdersModel" (89 : Nat) "TermOrdersModel" "rules" "I") ∈ gw := gw_t3 (List.mem_of_getElem? (i := 145) rfl) rfl
theorem wd_626 : (Jvm.Cond.fieldLink "TermOrdersModel" (25 : Nat) "TermOrdersModel" "left" "[I") ∈ gw := gw_t3 (List.mem_of_getElem? (i := 146) rfl) rfl
theorem wd_627 : (Jvm.Cond.fieldLink "TermOrdersModel" (28 : Nat) "TermOrdersModel" "right" "[I") ∈ gw := gw_t3 (List.mem_of_getElem? (i := 147) rfl) rfl
theorem wd_628 : (Jvm.Cond.fieldLink "TermOrdersModel" (31 : Nat) "TermOrdersModel" "high" "[I") ∈ gw := gw_t3 (List.mem_of_getElem? (i := 148) rfl) rfl
theorem wd_629 : (Jvm.Cond.fieldLink "TermOrdersModel" (34 : Nat) "TermOrdersModel" "heavy" "[I") ∈ gw := gw_t3 (List.mem_of_getElem? (i := 149) rfl) rfl
theorem wd_630 : (Jvm.Cond.fieldLink "TermOrdersModel" (37 : Nat) "TermOrdersModel" "endOf" "[I") ∈ gw := gw_t3 (List.mem_of_getElem? (i := 150) rfl) rfl
theorem wd_631 : (Jvm.Cond.fieldLink "TermOrdersModel" (40 : Nat) "TermOrdersModel" "greater" "[Z") ∈ gw := gw_t3 (List.mem_of_getElem? (i := 151) rfl) rfl
theorem wd_632 : (Jvm.Cond.fieldLink "TermOrdersModel" (44 : Nat) "TermOrdersModel" "bound" "[I") ∈ gw := gw_t3 (List.mem_of_getElem? (i := 152) rfl) rfl
theorem wd_633 : (Jvm.Cond.fieldLink "TermOrdersModel" (47 : Nat) "TermOrdersModel" "oldRank" "[I") ∈ gw := gw_t3 (List.mem_of_getElem? (i := 153) rfl) rfl
theorem wd_634 : (Jvm.Cond.fieldLink "TermOrdersModel" (50 : Nat) "TermOrdersModel" "thrown" "I") ∈ gw := gw_t3 (List.mem_of_getElem? (i := 154) rfl) rfl
theorem wd_635 : (Jvm.Cond.lays "TermOrdersModel" "TermOrdersModel" "symbols" "I") ∈ gw := gw_t3 (List.mem_of_getElem? (i := 155) rfl) rfl
theorem wd_637 : (Jvm.Cond.laysFinal "TermOrdersModel" "TermOrdersModel" "arity" "[I") ∈ gw := gw_t3 (List.mem_of_getElem? (i := 157) rfl) rfl
theorem wd_639 : (Jvm.Cond.laysFinal "TermOrdersModel" "TermOrdersModel" "rank" "[I") ∈ gw := gw_t3 (List.mem_of_getElem? (i := 159) rfl) rfl
theorem wd_641 : (Jvm.Cond.laysFinal "TermOrdersModel" "TermOrdersModel" "weight" "[I") ∈ gw := gw_t3 (List.mem_of_getElem? (i := 161) rfl) rfl
theorem wd_643 : (Jvm.Cond.lays "TermOrdersModel" "TermOrdersModel" "terms" "I") ∈ gw := gw_t3 (List.mem_of_getElem? (i := 163) rfl) rfl
theorem wd_645 : (Jvm.Cond.laysFinal "TermOrdersModel" "TermOrdersModel" "code" "[I") ∈ gw := gw_t3 (List.mem_of_getElem? (i := 165) rfl) rfl
theorem wd_647 : (Jvm.Cond.laysFinal "TermOrdersModel" "TermOrdersModel" "size" "[I") ∈ gw := gw_t3 (List.mem_of_getElem? (i := 167) rfl) rfl
theorem wd_649 : (Jvm.Cond.lays "TermOrdersModel" "TermOrdersModel" "rules" "I") ∈ gw := gw_t3 (List.mem_of_getElem? (i := 169) rfl) rfl
theorem wd_651 : (Jvm.Cond.laysFinal "TermOrdersModel" "TermOrdersModel" "left" "[I") ∈ gw := gw_t3 (List.mem_of_getElem? (i := 171) rfl) rfl
theorem wd_653 : (Jvm.Cond.laysFinal "TermOrdersModel" "TermOrdersModel" "right" "[I") ∈ gw := gw_t3 (List.mem_of_getElem? (i := 173) rfl) rfl
theorem wd_655 : (Jvm.Cond.laysFinal "TermOrdersModel" "TermOrdersModel" "high" "[I") ∈ gw := gw_t3 (List.mem_of_getElem? (i := 175) rfl) rfl
theorem wd_657 : (Jvm.Cond.laysFinal "TermOrdersModel" "TermOrdersModel" "heavy" "[I") ∈ gw := gw_t3 (List.mem_of_getElem? (i := 177) rfl) rfl
theorem wd_659 : (Jvm.Cond.laysFinal "TermOrdersModel" "TermOrdersModel" "endOf" "[I") ∈ gw := gw_t3 (List.mem_of_getElem? (i := 179) rfl) rfl
theorem wd_661 : (Jvm.Cond.laysFinal "TermOrdersModel" "TermOrdersModel" "greater" "[Z") ∈ gw := gw_t3 (List.mem_of_getElem? (i := 181) rfl) rfl
theorem wd_663 : (Jvm.Cond.laysFinal "TermOrdersModel" "TermOrdersModel" "bound" "[I") ∈ gw := gw_t3 (List.mem_of_getElem? (i := 183) rfl) rfl
theorem wd_665 : (Jvm.Cond.laysFinal "TermOrdersModel" "TermOrdersModel" "oldRank" "[I") ∈ gw := gw_t3 (List.mem_of_getElem? (i := 185) rfl) rfl
theorem wd_667 : (Jvm.Cond.lays "TermOrdersModel" "TermOrdersModel" "thrown" "I") ∈ gw := gw_t3 (List.mem_of_getElem? (i := 187) rfl) rfl
theorem wd_669 : (Jvm.Cond.superclass "TermOrdersModel" "java/lang/Object") ∈ gw := gw_t3 (List.mem_of_getElem? (i := 189) rfl) rfl
theorem wd_670 : (Jvm.Cond.methodLink "TermOrdersLaw" (71 : Nat) ({ cls := "TermOrdersModel", name := "thrown", desc := "()I" } : Jvm.MethodName)) ∈ gw := gw_t3 (List.mem_of_getElem? (i := 190) rfl) rfl
theorem wd_671 : (Jvm.Cond.instanceMethod ({ cls := "TermOrdersModel", name := "thrown", desc := "()I" } : Jvm.MethodName)) ∈ gw := gw_t3 (List.mem_of_getElem? (i := 191) rfl) rfl
theorem wd_672 : (Jvm.Cond.selects "TermOrdersModel" ({ cls := "TermOrdersModel", name := "thrown", desc := "()I" } : Jvm.MethodName) ({ cls := "TermOrdersModel", name := "thrown", desc := "()I" } : Jvm.MethodName)) ∈ gw := gw_t3 (List.mem_of_getElem? (i := 192) rfl) rfl
theorem wd_673 : (Jvm.Cond.code ({ cls := "TermOrdersModel", name := "thrown", desc := "()I" } : Jvm.MethodName) prog_8_method_2_code (1 : Nat) (Option.some Jvm.ClassFile.FieldType.int)) ∈ gw := gw_t3 (List.mem_of_getElem? (i := 193) rfl) rfl
theorem wd_674 : (Jvm.Cond.methodLink "TermOrdersLaw" (70 : Nat) ({ cls := "TermOrdersModel", name := "symbol", desc := "(I)I" } : Jvm.MethodName)) ∈ gw := gw_t3 (List.mem_of_getElem? (i := 194) rfl) rfl
theorem wd_675 : (Jvm.Cond.instanceMethod ({ cls := "TermOrdersModel", name := "symbol", desc := "(I)I" } : Jvm.MethodName)) ∈ gw := gw_t3 (List.mem_of_getElem? (i := 195) rfl) rfl
theorem wd_676 : (Jvm.Cond.selects "TermOrdersModel" ({ cls := "TermOrdersModel", name := "symbol", desc := "(I)I" } : Jvm.MethodName) ({ cls := "TermOrdersModel", name := "symbol", desc := "(I)I" } : Jvm.MethodName)) ∈ gw := gw_t3 (List.mem_of_getElem? (i := 196) rfl) rfl
theorem wd_677 : (Jvm.Cond.code ({ cls := "TermOrdersModel", name := "symbol", desc := "(I)I" } : Jvm.MethodName) prog_8_method_10_code (2 : Nat) (Option.some Jvm.ClassFile.FieldType.int)) ∈ gw := gw_t3 (List.mem_of_getElem? (i := 197) rfl) rfl
theorem wd_678 : (Jvm.Cond.methodLink "TermOrdersLaw" (77 : Nat) ({ cls := "TermOrdersModel", name := "variable", desc := "(I)I" } : Jvm.MethodName)) ∈ gw := gw_t3 (List.mem_of_getElem? (i := 198) rfl) rfl
theorem wd_679 : (Jvm.Cond.instanceMethod ({ cls := "TermOrdersModel", name := "variable", desc := "(I)I" } : Jvm.MethodName)) ∈ gw := gw_t3 (List.mem_of_getElem? (i := 199) rfl) rfl
theorem wd_680 : (Jvm.Cond.selects "TermOrdersModel" ({ cls := "TermOrdersModel", name := "variable", desc := "(I)I" } : Jvm.MethodName) ({ cls := "TermOrdersModel", name := "variable", desc := "(I)I" } : Jvm.MethodName)) ∈ gw := gw_t3 (List.mem_of_getElem? (i := 200) rfl) rfl
theorem wd_681 : (Jvm.Cond.code ({ cls := "TermOrdersModel", name := "variable", desc := "(I)I" } : Jvm.MethodName) prog_8_method_11_code (2 : Nat) (Option.some Jvm.ClassFile.FieldType.int)) ∈ gw := gw_t3 (List.mem_of_getElem? (i := 201) rfl) rfl
theorem wd_682 : (Jvm.Cond.methodLink "TermOrdersLaw" (81 : Nat) ({ cls := "TermOrdersModel", name := "term", desc := "(IIII)I" } : Jvm.MethodName)) ∈ gw := gw_t3 (List.mem_of_getElem? (i := 202) rfl) rfl
theorem wd_683 : (Jvm.Cond.instanceMethod ({ cls := "TermOrdersModel", name := "term", desc := "(IIII)I" } : Jvm.MethodName)) ∈ gw := gw_t3 (List.mem_of_getElem? (i := 203) rfl) rfl
theorem wd_684 : (Jvm.Cond.selects "TermOrdersModel" ({ cls := "TermOrdersModel", name := "term", desc := "(IIII)I" } : Jvm.MethodName) ({ cls := "TermOrdersModel", name := "term", desc := "(IIII)I" } : Jvm.MethodName)) ∈ gw := gw_t3 (List.mem_of_getElem? (i := 204) rfl) rfl
theorem wd_685 : (Jvm.Cond.code ({ cls := "TermOrdersModel", name := "term", desc := "(IIII)I" } : Jvm.MethodName) prog_8_method_14_code (10 : Nat) (Option.some Jvm.ClassFile.FieldType.int)) ∈ gw := gw_t3 (List.mem_of_getElem? (i := 205) rfl) rfl
theorem wd_686 : (Jvm.Cond.methodLink "TermOrdersModel" (71 : Nat) ({ cls := "TermOrdersModel", name := "isSymbol", desc := "(I)Z" } : Jvm.MethodName)) ∈ gw := gw_t3 (List.mem_of_getElem? (i := 206) rfl) rfl
theorem wd_688 : (Jvm.Cond.instanceMethod ({ cls := "TermOrdersModel", name := "isSymbol", desc := "(I)Z" } : Jvm.MethodName)) ∈ gw := gw_t3 (List.mem_of_getElem? (i := 208) rfl) rfl
theorem wd_689 : (Jvm.Cond.code ({ cls := "TermOrdersModel", name := "isSymbol", desc := "(I)Z" } : Jvm.MethodName) prog_8_method_9_code (2 : Nat) (Option.some Jvm.ClassFile.FieldType.boolean)) ∈ gw := gw_t3 (List.mem_of_getElem? (i := 209) rfl) rfl
theorem wd_690 : (Jvm.Cond.methodLink "TermOrdersModel" (75 : Nat) ({ cls := "TermOrdersModel", name := "isTerm", desc := "(I)Z" } : Jvm.MethodName)) ∈ gw := gw_t3 (List.mem_of_getElem? (i := 210) rfl) rfl
theorem wd_692 : (Jvm.Cond.instanceMethod ({ cls := "TermOrdersModel", name := "isTerm", desc := "(I)Z" } : Jvm.MethodName)) ∈ gw := gw_t3 (List.mem_of_getElem? (i := 212) rfl) rfl
theorem wd_693 : (Jvm.Cond.code ({ cls := "TermOrdersModel", name := "isTerm", desc := "(I)Z" } : Jvm.MethodName) prog_8_method_8_code (2 : Nat) (Option.some Jvm.ClassFile.FieldType.boolean)) ∈ gw := gw_t3 (List.mem_of_getElem? (i := 213) rfl) rfl
theorem wd_694 : (Jvm.Cond.methodLink "TermOrdersModel" (78 : Nat) ({ cls := "TermOrdersModel", name := "append", desc := "(IIII)I" } : Jvm.MethodName)) ∈ gw := gw_t3 (List.mem_of_getElem? (i := 214) rfl) rfl
theorem wd_696 : (Jvm.Cond.instanceMethod ({ cls := "TermOrdersModel", name := "append", desc := "(IIII)I" } : Jvm.MethodName)) ∈ gw := gw_t3 (List.mem_of_getElem? (i := 216) rfl) rfl
theorem wd_697 : (Jvm.Cond.code ({ cls := "TermOrdersModel", name := "append", desc := "(IIII)I" } : Jvm.MethodName) prog_8_method_13_code (6 : Nat) (Option.some Jvm.ClassFile.FieldType.int)) ∈ gw := gw_t3 (List.mem_of_getElem? (i := 217) rfl) rfl
theorem wd_698 : (Jvm.Cond.methodLink "TermOrdersModel" (82 : Nat) ({ cls := "TermOrdersModel", name := "keep", desc := "(I)I" } : Jvm.MethodName)) ∈ gw := gw_t3 (List.mem_of_getElem? (i := 218) rfl) rfl
theorem wd_700 : (Jvm.Cond.instanceMethod ({ cls := "TermOrdersModel", name := "keep", desc := "(I)I" } : Jvm.MethodName)) ∈ gw := gw_t3 (List.mem_of_getElem? (i := 220) rfl) rfl
theorem wd_701 : (Jvm.Cond.code ({ cls := "TermOrdersModel", name := "keep", desc := "(I)I" } : Jvm.MethodName) prog_8_method_12_code (4 : Nat) (Option.some Jvm.ClassFile.FieldType.int)) ∈ gw := gw_t3 (List.mem_of_getElem? (i := 221) rfl) rfl
theorem wd_702 : (Jvm.Cond.methodLink "TermOrdersModel" (68 : Nat) ({ cls := "TermOrdersModel", name := "height", desc := "(II)I" } : Jvm.MethodName)) ∈ gw := gw_t3 (List.mem_of_getElem? (i := 222) rfl) rfl
theorem wd_704 : (Jvm.Cond.instanceMethod ({ cls := "TermOrdersModel", name := "height", desc := "(II)I" } : Jvm.MethodName)) ∈ gw := gw_t3 (List.mem_of_getElem? (i := 224) rfl) rfl
theorem wd_705 : (Jvm.Cond.code ({ cls := "TermOrdersModel", name := "height", desc := "(II)I" } : Jvm.MethodName) prog_8_method_5_code (7 : Nat) (Option.some Jvm.ClassFile.FieldType.int)) ∈ gw := gw_t3 (List.mem_of_getElem? (i := 225) rfl) rfl
theorem wd_706 : (Jvm.Cond.methodLink "TermOrdersModel" (54 : Nat) ({ cls := "TermOrdersModel", name := "many", desc := "(I)I" } : Jvm.MethodName)) ∈ gw := gw_t3 (List.mem_of_getElem? (i := 226) rfl) rfl
theorem wd_708 : (Jvm.Cond.instanceMethod ({ cls := "TermOrdersModel", name := "many", desc := "(I)I" } : Jvm.MethodName)) ∈ gw := gw_t3 (List.mem_of_getElem? (i := 228) rfl) rfl
theorem wd_709 : (Jvm.Cond.code ({ cls := "TermOrdersModel", name := "many", desc := "(I)I" } : Jvm.MethodName) prog_8_method_3_code (2 : Nat) (Option.some Jvm.ClassFile.FieldType.int)) ∈ gw := gw_t3 (List.mem_of_getElem? (i := 229) rfl) rfl
theorem wd_710 : (Jvm.Cond.methodLink "TermOrdersModel" (58 : Nat) ({ cls := "TermOrdersModel", name := "end", desc := "(II)I" } : Jvm.MethodName)) ∈ gw := gw_t3 (List.mem_of_getElem? (i := 230) rfl) rfl
theorem wd_712 : (Jvm.Cond.instanceMethod ({ cls := "TermOrdersModel", name := "end", desc := "(II)I" } : Jvm.MethodName)) ∈ gw := gw_t3 (List.mem_of_getElem? (i := 232) rfl) rfl
theorem wd_713 : (Jvm.Cond.code ({ cls := "TermOrdersModel", name := "end", desc := "(II)I" } : Jvm.MethodName) prog_8_method_4_code (5 : Nat) (Option.some Jvm.ClassFile.FieldType.int)) ∈ gw := gw_t3 (List.mem_of_getElem? (i := 233) rfl) rfl
theorem wd_714 : (Jvm.Cond.methodLink "TermOrdersLaw" (85 : Nat) ({ cls := "TermOrdersModel", name := "rule", desc := "(II)I" } : Jvm.MethodName)) ∈ gw := gw_t3 (List.mem_of_getElem? (i := 234) rfl) rfl
theorem wd_715 : (Jvm.Cond.instanceMethod ({ cls := "TermOrdersModel", name := "rule", desc := "(II)I" } : Jvm.MethodName)) ∈ gw := gw_t3 (List.mem_of_getElem? (i := 235) rfl) rfl
theorem wd_716 : (Jvm.Cond.selects "TermOrdersModel" ({ cls := "TermOrdersModel", name := "rule", desc := "(II)I" } : Jvm.MethodName) ({ cls := "TermOrdersModel", name := "rule", desc := "(II)I" } : Jvm.MethodName)) ∈ gw := gw_t3 (List.mem_of_getElem? (i := 236) rfl) rfl
theorem wd_717 : (Jvm.Cond.code ({ cls := "TermOrdersModel", name := "rule", desc := "(II)I" } : Jvm.MethodName) prog_8_method_16_code (6 : Nat) (Option.some Jvm.ClassFile.FieldType.int)) ∈ gw := gw_t3 (List.mem_of_getElem? (i := 237) rfl) rfl
theorem wd_718 : (Jvm.Cond.methodLink "TermOrdersModel" (85 : Nat) ({ cls := "TermOrdersModel", name := "has", desc := "(II)Z" } : Jvm.MethodName)) ∈ gw := gw_t3 (List.mem_of_getElem? (i := 238) rfl) rfl
theorem wd_720 : (Jvm.Cond.instanceMethod ({ cls := "TermOrdersModel", name := "has", desc := "(II)Z" } : Jvm.MethodName)) ∈ gw := gw_t4 (List.mem_of_getElem? (i := 0) rfl) rfl
theorem wd_721 : (Jvm.Cond.code ({ cls := "TermOrdersModel", name := "has", desc := "(II)Z" } : Jvm.MethodName) prog_8_method_15_code (4 : Nat) (Option.some Jvm.ClassFile.FieldType.boolean)) ∈ gw := gw_t4 (List.mem_of_getElem? (i := 1) rfl) rfl
theorem wd_722 : (Jvm.Cond.methodLink "TermOrdersLaw" (89 : Nat) ({ cls := "TermOrdersModel", name := "order", desc := "(III)V" } : Jvm.MethodName)) ∈ gw := gw_t4 (List.mem_of_getElem? (i := 2) rfl) rfl
theorem wd_723 : (Jvm.Cond.instanceMethod ({ cls := "TermOrdersModel", name := "order", desc := "(III)V" } : Jvm.MethodName)) ∈ gw := gw_t4 (List.mem_of_getElem? (i := 3) rfl) rfl
theorem wd_724 : (Jvm.Cond.selects "TermOrdersModel" ({ cls := "TermOrdersModel", name := "order", desc := "(III)V" } : Jvm.MethodName) ({ cls := "TermOrdersModel", name := "order", desc := "(III)V" } : Jvm.MethodName)) ∈ gw := gw_t4 (List.mem_of_getElem? (i := 4) rfl) rfl
theorem wd_725 : (Jvm.Cond.code ({ cls := "TermOrdersModel", name := "order", desc := "(III)V" } : Jvm.MethodName) prog_8_method_17_code (4 : Nat) (Option.none : Option Jvm.ClassFile.FieldType)) ∈ gw := gw_t4 (List.mem_of_getElem? (i := 5) rfl) rfl
theorem wd_726 : (Jvm.Cond.methodLink "TermOrdersLaw" (92 : Nat) ({ cls := "TermOrdersModel", name := "rank", desc := "(I)I" } : Jvm.MethodName)) ∈ gw := gw_t4 (List.mem_of_getElem? (i := 6) rfl) rfl
theorem wd_727 : (Jvm.Cond.instanceMethod ({ cls := "TermOrdersModel", name := "rank", desc := "(I)I" } : Jvm.MethodName)) ∈ gw := gw_t4 (List.mem_of_getElem? (i := 7) rfl) rfl
theorem wd_728 : (Jvm.Cond.selects "TermOrdersModel" ({ cls := "TermOrdersModel", name := "rank", desc := "(I)I" } : Jvm.MethodName) ({ cls := "TermOrdersModel", name := "rank", desc := "(I)I" } : Jvm.MethodName)) ∈ gw := gw_t4 (List.mem_of_getElem? (i := 8) rfl) rfl
theorem wd_729 : (Jvm.Cond.code ({ cls := "TermOrdersModel", name := "rank", desc := "(I)I" } : Jvm.MethodName) prog_8_method_18_code (2 : Nat) (Option.some Jvm.ClassFile.FieldType.int)) ∈ gw := gw_t4 (List.mem_of_getElem? (i := 9) rfl) rfl
theorem wd_730 : (Jvm.Cond.methodLink "TermOrdersLaw" (96 : Nat) ({ cls := "TermOrdersModel", name := "greater", desc := "(III)Z" } : Jvm.MethodName)) ∈ gw := gw_t4 (List.mem_of_getElem? (i := 10) rfl) rfl
theorem wd_731 : (Jvm.Cond.instanceMethod ({ cls := "TermOrdersModel", name := "greater", desc := "(III)Z" } : Jvm.MethodName)) ∈ gw := gw_t4 (List.mem_of_getElem? (i := 11) rfl) rfl
theorem wd_732 : (Jvm.Cond.selects "TermOrdersModel" ({ cls := "TermOrdersModel", name := "greater", desc := "(III)Z" } : Jvm.MethodName) ({ cls := "TermOrdersModel", name := "greater", desc := "(III)Z" } : Jvm.MethodName)) ∈ gw := gw_t4 (List.mem_of_getElem? (i := 12) rfl) rfl
theorem wd_733 : (Jvm.Cond.code ({ cls := "TermOrdersModel", name := "greater", desc := "(III)Z" } : Jvm.MethodName) prog_8_method_24_code (4 : Nat) (Option.some Jvm.ClassFile.FieldType.boolean)) ∈ gw := gw_t4 (List.mem_of_getElem? (i := 13) rfl) rfl
theorem wd_734 : (Jvm.Cond.methodLink "TermOrdersModel" (112 : Nat) ({ cls := "TermOrdersModel", name := "isGreater", desc := "(III)Z" } : Jvm.MethodName)) ∈ gw := gw_t4 (List.mem_of_getElem? (i := 14) rfl) rfl
theorem wd_736 : (Jvm.Cond.instanceMethod ({ cls := "TermOrdersModel", name := "isGreater", desc := "(III)Z" } : Jvm.MethodName)) ∈ gw := gw_t4 (List.mem_of_getElem? (i := 16) rfl) rfl
theorem wd_737 : (Jvm.Cond.code ({ cls := "TermOrdersModel", name := "isGreater", desc := "(III)Z" } : Jvm.MethodName) prog_8_method_23_code (8 : Nat) (Option.some Jvm.ClassFile.FieldType.boolean)) ∈ gw := gw_t4 (List.mem_of_getElem? (i := 17) rfl) rfl
theorem wd_738 : (Jvm.Cond.methodLink "TermOrdersModel" (102 : Nat) ({ cls := "TermOrdersModel", name := "weighed", desc := "(III)I" } : Jvm.MethodName)) ∈ gw := gw_t4 (List.mem_of_getElem? (i := 18) rfl) rfl
theorem wd_740 : (Jvm.Cond.instanceMethod ({ cls := "TermOrdersModel", name := "weighed", desc := "(III)I" } : Jvm.MethodName)) ∈ gw := gw_t4 (List.mem_of_getElem? (i := 20) rfl) rfl
theorem wd_741 : (Jvm.Cond.code ({ cls := "TermOrdersModel", name := "weighed", desc := "(III)I" } : Jvm.MethodName) prog_8_method_7_code (6 : Nat) (Option.some Jvm.ClassFile.FieldType.int)) ∈ gw := gw_t4 (List.mem_of_getElem? (i := 21) rfl) rfl
theorem wd_742 : (Jvm.Cond.methodLink "TermOrdersModel" (106 : Nat) ({ cls := "TermOrdersModel", name := "path", desc := "(IIII)Z" } : Jvm.MethodName)) ∈ gw := gw_t4 (List.mem_of_getElem? (i := 22) rfl) rfl
theorem wd_744 : (Jvm.Cond.instanceMethod ({ cls := "TermOrdersModel", name := "path", desc := "(IIII)Z" } : Jvm.MethodName)) ∈ gw := gw_t4 (List.mem_of_getElem? (i := 24) rfl) rfl
theorem wd_745 : (Jvm.Cond.code ({ cls := "TermOrdersModel", name := "path", desc := "(IIII)Z" } : Jvm.MethodName) prog_8_method_19_code (10 : Nat) (Option.some Jvm.ClassFile.FieldType.boolean)) ∈ gw := gw_t4 (List.mem_of_getElem? (i := 25) rfl) rfl
theorem wd_746 : (Jvm.Cond.methodLink "TermOrdersModel" (92 : Nat) ({ cls := "TermOrdersModel", name := "alike", desc := "(IIII)Z" } : Jvm.MethodName)) ∈ gw := gw_t4 (List.mem_of_getElem? (i := 26) rfl) rfl
theorem wd_748 : (Jvm.Cond.instanceMethod ({ cls := "TermOrdersModel", name := "alike", desc := "(IIII)Z" } : Jvm.MethodName)) ∈ gw := gw_t4 (List.mem_of_getElem? (i := 28) rfl) rfl
theorem wd_749 : (Jvm.Cond.code ({ cls := "TermOrdersModel", name := "alike", desc := "(IIII)Z" } : Jvm.MethodName) prog_8_method_6_code (7 : Nat) (Option.some Jvm.ClassFile.FieldType.boolean)) ∈ gw := gw_t4 (List.mem_of_getElem? (i := 29) rfl) rfl
theorem wd_750 : (Jvm.Cond.methodLink "TermOrdersModel" (96 : Nat) ({ cls := "TermOrdersModel", name := "inOrder", desc := "(IIII)Z" } : Jvm.MethodName)) ∈ gw := gw_t4 (List.mem_of_getElem? (i := 30) rfl) rfl
theorem wd_752 : (Jvm.Cond.instanceMethod ({ cls := "TermOrdersModel", name := "inOrder", desc := "(IIII)Z" } : Jvm.MethodName)) ∈ gw := gw_t4 (List.mem_of_getElem? (i := 32) rfl) rfl
theorem wd_753 : (Jvm.Cond.code ({ cls := "TermOrdersModel", name := "inOrder", desc := "(IIII)Z" } : Jvm.MethodName) prog_8_method_20_code (8 : Nat) (Option.some Jvm.ClassFile.FieldType.boolean)) ∈ gw := gw_t4 (List.mem_of_getElem? (i := 33) rfl) rfl
theorem wd_754 : (Jvm.Cond.methodLink "TermOrdersModel" (109 : Nat) ({ cls := "TermOrdersModel", name := "weighs", desc := "(IIII)Z" } : Jvm.MethodName)) ∈ gw := gw_t4 (List.mem_of_getElem? (i := 34) rfl) rfl
theorem wd_756 : (Jvm.Cond.instanceMethod ({ cls := "TermOrdersModel", name := "weighs", desc := "(IIII)Z" } : Jvm.MethodName)) ∈ gw := gw_t4 (List.mem_of_getElem? (i := 36) rfl) rfl
theorem wd_757 : (Jvm.Cond.code ({ cls := "TermOrdersModel", name := "weighs", desc := "(IIII)Z" } : Jvm.MethodName) prog_8_method_22_code (10 : Nat) (Option.some Jvm.ClassFile.FieldType.boolean)) ∈ gw := gw_t4 (List.mem_of_getElem? (i := 37) rfl) rfl
theorem wd_758 : (Jvm.Cond.methodLink "TermOrdersModel" (99 : Nat) ({ cls := "TermOrdersModel", name := "times", desc := "(IIII)I" } : Jvm.MethodName)) ∈ gw := gw_t4 (List.mem_of_getElem? (i := 38) rfl) rfl
theorem wd_760 : (Jvm.Cond.instanceMethod ({ cls := "TermOrdersModel", name := "times", desc := "(IIII)I" } : Jvm.MethodName)) ∈ gw := gw_t4 (List.mem_of_getElem? (i := 40) rfl) rfl
theorem wd_761 : (Jvm.Cond.code ({ cls := "TermOrdersModel", name := "times", desc := "(IIII)I" } : Jvm.MethodName) prog_8_method_21_code (7 : Nat) (Option.some Jvm.ClassFile.FieldType.int)) ∈ gw := gw_t4 (List.mem_of_getElem? (i := 41) rfl) rfl
theorem wd_762 : (Jvm.Cond.methodLink "TermOrdersLaw" (99 : Nat) ({ cls := "TermOrdersModel", name := "same", desc := "(II)Z" } : Jvm.MethodName)) ∈ gw := gw_t4 (List.mem_of_getElem? (i := 42) rfl) rfl
theorem wd_763 : (Jvm.Cond.instanceMethod ({ cls := "TermOrdersModel", name := "same", desc := "(II)Z" } : Jvm.MethodName)) ∈ gw := gw_t4 (List.mem_of_getElem? (i := 43) rfl) rfl
theorem wd_764 : (Jvm.Cond.selects "TermOrdersModel" ({ cls := "TermOrdersModel", name := "same", desc := "(II)Z" } : Jvm.MethodName) ({ cls := "TermOrdersModel", name := "same", desc := "(II)Z" } : Jvm.MethodName)) ∈ gw := gw_t4 (List.mem_of_getElem? (i := 44) rfl) rfl
theorem wd_765 : (Jvm.Cond.code ({ cls := "TermOrdersModel", name := "same", desc := "(II)Z" } : Jvm.MethodName) prog_8_method_25_code (3 : Nat) (Option.some Jvm.ClassFile.FieldType.boolean)) ∈ gw := gw_t4 (List.mem_of_getElem? (i := 45) rfl) rfl
theorem wd_766 : (Jvm.Cond.methodLink "TermOrdersLaw" (104 : Nat) ({ cls := "TermOrdersModel", name := "admissible", desc := "()Z" } : Jvm.MethodName)) ∈ gw := gw_t4 (List.mem_of_getElem? (i := 46) rfl) rfl
theorem wd_767 : (Jvm.Cond.instanceMethod ({ cls := "TermOrdersModel", name := "admissible", desc := "()Z" } : Jvm.MethodName)) ∈ gw := gw_t4 (List.mem_of_getElem? (i := 47) rfl) rfl
theorem wd_768 : (Jvm.Cond.selects "TermOrdersModel" ({ cls := "TermOrdersModel", name := "admissible", desc := "()Z" } : Jvm.MethodName) ({ cls := "TermOrdersModel", name := "admissible", desc := "()Z" } : Jvm.MethodName)) ∈ gw := gw_t4 (List.mem_of_getElem? (i := 48) rfl) rfl
theorem wd_769 : (Jvm.Cond.code ({ cls := "TermOrdersModel", name := "admissible", desc := "()Z" } : Jvm.MethodName) prog_8_method_27_code (1 : Nat) (Option.some Jvm.ClassFile.FieldType.boolean)) ∈ gw := gw_t4 (List.mem_of_getElem? (i := 49) rfl) rfl
theorem wd_770 : (Jvm.Cond.methodLink "TermOrdersModel" (116 : Nat) ({ cls := "TermOrdersModel", name := "isAdmissible", desc := "()Z" } : Jvm.MethodName)) ∈ gw := gw_t4 (List.mem_of_getElem? (i := 50) rfl) rfl
theorem wd_772 : (Jvm.Cond.instanceMethod ({ cls := "TermOrdersModel", name := "isAdmissible", desc := "()Z" } : Jvm.MethodName)) ∈ gw := gw_t4 (List.mem_of_getElem? (i := 52) rfl) rfl
theorem wd_773 : (Jvm.Cond.code ({ cls := "TermOrdersModel", name := "isAdmissible", desc := "()Z" } : Jvm.MethodName) prog_8_method_26_code (3 : Nat) (Option.some Jvm.ClassFile.FieldType.boolean)) ∈ gw := gw_t4 (List.mem_of_getElem? (i := 53) rfl) rfl
theorem wd_774 : (Jvm.Cond.methodLink "TermOrdersLaw" (107 : Nat) ({ cls := "TermOrdersModel", name := "oriented", desc := "(I)I" } : Jvm.MethodName)) ∈ gw := gw_t4 (List.mem_of_getElem? (i := 54) rfl) rfl
theorem wd_775 : (Jvm.Cond.instanceMethod ({ cls := "TermOrdersModel", name := "oriented", desc := "(I)I" } : Jvm.MethodName)) ∈ gw := gw_t4 (List.mem_of_getElem? (i := 55) rfl) rfl
theorem wd_776 : (Jvm.Cond.selects "TermOrdersModel" ({ cls := "TermOrdersModel", name := "oriented", desc := "(I)I" } : Jvm.MethodName) ({ cls := "TermOrdersModel", name := "oriented", desc := "(I)I" } : Jvm.MethodName)) ∈ gw := gw_t4 (List.mem_of_getElem? (i := 56) rfl) rfl
theorem wd_777 : (Jvm.Cond.code ({ cls := "TermOrdersModel", name := "oriented", desc := "(I)I" } : Jvm.MethodName) prog_8_method_29_code (2 : Nat) (Option.some Jvm.ClassFile.FieldType.int)) ∈ gw := gw_t4 (List.mem_of_getElem? (i := 57) rfl) rfl
theorem wd_778 : (Jvm.Cond.methodLink "TermOrdersModel" (120 : Nat) ({ cls := "TermOrdersModel", name := "orients", desc := "(I)I" } : Jvm.MethodName)) ∈ gw := gw_t4 (List.mem_of_getElem? (i := 58) rfl) rfl
theorem wd_780 : (Jvm.Cond.instanceMethod ({ cls := "TermOrdersModel", name := "orients", desc := "(I)I" } : Jvm.MethodName)) ∈ gw := gw_t4 (List.mem_of_getElem? (i := 60) rfl) rfl
theorem wd_781 : (Jvm.Cond.code ({ cls := "TermOrdersModel", name := "orients", desc := "(I)I" } : Jvm.MethodName) prog_8_method_28_code (4 : Nat) (Option.some Jvm.ClassFile.FieldType.int)) ∈ gw := gw_t4 (List.mem_of_getElem? (i := 61) rfl) rfl
theorem wd_782 : (Jvm.Cond.methodLink "TermOrdersLaw" (110 : Nat) ({ cls := "TermOrdersModel", name := "search", desc := "(I)Z" } : Jvm.MethodName)) ∈ gw := gw_t4 (List.mem_of_getElem? (i := 62) rfl) rfl
theorem wd_783 : (Jvm.Cond.instanceMethod ({ cls := "TermOrdersModel", name := "search", desc := "(I)Z" } : Jvm.MethodName)) ∈ gw := gw_t4 (List.mem_of_getElem? (i := 63) rfl) rfl
theorem wd_784 : (Jvm.Cond.selects "TermOrdersModel" ({ cls := "TermOrdersModel", name := "search", desc := "(I)Z" } : Jvm.MethodName) ({ cls := "TermOrdersModel", name := "search", desc := "(I)Z" } : Jvm.MethodName)) ∈ gw := gw_t4 (List.mem_of_getElem? (i := 64) rfl) rfl
theorem wd_785 : (Jvm.Cond.code ({ cls := "TermOrdersModel", name := "search", desc := "(I)Z" } : Jvm.MethodName) prog_8_method_31_code (4 : Nat) (Option.some Jvm.ClassFile.FieldType.boolean)) ∈ gw := gw_t4 (List.mem_of_getElem? (i := 65) rfl) rfl
theorem wd_786 : (Jvm.Cond.methodLink "TermOrdersModel" (123 : Nat) ({ cls := "TermOrdersModel", name := "ranked", desc := "(I)Z" } : Jvm.MethodName)) ∈ gw := gw_t4 (List.mem_of_getElem? (i := 66) rfl) rfl
theorem wd_788 : (Jvm.Cond.instanceMethod ({ cls := "TermOrdersModel", name := "ranked", desc := "(I)Z" } : Jvm.MethodName)) ∈ gw := gw_t4 (List.mem_of_getElem? (i := 68) rfl) rfl
theorem wd_789 : (Jvm.Cond.code ({ cls := "TermOrdersModel", name := "ranked", desc := "(I)Z" } : Jvm.MethodName) prog_8_method_30_code (5 : Nat) (Option.some Jvm.ClassFile.FieldType.boolean)) ∈ gw := gw_t4 (List.mem_of_getElem? (i := 69) rfl) rfl
theorem wd_790 : (Jvm.Cond.methodLink "TermOrdersLaw" (113 : Nat) ({ cls := "TermOrdersModel", name := "step", desc := "(I)I" } : Jvm.MethodName)) ∈ gw := gw_t4 (List.mem_of_getElem? (i := 70) rfl) rfl
theorem wd_791 : (Jvm.Cond.instanceMethod ({ cls := "TermOrdersModel", name := "step", desc := "(I)I" } : Jvm.MethodName)) ∈ gw := gw_t4 (List.mem_of_getElem? (i := 71) rfl) rfl
theorem wd_792 : (Jvm.Cond.selects "TermOrdersModel" ({ cls := "TermOrdersModel", name := "step", desc := "(I)I" } : Jvm.MethodName) ({ cls := "TermOrdersModel", name := "step", desc := "(I)I" } : Jvm.MethodName)) ∈ gw := gw_t4 (List.mem_of_getElem? (i := 72) rfl) rfl
theorem wd_793 : (Jvm.Cond.code ({ cls := "TermOrdersModel", name := "step", desc := "(I)I" } : Jvm.MethodName) prog_8_method_35_code (10 : Nat) (Option.some Jvm.ClassFile.FieldType.int)) ∈ gw := gw_t4 (List.mem_of_getElem? (i := 73) rfl) rfl
theorem wd_794 : (Jvm.Cond.methodLink "TermOrdersModel" (132 : Nat) ({ cls := "TermOrdersModel", name := "placeOf", desc := "(I)I" } : Jvm.MethodName)) ∈ gw := gw_t4 (List.mem_of_getElem? (i := 74) rfl) rfl
theorem wd_796 : (Jvm.Cond.instanceMethod ({ cls := "TermOrdersModel", name := "placeOf", desc := "(I)I" } : Jvm.MethodName)) ∈ gw := gw_t4 (List.mem_of_getElem? (i := 76) rfl) rfl
theorem wd_797 : (Jvm.Cond.code ({ cls := "TermOrdersModel", name := "placeOf", desc := "(I)I" } : Jvm.MethodName) prog_8_method_34_code (7 : Nat) (Option.some Jvm.ClassFile.FieldType.int)) ∈ gw := gw_t4 (List.mem_of_getElem? (i := 77) rfl) rfl
theorem wd_798 : (Jvm.Cond.methodLink "TermOrdersModel" (129 : Nat) ({ cls := "TermOrdersModel", name := "ruleAt", desc := "(II)I" } : Jvm.MethodName)) ∈ gw := gw_t4 (List.mem_of_getElem? (i := 78) rfl) rfl
theorem wd_800 : (Jvm.Cond.instanceMethod ({ cls := "TermOrdersModel", name := "ruleAt", desc := "(II)I" } : Jvm.MethodName)) ∈ gw := gw_t4 (List.mem_of_getElem? (i := 80) rfl) rfl
theorem wd_801 : (Jvm.Cond.code ({ cls := "TermOrdersModel", name := "ruleAt", desc := "(II)I" } : Jvm.MethodName) prog_8_method_33_code (4 : Nat) (Option.some Jvm.ClassFile.FieldType.int)) ∈ gw := gw_t4 (List.mem_of_getElem? (i := 81) rfl) rfl
theorem wd_802 : (Jvm.Cond.methodLink "TermOrdersModel" (126 : Nat) ({ cls := "TermOrdersModel", name := "matches", desc := "(III)Z" } : Jvm.MethodName)) ∈ gw := gw_t4 (List.mem_of_getElem? (i := 82) rfl) rfl
theorem wd_804 : (Jvm.Cond.instanceMethod ({ cls := "TermOrdersModel", name := "matches", desc := "(III)Z" } : Jvm.MethodName)) ∈ gw := gw_t4 (List.mem_of_getElem? (i := 84) rfl) rfl
theorem wd_805 : (Jvm.Cond.code ({ cls := "TermOrdersModel", name := "matches", desc := "(III)Z" } : Jvm.MethodName) prog_8_method_32_code (9 : Nat) (Option.some Jvm.ClassFile.FieldType.boolean)) ∈ gw := gw_t4 (List.mem_of_getElem? (i := 85) rfl) rfl
theorem wd_806 : (Jvm.Cond.methodLink "TermOrdersLaw" (116 : Nat) ({ cls := "TermOrdersModel", name := "about", desc := "(II)I" } : Jvm.MethodName)) ∈ gw := gw_t4 (List.mem_of_getElem? (i := 86) rfl) rfl
theorem wd_807 : (Jvm.Cond.instanceMethod ({ cls := "TermOrdersModel", name := "about", desc := "(II)I" } : Jvm.MethodName)) ∈ gw := gw_t4 (List.mem_of_getElem? (i := 87) rfl) rfl
theorem wd_808 : (Jvm.Cond.selects "TermOrdersModel" ({ cls := "TermOrdersModel", name := "about", desc := "(II)I" } : Jvm.MethodName) ({ cls := "TermOrdersModel", name := "about", desc := "(II)I" } : Jvm.MethodName)) ∈ gw := gw_t4 (List.mem_of_getElem? (i := 88) rfl) rfl
theorem wd_809 : (Jvm.Cond.code ({ cls := "TermOrdersModel", name := "about", desc := "(II)I" } : Jvm.MethodName) prog_8_method_36_code (4 : Nat) (Option.some Jvm.ClassFile.FieldType.int)) ∈ gw := gw_t4 (List.mem_of_getElem? (i := 89) rfl) rfl
theorem wd_810 : (Jvm.Cond.methodLink "TermOrdersLaw" (119 : Nat) ({ cls := "TermOrdersModel", name := "place", desc := "(II)I" } : Jvm.MethodName)) ∈ gw := gw_t4 (List.mem_of_getElem? (i := 90) rfl) rfl
theorem wd_811 : (Jvm.Cond.instanceMethod ({ cls := "TermOrdersModel", name := "place", desc := "(II)I" } : Jvm.MethodName)) ∈ gw := gw_t4 (List.mem_of_getElem? (i := 91) rfl) rfl
theorem wd_812 : (Jvm.Cond.selects "TermOrdersModel" ({ cls := "TermOrdersModel", name := "place", desc := "(II)I" } : Jvm.MethodName) ({ cls := "TermOrdersModel", name := "place", desc := "(II)I" } : Jvm.MethodName)) ∈ gw := gw_t4 (List.mem_of_getElem? (i := 92) rfl) rfl
theorem wd_813 : (Jvm.Cond.code ({ cls := "TermOrdersModel", name := "place", desc := "(II)I" } : Jvm.MethodName) prog_8_method_37_code (3 : Nat) (Option.some Jvm.ClassFile.FieldType.int)) ∈ gw := gw_t4 (List.mem_of_getElem? (i := 93) rfl) rfl
theorem wd_814 : (Jvm.Cond.methodLink "TermOrdersLaw" (123 : Nat) ({ cls := "TermOrdersModel", name := "count", desc := "(I)I" } : Jvm.MethodName)) ∈ gw := gw_t4 (List.mem_of_getElem? (i := 94) rfl) rfl
theorem wd_815 : (Jvm.Cond.instanceMethod ({ cls := "TermOrdersModel", name := "count", desc := "(I)I" } : Jvm.MethodName)) ∈ gw := gw_t4 (List.mem_of_getElem? (i := 95) rfl) rfl
theorem wd_816 : (Jvm.Cond.selects "TermOrdersModel" ({ cls := "TermOrdersModel", name := "count", desc := "(I)I" } : Jvm.MethodName) ({ cls := "TermOrdersModel", name := "count", desc := "(I)I" } : Jvm.MethodName)) ∈ gw := gw_t4 (List.mem_of_getElem? (i := 96) rfl) rfl
theorem wd_817 : (Jvm.Cond.code ({ cls := "TermOrdersModel", name := "count", desc := "(I)I" } : Jvm.MethodName) prog_8_method_38_code (2 : Nat) (Option.some Jvm.ClassFile.FieldType.int)) ∈ gw := gw_t4 (List.mem_of_getElem? (i := 97) rfl) rfl
theorem wd_818 : (Jvm.Cond.arrayClass Jvm.ClassFile.FieldType.long) ∈ gw := gw_t4 (List.mem_of_getElem? (i := 98) rfl) rfl
theorem wd_819 : (Jvm.Cond.sameMethod "java/lang/Throwable" "java/lang/Throwable" "fillInStackTrace" "(I)Ljava/lang/Throwable;") ∈ gw := gw_t4 (List.mem_of_getElem? (i := 99) rfl) rfl
theorem gw_sel {q : MethodName × Nat} (h : q ∈ lw_privs) : Cond.selects q.1.cls q.1 q.1 ∈ gw := List.mem_filter.mpr ⟨List.mem_append_left _ (List.mem_map.mpr ⟨q, h, rfl⟩), rfl⟩
theorem se_S_haveAdmissibleWeights : Cond.selects "TermOrders$Symbols" ⟨"TermOrders$Symbols", "haveAdmissibleWeights", "()Z"⟩ ⟨"TermOrders$Symbols", "haveAdmissibleWeights", "()Z"⟩ ∈ gw := gw_sel (q := (⟨"TermOrders$Symbols", "haveAdmissibleWeights", "()Z"⟩, 5)) (List.mem_append_left _ (List.mem_of_getElem? (i := 0) rfl))
theorem se_S_mayWeighNothing : Cond.selects "TermOrders$Symbols" ⟨"TermOrders$Symbols", "mayWeighNothing", "(I)Z"⟩ ⟨"TermOrders$Symbols", "mayWeighNothing", "(I)Z"⟩ ∈ gw := gw_sel (q := (⟨"TermOrders$Symbols", "mayWeighNothing", "(I)Z"⟩, 5)) (List.mem_append_left _ (List.mem_of_getElem? (i := 1) rfl))
theorem se_S_isAboveAllOthers : Cond.selects "TermOrders$Symbols" ⟨"TermOrders$Symbols", "isAboveAllOthers", "(I)Z"⟩ ⟨"TermOrders$Symbols", "isAboveAllOthers", "(I)Z"⟩ ∈ gw := gw_sel (q := (⟨"TermOrders$Symbols", "isAboveAllOthers", "(I)Z"⟩, 5)) (List.mem_append_left _ (List.mem_of_getElem? (i := 2) rfl))
theorem se_S_isAbove : Cond.selects "TermOrders$Symbols" ⟨"TermOrders$Symbols", "isAbove", "(II)Z"⟩ ⟨"TermOrders$Symbols", "isAbove", "(II)Z"⟩ ∈ gw := gw_sel (q := (⟨"TermOrders$Symbols", "isAbove", "(II)Z"⟩, 5)) (List.mem_append_left _ (List.mem_of_getElem? (i := 3) rfl))
theorem se_S_add : Cond.selects "TermOrders$Symbols" ⟨"TermOrders$Symbols", "add", "(I)I"⟩ ⟨"TermOrders$Symbols", "add", "(I)I"⟩ ∈ gw := gw_sel (q := (⟨"TermOrders$Symbols", "add", "(I)I"⟩, 5)) (List.mem_append_left _ (List.mem_of_getElem? (i := 5) rfl))
theorem se_D_clear : Cond.selects "TermOrders$Draft" ⟨"TermOrders$Draft", "clear", "()V"⟩ ⟨"TermOrders$Draft", "clear", "()V"⟩ ∈ gw := gw_sel (q := (⟨"TermOrders$Draft", "clear", "()V"⟩, 7)) (List.mem_append_left _ (List.mem_of_getElem? (i := 6) rfl))
theorem se_D_writeVariable : Cond.selects "TermOrders$Draft" ⟨"TermOrders$Draft", "writeVariable", "(I)V"⟩ ⟨"TermOrders$Draft", "writeVariable", "(I)V"⟩ ∈ gw := gw_sel (q := (⟨"TermOrders$Draft", "writeVariable", "(I)V"⟩, 7)) (List.mem_append_left _ (List.mem_of_getElem? (i := 7) rfl))
theorem se_D_write : Cond.selects "TermOrders$Draft" ⟨"TermOrders$Draft", "write", "(II)V"⟩ ⟨"TermOrders$Draft", "write", "(II)V"⟩ ∈ gw := gw_sel (q := (⟨"TermOrders$Draft", "write", "(II)V"⟩, 7)) (List.mem_append_left _ (List.mem_of_getElem? (i := 8) rfl))
theorem se_X_keepDraft : Cond.selects "TermOrders" ⟨"TermOrders", "keepDraft", "()I"⟩ ⟨"TermOrders", "keepDraft", "()I"⟩ ∈ gw := gw_sel (q := (⟨"TermOrders", "keepDraft", "()I"⟩, 6)) (List.mem_append_left _ (List.mem_of_getElem? (i := 9) rfl))
theorem se_D_isWithinLimits : Cond.selects "TermOrders$Draft" ⟨"TermOrders$Draft", "isWithinLimits", "()Z"⟩ ⟨"TermOrders$Draft", "isWithinLimits", "()Z"⟩ ∈ gw := gw_sel (q := (⟨"TermOrders$Draft", "isWithinLimits", "()Z"⟩, 7)) (List.mem_append_left _ (List.mem_of_getElem? (i := 10) rfl))
theorem se_D_measure : Cond.selects "TermOrders$Draft" ⟨"TermOrders$Draft", "measure", "(I)V"⟩ ⟨"TermOrders$Draft", "measure", "(I)V"⟩ ∈ gw := gw_sel (q := (⟨"TermOrders$Draft", "measure", "(I)V"⟩, 7)) (List.mem_append_left _ (List.mem_of_getElem? (i := 11) rfl))
theorem se_D_toTerm : Cond.selects "TermOrders$Draft" ⟨"TermOrders$Draft", "toTerm", "()LTermOrders$Term;"⟩ ⟨"TermOrders$Draft", "toTerm", "()LTermOrders$Term;"⟩ ∈ gw := gw_sel (q := (⟨"TermOrders$Draft", "toTerm", "()LTermOrders$Term;"⟩, 7)) (List.mem_append_left _ (List.mem_of_getElem? (i := 12) rfl))
theorem se_X_checkSymbol : Cond.selects "TermOrders" ⟨"TermOrders", "checkSymbol", "(I)V"⟩ ⟨"TermOrders", "checkSymbol", "(I)V"⟩ ∈ gw := gw_sel (q := (⟨"TermOrders", "checkSymbol", "(I)V"⟩, 6)) (List.mem_append_left _ (List.mem_of_getElem? (i := 13) rfl))
theorem se_D_writeSymbol : Cond.selects "TermOrders$Draft" ⟨"TermOrders$Draft", "writeSymbol", "(I)V"⟩ ⟨"TermOrders$Draft", "writeSymbol", "(I)V"⟩ ∈ gw := gw_sel (q := (⟨"TermOrders$Draft", "writeSymbol", "(I)V"⟩, 7)) (List.mem_append_left _ (List.mem_of_getElem? (i := 14) rfl))
theorem se_X_termOf : Cond.selects "TermOrders" ⟨"TermOrders", "termOf", "(I)LTermOrders$Term;"⟩ ⟨"TermOrders", "termOf", "(I)LTermOrders$Term;"⟩ ∈ gw := gw_sel (q := (⟨"TermOrders", "termOf", "(I)LTermOrders$Term;"⟩, 6)) (List.mem_append_left _ (List.mem_of_getElem? (i := 15) rfl))
theorem se_D_copyPlaces : Cond.selects "TermOrders$Draft" ⟨"TermOrders$Draft", "copyPlaces", "(LTermOrders$Term;II)V"⟩ ⟨"TermOrders$Draft", "copyPlaces", "(LTermOrders$Term;II)V"⟩ ∈ gw := gw_sel (q := (⟨"TermOrders$Draft", "copyPlaces", "(LTermOrders$Term;II)V"⟩, 7)) (List.mem_append_right _ (List.mem_append_left _ (List.mem_of_getElem? (i := 0) rfl)))
theorem se_T_isVariable : Cond.selects "TermOrders$Term" ⟨"TermOrders$Term", "isVariable", "(I)Z"⟩ ⟨"TermOrders$Term", "isVariable", "(I)Z"⟩ ∈ gw := gw_sel (q := (⟨"TermOrders$Term", "isVariable", "(I)Z"⟩, 5)) (List.mem_append_right _ (List.mem_append_left _ (List.mem_of_getElem? (i := 1) rfl)))
theorem se_T_hasAllVariablesOf : Cond.selects "TermOrders$Term" ⟨"TermOrders$Term", "hasAllVariablesOf", "(LTermOrders$Term;)Z"⟩ ⟨"TermOrders$Term", "hasAllVariablesOf", "(LTermOrders$Term;)Z"⟩ ∈ gw := gw_sel (q := (⟨"TermOrders$Term", "hasAllVariablesOf", "(LTermOrders$Term;)Z"⟩, 5)) (List.mem_append_right _ (List.mem_append_left _ (List.mem_of_getElem? (i := 2) rfl)))
theorem se_T_countInPlace : Cond.selects "TermOrders$Term" ⟨"TermOrders$Term", "countInPlace", "(II)I"⟩ ⟨"TermOrders$Term", "countInPlace", "(II)I"⟩ ∈ gw := gw_sel (q := (⟨"TermOrders$Term", "countInPlace", "(II)I"⟩, 5)) (List.mem_append_right _ (List.mem_append_left _ (List.mem_of_getElem? (i := 3) rfl)))
theorem se_R_add : Cond.selects "TermOrders$Rules" ⟨"TermOrders$Rules", "add", "(LTermOrders$Term;LTermOrders$Term;)I"⟩ ⟨"TermOrders$Rules", "add", "(LTermOrders$Term;LTermOrders$Term;)I"⟩ ∈ gw := gw_sel (q := (⟨"TermOrders$Rules", "add", "(LTermOrders$Term;LTermOrders$Term;)I"⟩, 4)) (List.mem_append_right _ (List.mem_append_left _ (List.mem_of_getElem? (i := 4) rfl)))
theorem se_X_checkOrder : Cond.selects "TermOrders" ⟨"TermOrders", "checkOrder", "(I)V"⟩ ⟨"TermOrders", "checkOrder", "(I)V"⟩ ∈ gw := gw_sel (q := (⟨"TermOrders", "checkOrder", "(I)V"⟩, 6)) (List.mem_append_right _ (List.mem_append_left _ (List.mem_of_getElem? (i := 5) rfl)))
theorem se_O_isGreater : Cond.selects "TermOrders$Orders" ⟨"TermOrders$Orders", "isGreater", "(ILTermOrders$Term;LTermOrders$Term;)Z"⟩ ⟨"TermOrders$Orders", "isGreater", "(ILTermOrders$Term;LTermOrders$Term;)Z"⟩ ∈ gw := gw_sel (q := (⟨"TermOrders$Orders", "isGreater", "(ILTermOrders$Term;LTermOrders$Term;)Z"⟩, 2)) (List.mem_append_right _ (List.mem_append_left _ (List.mem_of_getElem? (i := 6) rfl)))
theorem se_O_isGreaterByPaths : Cond.selects "TermOrders$Orders" ⟨"TermOrders$Orders", "isGreaterByPaths", "(LTermOrders$Term;LTermOrders$Term;)Z"⟩ ⟨"TermOrders$Orders", "isGreaterByPaths", "(LTermOrders$Term;LTermOrders$Term;)Z"⟩ ∈ gw := gw_sel (q := (⟨"TermOrders$Orders", "isGreaterByPaths", "(LTermOrders$Term;LTermOrders$Term;)Z"⟩, 2)) (List.mem_append_right _ (List.mem_append_left _ (List.mem_of_getElem? (i := 7) rfl)))
theorem se_O_isPlaceGreaterByPaths : Cond.selects "TermOrders$Orders" ⟨"TermOrders$Orders", "isPlaceGreaterByPaths", "(LTermOrders$Term;ILTermOrders$Term;I)Z"⟩ ⟨"TermOrders$Orders", "isPlaceGreaterByPaths", "(LTermOrders$Term;ILTermOrders$Term;I)Z"⟩ ∈ gw := gw_sel (q := (⟨"TermOrders$Orders", "isPlaceGreaterByPaths", "(LTermOrders$Term;ILTermOrders$Term;I)Z"⟩, 2)) (List.mem_append_right _ (List.mem_append_left _ (List.mem_of_getElem? (i := 8) rfl)))
theorem se_O_hasPartNotBelow : Cond.selects "TermOrders$Orders" ⟨"TermOrders$Orders", "hasPartNotBelow", "(LTermOrders$Term;ILTermOrders$Term;I)Z"⟩ ⟨"TermOrders$Orders", "hasPartNotBelow", "(LTermOrders$Term;ILTermOrders$Term;I)Z"⟩ ∈ gw := gw_sel (q := (⟨"TermOrders$Orders", "hasPartNotBelow", "(LTermOrders$Term;ILTermOrders$Term;I)Z"⟩, 2)) (List.mem_append_right _ (List.mem_append_left _ (List.mem_of_getElem? (i := 9) rfl)))
theorem se_T_partOf : Cond.selects "TermOrders$Term" ⟨"TermOrders$Term", "partOf", "(II)I"⟩ ⟨"TermOrders$Term", "partOf", "(II)I"⟩ ∈ gw := gw_sel (q := (⟨"TermOrders$Term", "partOf", "(II)I"⟩, 5)) (List.mem_append_right _ (List.mem_append_left _ (List.mem_of_getElem? (i := 10) rfl)))
theorem se_T_isSamePlace : Cond.selects "TermOrders$Term" ⟨"TermOrders$Term", "isSamePlace", "(ILTermOrders$Term;I)Z"⟩ ⟨"TermOrders$Term", "isSamePlace", "(ILTermOrders$Term;I)Z"⟩ ∈ gw := gw_sel (q := (⟨"TermOrders$Term", "isSamePlace", "(ILTermOrders$Term;I)Z"⟩, 5)) (List.mem_append_right _ (List.mem_append_left _ (List.mem_of_getElem? (i := 11) rfl)))
theorem se_O_isGreaterThanParts : Cond.selects "TermOrders$Orders" ⟨"TermOrders$Orders", "isGreaterThanParts", "(ILTermOrders$Term;I)Z"⟩ ⟨"TermOrders$Orders", "isGreaterThanParts", "(ILTermOrders$Term;I)Z"⟩ ∈ gw := gw_sel (q := (⟨"TermOrders$Orders", "isGreaterThanParts", "(ILTermOrders$Term;I)Z"⟩, 2)) (List.mem_append_right _ (List.mem_append_left _ (List.mem_of_getElem? (i := 12) rfl)))
theorem se_T_firstOtherPart : Cond.selects "TermOrders$Term" ⟨"TermOrders$Term", "firstOtherPart", "(ILTermOrders$Term;I)I"⟩ ⟨"TermOrders$Term", "firstOtherPart", "(ILTermOrders$Term;I)I"⟩ ∈ gw := gw_sel (q := (⟨"TermOrders$Term", "firstOtherPart", "(ILTermOrders$Term;I)I"⟩, 5)) (List.mem_append_right _ (List.mem_append_left _ (List.mem_of_getElem? (i := 13) rfl)))
theorem se_O_isGreaterByWeights : Cond.selects "TermOrders$Orders" ⟨"TermOrders$Orders", "isGreaterByWeights", "(LTermOrders$Term;LTermOrders$Term;)Z"⟩ ⟨"TermOrders$Orders", "isGreaterByWeights", "(LTermOrders$Term;LTermOrders$Term;)Z"⟩ ∈ gw := gw_sel (q := (⟨"TermOrders$Orders", "isGreaterByWeights", "(LTermOrders$Term;LTermOrders$Term;)Z"⟩, 2)) (List.mem_append_right _ (List.mem_append_left _ (List.mem_of_getElem? (i := 14) rfl)))
theorem se_T_hasEachVariableAsOften : Cond.selects "TermOrders$Term" ⟨"TermOrders$Term", "hasEachVariableAsOften", "(ILTermOrders$Term;I)Z"⟩ ⟨"TermOrders$Term", "hasEachVariableAsOften", "(ILTermOrders$Term;I)Z"⟩ ∈ gw := gw_sel (q := (⟨"TermOrders$Term", "hasEachVariableAsOften", "(ILTermOrders$Term;I)Z"⟩, 5)) (List.mem_append_right _ (List.mem_append_left _ (List.mem_of_getElem? (i := 15) rfl)))
theorem se_S_weightOfPlace : Cond.selects "TermOrders$Symbols" ⟨"TermOrders$Symbols", "weightOfPlace", "(LTermOrders$Term;I)I"⟩ ⟨"TermOrders$Symbols", "weightOfPlace", "(LTermOrders$Term;I)I"⟩ ∈ gw := gw_sel (q := (⟨"TermOrders$Symbols", "weightOfPlace", "(LTermOrders$Term;I)I"⟩, 5)) (List.mem_append_right _ (List.mem_append_right _ (List.mem_append_left _ (List.mem_of_getElem? (i := 0) rfl))))
theorem se_T_isVariableWithin : Cond.selects "TermOrders$Term" ⟨"TermOrders$Term", "isVariableWithin", "(II)Z"⟩ ⟨"TermOrders$Term", "isVariableWithin", "(II)Z"⟩ ∈ gw := gw_sel (q := (⟨"TermOrders$Term", "isVariableWithin", "(II)Z"⟩, 5)) (List.mem_append_right _ (List.mem_append_right _ (List.mem_append_left _ (List.mem_of_getElem? (i := 1) rfl))))
theorem se_S_saveRanks : Cond.selects "TermOrders$Symbols" ⟨"TermOrders$Symbols", "saveRanks", "()V"⟩ ⟨"TermOrders$Symbols", "saveRanks", "()V"⟩ ∈ gw := gw_sel (q := (⟨"TermOrders$Symbols", "saveRanks", "()V"⟩, 5)) (List.mem_append_right _ (List.mem_append_right _ (List.mem_append_left _ (List.mem_of_getElem? (i := 2) rfl))))
theorem se_S_takeFirstRanks : Cond.selects "TermOrders$Symbols" ⟨"TermOrders$Symbols", "takeFirstRanks", "()V"⟩ ⟨"TermOrders$Symbols", "takeFirstRanks", "()V"⟩ ∈ gw := gw_sel (q := (⟨"TermOrders$Symbols", "takeFirstRanks", "()V"⟩, 5)) (List.mem_append_right _ (List.mem_append_right _ (List.mem_append_left _ (List.mem_of_getElem? (i := 3) rfl))))
theorem se_X_isOrientedAsDue : Cond.selects "TermOrders" ⟨"TermOrders", "isOrientedAsDue", "(I)Z"⟩ ⟨"TermOrders", "isOrientedAsDue", "(I)Z"⟩ ∈ gw := gw_sel (q := (⟨"TermOrders", "isOrientedAsDue", "(I)Z"⟩, 6)) (List.mem_append_right _ (List.mem_append_right _ (List.mem_append_left _ (List.mem_of_getElem? (i := 4) rfl))))
theorem se_S_takeNextRanks : Cond.selects "TermOrders$Symbols" ⟨"TermOrders$Symbols", "takeNextRanks", "()Z"⟩ ⟨"TermOrders$Symbols", "takeNextRanks", "()Z"⟩ ∈ gw := gw_sel (q := (⟨"TermOrders$Symbols", "takeNextRanks", "()Z"⟩, 5)) (List.mem_append_right _ (List.mem_append_right _ (List.mem_append_left _ (List.mem_of_getElem? (i := 5) rfl))))
theorem se_S_lastBelowItsNext : Cond.selects "TermOrders$Symbols" ⟨"TermOrders$Symbols", "lastBelowItsNext", "()I"⟩ ⟨"TermOrders$Symbols", "lastBelowItsNext", "()I"⟩ ∈ gw := gw_sel (q := (⟨"TermOrders$Symbols", "lastBelowItsNext", "()I"⟩, 5)) (List.mem_append_right _ (List.mem_append_right _ (List.mem_append_left _ (List.mem_of_getElem? (i := 6) rfl))))
theorem se_S_lastAbove : Cond.selects "TermOrders$Symbols" ⟨"TermOrders$Symbols", "lastAbove", "(I)I"⟩ ⟨"TermOrders$Symbols", "lastAbove", "(I)I"⟩ ∈ gw := gw_sel (q := (⟨"TermOrders$Symbols", "lastAbove", "(I)I"⟩, 5)) (List.mem_append_right _ (List.mem_append_right _ (List.mem_append_left _ (List.mem_of_getElem? (i := 7) rfl))))
theorem se_S_swapRanks : Cond.selects "TermOrders$Symbols" ⟨"TermOrders$Symbols", "swapRanks", "(II)V"⟩ ⟨"TermOrders$Symbols", "swapRanks", "(II)V"⟩ ∈ gw := gw_sel (q := (⟨"TermOrders$Symbols", "swapRanks", "(II)V"⟩, 5)) (List.mem_append_right _ (List.mem_append_right _ (List.mem_append_left _ (List.mem_of_getElem? (i := 8) rfl))))
theorem se_S_restoreRanks : Cond.selects "TermOrders$Symbols" ⟨"TermOrders$Symbols", "restoreRanks", "()V"⟩ ⟨"TermOrders$Symbols", "restoreRanks", "()V"⟩ ∈ gw := gw_sel (q := (⟨"TermOrders$Symbols", "restoreRanks", "()V"⟩, 5)) (List.mem_append_right _ (List.mem_append_right _ (List.mem_append_left _ (List.mem_of_getElem? (i := 9) rfl))))
theorem se_R_writeStep : Cond.selects "TermOrders$Rules" ⟨"TermOrders$Rules", "writeStep", "(LTermOrders$Term;LTermOrders$Draft;)Z"⟩ ⟨"TermOrders$Rules", "writeStep", "(LTermOrders$Term;LTermOrders$Draft;)Z"⟩ ∈ gw := gw_sel (q := (⟨"TermOrders$Rules", "writeStep", "(LTermOrders$Term;LTermOrders$Draft;)Z"⟩, 4)) (List.mem_append_right _ (List.mem_append_right _ (List.mem_append_left _ (List.mem_of_getElem? (i := 10) rfl))))
theorem se_R_firstInnermostPlace : Cond.selects "TermOrders$Rules" ⟨"TermOrders$Rules", "firstInnermostPlace", "(LTermOrders$Term;)I"⟩ ⟨"TermOrders$Rules", "firstInnermostPlace", "(LTermOrders$Term;)I"⟩ ∈ gw := gw_sel (q := (⟨"TermOrders$Rules", "firstInnermostPlace", "(LTermOrders$Term;)I"⟩, 4)) (List.mem_append_right _ (List.mem_append_right _ (List.mem_append_left _ (List.mem_of_getElem? (i := 11) rfl))))
theorem se_R_leastMatchingRule : Cond.selects "TermOrders$Rules" ⟨"TermOrders$Rules", "leastMatchingRule", "(LTermOrders$Term;I)I"⟩ ⟨"TermOrders$Rules", "leastMatchingRule", "(LTermOrders$Term;I)I"⟩ ∈ gw := gw_sel (q := (⟨"TermOrders$Rules", "leastMatchingRule", "(LTermOrders$Term;I)I"⟩, 4)) (List.mem_append_right _ (List.mem_append_right _ (List.mem_append_left _ (List.mem_of_getElem? (i := 12) rfl))))
theorem se_R_bindMatch : Cond.selects "TermOrders$Rules" ⟨"TermOrders$Rules", "bindMatch", "(LTermOrders$Term;LTermOrders$Term;I)Z"⟩ ⟨"TermOrders$Rules", "bindMatch", "(LTermOrders$Term;LTermOrders$Term;I)Z"⟩ ∈ gw := gw_sel (q := (⟨"TermOrders$Rules", "bindMatch", "(LTermOrders$Term;LTermOrders$Term;I)Z"⟩, 4)) (List.mem_append_right _ (List.mem_append_right _ (List.mem_append_left _ (List.mem_of_getElem? (i := 13) rfl))))
theorem se_R_bind : Cond.selects "TermOrders$Rules" ⟨"TermOrders$Rules", "bind", "(ILTermOrders$Term;I)Z"⟩ ⟨"TermOrders$Rules", "bind", "(ILTermOrders$Term;I)Z"⟩ ∈ gw := gw_sel (q := (⟨"TermOrders$Rules", "bind", "(ILTermOrders$Term;I)Z"⟩, 4)) (List.mem_append_right _ (List.mem_append_right _ (List.mem_append_left _ (List.mem_of_getElem? (i := 14) rfl))))
theorem se_R_writeBound : Cond.selects "TermOrders$Rules" ⟨"TermOrders$Rules", "writeBound", "(LTermOrders$Term;LTermOrders$Term;LTermOrders$Draft;)V"⟩ ⟨"TermOrders$Rules", "writeBound", "(LTermOrders$Term;LTermOrders$Term;LTermOrders$Draft;)V"⟩ ∈ gw := gw_sel (q := (⟨"TermOrders$Rules", "writeBound", "(LTermOrders$Term;LTermOrders$Term;LTermOrders$Draft;)V"⟩, 4)) (List.mem_append_right _ (List.mem_append_right _ (List.mem_append_left _ (List.mem_of_getElem? (i := 15) rfl))))
theorem se_M_isSymbol : Cond.selects "TermOrdersModel" ⟨"TermOrdersModel", "isSymbol", "(I)Z"⟩ ⟨"TermOrdersModel", "isSymbol", "(I)Z"⟩ ∈ gw := gw_sel (q := (⟨"TermOrdersModel", "isSymbol", "(I)Z"⟩, 17)) (List.mem_append_right _ (List.mem_append_right _ (List.mem_append_right _ (List.mem_append_left _ (List.mem_of_getElem? (i := 0) rfl)))))
theorem se_M_isTerm : Cond.selects "TermOrdersModel" ⟨"TermOrdersModel", "isTerm", "(I)Z"⟩ ⟨"TermOrdersModel", "isTerm", "(I)Z"⟩ ∈ gw := gw_sel (q := (⟨"TermOrdersModel", "isTerm", "(I)Z"⟩, 17)) (List.mem_append_right _ (List.mem_append_right _ (List.mem_append_right _ (List.mem_append_left _ (List.mem_of_getElem? (i := 1) rfl)))))
theorem se_M_append : Cond.selects "TermOrdersModel" ⟨"TermOrdersModel", "append", "(IIII)I"⟩ ⟨"TermOrdersModel", "append", "(IIII)I"⟩ ∈ gw := gw_sel (q := (⟨"TermOrdersModel", "append", "(IIII)I"⟩, 17)) (List.mem_append_right _ (List.mem_append_right _ (List.mem_append_right _ (List.mem_append_left _ (List.mem_of_getElem? (i := 2) rfl)))))
theorem se_M_keep : Cond.selects "TermOrdersModel" ⟨"TermOrdersModel", "keep", "(I)I"⟩ ⟨"TermOrdersModel", "keep", "(I)I"⟩ ∈ gw := gw_sel (q := (⟨"TermOrdersModel", "keep", "(I)I"⟩, 17)) (List.mem_append_right _ (List.mem_append_right _ (List.mem_append_right _ (List.mem_append_left _ (List.mem_of_getElem? (i := 3) rfl)))))
theorem se_M_height : Cond.selects "TermOrdersModel" ⟨"TermOrdersModel", "height", "(II)I"⟩ ⟨"TermOrdersModel", "height", "(II)I"⟩ ∈ gw := gw_sel (q := (⟨"TermOrdersModel", "height", "(II)I"⟩, 17)) (List.mem_append_right _ (List.mem_append_right _ (List.mem_append_right _ (List.mem_append_left _ (List.mem_of_getElem? (i := 4) rfl)))))
theorem se_M_many : Cond.selects "TermOrdersModel" ⟨"TermOrdersModel", "many", "(I)I"⟩ ⟨"TermOrdersModel", "many", "(I)I"⟩ ∈ gw := gw_sel (q := (⟨"TermOrdersModel", "many", "(I)I"⟩, 17)) (List.mem_append_right _ (List.mem_append_right _ (List.mem_append_right _ (List.mem_append_left _ (List.mem_of_getElem? (i := 5) rfl)))))
theorem se_M_end : Cond.selects "TermOrdersModel" ⟨"TermOrdersModel", "end", "(II)I"⟩ ⟨"TermOrdersModel", "end", "(II)I"⟩ ∈ gw := gw_sel (q := (⟨"TermOrdersModel", "end", "(II)I"⟩, 17)) (List.mem_append_right _ (List.mem_append_right _ (List.mem_append_right _ (List.mem_append_left _ (List.mem_of_getElem? (i := 6) rfl)))))
theorem se_M_has : Cond.selects "TermOrdersModel" ⟨"TermOrdersModel", "has", "(II)Z"⟩ ⟨"TermOrdersModel", "has", "(II)Z"⟩ ∈ gw := gw_sel (q := (⟨"TermOrdersModel", "has", "(II)Z"⟩, 17)) (List.mem_append_right _ (List.mem_append_right _ (List.mem_append_right _ (List.mem_append_left _ (List.mem_of_getElem? (i := 7) rfl)))))
theorem se_M_isGreater : Cond.selects "TermOrdersModel" ⟨"TermOrdersModel", "isGreater", "(III)Z"⟩ ⟨"TermOrdersModel", "isGreater", "(III)Z"⟩ ∈ gw := gw_sel (q := (⟨"TermOrdersModel", "isGreater", "(III)Z"⟩, 17)) (List.mem_append_right _ (List.mem_append_right _ (List.mem_append_right _ (List.mem_append_left _ (List.mem_of_getElem? (i := 8) rfl)))))
theorem se_M_weighed : Cond.selects "TermOrdersModel" ⟨"TermOrdersModel", "weighed", "(III)I"⟩ ⟨"TermOrdersModel", "weighed", "(III)I"⟩ ∈ gw := gw_sel (q := (⟨"TermOrdersModel", "weighed", "(III)I"⟩, 17)) (List.mem_append_right _ (List.mem_append_right _ (List.mem_append_right _ (List.mem_append_left _ (List.mem_of_getElem? (i := 9) rfl)))))
theorem se_M_path : Cond.selects "TermOrdersModel" ⟨"TermOrdersModel", "path", "(IIII)Z"⟩ ⟨"TermOrdersModel", "path", "(IIII)Z"⟩ ∈ gw := gw_sel (q := (⟨"TermOrdersModel", "path", "(IIII)Z"⟩, 17)) (List.mem_append_right _ (List.mem_append_right _ (List.mem_append_right _ (List.mem_append_left _ (List.mem_of_getElem? (i := 10) rfl)))))
theorem se_M_alike : Cond.selects "TermOrdersModel" ⟨"TermOrdersModel", "alike", "(IIII)Z"⟩ ⟨"TermOrdersModel", "alike", "(IIII)Z"⟩ ∈ gw := gw_sel (q := (⟨"TermOrdersModel", "alike", "(IIII)Z"⟩, 17)) (List.mem_append_right _ (List.mem_append_right _ (List.mem_append_right _ (List.mem_append_left _ (List.mem_of_getElem? (i := 11) rfl)))))
theorem se_M_inOrder : Cond.selects "TermOrdersModel" ⟨"TermOrdersModel", "inOrder", "(IIII)Z"⟩ ⟨"TermOrdersModel", "inOrder", "(IIII)Z"⟩ ∈ gw := gw_sel (q := (⟨"TermOrdersModel", "inOrder", "(IIII)Z"⟩, 17)) (List.mem_append_right _ (List.mem_append_right _ (List.mem_append_right _ (List.mem_append_left _ (List.mem_of_getElem? (i := 12) rfl)))))
theorem se_M_weighs : Cond.selects "TermOrdersModel" ⟨"TermOrdersModel", "weighs", "(IIII)Z"⟩ ⟨"TermOrdersModel", "weighs", "(IIII)Z"⟩ ∈ gw := gw_sel (q := (⟨"TermOrdersModel", "weighs", "(IIII)Z"⟩, 17)) (List.mem_append_right _ (List.mem_append_right _ (List.mem_append_right _ (List.mem_append_left _ (List.mem_of_getElem? (i := 13) rfl)))))
theorem se_M_times : Cond.selects "TermOrdersModel" ⟨"TermOrdersModel", "times", "(IIII)I"⟩ ⟨"TermOrdersModel", "times", "(IIII)I"⟩ ∈ gw := gw_sel (q := (⟨"TermOrdersModel", "times", "(IIII)I"⟩, 17)) (List.mem_append_right _ (List.mem_append_right _ (List.mem_append_right _ (List.mem_append_left _ (List.mem_of_getElem? (i := 14) rfl)))))
theorem se_M_isAdmissible : Cond.selects "TermOrdersModel" ⟨"TermOrdersModel", "isAdmissible", "()Z"⟩ ⟨"TermOrdersModel", "isAdmissible", "()Z"⟩ ∈ gw := gw_sel (q := (⟨"TermOrdersModel", "isAdmissible", "()Z"⟩, 17)) (List.mem_append_right _ (List.mem_append_right _ (List.mem_append_right _ (List.mem_append_left _ (List.mem_of_getElem? (i := 15) rfl)))))
theorem se_M_orients : Cond.selects "TermOrdersModel" ⟨"TermOrdersModel", "orients", "(I)I"⟩ ⟨"TermOrdersModel", "orients", "(I)I"⟩ ∈ gw := gw_sel (q := (⟨"TermOrdersModel", "orients", "(I)I"⟩, 17)) (List.mem_append_right _ (List.mem_append_right _ (List.mem_append_right _ (List.mem_append_right _ (List.mem_of_getElem? (i := 0) rfl)))))
theorem se_M_ranked : Cond.selects "TermOrdersModel" ⟨"TermOrdersModel", "ranked", "(I)Z"⟩ ⟨"TermOrdersModel", "ranked", "(I)Z"⟩ ∈ gw := gw_sel (q := (⟨"TermOrdersModel", "ranked", "(I)Z"⟩, 17)) (List.mem_append_right _ (List.mem_append_right _ (List.mem_append_right _ (List.mem_append_right _ (List.mem_of_getElem? (i := 1) rfl)))))
theorem se_M_placeOf : Cond.selects "TermOrdersModel" ⟨"TermOrdersModel", "placeOf", "(I)I"⟩ ⟨"TermOrdersModel", "placeOf", "(I)I"⟩ ∈ gw := gw_sel (q := (⟨"TermOrdersModel", "placeOf", "(I)I"⟩, 17)) (List.mem_append_right _ (List.mem_append_right _ (List.mem_append_right _ (List.mem_append_right _ (List.mem_of_getElem? (i := 2) rfl)))))
theorem se_M_ruleAt : Cond.selects "TermOrdersModel" ⟨"TermOrdersModel", "ruleAt", "(II)I"⟩ ⟨"TermOrdersModel", "ruleAt", "(II)I"⟩ ∈ gw := gw_sel (q := (⟨"TermOrdersModel", "ruleAt", "(II)I"⟩, 17)) (List.mem_append_right _ (List.mem_append_right _ (List.mem_append_right _ (List.mem_append_right _ (List.mem_of_getElem? (i := 3) rfl)))))
theorem se_M_matches : Cond.selects "TermOrdersModel" ⟨"TermOrdersModel", "matches", "(III)Z"⟩ ⟨"TermOrdersModel", "matches", "(III)Z"⟩ ∈ gw := gw_sel (q := (⟨"TermOrdersModel", "matches", "(III)Z"⟩, 17)) (List.mem_append_right _ (List.mem_append_right _ (List.mem_append_right _ (List.mem_append_right _ (List.mem_of_getElem? (i := 4) rfl)))))
def nwL : List Cond := [(Jvm.Cond.methodLinkNest "TermOrders" (9 : Nat) ({ cls := "TermOrders$Symbols", name := "<init>", desc := "()V" } : Jvm.MethodName) "TermOrders"), (Jvm.Cond.fieldLinkNest "TermOrders$Draft" (40 : Nat) "TermOrders$Symbols" "arities" "[I" "TermOrders"), (Jvm.Cond.fieldLinkNest "TermOrders" (87 : Nat) "TermOrders$Symbols" "arities" "[I" "TermOrders"), (Jvm.Cond.fieldLinkNest "TermOrders" (122 : Nat) "TermOrders$Symbols" "ranks" "[I" "TermOrders"), (Jvm.Cond.fieldLinkNest "TermOrders" (125 : Nat) "TermOrders$Symbols" "weights" "[I" "TermOrders"), (Jvm.Cond.fieldLinkNest "TermOrders" (56 : Nat) "TermOrders$Symbols" "count" "I" "TermOrders"), (Jvm.Cond.methodLinkNest "TermOrders" (18 : Nat) ({ cls := "TermOrders$Draft", name := "<init>", desc := "(LTermOrders$Symbols;)V" } : Jvm.MethodName) "TermOrders"), (Jvm.Cond.arrayOver (Jvm.ClassFile.FieldType.object "TermOrders$Term")), (Jvm.Cond.methodLinkNest "TermOrders" (33 : Nat) ({ cls := "TermOrders$Rules", name := "<init>", desc := "()V" } : Jvm.MethodName) "TermOrders"), (Jvm.Cond.fieldLinkNest "TermOrders" (143 : Nat) "TermOrders$Rules" "lefts" "[LTermOrders$Term;" "TermOrders"), (Jvm.Cond.fieldLinkNest "TermOrders" (146 : Nat) "TermOrders$Rules" "rights" "[LTermOrders$Term;" "TermOrders"), (Jvm.Cond.fieldLinkNest "TermOrders" (112 : Nat) "TermOrders$Rules" "count" "I" "TermOrders"), (Jvm.Cond.methodLinkNest "TermOrders" (40 : Nat) ({ cls := "TermOrders$Orders", name := "<init>", desc := "(LTermOrders$Symbols;)V" } : Jvm.MethodName) "TermOrders"), (Jvm.Cond.methodLinkNest "TermOrders" (139 : Nat) ({ cls := "TermOrders$Symbols", name := "haveAdmissibleWeights", desc := "()Z" } : Jvm.MethodName) "TermOrders"), (Jvm.Cond.castable "java/lang/IllegalArgumentException" "java/lang/IllegalArgumentException"), (Jvm.Cond.castable "java/lang/IllegalStateException" "java/lang/IllegalStateException"), (Jvm.Cond.methodLinkNest "TermOrders" (64 : Nat) ({ cls := "TermOrders$Symbols", name := "add", desc := "(I)I" } : Jvm.MethodName) "TermOrders"), (Jvm.Cond.methodLinkNest "TermOrders" (70 : Nat) ({ cls := "TermOrders$Draft", name := "clear", desc := "()V" } : Jvm.MethodName) "TermOrders"), (Jvm.Cond.methodLinkNest "TermOrders" (73 : Nat) ({ cls := "TermOrders$Draft", name := "writeVariable", desc := "(I)V" } : Jvm.MethodName) "TermOrders"), (Jvm.Cond.methodLinkNest "TermOrders" (191 : Nat) ({ cls := "TermOrders$Draft", name := "isWithinLimits", desc := "()Z" } : Jvm.MethodName) "TermOrders"), (Jvm.Cond.methodLinkNest "TermOrders" (198 : Nat) ({ cls := "TermOrders$Draft", name := "toTerm", desc := "()LTermOrders$Term;" } : Jvm.MethodName) "TermOrders"), (Jvm.Cond.castable "[I" "java/lang/Cloneable"), (Jvm.Cond.methodLinkNest "TermOrders$Draft" (65 : Nat) ({ cls := "TermOrders$Term", name := "<init>", desc := "([I[I[II)V" } : Jvm.MethodName) "TermOrders"), (Jvm.Cond.fieldLinkNest "TermOrders$Orders" (47 : Nat) "TermOrders$Term" "heads" "[I" "TermOrders"), (Jvm.Cond.fieldLinkNest "TermOrders$Rules" (52 : Nat) "TermOrders$Term" "heads" "[I" "TermOrders"), (Jvm.Cond.fieldLinkNest "TermOrders$Draft" (45 : Nat) "TermOrders$Term" "heads" "[I" "TermOrders"), (Jvm.Cond.fieldLinkNest "TermOrders$Symbols" (65 : Nat) "TermOrders$Term" "heads" "[I" "TermOrders"), (Jvm.Cond.fieldLinkNest "TermOrders" (168 : Nat) "TermOrders$Term" "heads" "[I" "TermOrders"), (Jvm.Cond.fieldLinkNest "TermOrders$Orders" (65 : Nat) "TermOrders$Term" "partCounts" "[I" "TermOrders"), (Jvm.Cond.fieldLinkNest "TermOrders$Draft" (48 : Nat) "TermOrders$Term" "partCounts" "[I" "TermOrders"), (Jvm.Cond.fieldLinkNest "TermOrders$Rules" (79 : Nat) "TermOrders$Term" "partCounts" "[I" "TermOrders"), (Jvm.Cond.fieldLinkNest "TermOrders$Rules" (35 : Nat) "TermOrders$Term" "ends" "[I" "TermOrders"), (Jvm.Cond.fieldLinkNest "TermOrders$Symbols" (57 : Nat) "TermOrders$Term" "ends" "[I" "TermOrders"), (Jvm.Cond.fieldLinkNest "TermOrders$Orders" (26 : Nat) "TermOrders$Term" "size" "I" "TermOrders"), (Jvm.Cond.fieldLinkNest "TermOrders$Rules" (28 : Nat) "TermOrders$Term" "size" "I" "TermOrders"), (Jvm.Cond.fieldLinkNest "TermOrders" (95 : Nat) "TermOrders$Term" "size" "I" "TermOrders"), (Jvm.Cond.fieldLinkNest "TermOrders" (171 : Nat) "TermOrders$Term" "height" "I" "TermOrders"), (Jvm.Cond.methodLinkNest "TermOrders" (84 : Nat) ({ cls := "TermOrders$Draft", name := "writeSymbol", desc := "(I)V" } : Jvm.MethodName) "TermOrders"), (Jvm.Cond.methodLinkNest "TermOrders" (98 : Nat) ({ cls := "TermOrders$Draft", name := "copyPlaces", desc := "(LTermOrders$Term;II)V" } : Jvm.MethodName) "TermOrders"), (Jvm.Cond.methodLinkNest "TermOrders" (102 : Nat) ({ cls := "TermOrders$Term", name := "isVariable", desc := "(I)Z" } : Jvm.MethodName) "TermOrders"), (Jvm.Cond.methodLinkNest "TermOrders" (106 : Nat) ({ cls := "TermOrders$Term", name := "hasAllVariablesOf", desc := "(LTermOrders$Term;)Z" } : Jvm.MethodName) "TermOrders"), (Jvm.Cond.methodLinkNest "TermOrders" (115 : Nat) ({ cls := "TermOrders$Rules", name := "add", desc := "(LTermOrders$Term;LTermOrders$Term;)I" } : Jvm.MethodName) "TermOrders"), (Jvm.Cond.methodLinkNest "TermOrders" (131 : Nat) ({ cls := "TermOrders$Orders", name := "isGreater", desc := "(ILTermOrders$Term;LTermOrders$Term;)Z" } : Jvm.MethodName) "TermOrders"), (Jvm.Cond.methodLinkNest "TermOrders$Orders" (61 : Nat) ({ cls := "TermOrders$Term", name := "partOf", desc := "(II)I" } : Jvm.MethodName) "TermOrders"), (Jvm.Cond.methodLinkNest "TermOrders$Orders" (68 : Nat) ({ cls := "TermOrders$Term", name := "isSamePlace", desc := "(ILTermOrders$Term;I)Z" } : Jvm.MethodName) "TermOrders"), (Jvm.Cond.methodLinkNest "TermOrders$Orders" (39 : Nat) ({ cls := "TermOrders$Term", name := "isVariable", desc := "(I)Z" } : Jvm.MethodName) "TermOrders"), (Jvm.Cond.methodLinkNest "TermOrders$Orders" (51 : Nat) ({ cls := "TermOrders$Symbols", name := "isAbove", desc := "(II)Z" } : Jvm.MethodName) "TermOrders"), (Jvm.Cond.methodLinkNest "TermOrders$Orders" (57 : Nat) ({ cls := "TermOrders$Term", name := "firstOtherPart", desc := "(ILTermOrders$Term;I)I" } : Jvm.MethodName) "TermOrders"), (Jvm.Cond.methodLinkNest "TermOrders$Orders" (71 : Nat) ({ cls := "TermOrders$Term", name := "hasEachVariableAsOften", desc := "(ILTermOrders$Term;I)Z" } : Jvm.MethodName) "TermOrders"), (Jvm.Cond.methodLinkNest "TermOrders$Orders" (74 : Nat) ({ cls := "TermOrders$Symbols", name := "weightOfPlace", desc := "(LTermOrders$Term;I)I" } : Jvm.MethodName) "TermOrders"), (Jvm.Cond.methodLinkNest "TermOrders$Symbols" (62 : Nat) ({ cls := "TermOrders$Term", name := "isVariable", desc := "(I)Z" } : Jvm.MethodName) "TermOrders"), (Jvm.Cond.methodLinkNest "TermOrders$Orders" (78 : Nat) ({ cls := "TermOrders$Term", name := "isVariableWithin", desc := "(II)Z" } : Jvm.MethodName) "TermOrders"), (Jvm.Cond.methodLinkNest "TermOrders" (135 : Nat) ({ cls := "TermOrders$Term", name := "isSamePlace", desc := "(ILTermOrders$Term;I)Z" } : Jvm.MethodName) "TermOrders"), (Jvm.Cond.methodLinkNest "TermOrders" (149 : Nat) ({ cls := "TermOrders$Symbols", name := "saveRanks", desc := "()V" } : Jvm.MethodName) "TermOrders"), (Jvm.Cond.methodLinkNest "TermOrders" (152 : Nat) ({ cls := "TermOrders$Symbols", name := "takeFirstRanks", desc := "()V" } : Jvm.MethodName) "TermOrders"), (Jvm.Cond.methodLinkNest "TermOrders" (158 : Nat) ({ cls := "TermOrders$Symbols", name := "takeNextRanks", desc := "()Z" } : Jvm.MethodName) "TermOrders"), (Jvm.Cond.methodLinkNest "TermOrders" (161 : Nat) ({ cls := "TermOrders$Symbols", name := "restoreRanks", desc := "()V" } : Jvm.MethodName) "TermOrders"), (Jvm.Cond.methodLinkNest "TermOrders" (164 : Nat) ({ cls := "TermOrders$Rules", name := "writeStep", desc := "(LTermOrders$Term;LTermOrders$Draft;)Z" } : Jvm.MethodName) "TermOrders"), (Jvm.Cond.methodLinkNest "TermOrders$Rules" (48 : Nat) ({ cls := "TermOrders$Term", name := "isVariable", desc := "(I)Z" } : Jvm.MethodName) "TermOrders"), (Jvm.Cond.methodLinkNest "TermOrders$Rules" (59 : Nat) ({ cls := "TermOrders$Term", name := "isSamePlace", desc := "(ILTermOrders$Term;I)Z" } : Jvm.MethodName) "TermOrders"), (Jvm.Cond.methodLinkNest "TermOrders$Rules" (66 : Nat) ({ cls := "TermOrders$Draft", name := "clear", desc := "()V" } : Jvm.MethodName) "TermOrders"), (Jvm.Cond.methodLinkNest "TermOrders$Rules" (71 : Nat) ({ cls := "TermOrders$Draft", name := "copyPlaces", desc := "(LTermOrders$Term;II)V" } : Jvm.MethodName) "TermOrders"), (Jvm.Cond.methodLinkNest "TermOrders$Rules" (82 : Nat) ({ cls := "TermOrders$Draft", name := "write", desc := "(II)V" } : Jvm.MethodName) "TermOrders"), (Jvm.Cond.methodLinkNest "TermOrders" (174 : Nat) ({ cls := "TermOrders$Symbols", name := "weightOfPlace", desc := "(LTermOrders$Term;I)I" } : Jvm.MethodName) "TermOrders"), (Jvm.Cond.castable "java/lang/IndexOutOfBoundsException" "java/lang/IndexOutOfBoundsException")]
theorem nwL_in : ∀ w ∈ nwL, w ∈ lw_tbl := by
  intro w hw
  simp only [nwL, List.mem_cons, List.not_mem_nil, or_false] at hw
  rcases hw with rfl | rfl | rfl | rfl | rfl | rfl | rfl | rfl | rfl | rfl | rfl | rfl | rfl | rfl | rfl | rfl | rfl | rfl | rfl | rfl | rfl | rfl | rfl | rfl | rfl | rfl | rfl | rfl | rfl | rfl | rfl | rfl | rfl | rfl | rfl | rfl | rfl | rfl | rfl | rfl | rfl | rfl | rfl | rfl | rfl | rfl | rfl | rfl | rfl | rfl | rfl | rfl | rfl | rfl | rfl | rfl | rfl | rfl | rfl | rfl | rfl | rfl | rfl | rfl | rfl
  · exact wd_27
  · exact wd_32
  · exact wd_33
  · exact wd_35
  · exact wd_37
  · exact wd_40
  · exact wd_55
  · exact wd_82
  · exact wd_85
  · exact wd_91
  · exact wd_93
  · exact wd_96
  · exact wd_108
  · exact wd_143
  · exact wd_174
  · exact wd_242
  · exact wd_256
  · exact wd_268
  · exact wd_272
  · exact wd_284
  · exact wd_297
  · exact wd_311
  · exact wd_319
  · exact wd_324
  · exact wd_325
  · exact wd_326
  · exact wd_327
  · exact wd_328
  · exact wd_330
  · exact wd_331
  · exact wd_332
  · exact wd_334
  · exact wd_335
  · exact wd_337
  · exact wd_338
  · exact wd_339
  · exact wd_341
  · exact wd_365
  · exact wd_374
  · exact wd_385
  · exact wd_389
  · exact wd_400
  · exact wd_432
  · exact wd_448
  · exact wd_452
  · exact wd_456
  · exact wd_461
  · exact wd_462
  · exact wd_472
  · exact wd_476
  · exact wd_480
  · exact wd_481
  · exact wd_492
  · exact wd_507
  · exact wd_512
  · exact wd_520
  · exact wd_536
  · exact wd_547
  · exact wd_566
  · exact wd_571
  · exact wd_572
  · exact wd_573
  · exact wd_578
  · exact wd_586
  · exact wd_598
theorem nw_27 : (Jvm.Cond.methodLinkNest "TermOrders" (9 : Nat) ({ cls := "TermOrders$Symbols", name := "<init>", desc := "()V" } : Jvm.MethodName) "TermOrders") ∈ nwL := List.mem_of_getElem? (i := 0) rfl
theorem nw_32 : (Jvm.Cond.fieldLinkNest "TermOrders$Draft" (40 : Nat) "TermOrders$Symbols" "arities" "[I" "TermOrders") ∈ nwL := List.mem_of_getElem? (i := 1) rfl
theorem nw_33 : (Jvm.Cond.fieldLinkNest "TermOrders" (87 : Nat) "TermOrders$Symbols" "arities" "[I" "TermOrders") ∈ nwL := List.mem_of_getElem? (i := 2) rfl
theorem nw_35 : (Jvm.Cond.fieldLinkNest "TermOrders" (122 : Nat) "TermOrders$Symbols" "ranks" "[I" "TermOrders") ∈ nwL := List.mem_of_getElem? (i := 3) rfl
theorem nw_37 : (Jvm.Cond.fieldLinkNest "TermOrders" (125 : Nat) "TermOrders$Symbols" "weights" "[I" "TermOrders") ∈ nwL := List.mem_of_getElem? (i := 4) rfl
theorem nw_40 : (Jvm.Cond.fieldLinkNest "TermOrders" (56 : Nat) "TermOrders$Symbols" "count" "I" "TermOrders") ∈ nwL := List.mem_of_getElem? (i := 5) rfl
theorem nw_55 : (Jvm.Cond.methodLinkNest "TermOrders" (18 : Nat) ({ cls := "TermOrders$Draft", name := "<init>", desc := "(LTermOrders$Symbols;)V" } : Jvm.MethodName) "TermOrders") ∈ nwL := List.mem_of_getElem? (i := 6) rfl
theorem nw_82 : (Jvm.Cond.arrayOver (Jvm.ClassFile.FieldType.object "TermOrders$Term")) ∈ nwL := List.mem_of_getElem? (i := 7) rfl
theorem nw_85 : (Jvm.Cond.methodLinkNest "TermOrders" (33 : Nat) ({ cls := "TermOrders$Rules", name := "<init>", desc := "()V" } : Jvm.MethodName) "TermOrders") ∈ nwL := List.mem_of_getElem? (i := 8) rfl
theorem nw_91 : (Jvm.Cond.fieldLinkNest "TermOrders" (143 : Nat) "TermOrders$Rules" "lefts" "[LTermOrders$Term;" "TermOrders") ∈ nwL := List.mem_of_getElem? (i := 9) rfl
theorem nw_93 : (Jvm.Cond.fieldLinkNest "TermOrders" (146 : Nat) "TermOrders$Rules" "rights" "[LTermOrders$Term;" "TermOrders") ∈ nwL := List.mem_of_getElem? (i := 10) rfl
theorem nw_96 : (Jvm.Cond.fieldLinkNest "TermOrders" (112 : Nat) "TermOrders$Rules" "count" "I" "TermOrders") ∈ nwL := List.mem_of_getElem? (i := 11) rfl
theorem nw_108 : (Jvm.Cond.methodLinkNest "TermOrders" (40 : Nat) ({ cls := "TermOrders$Orders", name := "<init>", desc := "(LTermOrders$Symbols;)V" } : Jvm.MethodName) "TermOrders") ∈ nwL := List.mem_of_getElem? (i := 12) rfl
theorem nw_143 : (Jvm.Cond.methodLinkNest "TermOrders" (139 : Nat) ({ cls := "TermOrders$Symbols", name := "haveAdmissibleWeights", desc := "()Z" } : Jvm.MethodName) "TermOrders") ∈ nwL := List.mem_of_getElem? (i := 13) rfl
theorem nw_174 : (Jvm.Cond.castable "java/lang/IllegalArgumentException" "java/lang/IllegalArgumentException") ∈ nwL := List.mem_of_getElem? (i := 14) rfl
theorem nw_242 : (Jvm.Cond.castable "java/lang/IllegalStateException" "java/lang/IllegalStateException") ∈ nwL := List.mem_of_getElem? (i := 15) rfl
theorem nw_256 : (Jvm.Cond.methodLinkNest "TermOrders" (64 : Nat) ({ cls := "TermOrders$Symbols", name := "add", desc := "(I)I" } : Jvm.MethodName) "TermOrders") ∈ nwL := List.mem_of_getElem? (i := 16) rfl
theorem nw_268 : (Jvm.Cond.methodLinkNest "TermOrders" (70 : Nat) ({ cls := "TermOrders$Draft", name := "clear", desc := "()V" } : Jvm.MethodName) "TermOrders") ∈ nwL := List.mem_of_getElem? (i := 17) rfl
theorem nw_272 : (Jvm.Cond.methodLinkNest "TermOrders" (73 : Nat) ({ cls := "TermOrders$Draft", name := "writeVariable", desc := "(I)V" } : Jvm.MethodName) "TermOrders") ∈ nwL := List.mem_of_getElem? (i := 18) rfl
theorem nw_284 : (Jvm.Cond.methodLinkNest "TermOrders" (191 : Nat) ({ cls := "TermOrders$Draft", name := "isWithinLimits", desc := "()Z" } : Jvm.MethodName) "TermOrders") ∈ nwL := List.mem_of_getElem? (i := 19) rfl
theorem nw_297 : (Jvm.Cond.methodLinkNest "TermOrders" (198 : Nat) ({ cls := "TermOrders$Draft", name := "toTerm", desc := "()LTermOrders$Term;" } : Jvm.MethodName) "TermOrders") ∈ nwL := List.mem_of_getElem? (i := 20) rfl
theorem nw_311 : (Jvm.Cond.castable "[I" "java/lang/Cloneable") ∈ nwL := List.mem_of_getElem? (i := 21) rfl
theorem nw_319 : (Jvm.Cond.methodLinkNest "TermOrders$Draft" (65 : Nat) ({ cls := "TermOrders$Term", name := "<init>", desc := "([I[I[II)V" } : Jvm.MethodName) "TermOrders") ∈ nwL := List.mem_of_getElem? (i := 22) rfl
theorem nw_324 : (Jvm.Cond.fieldLinkNest "TermOrders$Orders" (47 : Nat) "TermOrders$Term" "heads" "[I" "TermOrders") ∈ nwL := List.mem_of_getElem? (i := 23) rfl
theorem nw_325 : (Jvm.Cond.fieldLinkNest "TermOrders$Rules" (52 : Nat) "TermOrders$Term" "heads" "[I" "TermOrders") ∈ nwL := List.mem_of_getElem? (i := 24) rfl
theorem nw_326 : (Jvm.Cond.fieldLinkNest "TermOrders$Draft" (45 : Nat) "TermOrders$Term" "heads" "[I" "TermOrders") ∈ nwL := List.mem_of_getElem? (i := 25) rfl
theorem nw_327 : (Jvm.Cond.fieldLinkNest "TermOrders$Symbols" (65 : Nat) "TermOrders$Term" "heads" "[I" "TermOrders") ∈ nwL := List.mem_of_getElem? (i := 26) rfl
theorem nw_328 : (Jvm.Cond.fieldLinkNest "TermOrders" (168 : Nat) "TermOrders$Term" "heads" "[I" "TermOrders") ∈ nwL := List.mem_of_getElem? (i := 27) rfl
theorem nw_330 : (Jvm.Cond.fieldLinkNest "TermOrders$Orders" (65 : Nat) "TermOrders$Term" "partCounts" "[I" "TermOrders") ∈ nwL := List.mem_of_getElem? (i := 28) rfl
theorem nw_331 : (Jvm.Cond.fieldLinkNest "TermOrders$Draft" (48 : Nat) "TermOrders$Term" "partCounts" "[I" "TermOrders") ∈ nwL := List.mem_of_getElem? (i := 29) rfl
theorem nw_332 : (Jvm.Cond.fieldLinkNest "TermOrders$Rules" (79 : Nat) "TermOrders$Term" "partCounts" "[I" "TermOrders") ∈ nwL := List.mem_of_getElem? (i := 30) rfl
theorem nw_334 : (Jvm.Cond.fieldLinkNest "TermOrders$Rules" (35 : Nat) "TermOrders$Term" "ends" "[I" "TermOrders") ∈ nwL := List.mem_of_getElem? (i := 31) rfl
theorem nw_335 : (Jvm.Cond.fieldLinkNest "TermOrders$Symbols" (57 : Nat) "TermOrders$Term" "ends" "[I" "TermOrders") ∈ nwL := List.mem_of_getElem? (i := 32) rfl
theorem nw_337 : (Jvm.Cond.fieldLinkNest "TermOrders$Orders" (26 : Nat) "TermOrders$Term" "size" "I" "TermOrders") ∈ nwL := List.mem_of_getElem? (i := 33) rfl
theorem nw_338 : (Jvm.Cond.fieldLinkNest "TermOrders$Rules" (28 : Nat) "TermOrders$Term" "size" "I" "TermOrders") ∈ nwL := List.mem_of_getElem? (i := 34) rfl
theorem nw_339 : (Jvm.Cond.fieldLinkNest "TermOrders" (95 : Nat) "TermOrders$Term" "size" "I" "TermOrders") ∈ nwL := List.mem_of_getElem? (i := 35) rfl
theorem nw_341 : (Jvm.Cond.fieldLinkNest "TermOrders" (171 : Nat) "TermOrders$Term" "height" "I" "TermOrders") ∈ nwL := List.mem_of_getElem? (i := 36) rfl
theorem nw_365 : (Jvm.Cond.methodLinkNest "TermOrders" (84 : Nat) ({ cls := "TermOrders$Draft", name := "writeSymbol", desc := "(I)V" } : Jvm.MethodName) "TermOrders") ∈ nwL := List.mem_of_getElem? (i := 37) rfl
theorem nw_374 : (Jvm.Cond.methodLinkNest "TermOrders" (98 : Nat) ({ cls := "TermOrders$Draft", name := "copyPlaces", desc := "(LTermOrders$Term;II)V" } : Jvm.MethodName) "TermOrders") ∈ nwL := List.mem_of_getElem? (i := 38) rfl
theorem nw_385 : (Jvm.Cond.methodLinkNest "TermOrders" (102 : Nat) ({ cls := "TermOrders$Term", name := "isVariable", desc := "(I)Z" } : Jvm.MethodName) "TermOrders") ∈ nwL := List.mem_of_getElem? (i := 39) rfl
theorem nw_389 : (Jvm.Cond.methodLinkNest "TermOrders" (106 : Nat) ({ cls := "TermOrders$Term", name := "hasAllVariablesOf", desc := "(LTermOrders$Term;)Z" } : Jvm.MethodName) "TermOrders") ∈ nwL := List.mem_of_getElem? (i := 40) rfl
theorem nw_400 : (Jvm.Cond.methodLinkNest "TermOrders" (115 : Nat) ({ cls := "TermOrders$Rules", name := "add", desc := "(LTermOrders$Term;LTermOrders$Term;)I" } : Jvm.MethodName) "TermOrders") ∈ nwL := List.mem_of_getElem? (i := 41) rfl
theorem nw_432 : (Jvm.Cond.methodLinkNest "TermOrders" (131 : Nat) ({ cls := "TermOrders$Orders", name := "isGreater", desc := "(ILTermOrders$Term;LTermOrders$Term;)Z" } : Jvm.MethodName) "TermOrders") ∈ nwL := List.mem_of_getElem? (i := 42) rfl
theorem nw_448 : (Jvm.Cond.methodLinkNest "TermOrders$Orders" (61 : Nat) ({ cls := "TermOrders$Term", name := "partOf", desc := "(II)I" } : Jvm.MethodName) "TermOrders") ∈ nwL := List.mem_of_getElem? (i := 43) rfl
theorem nw_452 : (Jvm.Cond.methodLinkNest "TermOrders$Orders" (68 : Nat) ({ cls := "TermOrders$Term", name := "isSamePlace", desc := "(ILTermOrders$Term;I)Z" } : Jvm.MethodName) "TermOrders") ∈ nwL := List.mem_of_getElem? (i := 44) rfl
theorem nw_456 : (Jvm.Cond.methodLinkNest "TermOrders$Orders" (39 : Nat) ({ cls := "TermOrders$Term", name := "isVariable", desc := "(I)Z" } : Jvm.MethodName) "TermOrders") ∈ nwL := List.mem_of_getElem? (i := 45) rfl
theorem nw_461 : (Jvm.Cond.methodLinkNest "TermOrders$Orders" (51 : Nat) ({ cls := "TermOrders$Symbols", name := "isAbove", desc := "(II)Z" } : Jvm.MethodName) "TermOrders") ∈ nwL := List.mem_of_getElem? (i := 46) rfl
theorem nw_462 : (Jvm.Cond.methodLinkNest "TermOrders$Orders" (57 : Nat) ({ cls := "TermOrders$Term", name := "firstOtherPart", desc := "(ILTermOrders$Term;I)I" } : Jvm.MethodName) "TermOrders") ∈ nwL := List.mem_of_getElem? (i := 47) rfl
theorem nw_472 : (Jvm.Cond.methodLinkNest "TermOrders$Orders" (71 : Nat) ({ cls := "TermOrders$Term", name := "hasEachVariableAsOften", desc := "(ILTermOrders$Term;I)Z" } : Jvm.MethodName) "TermOrders") ∈ nwL := List.mem_of_getElem? (i := 48) rfl
theorem nw_476 : (Jvm.Cond.methodLinkNest "TermOrders$Orders" (74 : Nat) ({ cls := "TermOrders$Symbols", name := "weightOfPlace", desc := "(LTermOrders$Term;I)I" } : Jvm.MethodName) "TermOrders") ∈ nwL := List.mem_of_getElem? (i := 49) rfl
theorem nw_480 : (Jvm.Cond.methodLinkNest "TermOrders$Symbols" (62 : Nat) ({ cls := "TermOrders$Term", name := "isVariable", desc := "(I)Z" } : Jvm.MethodName) "TermOrders") ∈ nwL := List.mem_of_getElem? (i := 50) rfl
theorem nw_481 : (Jvm.Cond.methodLinkNest "TermOrders$Orders" (78 : Nat) ({ cls := "TermOrders$Term", name := "isVariableWithin", desc := "(II)Z" } : Jvm.MethodName) "TermOrders") ∈ nwL := List.mem_of_getElem? (i := 51) rfl
theorem nw_492 : (Jvm.Cond.methodLinkNest "TermOrders" (135 : Nat) ({ cls := "TermOrders$Term", name := "isSamePlace", desc := "(ILTermOrders$Term;I)Z" } : Jvm.MethodName) "TermOrders") ∈ nwL := List.mem_of_getElem? (i := 52) rfl
theorem nw_507 : (Jvm.Cond.methodLinkNest "TermOrders" (149 : Nat) ({ cls := "TermOrders$Symbols", name := "saveRanks", desc := "()V" } : Jvm.MethodName) "TermOrders") ∈ nwL := List.mem_of_getElem? (i := 53) rfl
theorem nw_512 : (Jvm.Cond.methodLinkNest "TermOrders" (152 : Nat) ({ cls := "TermOrders$Symbols", name := "takeFirstRanks", desc := "()V" } : Jvm.MethodName) "TermOrders") ∈ nwL := List.mem_of_getElem? (i := 54) rfl
theorem nw_520 : (Jvm.Cond.methodLinkNest "TermOrders" (158 : Nat) ({ cls := "TermOrders$Symbols", name := "takeNextRanks", desc := "()Z" } : Jvm.MethodName) "TermOrders") ∈ nwL := List.mem_of_getElem? (i := 55) rfl
theorem nw_536 : (Jvm.Cond.methodLinkNest "TermOrders" (161 : Nat) ({ cls := "TermOrders$Symbols", name := "restoreRanks", desc := "()V" } : Jvm.MethodName) "TermOrders") ∈ nwL := List.mem_of_getElem? (i := 56) rfl
theorem nw_547 : (Jvm.Cond.methodLinkNest "TermOrders" (164 : Nat) ({ cls := "TermOrders$Rules", name := "writeStep", desc := "(LTermOrders$Term;LTermOrders$Draft;)Z" } : Jvm.MethodName) "TermOrders") ∈ nwL := List.mem_of_getElem? (i := 57) rfl
theorem nw_566 : (Jvm.Cond.methodLinkNest "TermOrders$Rules" (48 : Nat) ({ cls := "TermOrders$Term", name := "isVariable", desc := "(I)Z" } : Jvm.MethodName) "TermOrders") ∈ nwL := List.mem_of_getElem? (i := 58) rfl
theorem nw_571 : (Jvm.Cond.methodLinkNest "TermOrders$Rules" (59 : Nat) ({ cls := "TermOrders$Term", name := "isSamePlace", desc := "(ILTermOrders$Term;I)Z" } : Jvm.MethodName) "TermOrders") ∈ nwL := List.mem_of_getElem? (i := 59) rfl
theorem nw_572 : (Jvm.Cond.methodLinkNest "TermOrders$Rules" (66 : Nat) ({ cls := "TermOrders$Draft", name := "clear", desc := "()V" } : Jvm.MethodName) "TermOrders") ∈ nwL := List.mem_of_getElem? (i := 60) rfl
theorem nw_573 : (Jvm.Cond.methodLinkNest "TermOrders$Rules" (71 : Nat) ({ cls := "TermOrders$Draft", name := "copyPlaces", desc := "(LTermOrders$Term;II)V" } : Jvm.MethodName) "TermOrders") ∈ nwL := List.mem_of_getElem? (i := 61) rfl
theorem nw_578 : (Jvm.Cond.methodLinkNest "TermOrders$Rules" (82 : Nat) ({ cls := "TermOrders$Draft", name := "write", desc := "(II)V" } : Jvm.MethodName) "TermOrders") ∈ nwL := List.mem_of_getElem? (i := 62) rfl
theorem nw_586 : (Jvm.Cond.methodLinkNest "TermOrders" (174 : Nat) ({ cls := "TermOrders$Symbols", name := "weightOfPlace", desc := "(LTermOrders$Term;I)I" } : Jvm.MethodName) "TermOrders") ∈ nwL := List.mem_of_getElem? (i := 63) rfl
theorem nw_598 : (Jvm.Cond.castable "java/lang/IndexOutOfBoundsException" "java/lang/IndexOutOfBoundsException") ∈ nwL := List.mem_of_getElem? (i := 64) rfl
def qR_S : String := "TermOrders$Symbols"
def qT_S : u_T := fun k => match k with
  | 0 => ("TermOrders$Symbols", "arities", "[I", true)
  | 1 => ("TermOrders$Symbols", "ranks", "[I", true)
  | 2 => ("TermOrders$Symbols", "weights", "[I", true)
  | 3 => ("TermOrders$Symbols", "savedRanks", "[I", true)
  | _ => ("TermOrders$Symbols", "count", "I", false)
def qt_S : Nat → FieldType := fun k => match k with
  | 0 => .array .int
  | 1 => .array .int
  | 2 => .array .int
  | 3 => .array .int
  | _ => .int
theorem qn_S : ∀ a, a < 5 → ∀ b, b < 5 → a ≠ b → (qT_S a).2.1 ≠ (qT_S b).2.1 := by decide +kernel
theorem qo_S : ∀ k, k < 5 → parseFieldDescriptor (qT_S k).2.2.1 = some (qt_S k) := by decide +kernel
theorem qi_S : ∀ w ∈ u_ws "TermOrders$Symbols" qT_S 5, w ∈ gw := by
  intro w hw
  have hw : w ∈ [(Jvm.Cond.laysFinal "TermOrders$Symbols" "TermOrders$Symbols" "arities" "[I"), (Jvm.Cond.laysFinal "TermOrders$Symbols" "TermOrders$Symbols" "ranks" "[I"), (Jvm.Cond.laysFinal "TermOrders$Symbols" "TermOrders$Symbols" "weights" "[I"), (Jvm.Cond.laysFinal "TermOrders$Symbols" "TermOrders$Symbols" "savedRanks" "[I"), (Jvm.Cond.lays "TermOrders$Symbols" "TermOrders$Symbols" "count" "I")] := hw
  simp only [List.mem_cons, List.not_mem_nil, or_false] at hw
  rcases hw with rfl | rfl | rfl | rfl | rfl
  · exact wd_41
  · exact wd_43
  · exact wd_45
  · exact wd_47
  · exact wd_49
def qR_T : String := "TermOrders$Term"
def qT_T : u_T := fun k => match k with
  | 0 => ("TermOrders$Term", "heads", "[I", true)
  | 1 => ("TermOrders$Term", "partCounts", "[I", true)
  | 2 => ("TermOrders$Term", "ends", "[I", true)
  | 3 => ("TermOrders$Term", "size", "I", true)
  | _ => ("TermOrders$Term", "height", "I", true)
def qt_T : Nat → FieldType := fun k => match k with
  | 0 => .array .int
  | 1 => .array .int
  | 2 => .array .int
  | 3 => .int
  | _ => .int
theorem qn_T : ∀ a, a < 5 → ∀ b, b < 5 → a ≠ b → (qT_T a).2.1 ≠ (qT_T b).2.1 := by decide +kernel
theorem qo_T : ∀ k, k < 5 → parseFieldDescriptor (qT_T k).2.2.1 = some (qt_T k) := by decide +kernel
theorem qi_T : ∀ w ∈ u_ws "TermOrders$Term" qT_T 5, w ∈ gw := by
  intro w hw
  have hw : w ∈ [(Jvm.Cond.laysFinal "TermOrders$Term" "TermOrders$Term" "heads" "[I"), (Jvm.Cond.laysFinal "TermOrders$Term" "TermOrders$Term" "partCounts" "[I"), (Jvm.Cond.laysFinal "TermOrders$Term" "TermOrders$Term" "ends" "[I"), (Jvm.Cond.laysFinal "TermOrders$Term" "TermOrders$Term" "size" "I"), (Jvm.Cond.laysFinal "TermOrders$Term" "TermOrders$Term" "height" "I")] := hw
  simp only [List.mem_cons, List.not_mem_nil, or_false] at hw
  rcases hw with rfl | rfl | rfl | rfl | rfl
  · exact wd_342
  · exact wd_344
  · exact wd_346
  · exact wd_348
  · exact wd_350
def qR_D : String := "TermOrders$Draft"
def qT_D : u_T := fun k => match k with
  | 0 => ("TermOrders$Draft", "symbols", "LTermOrders$Symbols;", true)
  | 1 => ("TermOrders$Draft", "heads", "[I", true)
  | 2 => ("TermOrders$Draft", "partCounts", "[I", true)
  | 3 => ("TermOrders$Draft", "ends", "[I", true)
  | 4 => ("TermOrders$Draft", "heights", "[I", true)
  | 5 => ("TermOrders$Draft", "size", "I", false)
  | _ => ("TermOrders$Draft", "tooGreat", "Z", false)
def qt_D : Nat → FieldType := fun k => match k with
  | 0 => .object "TermOrders$Symbols"
  | 1 => .array .int
  | 2 => .array .int
  | 3 => .array .int
  | 4 => .array .int
  | 5 => .int
  | _ => .boolean
theorem qn_D : ∀ a, a < 7 → ∀ b, b < 7 → a ≠ b → (qT_D a).2.1 ≠ (qT_D b).2.1 := by decide +kernel
theorem qo_D : ∀ k, k < 7 → parseFieldDescriptor (qT_D k).2.2.1 = some (qt_D k) := by decide +kernel
theorem qi_D : ∀ w ∈ u_ws "TermOrders$Draft" qT_D 7, w ∈ gw := by
  intro w hw
  have hw : w ∈ [(Jvm.Cond.laysFinal "TermOrders$Draft" "TermOrders$Draft" "symbols" "LTermOrders$Symbols;"), (Jvm.Cond.laysFinal "TermOrders$Draft" "TermOrders$Draft" "heads" "[I"), (Jvm.Cond.laysFinal "TermOrders$Draft" "TermOrders$Draft" "partCounts" "[I"), (Jvm.Cond.laysFinal "TermOrders$Draft" "TermOrders$Draft" "ends" "[I"), (Jvm.Cond.laysFinal "TermOrders$Draft" "TermOrders$Draft" "heights" "[I"), (Jvm.Cond.lays "TermOrders$Draft" "TermOrders$Draft" "size" "I"), (Jvm.Cond.lays "TermOrders$Draft" "TermOrders$Draft" "tooGreat" "Z")] := hw
  simp only [List.mem_cons, List.not_mem_nil, or_false] at hw
  rcases hw with rfl | rfl | rfl | rfl | rfl | rfl | rfl
  · exact wd_66
  · exact wd_68
  · exact wd_70
  · exact wd_72
  · exact wd_74
  · exact wd_76
  · exact wd_78
def qR_O : String := "TermOrders$Orders"
def qT_O : u_T := fun k => match k with
  | 0 => ("TermOrders$Orders", "symbols", "LTermOrders$Symbols;", true)
  | _ => ("TermOrders$Orders", "pathGreater", "[Z", true)
def qt_O : Nat → FieldType := fun k => match k with
  | 0 => .object "TermOrders$Symbols"
  | _ => .array .boolean
theorem qn_O : ∀ a, a < 2 → ∀ b, b < 2 → a ≠ b → (qT_O a).2.1 ≠ (qT_O b).2.1 := by decide +kernel
theorem qo_O : ∀ k, k < 2 → parseFieldDescriptor (qT_O k).2.2.1 = some (qt_O k) := by decide +kernel
theorem qi_O : ∀ w ∈ u_ws "TermOrders$Orders" qT_O 2, w ∈ gw := by
  intro w hw
  have hw : w ∈ [(Jvm.Cond.laysFinal "TermOrders$Orders" "TermOrders$Orders" "symbols" "LTermOrders$Symbols;"), (Jvm.Cond.laysFinal "TermOrders$Orders" "TermOrders$Orders" "pathGreater" "[Z")] := hw
  simp only [List.mem_cons, List.not_mem_nil, or_false] at hw
  rcases hw with rfl | rfl
  · exact wd_114
  · exact wd_116
def qR_R : String := "TermOrders$Rules"
def qT_R : u_T := fun k => match k with
  | 0 => ("TermOrders$Rules", "lefts", "[LTermOrders$Term;", true)
  | 1 => ("TermOrders$Rules", "rights", "[LTermOrders$Term;", true)
  | 2 => ("TermOrders$Rules", "bound", "[I", true)
  | _ => ("TermOrders$Rules", "count", "I", false)
def qt_R : Nat → FieldType := fun k => match k with
  | 0 => .array (.object "TermOrders$Term")
  | 1 => .array (.object "TermOrders$Term")
  | 2 => .array .int
  | _ => .int
theorem qn_R : ∀ a, a < 4 → ∀ b, b < 4 → a ≠ b → (qT_R a).2.1 ≠ (qT_R b).2.1 := by decide +kernel
theorem qo_R : ∀ k, k < 4 → parseFieldDescriptor (qT_R k).2.2.1 = some (qt_R k) := by decide +kernel
theorem qi_R : ∀ w ∈ u_ws "TermOrders$Rules" qT_R 4, w ∈ gw := by
  intro w hw
  have hw : w ∈ [(Jvm.Cond.laysFinal "TermOrders$Rules" "TermOrders$Rules" "lefts" "[LTermOrders$Term;"), (Jvm.Cond.laysFinal "TermOrders$Rules" "TermOrders$Rules" "rights" "[LTermOrders$Term;"), (Jvm.Cond.laysFinal "TermOrders$Rules" "TermOrders$Rules" "bound" "[I"), (Jvm.Cond.lays "TermOrders$Rules" "TermOrders$Rules" "count" "I")] := hw
  simp only [List.mem_cons, List.not_mem_nil, or_false] at hw
  rcases hw with rfl | rfl | rfl | rfl
  · exact wd_97
  · exact wd_99
  · exact wd_101
  · exact wd_103
def qR_X : String := "TermOrders"
def qT_X : u_T := fun k => match k with
  | 0 => ("TermOrders", "symbols", "LTermOrders$Symbols;", true)
  | 1 => ("TermOrders", "draft", "LTermOrders$Draft;", true)
  | 2 => ("TermOrders", "terms", "[LTermOrders$Term;", true)
  | 3 => ("TermOrders", "rules", "LTermOrders$Rules;", true)
  | 4 => ("TermOrders", "orders", "LTermOrders$Orders;", true)
  | _ => ("TermOrders", "termCount", "I", false)
def qt_X : Nat → FieldType := fun k => match k with
  | 0 => .object "TermOrders$Symbols"
  | 1 => .object "TermOrders$Draft"
  | 2 => .array (.object "TermOrders$Term")
  | 3 => .object "TermOrders$Rules"
  | 4 => .object "TermOrders$Orders"
  | _ => .int
theorem qn_X : ∀ a, a < 6 → ∀ b, b < 6 → a ≠ b → (qT_X a).2.1 ≠ (qT_X b).2.1 := by decide +kernel
theorem qo_X : ∀ k, k < 6 → parseFieldDescriptor (qT_X k).2.2.1 = some (qt_X k) := by decide +kernel
theorem qi_X : ∀ w ∈ u_ws "TermOrders" qT_X 6, w ∈ gw := by
  intro w hw
  have hw : w ∈ [(Jvm.Cond.laysFinal "TermOrders" "TermOrders" "symbols" "LTermOrders$Symbols;"), (Jvm.Cond.laysFinal "TermOrders" "TermOrders" "draft" "LTermOrders$Draft;"), (Jvm.Cond.laysFinal "TermOrders" "TermOrders" "terms" "[LTermOrders$Term;"), (Jvm.Cond.laysFinal "TermOrders" "TermOrders" "rules" "LTermOrders$Rules;"), (Jvm.Cond.laysFinal "TermOrders" "TermOrders" "orders" "LTermOrders$Orders;"), (Jvm.Cond.lays "TermOrders" "TermOrders" "termCount" "I")] := hw
  simp only [List.mem_cons, List.not_mem_nil, or_false] at hw
  rcases hw with rfl | rfl | rfl | rfl | rfl | rfl
  · exact wd_126
  · exact wd_128
  · exact wd_130
  · exact wd_132
  · exact wd_134
  · exact wd_136
def qR_M : String := "TermOrdersModel"
def qT_M : u_T := fun k => match k with
  | 0 => ("TermOrdersModel", "symbols", "I", false)
  | 1 => ("TermOrdersModel", "arity", "[I", true)
  | 2 => ("TermOrdersModel", "rank", "[I", true)
  | 3 => ("TermOrdersModel", "weight", "[I", true)
  | 4 => ("TermOrdersModel", "terms", "I", false)
  | 5 => ("TermOrdersModel", "code", "[I", true)
  | 6 => ("TermOrdersModel", "size", "[I", true)
  | 7 => ("TermOrdersModel", "rules", "I", false)
  | 8 => ("TermOrdersModel", "left", "[I", true)
  | 9 => ("TermOrdersModel", "right", "[I", true)
  | 10 => ("TermOrdersModel", "high", "[I", true)
  | 11 => ("TermOrdersModel", "heavy", "[I", true)
  | 12 => ("TermOrdersModel", "endOf", "[I", true)
  | 13 => ("TermOrdersModel", "greater", "[Z", true)
  | 14 => ("TermOrdersModel", "bound", "[I", true)
  | 15 => ("TermOrdersModel", "oldRank", "[I", true)
  | _ => ("TermOrdersModel", "thrown", "I", false)
def qt_M : Nat → FieldType := fun k => match k with
  | 0 => .int
  | 1 => .array .int
  | 2 => .array .int
  | 3 => .array .int
  | 4 => .int
  | 5 => .array .int
  | 6 => .array .int
  | 7 => .int
  | 8 => .array .int
  | 9 => .array .int
  | 10 => .array .int
  | 11 => .array .int
  | 12 => .array .int
  | 13 => .array .boolean
  | 14 => .array .int
  | 15 => .array .int
  | _ => .int
theorem qn_M : ∀ a, a < 17 → ∀ b, b < 17 → a ≠ b → (qT_M a).2.1 ≠ (qT_M b).2.1 := by decide +kernel
theorem qo_M : ∀ k, k < 17 → parseFieldDescriptor (qT_M k).2.2.1 = some (qt_M k) := by decide +kernel
theorem qi_M : ∀ w ∈ u_ws "TermOrdersModel" qT_M 17, w ∈ gw := by
  intro w hw
  have hw : w ∈ [(Jvm.Cond.lays "TermOrdersModel" "TermOrdersModel" "symbols" "I"), (Jvm.Cond.laysFinal "TermOrdersModel" "TermOrdersModel" "arity" "[I"), (Jvm.Cond.laysFinal "TermOrdersModel" "TermOrdersModel" "rank" "[I"), (Jvm.Cond.laysFinal "TermOrdersModel" "TermOrdersModel" "weight" "[I"), (Jvm.Cond.lays "TermOrdersModel" "TermOrdersModel" "terms" "I"), (Jvm.Cond.laysFinal "TermOrdersModel" "TermOrdersModel" "code" "[I"), (Jvm.Cond.laysFinal "TermOrdersModel" "TermOrdersModel" "size" "[I"), (Jvm.Cond.lays "TermOrdersModel" "TermOrdersModel" "rules" "I"), (Jvm.Cond.laysFinal "TermOrdersModel" "TermOrdersModel" "left" "[I"), (Jvm.Cond.laysFinal "TermOrdersModel" "TermOrdersModel" "right" "[I"), (Jvm.Cond.laysFinal "TermOrdersModel" "TermOrdersModel" "high" "[I"), (Jvm.Cond.laysFinal "TermOrdersModel" "TermOrdersModel" "heavy" "[I"), (Jvm.Cond.laysFinal "TermOrdersModel" "TermOrdersModel" "endOf" "[I"), (Jvm.Cond.laysFinal "TermOrdersModel" "TermOrdersModel" "greater" "[Z"), (Jvm.Cond.laysFinal "TermOrdersModel" "TermOrdersModel" "bound" "[I"), (Jvm.Cond.laysFinal "TermOrdersModel" "TermOrdersModel" "oldRank" "[I"), (Jvm.Cond.lays "TermOrdersModel" "TermOrdersModel" "thrown" "I")] := hw
  simp only [List.mem_cons, List.not_mem_nil, or_false] at hw
  rcases hw with rfl | rfl | rfl | rfl | rfl | rfl | rfl | rfl | rfl | rfl | rfl | rfl | rfl | rfl | rfl | rfl | rfl
  · exact wd_635
  · exact wd_637
  · exact wd_639
  · exact wd_641
  · exact wd_643
  · exact wd_645
  · exact wd_647
  · exact wd_649
  · exact wd_651
  · exact wd_653
  · exact wd_655
  · exact wd_657
  · exact wd_659
  · exact wd_661
  · exact wd_663
  · exact wd_665
  · exact wd_667
/-- the classes whose objects the worlds hold -/
abbrev qcl : List vw_C := [("TermOrders$Symbols", qT_S, 5), ("TermOrders$Term", qT_T, 5), ("TermOrders$Draft", qT_D, 7), ("TermOrders$Orders", qT_O, 2), ("TermOrders$Rules", qT_R, 4), ("TermOrders", qT_X, 6), ("TermOrdersModel", qT_M, 17)]
