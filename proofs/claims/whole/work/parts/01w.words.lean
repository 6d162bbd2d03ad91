/-- the words that every method has: those of the tables that stay -/
def WB : List Cond := lw_tbl.filter goodWord
theorem WB_of {w : Cond} (h : w ∈ lw_tbl) (g : goodWord w = true) : w ∈ WB := List.mem_filter.mpr ⟨h, g⟩
theorem WB_good {big : List Cond} (h : ∀ w ∈ WB, w ∈ big) : GoodIn big WB := fun w hw => ⟨h w hw, good_of_word (List.mem_filter.mp hw).2⟩
theorem tb_1 {w : Cond} (h : w ∈ tables_1_1) (g : goodWord w = true) : w ∈ WB := WB_of (List.mem_append_right _ (show w ∈ tables_1 from (List.mem_append_left _ h))) g
theorem tb_2 {w : Cond} (h : w ∈ tables_1_2) (g : goodWord w = true) : w ∈ WB := WB_of (List.mem_append_right _ (show w ∈ tables_1 from (List.mem_append_right _ (List.mem_append_left _ h)))) g
theorem tb_3 {w : Cond} (h : w ∈ tables_1_3) (g : goodWord w = true) : w ∈ WB := WB_of (List.mem_append_right _ (show w ∈ tables_1 from (List.mem_append_right _ (List.mem_append_right _ (List.mem_append_left _ h))))) g
theorem tb_4 {w : Cond} (h : w ∈ tables_1_4) (g : goodWord w = true) : w ∈ WB := WB_of (List.mem_append_right _ (show w ∈ tables_1 from (List.mem_append_right _ (List.mem_append_right _ (List.mem_append_right _ (List.mem_append_left _ h)))))) g
theorem tb_5 {w : Cond} (h : w ∈ tables_1_5) (g : goodWord w = true) : w ∈ WB := WB_of (List.mem_append_right _ (show w ∈ tables_1 from (List.mem_append_right _ (List.mem_append_right _ (List.mem_append_right _ (List.mem_append_right _ (List.mem_append_left _ h))))))) g
theorem tb_6 {w : Cond} (h : w ∈ tables_1_6) (g : goodWord w = true) : w ∈ WB := WB_of (List.mem_append_right _ (show w ∈ tables_1 from (List.mem_append_right _ (List.mem_append_right _ (List.mem_append_right _ (List.mem_append_right _ (List.mem_append_right _ (List.mem_append_left _ h)))))))) g
theorem tb_7 {w : Cond} (h : w ∈ tables_1_7) (g : goodWord w = true) : w ∈ WB := WB_of (List.mem_append_right _ (show w ∈ tables_1 from (List.mem_append_right _ (List.mem_append_right _ (List.mem_append_right _ (List.mem_append_right _ (List.mem_append_right _ (List.mem_append_right _ (List.mem_append_left _ h))))))))) g
theorem tb_8 {w : Cond} (h : w ∈ tables_1_8) (g : goodWord w = true) : w ∈ WB := WB_of (List.mem_append_right _ (show w ∈ tables_1 from (List.mem_append_right _ (List.mem_append_right _ (List.mem_append_right _ (List.mem_append_right _ (List.mem_append_right _ (List.mem_append_right _ (List.mem_append_right _ (List.mem_append_left _ h)))))))))) g
theorem tb_9 {w : Cond} (h : w ∈ tables_1_9) (g : goodWord w = true) : w ∈ WB := WB_of (List.mem_append_right _ (show w ∈ tables_1 from (List.mem_append_right _ (List.mem_append_right _ (List.mem_append_right _ (List.mem_append_right _ (List.mem_append_right _ (List.mem_append_right _ (List.mem_append_right _ (List.mem_append_right _ h)))))))))) g
theorem w1_0 : (Cond.initialized "FarEditorsLaw") ∈ WB := tb_1 (List.mem_of_getElem? (i := 0) rfl) rfl
theorem w1_1 : (Cond.initialized "FarEditors") ∈ WB := tb_1 (List.mem_of_getElem? (i := 1) rfl) rfl
theorem w1_2 : (Cond.initialized "FarEditors$Told") ∈ WB := tb_1 (List.mem_of_getElem? (i := 2) rfl) rfl
theorem w1_3 : (Cond.initialized "FarEditors$Weaver") ∈ WB := tb_1 (List.mem_of_getElem? (i := 3) rfl) rfl
theorem w1_4 : (Cond.initialized "FarEditors$Reader") ∈ WB := tb_1 (List.mem_of_getElem? (i := 4) rfl) rfl
theorem w1_5 : (Cond.initialized "FarEditors$Op") ∈ WB := tb_1 (List.mem_of_getElem? (i := 5) rfl) rfl
theorem w1_6 : (Cond.initialized "FarEditors$Row") ∈ WB := tb_1 (List.mem_of_getElem? (i := 6) rfl) rfl
theorem w1_7 : (Cond.initialized "FarEditors$Text") ∈ WB := tb_1 (List.mem_of_getElem? (i := 7) rfl) rfl
theorem w1_8 : (Cond.initialized "FarEditors$World") ∈ WB := tb_1 (List.mem_of_getElem? (i := 8) rfl) rfl
theorem w1_9 : (Cond.initialized "FarEditors$Editor") ∈ WB := tb_1 (List.mem_of_getElem? (i := 9) rfl) rfl
theorem w1_10 : (Cond.initialized "FarEditors$Inverses") ∈ WB := tb_1 (List.mem_of_getElem? (i := 10) rfl) rfl
theorem w1_11 : (Cond.initialized "FarEditors$History") ∈ WB := tb_1 (List.mem_of_getElem? (i := 11) rfl) rfl
theorem w1_12 : (Cond.initialized "FarEditors$Comings") ∈ WB := tb_1 (List.mem_of_getElem? (i := 12) rfl) rfl
theorem w1_13 : (Cond.initialized "FarEditorsModel") ∈ WB := tb_1 (List.mem_of_getElem? (i := 13) rfl) rfl
theorem w1_14 : (Cond.initialized "java/lang/String") ∈ WB := tb_1 (List.mem_of_getElem? (i := 14) rfl) rfl
theorem w1_15 : (Cond.initialized "java/lang/StringLatin1") ∈ WB := tb_1 (List.mem_of_getElem? (i := 15) rfl) rfl
theorem w1_16 : (Cond.initialized "jdk/internal/util/Preconditions") ∈ WB := tb_1 (List.mem_of_getElem? (i := 16) rfl) rfl
theorem w1_17 : (Cond.initialized "java/lang/StringUTF16") ∈ WB := tb_1 (List.mem_of_getElem? (i := 17) rfl) rfl
theorem w1_18 : (Cond.initialized "java/lang/Math") ∈ WB := tb_1 (List.mem_of_getElem? (i := 18) rfl) rfl
theorem w1_19 : (Cond.initialized "java/lang/System") ∈ WB := tb_1 (List.mem_of_getElem? (i := 19) rfl) rfl
theorem w1_20 : (Cond.initialized "java/util/Arrays") ∈ WB := tb_1 (List.mem_of_getElem? (i := 20) rfl) rfl
theorem w1_21 : (Cond.classLink "FarEditorsLaw" (7 : Nat) "FarEditors") ∈ WB := tb_1 (List.mem_of_getElem? (i := 21) rfl) rfl
theorem w1_22 : (Cond.instantiable "FarEditors" (14 : Nat)) ∈ WB := tb_1 (List.mem_of_getElem? (i := 22) rfl) rfl
theorem w1_23 : (Cond.methodLink "FarEditorsLaw" (9 : Nat) yX11_init) ∈ WB := tb_1 (List.mem_of_getElem? (i := 23) rfl) rfl
theorem w1_24 : (Cond.instanceMethod yX11_init) ∈ WB := tb_1 (List.mem_of_getElem? (i := 24) rfl) rfl
theorem w1_25 : (Cond.code yX11_init prog_1_method_1_code (1 : Nat) (Option.none : Option Jvm.ClassFile.FieldType)) ∈ WB := tb_1 (List.mem_of_getElem? (i := 25) rfl) rfl
theorem w1_26 : (Cond.methodLink "FarEditors" (1 : Nat) (⟨"java/lang/Object", "<init>", "()V"⟩ : MethodName)) ∈ WB := tb_1 (List.mem_of_getElem? (i := 26) rfl) rfl
theorem w1_27 : (Cond.instanceMethod (⟨"java/lang/Object", "<init>", "()V"⟩ : MethodName)) ∈ WB := tb_1 (List.mem_of_getElem? (i := 27) rfl) rfl
theorem w1_28 : (Cond.code (⟨"java/lang/Object", "<init>", "()V"⟩ : MethodName) object_method_1_code (1 : Nat) (Option.none : Option Jvm.ClassFile.FieldType)) ∈ WB := tb_1 (List.mem_of_getElem? (i := 28) rfl) rfl
theorem w1_29 : (Cond.classLink "FarEditors" (7 : Nat) "FarEditors$Told") ∈ WB := tb_1 (List.mem_of_getElem? (i := 29) rfl) rfl
theorem w1_30 : (Cond.instantiable "FarEditors$Told" (12 : Nat)) ∈ WB := tb_1 (List.mem_of_getElem? (i := 30) rfl) rfl
theorem w1_31 : (Cond.methodLink "FarEditors" (9 : Nat) yX8_init) ∈ WB := tb_1 (List.mem_of_getElem? (i := 31) rfl) rfl
theorem w1_32 : (Cond.instanceMethod yX8_init) ∈ WB := tb_1 (List.mem_of_getElem? (i := 32) rfl) rfl
theorem w1_33 : (Cond.code yX8_init prog_10_method_1_code (1 : Nat) (Option.none : Option Jvm.ClassFile.FieldType)) ∈ WB := tb_1 (List.mem_of_getElem? (i := 33) rfl) rfl
theorem w1_34 : (Cond.methodLink "FarEditors$Told" (3 : Nat) (⟨"java/lang/Object", "<init>", "()V"⟩ : MethodName)) ∈ WB := tb_1 (List.mem_of_getElem? (i := 34) rfl) rfl
theorem w1_35 : (Cond.fieldLink "FarEditors$Told" (11 : Nat) "FarEditors$Told" "bytes" "[I") ∈ WB := tb_1 (List.mem_of_getElem? (i := 35) rfl) rfl
theorem w1_36 : (Cond.fieldLink "FarEditors" (296 : Nat) "FarEditors$Told" "bytes" "[I") ∈ WB := tb_1 (List.mem_of_getElem? (i := 36) rfl) rfl
theorem w1_37 : (Cond.fieldLink "FarEditors$Told" (15 : Nat) "FarEditors$Told" "length" "I") ∈ WB := tb_1 (List.mem_of_getElem? (i := 37) rfl) rfl
theorem w1_38 : (Cond.fieldLink "FarEditors" (99 : Nat) "FarEditors$Told" "length" "I") ∈ WB := tb_1 (List.mem_of_getElem? (i := 38) rfl) rfl
theorem w1_39 : (Cond.fieldLink "FarEditors$Told" (19 : Nat) "FarEditors$Told" "fault" "I") ∈ WB := tb_1 (List.mem_of_getElem? (i := 39) rfl) rfl
theorem w1_40 : (Cond.fieldLink "FarEditors" (382 : Nat) "FarEditors$Told" "fault" "I") ∈ WB := tb_1 (List.mem_of_getElem? (i := 40) rfl) rfl
theorem w1_41 : (Cond.fieldLink "FarEditors$Told" (22 : Nat) "FarEditors$Told" "faultPlace" "I") ∈ WB := tb_1 (List.mem_of_getElem? (i := 41) rfl) rfl
theorem w1_42 : (Cond.fieldLink "FarEditors" (385 : Nat) "FarEditors$Told" "faultPlace" "I") ∈ WB := tb_1 (List.mem_of_getElem? (i := 42) rfl) rfl
theorem w1_43 : (Cond.fieldLink "FarEditors$Told" (25 : Nat) "FarEditors$Told" "count" "I") ∈ WB := tb_1 (List.mem_of_getElem? (i := 43) rfl) rfl
theorem w1_44 : (Cond.fieldLink "FarEditors" (115 : Nat) "FarEditors$Told" "count" "I") ∈ WB := tb_1 (List.mem_of_getElem? (i := 44) rfl) rfl
theorem w1_45 : (Cond.fieldLink "FarEditors$Told" (28 : Nat) "FarEditors$Told" "editors" "I") ∈ WB := tb_1 (List.mem_of_getElem? (i := 45) rfl) rfl
theorem w1_46 : (Cond.fieldLink "FarEditors" (405 : Nat) "FarEditors$Told" "editors" "I") ∈ WB := tb_1 (List.mem_of_getElem? (i := 46) rfl) rfl
theorem w1_47 : (Cond.fieldLink "FarEditors$Told" (31 : Nat) "FarEditors$Told" "wordLength" "I") ∈ WB := tb_1 (List.mem_of_getElem? (i := 47) rfl) rfl
theorem w1_48 : (Cond.fieldLink "FarEditors" (399 : Nat) "FarEditors$Told" "wordLength" "I") ∈ WB := tb_1 (List.mem_of_getElem? (i := 48) rfl) rfl
theorem w1_49 : (Cond.fieldLink "FarEditors$Told" (34 : Nat) "FarEditors$Told" "parts" "[I") ∈ WB := tb_1 (List.mem_of_getElem? (i := 49) rfl) rfl
theorem w1_50 : (Cond.fieldLink "FarEditors" (322 : Nat) "FarEditors$Told" "parts" "[I") ∈ WB := tb_1 (List.mem_of_getElem? (i := 50) rfl) rfl
theorem w1_51 : (Cond.fieldLink "FarEditors$Told" (37 : Nat) "FarEditors$Told" "used" "I") ∈ WB := tb_1 (List.mem_of_getElem? (i := 51) rfl) rfl
theorem w1_52 : (Cond.fieldLink "FarEditors" (325 : Nat) "FarEditors$Told" "used" "I") ∈ WB := tb_1 (List.mem_of_getElem? (i := 52) rfl) rfl
theorem w1_53 : (Cond.fieldLink "FarEditors$Told" (40 : Nat) "FarEditors$Told" "kinds" "[I") ∈ WB := tb_1 (List.mem_of_getElem? (i := 53) rfl) rfl
theorem w1_54 : (Cond.fieldLink "FarEditors" (415 : Nat) "FarEditors$Told" "kinds" "[I") ∈ WB := tb_1 (List.mem_of_getElem? (i := 54) rfl) rfl
theorem w1_55 : (Cond.fieldLink "FarEditors$Told" (43 : Nat) "FarEditors$Told" "numbers" "[I") ∈ WB := tb_1 (List.mem_of_getElem? (i := 55) rfl) rfl
theorem w1_56 : (Cond.fieldLink "FarEditors$Told" (46 : Nat) "FarEditors$Told" "at" "I") ∈ WB := tb_1 (List.mem_of_getElem? (i := 56) rfl) rfl
theorem w1_57 : (Cond.laysFinal "FarEditors$Told" "FarEditors$Told" "bytes" "[I") ∈ WB := tb_1 (List.mem_of_getElem? (i := 57) rfl) rfl
theorem w1_59 : (Cond.lays "FarEditors$Told" "FarEditors$Told" "length" "I") ∈ WB := tb_1 (List.mem_of_getElem? (i := 59) rfl) rfl
theorem w1_61 : (Cond.lays "FarEditors$Told" "FarEditors$Told" "fault" "I") ∈ WB := tb_1 (List.mem_of_getElem? (i := 61) rfl) rfl
theorem w1_63 : (Cond.lays "FarEditors$Told" "FarEditors$Told" "faultPlace" "I") ∈ WB := tb_1 (List.mem_of_getElem? (i := 63) rfl) rfl
theorem w1_65 : (Cond.lays "FarEditors$Told" "FarEditors$Told" "count" "I") ∈ WB := tb_1 (List.mem_of_getElem? (i := 65) rfl) rfl
theorem w1_67 : (Cond.lays "FarEditors$Told" "FarEditors$Told" "editors" "I") ∈ WB := tb_1 (List.mem_of_getElem? (i := 67) rfl) rfl
theorem w1_69 : (Cond.lays "FarEditors$Told" "FarEditors$Told" "wordLength" "I") ∈ WB := tb_1 (List.mem_of_getElem? (i := 69) rfl) rfl
theorem w1_71 : (Cond.laysFinal "FarEditors$Told" "FarEditors$Told" "parts" "[I") ∈ WB := tb_1 (List.mem_of_getElem? (i := 71) rfl) rfl
theorem w1_73 : (Cond.lays "FarEditors$Told" "FarEditors$Told" "used" "I") ∈ WB := tb_1 (List.mem_of_getElem? (i := 73) rfl) rfl
theorem w1_75 : (Cond.laysFinal "FarEditors$Told" "FarEditors$Told" "kinds" "[I") ∈ WB := tb_1 (List.mem_of_getElem? (i := 75) rfl) rfl
theorem w1_77 : (Cond.laysFinal "FarEditors$Told" "FarEditors$Told" "numbers" "[I") ∈ WB := tb_1 (List.mem_of_getElem? (i := 77) rfl) rfl
theorem w1_79 : (Cond.lays "FarEditors$Told" "FarEditors$Told" "at" "I") ∈ WB := tb_1 (List.mem_of_getElem? (i := 79) rfl) rfl
theorem w1_82 : (Cond.arrayClass Jvm.ClassFile.FieldType.int) ∈ WB := tb_1 (List.mem_of_getElem? (i := 82) rfl) rfl
theorem w1_83 : (Cond.classLink "FarEditors" (16 : Nat) "FarEditors$Weaver") ∈ WB := tb_1 (List.mem_of_getElem? (i := 83) rfl) rfl
theorem w1_84 : (Cond.instantiable "FarEditors$Weaver" (7 : Nat)) ∈ WB := tb_1 (List.mem_of_getElem? (i := 84) rfl) rfl
theorem w1_85 : (Cond.methodLink "FarEditors" (18 : Nat) yX9_init) ∈ WB := tb_1 (List.mem_of_getElem? (i := 85) rfl) rfl
theorem w1_86 : (Cond.instanceMethod yX9_init) ∈ WB := tb_1 (List.mem_of_getElem? (i := 86) rfl) rfl
theorem w1_87 : (Cond.code yX9_init prog_11_method_1_code (1 : Nat) (Option.none : Option Jvm.ClassFile.FieldType)) ∈ WB := tb_1 (List.mem_of_getElem? (i := 87) rfl) rfl
theorem w1_88 : (Cond.methodLink "FarEditors$Weaver" (3 : Nat) (⟨"java/lang/Object", "<init>", "()V"⟩ : MethodName)) ∈ WB := tb_1 (List.mem_of_getElem? (i := 88) rfl) rfl
theorem w1_89 : (Cond.classLink "FarEditors$Weaver" (9 : Nat) "FarEditors$Reader") ∈ WB := tb_1 (List.mem_of_getElem? (i := 89) rfl) rfl
theorem w1_90 : (Cond.instantiable "FarEditors$Reader" (4 : Nat)) ∈ WB := tb_1 (List.mem_of_getElem? (i := 90) rfl) rfl
theorem w1_91 : (Cond.methodLink "FarEditors$Weaver" (11 : Nat) yX5_init) ∈ WB := tb_1 (List.mem_of_getElem? (i := 91) rfl) rfl
theorem w1_92 : (Cond.instanceMethod yX5_init) ∈ WB := tb_1 (List.mem_of_getElem? (i := 92) rfl) rfl
theorem w1_93 : (Cond.code yX5_init prog_7_method_1_code (1 : Nat) (Option.none : Option Jvm.ClassFile.FieldType)) ∈ WB := tb_1 (List.mem_of_getElem? (i := 93) rfl) rfl
theorem w1_94 : (Cond.methodLink "FarEditors$Reader" (3 : Nat) (⟨"java/lang/Object", "<init>", "()V"⟩ : MethodName)) ∈ WB := tb_1 (List.mem_of_getElem? (i := 94) rfl) rfl
theorem w1_95 : (Cond.classLink "FarEditors$Reader" (9 : Nat) "FarEditors$Op") ∈ WB := tb_1 (List.mem_of_getElem? (i := 95) rfl) rfl
theorem w1_96 : (Cond.instantiable "FarEditors$Op" (2 : Nat)) ∈ WB := tb_1 (List.mem_of_getElem? (i := 96) rfl) rfl
theorem w1_97 : (Cond.methodLink "FarEditors$Reader" (11 : Nat) yX4_init) ∈ WB := tb_1 (List.mem_of_getElem? (i := 97) rfl) rfl
theorem w1_98 : (Cond.instanceMethod yX4_init) ∈ WB := tb_1 (List.mem_of_getElem? (i := 98) rfl) rfl
theorem w1_99 : (Cond.code yX4_init prog_6_method_1_code (1 : Nat) (Option.none : Option Jvm.ClassFile.FieldType)) ∈ WB := tb_1 (List.mem_of_getElem? (i := 99) rfl) rfl
theorem w1_100 : (Cond.methodLink "FarEditors$Op" (3 : Nat) (⟨"java/lang/Object", "<init>", "()V"⟩ : MethodName)) ∈ WB := tb_1 (List.mem_of_getElem? (i := 100) rfl) rfl
theorem w1_101 : (Cond.fieldLink "FarEditors$Op" (9 : Nat) "FarEditors$Op" "parts" "[I") ∈ WB := tb_1 (List.mem_of_getElem? (i := 101) rfl) rfl
theorem w1_102 : (Cond.fieldLink "FarEditors$Weaver" (52 : Nat) "FarEditors$Op" "parts" "[I") ∈ WB := tb_1 (List.mem_of_getElem? (i := 102) rfl) rfl
theorem w1_103 : (Cond.fieldLink "FarEditors$Reader" (35 : Nat) "FarEditors$Op" "parts" "[I") ∈ WB := tb_1 (List.mem_of_getElem? (i := 103) rfl) rfl
theorem w1_104 : (Cond.fieldLink "FarEditors$World" (221 : Nat) "FarEditors$Op" "parts" "[I") ∈ WB := tb_1 (List.mem_of_getElem? (i := 104) rfl) rfl
theorem w1_105 : (Cond.fieldLink "FarEditors$Op" (15 : Nat) "FarEditors$Op" "size" "I") ∈ WB := tb_1 (List.mem_of_getElem? (i := 105) rfl) rfl
theorem w1_106 : (Cond.fieldLink "FarEditors$Weaver" (41 : Nat) "FarEditors$Op" "size" "I") ∈ WB := tb_1 (List.mem_of_getElem? (i := 106) rfl) rfl
theorem w1_107 : (Cond.fieldLink "FarEditors$Reader" (32 : Nat) "FarEditors$Op" "size" "I") ∈ WB := tb_1 (List.mem_of_getElem? (i := 107) rfl) rfl
theorem w1_108 : (Cond.fieldLink "FarEditors$World" (220 : Nat) "FarEditors$Op" "size" "I") ∈ WB := tb_1 (List.mem_of_getElem? (i := 108) rfl) rfl
theorem w1_109 : (Cond.lays "FarEditors$Op" "FarEditors$Op" "parts" "[I") ∈ WB := tb_1 (List.mem_of_getElem? (i := 109) rfl) rfl
theorem w1_111 : (Cond.lays "FarEditors$Op" "FarEditors$Op" "size" "I") ∈ WB := tb_1 (List.mem_of_getElem? (i := 111) rfl) rfl
theorem w1_114 : (Cond.fieldLink "FarEditors$Reader" (12 : Nat) "FarEditors$Reader" "op" "LFarEditors$Op;") ∈ WB := tb_1 (List.mem_of_getElem? (i := 114) rfl) rfl
theorem w1_115 : (Cond.fieldLink "FarEditors$Reader" (18 : Nat) "FarEditors$Reader" "at" "I") ∈ WB := tb_1 (List.mem_of_getElem? (i := 115) rfl) rfl
theorem w1_116 : (Cond.fieldLink "FarEditors$Reader" (22 : Nat) "FarEditors$Reader" "part" "I") ∈ WB := tb_1 (List.mem_of_getElem? (i := 116) rfl) rfl
theorem w1_117 : (Cond.fieldLink "FarEditors$Weaver" (95 : Nat) "FarEditors$Reader" "part" "I") ∈ WB := tb_1 (List.mem_of_getElem? (i := 117) rfl) rfl
theorem w1_118 : (Cond.fieldLink "FarEditors$Reader" (25 : Nat) "FarEditors$Reader" "left" "I") ∈ WB := tb_1 (List.mem_of_getElem? (i := 118) rfl) rfl
theorem w1_119 : (Cond.fieldLink "FarEditors$Weaver" (86 : Nat) "FarEditors$Reader" "left" "I") ∈ WB := tb_1 (List.mem_of_getElem? (i := 119) rfl) rfl
theorem w1_120 : (Cond.lays "FarEditors$Reader" "FarEditors$Reader" "op" "LFarEditors$Op;") ∈ WB := tb_1 (List.mem_of_getElem? (i := 120) rfl) rfl
theorem w1_122 : (Cond.lays "FarEditors$Reader" "FarEditors$Reader" "at" "I") ∈ WB := tb_1 (List.mem_of_getElem? (i := 122) rfl) rfl
theorem w1_124 : (Cond.lays "FarEditors$Reader" "FarEditors$Reader" "part" "I") ∈ WB := tb_1 (List.mem_of_getElem? (i := 124) rfl) rfl
theorem w1_126 : (Cond.lays "FarEditors$Reader" "FarEditors$Reader" "left" "I") ∈ WB := tb_1 (List.mem_of_getElem? (i := 126) rfl) rfl
theorem w1_129 : (Cond.classLink "FarEditors$Weaver" (21 : Nat) "FarEditors$Op") ∈ WB := tb_1 (List.mem_of_getElem? (i := 129) rfl) rfl
theorem w1_130 : (Cond.methodLink "FarEditors$Weaver" (23 : Nat) yX4_init) ∈ WB := tb_1 (List.mem_of_getElem? (i := 130) rfl) rfl
theorem w1_131 : (Cond.fieldLink "FarEditors$Weaver" (12 : Nat) "FarEditors$Weaver" "readA" "LFarEditors$Reader;") ∈ WB := tb_1 (List.mem_of_getElem? (i := 131) rfl) rfl
theorem w1_132 : (Cond.fieldLink "FarEditors$Weaver" (18 : Nat) "FarEditors$Weaver" "readB" "LFarEditors$Reader;") ∈ WB := tb_1 (List.mem_of_getElem? (i := 132) rfl) rfl
theorem w1_133 : (Cond.fieldLink "FarEditors$Weaver" (24 : Nat) "FarEditors$Weaver" "outA" "LFarEditors$Op;") ∈ WB := tb_1 (List.mem_of_getElem? (i := 133) rfl) rfl
theorem w1_134 : (Cond.fieldLink "FarEditors$Weaver" (28 : Nat) "FarEditors$Weaver" "outB" "LFarEditors$Op;") ∈ WB := tb_1 (List.mem_of_getElem? (i := 134) rfl) rfl
theorem w1_135 : (Cond.fieldLink "FarEditors$Weaver" (31 : Nat) "FarEditors$Weaver" "spare" "[I") ∈ WB := tb_1 (List.mem_of_getElem? (i := 135) rfl) rfl
theorem w1_136 : (Cond.fieldLink "FarEditors$Weaver" (35 : Nat) "FarEditors$Weaver" "coming" "LFarEditors$Op;") ∈ WB := tb_1 (List.mem_of_getElem? (i := 136) rfl) rfl
theorem w1_137 : (Cond.fieldLink "FarEditors$World" (203 : Nat) "FarEditors$Weaver" "coming" "LFarEditors$Op;") ∈ WB := tb_1 (List.mem_of_getElem? (i := 137) rfl) rfl
theorem w1_138 : (Cond.fieldLink "FarEditors$Weaver" (38 : Nat) "FarEditors$Weaver" "carried" "LFarEditors$Op;") ∈ WB := tb_1 (List.mem_of_getElem? (i := 138) rfl) rfl
theorem w1_139 : (Cond.laysFinal "FarEditors$Weaver" "FarEditors$Weaver" "readA" "LFarEditors$Reader;") ∈ WB := tb_1 (List.mem_of_getElem? (i := 139) rfl) rfl
theorem w1_141 : (Cond.laysFinal "FarEditors$Weaver" "FarEditors$Weaver" "readB" "LFarEditors$Reader;") ∈ WB := tb_1 (List.mem_of_getElem? (i := 141) rfl) rfl
theorem w1_143 : (Cond.laysFinal "FarEditors$Weaver" "FarEditors$Weaver" "outA" "LFarEditors$Op;") ∈ WB := tb_1 (List.mem_of_getElem? (i := 143) rfl) rfl
theorem w1_145 : (Cond.laysFinal "FarEditors$Weaver" "FarEditors$Weaver" "outB" "LFarEditors$Op;") ∈ WB := tb_1 (List.mem_of_getElem? (i := 145) rfl) rfl
theorem w1_147 : (Cond.lays "FarEditors$Weaver" "FarEditors$Weaver" "spare" "[I") ∈ WB := tb_1 (List.mem_of_getElem? (i := 147) rfl) rfl
theorem w1_149 : (Cond.laysFinal "FarEditors$Weaver" "FarEditors$Weaver" "coming" "LFarEditors$Op;") ∈ WB := tb_1 (List.mem_of_getElem? (i := 149) rfl) rfl
theorem w1_151 : (Cond.laysFinal "FarEditors$Weaver" "FarEditors$Weaver" "carried" "LFarEditors$Op;") ∈ WB := tb_1 (List.mem_of_getElem? (i := 151) rfl) rfl
theorem w1_154 : (Cond.classLink "FarEditors" (23 : Nat) "FarEditors$Row") ∈ WB := tb_1 (List.mem_of_getElem? (i := 154) rfl) rfl
theorem w1_155 : (Cond.instantiable "FarEditors$Row" (3 : Nat)) ∈ WB := tb_1 (List.mem_of_getElem? (i := 155) rfl) rfl
theorem w1_156 : (Cond.methodLink "FarEditors" (25 : Nat) yX6_init) ∈ WB := tb_1 (List.mem_of_getElem? (i := 156) rfl) rfl
theorem w1_157 : (Cond.instanceMethod yX6_init) ∈ WB := tb_1 (List.mem_of_getElem? (i := 157) rfl) rfl
theorem w1_158 : (Cond.code yX6_init prog_8_method_1_code (2 : Nat) (Option.none : Option Jvm.ClassFile.FieldType)) ∈ WB := tb_1 (List.mem_of_getElem? (i := 158) rfl) rfl
theorem w1_159 : (Cond.methodLink "FarEditors$Row" (3 : Nat) (⟨"java/lang/Object", "<init>", "()V"⟩ : MethodName)) ∈ WB := tb_1 (List.mem_of_getElem? (i := 159) rfl) rfl
theorem w1_160 : (Cond.classLink "FarEditors$Row" (9 : Nat) "FarEditors$Text") ∈ WB := tb_1 (List.mem_of_getElem? (i := 160) rfl) rfl
theorem w1_161 : (Cond.instantiable "FarEditors$Text" (2 : Nat)) ∈ WB := tb_1 (List.mem_of_getElem? (i := 161) rfl) rfl
theorem w1_162 : (Cond.methodLink "FarEditors$Row" (11 : Nat) yX7_init) ∈ WB := tb_1 (List.mem_of_getElem? (i := 162) rfl) rfl
theorem w1_163 : (Cond.instanceMethod yX7_init) ∈ WB := tb_1 (List.mem_of_getElem? (i := 163) rfl) rfl
theorem w1_164 : (Cond.code yX7_init prog_9_method_1_code (1 : Nat) (Option.none : Option Jvm.ClassFile.FieldType)) ∈ WB := tb_1 (List.mem_of_getElem? (i := 164) rfl) rfl
theorem w1_165 : (Cond.methodLink "FarEditors$Text" (3 : Nat) (⟨"java/lang/Object", "<init>", "()V"⟩ : MethodName)) ∈ WB := tb_1 (List.mem_of_getElem? (i := 165) rfl) rfl
theorem w1_166 : (Cond.fieldLink "FarEditors$Text" (9 : Nat) "FarEditors$Text" "letters" "[I") ∈ WB := tb_1 (List.mem_of_getElem? (i := 166) rfl) rfl
theorem w1_167 : (Cond.fieldLink "FarEditors$Weaver" (121 : Nat) "FarEditors$Text" "letters" "[I") ∈ WB := tb_1 (List.mem_of_getElem? (i := 167) rfl) rfl
theorem w1_168 : (Cond.fieldLink "FarEditors$Text" (15 : Nat) "FarEditors$Text" "size" "I") ∈ WB := tb_1 (List.mem_of_getElem? (i := 168) rfl) rfl
theorem w1_169 : (Cond.fieldLink "FarEditors$Weaver" (45 : Nat) "FarEditors$Text" "size" "I") ∈ WB := tb_1 (List.mem_of_getElem? (i := 169) rfl) rfl
theorem w1_170 : (Cond.fieldLink "FarEditors" (131 : Nat) "FarEditors$Text" "size" "I") ∈ WB := tb_1 (List.mem_of_getElem? (i := 170) rfl) rfl
theorem w1_171 : (Cond.fieldLink "FarEditors$World" (94 : Nat) "FarEditors$Text" "size" "I") ∈ WB := tb_1 (List.mem_of_getElem? (i := 171) rfl) rfl
theorem w1_172 : (Cond.lays "FarEditors$Text" "FarEditors$Text" "letters" "[I") ∈ WB := tb_1 (List.mem_of_getElem? (i := 172) rfl) rfl
theorem w1_174 : (Cond.lays "FarEditors$Text" "FarEditors$Text" "size" "I") ∈ WB := tb_1 (List.mem_of_getElem? (i := 174) rfl) rfl
theorem w1_177 : (Cond.classLink "FarEditors$Row" (18 : Nat) "FarEditors$Op") ∈ WB := tb_1 (List.mem_of_getElem? (i := 177) rfl) rfl
theorem w1_179 : (Cond.methodLink "FarEditors$Row" (28 : Nat) yX4_init) ∈ WB := tb_1 (List.mem_of_getElem? (i := 179) rfl) rfl
theorem w1_180 : (Cond.fieldLink "FarEditors$Row" (12 : Nat) "FarEditors$Row" "start" "LFarEditors$Text;") ∈ WB := tb_1 (List.mem_of_getElem? (i := 180) rfl) rfl
theorem w1_181 : (Cond.fieldLink "FarEditors$World" (66 : Nat) "FarEditors$Row" "start" "LFarEditors$Text;") ∈ WB := tb_1 (List.mem_of_getElem? (i := 181) rfl) rfl
theorem w1_182 : (Cond.fieldLink "FarEditors" (396 : Nat) "FarEditors$Row" "start" "LFarEditors$Text;") ∈ WB := tb_1 (List.mem_of_getElem? (i := 182) rfl) rfl
theorem w1_183 : (Cond.fieldLink "FarEditors$Row" (20 : Nat) "FarEditors$Row" "ops" "[LFarEditors$Op;") ∈ WB := tb_1 (List.mem_of_getElem? (i := 183) rfl) rfl
theorem w1_184 : (Cond.fieldLink "FarEditors" (219 : Nat) "FarEditors$Row" "ops" "[LFarEditors$Op;") ∈ WB := tb_1 (List.mem_of_getElem? (i := 184) rfl) rfl
theorem w1_185 : (Cond.fieldLink "FarEditors$World" (202 : Nat) "FarEditors$Row" "ops" "[LFarEditors$Op;") ∈ WB := tb_1 (List.mem_of_getElem? (i := 185) rfl) rfl
theorem w1_186 : (Cond.fieldLink "FarEditors$Row" (24 : Nat) "FarEditors$Row" "owners" "[I") ∈ WB := tb_1 (List.mem_of_getElem? (i := 186) rfl) rfl
theorem w1_187 : (Cond.fieldLink "FarEditors$World" (91 : Nat) "FarEditors$Row" "owners" "[I") ∈ WB := tb_1 (List.mem_of_getElem? (i := 187) rfl) rfl
theorem w1_188 : (Cond.fieldLink "FarEditors" (222 : Nat) "FarEditors$Row" "owners" "[I") ∈ WB := tb_1 (List.mem_of_getElem? (i := 188) rfl) rfl
theorem w1_189 : (Cond.laysFinal "FarEditors$Row" "FarEditors$Row" "start" "LFarEditors$Text;") ∈ WB := tb_1 (List.mem_of_getElem? (i := 189) rfl) rfl
theorem w1_191 : (Cond.laysFinal "FarEditors$Row" "FarEditors$Row" "ops" "[LFarEditors$Op;") ∈ WB := tb_1 (List.mem_of_getElem? (i := 191) rfl) rfl
theorem w1_193 : (Cond.laysFinal "FarEditors$Row" "FarEditors$Row" "owners" "[I") ∈ WB := tb_1 (List.mem_of_getElem? (i := 193) rfl) rfl
theorem w1_196 : (Cond.classLink "FarEditors" (30 : Nat) "FarEditors$World") ∈ WB := tb_1 (List.mem_of_getElem? (i := 196) rfl) rfl
theorem w1_197 : (Cond.instantiable "FarEditors$World" (12 : Nat)) ∈ WB := tb_1 (List.mem_of_getElem? (i := 197) rfl) rfl
theorem w1_198 : (Cond.methodLink "FarEditors" (32 : Nat) yX10_init) ∈ WB := tb_1 (List.mem_of_getElem? (i := 198) rfl) rfl
theorem w1_199 : (Cond.instanceMethod yX10_init) ∈ WB := tb_1 (List.mem_of_getElem? (i := 199) rfl) rfl
theorem w1_200 : (Cond.code yX10_init prog_12_method_1_code (4 : Nat) (Option.none : Option Jvm.ClassFile.FieldType)) ∈ WB := tb_1 (List.mem_of_getElem? (i := 200) rfl) rfl
theorem w1_201 : (Cond.methodLink "FarEditors$World" (3 : Nat) (⟨"java/lang/Object", "<init>", "()V"⟩ : MethodName)) ∈ WB := tb_1 (List.mem_of_getElem? (i := 201) rfl) rfl
theorem w1_202 : (Cond.classLink "FarEditors$World" (9 : Nat) "FarEditors$Text") ∈ WB := tb_1 (List.mem_of_getElem? (i := 202) rfl) rfl
theorem w1_203 : (Cond.methodLink "FarEditors$World" (11 : Nat) yX7_init) ∈ WB := tb_1 (List.mem_of_getElem? (i := 203) rfl) rfl
theorem w1_204 : (Cond.classLink "FarEditors$World" (18 : Nat) "FarEditors$Editor") ∈ WB := tb_1 (List.mem_of_getElem? (i := 204) rfl) rfl
theorem w1_206 : (Cond.instantiable "FarEditors$Editor" (15 : Nat)) ∈ WB := tb_1 (List.mem_of_getElem? (i := 206) rfl) rfl
theorem w1_207 : (Cond.methodLink "FarEditors$World" (59 : Nat) yX1_init) ∈ WB := tb_1 (List.mem_of_getElem? (i := 207) rfl) rfl
theorem w1_208 : (Cond.instanceMethod yX1_init) ∈ WB := tb_1 (List.mem_of_getElem? (i := 208) rfl) rfl
theorem w1_209 : (Cond.code yX1_init prog_3_method_1_code (1 : Nat) (Option.none : Option Jvm.ClassFile.FieldType)) ∈ WB := tb_1 (List.mem_of_getElem? (i := 209) rfl) rfl
theorem w1_210 : (Cond.methodLink "FarEditors$Editor" (3 : Nat) (⟨"java/lang/Object", "<init>", "()V"⟩ : MethodName)) ∈ WB := tb_1 (List.mem_of_getElem? (i := 210) rfl) rfl
theorem w1_211 : (Cond.classLink "FarEditors$Editor" (9 : Nat) "FarEditors$Text") ∈ WB := tb_1 (List.mem_of_getElem? (i := 211) rfl) rfl
theorem w1_212 : (Cond.methodLink "FarEditors$Editor" (11 : Nat) yX7_init) ∈ WB := tb_1 (List.mem_of_getElem? (i := 212) rfl) rfl
theorem w1_213 : (Cond.classLink "FarEditors$Editor" (18 : Nat) "FarEditors$Op") ∈ WB := tb_1 (List.mem_of_getElem? (i := 213) rfl) rfl
theorem w1_214 : (Cond.methodLink "FarEditors$Editor" (20 : Nat) yX4_init) ∈ WB := tb_1 (List.mem_of_getElem? (i := 214) rfl) rfl
theorem w1_215 : (Cond.classLink "FarEditors$Editor" (28 : Nat) "FarEditors$Inverses") ∈ WB := tb_1 (List.mem_of_getElem? (i := 215) rfl) rfl
theorem w1_216 : (Cond.instantiable "FarEditors$Inverses" (2 : Nat)) ∈ WB := tb_1 (List.mem_of_getElem? (i := 216) rfl) rfl
theorem w1_217 : (Cond.methodLink "FarEditors$Editor" (30 : Nat) yX3_init) ∈ WB := tb_1 (List.mem_of_getElem? (i := 217) rfl) rfl
theorem w1_218 : (Cond.instanceMethod yX3_init) ∈ WB := tb_1 (List.mem_of_getElem? (i := 218) rfl) rfl
theorem w1_219 : (Cond.code yX3_init prog_5_method_1_code (2 : Nat) (Option.none : Option Jvm.ClassFile.FieldType)) ∈ WB := tb_1 (List.mem_of_getElem? (i := 219) rfl) rfl
theorem w1_220 : (Cond.methodLink "FarEditors$Inverses" (3 : Nat) (⟨"java/lang/Object", "<init>", "()V"⟩ : MethodName)) ∈ WB := tb_1 (List.mem_of_getElem? (i := 220) rfl) rfl
theorem w1_221 : (Cond.classLink "FarEditors$Inverses" (9 : Nat) "FarEditors$Op") ∈ WB := tb_1 (List.mem_of_getElem? (i := 221) rfl) rfl
theorem w1_222 : (Cond.methodLink "FarEditors$Inverses" (21 : Nat) yX4_init) ∈ WB := tb_1 (List.mem_of_getElem? (i := 222) rfl) rfl
theorem w1_223 : (Cond.fieldLink "FarEditors$Inverses" (11 : Nat) "FarEditors$Inverses" "ops" "[LFarEditors$Op;") ∈ WB := tb_1 (List.mem_of_getElem? (i := 223) rfl) rfl
theorem w1_224 : (Cond.fieldLink "FarEditors$Weaver" (113 : Nat) "FarEditors$Inverses" "ops" "[LFarEditors$Op;") ∈ WB := tb_1 (List.mem_of_getElem? (i := 224) rfl) rfl
theorem w1_225 : (Cond.fieldLink "FarEditors$World" (152 : Nat) "FarEditors$Inverses" "ops" "[LFarEditors$Op;") ∈ WB := tb_1 (List.mem_of_getElem? (i := 225) rfl) rfl
theorem w1_226 : (Cond.fieldLink "FarEditors" (433 : Nat) "FarEditors$Inverses" "ops" "[LFarEditors$Op;") ∈ WB := tb_1 (List.mem_of_getElem? (i := 226) rfl) rfl
theorem w1_227 : (Cond.fieldLink "FarEditors$Inverses" (17 : Nat) "FarEditors$Inverses" "size" "I") ∈ WB := tb_1 (List.mem_of_getElem? (i := 227) rfl) rfl
theorem w1_228 : (Cond.fieldLink "FarEditors$Editor" (75 : Nat) "FarEditors$Inverses" "size" "I") ∈ WB := tb_1 (List.mem_of_getElem? (i := 228) rfl) rfl
theorem w1_229 : (Cond.fieldLink "FarEditors$Weaver" (110 : Nat) "FarEditors$Inverses" "size" "I") ∈ WB := tb_1 (List.mem_of_getElem? (i := 229) rfl) rfl
theorem w1_230 : (Cond.fieldLink "FarEditors" (186 : Nat) "FarEditors$Inverses" "size" "I") ∈ WB := tb_1 (List.mem_of_getElem? (i := 230) rfl) rfl
theorem w1_231 : (Cond.fieldLink "FarEditors$World" (147 : Nat) "FarEditors$Inverses" "size" "I") ∈ WB := tb_1 (List.mem_of_getElem? (i := 231) rfl) rfl
theorem w1_232 : (Cond.laysFinal "FarEditors$Inverses" "FarEditors$Inverses" "ops" "[LFarEditors$Op;") ∈ WB := tb_1 (List.mem_of_getElem? (i := 232) rfl) rfl
theorem w1_234 : (Cond.lays "FarEditors$Inverses" "FarEditors$Inverses" "size" "I") ∈ WB := tb_1 (List.mem_of_getElem? (i := 234) rfl) rfl
theorem w1_237 : (Cond.fieldLink "FarEditors$Editor" (12 : Nat) "FarEditors$Editor" "text" "LFarEditors$Text;") ∈ WB := tb_1 (List.mem_of_getElem? (i := 237) rfl) rfl
theorem w1_238 : (Cond.fieldLink "FarEditors" (161 : Nat) "FarEditors$Editor" "text" "LFarEditors$Text;") ∈ WB := tb_1 (List.mem_of_getElem? (i := 238) rfl) rfl
theorem w1_239 : (Cond.fieldLink "FarEditors$World" (108 : Nat) "FarEditors$Editor" "text" "LFarEditors$Text;") ∈ WB := tb_1 (List.mem_of_getElem? (i := 239) rfl) rfl
theorem w2_0 : (Cond.fieldLink "FarEditors$Editor" (21 : Nat) "FarEditors$Editor" "pending" "LFarEditors$Op;") ∈ WB := tb_2 (List.mem_of_getElem? (i := 0) rfl) rfl
theorem w2_1 : (Cond.fieldLink "FarEditors" (204 : Nat) "FarEditors$Editor" "pending" "LFarEditors$Op;") ∈ WB := tb_2 (List.mem_of_getElem? (i := 1) rfl) rfl
theorem w2_2 : (Cond.fieldLink "FarEditors$World" (166 : Nat) "FarEditors$Editor" "pending" "LFarEditors$Op;") ∈ WB := tb_2 (List.mem_of_getElem? (i := 2) rfl) rfl
theorem w2_3 : (Cond.fieldLink "FarEditors$Editor" (25 : Nat) "FarEditors$Editor" "buffer" "LFarEditors$Op;") ∈ WB := tb_2 (List.mem_of_getElem? (i := 3) rfl) rfl
theorem w2_4 : (Cond.fieldLink "FarEditors" (210 : Nat) "FarEditors$Editor" "buffer" "LFarEditors$Op;") ∈ WB := tb_2 (List.mem_of_getElem? (i := 4) rfl) rfl
theorem w2_5 : (Cond.fieldLink "FarEditors$World" (179 : Nat) "FarEditors$Editor" "buffer" "LFarEditors$Op;") ∈ WB := tb_2 (List.mem_of_getElem? (i := 5) rfl) rfl
theorem w2_6 : (Cond.fieldLink "FarEditors$Editor" (31 : Nat) "FarEditors$Editor" "undos" "LFarEditors$Inverses;") ∈ WB := tb_2 (List.mem_of_getElem? (i := 6) rfl) rfl
theorem w2_7 : (Cond.fieldLink "FarEditors" (182 : Nat) "FarEditors$Editor" "undos" "LFarEditors$Inverses;") ∈ WB := tb_2 (List.mem_of_getElem? (i := 7) rfl) rfl
theorem w2_8 : (Cond.fieldLink "FarEditors$World" (128 : Nat) "FarEditors$Editor" "undos" "LFarEditors$Inverses;") ∈ WB := tb_2 (List.mem_of_getElem? (i := 8) rfl) rfl
theorem w2_9 : (Cond.fieldLink "FarEditors$Editor" (35 : Nat) "FarEditors$Editor" "dones" "LFarEditors$Inverses;") ∈ WB := tb_2 (List.mem_of_getElem? (i := 9) rfl) rfl
theorem w2_10 : (Cond.fieldLink "FarEditors" (189 : Nat) "FarEditors$Editor" "dones" "LFarEditors$Inverses;") ∈ WB := tb_2 (List.mem_of_getElem? (i := 10) rfl) rfl
theorem w2_11 : (Cond.fieldLink "FarEditors$World" (144 : Nat) "FarEditors$Editor" "dones" "LFarEditors$Inverses;") ∈ WB := tb_2 (List.mem_of_getElem? (i := 11) rfl) rfl
theorem w2_12 : (Cond.fieldLink "FarEditors$Editor" (38 : Nat) "FarEditors$Editor" "marks" "[I") ∈ WB := tb_2 (List.mem_of_getElem? (i := 12) rfl) rfl
theorem w2_13 : (Cond.fieldLink "FarEditors" (231 : Nat) "FarEditors$Editor" "marks" "[I") ∈ WB := tb_2 (List.mem_of_getElem? (i := 13) rfl) rfl
theorem w2_14 : (Cond.fieldLink "FarEditors$Editor" (42 : Nat) "FarEditors$Editor" "ticksLeftTo" "[I") ∈ WB := tb_2 (List.mem_of_getElem? (i := 14) rfl) rfl
theorem w2_15 : (Cond.fieldLink "FarEditors$World" (196 : Nat) "FarEditors$Editor" "ticksLeftTo" "[I") ∈ WB := tb_2 (List.mem_of_getElem? (i := 15) rfl) rfl
theorem w2_16 : (Cond.fieldLink "FarEditors$Editor" (45 : Nat) "FarEditors$Editor" "markCount" "I") ∈ WB := tb_2 (List.mem_of_getElem? (i := 16) rfl) rfl
theorem w2_17 : (Cond.fieldLink "FarEditors" (179 : Nat) "FarEditors$Editor" "markCount" "I") ∈ WB := tb_2 (List.mem_of_getElem? (i := 17) rfl) rfl
theorem w2_18 : (Cond.fieldLink "FarEditors$World" (115 : Nat) "FarEditors$Editor" "markCount" "I") ∈ WB := tb_2 (List.mem_of_getElem? (i := 18) rfl) rfl
theorem w2_19 : (Cond.fieldLink "FarEditors$Editor" (49 : Nat) "FarEditors$Editor" "revision" "I") ∈ WB := tb_2 (List.mem_of_getElem? (i := 19) rfl) rfl
theorem w2_20 : (Cond.fieldLink "FarEditors$World" (85 : Nat) "FarEditors$Editor" "revision" "I") ∈ WB := tb_2 (List.mem_of_getElem? (i := 20) rfl) rfl
theorem w2_21 : (Cond.fieldLink "FarEditors" (166 : Nat) "FarEditors$Editor" "revision" "I") ∈ WB := tb_2 (List.mem_of_getElem? (i := 21) rfl) rfl
theorem w2_22 : (Cond.fieldLink "FarEditors$Editor" (52 : Nat) "FarEditors$Editor" "place" "I") ∈ WB := tb_2 (List.mem_of_getElem? (i := 22) rfl) rfl
theorem w2_23 : (Cond.fieldLink "FarEditors" (169 : Nat) "FarEditors$Editor" "place" "I") ∈ WB := tb_2 (List.mem_of_getElem? (i := 23) rfl) rfl
theorem w2_24 : (Cond.fieldLink "FarEditors$Editor" (55 : Nat) "FarEditors$Editor" "delay" "I") ∈ WB := tb_2 (List.mem_of_getElem? (i := 24) rfl) rfl
theorem w2_25 : (Cond.fieldLink "FarEditors" (195 : Nat) "FarEditors$Editor" "delay" "I") ∈ WB := tb_2 (List.mem_of_getElem? (i := 25) rfl) rfl
theorem w2_26 : (Cond.fieldLink "FarEditors$World" (217 : Nat) "FarEditors$Editor" "delay" "I") ∈ WB := tb_2 (List.mem_of_getElem? (i := 26) rfl) rfl
theorem w2_27 : (Cond.fieldLink "FarEditors$Editor" (58 : Nat) "FarEditors$Editor" "ticksLeft" "I") ∈ WB := tb_2 (List.mem_of_getElem? (i := 27) rfl) rfl
theorem w2_28 : (Cond.fieldLink "FarEditors$Comings" (54 : Nat) "FarEditors$Editor" "ticksLeft" "I") ∈ WB := tb_2 (List.mem_of_getElem? (i := 28) rfl) rfl
theorem w2_29 : (Cond.fieldLink "FarEditors$World" (88 : Nat) "FarEditors$Editor" "ticksLeft" "I") ∈ WB := tb_2 (List.mem_of_getElem? (i := 29) rfl) rfl
theorem w2_30 : (Cond.fieldLink "FarEditors" (198 : Nat) "FarEditors$Editor" "ticksLeft" "I") ∈ WB := tb_2 (List.mem_of_getElem? (i := 30) rfl) rfl
theorem w2_31 : (Cond.fieldLink "FarEditors$Editor" (61 : Nat) "FarEditors$Editor" "isPending" "Z") ∈ WB := tb_2 (List.mem_of_getElem? (i := 31) rfl) rfl
theorem w2_32 : (Cond.fieldLink "FarEditors" (172 : Nat) "FarEditors$Editor" "isPending" "Z") ∈ WB := tb_2 (List.mem_of_getElem? (i := 32) rfl) rfl
theorem w2_33 : (Cond.fieldLink "FarEditors$World" (163 : Nat) "FarEditors$Editor" "isPending" "Z") ∈ WB := tb_2 (List.mem_of_getElem? (i := 33) rfl) rfl
theorem w2_34 : (Cond.fieldLink "FarEditors$Editor" (65 : Nat) "FarEditors$Editor" "isBuffered" "Z") ∈ WB := tb_2 (List.mem_of_getElem? (i := 34) rfl) rfl
theorem w2_35 : (Cond.fieldLink "FarEditors" (176 : Nat) "FarEditors$Editor" "isBuffered" "Z") ∈ WB := tb_2 (List.mem_of_getElem? (i := 35) rfl) rfl
theorem w2_36 : (Cond.fieldLink "FarEditors$World" (176 : Nat) "FarEditors$Editor" "isBuffered" "Z") ∈ WB := tb_2 (List.mem_of_getElem? (i := 36) rfl) rfl
theorem w2_37 : (Cond.fieldLink "FarEditors$Editor" (68 : Nat) "FarEditors$Editor" "isOn" "Z") ∈ WB := tb_2 (List.mem_of_getElem? (i := 37) rfl) rfl
theorem w2_38 : (Cond.fieldLink "FarEditors" (192 : Nat) "FarEditors$Editor" "isOn" "Z") ∈ WB := tb_2 (List.mem_of_getElem? (i := 38) rfl) rfl
theorem w2_39 : (Cond.fieldLink "FarEditors$World" (186 : Nat) "FarEditors$Editor" "isOn" "Z") ∈ WB := tb_2 (List.mem_of_getElem? (i := 39) rfl) rfl
theorem w2_40 : (Cond.laysFinal "FarEditors$Editor" "FarEditors$Editor" "text" "LFarEditors$Text;") ∈ WB := tb_2 (List.mem_of_getElem? (i := 40) rfl) rfl
theorem w2_42 : (Cond.laysFinal "FarEditors$Editor" "FarEditors$Editor" "pending" "LFarEditors$Op;") ∈ WB := tb_2 (List.mem_of_getElem? (i := 42) rfl) rfl
theorem w2_44 : (Cond.laysFinal "FarEditors$Editor" "FarEditors$Editor" "buffer" "LFarEditors$Op;") ∈ WB := tb_2 (List.mem_of_getElem? (i := 44) rfl) rfl
theorem w2_46 : (Cond.laysFinal "FarEditors$Editor" "FarEditors$Editor" "undos" "LFarEditors$Inverses;") ∈ WB := tb_2 (List.mem_of_getElem? (i := 46) rfl) rfl
theorem w2_48 : (Cond.laysFinal "FarEditors$Editor" "FarEditors$Editor" "dones" "LFarEditors$Inverses;") ∈ WB := tb_2 (List.mem_of_getElem? (i := 48) rfl) rfl
theorem w2_50 : (Cond.laysFinal "FarEditors$Editor" "FarEditors$Editor" "marks" "[I") ∈ WB := tb_2 (List.mem_of_getElem? (i := 50) rfl) rfl
theorem w2_52 : (Cond.laysFinal "FarEditors$Editor" "FarEditors$Editor" "ticksLeftTo" "[I") ∈ WB := tb_2 (List.mem_of_getElem? (i := 52) rfl) rfl
theorem w2_54 : (Cond.lays "FarEditors$Editor" "FarEditors$Editor" "markCount" "I") ∈ WB := tb_2 (List.mem_of_getElem? (i := 54) rfl) rfl
theorem w2_56 : (Cond.lays "FarEditors$Editor" "FarEditors$Editor" "revision" "I") ∈ WB := tb_2 (List.mem_of_getElem? (i := 56) rfl) rfl
theorem w2_58 : (Cond.lays "FarEditors$Editor" "FarEditors$Editor" "place" "I") ∈ WB := tb_2 (List.mem_of_getElem? (i := 58) rfl) rfl
theorem w2_60 : (Cond.lays "FarEditors$Editor" "FarEditors$Editor" "delay" "I") ∈ WB := tb_2 (List.mem_of_getElem? (i := 60) rfl) rfl
theorem w2_62 : (Cond.lays "FarEditors$Editor" "FarEditors$Editor" "ticksLeft" "I") ∈ WB := tb_2 (List.mem_of_getElem? (i := 62) rfl) rfl
theorem w2_64 : (Cond.lays "FarEditors$Editor" "FarEditors$Editor" "isPending" "Z") ∈ WB := tb_2 (List.mem_of_getElem? (i := 64) rfl) rfl
theorem w2_66 : (Cond.lays "FarEditors$Editor" "FarEditors$Editor" "isBuffered" "Z") ∈ WB := tb_2 (List.mem_of_getElem? (i := 66) rfl) rfl
theorem w2_68 : (Cond.lays "FarEditors$Editor" "FarEditors$Editor" "isOn" "Z") ∈ WB := tb_2 (List.mem_of_getElem? (i := 68) rfl) rfl
theorem w2_71 : (Cond.fieldLink "FarEditors$World" (51 : Nat) "FarEditors$World" "row" "LFarEditors$Row;") ∈ WB := tb_2 (List.mem_of_getElem? (i := 71) rfl) rfl
theorem w2_72 : (Cond.fieldLink "FarEditors$History" (27 : Nat) "FarEditors$World" "row" "LFarEditors$Row;") ∈ WB := tb_2 (List.mem_of_getElem? (i := 72) rfl) rfl
theorem w2_73 : (Cond.fieldLink "FarEditors$World" (55 : Nat) "FarEditors$World" "weaver" "LFarEditors$Weaver;") ∈ WB := tb_2 (List.mem_of_getElem? (i := 73) rfl) rfl
theorem w2_74 : (Cond.fieldLink "FarEditors$History" (31 : Nat) "FarEditors$World" "weaver" "LFarEditors$Weaver;") ∈ WB := tb_2 (List.mem_of_getElem? (i := 74) rfl) rfl
theorem w2_75 : (Cond.fieldLink "FarEditors$World" (12 : Nat) "FarEditors$World" "server" "LFarEditors$Text;") ∈ WB := tb_2 (List.mem_of_getElem? (i := 75) rfl) rfl
theorem w2_76 : (Cond.fieldLink "FarEditors$Comings" (67 : Nat) "FarEditors$World" "server" "LFarEditors$Text;") ∈ WB := tb_2 (List.mem_of_getElem? (i := 76) rfl) rfl
theorem w2_77 : (Cond.fieldLink "FarEditors" (128 : Nat) "FarEditors$World" "server" "LFarEditors$Text;") ∈ WB := tb_2 (List.mem_of_getElem? (i := 77) rfl) rfl
theorem w2_78 : (Cond.fieldLink "FarEditors$World" (20 : Nat) "FarEditors$World" "editors" "[LFarEditors$Editor;") ∈ WB := tb_2 (List.mem_of_getElem? (i := 78) rfl) rfl
theorem w2_79 : (Cond.fieldLink "FarEditors$Comings" (50 : Nat) "FarEditors$World" "editors" "[LFarEditors$Editor;") ∈ WB := tb_2 (List.mem_of_getElem? (i := 79) rfl) rfl
theorem w2_80 : (Cond.fieldLink "FarEditors" (157 : Nat) "FarEditors$World" "editors" "[LFarEditors$Editor;") ∈ WB := tb_2 (List.mem_of_getElem? (i := 80) rfl) rfl
theorem w2_81 : (Cond.fieldLink "FarEditors$World" (24 : Nat) "FarEditors$World" "foreignCuts" "[I") ∈ WB := tb_2 (List.mem_of_getElem? (i := 81) rfl) rfl
theorem w2_82 : (Cond.fieldLink "FarEditors" (249 : Nat) "FarEditors$World" "foreignCuts" "[I") ∈ WB := tb_2 (List.mem_of_getElem? (i := 82) rfl) rfl
theorem w2_83 : (Cond.fieldLink "FarEditors$World" (28 : Nat) "FarEditors$World" "isWhole" "Z") ∈ WB := tb_2 (List.mem_of_getElem? (i := 83) rfl) rfl
theorem w2_84 : (Cond.fieldLink "FarEditors$World" (32 : Nat) "FarEditors$World" "count" "I") ∈ WB := tb_2 (List.mem_of_getElem? (i := 84) rfl) rfl
theorem w2_85 : (Cond.fieldLink "FarEditors$Comings" (47 : Nat) "FarEditors$World" "count" "I") ∈ WB := tb_2 (List.mem_of_getElem? (i := 85) rfl) rfl
theorem w2_86 : (Cond.fieldLink "FarEditors" (124 : Nat) "FarEditors$World" "count" "I") ∈ WB := tb_2 (List.mem_of_getElem? (i := 86) rfl) rfl
theorem w2_87 : (Cond.fieldLink "FarEditors$World" (36 : Nat) "FarEditors$World" "ties" "I") ∈ WB := tb_2 (List.mem_of_getElem? (i := 87) rfl) rfl
theorem w2_88 : (Cond.fieldLink "FarEditors" (151 : Nat) "FarEditors$World" "ties" "I") ∈ WB := tb_2 (List.mem_of_getElem? (i := 88) rfl) rfl
theorem w2_89 : (Cond.fieldLink "FarEditors$World" (39 : Nat) "FarEditors$World" "tick" "I") ∈ WB := tb_2 (List.mem_of_getElem? (i := 89) rfl) rfl
theorem w2_90 : (Cond.fieldLink "FarEditors" (134 : Nat) "FarEditors$World" "tick" "I") ∈ WB := tb_2 (List.mem_of_getElem? (i := 90) rfl) rfl
theorem w2_91 : (Cond.fieldLink "FarEditors$World" (42 : Nat) "FarEditors$World" "edits" "I") ∈ WB := tb_2 (List.mem_of_getElem? (i := 91) rfl) rfl
theorem w2_92 : (Cond.fieldLink "FarEditors" (137 : Nat) "FarEditors$World" "edits" "I") ∈ WB := tb_2 (List.mem_of_getElem? (i := 92) rfl) rfl
theorem w2_93 : (Cond.fieldLink "FarEditors$World" (45 : Nat) "FarEditors$World" "lettersPut" "I") ∈ WB := tb_2 (List.mem_of_getElem? (i := 93) rfl) rfl
theorem w2_94 : (Cond.fieldLink "FarEditors" (140 : Nat) "FarEditors$World" "lettersPut" "I") ∈ WB := tb_2 (List.mem_of_getElem? (i := 94) rfl) rfl
theorem w2_95 : (Cond.fieldLink "FarEditors$World" (48 : Nat) "FarEditors$World" "ops" "I") ∈ WB := tb_2 (List.mem_of_getElem? (i := 95) rfl) rfl
theorem w2_96 : (Cond.fieldLink "FarEditors" (125 : Nat) "FarEditors$World" "ops" "I") ∈ WB := tb_2 (List.mem_of_getElem? (i := 96) rfl) rfl
theorem w2_97 : (Cond.laysFinal "FarEditors$World" "FarEditors$World" "row" "LFarEditors$Row;") ∈ WB := tb_2 (List.mem_of_getElem? (i := 97) rfl) rfl
theorem w2_99 : (Cond.laysFinal "FarEditors$World" "FarEditors$World" "weaver" "LFarEditors$Weaver;") ∈ WB := tb_2 (List.mem_of_getElem? (i := 99) rfl) rfl
theorem w2_101 : (Cond.laysFinal "FarEditors$World" "FarEditors$World" "server" "LFarEditors$Text;") ∈ WB := tb_2 (List.mem_of_getElem? (i := 101) rfl) rfl
theorem w2_103 : (Cond.laysFinal "FarEditors$World" "FarEditors$World" "editors" "[LFarEditors$Editor;") ∈ WB := tb_2 (List.mem_of_getElem? (i := 103) rfl) rfl
theorem w2_105 : (Cond.laysFinal "FarEditors$World" "FarEditors$World" "foreignCuts" "[I") ∈ WB := tb_2 (List.mem_of_getElem? (i := 105) rfl) rfl
theorem w2_107 : (Cond.lays "FarEditors$World" "FarEditors$World" "isWhole" "Z") ∈ WB := tb_2 (List.mem_of_getElem? (i := 107) rfl) rfl
theorem w2_109 : (Cond.lays "FarEditors$World" "FarEditors$World" "count" "I") ∈ WB := tb_2 (List.mem_of_getElem? (i := 109) rfl) rfl
theorem w2_111 : (Cond.lays "FarEditors$World" "FarEditors$World" "ties" "I") ∈ WB := tb_2 (List.mem_of_getElem? (i := 111) rfl) rfl
theorem w2_113 : (Cond.lays "FarEditors$World" "FarEditors$World" "tick" "I") ∈ WB := tb_2 (List.mem_of_getElem? (i := 113) rfl) rfl
theorem w2_115 : (Cond.lays "FarEditors$World" "FarEditors$World" "edits" "I") ∈ WB := tb_2 (List.mem_of_getElem? (i := 115) rfl) rfl
theorem w2_117 : (Cond.lays "FarEditors$World" "FarEditors$World" "lettersPut" "I") ∈ WB := tb_2 (List.mem_of_getElem? (i := 117) rfl) rfl
theorem w2_119 : (Cond.lays "FarEditors$World" "FarEditors$World" "ops" "I") ∈ WB := tb_2 (List.mem_of_getElem? (i := 119) rfl) rfl
theorem w2_122 : (Cond.classLink "FarEditors" (42 : Nat) "FarEditors$History") ∈ WB := tb_2 (List.mem_of_getElem? (i := 122) rfl) rfl
theorem w2_123 : (Cond.instantiable "FarEditors$History" (4 : Nat)) ∈ WB := tb_2 (List.mem_of_getElem? (i := 123) rfl) rfl
theorem w2_124 : (Cond.methodLink "FarEditors" (44 : Nat) yX2_init) ∈ WB := tb_2 (List.mem_of_getElem? (i := 124) rfl) rfl
theorem w2_125 : (Cond.instanceMethod yX2_init) ∈ WB := tb_2 (List.mem_of_getElem? (i := 125) rfl) rfl
theorem w2_126 : (Cond.code yX2_init prog_4_method_1_code (1 : Nat) (Option.none : Option Jvm.ClassFile.FieldType)) ∈ WB := tb_2 (List.mem_of_getElem? (i := 126) rfl) rfl
theorem w2_127 : (Cond.methodLink "FarEditors$History" (3 : Nat) (⟨"java/lang/Object", "<init>", "()V"⟩ : MethodName)) ∈ WB := tb_2 (List.mem_of_getElem? (i := 127) rfl) rfl
theorem w2_128 : (Cond.classLink "FarEditors$History" (9 : Nat) "FarEditors$World") ∈ WB := tb_2 (List.mem_of_getElem? (i := 128) rfl) rfl
theorem w2_130 : (Cond.fieldLink "FarEditors$History" (11 : Nat) "FarEditors$History" "kept" "[LFarEditors$World;") ∈ WB := tb_2 (List.mem_of_getElem? (i := 130) rfl) rfl
theorem w2_131 : (Cond.fieldLink "FarEditors$History" (17 : Nat) "FarEditors$History" "first" "I") ∈ WB := tb_2 (List.mem_of_getElem? (i := 131) rfl) rfl
theorem w2_132 : (Cond.fieldLink "FarEditors$History" (21 : Nat) "FarEditors$History" "size" "I") ∈ WB := tb_2 (List.mem_of_getElem? (i := 132) rfl) rfl
theorem w2_133 : (Cond.fieldLink "FarEditors" (150 : Nat) "FarEditors$History" "size" "I") ∈ WB := tb_2 (List.mem_of_getElem? (i := 133) rfl) rfl
theorem w2_134 : (Cond.fieldLink "FarEditors$History" (24 : Nat) "FarEditors$History" "changes" "I") ∈ WB := tb_2 (List.mem_of_getElem? (i := 134) rfl) rfl
theorem w2_135 : (Cond.fieldLink "FarEditors" (389 : Nat) "FarEditors$History" "changes" "I") ∈ WB := tb_2 (List.mem_of_getElem? (i := 135) rfl) rfl
theorem w2_136 : (Cond.laysFinal "FarEditors$History" "FarEditors$History" "kept" "[LFarEditors$World;") ∈ WB := tb_2 (List.mem_of_getElem? (i := 136) rfl) rfl
theorem w2_138 : (Cond.lays "FarEditors$History" "FarEditors$History" "first" "I") ∈ WB := tb_2 (List.mem_of_getElem? (i := 138) rfl) rfl
theorem w2_140 : (Cond.lays "FarEditors$History" "FarEditors$History" "size" "I") ∈ WB := tb_2 (List.mem_of_getElem? (i := 140) rfl) rfl
theorem w2_142 : (Cond.lays "FarEditors$History" "FarEditors$History" "changes" "I") ∈ WB := tb_2 (List.mem_of_getElem? (i := 142) rfl) rfl
theorem w2_145 : (Cond.classLink "FarEditors" (49 : Nat) "FarEditors$Comings") ∈ WB := tb_2 (List.mem_of_getElem? (i := 145) rfl) rfl
theorem w2_146 : (Cond.instantiable "FarEditors$Comings" (10 : Nat)) ∈ WB := tb_2 (List.mem_of_getElem? (i := 146) rfl) rfl
theorem w2_147 : (Cond.methodLink "FarEditors" (51 : Nat) yX0_init) ∈ WB := tb_2 (List.mem_of_getElem? (i := 147) rfl) rfl
theorem w2_148 : (Cond.instanceMethod yX0_init) ∈ WB := tb_2 (List.mem_of_getElem? (i := 148) rfl) rfl
theorem w2_149 : (Cond.code yX0_init prog_2_method_1_code (2 : Nat) (Option.none : Option Jvm.ClassFile.FieldType)) ∈ WB := tb_2 (List.mem_of_getElem? (i := 149) rfl) rfl
theorem w2_150 : (Cond.methodLink "FarEditors$Comings" (3 : Nat) (⟨"java/lang/Object", "<init>", "()V"⟩ : MethodName)) ∈ WB := tb_2 (List.mem_of_getElem? (i := 150) rfl) rfl
theorem w2_151 : (Cond.classLink "FarEditors$Comings" (9 : Nat) "FarEditors$Text") ∈ WB := tb_2 (List.mem_of_getElem? (i := 151) rfl) rfl
theorem w2_153 : (Cond.methodLink "FarEditors$Comings" (46 : Nat) yX7_init) ∈ WB := tb_2 (List.mem_of_getElem? (i := 153) rfl) rfl
theorem w2_154 : (Cond.fieldLink "FarEditors$Comings" (11 : Nat) "FarEditors$Comings" "ends" "[LFarEditors$Text;") ∈ WB := tb_2 (List.mem_of_getElem? (i := 154) rfl) rfl
theorem w2_155 : (Cond.fieldLink "FarEditors" (292 : Nat) "FarEditors$Comings" "ends" "[LFarEditors$Text;") ∈ WB := tb_2 (List.mem_of_getElem? (i := 155) rfl) rfl
theorem w2_156 : (Cond.fieldLink "FarEditors$Comings" (17 : Nat) "FarEditors$Comings" "waiting" "[I") ∈ WB := tb_2 (List.mem_of_getElem? (i := 156) rfl) rfl
theorem w2_157 : (Cond.fieldLink "FarEditors$Comings" (21 : Nat) "FarEditors$Comings" "free" "[I") ∈ WB := tb_2 (List.mem_of_getElem? (i := 157) rfl) rfl
theorem w2_158 : (Cond.fieldLink "FarEditors$Comings" (24 : Nat) "FarEditors$Comings" "seenPlaces" "[I") ∈ WB := tb_2 (List.mem_of_getElem? (i := 158) rfl) rfl
theorem w2_159 : (Cond.fieldLink "FarEditors$Comings" (27 : Nat) "FarEditors$Comings" "seenLetters" "[I") ∈ WB := tb_2 (List.mem_of_getElem? (i := 159) rfl) rfl
theorem w2_160 : (Cond.fieldLink "FarEditors$Comings" (30 : Nat) "FarEditors$Comings" "tally" "[I") ∈ WB := tb_2 (List.mem_of_getElem? (i := 160) rfl) rfl
theorem w2_161 : (Cond.fieldLink "FarEditors$Comings" (33 : Nat) "FarEditors$Comings" "waitingCount" "I") ∈ WB := tb_2 (List.mem_of_getElem? (i := 161) rfl) rfl
theorem w2_162 : (Cond.fieldLink "FarEditors$Comings" (37 : Nat) "FarEditors$Comings" "count" "I") ∈ WB := tb_2 (List.mem_of_getElem? (i := 162) rfl) rfl
theorem w2_163 : (Cond.fieldLink "FarEditors" (288 : Nat) "FarEditors$Comings" "count" "I") ∈ WB := tb_2 (List.mem_of_getElem? (i := 163) rfl) rfl
theorem w2_164 : (Cond.fieldLink "FarEditors$Comings" (40 : Nat) "FarEditors$Comings" "seen" "I") ∈ WB := tb_2 (List.mem_of_getElem? (i := 164) rfl) rfl
theorem w2_165 : (Cond.fieldLink "FarEditors" (147 : Nat) "FarEditors$Comings" "seen" "I") ∈ WB := tb_2 (List.mem_of_getElem? (i := 165) rfl) rfl
theorem w2_166 : (Cond.fieldLink "FarEditors$Comings" (43 : Nat) "FarEditors$Comings" "knownAt" "I") ∈ WB := tb_2 (List.mem_of_getElem? (i := 166) rfl) rfl
theorem w2_167 : (Cond.fieldLink "FarEditors" (386 : Nat) "FarEditors$Comings" "knownAt" "I") ∈ WB := tb_2 (List.mem_of_getElem? (i := 167) rfl) rfl
theorem w2_168 : (Cond.laysFinal "FarEditors$Comings" "FarEditors$Comings" "ends" "[LFarEditors$Text;") ∈ WB := tb_2 (List.mem_of_getElem? (i := 168) rfl) rfl
theorem w2_170 : (Cond.laysFinal "FarEditors$Comings" "FarEditors$Comings" "waiting" "[I") ∈ WB := tb_2 (List.mem_of_getElem? (i := 170) rfl) rfl
theorem w2_172 : (Cond.laysFinal "FarEditors$Comings" "FarEditors$Comings" "free" "[I") ∈ WB := tb_2 (List.mem_of_getElem? (i := 172) rfl) rfl
theorem w2_174 : (Cond.laysFinal "FarEditors$Comings" "FarEditors$Comings" "seenPlaces" "[I") ∈ WB := tb_2 (List.mem_of_getElem? (i := 174) rfl) rfl
theorem w2_176 : (Cond.laysFinal "FarEditors$Comings" "FarEditors$Comings" "seenLetters" "[I") ∈ WB := tb_2 (List.mem_of_getElem? (i := 176) rfl) rfl
theorem w2_178 : (Cond.laysFinal "FarEditors$Comings" "FarEditors$Comings" "tally" "[I") ∈ WB := tb_2 (List.mem_of_getElem? (i := 178) rfl) rfl
theorem w2_180 : (Cond.lays "FarEditors$Comings" "FarEditors$Comings" "waitingCount" "I") ∈ WB := tb_2 (List.mem_of_getElem? (i := 180) rfl) rfl
theorem w2_182 : (Cond.lays "FarEditors$Comings" "FarEditors$Comings" "count" "I") ∈ WB := tb_2 (List.mem_of_getElem? (i := 182) rfl) rfl
theorem w2_184 : (Cond.lays "FarEditors$Comings" "FarEditors$Comings" "seen" "I") ∈ WB := tb_2 (List.mem_of_getElem? (i := 184) rfl) rfl
theorem w2_186 : (Cond.lays "FarEditors$Comings" "FarEditors$Comings" "knownAt" "I") ∈ WB := tb_2 (List.mem_of_getElem? (i := 186) rfl) rfl
theorem w2_189 : (Cond.classLink "FarEditors" (56 : Nat) "FarEditors$Op") ∈ WB := tb_2 (List.mem_of_getElem? (i := 189) rfl) rfl
theorem w2_190 : (Cond.methodLink "FarEditors" (58 : Nat) yX4_init) ∈ WB := tb_2 (List.mem_of_getElem? (i := 190) rfl) rfl
theorem w2_191 : (Cond.classLink "FarEditors" (66 : Nat) "FarEditors$Text") ∈ WB := tb_2 (List.mem_of_getElem? (i := 191) rfl) rfl
theorem w2_192 : (Cond.methodLink "FarEditors" (68 : Nat) yX7_init) ∈ WB := tb_2 (List.mem_of_getElem? (i := 192) rfl) rfl
theorem w2_193 : (Cond.fieldLink "FarEditors" (10 : Nat) "FarEditors" "told" "LFarEditors$Told;") ∈ WB := tb_2 (List.mem_of_getElem? (i := 193) rfl) rfl
theorem w2_194 : (Cond.fieldLink "FarEditors" (19 : Nat) "FarEditors" "weaver" "LFarEditors$Weaver;") ∈ WB := tb_2 (List.mem_of_getElem? (i := 194) rfl) rfl
theorem w2_195 : (Cond.fieldLink "FarEditors" (26 : Nat) "FarEditors" "taken" "LFarEditors$Row;") ∈ WB := tb_2 (List.mem_of_getElem? (i := 195) rfl) rfl
theorem w2_196 : (Cond.fieldLink "FarEditors" (35 : Nat) "FarEditors" "world" "LFarEditors$World;") ∈ WB := tb_2 (List.mem_of_getElem? (i := 196) rfl) rfl
theorem w2_197 : (Cond.fieldLink "FarEditors" (39 : Nat) "FarEditors" "ahead" "LFarEditors$World;") ∈ WB := tb_2 (List.mem_of_getElem? (i := 197) rfl) rfl
theorem w2_198 : (Cond.fieldLink "FarEditors" (45 : Nat) "FarEditors" "history" "LFarEditors$History;") ∈ WB := tb_2 (List.mem_of_getElem? (i := 198) rfl) rfl
theorem w2_199 : (Cond.fieldLink "FarEditors" (52 : Nat) "FarEditors" "comings" "LFarEditors$Comings;") ∈ WB := tb_2 (List.mem_of_getElem? (i := 199) rfl) rfl
theorem w2_200 : (Cond.fieldLink "FarEditors" (59 : Nat) "FarEditors" "op" "LFarEditors$Op;") ∈ WB := tb_2 (List.mem_of_getElem? (i := 200) rfl) rfl
theorem w2_201 : (Cond.fieldLink "FarEditors" (63 : Nat) "FarEditors" "other" "LFarEditors$Op;") ∈ WB := tb_2 (List.mem_of_getElem? (i := 201) rfl) rfl
theorem w2_202 : (Cond.fieldLink "FarEditors" (69 : Nat) "FarEditors" "past" "LFarEditors$Text;") ∈ WB := tb_2 (List.mem_of_getElem? (i := 202) rfl) rfl
theorem w2_203 : (Cond.fieldLink "FarEditors" (73 : Nat) "FarEditors" "refused" "[I") ∈ WB := tb_2 (List.mem_of_getElem? (i := 203) rfl) rfl
theorem w2_204 : (Cond.fieldLink "FarEditors" (77 : Nat) "FarEditors" "faultKind" "I") ∈ WB := tb_2 (List.mem_of_getElem? (i := 204) rfl) rfl
theorem w2_205 : (Cond.fieldLink "FarEditors" (81 : Nat) "FarEditors" "faultPlace" "I") ∈ WB := tb_2 (List.mem_of_getElem? (i := 205) rfl) rfl
theorem w2_206 : (Cond.fieldLink "FarEditors" (84 : Nat) "FarEditors" "seedNow" "I") ∈ WB := tb_2 (List.mem_of_getElem? (i := 206) rfl) rfl
theorem w2_207 : (Cond.laysFinal "FarEditors" "FarEditors" "told" "LFarEditors$Told;") ∈ WB := tb_2 (List.mem_of_getElem? (i := 207) rfl) rfl
theorem w2_209 : (Cond.laysFinal "FarEditors" "FarEditors" "weaver" "LFarEditors$Weaver;") ∈ WB := tb_2 (List.mem_of_getElem? (i := 209) rfl) rfl
theorem w2_211 : (Cond.laysFinal "FarEditors" "FarEditors" "taken" "LFarEditors$Row;") ∈ WB := tb_2 (List.mem_of_getElem? (i := 211) rfl) rfl
theorem w2_213 : (Cond.laysFinal "FarEditors" "FarEditors" "world" "LFarEditors$World;") ∈ WB := tb_2 (List.mem_of_getElem? (i := 213) rfl) rfl
theorem w2_215 : (Cond.laysFinal "FarEditors" "FarEditors" "ahead" "LFarEditors$World;") ∈ WB := tb_2 (List.mem_of_getElem? (i := 215) rfl) rfl
theorem w2_217 : (Cond.laysFinal "FarEditors" "FarEditors" "history" "LFarEditors$History;") ∈ WB := tb_2 (List.mem_of_getElem? (i := 217) rfl) rfl
theorem w2_219 : (Cond.laysFinal "FarEditors" "FarEditors" "comings" "LFarEditors$Comings;") ∈ WB := tb_2 (List.mem_of_getElem? (i := 219) rfl) rfl
theorem w2_221 : (Cond.laysFinal "FarEditors" "FarEditors" "op" "LFarEditors$Op;") ∈ WB := tb_2 (List.mem_of_getElem? (i := 221) rfl) rfl
theorem w2_223 : (Cond.laysFinal "FarEditors" "FarEditors" "other" "LFarEditors$Op;") ∈ WB := tb_2 (List.mem_of_getElem? (i := 223) rfl) rfl
theorem w2_225 : (Cond.laysFinal "FarEditors" "FarEditors" "past" "LFarEditors$Text;") ∈ WB := tb_2 (List.mem_of_getElem? (i := 225) rfl) rfl
theorem w2_227 : (Cond.laysFinal "FarEditors" "FarEditors" "refused" "[I") ∈ WB := tb_2 (List.mem_of_getElem? (i := 227) rfl) rfl
theorem w2_229 : (Cond.lays "FarEditors" "FarEditors" "faultKind" "I") ∈ WB := tb_2 (List.mem_of_getElem? (i := 229) rfl) rfl
theorem w2_231 : (Cond.lays "FarEditors" "FarEditors" "faultPlace" "I") ∈ WB := tb_2 (List.mem_of_getElem? (i := 231) rfl) rfl
theorem w2_233 : (Cond.lays "FarEditors" "FarEditors" "seedNow" "I") ∈ WB := tb_2 (List.mem_of_getElem? (i := 233) rfl) rfl
theorem w2_236 : (Cond.methodLink "FarEditorsLaw" (13 : Nat) yX11_feed) ∈ WB := tb_2 (List.mem_of_getElem? (i := 236) rfl) rfl
theorem w2_237 : (Cond.instanceMethod yX11_feed) ∈ WB := tb_2 (List.mem_of_getElem? (i := 237) rfl) rfl
theorem w2_238 : (Cond.selects "FarEditors" yX11_feed yX11_feed) ∈ WB := tb_2 (List.mem_of_getElem? (i := 238) rfl) rfl
theorem w2_239 : (Cond.code yX11_feed prog_1_method_2_code (6 : Nat) (Option.some Jvm.ClassFile.FieldType.int)) ∈ WB := tb_2 (List.mem_of_getElem? (i := 239) rfl) rfl
theorem w3_0 : (Cond.methodLink "FarEditors" (87 : Nat) yX8_hasRoom) ∈ WB := tb_3 (List.mem_of_getElem? (i := 0) rfl) rfl
theorem w3_1 : (Cond.instanceMethod yX8_hasRoom) ∈ WB := tb_3 (List.mem_of_getElem? (i := 1) rfl) rfl
theorem w3_2 : (Cond.selects "FarEditors$Told" yX8_hasRoom yX8_hasRoom) ∈ WB := tb_3 (List.mem_of_getElem? (i := 2) rfl) rfl
theorem w3_3 : (Cond.code yX8_hasRoom prog_10_method_2_code (2 : Nat) (Option.some Jvm.ClassFile.FieldType.boolean)) ∈ WB := tb_3 (List.mem_of_getElem? (i := 3) rfl) rfl
theorem w3_4 : (Cond.methodLink "FarEditors" (91 : Nat) yX11_refuse) ∈ WB := tb_3 (List.mem_of_getElem? (i := 4) rfl) rfl
theorem w3_6 : (Cond.instanceMethod yX11_refuse) ∈ WB := tb_3 (List.mem_of_getElem? (i := 6) rfl) rfl
theorem w3_7 : (Cond.code yX11_refuse prog_1_method_40_code (2 : Nat) (Option.some Jvm.ClassFile.FieldType.int)) ∈ WB := tb_3 (List.mem_of_getElem? (i := 7) rfl) rfl
theorem w3_8 : (Cond.methodLink "FarEditors" (95 : Nat) yX8_addNumber) ∈ WB := tb_3 (List.mem_of_getElem? (i := 8) rfl) rfl
theorem w3_9 : (Cond.instanceMethod yX8_addNumber) ∈ WB := tb_3 (List.mem_of_getElem? (i := 9) rfl) rfl
theorem w3_10 : (Cond.selects "FarEditors$Told" yX8_addNumber yX8_addNumber) ∈ WB := tb_3 (List.mem_of_getElem? (i := 10) rfl) rfl
theorem w3_11 : (Cond.code yX8_addNumber prog_10_method_3_code (3 : Nat) (Option.none : Option Jvm.ClassFile.FieldType)) ∈ WB := tb_3 (List.mem_of_getElem? (i := 11) rfl) rfl
theorem w3_12 : (Cond.methodLink "FarEditorsLaw" (18 : Nat) yX11_end) ∈ WB := tb_3 (List.mem_of_getElem? (i := 12) rfl) rfl
theorem w3_13 : (Cond.instanceMethod yX11_end) ∈ WB := tb_3 (List.mem_of_getElem? (i := 13) rfl) rfl
theorem w3_14 : (Cond.selects "FarEditors" yX11_end yX11_end) ∈ WB := tb_3 (List.mem_of_getElem? (i := 14) rfl) rfl
theorem w3_15 : (Cond.code yX11_end prog_1_method_3_code (2 : Nat) (Option.some Jvm.ClassFile.FieldType.boolean)) ∈ WB := tb_3 (List.mem_of_getElem? (i := 15) rfl) rfl
theorem w3_16 : (Cond.methodLink "FarEditors" (102 : Nat) yX11_refuseFlatly) ∈ WB := tb_3 (List.mem_of_getElem? (i := 16) rfl) rfl
theorem w3_18 : (Cond.instanceMethod yX11_refuseFlatly) ∈ WB := tb_3 (List.mem_of_getElem? (i := 18) rfl) rfl
theorem w3_19 : (Cond.code yX11_refuseFlatly prog_1_method_41_code (2 : Nat) (Option.some Jvm.ClassFile.FieldType.boolean)) ∈ WB := tb_3 (List.mem_of_getElem? (i := 19) rfl) rfl
theorem w3_20 : (Cond.methodLink "FarEditorsLaw" (23 : Nat) yX11_session) ∈ WB := tb_3 (List.mem_of_getElem? (i := 20) rfl) rfl
theorem w3_21 : (Cond.instanceMethod yX11_session) ∈ WB := tb_3 (List.mem_of_getElem? (i := 21) rfl) rfl
theorem w3_22 : (Cond.selects "FarEditors" yX11_session yX11_session) ∈ WB := tb_3 (List.mem_of_getElem? (i := 22) rfl) rfl
theorem w3_23 : (Cond.code yX11_session prog_1_method_4_code (3 : Nat) (Option.some Jvm.ClassFile.FieldType.int)) ∈ WB := tb_3 (List.mem_of_getElem? (i := 23) rfl) rfl
theorem w3_24 : (Cond.methodLink "FarEditors" (105 : Nat) yX8_readSession) ∈ WB := tb_3 (List.mem_of_getElem? (i := 24) rfl) rfl
theorem w3_25 : (Cond.instanceMethod yX8_readSession) ∈ WB := tb_3 (List.mem_of_getElem? (i := 25) rfl) rfl
theorem w3_26 : (Cond.selects "FarEditors$Told" yX8_readSession yX8_readSession) ∈ WB := tb_3 (List.mem_of_getElem? (i := 26) rfl) rfl
theorem w3_27 : (Cond.code yX8_readSession prog_10_method_5_code (3 : Nat) (Option.some Jvm.ClassFile.FieldType.boolean)) ∈ WB := tb_3 (List.mem_of_getElem? (i := 27) rfl) rfl
theorem w3_28 : (Cond.methodLink "FarEditors$Told" (49 : Nat) yX8_open) ∈ WB := tb_3 (List.mem_of_getElem? (i := 28) rfl) rfl
theorem w3_30 : (Cond.instanceMethod yX8_open) ∈ WB := tb_3 (List.mem_of_getElem? (i := 30) rfl) rfl
theorem w3_31 : (Cond.code yX8_open prog_10_method_7_code (1 : Nat) (Option.none : Option Jvm.ClassFile.FieldType)) ∈ WB := tb_3 (List.mem_of_getElem? (i := 31) rfl) rfl
theorem w3_32 : (Cond.methodLink "FarEditors$Told" (52 : Nat) yX8_readKeyword) ∈ WB := tb_3 (List.mem_of_getElem? (i := 32) rfl) rfl
theorem w3_34 : (Cond.instanceMethod yX8_readKeyword) ∈ WB := tb_3 (List.mem_of_getElem? (i := 34) rfl) rfl
theorem w3_35 : (Cond.code yX8_readKeyword prog_10_method_16_code (3 : Nat) (Option.some Jvm.ClassFile.FieldType.int)) ∈ WB := tb_3 (List.mem_of_getElem? (i := 35) rfl) rfl
theorem w3_36 : (Cond.methodLink "FarEditors$Told" (63 : Nat) yX8_skipBlanks) ∈ WB := tb_3 (List.mem_of_getElem? (i := 36) rfl) rfl
theorem w3_38 : (Cond.instanceMethod yX8_skipBlanks) ∈ WB := tb_3 (List.mem_of_getElem? (i := 38) rfl) rfl
theorem w3_39 : (Cond.code yX8_skipBlanks prog_10_method_12_code (1 : Nat) (Option.none : Option Jvm.ClassFile.FieldType)) ∈ WB := tb_3 (List.mem_of_getElem? (i := 39) rfl) rfl
theorem w3_40 : (Cond.methodLink "FarEditors$Told" (90 : Nat) yX8_findKeyword) ∈ WB := tb_3 (List.mem_of_getElem? (i := 40) rfl) rfl
theorem w3_42 : (Cond.instanceMethod yX8_findKeyword) ∈ WB := tb_3 (List.mem_of_getElem? (i := 42) rfl) rfl
theorem w3_43 : (Cond.code yX8_findKeyword prog_10_method_17_code (3 : Nat) (Option.some Jvm.ClassFile.FieldType.int)) ∈ WB := tb_3 (List.mem_of_getElem? (i := 43) rfl) rfl
theorem w3_44 : (Cond.methodLink "FarEditors$Told" (97 : Nat) yX8_isAtLetter) ∈ WB := tb_3 (List.mem_of_getElem? (i := 44) rfl) rfl
theorem w3_46 : (Cond.instanceMethod yX8_isAtLetter) ∈ WB := tb_3 (List.mem_of_getElem? (i := 46) rfl) rfl
theorem w3_47 : (Cond.code yX8_isAtLetter prog_10_method_10_code (1 : Nat) (Option.some Jvm.ClassFile.FieldType.boolean)) ∈ WB := tb_3 (List.mem_of_getElem? (i := 47) rfl) rfl
theorem w3_48 : (Cond.methodLink "FarEditors$Told" (100 : Nat) yX8_nameOf) ∈ WB := tb_3 (List.mem_of_getElem? (i := 48) rfl) rfl
theorem w3_49 : (Cond.static yX8_nameOf) ∈ WB := tb_3 (List.mem_of_getElem? (i := 49) rfl) rfl
theorem w3_50 : (Cond.code yX8_nameOf prog_10_method_19_code (1 : Nat) (Option.some (Jvm.ClassFile.FieldType.object "java/lang/String"))) ∈ WB := tb_3 (List.mem_of_getElem? (i := 50) rfl) rfl
theorem w3_61 : (Cond.methodLink "FarEditors$Told" (104 : Nat) yX8_isWord) ∈ WB := tb_3 (List.mem_of_getElem? (i := 61) rfl) rfl
theorem w3_63 : (Cond.instanceMethod yX8_isWord) ∈ WB := tb_3 (List.mem_of_getElem? (i := 63) rfl) rfl
theorem w3_64 : (Cond.code yX8_isWord prog_10_method_18_code (5 : Nat) (Option.some Jvm.ClassFile.FieldType.boolean)) ∈ WB := tb_3 (List.mem_of_getElem? (i := 64) rfl) rfl
theorem w3_65 : (Cond.methodLink "FarEditors$Told" (108 : Nat) (⟨"java/lang/String", "length", "()I"⟩ : MethodName)) ∈ WB := tb_3 (List.mem_of_getElem? (i := 65) rfl) rfl
theorem w3_66 : (Cond.instanceMethod (⟨"java/lang/String", "length", "()I"⟩ : MethodName)) ∈ WB := tb_3 (List.mem_of_getElem? (i := 66) rfl) rfl
theorem w3_67 : (Cond.selects "java/lang/String" (⟨"java/lang/String", "length", "()I"⟩ : MethodName) (⟨"java/lang/String", "length", "()I"⟩ : MethodName)) ∈ WB := tb_3 (List.mem_of_getElem? (i := 67) rfl) rfl
theorem w3_68 : (Cond.code (⟨"java/lang/String", "length", "()I"⟩ : MethodName) prog_16_method_54_code (1 : Nat) (Option.some Jvm.ClassFile.FieldType.int)) ∈ WB := tb_3 (List.mem_of_getElem? (i := 68) rfl) rfl
theorem w3_69 : (Cond.methodLink "java/lang/String" (335 : Nat) (⟨"java/lang/String", "coder", "()B"⟩ : MethodName)) ∈ WB := tb_3 (List.mem_of_getElem? (i := 69) rfl) rfl
theorem w3_70 : (Cond.instanceMethod (⟨"java/lang/String", "coder", "()B"⟩ : MethodName)) ∈ WB := tb_3 (List.mem_of_getElem? (i := 70) rfl) rfl
theorem w3_71 : (Cond.selects "java/lang/String" (⟨"java/lang/String", "coder", "()B"⟩ : MethodName) (⟨"java/lang/String", "coder", "()B"⟩ : MethodName)) ∈ WB := tb_3 (List.mem_of_getElem? (i := 71) rfl) rfl
theorem w3_72 : (Cond.code (⟨"java/lang/String", "coder", "()B"⟩ : MethodName) prog_16_method_152_code (1 : Nat) (Option.some Jvm.ClassFile.FieldType.byte)) ∈ WB := tb_3 (List.mem_of_getElem? (i := 72) rfl) rfl
theorem w3_73 : (Cond.fieldLink "java/lang/String" (38 : Nat) "java/lang/String" "COMPACT_STRINGS" "Z") ∈ WB := tb_3 (List.mem_of_getElem? (i := 73) rfl) rfl
theorem w3_75 : (Cond.methodLink "FarEditors$Told" (112 : Nat) (⟨"java/lang/String", "charAt", "(I)C"⟩ : MethodName)) ∈ WB := tb_3 (List.mem_of_getElem? (i := 75) rfl) rfl
theorem w3_76 : (Cond.instanceMethod (⟨"java/lang/String", "charAt", "(I)C"⟩ : MethodName)) ∈ WB := tb_3 (List.mem_of_getElem? (i := 76) rfl) rfl
theorem w3_77 : (Cond.selects "java/lang/String" (⟨"java/lang/String", "charAt", "(I)C"⟩ : MethodName) (⟨"java/lang/String", "charAt", "(I)C"⟩ : MethodName)) ∈ WB := tb_3 (List.mem_of_getElem? (i := 77) rfl) rfl
theorem w3_78 : (Cond.code (⟨"java/lang/String", "charAt", "(I)C"⟩ : MethodName) prog_16_method_56_code (2 : Nat) (Option.some Jvm.ClassFile.FieldType.char)) ∈ WB := tb_3 (List.mem_of_getElem? (i := 78) rfl) rfl
theorem w3_79 : (Cond.methodLink "java/lang/String" (492 : Nat) (⟨"java/lang/String", "isLatin1", "()Z"⟩ : MethodName)) ∈ WB := tb_3 (List.mem_of_getElem? (i := 79) rfl) rfl
theorem w3_80 : (Cond.instanceMethod (⟨"java/lang/String", "isLatin1", "()Z"⟩ : MethodName)) ∈ WB := tb_3 (List.mem_of_getElem? (i := 80) rfl) rfl
theorem w3_81 : (Cond.selects "java/lang/String" (⟨"java/lang/String", "isLatin1", "()Z"⟩ : MethodName) (⟨"java/lang/String", "isLatin1", "()Z"⟩ : MethodName)) ∈ WB := tb_3 (List.mem_of_getElem? (i := 81) rfl) rfl
theorem w3_82 : (Cond.code (⟨"java/lang/String", "isLatin1", "()Z"⟩ : MethodName) prog_16_method_154_code (1 : Nat) (Option.some Jvm.ClassFile.FieldType.boolean)) ∈ WB := tb_3 (List.mem_of_getElem? (i := 82) rfl) rfl
theorem w3_83 : (Cond.methodLink "java/lang/String" (495 : Nat) (⟨"java/lang/StringLatin1", "charAt", "([BI)C"⟩ : MethodName)) ∈ WB := tb_3 (List.mem_of_getElem? (i := 83) rfl) rfl
theorem w3_84 : (Cond.static (⟨"java/lang/StringLatin1", "charAt", "([BI)C"⟩ : MethodName)) ∈ WB := tb_3 (List.mem_of_getElem? (i := 84) rfl) rfl
theorem w3_85 : (Cond.code (⟨"java/lang/StringLatin1", "charAt", "([BI)C"⟩ : MethodName) prog_17_method_2_code (2 : Nat) (Option.some Jvm.ClassFile.FieldType.char)) ∈ WB := tb_3 (List.mem_of_getElem? (i := 85) rfl) rfl
theorem w3_86 : (Cond.methodLink "java/lang/StringLatin1" (9 : Nat) (⟨"java/lang/String", "checkIndex", "(II)V"⟩ : MethodName)) ∈ WB := tb_3 (List.mem_of_getElem? (i := 86) rfl) rfl
theorem w3_87 : (Cond.static (⟨"java/lang/String", "checkIndex", "(II)V"⟩ : MethodName)) ∈ WB := tb_3 (List.mem_of_getElem? (i := 87) rfl) rfl
theorem w3_88 : (Cond.code (⟨"java/lang/String", "checkIndex", "(II)V"⟩ : MethodName) prog_16_method_155_code (2 : Nat) (Option.none : Option Jvm.ClassFile.FieldType)) ∈ WB := tb_3 (List.mem_of_getElem? (i := 88) rfl) rfl
theorem w3_89 : (Cond.fieldLink "java/lang/String" (1053 : Nat) "jdk/internal/util/Preconditions" "SIOOBE_FORMATTER" "Ljava/util/function/BiFunction;") ∈ WB := tb_3 (List.mem_of_getElem? (i := 89) rfl) rfl
theorem w3_91 : (Cond.methodLink "java/lang/String" (1059 : Nat) (⟨"jdk/internal/util/Preconditions", "checkIndex", "(IILjava/util/function/BiFunction;)I"⟩ : MethodName)) ∈ WB := tb_3 (List.mem_of_getElem? (i := 91) rfl) rfl
theorem w3_92 : (Cond.static (⟨"jdk/internal/util/Preconditions", "checkIndex", "(IILjava/util/function/BiFunction;)I"⟩ : MethodName)) ∈ WB := tb_3 (List.mem_of_getElem? (i := 92) rfl) rfl
theorem w3_93 : (Cond.code (⟨"jdk/internal/util/Preconditions", "checkIndex", "(IILjava/util/function/BiFunction;)I"⟩ : MethodName) prog_21_method_11_code (3 : Nat) (Option.some Jvm.ClassFile.FieldType.int)) ∈ WB := tb_3 (List.mem_of_getElem? (i := 93) rfl) rfl
theorem w3_94 : (Cond.methodLink "java/lang/String" (498 : Nat) (⟨"java/lang/StringUTF16", "charAt", "([BI)C"⟩ : MethodName)) ∈ WB := tb_3 (List.mem_of_getElem? (i := 94) rfl) rfl
theorem w3_95 : (Cond.static (⟨"java/lang/StringUTF16", "charAt", "([BI)C"⟩ : MethodName)) ∈ WB := tb_3 (List.mem_of_getElem? (i := 95) rfl) rfl
theorem w3_96 : (Cond.code (⟨"java/lang/StringUTF16", "charAt", "([BI)C"⟩ : MethodName) prog_18_method_83_code (2 : Nat) (Option.some Jvm.ClassFile.FieldType.char)) ∈ WB := tb_3 (List.mem_of_getElem? (i := 96) rfl) rfl
theorem w3_97 : (Cond.methodLink "java/lang/StringUTF16" (67 : Nat) (⟨"java/lang/StringUTF16", "checkIndex", "(I[B)V"⟩ : MethodName)) ∈ WB := tb_3 (List.mem_of_getElem? (i := 97) rfl) rfl
theorem w3_98 : (Cond.static (⟨"java/lang/StringUTF16", "checkIndex", "(I[B)V"⟩ : MethodName)) ∈ WB := tb_3 (List.mem_of_getElem? (i := 98) rfl) rfl
theorem w3_99 : (Cond.code (⟨"java/lang/StringUTF16", "checkIndex", "(I[B)V"⟩ : MethodName) prog_18_method_91_code (2 : Nat) (Option.none : Option Jvm.ClassFile.FieldType)) ∈ WB := tb_3 (List.mem_of_getElem? (i := 99) rfl) rfl
theorem w3_100 : (Cond.methodLink "java/lang/StringUTF16" (48 : Nat) (⟨"java/lang/StringUTF16", "length", "([B)I"⟩ : MethodName)) ∈ WB := tb_3 (List.mem_of_getElem? (i := 100) rfl) rfl
theorem w3_101 : (Cond.static (⟨"java/lang/StringUTF16", "length", "([B)I"⟩ : MethodName)) ∈ WB := tb_3 (List.mem_of_getElem? (i := 101) rfl) rfl
theorem w3_102 : (Cond.code (⟨"java/lang/StringUTF16", "length", "([B)I"⟩ : MethodName) prog_18_method_6_code (1 : Nat) (Option.some Jvm.ClassFile.FieldType.int)) ∈ WB := tb_3 (List.mem_of_getElem? (i := 102) rfl) rfl
theorem w3_103 : (Cond.methodLink "java/lang/StringUTF16" (414 : Nat) (⟨"java/lang/String", "checkIndex", "(II)V"⟩ : MethodName)) ∈ WB := tb_3 (List.mem_of_getElem? (i := 103) rfl) rfl
theorem w3_104 : (Cond.methodLink "java/lang/StringUTF16" (71 : Nat) (⟨"java/lang/StringUTF16", "getChar", "([BI)C"⟩ : MethodName)) ∈ WB := tb_3 (List.mem_of_getElem? (i := 104) rfl) rfl
theorem w3_105 : (Cond.static (⟨"java/lang/StringUTF16", "getChar", "([BI)C"⟩ : MethodName)) ∈ WB := tb_3 (List.mem_of_getElem? (i := 105) rfl) rfl
theorem w3_106 : (Cond.code (⟨"java/lang/StringUTF16", "getChar", "([BI)C"⟩ : MethodName) prog_18_method_5_code (2 : Nat) (Option.some Jvm.ClassFile.FieldType.char)) ∈ WB := tb_3 (List.mem_of_getElem? (i := 106) rfl) rfl
theorem w3_107 : (Cond.fieldLink "java/lang/StringUTF16" (44 : Nat) "java/lang/StringUTF16" "$assertionsDisabled" "Z") ∈ WB := tb_3 (List.mem_of_getElem? (i := 107) rfl) rfl
theorem w3_109 : (Cond.fieldLink "java/lang/StringUTF16" (59 : Nat) "java/lang/StringUTF16" "HI_BYTE_SHIFT" "I") ∈ WB := tb_3 (List.mem_of_getElem? (i := 109) rfl) rfl
theorem w3_111 : (Cond.fieldLink "java/lang/StringUTF16" (63 : Nat) "java/lang/StringUTF16" "LO_BYTE_SHIFT" "I") ∈ WB := tb_3 (List.mem_of_getElem? (i := 111) rfl) rfl
theorem w3_113 : (Cond.methodLink "FarEditors$Told" (66 : Nat) yX8_fail) ∈ WB := tb_3 (List.mem_of_getElem? (i := 113) rfl) rfl
theorem w3_115 : (Cond.instanceMethod yX8_fail) ∈ WB := tb_3 (List.mem_of_getElem? (i := 115) rfl) rfl
theorem w3_116 : (Cond.code yX8_fail prog_10_method_8_code (3 : Nat) (Option.some Jvm.ClassFile.FieldType.boolean)) ∈ WB := tb_3 (List.mem_of_getElem? (i := 116) rfl) rfl
theorem w3_117 : (Cond.methodLink "FarEditors$Told" (87 : Nat) yX8_endsWell) ∈ WB := tb_3 (List.mem_of_getElem? (i := 117) rfl) rfl
theorem w3_119 : (Cond.instanceMethod yX8_endsWell) ∈ WB := tb_3 (List.mem_of_getElem? (i := 119) rfl) rfl
theorem w3_120 : (Cond.code yX8_endsWell prog_10_method_20_code (1 : Nat) (Option.some Jvm.ClassFile.FieldType.boolean)) ∈ WB := tb_3 (List.mem_of_getElem? (i := 120) rfl) rfl
theorem w3_121 : (Cond.methodLink "FarEditors$Told" (135 : Nat) yX8_isAtDigit) ∈ WB := tb_3 (List.mem_of_getElem? (i := 121) rfl) rfl
theorem w3_123 : (Cond.instanceMethod yX8_isAtDigit) ∈ WB := tb_3 (List.mem_of_getElem? (i := 123) rfl) rfl
theorem w3_124 : (Cond.code yX8_isAtDigit prog_10_method_11_code (1 : Nat) (Option.some Jvm.ClassFile.FieldType.boolean)) ∈ WB := tb_3 (List.mem_of_getElem? (i := 124) rfl) rfl
theorem w3_125 : (Cond.methodLink "FarEditors$Told" (56 : Nat) yX8_readRest) ∈ WB := tb_3 (List.mem_of_getElem? (i := 125) rfl) rfl
theorem w3_127 : (Cond.instanceMethod yX8_readRest) ∈ WB := tb_3 (List.mem_of_getElem? (i := 127) rfl) rfl
theorem w3_128 : (Cond.code yX8_readRest prog_10_method_13_code (2 : Nat) (Option.some Jvm.ClassFile.FieldType.boolean)) ∈ WB := tb_3 (List.mem_of_getElem? (i := 128) rfl) rfl
theorem w3_129 : (Cond.methodLink "FarEditors$Told" (73 : Nat) yX8_readText) ∈ WB := tb_3 (List.mem_of_getElem? (i := 129) rfl) rfl
theorem w3_131 : (Cond.instanceMethod yX8_readText) ∈ WB := tb_3 (List.mem_of_getElem? (i := 131) rfl) rfl
theorem w3_132 : (Cond.code yX8_readText prog_10_method_14_code (2 : Nat) (Option.some Jvm.ClassFile.FieldType.boolean)) ∈ WB := tb_3 (List.mem_of_getElem? (i := 132) rfl) rfl
theorem w3_133 : (Cond.methodLink "FarEditors$Told" (84 : Nat) yX8_readWord) ∈ WB := tb_3 (List.mem_of_getElem? (i := 133) rfl) rfl
theorem w3_135 : (Cond.instanceMethod yX8_readWord) ∈ WB := tb_3 (List.mem_of_getElem? (i := 135) rfl) rfl
theorem w3_136 : (Cond.code yX8_readWord prog_10_method_21_code (3 : Nat) (Option.some Jvm.ClassFile.FieldType.boolean)) ∈ WB := tb_3 (List.mem_of_getElem? (i := 136) rfl) rfl
theorem w3_137 : (Cond.methodLink "FarEditors$Told" (138 : Nat) yX8_addPart) ∈ WB := tb_3 (List.mem_of_getElem? (i := 137) rfl) rfl
theorem w3_139 : (Cond.instanceMethod yX8_addPart) ∈ WB := tb_3 (List.mem_of_getElem? (i := 139) rfl) rfl
theorem w3_140 : (Cond.code yX8_addPart prog_10_method_26_code (2 : Nat) (Option.none : Option Jvm.ClassFile.FieldType)) ∈ WB := tb_3 (List.mem_of_getElem? (i := 140) rfl) rfl
theorem w3_141 : (Cond.methodLink "FarEditors$Told" (77 : Nat) yX8_readNumber) ∈ WB := tb_3 (List.mem_of_getElem? (i := 141) rfl) rfl
theorem w3_143 : (Cond.instanceMethod yX8_readNumber) ∈ WB := tb_3 (List.mem_of_getElem? (i := 143) rfl) rfl
theorem w3_144 : (Cond.code yX8_readNumber prog_10_method_23_code (5 : Nat) (Option.some Jvm.ClassFile.FieldType.boolean)) ∈ WB := tb_3 (List.mem_of_getElem? (i := 144) rfl) rfl
theorem w3_145 : (Cond.methodLink "FarEditors$Told" (145 : Nat) yX8_readDigits) ∈ WB := tb_3 (List.mem_of_getElem? (i := 145) rfl) rfl
theorem w3_147 : (Cond.instanceMethod yX8_readDigits) ∈ WB := tb_3 (List.mem_of_getElem? (i := 147) rfl) rfl
theorem w3_148 : (Cond.code yX8_readDigits prog_10_method_24_code (5 : Nat) (Option.some Jvm.ClassFile.FieldType.int)) ∈ WB := tb_3 (List.mem_of_getElem? (i := 148) rfl) rfl
theorem w3_149 : (Cond.methodLink "FarEditors$Told" (148 : Nat) yX8_setNumber) ∈ WB := tb_3 (List.mem_of_getElem? (i := 149) rfl) rfl
theorem w3_151 : (Cond.instanceMethod yX8_setNumber) ∈ WB := tb_3 (List.mem_of_getElem? (i := 151) rfl) rfl
theorem w3_152 : (Cond.code yX8_setNumber prog_10_method_25_code (4 : Nat) (Option.none : Option Jvm.ClassFile.FieldType)) ∈ WB := tb_3 (List.mem_of_getElem? (i := 152) rfl) rfl
theorem w3_153 : (Cond.methodLink "FarEditors$Told" (93 : Nat) yX8_numberOf) ∈ WB := tb_3 (List.mem_of_getElem? (i := 153) rfl) rfl
theorem w3_154 : (Cond.instanceMethod yX8_numberOf) ∈ WB := tb_3 (List.mem_of_getElem? (i := 154) rfl) rfl
theorem w3_155 : (Cond.selects "FarEditors$Told" yX8_numberOf yX8_numberOf) ∈ WB := tb_3 (List.mem_of_getElem? (i := 155) rfl) rfl
theorem w3_156 : (Cond.code yX8_numberOf prog_10_method_4_code (4 : Nat) (Option.some Jvm.ClassFile.FieldType.int)) ∈ WB := tb_3 (List.mem_of_getElem? (i := 156) rfl) rfl
theorem w3_157 : (Cond.methodLink "FarEditors$Told" (81 : Nat) yX8_readEditor) ∈ WB := tb_3 (List.mem_of_getElem? (i := 157) rfl) rfl
theorem w3_159 : (Cond.instanceMethod yX8_readEditor) ∈ WB := tb_3 (List.mem_of_getElem? (i := 159) rfl) rfl
theorem w3_160 : (Cond.code yX8_readEditor prog_10_method_15_code (1 : Nat) (Option.some Jvm.ClassFile.FieldType.boolean)) ∈ WB := tb_3 (List.mem_of_getElem? (i := 160) rfl) rfl
theorem w3_161 : (Cond.methodLink "FarEditors$Told" (70 : Nat) yX8_readSteps) ∈ WB := tb_3 (List.mem_of_getElem? (i := 161) rfl) rfl
theorem w3_163 : (Cond.instanceMethod yX8_readSteps) ∈ WB := tb_3 (List.mem_of_getElem? (i := 163) rfl) rfl
theorem w3_164 : (Cond.code yX8_readSteps prog_10_method_27_code (3 : Nat) (Option.some Jvm.ClassFile.FieldType.boolean)) ∈ WB := tb_3 (List.mem_of_getElem? (i := 164) rfl) rfl
theorem w3_165 : (Cond.methodLink "FarEditors$Told" (152 : Nat) yX8_isAtStep) ∈ WB := tb_3 (List.mem_of_getElem? (i := 165) rfl) rfl
theorem w3_167 : (Cond.instanceMethod yX8_isAtStep) ∈ WB := tb_3 (List.mem_of_getElem? (i := 167) rfl) rfl
theorem w3_168 : (Cond.code yX8_isAtStep prog_10_method_28_code (1 : Nat) (Option.some Jvm.ClassFile.FieldType.boolean)) ∈ WB := tb_3 (List.mem_of_getElem? (i := 168) rfl) rfl
theorem w3_169 : (Cond.methodLink "FarEditors$Told" (142 : Nat) yX8_look) ∈ WB := tb_3 (List.mem_of_getElem? (i := 169) rfl) rfl
theorem w3_171 : (Cond.instanceMethod yX8_look) ∈ WB := tb_3 (List.mem_of_getElem? (i := 171) rfl) rfl
theorem w3_172 : (Cond.code yX8_look prog_10_method_9_code (1 : Nat) (Option.some Jvm.ClassFile.FieldType.int)) ∈ WB := tb_3 (List.mem_of_getElem? (i := 172) rfl) rfl
theorem w3_173 : (Cond.methodLink "FarEditors$Told" (155 : Nat) yX8_readStep) ∈ WB := tb_3 (List.mem_of_getElem? (i := 173) rfl) rfl
theorem w3_175 : (Cond.instanceMethod yX8_readStep) ∈ WB := tb_3 (List.mem_of_getElem? (i := 175) rfl) rfl
theorem w3_176 : (Cond.code yX8_readStep prog_10_method_29_code (3 : Nat) (Option.some Jvm.ClassFile.FieldType.boolean)) ∈ WB := tb_3 (List.mem_of_getElem? (i := 176) rfl) rfl
theorem w3_177 : (Cond.methodLink "FarEditors$Told" (60 : Nat) yX8_readSign) ∈ WB := tb_3 (List.mem_of_getElem? (i := 177) rfl) rfl
theorem w3_179 : (Cond.instanceMethod yX8_readSign) ∈ WB := tb_3 (List.mem_of_getElem? (i := 179) rfl) rfl
theorem w3_180 : (Cond.code yX8_readSign prog_10_method_22_code (2 : Nat) (Option.some Jvm.ClassFile.FieldType.boolean)) ∈ WB := tb_3 (List.mem_of_getElem? (i := 180) rfl) rfl
theorem w3_181 : (Cond.methodLink "FarEditors" (109 : Nat) yX11_noteFault) ∈ WB := tb_3 (List.mem_of_getElem? (i := 181) rfl) rfl
theorem w3_183 : (Cond.instanceMethod yX11_noteFault) ∈ WB := tb_3 (List.mem_of_getElem? (i := 183) rfl) rfl
theorem w3_184 : (Cond.code yX11_noteFault prog_1_method_42_code (1 : Nat) (Option.none : Option Jvm.ClassFile.FieldType)) ∈ WB := tb_3 (List.mem_of_getElem? (i := 184) rfl) rfl
theorem w3_185 : (Cond.methodLink "FarEditors" (112 : Nat) yX11_beginAsTold) ∈ WB := tb_3 (List.mem_of_getElem? (i := 185) rfl) rfl
theorem w3_187 : (Cond.instanceMethod yX11_beginAsTold) ∈ WB := tb_3 (List.mem_of_getElem? (i := 187) rfl) rfl
theorem w3_188 : (Cond.code yX11_beginAsTold prog_1_method_46_code (1 : Nat) (Option.none : Option Jvm.ClassFile.FieldType)) ∈ WB := tb_3 (List.mem_of_getElem? (i := 188) rfl) rfl
theorem w3_189 : (Cond.methodLink "FarEditors" (402 : Nat) yX7_copyLetters) ∈ WB := tb_3 (List.mem_of_getElem? (i := 189) rfl) rfl
theorem w3_190 : (Cond.instanceMethod yX7_copyLetters) ∈ WB := tb_3 (List.mem_of_getElem? (i := 190) rfl) rfl
theorem w3_191 : (Cond.selects "FarEditors$Text" yX7_copyLetters yX7_copyLetters) ∈ WB := tb_3 (List.mem_of_getElem? (i := 191) rfl) rfl
theorem w3_192 : (Cond.code yX7_copyLetters prog_9_method_3_code (3 : Nat) (Option.none : Option Jvm.ClassFile.FieldType)) ∈ WB := tb_3 (List.mem_of_getElem? (i := 192) rfl) rfl
theorem w3_193 : (Cond.methodLink "FarEditors$Text" (25 : Nat) (⟨"java/lang/Math", "min", "(II)I"⟩ : MethodName)) ∈ WB := tb_3 (List.mem_of_getElem? (i := 193) rfl) rfl
theorem w3_194 : (Cond.static (⟨"java/lang/Math", "min", "(II)I"⟩ : MethodName)) ∈ WB := tb_3 (List.mem_of_getElem? (i := 194) rfl) rfl
theorem w3_195 : (Cond.code (⟨"java/lang/Math", "min", "(II)I"⟩ : MethodName) prog_15_method_69_code (2 : Nat) (Option.some Jvm.ClassFile.FieldType.int)) ∈ WB := tb_3 (List.mem_of_getElem? (i := 195) rfl) rfl
theorem w3_196 : (Cond.methodLink "FarEditors$Text" (19 : Nat) (⟨"java/lang/System", "arraycopy", "(Ljava/lang/Object;ILjava/lang/Object;II)V"⟩ : MethodName)) ∈ WB := tb_3 (List.mem_of_getElem? (i := 196) rfl) rfl
theorem w3_197 : (Cond.static (⟨"java/lang/System", "arraycopy", "(Ljava/lang/Object;ILjava/lang/Object;II)V"⟩ : MethodName)) ∈ WB := tb_3 (List.mem_of_getElem? (i := 197) rfl) rfl
theorem w3_198 : (Cond.native (⟨"java/lang/System", "arraycopy", "(Ljava/lang/Object;ILjava/lang/Object;II)V"⟩ : MethodName)) ∈ WB := tb_3 (List.mem_of_getElem? (i := 198) rfl) rfl
theorem w3_199 : (Cond.methodLink "FarEditors" (407 : Nat) yX10_begin) ∈ WB := tb_3 (List.mem_of_getElem? (i := 199) rfl) rfl
theorem w3_200 : (Cond.instanceMethod yX10_begin) ∈ WB := tb_3 (List.mem_of_getElem? (i := 200) rfl) rfl
theorem w3_201 : (Cond.selects "FarEditors$World" yX10_begin yX10_begin) ∈ WB := tb_3 (List.mem_of_getElem? (i := 201) rfl) rfl
theorem w3_202 : (Cond.code yX10_begin prog_12_method_2_code (3 : Nat) (Option.none : Option Jvm.ClassFile.FieldType)) ∈ WB := tb_3 (List.mem_of_getElem? (i := 202) rfl) rfl
theorem w3_203 : (Cond.methodLink "FarEditors$World" (60 : Nat) (⟨"java/lang/Math", "min", "(II)I"⟩ : MethodName)) ∈ WB := tb_3 (List.mem_of_getElem? (i := 203) rfl) rfl
theorem w3_204 : (Cond.methodLink "FarEditors$World" (71 : Nat) yX7_copy) ∈ WB := tb_3 (List.mem_of_getElem? (i := 204) rfl) rfl
theorem w3_205 : (Cond.instanceMethod yX7_copy) ∈ WB := tb_3 (List.mem_of_getElem? (i := 205) rfl) rfl
theorem w3_206 : (Cond.selects "FarEditors$Text" yX7_copy yX7_copy) ∈ WB := tb_3 (List.mem_of_getElem? (i := 206) rfl) rfl
theorem w3_207 : (Cond.code yX7_copy prog_9_method_2_code (2 : Nat) (Option.none : Option Jvm.ClassFile.FieldType)) ∈ WB := tb_3 (List.mem_of_getElem? (i := 207) rfl) rfl
theorem w3_208 : (Cond.methodLink "FarEditors$World" (75 : Nat) yX1_begin) ∈ WB := tb_3 (List.mem_of_getElem? (i := 208) rfl) rfl
theorem w3_209 : (Cond.instanceMethod yX1_begin) ∈ WB := tb_3 (List.mem_of_getElem? (i := 209) rfl) rfl
theorem w3_210 : (Cond.selects "FarEditors$Editor" yX1_begin yX1_begin) ∈ WB := tb_3 (List.mem_of_getElem? (i := 210) rfl) rfl
theorem w3_211 : (Cond.code yX1_begin prog_3_method_2_code (2 : Nat) (Option.none : Option Jvm.ClassFile.FieldType)) ∈ WB := tb_3 (List.mem_of_getElem? (i := 211) rfl) rfl
theorem w3_212 : (Cond.methodLink "FarEditors$Editor" (71 : Nat) yX7_copy) ∈ WB := tb_3 (List.mem_of_getElem? (i := 212) rfl) rfl
theorem w3_213 : (Cond.methodLink "FarEditors" (410 : Nat) yX2_begin) ∈ WB := tb_3 (List.mem_of_getElem? (i := 213) rfl) rfl
theorem w3_214 : (Cond.instanceMethod yX2_begin) ∈ WB := tb_3 (List.mem_of_getElem? (i := 214) rfl) rfl
theorem w3_215 : (Cond.selects "FarEditors$History" yX2_begin yX2_begin) ∈ WB := tb_3 (List.mem_of_getElem? (i := 215) rfl) rfl
theorem w3_216 : (Cond.code yX2_begin prog_4_method_2_code (1 : Nat) (Option.none : Option Jvm.ClassFile.FieldType)) ∈ WB := tb_3 (List.mem_of_getElem? (i := 216) rfl) rfl
theorem w3_217 : (Cond.methodLink "FarEditors" (118 : Nat) yX11_settle) ∈ WB := tb_3 (List.mem_of_getElem? (i := 217) rfl) rfl
theorem w3_219 : (Cond.instanceMethod yX11_settle) ∈ WB := tb_3 (List.mem_of_getElem? (i := 219) rfl) rfl
theorem w3_220 : (Cond.code yX11_settle prog_1_method_47_code (3 : Nat) (Option.none : Option Jvm.ClassFile.FieldType)) ∈ WB := tb_3 (List.mem_of_getElem? (i := 220) rfl) rfl
theorem w3_221 : (Cond.methodLink "FarEditors" (412 : Nat) yX8_numberOf) ∈ WB := tb_3 (List.mem_of_getElem? (i := 221) rfl) rfl
theorem w3_222 : (Cond.methodLink "FarEditors" (154 : Nat) yX10_knows) ∈ WB := tb_3 (List.mem_of_getElem? (i := 222) rfl) rfl
theorem w3_223 : (Cond.instanceMethod yX10_knows) ∈ WB := tb_3 (List.mem_of_getElem? (i := 223) rfl) rfl
theorem w3_224 : (Cond.selects "FarEditors$World" yX10_knows yX10_knows) ∈ WB := tb_3 (List.mem_of_getElem? (i := 224) rfl) rfl
theorem w3_225 : (Cond.code yX10_knows prog_12_method_4_code (2 : Nat) (Option.some Jvm.ClassFile.FieldType.boolean)) ∈ WB := tb_3 (List.mem_of_getElem? (i := 225) rfl) rfl
theorem w3_226 : (Cond.methodLink "FarEditors" (121 : Nat) yX11_perform) ∈ WB := tb_3 (List.mem_of_getElem? (i := 226) rfl) rfl
theorem w3_228 : (Cond.instanceMethod yX11_perform) ∈ WB := tb_3 (List.mem_of_getElem? (i := 228) rfl) rfl
theorem w3_229 : (Cond.code yX11_perform prog_1_method_48_code (5 : Nat) (Option.none : Option Jvm.ClassFile.FieldType)) ∈ WB := tb_3 (List.mem_of_getElem? (i := 229) rfl) rfl
theorem w3_230 : (Cond.methodLink "FarEditors" (372 : Nat) yX10_canTick) ∈ WB := tb_3 (List.mem_of_getElem? (i := 230) rfl) rfl
theorem w3_231 : (Cond.instanceMethod yX10_canTick) ∈ WB := tb_3 (List.mem_of_getElem? (i := 231) rfl) rfl
theorem w3_232 : (Cond.selects "FarEditors$World" yX10_canTick yX10_canTick) ∈ WB := tb_3 (List.mem_of_getElem? (i := 232) rfl) rfl
theorem w3_233 : (Cond.code yX10_canTick prog_12_method_13_code (2 : Nat) (Option.some Jvm.ClassFile.FieldType.boolean)) ∈ WB := tb_3 (List.mem_of_getElem? (i := 233) rfl) rfl
theorem w3_234 : (Cond.methodLink "FarEditors" (282 : Nat) yX10_runTick) ∈ WB := tb_3 (List.mem_of_getElem? (i := 234) rfl) rfl
theorem w3_235 : (Cond.instanceMethod yX10_runTick) ∈ WB := tb_3 (List.mem_of_getElem? (i := 235) rfl) rfl
theorem w3_236 : (Cond.selects "FarEditors$World" yX10_runTick yX10_runTick) ∈ WB := tb_3 (List.mem_of_getElem? (i := 236) rfl) rfl
theorem w3_237 : (Cond.code yX10_runTick prog_12_method_18_code (4 : Nat) (Option.none : Option Jvm.ClassFile.FieldType)) ∈ WB := tb_3 (List.mem_of_getElem? (i := 237) rfl) rfl
theorem w3_238 : (Cond.methodLink "FarEditors$World" (189 : Nat) yX1_passTick) ∈ WB := tb_3 (List.mem_of_getElem? (i := 238) rfl) rfl
theorem w3_239 : (Cond.instanceMethod yX1_passTick) ∈ WB := tb_3 (List.mem_of_getElem? (i := 239) rfl) rfl
theorem w4_0 : (Cond.selects "FarEditors$Editor" yX1_passTick yX1_passTick) ∈ WB := tb_4 (List.mem_of_getElem? (i := 0) rfl) rfl
theorem w4_1 : (Cond.code yX1_passTick prog_3_method_11_code (3 : Nat) (Option.none : Option Jvm.ClassFile.FieldType)) ∈ WB := tb_4 (List.mem_of_getElem? (i := 1) rfl) rfl
theorem w4_2 : (Cond.methodLink "FarEditors$World" (193 : Nat) yX10_takeFrom) ∈ WB := tb_4 (List.mem_of_getElem? (i := 2) rfl) rfl
theorem w4_3 : (Cond.instanceMethod yX10_takeFrom) ∈ WB := tb_4 (List.mem_of_getElem? (i := 3) rfl) rfl
theorem w4_4 : (Cond.selects "FarEditors$World" yX10_takeFrom yX10_takeFrom) ∈ WB := tb_4 (List.mem_of_getElem? (i := 4) rfl) rfl
theorem w4_5 : (Cond.code yX10_takeFrom prog_12_method_19_code (5 : Nat) (Option.none : Option Jvm.ClassFile.FieldType)) ∈ WB := tb_4 (List.mem_of_getElem? (i := 5) rfl) rfl
theorem w4_6 : (Cond.methodLink "FarEditors$World" (111 : Nat) yX10_knows) ∈ WB := tb_4 (List.mem_of_getElem? (i := 6) rfl) rfl
theorem w4_7 : (Cond.methodLink "FarEditors$World" (170 : Nat) yX4_copy) ∈ WB := tb_4 (List.mem_of_getElem? (i := 7) rfl) rfl
theorem w4_8 : (Cond.instanceMethod yX4_copy) ∈ WB := tb_4 (List.mem_of_getElem? (i := 8) rfl) rfl
theorem w4_9 : (Cond.selects "FarEditors$Op" yX4_copy yX4_copy) ∈ WB := tb_4 (List.mem_of_getElem? (i := 9) rfl) rfl
theorem w4_10 : (Cond.code yX4_copy prog_6_method_6_code (2 : Nat) (Option.none : Option Jvm.ClassFile.FieldType)) ∈ WB := tb_4 (List.mem_of_getElem? (i := 10) rfl) rfl
theorem w4_11 : (Cond.methodLink "FarEditors$Op" (25 : Nat) (⟨"java/lang/System", "arraycopy", "(Ljava/lang/Object;ILjava/lang/Object;II)V"⟩ : MethodName)) ∈ WB := tb_4 (List.mem_of_getElem? (i := 11) rfl) rfl
theorem w4_12 : (Cond.methodLink "FarEditors$World" (206 : Nat) yX10_isAhead) ∈ WB := tb_4 (List.mem_of_getElem? (i := 12) rfl) rfl
theorem w4_13 : (Cond.instanceMethod yX10_isAhead) ∈ WB := tb_4 (List.mem_of_getElem? (i := 13) rfl) rfl
theorem w4_14 : (Cond.selects "FarEditors$World" yX10_isAhead yX10_isAhead) ∈ WB := tb_4 (List.mem_of_getElem? (i := 14) rfl) rfl
theorem w4_15 : (Cond.code yX10_isAhead prog_12_method_5_code (3 : Nat) (Option.some Jvm.ClassFile.FieldType.boolean)) ∈ WB := tb_4 (List.mem_of_getElem? (i := 15) rfl) rfl
theorem w4_16 : (Cond.methodLink "FarEditors$World" (209 : Nat) yX9_turn) ∈ WB := tb_4 (List.mem_of_getElem? (i := 16) rfl) rfl
theorem w4_17 : (Cond.instanceMethod yX9_turn) ∈ WB := tb_4 (List.mem_of_getElem? (i := 17) rfl) rfl
theorem w4_18 : (Cond.selects "FarEditors$Weaver" yX9_turn yX9_turn) ∈ WB := tb_4 (List.mem_of_getElem? (i := 18) rfl) rfl
theorem w4_19 : (Cond.code yX9_turn prog_11_method_5_code (6 : Nat) (Option.none : Option Jvm.ClassFile.FieldType)) ∈ WB := tb_4 (List.mem_of_getElem? (i := 19) rfl) rfl
theorem w4_20 : (Cond.methodLink "FarEditors$Weaver" (48 : Nat) yX4_begin) ∈ WB := tb_4 (List.mem_of_getElem? (i := 20) rfl) rfl
theorem w4_21 : (Cond.instanceMethod yX4_begin) ∈ WB := tb_4 (List.mem_of_getElem? (i := 21) rfl) rfl
theorem w4_22 : (Cond.selects "FarEditors$Op" yX4_begin yX4_begin) ∈ WB := tb_4 (List.mem_of_getElem? (i := 22) rfl) rfl
theorem w4_23 : (Cond.code yX4_begin prog_6_method_2_code (2 : Nat) (Option.none : Option Jvm.ClassFile.FieldType)) ∈ WB := tb_4 (List.mem_of_getElem? (i := 23) rfl) rfl
theorem w4_24 : (Cond.methodLink "FarEditors$Op" (19 : Nat) (⟨"java/lang/Math", "max", "(II)I"⟩ : MethodName)) ∈ WB := tb_4 (List.mem_of_getElem? (i := 24) rfl) rfl
theorem w4_25 : (Cond.static (⟨"java/lang/Math", "max", "(II)I"⟩ : MethodName)) ∈ WB := tb_4 (List.mem_of_getElem? (i := 25) rfl) rfl
theorem w4_26 : (Cond.code (⟨"java/lang/Math", "max", "(II)I"⟩ : MethodName) prog_15_method_65_code (2 : Nat) (Option.some Jvm.ClassFile.FieldType.int)) ∈ WB := tb_4 (List.mem_of_getElem? (i := 26) rfl) rfl
theorem w4_27 : (Cond.methodLink "FarEditors$Weaver" (78 : Nat) yX5_open) ∈ WB := tb_4 (List.mem_of_getElem? (i := 27) rfl) rfl
theorem w4_28 : (Cond.instanceMethod yX5_open) ∈ WB := tb_4 (List.mem_of_getElem? (i := 28) rfl) rfl
theorem w4_29 : (Cond.selects "FarEditors$Reader" yX5_open yX5_open) ∈ WB := tb_4 (List.mem_of_getElem? (i := 29) rfl) rfl
theorem w4_30 : (Cond.code yX5_open prog_7_method_2_code (2 : Nat) (Option.none : Option Jvm.ClassFile.FieldType)) ∈ WB := tb_4 (List.mem_of_getElem? (i := 30) rfl) rfl
theorem w4_31 : (Cond.methodLink "FarEditors$Reader" (28 : Nat) yX5_pass) ∈ WB := tb_4 (List.mem_of_getElem? (i := 31) rfl) rfl
theorem w4_32 : (Cond.instanceMethod yX5_pass) ∈ WB := tb_4 (List.mem_of_getElem? (i := 32) rfl) rfl
theorem w4_33 : (Cond.selects "FarEditors$Reader" yX5_pass yX5_pass) ∈ WB := tb_4 (List.mem_of_getElem? (i := 33) rfl) rfl
theorem w4_34 : (Cond.code yX5_pass prog_7_method_5_code (2 : Nat) (Option.none : Option Jvm.ClassFile.FieldType)) ∈ WB := tb_4 (List.mem_of_getElem? (i := 34) rfl) rfl
theorem w4_35 : (Cond.methodLink "FarEditors$Weaver" (92 : Nat) yX5_isAtPut) ∈ WB := tb_4 (List.mem_of_getElem? (i := 35) rfl) rfl
theorem w4_36 : (Cond.instanceMethod yX5_isAtPut) ∈ WB := tb_4 (List.mem_of_getElem? (i := 36) rfl) rfl
theorem w4_37 : (Cond.selects "FarEditors$Reader" yX5_isAtPut yX5_isAtPut) ∈ WB := tb_4 (List.mem_of_getElem? (i := 37) rfl) rfl
theorem w4_38 : (Cond.code yX5_isAtPut prog_7_method_3_code (1 : Nat) (Option.some Jvm.ClassFile.FieldType.boolean)) ∈ WB := tb_4 (List.mem_of_getElem? (i := 38) rfl) rfl
theorem w4_39 : (Cond.methodLink "FarEditors$Weaver" (75 : Nat) yX4_addPut) ∈ WB := tb_4 (List.mem_of_getElem? (i := 39) rfl) rfl
theorem w4_40 : (Cond.instanceMethod yX4_addPut) ∈ WB := tb_4 (List.mem_of_getElem? (i := 40) rfl) rfl
theorem w4_41 : (Cond.selects "FarEditors$Op" yX4_addPut yX4_addPut) ∈ WB := tb_4 (List.mem_of_getElem? (i := 41) rfl) rfl
theorem w4_42 : (Cond.code yX4_addPut prog_6_method_5_code (2 : Nat) (Option.none : Option Jvm.ClassFile.FieldType)) ∈ WB := tb_4 (List.mem_of_getElem? (i := 42) rfl) rfl
theorem w4_43 : (Cond.methodLink "FarEditors$Weaver" (62 : Nat) yX4_addKeep) ∈ WB := tb_4 (List.mem_of_getElem? (i := 43) rfl) rfl
theorem w4_44 : (Cond.instanceMethod yX4_addKeep) ∈ WB := tb_4 (List.mem_of_getElem? (i := 44) rfl) rfl
theorem w4_45 : (Cond.selects "FarEditors$Op" yX4_addKeep yX4_addKeep) ∈ WB := tb_4 (List.mem_of_getElem? (i := 45) rfl) rfl
theorem w4_46 : (Cond.code yX4_addKeep prog_6_method_3_code (2 : Nat) (Option.none : Option Jvm.ClassFile.FieldType)) ∈ WB := tb_4 (List.mem_of_getElem? (i := 46) rfl) rfl
theorem w4_47 : (Cond.methodLink "FarEditors$Weaver" (89 : Nat) yX5_pass) ∈ WB := tb_4 (List.mem_of_getElem? (i := 47) rfl) rfl
theorem w4_48 : (Cond.methodLink "FarEditors$Weaver" (104 : Nat) yX9_turnCommon) ∈ WB := tb_4 (List.mem_of_getElem? (i := 48) rfl) rfl
theorem w4_50 : (Cond.instanceMethod yX9_turnCommon) ∈ WB := tb_4 (List.mem_of_getElem? (i := 50) rfl) rfl
theorem w4_51 : (Cond.code yX9_turnCommon prog_11_method_6_code (4 : Nat) (Option.none : Option Jvm.ClassFile.FieldType)) ∈ WB := tb_4 (List.mem_of_getElem? (i := 51) rfl) rfl
theorem w4_52 : (Cond.methodLink "FarEditors$Weaver" (65 : Nat) (⟨"java/lang/Math", "min", "(II)I"⟩ : MethodName)) ∈ WB := tb_4 (List.mem_of_getElem? (i := 52) rfl) rfl
theorem w4_53 : (Cond.methodLink "FarEditors$Weaver" (82 : Nat) yX5_isAtCut) ∈ WB := tb_4 (List.mem_of_getElem? (i := 53) rfl) rfl
theorem w4_54 : (Cond.instanceMethod yX5_isAtCut) ∈ WB := tb_4 (List.mem_of_getElem? (i := 54) rfl) rfl
theorem w4_55 : (Cond.selects "FarEditors$Reader" yX5_isAtCut yX5_isAtCut) ∈ WB := tb_4 (List.mem_of_getElem? (i := 55) rfl) rfl
theorem w4_56 : (Cond.code yX5_isAtCut prog_7_method_4_code (1 : Nat) (Option.some Jvm.ClassFile.FieldType.boolean)) ∈ WB := tb_4 (List.mem_of_getElem? (i := 56) rfl) rfl
theorem w4_57 : (Cond.methodLink "FarEditors$Weaver" (59 : Nat) yX4_addCut) ∈ WB := tb_4 (List.mem_of_getElem? (i := 57) rfl) rfl
theorem w4_58 : (Cond.instanceMethod yX4_addCut) ∈ WB := tb_4 (List.mem_of_getElem? (i := 58) rfl) rfl
theorem w4_59 : (Cond.selects "FarEditors$Op" yX4_addCut yX4_addCut) ∈ WB := tb_4 (List.mem_of_getElem? (i := 59) rfl) rfl
theorem w4_60 : (Cond.code yX4_addCut prog_6_method_4_code (2 : Nat) (Option.none : Option Jvm.ClassFile.FieldType)) ∈ WB := tb_4 (List.mem_of_getElem? (i := 60) rfl) rfl
theorem w4_61 : (Cond.methodLink "FarEditors$Weaver" (101 : Nat) yX4_swap) ∈ WB := tb_4 (List.mem_of_getElem? (i := 61) rfl) rfl
theorem w4_62 : (Cond.instanceMethod yX4_swap) ∈ WB := tb_4 (List.mem_of_getElem? (i := 62) rfl) rfl
theorem w4_63 : (Cond.selects "FarEditors$Op" yX4_swap yX4_swap) ∈ WB := tb_4 (List.mem_of_getElem? (i := 63) rfl) rfl
theorem w4_64 : (Cond.code yX4_swap prog_6_method_7_code (4 : Nat) (Option.none : Option Jvm.ClassFile.FieldType)) ∈ WB := tb_4 (List.mem_of_getElem? (i := 64) rfl) rfl
theorem w4_65 : (Cond.methodLink "FarEditors$World" (213 : Nat) yX10_countForeignCuts) ∈ WB := tb_4 (List.mem_of_getElem? (i := 65) rfl) rfl
theorem w4_67 : (Cond.instanceMethod yX10_countForeignCuts) ∈ WB := tb_4 (List.mem_of_getElem? (i := 67) rfl) rfl
theorem w4_68 : (Cond.code yX10_countForeignCuts prog_12_method_20_code (8 : Nat) (Option.some Jvm.ClassFile.FieldType.int)) ∈ WB := tb_4 (List.mem_of_getElem? (i := 68) rfl) rfl
theorem w4_69 : (Cond.methodLink "FarEditors$World" (97 : Nat) yX7_writerOf) ∈ WB := tb_4 (List.mem_of_getElem? (i := 69) rfl) rfl
theorem w4_70 : (Cond.instanceMethod yX7_writerOf) ∈ WB := tb_4 (List.mem_of_getElem? (i := 70) rfl) rfl
theorem w4_71 : (Cond.selects "FarEditors$Text" yX7_writerOf yX7_writerOf) ∈ WB := tb_4 (List.mem_of_getElem? (i := 71) rfl) rfl
theorem w4_72 : (Cond.code yX7_writerOf prog_9_method_6_code (2 : Nat) (Option.some Jvm.ClassFile.FieldType.int)) ∈ WB := tb_4 (List.mem_of_getElem? (i := 72) rfl) rfl
theorem w4_73 : (Cond.methodLink "FarEditors$Text" (31 : Nat) yX7_hasPlace) ∈ WB := tb_4 (List.mem_of_getElem? (i := 73) rfl) rfl
theorem w4_74 : (Cond.instanceMethod yX7_hasPlace) ∈ WB := tb_4 (List.mem_of_getElem? (i := 74) rfl) rfl
theorem w4_75 : (Cond.selects "FarEditors$Text" yX7_hasPlace yX7_hasPlace) ∈ WB := tb_4 (List.mem_of_getElem? (i := 75) rfl) rfl
theorem w4_76 : (Cond.code yX7_hasPlace prog_9_method_4_code (2 : Nat) (Option.some Jvm.ClassFile.FieldType.boolean)) ∈ WB := tb_4 (List.mem_of_getElem? (i := 76) rfl) rfl
theorem w4_77 : (Cond.methodLink "FarEditors$World" (101 : Nat) yX10_ownerOf) ∈ WB := tb_4 (List.mem_of_getElem? (i := 77) rfl) rfl
theorem w4_78 : (Cond.instanceMethod yX10_ownerOf) ∈ WB := tb_4 (List.mem_of_getElem? (i := 78) rfl) rfl
theorem w4_79 : (Cond.selects "FarEditors$World" yX10_ownerOf yX10_ownerOf) ∈ WB := tb_4 (List.mem_of_getElem? (i := 79) rfl) rfl
theorem w4_80 : (Cond.code yX10_ownerOf prog_12_method_7_code (2 : Nat) (Option.some Jvm.ClassFile.FieldType.int)) ∈ WB := tb_4 (List.mem_of_getElem? (i := 80) rfl) rfl
theorem w4_81 : (Cond.methodLink "FarEditors$World" (159 : Nat) yX9_change) ∈ WB := tb_4 (List.mem_of_getElem? (i := 81) rfl) rfl
theorem w4_82 : (Cond.instanceMethod yX9_change) ∈ WB := tb_4 (List.mem_of_getElem? (i := 82) rfl) rfl
theorem w4_83 : (Cond.selects "FarEditors$Weaver" yX9_change yX9_change) ∈ WB := tb_4 (List.mem_of_getElem? (i := 83) rfl) rfl
theorem w4_84 : (Cond.code yX9_change prog_11_method_8_code (9 : Nat) (Option.none : Option Jvm.ClassFile.FieldType)) ∈ WB := tb_4 (List.mem_of_getElem? (i := 84) rfl) rfl
theorem w4_85 : (Cond.methodLink "FarEditors$Weaver" (124 : Nat) (⟨"java/lang/System", "arraycopy", "(Ljava/lang/Object;ILjava/lang/Object;II)V"⟩ : MethodName)) ∈ WB := tb_4 (List.mem_of_getElem? (i := 85) rfl) rfl
theorem w4_86 : (Cond.methodLink "FarEditors$World" (199 : Nat) yX10_bringTo) ∈ WB := tb_4 (List.mem_of_getElem? (i := 86) rfl) rfl
theorem w4_88 : (Cond.instanceMethod yX10_bringTo) ∈ WB := tb_4 (List.mem_of_getElem? (i := 88) rfl) rfl
theorem w4_89 : (Cond.code yX10_bringTo prog_12_method_21_code (6 : Nat) (Option.none : Option Jvm.ClassFile.FieldType)) ∈ WB := tb_4 (List.mem_of_getElem? (i := 89) rfl) rfl
theorem w4_90 : (Cond.methodLink "FarEditors$World" (224 : Nat) yX1_takeOwn) ∈ WB := tb_4 (List.mem_of_getElem? (i := 90) rfl) rfl
theorem w4_91 : (Cond.instanceMethod yX1_takeOwn) ∈ WB := tb_4 (List.mem_of_getElem? (i := 91) rfl) rfl
theorem w4_92 : (Cond.selects "FarEditors$Editor" yX1_takeOwn yX1_takeOwn) ∈ WB := tb_4 (List.mem_of_getElem? (i := 92) rfl) rfl
theorem w4_93 : (Cond.code yX1_takeOwn prog_3_method_10_code (1 : Nat) (Option.none : Option Jvm.ClassFile.FieldType)) ∈ WB := tb_4 (List.mem_of_getElem? (i := 93) rfl) rfl
theorem w4_94 : (Cond.methodLink "FarEditors$Editor" (100 : Nat) yX4_swap) ∈ WB := tb_4 (List.mem_of_getElem? (i := 94) rfl) rfl
theorem w4_95 : (Cond.methodLink "FarEditors$Editor" (103 : Nat) yX1_send) ∈ WB := tb_4 (List.mem_of_getElem? (i := 95) rfl) rfl
theorem w4_96 : (Cond.instanceMethod yX1_send) ∈ WB := tb_4 (List.mem_of_getElem? (i := 96) rfl) rfl
theorem w4_97 : (Cond.selects "FarEditors$Editor" yX1_send yX1_send) ∈ WB := tb_4 (List.mem_of_getElem? (i := 97) rfl) rfl
theorem w4_98 : (Cond.code yX1_send prog_3_method_9_code (1 : Nat) (Option.none : Option Jvm.ClassFile.FieldType)) ∈ WB := tb_4 (List.mem_of_getElem? (i := 98) rfl) rfl
theorem w4_99 : (Cond.methodLink "FarEditors$World" (155 : Nat) yX1_carryPlaces) ∈ WB := tb_4 (List.mem_of_getElem? (i := 99) rfl) rfl
theorem w4_100 : (Cond.instanceMethod yX1_carryPlaces) ∈ WB := tb_4 (List.mem_of_getElem? (i := 100) rfl) rfl
theorem w4_101 : (Cond.selects "FarEditors$Editor" yX1_carryPlaces yX1_carryPlaces) ∈ WB := tb_4 (List.mem_of_getElem? (i := 101) rfl) rfl
theorem w4_102 : (Cond.code yX1_carryPlaces prog_3_method_8_code (5 : Nat) (Option.none : Option Jvm.ClassFile.FieldType)) ∈ WB := tb_4 (List.mem_of_getElem? (i := 102) rfl) rfl
theorem w4_103 : (Cond.methodLink "FarEditors$Editor" (90 : Nat) yX4_carry) ∈ WB := tb_4 (List.mem_of_getElem? (i := 103) rfl) rfl
theorem w4_104 : (Cond.instanceMethod yX4_carry) ∈ WB := tb_4 (List.mem_of_getElem? (i := 104) rfl) rfl
theorem w4_105 : (Cond.selects "FarEditors$Op" yX4_carry yX4_carry) ∈ WB := tb_4 (List.mem_of_getElem? (i := 105) rfl) rfl
theorem w4_106 : (Cond.code yX4_carry prog_6_method_20_code (7 : Nat) (Option.some Jvm.ClassFile.FieldType.int)) ∈ WB := tb_4 (List.mem_of_getElem? (i := 106) rfl) rfl
theorem w4_107 : (Cond.methodLink "FarEditors$Op" (35 : Nat) yX4_isPut) ∈ WB := tb_4 (List.mem_of_getElem? (i := 107) rfl) rfl
theorem w4_108 : (Cond.static yX4_isPut) ∈ WB := tb_4 (List.mem_of_getElem? (i := 108) rfl) rfl
theorem w4_109 : (Cond.code yX4_isPut prog_6_method_11_code (1 : Nat) (Option.some Jvm.ClassFile.FieldType.boolean)) ∈ WB := tb_4 (List.mem_of_getElem? (i := 109) rfl) rfl
theorem w4_110 : (Cond.methodLink "FarEditors$Op" (62 : Nat) (⟨"java/lang/Math", "min", "(II)I"⟩ : MethodName)) ∈ WB := tb_4 (List.mem_of_getElem? (i := 110) rfl) rfl
theorem w4_111 : (Cond.methodLink "FarEditors$Editor" (94 : Nat) (⟨"java/lang/Math", "max", "(II)I"⟩ : MethodName)) ∈ WB := tb_4 (List.mem_of_getElem? (i := 111) rfl) rfl
theorem w4_112 : (Cond.methodLink "FarEditors$World" (227 : Nat) yX9_turnAll) ∈ WB := tb_4 (List.mem_of_getElem? (i := 112) rfl) rfl
theorem w4_113 : (Cond.instanceMethod yX9_turnAll) ∈ WB := tb_4 (List.mem_of_getElem? (i := 113) rfl) rfl
theorem w4_114 : (Cond.selects "FarEditors$Weaver" yX9_turnAll yX9_turnAll) ∈ WB := tb_4 (List.mem_of_getElem? (i := 114) rfl) rfl
theorem w4_115 : (Cond.code yX9_turnAll prog_11_method_7_code (4 : Nat) (Option.none : Option Jvm.ClassFile.FieldType)) ∈ WB := tb_4 (List.mem_of_getElem? (i := 115) rfl) rfl
theorem w4_116 : (Cond.methodLink "FarEditors$Weaver" (107 : Nat) yX4_copy) ∈ WB := tb_4 (List.mem_of_getElem? (i := 116) rfl) rfl
theorem w4_117 : (Cond.methodLink "FarEditors$Weaver" (117 : Nat) yX9_turn) ∈ WB := tb_4 (List.mem_of_getElem? (i := 117) rfl) rfl
theorem w4_118 : (Cond.methodLink "FarEditors" (418 : Nat) yX11_performFor) ∈ WB := tb_4 (List.mem_of_getElem? (i := 118) rfl) rfl
theorem w4_120 : (Cond.instanceMethod yX11_performFor) ∈ WB := tb_4 (List.mem_of_getElem? (i := 120) rfl) rfl
theorem w4_121 : (Cond.code yX11_performFor prog_1_method_49_code (7 : Nat) (Option.none : Option Jvm.ClassFile.FieldType)) ∈ WB := tb_4 (List.mem_of_getElem? (i := 121) rfl) rfl
theorem w4_122 : (Cond.methodLink "FarEditors" (328 : Nat) yX4_build) ∈ WB := tb_4 (List.mem_of_getElem? (i := 122) rfl) rfl
theorem w4_123 : (Cond.instanceMethod yX4_build) ∈ WB := tb_4 (List.mem_of_getElem? (i := 123) rfl) rfl
theorem w4_124 : (Cond.selects "FarEditors$Op" yX4_build yX4_build) ∈ WB := tb_4 (List.mem_of_getElem? (i := 124) rfl) rfl
theorem w4_125 : (Cond.code yX4_build prog_6_method_8_code (8 : Nat) (Option.some Jvm.ClassFile.FieldType.boolean)) ∈ WB := tb_4 (List.mem_of_getElem? (i := 125) rfl) rfl
theorem w4_126 : (Cond.methodLink "FarEditors$Op" (31 : Nat) yX4_begin) ∈ WB := tb_4 (List.mem_of_getElem? (i := 126) rfl) rfl
theorem w4_127 : (Cond.methodLink "FarEditors$Op" (39 : Nat) yX4_addPut) ∈ WB := tb_4 (List.mem_of_getElem? (i := 127) rfl) rfl
theorem w4_128 : (Cond.methodLink "FarEditors$Op" (42 : Nat) yX4_addCut) ∈ WB := tb_4 (List.mem_of_getElem? (i := 128) rfl) rfl
theorem w4_129 : (Cond.methodLink "FarEditors$Op" (45 : Nat) yX4_addKeep) ∈ WB := tb_4 (List.mem_of_getElem? (i := 129) rfl) rfl
theorem w4_130 : (Cond.methodLink "FarEditors" (422 : Nat) yX10_canEdit) ∈ WB := tb_4 (List.mem_of_getElem? (i := 130) rfl) rfl
theorem w4_131 : (Cond.instanceMethod yX10_canEdit) ∈ WB := tb_4 (List.mem_of_getElem? (i := 131) rfl) rfl
theorem w4_132 : (Cond.selects "FarEditors$World" yX10_canEdit yX10_canEdit) ∈ WB := tb_4 (List.mem_of_getElem? (i := 132) rfl) rfl
theorem w4_133 : (Cond.code yX10_canEdit prog_12_method_14_code (2 : Nat) (Option.some Jvm.ClassFile.FieldType.boolean)) ∈ WB := tb_4 (List.mem_of_getElem? (i := 133) rfl) rfl
theorem w4_134 : (Cond.methodLink "FarEditors$World" (118 : Nat) yX4_changesSomething) ∈ WB := tb_4 (List.mem_of_getElem? (i := 134) rfl) rfl
theorem w4_135 : (Cond.instanceMethod yX4_changesSomething) ∈ WB := tb_4 (List.mem_of_getElem? (i := 135) rfl) rfl
theorem w4_136 : (Cond.selects "FarEditors$Op" yX4_changesSomething yX4_changesSomething) ∈ WB := tb_4 (List.mem_of_getElem? (i := 136) rfl) rfl
theorem w4_137 : (Cond.code yX4_changesSomething prog_6_method_12_code (2 : Nat) (Option.some Jvm.ClassFile.FieldType.boolean)) ∈ WB := tb_4 (List.mem_of_getElem? (i := 137) rfl) rfl
theorem w4_138 : (Cond.methodLink "FarEditors$World" (124 : Nat) yX4_countPut) ∈ WB := tb_4 (List.mem_of_getElem? (i := 138) rfl) rfl
theorem w4_139 : (Cond.instanceMethod yX4_countPut) ∈ WB := tb_4 (List.mem_of_getElem? (i := 139) rfl) rfl
theorem w4_140 : (Cond.selects "FarEditors$Op" yX4_countPut yX4_countPut) ∈ WB := tb_4 (List.mem_of_getElem? (i := 140) rfl) rfl
theorem w4_141 : (Cond.code yX4_countPut prog_6_method_13_code (3 : Nat) (Option.some Jvm.ClassFile.FieldType.int)) ∈ WB := tb_4 (List.mem_of_getElem? (i := 141) rfl) rfl
theorem w4_142 : (Cond.methodLink "FarEditors" (426 : Nat) yX10_editPlainly) ∈ WB := tb_4 (List.mem_of_getElem? (i := 142) rfl) rfl
theorem w4_143 : (Cond.instanceMethod yX10_editPlainly) ∈ WB := tb_4 (List.mem_of_getElem? (i := 143) rfl) rfl
theorem w4_144 : (Cond.selects "FarEditors$World" yX10_editPlainly yX10_editPlainly) ∈ WB := tb_4 (List.mem_of_getElem? (i := 144) rfl) rfl
theorem w4_145 : (Cond.code yX10_editPlainly prog_12_method_15_code (3 : Nat) (Option.none : Option Jvm.ClassFile.FieldType)) ∈ WB := tb_4 (List.mem_of_getElem? (i := 145) rfl) rfl
theorem w4_146 : (Cond.methodLink "FarEditors$World" (132 : Nat) yX3_addOne) ∈ WB := tb_4 (List.mem_of_getElem? (i := 146) rfl) rfl
theorem w4_147 : (Cond.instanceMethod yX3_addOne) ∈ WB := tb_4 (List.mem_of_getElem? (i := 147) rfl) rfl
theorem w4_148 : (Cond.selects "FarEditors$Inverses" yX3_addOne yX3_addOne) ∈ WB := tb_4 (List.mem_of_getElem? (i := 148) rfl) rfl
theorem w4_149 : (Cond.code yX3_addOne prog_5_method_3_code (3 : Nat) (Option.some (Jvm.ClassFile.FieldType.object "FarEditors$Op"))) ∈ WB := tb_4 (List.mem_of_getElem? (i := 149) rfl) rfl
theorem w4_150 : (Cond.methodLink "FarEditors$World" (138 : Nat) yX9_invert) ∈ WB := tb_4 (List.mem_of_getElem? (i := 150) rfl) rfl
theorem w4_151 : (Cond.instanceMethod yX9_invert) ∈ WB := tb_4 (List.mem_of_getElem? (i := 151) rfl) rfl
theorem w4_152 : (Cond.selects "FarEditors$Weaver" yX9_invert yX9_invert) ∈ WB := tb_4 (List.mem_of_getElem? (i := 152) rfl) rfl
theorem w4_153 : (Cond.code yX9_invert prog_11_method_2_code (8 : Nat) (Option.none : Option Jvm.ClassFile.FieldType)) ∈ WB := tb_4 (List.mem_of_getElem? (i := 153) rfl) rfl
theorem w4_154 : (Cond.methodLink "FarEditors$Weaver" (55 : Nat) yX4_isPut) ∈ WB := tb_4 (List.mem_of_getElem? (i := 154) rfl) rfl
theorem w4_155 : (Cond.methodLink "FarEditors$Weaver" (71 : Nat) yX7_letterAt) ∈ WB := tb_4 (List.mem_of_getElem? (i := 155) rfl) rfl
theorem w4_156 : (Cond.instanceMethod yX7_letterAt) ∈ WB := tb_4 (List.mem_of_getElem? (i := 156) rfl) rfl
theorem w4_157 : (Cond.selects "FarEditors$Text" yX7_letterAt yX7_letterAt) ∈ WB := tb_4 (List.mem_of_getElem? (i := 157) rfl) rfl
theorem w4_158 : (Cond.code yX7_letterAt prog_9_method_5_code (2 : Nat) (Option.some Jvm.ClassFile.FieldType.int)) ∈ WB := tb_4 (List.mem_of_getElem? (i := 158) rfl) rfl
theorem w4_159 : (Cond.methodLink "FarEditors$World" (148 : Nat) yX10_makeEdit) ∈ WB := tb_4 (List.mem_of_getElem? (i := 159) rfl) rfl
theorem w4_161 : (Cond.instanceMethod yX10_makeEdit) ∈ WB := tb_4 (List.mem_of_getElem? (i := 161) rfl) rfl
theorem w4_162 : (Cond.code yX10_makeEdit prog_12_method_17_code (3 : Nat) (Option.none : Option Jvm.ClassFile.FieldType)) ∈ WB := tb_4 (List.mem_of_getElem? (i := 162) rfl) rfl
theorem w4_163 : (Cond.methodLink "FarEditors$World" (173 : Nat) yX1_send) ∈ WB := tb_4 (List.mem_of_getElem? (i := 163) rfl) rfl
theorem w4_164 : (Cond.methodLink "FarEditors$World" (182 : Nat) yX9_compose) ∈ WB := tb_4 (List.mem_of_getElem? (i := 164) rfl) rfl
theorem w4_165 : (Cond.instanceMethod yX9_compose) ∈ WB := tb_4 (List.mem_of_getElem? (i := 165) rfl) rfl
theorem w4_166 : (Cond.selects "FarEditors$Weaver" yX9_compose yX9_compose) ∈ WB := tb_4 (List.mem_of_getElem? (i := 166) rfl) rfl
theorem w4_167 : (Cond.code yX9_compose prog_11_method_3_code (5 : Nat) (Option.none : Option Jvm.ClassFile.FieldType)) ∈ WB := tb_4 (List.mem_of_getElem? (i := 167) rfl) rfl
theorem w4_168 : (Cond.methodLink "FarEditors$Weaver" (98 : Nat) yX9_composeCommon) ∈ WB := tb_4 (List.mem_of_getElem? (i := 168) rfl) rfl
theorem w4_170 : (Cond.instanceMethod yX9_composeCommon) ∈ WB := tb_4 (List.mem_of_getElem? (i := 170) rfl) rfl
theorem w4_171 : (Cond.code yX9_composeCommon prog_11_method_4_code (3 : Nat) (Option.none : Option Jvm.ClassFile.FieldType)) ∈ WB := tb_4 (List.mem_of_getElem? (i := 171) rfl) rfl
theorem w4_172 : (Cond.methodLink "FarEditors" (350 : Nat) yX10_canPlace) ∈ WB := tb_4 (List.mem_of_getElem? (i := 172) rfl) rfl
theorem w4_173 : (Cond.instanceMethod yX10_canPlace) ∈ WB := tb_4 (List.mem_of_getElem? (i := 173) rfl) rfl
theorem w4_174 : (Cond.selects "FarEditors$World" yX10_canPlace yX10_canPlace) ∈ WB := tb_4 (List.mem_of_getElem? (i := 174) rfl) rfl
theorem w4_175 : (Cond.code yX10_canPlace prog_12_method_11_code (3 : Nat) (Option.some Jvm.ClassFile.FieldType.boolean)) ∈ WB := tb_4 (List.mem_of_getElem? (i := 175) rfl) rfl
theorem w4_176 : (Cond.methodLink "FarEditors" (357 : Nat) yX10_canMark) ∈ WB := tb_4 (List.mem_of_getElem? (i := 176) rfl) rfl
theorem w4_177 : (Cond.instanceMethod yX10_canMark) ∈ WB := tb_4 (List.mem_of_getElem? (i := 177) rfl) rfl
theorem w4_178 : (Cond.selects "FarEditors$World" yX10_canMark yX10_canMark) ∈ WB := tb_4 (List.mem_of_getElem? (i := 178) rfl) rfl
theorem w4_179 : (Cond.code yX10_canMark prog_12_method_12_code (5 : Nat) (Option.some Jvm.ClassFile.FieldType.boolean)) ∈ WB := tb_4 (List.mem_of_getElem? (i := 179) rfl) rfl
theorem w4_180 : (Cond.methodLink "FarEditors$World" (104 : Nat) yX10_canPlace) ∈ WB := tb_4 (List.mem_of_getElem? (i := 180) rfl) rfl
theorem w4_181 : (Cond.methodLink "FarEditors" (361 : Nat) yX1_addMark) ∈ WB := tb_4 (List.mem_of_getElem? (i := 181) rfl) rfl
theorem w4_182 : (Cond.instanceMethod yX1_addMark) ∈ WB := tb_4 (List.mem_of_getElem? (i := 182) rfl) rfl
theorem w4_183 : (Cond.selects "FarEditors$Editor" yX1_addMark yX1_addMark) ∈ WB := tb_4 (List.mem_of_getElem? (i := 183) rfl) rfl
theorem w4_184 : (Cond.code yX1_addMark prog_3_method_6_code (5 : Nat) (Option.some Jvm.ClassFile.FieldType.int)) ∈ WB := tb_4 (List.mem_of_getElem? (i := 184) rfl) rfl
theorem w4_185 : (Cond.arrayClass Jvm.ClassFile.FieldType.byte) ∈ WB := tb_4 (List.mem_of_getElem? (i := 185) rfl) rfl
theorem w4_186 : (Cond.methodLink "FarEditorsLaw" (28 : Nat) yX11_fault) ∈ WB := tb_4 (List.mem_of_getElem? (i := 186) rfl) rfl
theorem w4_187 : (Cond.instanceMethod yX11_fault) ∈ WB := tb_4 (List.mem_of_getElem? (i := 187) rfl) rfl
theorem w4_188 : (Cond.selects "FarEditors" yX11_fault yX11_fault) ∈ WB := tb_4 (List.mem_of_getElem? (i := 188) rfl) rfl
theorem w4_189 : (Cond.code yX11_fault prog_1_method_5_code (2 : Nat) (Option.some Jvm.ClassFile.FieldType.int)) ∈ WB := tb_4 (List.mem_of_getElem? (i := 189) rfl) rfl
theorem w4_190 : (Cond.methodLink "FarEditorsLaw" (33 : Nat) yX11_has) ∈ WB := tb_4 (List.mem_of_getElem? (i := 190) rfl) rfl
theorem w4_191 : (Cond.instanceMethod yX11_has) ∈ WB := tb_4 (List.mem_of_getElem? (i := 191) rfl) rfl
theorem w4_192 : (Cond.selects "FarEditors" yX11_has yX11_has) ∈ WB := tb_4 (List.mem_of_getElem? (i := 192) rfl) rfl
theorem w4_193 : (Cond.code yX11_has prog_1_method_6_code (2 : Nat) (Option.some Jvm.ClassFile.FieldType.int)) ∈ WB := tb_4 (List.mem_of_getElem? (i := 193) rfl) rfl
theorem w4_194 : (Cond.methodLink "FarEditors" (143 : Nat) yX10_onTheirWay) ∈ WB := tb_4 (List.mem_of_getElem? (i := 194) rfl) rfl
theorem w4_195 : (Cond.instanceMethod yX10_onTheirWay) ∈ WB := tb_4 (List.mem_of_getElem? (i := 195) rfl) rfl
theorem w4_196 : (Cond.selects "FarEditors$World" yX10_onTheirWay yX10_onTheirWay) ∈ WB := tb_4 (List.mem_of_getElem? (i := 196) rfl) rfl
theorem w4_197 : (Cond.code yX10_onTheirWay prog_12_method_6_code (3 : Nat) (Option.some Jvm.ClassFile.FieldType.int)) ∈ WB := tb_4 (List.mem_of_getElem? (i := 197) rfl) rfl
theorem w4_198 : (Cond.methodLink "FarEditorsLaw" (37 : Nat) yX11_editor) ∈ WB := tb_4 (List.mem_of_getElem? (i := 198) rfl) rfl
theorem w4_199 : (Cond.instanceMethod yX11_editor) ∈ WB := tb_4 (List.mem_of_getElem? (i := 199) rfl) rfl
theorem w4_200 : (Cond.selects "FarEditors" yX11_editor yX11_editor) ∈ WB := tb_4 (List.mem_of_getElem? (i := 200) rfl) rfl
theorem w4_201 : (Cond.code yX11_editor prog_1_method_7_code (4 : Nat) (Option.some Jvm.ClassFile.FieldType.int)) ∈ WB := tb_4 (List.mem_of_getElem? (i := 201) rfl) rfl
theorem w4_202 : (Cond.methodLink "FarEditorsLaw" (42 : Nat) yX11_letter) ∈ WB := tb_4 (List.mem_of_getElem? (i := 202) rfl) rfl
theorem w4_203 : (Cond.instanceMethod yX11_letter) ∈ WB := tb_4 (List.mem_of_getElem? (i := 203) rfl) rfl
theorem w4_204 : (Cond.selects "FarEditors" yX11_letter yX11_letter) ∈ WB := tb_4 (List.mem_of_getElem? (i := 204) rfl) rfl
theorem w4_205 : (Cond.code yX11_letter prog_1_method_8_code (3 : Nat) (Option.some Jvm.ClassFile.FieldType.int)) ∈ WB := tb_4 (List.mem_of_getElem? (i := 205) rfl) rfl
theorem w4_206 : (Cond.methodLink "FarEditors" (201 : Nat) yX7_ask) ∈ WB := tb_4 (List.mem_of_getElem? (i := 206) rfl) rfl
theorem w4_207 : (Cond.instanceMethod yX7_ask) ∈ WB := tb_4 (List.mem_of_getElem? (i := 207) rfl) rfl
theorem w4_208 : (Cond.selects "FarEditors$Text" yX7_ask yX7_ask) ∈ WB := tb_4 (List.mem_of_getElem? (i := 208) rfl) rfl
theorem w4_209 : (Cond.code yX7_ask prog_9_method_7_code (2 : Nat) (Option.some Jvm.ClassFile.FieldType.int)) ∈ WB := tb_4 (List.mem_of_getElem? (i := 209) rfl) rfl
theorem w4_210 : (Cond.methodLink "FarEditors$Text" (35 : Nat) yX7_letterAt) ∈ WB := tb_4 (List.mem_of_getElem? (i := 210) rfl) rfl
theorem w4_211 : (Cond.methodLink "FarEditorsLaw" (46 : Nat) yX11_step) ∈ WB := tb_4 (List.mem_of_getElem? (i := 211) rfl) rfl
theorem w4_212 : (Cond.instanceMethod yX11_step) ∈ WB := tb_4 (List.mem_of_getElem? (i := 212) rfl) rfl
theorem w4_213 : (Cond.selects "FarEditors" yX11_step yX11_step) ∈ WB := tb_4 (List.mem_of_getElem? (i := 213) rfl) rfl
theorem w4_214 : (Cond.code yX11_step prog_1_method_9_code (6 : Nat) (Option.some Jvm.ClassFile.FieldType.int)) ∈ WB := tb_4 (List.mem_of_getElem? (i := 214) rfl) rfl
theorem w4_215 : (Cond.methodLink "FarEditors" (207 : Nat) yX4_ask) ∈ WB := tb_4 (List.mem_of_getElem? (i := 215) rfl) rfl
theorem w4_216 : (Cond.instanceMethod yX4_ask) ∈ WB := tb_4 (List.mem_of_getElem? (i := 216) rfl) rfl
theorem w4_217 : (Cond.selects "FarEditors$Op" yX4_ask yX4_ask) ∈ WB := tb_4 (List.mem_of_getElem? (i := 217) rfl) rfl
theorem w4_218 : (Cond.code yX4_ask prog_6_method_18_code (5 : Nat) (Option.some Jvm.ClassFile.FieldType.int)) ∈ WB := tb_4 (List.mem_of_getElem? (i := 218) rfl) rfl
theorem w4_219 : (Cond.methodLink "FarEditors$Op" (51 : Nat) yX4_findStep) ∈ WB := tb_4 (List.mem_of_getElem? (i := 219) rfl) rfl
theorem w4_221 : (Cond.instanceMethod yX4_findStep) ∈ WB := tb_4 (List.mem_of_getElem? (i := 221) rfl) rfl
theorem w4_222 : (Cond.code yX4_findStep prog_6_method_16_code (4 : Nat) (Option.some Jvm.ClassFile.FieldType.int)) ∈ WB := tb_4 (List.mem_of_getElem? (i := 222) rfl) rfl
theorem w4_223 : (Cond.methodLink "FarEditors$Op" (48 : Nat) yX4_beginsStep) ∈ WB := tb_4 (List.mem_of_getElem? (i := 223) rfl) rfl
theorem w4_225 : (Cond.instanceMethod yX4_beginsStep) ∈ WB := tb_4 (List.mem_of_getElem? (i := 225) rfl) rfl
theorem w4_226 : (Cond.code yX4_beginsStep prog_6_method_14_code (2 : Nat) (Option.some Jvm.ClassFile.FieldType.boolean)) ∈ WB := tb_4 (List.mem_of_getElem? (i := 226) rfl) rfl
theorem w4_227 : (Cond.methodLink "FarEditors$Op" (55 : Nat) yX4_endOfStep) ∈ WB := tb_4 (List.mem_of_getElem? (i := 227) rfl) rfl
theorem w4_229 : (Cond.instanceMethod yX4_endOfStep) ∈ WB := tb_4 (List.mem_of_getElem? (i := 229) rfl) rfl
theorem w4_230 : (Cond.code yX4_endOfStep prog_6_method_17_code (3 : Nat) (Option.some Jvm.ClassFile.FieldType.int)) ∈ WB := tb_4 (List.mem_of_getElem? (i := 230) rfl) rfl
theorem w4_231 : (Cond.methodLink "FarEditors$Op" (58 : Nat) yX4_askPut) ∈ WB := tb_4 (List.mem_of_getElem? (i := 231) rfl) rfl
theorem w4_233 : (Cond.instanceMethod yX4_askPut) ∈ WB := tb_4 (List.mem_of_getElem? (i := 233) rfl) rfl
theorem w4_234 : (Cond.code yX4_askPut prog_6_method_19_code (4 : Nat) (Option.some Jvm.ClassFile.FieldType.int)) ∈ WB := tb_4 (List.mem_of_getElem? (i := 234) rfl) rfl
theorem w4_235 : (Cond.methodLink "FarEditors" (213 : Nat) yX3_askLatest) ∈ WB := tb_4 (List.mem_of_getElem? (i := 235) rfl) rfl
theorem w4_236 : (Cond.instanceMethod yX3_askLatest) ∈ WB := tb_4 (List.mem_of_getElem? (i := 236) rfl) rfl
theorem w4_237 : (Cond.selects "FarEditors$Inverses" yX3_askLatest yX3_askLatest) ∈ WB := tb_4 (List.mem_of_getElem? (i := 237) rfl) rfl
theorem w4_238 : (Cond.code yX3_askLatest prog_5_method_5_code (3 : Nat) (Option.some Jvm.ClassFile.FieldType.int)) ∈ WB := tb_4 (List.mem_of_getElem? (i := 238) rfl) rfl
theorem w4_239 : (Cond.methodLink "FarEditors$Inverses" (30 : Nat) yX4_ask) ∈ WB := tb_4 (List.mem_of_getElem? (i := 239) rfl) rfl
theorem w5_0 : (Cond.methodLink "FarEditorsLaw" (51 : Nat) yX11_row) ∈ WB := tb_5 (List.mem_of_getElem? (i := 0) rfl) rfl
theorem w5_1 : (Cond.instanceMethod yX11_row) ∈ WB := tb_5 (List.mem_of_getElem? (i := 1) rfl) rfl
theorem w5_2 : (Cond.selects "FarEditors" yX11_row yX11_row) ∈ WB := tb_5 (List.mem_of_getElem? (i := 2) rfl) rfl
theorem w5_3 : (Cond.code yX11_row prog_1_method_10_code (5 : Nat) (Option.some Jvm.ClassFile.FieldType.int)) ∈ WB := tb_5 (List.mem_of_getElem? (i := 3) rfl) rfl
theorem w5_4 : (Cond.methodLink "FarEditors" (216 : Nat) yX11_isTaken) ∈ WB := tb_5 (List.mem_of_getElem? (i := 4) rfl) rfl
theorem w5_6 : (Cond.instanceMethod yX11_isTaken) ∈ WB := tb_5 (List.mem_of_getElem? (i := 6) rfl) rfl
theorem w5_7 : (Cond.code yX11_isTaken prog_1_method_43_code (2 : Nat) (Option.some Jvm.ClassFile.FieldType.boolean)) ∈ WB := tb_5 (List.mem_of_getElem? (i := 7) rfl) rfl
theorem w5_8 : (Cond.methodLink "FarEditors" (225 : Nat) yX4_countSteps) ∈ WB := tb_5 (List.mem_of_getElem? (i := 8) rfl) rfl
theorem w5_9 : (Cond.instanceMethod yX4_countSteps) ∈ WB := tb_5 (List.mem_of_getElem? (i := 9) rfl) rfl
theorem w5_10 : (Cond.selects "FarEditors$Op" yX4_countSteps yX4_countSteps) ∈ WB := tb_5 (List.mem_of_getElem? (i := 10) rfl) rfl
theorem w5_11 : (Cond.code yX4_countSteps prog_6_method_15_code (3 : Nat) (Option.some Jvm.ClassFile.FieldType.int)) ∈ WB := tb_5 (List.mem_of_getElem? (i := 11) rfl) rfl
theorem w5_12 : (Cond.methodLink "FarEditorsLaw" (56 : Nat) yX11_mark) ∈ WB := tb_5 (List.mem_of_getElem? (i := 12) rfl) rfl
theorem w5_13 : (Cond.instanceMethod yX11_mark) ∈ WB := tb_5 (List.mem_of_getElem? (i := 13) rfl) rfl
theorem w5_14 : (Cond.selects "FarEditors" yX11_mark yX11_mark) ∈ WB := tb_5 (List.mem_of_getElem? (i := 14) rfl) rfl
theorem w5_15 : (Cond.code yX11_mark prog_1_method_11_code (5 : Nat) (Option.some Jvm.ClassFile.FieldType.int)) ∈ WB := tb_5 (List.mem_of_getElem? (i := 15) rfl) rfl
theorem w5_16 : (Cond.methodLink "FarEditors" (228 : Nat) yX1_hasMark) ∈ WB := tb_5 (List.mem_of_getElem? (i := 16) rfl) rfl
theorem w5_17 : (Cond.instanceMethod yX1_hasMark) ∈ WB := tb_5 (List.mem_of_getElem? (i := 17) rfl) rfl
theorem w5_18 : (Cond.selects "FarEditors$Editor" yX1_hasMark yX1_hasMark) ∈ WB := tb_5 (List.mem_of_getElem? (i := 18) rfl) rfl
theorem w5_19 : (Cond.code yX1_hasMark prog_3_method_5_code (2 : Nat) (Option.some Jvm.ClassFile.FieldType.boolean)) ∈ WB := tb_5 (List.mem_of_getElem? (i := 19) rfl) rfl
theorem w5_20 : (Cond.methodLink "FarEditorsLaw" (60 : Nat) yX11_was) ∈ WB := tb_5 (List.mem_of_getElem? (i := 20) rfl) rfl
theorem w5_21 : (Cond.instanceMethod yX11_was) ∈ WB := tb_5 (List.mem_of_getElem? (i := 21) rfl) rfl
theorem w5_22 : (Cond.selects "FarEditors" yX11_was yX11_was) ∈ WB := tb_5 (List.mem_of_getElem? (i := 22) rfl) rfl
theorem w5_23 : (Cond.code yX11_was prog_1_method_12_code (3 : Nat) (Option.some Jvm.ClassFile.FieldType.int)) ∈ WB := tb_5 (List.mem_of_getElem? (i := 23) rfl) rfl
theorem w5_24 : (Cond.methodLink "FarEditors" (234 : Nat) yX11_replay) ∈ WB := tb_5 (List.mem_of_getElem? (i := 24) rfl) rfl
theorem w5_26 : (Cond.instanceMethod yX11_replay) ∈ WB := tb_5 (List.mem_of_getElem? (i := 26) rfl) rfl
theorem w5_27 : (Cond.code yX11_replay prog_1_method_45_code (3 : Nat) (Option.none : Option Jvm.ClassFile.FieldType)) ∈ WB := tb_5 (List.mem_of_getElem? (i := 27) rfl) rfl
theorem w5_28 : (Cond.methodLink "FarEditors" (272 : Nat) yX7_copy) ∈ WB := tb_5 (List.mem_of_getElem? (i := 28) rfl) rfl
theorem w5_29 : (Cond.methodLink "FarEditors" (275 : Nat) yX9_change) ∈ WB := tb_5 (List.mem_of_getElem? (i := 29) rfl) rfl
theorem w5_30 : (Cond.methodLink "FarEditorsLaw" (64 : Nat) yX11_by) ∈ WB := tb_5 (List.mem_of_getElem? (i := 30) rfl) rfl
theorem w5_31 : (Cond.instanceMethod yX11_by) ∈ WB := tb_5 (List.mem_of_getElem? (i := 31) rfl) rfl
theorem w5_32 : (Cond.selects "FarEditors" yX11_by yX11_by) ∈ WB := tb_5 (List.mem_of_getElem? (i := 32) rfl) rfl
theorem w5_33 : (Cond.code yX11_by prog_1_method_13_code (4 : Nat) (Option.some Jvm.ClassFile.FieldType.int)) ∈ WB := tb_5 (List.mem_of_getElem? (i := 33) rfl) rfl
theorem w5_34 : (Cond.methodLink "FarEditors" (237 : Nat) yX7_hasPlace) ∈ WB := tb_5 (List.mem_of_getElem? (i := 34) rfl) rfl
theorem w5_35 : (Cond.methodLink "FarEditors" (240 : Nat) yX7_writerOf) ∈ WB := tb_5 (List.mem_of_getElem? (i := 35) rfl) rfl
theorem w5_36 : (Cond.methodLink "FarEditors" (243 : Nat) yX10_ownerOf) ∈ WB := tb_5 (List.mem_of_getElem? (i := 36) rfl) rfl
theorem w5_37 : (Cond.methodLink "FarEditorsLaw" (68 : Nat) yX11_share) ∈ WB := tb_5 (List.mem_of_getElem? (i := 37) rfl) rfl
theorem w5_38 : (Cond.instanceMethod yX11_share) ∈ WB := tb_5 (List.mem_of_getElem? (i := 38) rfl) rfl
theorem w5_39 : (Cond.selects "FarEditors" yX11_share yX11_share) ∈ WB := tb_5 (List.mem_of_getElem? (i := 39) rfl) rfl
theorem w5_40 : (Cond.code yX11_share prog_1_method_14_code (3 : Nat) (Option.some Jvm.ClassFile.FieldType.int)) ∈ WB := tb_5 (List.mem_of_getElem? (i := 40) rfl) rfl
theorem w5_41 : (Cond.methodLink "FarEditors" (246 : Nat) yX10_countLettersBy) ∈ WB := tb_5 (List.mem_of_getElem? (i := 41) rfl) rfl
theorem w5_42 : (Cond.instanceMethod yX10_countLettersBy) ∈ WB := tb_5 (List.mem_of_getElem? (i := 42) rfl) rfl
theorem w5_43 : (Cond.selects "FarEditors$World" yX10_countLettersBy yX10_countLettersBy) ∈ WB := tb_5 (List.mem_of_getElem? (i := 43) rfl) rfl
theorem w5_44 : (Cond.code yX10_countLettersBy prog_12_method_8_code (4 : Nat) (Option.some Jvm.ClassFile.FieldType.int)) ∈ WB := tb_5 (List.mem_of_getElem? (i := 44) rfl) rfl
theorem w5_45 : (Cond.methodLink "FarEditorsLaw" (72 : Nat) yX11_together) ∈ WB := tb_5 (List.mem_of_getElem? (i := 45) rfl) rfl
theorem w5_46 : (Cond.instanceMethod yX11_together) ∈ WB := tb_5 (List.mem_of_getElem? (i := 46) rfl) rfl
theorem w5_47 : (Cond.selects "FarEditors" yX11_together yX11_together) ∈ WB := tb_5 (List.mem_of_getElem? (i := 47) rfl) rfl
theorem w5_48 : (Cond.code yX11_together prog_1_method_15_code (6 : Nat) (Option.some Jvm.ClassFile.FieldType.int)) ∈ WB := tb_5 (List.mem_of_getElem? (i := 48) rfl) rfl
theorem w5_49 : (Cond.methodLink "FarEditors" (252 : Nat) yX4_copy) ∈ WB := tb_5 (List.mem_of_getElem? (i := 49) rfl) rfl
theorem w5_50 : (Cond.methodLink "FarEditors" (256 : Nat) yX9_compose) ∈ WB := tb_5 (List.mem_of_getElem? (i := 50) rfl) rfl
theorem w5_51 : (Cond.methodLink "FarEditorsLaw" (76 : Nat) yX11_without) ∈ WB := tb_5 (List.mem_of_getElem? (i := 51) rfl) rfl
theorem w5_52 : (Cond.instanceMethod yX11_without) ∈ WB := tb_5 (List.mem_of_getElem? (i := 52) rfl) rfl
theorem w5_53 : (Cond.selects "FarEditors" yX11_without yX11_without) ∈ WB := tb_5 (List.mem_of_getElem? (i := 53) rfl) rfl
theorem w5_54 : (Cond.code yX11_without prog_1_method_16_code (6 : Nat) (Option.some Jvm.ClassFile.FieldType.int)) ∈ WB := tb_5 (List.mem_of_getElem? (i := 54) rfl) rfl
theorem w5_55 : (Cond.methodLink "FarEditors" (260 : Nat) yX9_invert) ∈ WB := tb_5 (List.mem_of_getElem? (i := 55) rfl) rfl
theorem w5_56 : (Cond.methodLink "FarEditors" (264 : Nat) yX10_isAhead) ∈ WB := tb_5 (List.mem_of_getElem? (i := 56) rfl) rfl
theorem w5_57 : (Cond.methodLink "FarEditors" (268 : Nat) yX9_turn) ∈ WB := tb_5 (List.mem_of_getElem? (i := 57) rfl) rfl
theorem w5_58 : (Cond.methodLink "FarEditorsLaw" (80 : Nat) yX11_quiet) ∈ WB := tb_5 (List.mem_of_getElem? (i := 58) rfl) rfl
theorem w5_59 : (Cond.instanceMethod yX11_quiet) ∈ WB := tb_5 (List.mem_of_getElem? (i := 59) rfl) rfl
theorem w5_60 : (Cond.selects "FarEditors" yX11_quiet yX11_quiet) ∈ WB := tb_5 (List.mem_of_getElem? (i := 60) rfl) rfl
theorem w5_61 : (Cond.code yX11_quiet prog_1_method_17_code (2 : Nat) (Option.some Jvm.ClassFile.FieldType.int)) ∈ WB := tb_5 (List.mem_of_getElem? (i := 61) rfl) rfl
theorem w5_62 : (Cond.methodLink "FarEditors" (279 : Nat) yX10_copy) ∈ WB := tb_5 (List.mem_of_getElem? (i := 62) rfl) rfl
theorem w5_63 : (Cond.instanceMethod yX10_copy) ∈ WB := tb_5 (List.mem_of_getElem? (i := 63) rfl) rfl
theorem w5_64 : (Cond.selects "FarEditors$World" yX10_copy yX10_copy) ∈ WB := tb_5 (List.mem_of_getElem? (i := 64) rfl) rfl
theorem w5_65 : (Cond.code yX10_copy prog_12_method_3_code (4 : Nat) (Option.none : Option Jvm.ClassFile.FieldType)) ∈ WB := tb_5 (List.mem_of_getElem? (i := 65) rfl) rfl
theorem w5_66 : (Cond.methodLink "FarEditors$World" (78 : Nat) yX1_copyLine) ∈ WB := tb_5 (List.mem_of_getElem? (i := 66) rfl) rfl
theorem w5_67 : (Cond.instanceMethod yX1_copyLine) ∈ WB := tb_5 (List.mem_of_getElem? (i := 67) rfl) rfl
theorem w5_68 : (Cond.selects "FarEditors$Editor" yX1_copyLine yX1_copyLine) ∈ WB := tb_5 (List.mem_of_getElem? (i := 68) rfl) rfl
theorem w5_69 : (Cond.code yX1_copyLine prog_3_method_3_code (2 : Nat) (Option.none : Option Jvm.ClassFile.FieldType)) ∈ WB := tb_5 (List.mem_of_getElem? (i := 69) rfl) rfl
theorem w5_70 : (Cond.methodLink "FarEditors$Editor" (78 : Nat) yX4_copy) ∈ WB := tb_5 (List.mem_of_getElem? (i := 70) rfl) rfl
theorem w5_71 : (Cond.methodLink "FarEditors$Editor" (81 : Nat) (⟨"java/lang/System", "arraycopy", "(Ljava/lang/Object;ILjava/lang/Object;II)V"⟩ : MethodName)) ∈ WB := tb_5 (List.mem_of_getElem? (i := 71) rfl) rfl
theorem w5_72 : (Cond.methodLink "FarEditors$World" (82 : Nat) yX1_copyText) ∈ WB := tb_5 (List.mem_of_getElem? (i := 72) rfl) rfl
theorem w5_73 : (Cond.instanceMethod yX1_copyText) ∈ WB := tb_5 (List.mem_of_getElem? (i := 73) rfl) rfl
theorem w5_74 : (Cond.selects "FarEditors$Editor" yX1_copyText yX1_copyText) ∈ WB := tb_5 (List.mem_of_getElem? (i := 74) rfl) rfl
theorem w5_75 : (Cond.code yX1_copyText prog_3_method_4_code (2 : Nat) (Option.none : Option Jvm.ClassFile.FieldType)) ∈ WB := tb_5 (List.mem_of_getElem? (i := 75) rfl) rfl
theorem w5_76 : (Cond.methodLink "FarEditors$Editor" (87 : Nat) yX3_copy) ∈ WB := tb_5 (List.mem_of_getElem? (i := 76) rfl) rfl
theorem w5_77 : (Cond.instanceMethod yX3_copy) ∈ WB := tb_5 (List.mem_of_getElem? (i := 77) rfl) rfl
theorem w5_78 : (Cond.selects "FarEditors$Inverses" yX3_copy yX3_copy) ∈ WB := tb_5 (List.mem_of_getElem? (i := 78) rfl) rfl
theorem w5_79 : (Cond.code yX3_copy prog_5_method_2_code (3 : Nat) (Option.none : Option Jvm.ClassFile.FieldType)) ∈ WB := tb_5 (List.mem_of_getElem? (i := 79) rfl) rfl
theorem w5_80 : (Cond.methodLink "FarEditors$Inverses" (22 : Nat) yX4_copy) ∈ WB := tb_5 (List.mem_of_getElem? (i := 80) rfl) rfl
theorem w5_81 : (Cond.methodLink "FarEditorsLaw" (84 : Nat) yX11_later) ∈ WB := tb_5 (List.mem_of_getElem? (i := 81) rfl) rfl
theorem w5_82 : (Cond.instanceMethod yX11_later) ∈ WB := tb_5 (List.mem_of_getElem? (i := 82) rfl) rfl
theorem w5_83 : (Cond.selects "FarEditors" yX11_later yX11_later) ∈ WB := tb_5 (List.mem_of_getElem? (i := 83) rfl) rfl
theorem w5_84 : (Cond.code yX11_later prog_1_method_18_code (4 : Nat) (Option.some Jvm.ClassFile.FieldType.int)) ∈ WB := tb_5 (List.mem_of_getElem? (i := 84) rfl) rfl
theorem w5_85 : (Cond.methodLink "FarEditorsLaw" (88 : Nat) yX11_orders) ∈ WB := tb_5 (List.mem_of_getElem? (i := 85) rfl) rfl
theorem w5_86 : (Cond.instanceMethod yX11_orders) ∈ WB := tb_5 (List.mem_of_getElem? (i := 86) rfl) rfl
theorem w5_87 : (Cond.selects "FarEditors" yX11_orders yX11_orders) ∈ WB := tb_5 (List.mem_of_getElem? (i := 87) rfl) rfl
theorem w5_88 : (Cond.code yX11_orders prog_1_method_19_code (2 : Nat) (Option.some Jvm.ClassFile.FieldType.int)) ∈ WB := tb_5 (List.mem_of_getElem? (i := 88) rfl) rfl
theorem w5_89 : (Cond.methodLink "FarEditors" (285 : Nat) yX11_reckonEnds) ∈ WB := tb_5 (List.mem_of_getElem? (i := 89) rfl) rfl
theorem w5_91 : (Cond.instanceMethod yX11_reckonEnds) ∈ WB := tb_5 (List.mem_of_getElem? (i := 91) rfl) rfl
theorem w5_92 : (Cond.code yX11_reckonEnds prog_1_method_44_code (1 : Nat) (Option.none : Option Jvm.ClassFile.FieldType)) ∈ WB := tb_5 (List.mem_of_getElem? (i := 92) rfl) rfl
theorem w5_93 : (Cond.methodLink "FarEditors" (392 : Nat) yX0_reckon) ∈ WB := tb_5 (List.mem_of_getElem? (i := 93) rfl) rfl
theorem w5_94 : (Cond.instanceMethod yX0_reckon) ∈ WB := tb_5 (List.mem_of_getElem? (i := 94) rfl) rfl
theorem w5_95 : (Cond.selects "FarEditors$Comings" yX0_reckon yX0_reckon) ∈ WB := tb_5 (List.mem_of_getElem? (i := 95) rfl) rfl
theorem w5_96 : (Cond.code yX0_reckon prog_2_method_2_code (4 : Nat) (Option.none : Option Jvm.ClassFile.FieldType)) ∈ WB := tb_5 (List.mem_of_getElem? (i := 96) rfl) rfl
theorem w5_97 : (Cond.methodLink "FarEditors$Comings" (59 : Nat) yX10_copy) ∈ WB := tb_5 (List.mem_of_getElem? (i := 97) rfl) rfl
theorem w5_98 : (Cond.methodLink "FarEditors$Comings" (63 : Nat) yX0_takeInOrder) ∈ WB := tb_5 (List.mem_of_getElem? (i := 98) rfl) rfl
theorem w5_100 : (Cond.instanceMethod yX0_takeInOrder) ∈ WB := tb_5 (List.mem_of_getElem? (i := 100) rfl) rfl
theorem w5_101 : (Cond.code yX0_takeInOrder prog_2_method_3_code (7 : Nat) (Option.none : Option Jvm.ClassFile.FieldType)) ∈ WB := tb_5 (List.mem_of_getElem? (i := 101) rfl) rfl
theorem w5_102 : (Cond.methodLink "FarEditors$Comings" (74 : Nat) (⟨"java/lang/System", "arraycopy", "(Ljava/lang/Object;ILjava/lang/Object;II)V"⟩ : MethodName)) ∈ WB := tb_5 (List.mem_of_getElem? (i := 102) rfl) rfl
theorem w5_103 : (Cond.methodLink "FarEditors$Comings" (80 : Nat) yX10_takeFrom) ∈ WB := tb_5 (List.mem_of_getElem? (i := 103) rfl) rfl
theorem w5_104 : (Cond.methodLink "FarEditors$Comings" (71 : Nat) yX7_copy) ∈ WB := tb_5 (List.mem_of_getElem? (i := 104) rfl) rfl
theorem w5_105 : (Cond.methodLink "FarEditors" (289 : Nat) yX0_countUnlike) ∈ WB := tb_5 (List.mem_of_getElem? (i := 105) rfl) rfl
theorem w5_106 : (Cond.instanceMethod yX0_countUnlike) ∈ WB := tb_5 (List.mem_of_getElem? (i := 106) rfl) rfl
theorem w5_107 : (Cond.selects "FarEditors$Comings" yX0_countUnlike yX0_countUnlike) ∈ WB := tb_5 (List.mem_of_getElem? (i := 107) rfl) rfl
theorem w5_108 : (Cond.code yX0_countUnlike prog_2_method_4_code (5 : Nat) (Option.some Jvm.ClassFile.FieldType.int)) ∈ WB := tb_5 (List.mem_of_getElem? (i := 108) rfl) rfl
theorem w5_109 : (Cond.methodLink "FarEditors$Comings" (84 : Nat) yX7_isLike) ∈ WB := tb_5 (List.mem_of_getElem? (i := 109) rfl) rfl
theorem w5_110 : (Cond.instanceMethod yX7_isLike) ∈ WB := tb_5 (List.mem_of_getElem? (i := 110) rfl) rfl
theorem w5_111 : (Cond.selects "FarEditors$Text" yX7_isLike yX7_isLike) ∈ WB := tb_5 (List.mem_of_getElem? (i := 111) rfl) rfl
theorem w5_112 : (Cond.code yX7_isLike prog_9_method_8_code (4 : Nat) (Option.some Jvm.ClassFile.FieldType.boolean)) ∈ WB := tb_5 (List.mem_of_getElem? (i := 112) rfl) rfl
theorem w5_113 : (Cond.methodLink "FarEditorsLaw" (92 : Nat) yX11_ends) ∈ WB := tb_5 (List.mem_of_getElem? (i := 113) rfl) rfl
theorem w5_114 : (Cond.instanceMethod yX11_ends) ∈ WB := tb_5 (List.mem_of_getElem? (i := 114) rfl) rfl
theorem w5_115 : (Cond.selects "FarEditors" yX11_ends yX11_ends) ∈ WB := tb_5 (List.mem_of_getElem? (i := 115) rfl) rfl
theorem w5_116 : (Cond.code yX11_ends prog_1_method_20_code (3 : Nat) (Option.some Jvm.ClassFile.FieldType.int)) ∈ WB := tb_5 (List.mem_of_getElem? (i := 116) rfl) rfl
theorem w5_117 : (Cond.methodLink "FarEditorsLaw" (96 : Nat) yX11_see) ∈ WB := tb_5 (List.mem_of_getElem? (i := 117) rfl) rfl
theorem w5_118 : (Cond.instanceMethod yX11_see) ∈ WB := tb_5 (List.mem_of_getElem? (i := 118) rfl) rfl
theorem w5_119 : (Cond.selects "FarEditors" yX11_see yX11_see) ∈ WB := tb_5 (List.mem_of_getElem? (i := 119) rfl) rfl
theorem w5_120 : (Cond.code yX11_see prog_1_method_21_code (2 : Nat) (Option.some Jvm.ClassFile.FieldType.int)) ∈ WB := tb_5 (List.mem_of_getElem? (i := 120) rfl) rfl
theorem w5_121 : (Cond.methodLink "FarEditors" (299 : Nat) yX0_canSee) ∈ WB := tb_5 (List.mem_of_getElem? (i := 121) rfl) rfl
theorem w5_122 : (Cond.instanceMethod yX0_canSee) ∈ WB := tb_5 (List.mem_of_getElem? (i := 122) rfl) rfl
theorem w5_123 : (Cond.selects "FarEditors$Comings" yX0_canSee yX0_canSee) ∈ WB := tb_5 (List.mem_of_getElem? (i := 123) rfl) rfl
theorem w5_124 : (Cond.code yX0_canSee prog_2_method_5_code (4 : Nat) (Option.some Jvm.ClassFile.FieldType.boolean)) ∈ WB := tb_5 (List.mem_of_getElem? (i := 124) rfl) rfl
theorem w5_125 : (Cond.methodLink "FarEditors" (303 : Nat) yX0_setSeen) ∈ WB := tb_5 (List.mem_of_getElem? (i := 125) rfl) rfl
theorem w5_126 : (Cond.instanceMethod yX0_setSeen) ∈ WB := tb_5 (List.mem_of_getElem? (i := 126) rfl) rfl
theorem w5_127 : (Cond.selects "FarEditors$Comings" yX0_setSeen yX0_setSeen) ∈ WB := tb_5 (List.mem_of_getElem? (i := 127) rfl) rfl
theorem w5_128 : (Cond.code yX0_setSeen prog_2_method_6_code (4 : Nat) (Option.none : Option Jvm.ClassFile.FieldType)) ∈ WB := tb_5 (List.mem_of_getElem? (i := 128) rfl) rfl
theorem w5_129 : (Cond.methodLink "FarEditors$Comings" (88 : Nat) (⟨"java/lang/Math", "min", "(II)I"⟩ : MethodName)) ∈ WB := tb_5 (List.mem_of_getElem? (i := 129) rfl) rfl
theorem w5_130 : (Cond.methodLink "FarEditorsLaw" (100 : Nat) yX11_fits) ∈ WB := tb_5 (List.mem_of_getElem? (i := 130) rfl) rfl
theorem w5_131 : (Cond.instanceMethod yX11_fits) ∈ WB := tb_5 (List.mem_of_getElem? (i := 131) rfl) rfl
theorem w5_132 : (Cond.selects "FarEditors" yX11_fits yX11_fits) ∈ WB := tb_5 (List.mem_of_getElem? (i := 132) rfl) rfl
theorem w5_133 : (Cond.code yX11_fits prog_1_method_22_code (2 : Nat) (Option.some Jvm.ClassFile.FieldType.int)) ∈ WB := tb_5 (List.mem_of_getElem? (i := 133) rfl) rfl
theorem w5_134 : (Cond.methodLink "FarEditors" (307 : Nat) yX0_countFits) ∈ WB := tb_5 (List.mem_of_getElem? (i := 134) rfl) rfl
theorem w5_135 : (Cond.instanceMethod yX0_countFits) ∈ WB := tb_5 (List.mem_of_getElem? (i := 135) rfl) rfl
theorem w5_136 : (Cond.selects "FarEditors$Comings" yX0_countFits yX0_countFits) ∈ WB := tb_5 (List.mem_of_getElem? (i := 136) rfl) rfl
theorem w5_137 : (Cond.code yX0_countFits prog_2_method_8_code (3 : Nat) (Option.some Jvm.ClassFile.FieldType.int)) ∈ WB := tb_5 (List.mem_of_getElem? (i := 137) rfl) rfl
theorem w5_138 : (Cond.methodLink "FarEditors$Comings" (98 : Nat) yX0_isFit) ∈ WB := tb_5 (List.mem_of_getElem? (i := 138) rfl) rfl
theorem w5_140 : (Cond.instanceMethod yX0_isFit) ∈ WB := tb_5 (List.mem_of_getElem? (i := 140) rfl) rfl
theorem w5_141 : (Cond.code yX0_isFit prog_2_method_7_code (3 : Nat) (Option.some Jvm.ClassFile.FieldType.boolean)) ∈ WB := tb_5 (List.mem_of_getElem? (i := 141) rfl) rfl
theorem w5_142 : (Cond.methodLink "FarEditors$Comings" (94 : Nat) yX7_letterAt) ∈ WB := tb_5 (List.mem_of_getElem? (i := 142) rfl) rfl
theorem w5_143 : (Cond.methodLink "FarEditors" (310 : Nat) yX0_findFit) ∈ WB := tb_5 (List.mem_of_getElem? (i := 143) rfl) rfl
theorem w5_144 : (Cond.instanceMethod yX0_findFit) ∈ WB := tb_5 (List.mem_of_getElem? (i := 144) rfl) rfl
theorem w5_145 : (Cond.selects "FarEditors$Comings" yX0_findFit yX0_findFit) ∈ WB := tb_5 (List.mem_of_getElem? (i := 145) rfl) rfl
theorem w5_146 : (Cond.code yX0_findFit prog_2_method_9_code (4 : Nat) (Option.some Jvm.ClassFile.FieldType.int)) ∈ WB := tb_5 (List.mem_of_getElem? (i := 146) rfl) rfl
theorem w5_147 : (Cond.methodLink "FarEditorsLaw" (104 : Nat) yX11_tells) ∈ WB := tb_5 (List.mem_of_getElem? (i := 147) rfl) rfl
theorem w5_148 : (Cond.instanceMethod yX11_tells) ∈ WB := tb_5 (List.mem_of_getElem? (i := 148) rfl) rfl
theorem w5_149 : (Cond.selects "FarEditors" yX11_tells yX11_tells) ∈ WB := tb_5 (List.mem_of_getElem? (i := 149) rfl) rfl
theorem w5_150 : (Cond.code yX11_tells prog_1_method_23_code (3 : Nat) (Option.some Jvm.ClassFile.FieldType.int)) ∈ WB := tb_5 (List.mem_of_getElem? (i := 150) rfl) rfl
theorem w5_151 : (Cond.methodLink "FarEditors" (313 : Nat) yX0_findTelling) ∈ WB := tb_5 (List.mem_of_getElem? (i := 151) rfl) rfl
theorem w5_152 : (Cond.instanceMethod yX0_findTelling) ∈ WB := tb_5 (List.mem_of_getElem? (i := 152) rfl) rfl
theorem w5_153 : (Cond.selects "FarEditors$Comings" yX0_findTelling yX0_findTelling) ∈ WB := tb_5 (List.mem_of_getElem? (i := 153) rfl) rfl
theorem w5_154 : (Cond.code yX0_findTelling prog_2_method_10_code (5 : Nat) (Option.some Jvm.ClassFile.FieldType.int)) ∈ WB := tb_5 (List.mem_of_getElem? (i := 154) rfl) rfl
theorem w5_155 : (Cond.methodLink "FarEditors$Comings" (102 : Nat) yX0_countMostLeft) ∈ WB := tb_5 (List.mem_of_getElem? (i := 155) rfl) rfl
theorem w5_156 : (Cond.instanceMethod yX0_countMostLeft) ∈ WB := tb_5 (List.mem_of_getElem? (i := 156) rfl) rfl
theorem w5_157 : (Cond.selects "FarEditors$Comings" yX0_countMostLeft yX0_countMostLeft) ∈ WB := tb_5 (List.mem_of_getElem? (i := 157) rfl) rfl
theorem w5_158 : (Cond.code yX0_countMostLeft prog_2_method_11_code (5 : Nat) (Option.some Jvm.ClassFile.FieldType.int)) ∈ WB := tb_5 (List.mem_of_getElem? (i := 158) rfl) rfl
theorem w5_159 : (Cond.methodLink "FarEditors$Comings" (105 : Nat) (⟨"java/util/Arrays", "fill", "([II)V"⟩ : MethodName)) ∈ WB := tb_5 (List.mem_of_getElem? (i := 159) rfl) rfl
theorem w5_160 : (Cond.static (⟨"java/util/Arrays", "fill", "([II)V"⟩ : MethodName)) ∈ WB := tb_5 (List.mem_of_getElem? (i := 160) rfl) rfl
theorem w5_161 : (Cond.code (⟨"java/util/Arrays", "fill", "([II)V"⟩ : MethodName) prog_20_method_103_code (4 : Nat) (Option.none : Option Jvm.ClassFile.FieldType)) ∈ WB := tb_5 (List.mem_of_getElem? (i := 161) rfl) rfl
theorem w5_162 : (Cond.methodLink "FarEditors$Comings" (111 : Nat) (⟨"java/lang/Math", "max", "(II)I"⟩ : MethodName)) ∈ WB := tb_5 (List.mem_of_getElem? (i := 162) rfl) rfl
theorem w5_163 : (Cond.methodLink "FarEditors" (316 : Nat) yX0_countMostLeft) ∈ WB := tb_5 (List.mem_of_getElem? (i := 163) rfl) rfl
theorem w5_164 : (Cond.methodLink "FarEditorsLaw" (108 : Nat) yX11_edit) ∈ WB := tb_5 (List.mem_of_getElem? (i := 164) rfl) rfl
theorem w5_165 : (Cond.instanceMethod yX11_edit) ∈ WB := tb_5 (List.mem_of_getElem? (i := 165) rfl) rfl
theorem w5_166 : (Cond.selects "FarEditors" yX11_edit yX11_edit) ∈ WB := tb_5 (List.mem_of_getElem? (i := 166) rfl) rfl
theorem w5_167 : (Cond.code yX11_edit prog_1_method_24_code (4 : Nat) (Option.some Jvm.ClassFile.FieldType.int)) ∈ WB := tb_5 (List.mem_of_getElem? (i := 167) rfl) rfl
theorem w5_168 : (Cond.methodLink "FarEditors" (319 : Nat) yX8_readOp) ∈ WB := tb_5 (List.mem_of_getElem? (i := 168) rfl) rfl
theorem w5_169 : (Cond.instanceMethod yX8_readOp) ∈ WB := tb_5 (List.mem_of_getElem? (i := 169) rfl) rfl
theorem w5_170 : (Cond.selects "FarEditors$Told" yX8_readOp yX8_readOp) ∈ WB := tb_5 (List.mem_of_getElem? (i := 170) rfl) rfl
theorem w5_171 : (Cond.code yX8_readOp prog_10_method_6_code (1 : Nat) (Option.some Jvm.ClassFile.FieldType.boolean)) ∈ WB := tb_5 (List.mem_of_getElem? (i := 171) rfl) rfl
theorem w5_172 : (Cond.methodLink "FarEditors" (332 : Nat) yX11_editWithOp) ∈ WB := tb_5 (List.mem_of_getElem? (i := 172) rfl) rfl
theorem w5_174 : (Cond.instanceMethod yX11_editWithOp) ∈ WB := tb_5 (List.mem_of_getElem? (i := 174) rfl) rfl
theorem w5_175 : (Cond.code yX11_editWithOp prog_1_method_50_code (2 : Nat) (Option.some Jvm.ClassFile.FieldType.int)) ∈ WB := tb_5 (List.mem_of_getElem? (i := 175) rfl) rfl
theorem w5_176 : (Cond.methodLink "FarEditors" (353 : Nat) yX2_keep) ∈ WB := tb_5 (List.mem_of_getElem? (i := 176) rfl) rfl
theorem w5_177 : (Cond.instanceMethod yX2_keep) ∈ WB := tb_5 (List.mem_of_getElem? (i := 177) rfl) rfl
theorem w5_178 : (Cond.selects "FarEditors$History" yX2_keep yX2_keep) ∈ WB := tb_5 (List.mem_of_getElem? (i := 178) rfl) rfl
theorem w5_179 : (Cond.code yX2_keep prog_4_method_3_code (3 : Nat) (Option.none : Option Jvm.ClassFile.FieldType)) ∈ WB := tb_5 (List.mem_of_getElem? (i := 179) rfl) rfl
theorem w5_180 : (Cond.methodLink "FarEditors$History" (35 : Nat) yX10_init) ∈ WB := tb_5 (List.mem_of_getElem? (i := 180) rfl) rfl
theorem w5_181 : (Cond.methodLink "FarEditors$History" (38 : Nat) yX10_copy) ∈ WB := tb_5 (List.mem_of_getElem? (i := 181) rfl) rfl
theorem w5_182 : (Cond.methodLink "FarEditorsLaw" (112 : Nat) yX11_put) ∈ WB := tb_5 (List.mem_of_getElem? (i := 182) rfl) rfl
theorem w5_183 : (Cond.instanceMethod yX11_put) ∈ WB := tb_5 (List.mem_of_getElem? (i := 183) rfl) rfl
theorem w5_184 : (Cond.selects "FarEditors" yX11_put yX11_put) ∈ WB := tb_5 (List.mem_of_getElem? (i := 184) rfl) rfl
theorem w5_185 : (Cond.code yX11_put prog_1_method_25_code (5 : Nat) (Option.some Jvm.ClassFile.FieldType.int)) ∈ WB := tb_5 (List.mem_of_getElem? (i := 185) rfl) rfl
theorem w5_186 : (Cond.methodLink "FarEditors" (336 : Nat) yX10_canPut) ∈ WB := tb_5 (List.mem_of_getElem? (i := 186) rfl) rfl
theorem w5_187 : (Cond.instanceMethod yX10_canPut) ∈ WB := tb_5 (List.mem_of_getElem? (i := 187) rfl) rfl
theorem w5_188 : (Cond.selects "FarEditors$World" yX10_canPut yX10_canPut) ∈ WB := tb_5 (List.mem_of_getElem? (i := 188) rfl) rfl
theorem w5_189 : (Cond.code yX10_canPut prog_12_method_9_code (4 : Nat) (Option.some Jvm.ClassFile.FieldType.boolean)) ∈ WB := tb_5 (List.mem_of_getElem? (i := 189) rfl) rfl
theorem w5_190 : (Cond.methodLink "FarEditors" (340 : Nat) yX4_buildPut) ∈ WB := tb_5 (List.mem_of_getElem? (i := 190) rfl) rfl
theorem w5_191 : (Cond.instanceMethod yX4_buildPut) ∈ WB := tb_5 (List.mem_of_getElem? (i := 191) rfl) rfl
theorem w5_192 : (Cond.selects "FarEditors$Op" yX4_buildPut yX4_buildPut) ∈ WB := tb_5 (List.mem_of_getElem? (i := 192) rfl) rfl
theorem w5_193 : (Cond.code yX4_buildPut prog_6_method_9_code (4 : Nat) (Option.none : Option Jvm.ClassFile.FieldType)) ∈ WB := tb_5 (List.mem_of_getElem? (i := 193) rfl) rfl
theorem w5_194 : (Cond.methodLink "FarEditorsLaw" (116 : Nat) yX11_cut) ∈ WB := tb_5 (List.mem_of_getElem? (i := 194) rfl) rfl
theorem w5_195 : (Cond.instanceMethod yX11_cut) ∈ WB := tb_5 (List.mem_of_getElem? (i := 195) rfl) rfl
theorem w5_196 : (Cond.selects "FarEditors" yX11_cut yX11_cut) ∈ WB := tb_5 (List.mem_of_getElem? (i := 196) rfl) rfl
theorem w5_197 : (Cond.code yX11_cut prog_1_method_26_code (5 : Nat) (Option.some Jvm.ClassFile.FieldType.int)) ∈ WB := tb_5 (List.mem_of_getElem? (i := 197) rfl) rfl
theorem w5_198 : (Cond.methodLink "FarEditors" (344 : Nat) yX10_canCut) ∈ WB := tb_5 (List.mem_of_getElem? (i := 198) rfl) rfl
theorem w5_199 : (Cond.instanceMethod yX10_canCut) ∈ WB := tb_5 (List.mem_of_getElem? (i := 199) rfl) rfl
theorem w5_200 : (Cond.selects "FarEditors$World" yX10_canCut yX10_canCut) ∈ WB := tb_5 (List.mem_of_getElem? (i := 200) rfl) rfl
theorem w5_201 : (Cond.code yX10_canCut prog_12_method_10_code (4 : Nat) (Option.some Jvm.ClassFile.FieldType.boolean)) ∈ WB := tb_5 (List.mem_of_getElem? (i := 201) rfl) rfl
theorem w5_202 : (Cond.methodLink "FarEditors" (347 : Nat) yX4_buildCut) ∈ WB := tb_5 (List.mem_of_getElem? (i := 202) rfl) rfl
theorem w5_203 : (Cond.instanceMethod yX4_buildCut) ∈ WB := tb_5 (List.mem_of_getElem? (i := 203) rfl) rfl
theorem w5_204 : (Cond.selects "FarEditors$Op" yX4_buildCut yX4_buildCut) ∈ WB := tb_5 (List.mem_of_getElem? (i := 204) rfl) rfl
theorem w5_205 : (Cond.code yX4_buildCut prog_6_method_10_code (4 : Nat) (Option.none : Option Jvm.ClassFile.FieldType)) ∈ WB := tb_5 (List.mem_of_getElem? (i := 205) rfl) rfl
theorem w5_206 : (Cond.methodLink "FarEditorsLaw" (120 : Nat) yX11_type) ∈ WB := tb_5 (List.mem_of_getElem? (i := 206) rfl) rfl
theorem w5_207 : (Cond.instanceMethod yX11_type) ∈ WB := tb_5 (List.mem_of_getElem? (i := 207) rfl) rfl
theorem w5_208 : (Cond.selects "FarEditors" yX11_type yX11_type) ∈ WB := tb_5 (List.mem_of_getElem? (i := 208) rfl) rfl
theorem w5_209 : (Cond.code yX11_type prog_1_method_27_code (5 : Nat) (Option.some Jvm.ClassFile.FieldType.int)) ∈ WB := tb_5 (List.mem_of_getElem? (i := 209) rfl) rfl
theorem w5_210 : (Cond.methodLink "FarEditorsLaw" (124 : Nat) yX11_cursor) ∈ WB := tb_5 (List.mem_of_getElem? (i := 210) rfl) rfl
theorem w5_211 : (Cond.instanceMethod yX11_cursor) ∈ WB := tb_5 (List.mem_of_getElem? (i := 211) rfl) rfl
theorem w5_212 : (Cond.selects "FarEditors" yX11_cursor yX11_cursor) ∈ WB := tb_5 (List.mem_of_getElem? (i := 212) rfl) rfl
theorem w5_213 : (Cond.code yX11_cursor prog_1_method_28_code (3 : Nat) (Option.some Jvm.ClassFile.FieldType.boolean)) ∈ WB := tb_5 (List.mem_of_getElem? (i := 213) rfl) rfl
theorem w5_214 : (Cond.methodLink "FarEditorsLaw" (129 : Nat) yX11_marks) ∈ WB := tb_5 (List.mem_of_getElem? (i := 214) rfl) rfl
theorem w5_215 : (Cond.instanceMethod yX11_marks) ∈ WB := tb_5 (List.mem_of_getElem? (i := 215) rfl) rfl
theorem w5_216 : (Cond.selects "FarEditors" yX11_marks yX11_marks) ∈ WB := tb_5 (List.mem_of_getElem? (i := 216) rfl) rfl
theorem w5_217 : (Cond.code yX11_marks prog_1_method_29_code (5 : Nat) (Option.some Jvm.ClassFile.FieldType.int)) ∈ WB := tb_5 (List.mem_of_getElem? (i := 217) rfl) rfl
theorem w5_218 : (Cond.methodLink "FarEditorsLaw" (133 : Nat) yX11_clears) ∈ WB := tb_5 (List.mem_of_getElem? (i := 218) rfl) rfl
theorem w5_219 : (Cond.instanceMethod yX11_clears) ∈ WB := tb_5 (List.mem_of_getElem? (i := 219) rfl) rfl
theorem w5_220 : (Cond.selects "FarEditors" yX11_clears yX11_clears) ∈ WB := tb_5 (List.mem_of_getElem? (i := 220) rfl) rfl
theorem w5_221 : (Cond.code yX11_clears prog_1_method_30_code (3 : Nat) (Option.some Jvm.ClassFile.FieldType.boolean)) ∈ WB := tb_5 (List.mem_of_getElem? (i := 221) rfl) rfl
theorem w5_222 : (Cond.methodLink "FarEditors" (365 : Nat) yX1_dropMark) ∈ WB := tb_5 (List.mem_of_getElem? (i := 222) rfl) rfl
theorem w5_223 : (Cond.instanceMethod yX1_dropMark) ∈ WB := tb_5 (List.mem_of_getElem? (i := 223) rfl) rfl
theorem w5_224 : (Cond.selects "FarEditors$Editor" yX1_dropMark yX1_dropMark) ∈ WB := tb_5 (List.mem_of_getElem? (i := 224) rfl) rfl
theorem w5_225 : (Cond.code yX1_dropMark prog_3_method_7_code (3 : Nat) (Option.none : Option Jvm.ClassFile.FieldType)) ∈ WB := tb_5 (List.mem_of_getElem? (i := 225) rfl) rfl
theorem w5_226 : (Cond.methodLink "FarEditorsLaw" (137 : Nat) yX11_undo) ∈ WB := tb_5 (List.mem_of_getElem? (i := 226) rfl) rfl
theorem w5_227 : (Cond.instanceMethod yX11_undo) ∈ WB := tb_5 (List.mem_of_getElem? (i := 227) rfl) rfl
theorem w5_228 : (Cond.selects "FarEditors" yX11_undo yX11_undo) ∈ WB := tb_5 (List.mem_of_getElem? (i := 228) rfl) rfl
theorem w5_229 : (Cond.code yX11_undo prog_1_method_31_code (3 : Nat) (Option.some Jvm.ClassFile.FieldType.int)) ∈ WB := tb_5 (List.mem_of_getElem? (i := 229) rfl) rfl
theorem w5_230 : (Cond.methodLink "FarEditors" (368 : Nat) yX11_changeByInverse) ∈ WB := tb_5 (List.mem_of_getElem? (i := 230) rfl) rfl
theorem w5_232 : (Cond.instanceMethod yX11_changeByInverse) ∈ WB := tb_5 (List.mem_of_getElem? (i := 232) rfl) rfl
theorem w5_233 : (Cond.code yX11_changeByInverse prog_1_method_51_code (5 : Nat) (Option.some Jvm.ClassFile.FieldType.int)) ∈ WB := tb_5 (List.mem_of_getElem? (i := 233) rfl) rfl
theorem w5_234 : (Cond.methodLink "FarEditors" (430 : Nat) yX3_findLatestThatChanges) ∈ WB := tb_5 (List.mem_of_getElem? (i := 234) rfl) rfl
theorem w5_235 : (Cond.instanceMethod yX3_findLatestThatChanges) ∈ WB := tb_5 (List.mem_of_getElem? (i := 235) rfl) rfl
theorem w5_236 : (Cond.selects "FarEditors$Inverses" yX3_findLatestThatChanges yX3_findLatestThatChanges) ∈ WB := tb_5 (List.mem_of_getElem? (i := 236) rfl) rfl
theorem w5_237 : (Cond.code yX3_findLatestThatChanges prog_5_method_4_code (2 : Nat) (Option.some Jvm.ClassFile.FieldType.int)) ∈ WB := tb_5 (List.mem_of_getElem? (i := 237) rfl) rfl
theorem w5_238 : (Cond.methodLink "FarEditors$Inverses" (26 : Nat) yX4_changesSomething) ∈ WB := tb_5 (List.mem_of_getElem? (i := 238) rfl) rfl
theorem w5_239 : (Cond.methodLink "FarEditors" (434 : Nat) yX10_editByInverse) ∈ WB := tb_5 (List.mem_of_getElem? (i := 239) rfl) rfl
theorem w6_0 : (Cond.instanceMethod yX10_editByInverse) ∈ WB := tb_6 (List.mem_of_getElem? (i := 0) rfl) rfl
theorem w6_1 : (Cond.selects "FarEditors$World" yX10_editByInverse yX10_editByInverse) ∈ WB := tb_6 (List.mem_of_getElem? (i := 1) rfl) rfl
theorem w6_2 : (Cond.code yX10_editByInverse prog_12_method_16_code (6 : Nat) (Option.none : Option Jvm.ClassFile.FieldType)) ∈ WB := tb_6 (List.mem_of_getElem? (i := 2) rfl) rfl
theorem w6_3 : (Cond.methodLink "FarEditorsLaw" (141 : Nat) yX11_redo) ∈ WB := tb_6 (List.mem_of_getElem? (i := 3) rfl) rfl
theorem w6_4 : (Cond.instanceMethod yX11_redo) ∈ WB := tb_6 (List.mem_of_getElem? (i := 4) rfl) rfl
theorem w6_5 : (Cond.selects "FarEditors" yX11_redo yX11_redo) ∈ WB := tb_6 (List.mem_of_getElem? (i := 5) rfl) rfl
theorem w6_6 : (Cond.code yX11_redo prog_1_method_32_code (3 : Nat) (Option.some Jvm.ClassFile.FieldType.int)) ∈ WB := tb_6 (List.mem_of_getElem? (i := 6) rfl) rfl
theorem w6_7 : (Cond.methodLink "FarEditorsLaw" (145 : Nat) yX11_line) ∈ WB := tb_6 (List.mem_of_getElem? (i := 7) rfl) rfl
theorem w6_8 : (Cond.instanceMethod yX11_line) ∈ WB := tb_6 (List.mem_of_getElem? (i := 8) rfl) rfl
theorem w6_9 : (Cond.selects "FarEditors" yX11_line yX11_line) ∈ WB := tb_6 (List.mem_of_getElem? (i := 9) rfl) rfl
theorem w6_10 : (Cond.code yX11_line prog_1_method_33_code (3 : Nat) (Option.some Jvm.ClassFile.FieldType.boolean)) ∈ WB := tb_6 (List.mem_of_getElem? (i := 10) rfl) rfl
theorem w6_11 : (Cond.methodLink "FarEditorsLaw" (150 : Nat) yX11_delay) ∈ WB := tb_6 (List.mem_of_getElem? (i := 11) rfl) rfl
theorem w6_12 : (Cond.instanceMethod yX11_delay) ∈ WB := tb_6 (List.mem_of_getElem? (i := 12) rfl) rfl
theorem w6_13 : (Cond.selects "FarEditors" yX11_delay yX11_delay) ∈ WB := tb_6 (List.mem_of_getElem? (i := 13) rfl) rfl
theorem w6_14 : (Cond.code yX11_delay prog_1_method_34_code (3 : Nat) (Option.some Jvm.ClassFile.FieldType.boolean)) ∈ WB := tb_6 (List.mem_of_getElem? (i := 14) rfl) rfl
theorem w6_15 : (Cond.methodLink "FarEditorsLaw" (154 : Nat) yX11_ticks) ∈ WB := tb_6 (List.mem_of_getElem? (i := 15) rfl) rfl
theorem w6_16 : (Cond.instanceMethod yX11_ticks) ∈ WB := tb_6 (List.mem_of_getElem? (i := 16) rfl) rfl
theorem w6_17 : (Cond.selects "FarEditors" yX11_ticks yX11_ticks) ∈ WB := tb_6 (List.mem_of_getElem? (i := 17) rfl) rfl
theorem w6_18 : (Cond.code yX11_ticks prog_1_method_35_code (4 : Nat) (Option.some Jvm.ClassFile.FieldType.int)) ∈ WB := tb_6 (List.mem_of_getElem? (i := 18) rfl) rfl
theorem w6_19 : (Cond.methodLink "FarEditorsLaw" (158 : Nat) yX11_chance) ∈ WB := tb_6 (List.mem_of_getElem? (i := 19) rfl) rfl
theorem w6_20 : (Cond.instanceMethod yX11_chance) ∈ WB := tb_6 (List.mem_of_getElem? (i := 20) rfl) rfl
theorem w6_21 : (Cond.selects "FarEditors" yX11_chance yX11_chance) ∈ WB := tb_6 (List.mem_of_getElem? (i := 21) rfl) rfl
theorem w6_22 : (Cond.code yX11_chance prog_1_method_36_code (4 : Nat) (Option.some Jvm.ClassFile.FieldType.int)) ∈ WB := tb_6 (List.mem_of_getElem? (i := 22) rfl) rfl
theorem w6_23 : (Cond.methodLink "FarEditors" (375 : Nat) yX11_changeBySeed) ∈ WB := tb_6 (List.mem_of_getElem? (i := 23) rfl) rfl
theorem w6_25 : (Cond.instanceMethod yX11_changeBySeed) ∈ WB := tb_6 (List.mem_of_getElem? (i := 25) rfl) rfl
theorem w6_26 : (Cond.code yX11_changeBySeed prog_1_method_53_code (6 : Nat) (Option.none : Option Jvm.ClassFile.FieldType)) ∈ WB := tb_6 (List.mem_of_getElem? (i := 26) rfl) rfl
theorem w6_27 : (Cond.methodLink "FarEditors" (446 : Nat) yX11_draw) ∈ WB := tb_6 (List.mem_of_getElem? (i := 27) rfl) rfl
theorem w6_29 : (Cond.instanceMethod yX11_draw) ∈ WB := tb_6 (List.mem_of_getElem? (i := 29) rfl) rfl
theorem w6_30 : (Cond.code yX11_draw prog_1_method_52_code (4 : Nat) (Option.some Jvm.ClassFile.FieldType.int)) ∈ WB := tb_6 (List.mem_of_getElem? (i := 30) rfl) rfl
theorem w6_31 : (Cond.constantLong "FarEditors" (438 : Nat) (1103515245 : Int64)) ∈ WB := tb_6 (List.mem_of_getElem? (i := 31) rfl) rfl
theorem w6_32 : (Cond.constantLong "FarEditors" (440 : Nat) (12345 : Int64)) ∈ WB := tb_6 (List.mem_of_getElem? (i := 32) rfl) rfl
theorem w6_33 : (Cond.constantLong "FarEditors" (442 : Nat) (2147483647 : Int64)) ∈ WB := tb_6 (List.mem_of_getElem? (i := 33) rfl) rfl
theorem w6_34 : (Cond.constantLong "FarEditors" (444 : Nat) (64 : Int64)) ∈ WB := tb_6 (List.mem_of_getElem? (i := 34) rfl) rfl
theorem w6_35 : (Cond.methodLink "FarEditorsLaw" (162 : Nat) yX11_back) ∈ WB := tb_6 (List.mem_of_getElem? (i := 35) rfl) rfl
theorem w6_36 : (Cond.instanceMethod yX11_back) ∈ WB := tb_6 (List.mem_of_getElem? (i := 36) rfl) rfl
theorem w6_37 : (Cond.selects "FarEditors" yX11_back yX11_back) ∈ WB := tb_6 (List.mem_of_getElem? (i := 37) rfl) rfl
theorem w6_38 : (Cond.code yX11_back prog_1_method_37_code (1 : Nat) (Option.some Jvm.ClassFile.FieldType.boolean)) ∈ WB := tb_6 (List.mem_of_getElem? (i := 38) rfl) rfl
theorem w6_39 : (Cond.methodLink "FarEditors" (378 : Nat) yX2_restore) ∈ WB := tb_6 (List.mem_of_getElem? (i := 39) rfl) rfl
theorem w6_40 : (Cond.instanceMethod yX2_restore) ∈ WB := tb_6 (List.mem_of_getElem? (i := 40) rfl) rfl
theorem w6_41 : (Cond.selects "FarEditors$History" yX2_restore yX2_restore) ∈ WB := tb_6 (List.mem_of_getElem? (i := 41) rfl) rfl
theorem w6_42 : (Cond.code yX2_restore prog_4_method_4_code (3 : Nat) (Option.some Jvm.ClassFile.FieldType.boolean)) ∈ WB := tb_6 (List.mem_of_getElem? (i := 42) rfl) rfl
theorem w6_43 : (Cond.methodLink "FarEditorsLaw" (167 : Nat) yX11_seed) ∈ WB := tb_6 (List.mem_of_getElem? (i := 43) rfl) rfl
theorem w6_44 : (Cond.instanceMethod yX11_seed) ∈ WB := tb_6 (List.mem_of_getElem? (i := 44) rfl) rfl
theorem w6_45 : (Cond.selects "FarEditors" yX11_seed yX11_seed) ∈ WB := tb_6 (List.mem_of_getElem? (i := 45) rfl) rfl
theorem w6_46 : (Cond.code yX11_seed prog_1_method_38_code (2 : Nat) (Option.some Jvm.ClassFile.FieldType.boolean)) ∈ WB := tb_6 (List.mem_of_getElem? (i := 46) rfl) rfl
theorem w6_47 : (Cond.methodLink "FarEditorsLaw" (171 : Nat) yX11_status) ∈ WB := tb_6 (List.mem_of_getElem? (i := 47) rfl) rfl
theorem w6_48 : (Cond.instanceMethod yX11_status) ∈ WB := tb_6 (List.mem_of_getElem? (i := 48) rfl) rfl
theorem w6_49 : (Cond.selects "FarEditors" yX11_status yX11_status) ∈ WB := tb_6 (List.mem_of_getElem? (i := 49) rfl) rfl
theorem w6_50 : (Cond.code yX11_status prog_1_method_39_code (2 : Nat) (Option.some Jvm.ClassFile.FieldType.int)) ∈ WB := tb_6 (List.mem_of_getElem? (i := 50) rfl) rfl
theorem w6_51 : (Cond.classLink "FarEditorsLaw" (10 : Nat) "FarEditorsModel") ∈ WB := tb_6 (List.mem_of_getElem? (i := 51) rfl) rfl
theorem w6_52 : (Cond.instantiable "FarEditorsModel" (64 : Nat)) ∈ WB := tb_6 (List.mem_of_getElem? (i := 52) rfl) rfl
theorem w6_53 : (Cond.methodLink "FarEditorsLaw" (12 : Nat) yX12_init) ∈ WB := tb_6 (List.mem_of_getElem? (i := 53) rfl) rfl
theorem w6_54 : (Cond.instanceMethod yX12_init) ∈ WB := tb_6 (List.mem_of_getElem? (i := 54) rfl) rfl
theorem w6_55 : (Cond.code yX12_init prog_14_method_1_code (1 : Nat) (Option.none : Option Jvm.ClassFile.FieldType)) ∈ WB := tb_6 (List.mem_of_getElem? (i := 55) rfl) rfl
theorem w6_56 : (Cond.methodLink "FarEditorsModel" (1 : Nat) (⟨"java/lang/Object", "<init>", "()V"⟩ : MethodName)) ∈ WB := tb_6 (List.mem_of_getElem? (i := 56) rfl) rfl
theorem w6_57 : (Cond.constant "FarEditorsModel" (118 : Nat) (209520 : Int32)) ∈ WB := tb_6 (List.mem_of_getElem? (i := 57) rfl) rfl
theorem w6_58 : (Cond.fieldLink "FarEditorsModel" (7 : Nat) "FarEditorsModel" "tape" "[I") ∈ WB := tb_6 (List.mem_of_getElem? (i := 58) rfl) rfl
theorem w6_59 : (Cond.fieldLink "FarEditorsModel" (126 : Nat) "FarEditorsModel" "taped" "I") ∈ WB := tb_6 (List.mem_of_getElem? (i := 59) rfl) rfl
theorem w6_60 : (Cond.fieldLink "FarEditorsModel" (159 : Nat) "FarEditorsModel" "at" "I") ∈ WB := tb_6 (List.mem_of_getElem? (i := 60) rfl) rfl
theorem w6_61 : (Cond.fieldLink "FarEditorsModel" (146 : Nat) "FarEditorsModel" "end" "I") ∈ WB := tb_6 (List.mem_of_getElem? (i := 61) rfl) rfl
theorem w6_62 : (Cond.fieldLink "FarEditorsModel" (162 : Nat) "FarEditorsModel" "ended" "I") ∈ WB := tb_6 (List.mem_of_getElem? (i := 62) rfl) rfl
theorem w6_63 : (Cond.fieldLink "FarEditorsModel" (149 : Nat) "FarEditorsModel" "bad" "I") ∈ WB := tb_6 (List.mem_of_getElem? (i := 63) rfl) rfl
theorem w6_64 : (Cond.fieldLink "FarEditorsModel" (152 : Nat) "FarEditorsModel" "badPlace" "I") ∈ WB := tb_6 (List.mem_of_getElem? (i := 64) rfl) rfl
theorem w6_65 : (Cond.fieldLink "FarEditorsModel" (143 : Nat) "FarEditorsModel" "fault" "I") ∈ WB := tb_6 (List.mem_of_getElem? (i := 65) rfl) rfl
theorem w6_66 : (Cond.fieldLink "FarEditorsModel" (13 : Nat) "FarEditorsModel" "faultPlace" "I") ∈ WB := tb_6 (List.mem_of_getElem? (i := 66) rfl) rfl
theorem w6_67 : (Cond.fieldLink "FarEditorsModel" (17 : Nat) "FarEditorsModel" "refused" "[I") ∈ WB := tb_6 (List.mem_of_getElem? (i := 67) rfl) rfl
theorem w6_68 : (Cond.fieldLink "FarEditorsModel" (20 : Nat) "FarEditorsModel" "textWord" "[C") ∈ WB := tb_6 (List.mem_of_getElem? (i := 68) rfl) rfl
theorem w6_69 : (Cond.fieldLink "FarEditorsModel" (24 : Nat) "FarEditorsModel" "editorsWord" "[C") ∈ WB := tb_6 (List.mem_of_getElem? (i := 69) rfl) rfl
theorem w6_70 : (Cond.fieldLink "FarEditorsModel" (27 : Nat) "FarEditorsModel" "delayWord" "[C") ∈ WB := tb_6 (List.mem_of_getElem? (i := 70) rfl) rfl
theorem w6_71 : (Cond.fieldLink "FarEditorsModel" (30 : Nat) "FarEditorsModel" "tiesWord" "[C") ∈ WB := tb_6 (List.mem_of_getElem? (i := 71) rfl) rfl
theorem w6_72 : (Cond.fieldLink "FarEditorsModel" (33 : Nat) "FarEditorsModel" "editWord" "[C") ∈ WB := tb_6 (List.mem_of_getElem? (i := 72) rfl) rfl
theorem w6_73 : (Cond.fieldLink "FarEditorsModel" (36 : Nat) "FarEditorsModel" "cursorWord" "[C") ∈ WB := tb_6 (List.mem_of_getElem? (i := 73) rfl) rfl
theorem w6_74 : (Cond.fieldLink "FarEditorsModel" (39 : Nat) "FarEditorsModel" "markWord" "[C") ∈ WB := tb_6 (List.mem_of_getElem? (i := 74) rfl) rfl
theorem w6_75 : (Cond.fieldLink "FarEditorsModel" (42 : Nat) "FarEditorsModel" "offWord" "[C") ∈ WB := tb_6 (List.mem_of_getElem? (i := 75) rfl) rfl
theorem w6_76 : (Cond.fieldLink "FarEditorsModel" (45 : Nat) "FarEditorsModel" "onWord" "[C") ∈ WB := tb_6 (List.mem_of_getElem? (i := 76) rfl) rfl
theorem w6_77 : (Cond.fieldLink "FarEditorsModel" (48 : Nat) "FarEditorsModel" "tickWord" "[C") ∈ WB := tb_6 (List.mem_of_getElem? (i := 77) rfl) rfl
theorem w6_78 : (Cond.fieldLink "FarEditorsModel" (51 : Nat) "FarEditorsModel" "rowA" "[I") ∈ WB := tb_6 (List.mem_of_getElem? (i := 78) rfl) rfl
theorem w6_79 : (Cond.fieldLink "FarEditorsModel" (54 : Nat) "FarEditorsModel" "rowB" "[I") ∈ WB := tb_6 (List.mem_of_getElem? (i := 79) rfl) rfl
theorem w6_80 : (Cond.fieldLink "FarEditorsModel" (57 : Nat) "FarEditorsModel" "rowC" "[I") ∈ WB := tb_6 (List.mem_of_getElem? (i := 80) rfl) rfl
theorem w6_81 : (Cond.fieldLink "FarEditorsModel" (60 : Nat) "FarEditorsModel" "rowD" "[I") ∈ WB := tb_6 (List.mem_of_getElem? (i := 81) rfl) rfl
theorem w6_82 : (Cond.fieldLink "FarEditorsModel" (63 : Nat) "FarEditorsModel" "aside" "[I") ∈ WB := tb_6 (List.mem_of_getElem? (i := 82) rfl) rfl
theorem w6_83 : (Cond.fieldLink "FarEditorsModel" (195 : Nat) "FarEditorsModel" "longA" "I") ∈ WB := tb_6 (List.mem_of_getElem? (i := 83) rfl) rfl
theorem w6_84 : (Cond.fieldLink "FarEditorsModel" (198 : Nat) "FarEditorsModel" "longB" "I") ∈ WB := tb_6 (List.mem_of_getElem? (i := 84) rfl) rfl
theorem w6_85 : (Cond.fieldLink "FarEditorsModel" (189 : Nat) "FarEditorsModel" "longC" "I") ∈ WB := tb_6 (List.mem_of_getElem? (i := 85) rfl) rfl
theorem w6_86 : (Cond.fieldLink "FarEditorsModel" (192 : Nat) "FarEditorsModel" "longD" "I") ∈ WB := tb_6 (List.mem_of_getElem? (i := 86) rfl) rfl
theorem w6_87 : (Cond.fieldLink "FarEditorsModel" (66 : Nat) "FarEditorsModel" "changed" "[I") ∈ WB := tb_6 (List.mem_of_getElem? (i := 87) rfl) rfl
theorem w6_88 : (Cond.fieldLink "FarEditorsModel" (69 : Nat) "FarEditorsModel" "now" "[I") ∈ WB := tb_6 (List.mem_of_getElem? (i := 88) rfl) rfl
theorem w6_89 : (Cond.fieldLink "FarEditorsModel" (211 : Nat) "FarEditorsModel" "isTold" "Z") ∈ WB := tb_6 (List.mem_of_getElem? (i := 89) rfl) rfl
theorem w6_90 : (Cond.fieldLink "FarEditorsModel" (215 : Nat) "FarEditorsModel" "editorMany" "I") ∈ WB := tb_6 (List.mem_of_getElem? (i := 90) rfl) rfl
theorem w6_91 : (Cond.fieldLink "FarEditorsModel" (230 : Nat) "FarEditorsModel" "ties" "I") ∈ WB := tb_6 (List.mem_of_getElem? (i := 91) rfl) rfl
theorem w6_92 : (Cond.fieldLink "FarEditorsModel" (384 : Nat) "FarEditorsModel" "toldLength" "I") ∈ WB := tb_6 (List.mem_of_getElem? (i := 92) rfl) rfl
theorem w6_93 : (Cond.fieldLink "FarEditorsModel" (72 : Nat) "FarEditorsModel" "toldText" "[I") ∈ WB := tb_6 (List.mem_of_getElem? (i := 93) rfl) rfl
theorem w6_94 : (Cond.fieldLink "FarEditorsModel" (75 : Nat) "FarEditorsModel" "rowOf" "[I") ∈ WB := tb_6 (List.mem_of_getElem? (i := 94) rfl) rfl
theorem w6_95 : (Cond.fieldLink "FarEditorsModel" (78 : Nat) "FarEditorsModel" "rowOld" "[I") ∈ WB := tb_6 (List.mem_of_getElem? (i := 95) rfl) rfl
theorem w6_96 : (Cond.fieldLink "FarEditorsModel" (81 : Nat) "FarEditorsModel" "rowFrom" "[I") ∈ WB := tb_6 (List.mem_of_getElem? (i := 96) rfl) rfl
theorem w6_97 : (Cond.fieldLink "FarEditorsModel" (84 : Nat) "FarEditorsModel" "rowMany" "[I") ∈ WB := tb_6 (List.mem_of_getElem? (i := 97) rfl) rfl
theorem w6_98 : (Cond.fieldLink "FarEditorsModel" (87 : Nat) "FarEditorsModel" "rowPool" "[I") ∈ WB := tb_6 (List.mem_of_getElem? (i := 98) rfl) rfl
theorem w6_99 : (Cond.fieldLink "FarEditorsModel" (90 : Nat) "FarEditorsModel" "heldB" "[I") ∈ WB := tb_6 (List.mem_of_getElem? (i := 99) rfl) rfl
theorem w6_100 : (Cond.fieldLink "FarEditorsModel" (326 : Nat) "FarEditorsModel" "tookMany" "I") ∈ WB := tb_6 (List.mem_of_getElem? (i := 100) rfl) rfl
theorem w6_101 : (Cond.fieldLink "FarEditorsModel" (335 : Nat) "FarEditorsModel" "editorMany0" "I") ∈ WB := tb_6 (List.mem_of_getElem? (i := 101) rfl) rfl
theorem w6_102 : (Cond.fieldLink "FarEditorsModel" (348 : Nat) "FarEditorsModel" "toldFrom" "I") ∈ WB := tb_6 (List.mem_of_getElem? (i := 102) rfl) rfl
theorem w6_103 : (Cond.fieldLink "FarEditorsModel" (351 : Nat) "FarEditorsModel" "toldEnd" "I") ∈ WB := tb_6 (List.mem_of_getElem? (i := 103) rfl) rfl
theorem w6_104 : (Cond.fieldLink "FarEditorsModel" (357 : Nat) "FarEditorsModel" "statements" "I") ∈ WB := tb_6 (List.mem_of_getElem? (i := 104) rfl) rfl
theorem w6_105 : (Cond.fieldLink "FarEditorsModel" (93 : Nat) "FarEditorsModel" "text" "[I") ∈ WB := tb_6 (List.mem_of_getElem? (i := 105) rfl) rfl
theorem w6_106 : (Cond.fieldLink "FarEditorsModel" (96 : Nat) "FarEditorsModel" "byOp" "[I") ∈ WB := tb_6 (List.mem_of_getElem? (i := 106) rfl) rfl
theorem w6_107 : (Cond.fieldLink "FarEditorsModel" (434 : Nat) "FarEditorsModel" "textLong" "I") ∈ WB := tb_6 (List.mem_of_getElem? (i := 107) rfl) rfl
theorem w6_108 : (Cond.fieldLink "FarEditorsModel" (99 : Nat) "FarEditorsModel" "letters" "[I") ∈ WB := tb_6 (List.mem_of_getElem? (i := 108) rfl) rfl
theorem w6_109 : (Cond.fieldLink "FarEditorsModel" (443 : Nat) "FarEditorsModel" "stepMany" "I") ∈ WB := tb_6 (List.mem_of_getElem? (i := 109) rfl) rfl
theorem w6_110 : (Cond.fieldLink "FarEditorsModel" (102 : Nat) "FarEditorsModel" "behind" "[I") ∈ WB := tb_6 (List.mem_of_getElem? (i := 110) rfl) rfl
theorem w6_111 : (Cond.fieldLink "FarEditorsModel" (483 : Nat) "FarEditorsModel" "orderMany" "I") ∈ WB := tb_6 (List.mem_of_getElem? (i := 111) rfl) rfl
theorem w6_112 : (Cond.fieldLink "FarEditorsModel" (105 : Nat) "FarEditorsModel" "endLong" "[I") ∈ WB := tb_6 (List.mem_of_getElem? (i := 112) rfl) rfl
theorem w6_113 : (Cond.fieldLink "FarEditorsModel" (108 : Nat) "FarEditorsModel" "endText" "[I") ∈ WB := tb_6 (List.mem_of_getElem? (i := 113) rfl) rfl
theorem w6_114 : (Cond.fieldLink "FarEditorsModel" (393 : Nat) "FarEditorsModel" "rowsSeen" "I") ∈ WB := tb_6 (List.mem_of_getElem? (i := 114) rfl) rfl
theorem w6_115 : (Cond.fieldLink "FarEditorsModel" (111 : Nat) "FarEditorsModel" "seen" "[I") ∈ WB := tb_6 (List.mem_of_getElem? (i := 115) rfl) rfl
theorem w6_116 : (Cond.fieldLink "FarEditorsModel" (114 : Nat) "FarEditorsModel" "isFit" "[Z") ∈ WB := tb_6 (List.mem_of_getElem? (i := 116) rfl) rfl
theorem w6_117 : (Cond.fieldLink "FarEditorsModel" (501 : Nat) "FarEditorsModel" "fitMany" "I") ∈ WB := tb_6 (List.mem_of_getElem? (i := 117) rfl) rfl
theorem w6_118 : (Cond.fieldLink "FarEditorsModel" (119 : Nat) "FarEditorsModel" "kept0" "[I") ∈ WB := tb_6 (List.mem_of_getElem? (i := 118) rfl) rfl
theorem w6_119 : (Cond.fieldLink "FarEditorsModel" (390 : Nat) "FarEditorsModel" "undoable" "I") ∈ WB := tb_6 (List.mem_of_getElem? (i := 119) rfl) rfl
theorem w6_120 : (Cond.fieldLink "FarEditorsModel" (510 : Nat) "FarEditorsModel" "newest" "I") ∈ WB := tb_6 (List.mem_of_getElem? (i := 120) rfl) rfl
theorem w6_121 : (Cond.fieldLink "FarEditorsModel" (122 : Nat) "FarEditorsModel" "seeded" "J") ∈ WB := tb_6 (List.mem_of_getElem? (i := 121) rfl) rfl
theorem w6_122 : (Cond.laysFinal "FarEditorsModel" "FarEditorsModel" "tape" "[I") ∈ WB := tb_6 (List.mem_of_getElem? (i := 122) rfl) rfl
theorem w6_124 : (Cond.lays "FarEditorsModel" "FarEditorsModel" "taped" "I") ∈ WB := tb_6 (List.mem_of_getElem? (i := 124) rfl) rfl
theorem w6_126 : (Cond.lays "FarEditorsModel" "FarEditorsModel" "at" "I") ∈ WB := tb_6 (List.mem_of_getElem? (i := 126) rfl) rfl
theorem w6_128 : (Cond.lays "FarEditorsModel" "FarEditorsModel" "end" "I") ∈ WB := tb_6 (List.mem_of_getElem? (i := 128) rfl) rfl
theorem w6_130 : (Cond.lays "FarEditorsModel" "FarEditorsModel" "ended" "I") ∈ WB := tb_6 (List.mem_of_getElem? (i := 130) rfl) rfl
theorem w6_132 : (Cond.lays "FarEditorsModel" "FarEditorsModel" "bad" "I") ∈ WB := tb_6 (List.mem_of_getElem? (i := 132) rfl) rfl
theorem w6_134 : (Cond.lays "FarEditorsModel" "FarEditorsModel" "badPlace" "I") ∈ WB := tb_6 (List.mem_of_getElem? (i := 134) rfl) rfl
theorem w6_136 : (Cond.lays "FarEditorsModel" "FarEditorsModel" "fault" "I") ∈ WB := tb_6 (List.mem_of_getElem? (i := 136) rfl) rfl
theorem w6_138 : (Cond.lays "FarEditorsModel" "FarEditorsModel" "faultPlace" "I") ∈ WB := tb_6 (List.mem_of_getElem? (i := 138) rfl) rfl
theorem w6_140 : (Cond.laysFinal "FarEditorsModel" "FarEditorsModel" "refused" "[I") ∈ WB := tb_6 (List.mem_of_getElem? (i := 140) rfl) rfl
theorem w6_142 : (Cond.laysFinal "FarEditorsModel" "FarEditorsModel" "textWord" "[C") ∈ WB := tb_6 (List.mem_of_getElem? (i := 142) rfl) rfl
theorem w6_144 : (Cond.laysFinal "FarEditorsModel" "FarEditorsModel" "editorsWord" "[C") ∈ WB := tb_6 (List.mem_of_getElem? (i := 144) rfl) rfl
theorem w6_146 : (Cond.laysFinal "FarEditorsModel" "FarEditorsModel" "delayWord" "[C") ∈ WB := tb_6 (List.mem_of_getElem? (i := 146) rfl) rfl
theorem w6_148 : (Cond.laysFinal "FarEditorsModel" "FarEditorsModel" "tiesWord" "[C") ∈ WB := tb_6 (List.mem_of_getElem? (i := 148) rfl) rfl
theorem w6_150 : (Cond.laysFinal "FarEditorsModel" "FarEditorsModel" "editWord" "[C") ∈ WB := tb_6 (List.mem_of_getElem? (i := 150) rfl) rfl
theorem w6_152 : (Cond.laysFinal "FarEditorsModel" "FarEditorsModel" "cursorWord" "[C") ∈ WB := tb_6 (List.mem_of_getElem? (i := 152) rfl) rfl
theorem w6_154 : (Cond.laysFinal "FarEditorsModel" "FarEditorsModel" "markWord" "[C") ∈ WB := tb_6 (List.mem_of_getElem? (i := 154) rfl) rfl
theorem w6_156 : (Cond.laysFinal "FarEditorsModel" "FarEditorsModel" "offWord" "[C") ∈ WB := tb_6 (List.mem_of_getElem? (i := 156) rfl) rfl
theorem w6_158 : (Cond.laysFinal "FarEditorsModel" "FarEditorsModel" "onWord" "[C") ∈ WB := tb_6 (List.mem_of_getElem? (i := 158) rfl) rfl
theorem w6_160 : (Cond.laysFinal "FarEditorsModel" "FarEditorsModel" "tickWord" "[C") ∈ WB := tb_6 (List.mem_of_getElem? (i := 160) rfl) rfl
theorem w6_162 : (Cond.laysFinal "FarEditorsModel" "FarEditorsModel" "rowA" "[I") ∈ WB := tb_6 (List.mem_of_getElem? (i := 162) rfl) rfl
theorem w6_164 : (Cond.laysFinal "FarEditorsModel" "FarEditorsModel" "rowB" "[I") ∈ WB := tb_6 (List.mem_of_getElem? (i := 164) rfl) rfl
theorem w6_166 : (Cond.laysFinal "FarEditorsModel" "FarEditorsModel" "rowC" "[I") ∈ WB := tb_6 (List.mem_of_getElem? (i := 166) rfl) rfl
theorem w6_168 : (Cond.laysFinal "FarEditorsModel" "FarEditorsModel" "rowD" "[I") ∈ WB := tb_6 (List.mem_of_getElem? (i := 168) rfl) rfl
theorem w6_170 : (Cond.laysFinal "FarEditorsModel" "FarEditorsModel" "aside" "[I") ∈ WB := tb_6 (List.mem_of_getElem? (i := 170) rfl) rfl
theorem w6_172 : (Cond.lays "FarEditorsModel" "FarEditorsModel" "longA" "I") ∈ WB := tb_6 (List.mem_of_getElem? (i := 172) rfl) rfl
theorem w6_174 : (Cond.lays "FarEditorsModel" "FarEditorsModel" "longB" "I") ∈ WB := tb_6 (List.mem_of_getElem? (i := 174) rfl) rfl
theorem w6_176 : (Cond.lays "FarEditorsModel" "FarEditorsModel" "longC" "I") ∈ WB := tb_6 (List.mem_of_getElem? (i := 176) rfl) rfl
theorem w6_178 : (Cond.lays "FarEditorsModel" "FarEditorsModel" "longD" "I") ∈ WB := tb_6 (List.mem_of_getElem? (i := 178) rfl) rfl
theorem w6_180 : (Cond.laysFinal "FarEditorsModel" "FarEditorsModel" "changed" "[I") ∈ WB := tb_6 (List.mem_of_getElem? (i := 180) rfl) rfl
theorem w6_182 : (Cond.laysFinal "FarEditorsModel" "FarEditorsModel" "now" "[I") ∈ WB := tb_6 (List.mem_of_getElem? (i := 182) rfl) rfl
theorem w6_184 : (Cond.lays "FarEditorsModel" "FarEditorsModel" "isTold" "Z") ∈ WB := tb_6 (List.mem_of_getElem? (i := 184) rfl) rfl
theorem w6_186 : (Cond.lays "FarEditorsModel" "FarEditorsModel" "editorMany" "I") ∈ WB := tb_6 (List.mem_of_getElem? (i := 186) rfl) rfl
theorem w6_188 : (Cond.lays "FarEditorsModel" "FarEditorsModel" "ties" "I") ∈ WB := tb_6 (List.mem_of_getElem? (i := 188) rfl) rfl
theorem w6_190 : (Cond.lays "FarEditorsModel" "FarEditorsModel" "toldLength" "I") ∈ WB := tb_6 (List.mem_of_getElem? (i := 190) rfl) rfl
theorem w6_192 : (Cond.laysFinal "FarEditorsModel" "FarEditorsModel" "toldText" "[I") ∈ WB := tb_6 (List.mem_of_getElem? (i := 192) rfl) rfl
theorem w6_194 : (Cond.laysFinal "FarEditorsModel" "FarEditorsModel" "rowOf" "[I") ∈ WB := tb_6 (List.mem_of_getElem? (i := 194) rfl) rfl
theorem w6_196 : (Cond.laysFinal "FarEditorsModel" "FarEditorsModel" "rowOld" "[I") ∈ WB := tb_6 (List.mem_of_getElem? (i := 196) rfl) rfl
theorem w6_198 : (Cond.laysFinal "FarEditorsModel" "FarEditorsModel" "rowFrom" "[I") ∈ WB := tb_6 (List.mem_of_getElem? (i := 198) rfl) rfl
theorem w6_200 : (Cond.laysFinal "FarEditorsModel" "FarEditorsModel" "rowMany" "[I") ∈ WB := tb_6 (List.mem_of_getElem? (i := 200) rfl) rfl
theorem w6_202 : (Cond.laysFinal "FarEditorsModel" "FarEditorsModel" "rowPool" "[I") ∈ WB := tb_6 (List.mem_of_getElem? (i := 202) rfl) rfl
theorem w6_204 : (Cond.laysFinal "FarEditorsModel" "FarEditorsModel" "heldB" "[I") ∈ WB := tb_6 (List.mem_of_getElem? (i := 204) rfl) rfl
theorem w6_206 : (Cond.lays "FarEditorsModel" "FarEditorsModel" "tookMany" "I") ∈ WB := tb_6 (List.mem_of_getElem? (i := 206) rfl) rfl
theorem w6_208 : (Cond.lays "FarEditorsModel" "FarEditorsModel" "editorMany0" "I") ∈ WB := tb_6 (List.mem_of_getElem? (i := 208) rfl) rfl
theorem w6_210 : (Cond.lays "FarEditorsModel" "FarEditorsModel" "toldFrom" "I") ∈ WB := tb_6 (List.mem_of_getElem? (i := 210) rfl) rfl
theorem w6_212 : (Cond.lays "FarEditorsModel" "FarEditorsModel" "toldEnd" "I") ∈ WB := tb_6 (List.mem_of_getElem? (i := 212) rfl) rfl
theorem w6_214 : (Cond.lays "FarEditorsModel" "FarEditorsModel" "statements" "I") ∈ WB := tb_6 (List.mem_of_getElem? (i := 214) rfl) rfl
theorem w6_216 : (Cond.laysFinal "FarEditorsModel" "FarEditorsModel" "text" "[I") ∈ WB := tb_6 (List.mem_of_getElem? (i := 216) rfl) rfl
theorem w6_218 : (Cond.laysFinal "FarEditorsModel" "FarEditorsModel" "byOp" "[I") ∈ WB := tb_6 (List.mem_of_getElem? (i := 218) rfl) rfl
theorem w6_220 : (Cond.lays "FarEditorsModel" "FarEditorsModel" "textLong" "I") ∈ WB := tb_6 (List.mem_of_getElem? (i := 220) rfl) rfl
theorem w6_222 : (Cond.laysFinal "FarEditorsModel" "FarEditorsModel" "letters" "[I") ∈ WB := tb_6 (List.mem_of_getElem? (i := 222) rfl) rfl
theorem w6_224 : (Cond.lays "FarEditorsModel" "FarEditorsModel" "stepMany" "I") ∈ WB := tb_6 (List.mem_of_getElem? (i := 224) rfl) rfl
theorem w6_226 : (Cond.laysFinal "FarEditorsModel" "FarEditorsModel" "behind" "[I") ∈ WB := tb_6 (List.mem_of_getElem? (i := 226) rfl) rfl
theorem w6_228 : (Cond.lays "FarEditorsModel" "FarEditorsModel" "orderMany" "I") ∈ WB := tb_6 (List.mem_of_getElem? (i := 228) rfl) rfl
theorem w6_230 : (Cond.laysFinal "FarEditorsModel" "FarEditorsModel" "endLong" "[I") ∈ WB := tb_6 (List.mem_of_getElem? (i := 230) rfl) rfl
theorem w6_232 : (Cond.laysFinal "FarEditorsModel" "FarEditorsModel" "endText" "[I") ∈ WB := tb_6 (List.mem_of_getElem? (i := 232) rfl) rfl
theorem w6_234 : (Cond.lays "FarEditorsModel" "FarEditorsModel" "rowsSeen" "I") ∈ WB := tb_6 (List.mem_of_getElem? (i := 234) rfl) rfl
theorem w6_236 : (Cond.laysFinal "FarEditorsModel" "FarEditorsModel" "seen" "[I") ∈ WB := tb_6 (List.mem_of_getElem? (i := 236) rfl) rfl
theorem w6_238 : (Cond.laysFinal "FarEditorsModel" "FarEditorsModel" "isFit" "[Z") ∈ WB := tb_6 (List.mem_of_getElem? (i := 238) rfl) rfl
theorem w7_0 : (Cond.lays "FarEditorsModel" "FarEditorsModel" "fitMany" "I") ∈ WB := tb_7 (List.mem_of_getElem? (i := 0) rfl) rfl
theorem w7_2 : (Cond.laysFinal "FarEditorsModel" "FarEditorsModel" "kept0" "[I") ∈ WB := tb_7 (List.mem_of_getElem? (i := 2) rfl) rfl
theorem w7_4 : (Cond.lays "FarEditorsModel" "FarEditorsModel" "undoable" "I") ∈ WB := tb_7 (List.mem_of_getElem? (i := 4) rfl) rfl
theorem w7_6 : (Cond.lays "FarEditorsModel" "FarEditorsModel" "newest" "I") ∈ WB := tb_7 (List.mem_of_getElem? (i := 6) rfl) rfl
theorem w7_8 : (Cond.lays "FarEditorsModel" "FarEditorsModel" "seeded" "J") ∈ WB := tb_7 (List.mem_of_getElem? (i := 8) rfl) rfl
theorem w7_11 : (Cond.arrayClass Jvm.ClassFile.FieldType.char) ∈ WB := tb_7 (List.mem_of_getElem? (i := 11) rfl) rfl
theorem w7_12 : (Cond.arrayClass Jvm.ClassFile.FieldType.boolean) ∈ WB := tb_7 (List.mem_of_getElem? (i := 12) rfl) rfl
theorem w7_13 : (Cond.methodLink "FarEditorsLaw" (17 : Nat) yX12_feed) ∈ WB := tb_7 (List.mem_of_getElem? (i := 13) rfl) rfl
theorem w7_14 : (Cond.instanceMethod yX12_feed) ∈ WB := tb_7 (List.mem_of_getElem? (i := 14) rfl) rfl
theorem w7_15 : (Cond.selects "FarEditorsModel" yX12_feed yX12_feed) ∈ WB := tb_7 (List.mem_of_getElem? (i := 15) rfl) rfl
theorem w7_16 : (Cond.code yX12_feed prog_14_method_5_code (8 : Nat) (Option.some Jvm.ClassFile.FieldType.int)) ∈ WB := tb_7 (List.mem_of_getElem? (i := 16) rfl) rfl
theorem w7_17 : (Cond.methodLink "FarEditorsModel" (129 : Nat) yX12_refuses) ∈ WB := tb_7 (List.mem_of_getElem? (i := 17) rfl) rfl
theorem w7_19 : (Cond.instanceMethod yX12_refuses) ∈ WB := tb_7 (List.mem_of_getElem? (i := 19) rfl) rfl
theorem w7_20 : (Cond.code yX12_refuses prog_14_method_3_code (2 : Nat) (Option.some Jvm.ClassFile.FieldType.int)) ∈ WB := tb_7 (List.mem_of_getElem? (i := 20) rfl) rfl
theorem w7_21 : (Cond.methodLink "FarEditorsLaw" (22 : Nat) yX12_end) ∈ WB := tb_7 (List.mem_of_getElem? (i := 21) rfl) rfl
theorem w7_22 : (Cond.instanceMethod yX12_end) ∈ WB := tb_7 (List.mem_of_getElem? (i := 22) rfl) rfl
theorem w7_23 : (Cond.selects "FarEditorsModel" yX12_end yX12_end) ∈ WB := tb_7 (List.mem_of_getElem? (i := 23) rfl) rfl
theorem w7_24 : (Cond.code yX12_end prog_14_method_6_code (2 : Nat) (Option.some Jvm.ClassFile.FieldType.boolean)) ∈ WB := tb_7 (List.mem_of_getElem? (i := 24) rfl) rfl
theorem w7_25 : (Cond.methodLink "FarEditorsModel" (133 : Nat) yX12_isRefused) ∈ WB := tb_7 (List.mem_of_getElem? (i := 25) rfl) rfl
theorem w7_27 : (Cond.instanceMethod yX12_isRefused) ∈ WB := tb_7 (List.mem_of_getElem? (i := 27) rfl) rfl
theorem w7_28 : (Cond.code yX12_isRefused prog_14_method_4_code (2 : Nat) (Option.some Jvm.ClassFile.FieldType.boolean)) ∈ WB := tb_7 (List.mem_of_getElem? (i := 28) rfl) rfl
theorem w7_29 : (Cond.methodLink "FarEditorsLaw" (174 : Nat) yX12_status) ∈ WB := tb_7 (List.mem_of_getElem? (i := 29) rfl) rfl
theorem w7_30 : (Cond.instanceMethod yX12_status) ∈ WB := tb_7 (List.mem_of_getElem? (i := 30) rfl) rfl
theorem w7_31 : (Cond.selects "FarEditorsModel" yX12_status yX12_status) ∈ WB := tb_7 (List.mem_of_getElem? (i := 31) rfl) rfl
theorem w7_32 : (Cond.code yX12_status prog_14_method_7_code (2 : Nat) (Option.some Jvm.ClassFile.FieldType.int)) ∈ WB := tb_7 (List.mem_of_getElem? (i := 32) rfl) rfl
theorem w7_33 : (Cond.constantLong "FarEditorsModel" (137 : Nat) (6 : Int64)) ∈ WB := tb_7 (List.mem_of_getElem? (i := 33) rfl) rfl
theorem w7_34 : (Cond.methodLink "FarEditorsModel" (139 : Nat) yX12_isIn) ∈ WB := tb_7 (List.mem_of_getElem? (i := 34) rfl) rfl
theorem w7_35 : (Cond.static yX12_isIn) ∈ WB := tb_7 (List.mem_of_getElem? (i := 35) rfl) rfl
theorem w7_36 : (Cond.code yX12_isIn prog_14_method_2_code (6 : Nat) (Option.some Jvm.ClassFile.FieldType.boolean)) ∈ WB := tb_7 (List.mem_of_getElem? (i := 36) rfl) rfl
theorem w7_37 : (Cond.methodLink "FarEditorsLaw" (32 : Nat) yX12_fault) ∈ WB := tb_7 (List.mem_of_getElem? (i := 37) rfl) rfl
theorem w7_38 : (Cond.instanceMethod yX12_fault) ∈ WB := tb_7 (List.mem_of_getElem? (i := 38) rfl) rfl
theorem w7_39 : (Cond.selects "FarEditorsModel" yX12_fault yX12_fault) ∈ WB := tb_7 (List.mem_of_getElem? (i := 39) rfl) rfl
theorem w7_40 : (Cond.code yX12_fault prog_14_method_8_code (2 : Nat) (Option.some Jvm.ClassFile.FieldType.int)) ∈ WB := tb_7 (List.mem_of_getElem? (i := 40) rfl) rfl
theorem w7_41 : (Cond.methodLink "FarEditorsLaw" (27 : Nat) yX12_session) ∈ WB := tb_7 (List.mem_of_getElem? (i := 41) rfl) rfl
theorem w7_42 : (Cond.instanceMethod yX12_session) ∈ WB := tb_7 (List.mem_of_getElem? (i := 42) rfl) rfl
theorem w7_43 : (Cond.selects "FarEditorsModel" yX12_session yX12_session) ∈ WB := tb_7 (List.mem_of_getElem? (i := 43) rfl) rfl
theorem w7_44 : (Cond.code yX12_session prog_14_method_71_code (1 : Nat) (Option.some Jvm.ClassFile.FieldType.int)) ∈ WB := tb_7 (List.mem_of_getElem? (i := 44) rfl) rfl
theorem w7_45 : (Cond.methodLink "FarEditorsModel" (372 : Nat) yX12_begins) ∈ WB := tb_7 (List.mem_of_getElem? (i := 45) rfl) rfl
theorem w7_47 : (Cond.instanceMethod yX12_begins) ∈ WB := tb_7 (List.mem_of_getElem? (i := 47) rfl) rfl
theorem w7_48 : (Cond.code yX12_begins prog_14_method_9_code (1 : Nat) (Option.none : Option Jvm.ClassFile.FieldType)) ∈ WB := tb_7 (List.mem_of_getElem? (i := 48) rfl) rfl
theorem w7_49 : (Cond.methodLink "FarEditorsModel" (155 : Nat) yX12_goesTo) ∈ WB := tb_7 (List.mem_of_getElem? (i := 49) rfl) rfl
theorem w7_51 : (Cond.instanceMethod yX12_goesTo) ∈ WB := tb_7 (List.mem_of_getElem? (i := 51) rfl) rfl
theorem w7_52 : (Cond.code yX12_goesTo prog_14_method_10_code (2 : Nat) (Option.none : Option Jvm.ClassFile.FieldType)) ∈ WB := tb_7 (List.mem_of_getElem? (i := 52) rfl) rfl
theorem w7_53 : (Cond.methodLink "FarEditorsModel" (375 : Nat) yX12_headTold) ∈ WB := tb_7 (List.mem_of_getElem? (i := 53) rfl) rfl
theorem w7_55 : (Cond.instanceMethod yX12_headTold) ∈ WB := tb_7 (List.mem_of_getElem? (i := 55) rfl) rfl
theorem w7_56 : (Cond.code yX12_headTold prog_14_method_67_code (1 : Nat) (Option.none : Option Jvm.ClassFile.FieldType)) ∈ WB := tb_7 (List.mem_of_getElem? (i := 56) rfl) rfl
theorem w7_57 : (Cond.methodLink "FarEditorsModel" (344 : Nat) yX12_asks) ∈ WB := tb_7 (List.mem_of_getElem? (i := 57) rfl) rfl
theorem w7_59 : (Cond.instanceMethod yX12_asks) ∈ WB := tb_7 (List.mem_of_getElem? (i := 59) rfl) rfl
theorem w7_60 : (Cond.code yX12_asks prog_14_method_17_code (2 : Nat) (Option.none : Option Jvm.ClassFile.FieldType)) ∈ WB := tb_7 (List.mem_of_getElem? (i := 60) rfl) rfl
theorem w7_61 : (Cond.methodLink "FarEditorsModel" (176 : Nat) yX12_takes) ∈ WB := tb_7 (List.mem_of_getElem? (i := 61) rfl) rfl
theorem w7_63 : (Cond.instanceMethod yX12_takes) ∈ WB := tb_7 (List.mem_of_getElem? (i := 63) rfl) rfl
theorem w7_64 : (Cond.code yX12_takes prog_14_method_16_code (2 : Nat) (Option.some Jvm.ClassFile.FieldType.boolean)) ∈ WB := tb_7 (List.mem_of_getElem? (i := 64) rfl) rfl
theorem w7_65 : (Cond.methodLink "FarEditorsModel" (172 : Nat) yX12_isHere) ∈ WB := tb_7 (List.mem_of_getElem? (i := 65) rfl) rfl
theorem w7_67 : (Cond.instanceMethod yX12_isHere) ∈ WB := tb_7 (List.mem_of_getElem? (i := 67) rfl) rfl
theorem w7_68 : (Cond.code yX12_isHere prog_14_method_15_code (4 : Nat) (Option.some Jvm.ClassFile.FieldType.boolean)) ∈ WB := tb_7 (List.mem_of_getElem? (i := 68) rfl) rfl
theorem w7_69 : (Cond.methodLink "FarEditorsModel" (165 : Nat) yX12_look) ∈ WB := tb_7 (List.mem_of_getElem? (i := 69) rfl) rfl
theorem w7_71 : (Cond.instanceMethod yX12_look) ∈ WB := tb_7 (List.mem_of_getElem? (i := 71) rfl) rfl
theorem w7_72 : (Cond.code yX12_look prog_14_method_14_code (1 : Nat) (Option.some Jvm.ClassFile.FieldType.int)) ∈ WB := tb_7 (List.mem_of_getElem? (i := 72) rfl) rfl
theorem w7_73 : (Cond.methodLink "FarEditorsModel" (169 : Nat) yX12_isLetter) ∈ WB := tb_7 (List.mem_of_getElem? (i := 73) rfl) rfl
theorem w7_74 : (Cond.static yX12_isLetter) ∈ WB := tb_7 (List.mem_of_getElem? (i := 74) rfl) rfl
theorem w7_75 : (Cond.code yX12_isLetter prog_14_method_12_code (1 : Nat) (Option.some Jvm.ClassFile.FieldType.boolean)) ∈ WB := tb_7 (List.mem_of_getElem? (i := 75) rfl) rfl
theorem w7_76 : (Cond.methodLink "FarEditorsModel" (179 : Nat) yX12_fail) ∈ WB := tb_7 (List.mem_of_getElem? (i := 76) rfl) rfl
theorem w7_78 : (Cond.instanceMethod yX12_fail) ∈ WB := tb_7 (List.mem_of_getElem? (i := 78) rfl) rfl
theorem w7_79 : (Cond.code yX12_fail prog_14_method_11_code (3 : Nat) (Option.none : Option Jvm.ClassFile.FieldType)) ∈ WB := tb_7 (List.mem_of_getElem? (i := 79) rfl) rfl
theorem w7_80 : (Cond.methodLink "FarEditorsModel" (341 : Nat) yX12_word) ∈ WB := tb_7 (List.mem_of_getElem? (i := 80) rfl) rfl
theorem w7_82 : (Cond.instanceMethod yX12_word) ∈ WB := tb_7 (List.mem_of_getElem? (i := 82) rfl) rfl
theorem w7_83 : (Cond.code yX12_word prog_14_method_21_code (3 : Nat) (Option.some Jvm.ClassFile.FieldType.int)) ∈ WB := tb_7 (List.mem_of_getElem? (i := 83) rfl) rfl
theorem w7_84 : (Cond.methodLink "FarEditorsModel" (338 : Nat) yX12_number) ∈ WB := tb_7 (List.mem_of_getElem? (i := 84) rfl) rfl
theorem w7_86 : (Cond.instanceMethod yX12_number) ∈ WB := tb_7 (List.mem_of_getElem? (i := 86) rfl) rfl
theorem w7_87 : (Cond.code yX12_number prog_14_method_20_code (5 : Nat) (Option.some Jvm.ClassFile.FieldType.int)) ∈ WB := tb_7 (List.mem_of_getElem? (i := 87) rfl) rfl
theorem w7_88 : (Cond.methodLink "FarEditorsModel" (186 : Nat) yX12_isDigit) ∈ WB := tb_7 (List.mem_of_getElem? (i := 88) rfl) rfl
theorem w7_89 : (Cond.static yX12_isDigit) ∈ WB := tb_7 (List.mem_of_getElem? (i := 89) rfl) rfl
theorem w7_90 : (Cond.code yX12_isDigit prog_14_method_13_code (1 : Nat) (Option.some Jvm.ClassFile.FieldType.boolean)) ∈ WB := tb_7 (List.mem_of_getElem? (i := 90) rfl) rfl
theorem w7_91 : (Cond.methodLink "FarEditorsModel" (369 : Nat) yX12_asksSign) ∈ WB := tb_7 (List.mem_of_getElem? (i := 91) rfl) rfl
theorem w7_93 : (Cond.instanceMethod yX12_asksSign) ∈ WB := tb_7 (List.mem_of_getElem? (i := 93) rfl) rfl
theorem w7_94 : (Cond.code yX12_asksSign prog_14_method_19_code (2 : Nat) (Option.none : Option Jvm.ClassFile.FieldType)) ∈ WB := tb_7 (List.mem_of_getElem? (i := 94) rfl) rfl
theorem w7_95 : (Cond.methodLink "FarEditorsModel" (183 : Nat) yX12_takesSign) ∈ WB := tb_7 (List.mem_of_getElem? (i := 95) rfl) rfl
theorem w7_97 : (Cond.instanceMethod yX12_takesSign) ∈ WB := tb_7 (List.mem_of_getElem? (i := 97) rfl) rfl
theorem w7_98 : (Cond.code yX12_takesSign prog_14_method_18_code (2 : Nat) (Option.some Jvm.ClassFile.FieldType.boolean)) ∈ WB := tb_7 (List.mem_of_getElem? (i := 98) rfl) rfl
theorem w7_99 : (Cond.methodLink "FarEditorsModel" (378 : Nat) yX12_statementTold) ∈ WB := tb_7 (List.mem_of_getElem? (i := 99) rfl) rfl
theorem w7_101 : (Cond.instanceMethod yX12_statementTold) ∈ WB := tb_7 (List.mem_of_getElem? (i := 101) rfl) rfl
theorem w7_102 : (Cond.code yX12_statementTold prog_14_method_70_code (1 : Nat) (Option.none : Option Jvm.ClassFile.FieldType)) ∈ WB := tb_7 (List.mem_of_getElem? (i := 102) rfl) rfl
theorem w7_103 : (Cond.methodLink "FarEditorsModel" (360 : Nat) yX12_delayTold) ∈ WB := tb_7 (List.mem_of_getElem? (i := 103) rfl) rfl
theorem w7_105 : (Cond.instanceMethod yX12_delayTold) ∈ WB := tb_7 (List.mem_of_getElem? (i := 105) rfl) rfl
theorem w7_106 : (Cond.code yX12_delayTold prog_14_method_69_code (1 : Nat) (Option.none : Option Jvm.ClassFile.FieldType)) ∈ WB := tb_7 (List.mem_of_getElem? (i := 106) rfl) rfl
theorem w7_107 : (Cond.methodLink "FarEditorsModel" (354 : Nat) yX12_editorTold) ∈ WB := tb_7 (List.mem_of_getElem? (i := 107) rfl) rfl
theorem w7_109 : (Cond.instanceMethod yX12_editorTold) ∈ WB := tb_7 (List.mem_of_getElem? (i := 109) rfl) rfl
theorem w7_110 : (Cond.code yX12_editorTold prog_14_method_65_code (1 : Nat) (Option.some Jvm.ClassFile.FieldType.int)) ∈ WB := tb_7 (List.mem_of_getElem? (i := 110) rfl) rfl
theorem w7_111 : (Cond.methodLink "FarEditorsModel" (363 : Nat) yX12_opTold) ∈ WB := tb_7 (List.mem_of_getElem? (i := 111) rfl) rfl
theorem w7_113 : (Cond.instanceMethod yX12_opTold) ∈ WB := tb_7 (List.mem_of_getElem? (i := 113) rfl) rfl
theorem w7_114 : (Cond.code yX12_opTold prog_14_method_66_code (5 : Nat) (Option.none : Option Jvm.ClassFile.FieldType)) ∈ WB := tb_7 (List.mem_of_getElem? (i := 114) rfl) rfl
theorem w7_115 : (Cond.methodLink "FarEditorsModel" (366 : Nat) yX12_markTold) ∈ WB := tb_7 (List.mem_of_getElem? (i := 115) rfl) rfl
theorem w7_117 : (Cond.instanceMethod yX12_markTold) ∈ WB := tb_7 (List.mem_of_getElem? (i := 117) rfl) rfl
theorem w7_118 : (Cond.code yX12_markTold prog_14_method_68_code (1 : Nat) (Option.none : Option Jvm.ClassFile.FieldType)) ∈ WB := tb_7 (List.mem_of_getElem? (i := 118) rfl) rfl
theorem w7_119 : (Cond.methodLink "FarEditorsModel" (381 : Nat) yX12_stands) ∈ WB := tb_7 (List.mem_of_getElem? (i := 119) rfl) rfl
theorem w7_121 : (Cond.instanceMethod yX12_stands) ∈ WB := tb_7 (List.mem_of_getElem? (i := 121) rfl) rfl
theorem w7_122 : (Cond.code yX12_stands prog_14_method_72_code (3 : Nat) (Option.none : Option Jvm.ClassFile.FieldType)) ∈ WB := tb_7 (List.mem_of_getElem? (i := 122) rfl) rfl
theorem w7_123 : (Cond.methodLink "FarEditorsModel" (237 : Nat) yX12_of) ∈ WB := tb_7 (List.mem_of_getElem? (i := 123) rfl) rfl
theorem w7_124 : (Cond.static yX12_of) ∈ WB := tb_7 (List.mem_of_getElem? (i := 124) rfl) rfl
theorem w7_125 : (Cond.code yX12_of prog_14_method_38_code (2 : Nat) (Option.some Jvm.ClassFile.FieldType.int)) ∈ WB := tb_7 (List.mem_of_getElem? (i := 125) rfl) rfl
theorem w7_126 : (Cond.methodLink "FarEditorsModel" (387 : Nat) yX12_goesOver) ∈ WB := tb_7 (List.mem_of_getElem? (i := 126) rfl) rfl
theorem w7_128 : (Cond.instanceMethod yX12_goesOver) ∈ WB := tb_7 (List.mem_of_getElem? (i := 128) rfl) rfl
theorem w7_129 : (Cond.code yX12_goesOver prog_14_method_73_code (2 : Nat) (Option.none : Option Jvm.ClassFile.FieldType)) ∈ WB := tb_7 (List.mem_of_getElem? (i := 129) rfl) rfl
theorem w7_130 : (Cond.methodLink "FarEditorsModel" (396 : Nat) yX12_isLaid) ∈ WB := tb_7 (List.mem_of_getElem? (i := 130) rfl) rfl
theorem w7_132 : (Cond.instanceMethod yX12_isLaid) ∈ WB := tb_7 (List.mem_of_getElem? (i := 132) rfl) rfl
theorem w7_133 : (Cond.code yX12_isLaid prog_14_method_74_code (2 : Nat) (Option.none : Option Jvm.ClassFile.FieldType)) ∈ WB := tb_7 (List.mem_of_getElem? (i := 133) rfl) rfl
theorem w7_134 : (Cond.methodLink "FarEditorsModel" (399 : Nat) yX12_isDone) ∈ WB := tb_7 (List.mem_of_getElem? (i := 134) rfl) rfl
theorem w7_136 : (Cond.instanceMethod yX12_isDone) ∈ WB := tb_7 (List.mem_of_getElem? (i := 136) rfl) rfl
theorem w7_137 : (Cond.code yX12_isDone prog_14_method_75_code (5 : Nat) (Option.none : Option Jvm.ClassFile.FieldType)) ∈ WB := tb_7 (List.mem_of_getElem? (i := 137) rfl) rfl
theorem w7_138 : (Cond.methodLink "FarEditorsModel" (402 : Nat) yX12_isOp) ∈ WB := tb_7 (List.mem_of_getElem? (i := 138) rfl) rfl
theorem w7_140 : (Cond.instanceMethod yX12_isOp) ∈ WB := tb_7 (List.mem_of_getElem? (i := 140) rfl) rfl
theorem w7_141 : (Cond.code yX12_isOp prog_14_method_78_code (7 : Nat) (Option.some Jvm.ClassFile.FieldType.boolean)) ∈ WB := tb_7 (List.mem_of_getElem? (i := 141) rfl) rfl
theorem w7_142 : (Cond.methodLink "FarEditorsModel" (246 : Nat) yX12_its) ∈ WB := tb_7 (List.mem_of_getElem? (i := 142) rfl) rfl
theorem w7_144 : (Cond.instanceMethod yX12_its) ∈ WB := tb_7 (List.mem_of_getElem? (i := 144) rfl) rfl
theorem w7_145 : (Cond.code yX12_its prog_14_method_39_code (3 : Nat) (Option.some Jvm.ClassFile.FieldType.int)) ∈ WB := tb_7 (List.mem_of_getElem? (i := 145) rfl) rfl
theorem w7_146 : (Cond.methodLink "FarEditorsModel" (422 : Nat) yX12_givesA) ∈ WB := tb_7 (List.mem_of_getElem? (i := 146) rfl) rfl
theorem w7_148 : (Cond.instanceMethod yX12_givesA) ∈ WB := tb_7 (List.mem_of_getElem? (i := 148) rfl) rfl
theorem w7_149 : (Cond.code yX12_givesA prog_14_method_79_code (2 : Nat) (Option.none : Option Jvm.ClassFile.FieldType)) ∈ WB := tb_7 (List.mem_of_getElem? (i := 149) rfl) rfl
theorem w7_150 : (Cond.methodLink "FarEditorsModel" (207 : Nat) yX12_settles) ∈ WB := tb_7 (List.mem_of_getElem? (i := 150) rfl) rfl
theorem w7_152 : (Cond.instanceMethod yX12_settles) ∈ WB := tb_7 (List.mem_of_getElem? (i := 152) rfl) rfl
theorem w7_153 : (Cond.code yX12_settles prog_14_method_24_code (7 : Nat) (Option.none : Option Jvm.ClassFile.FieldType)) ∈ WB := tb_7 (List.mem_of_getElem? (i := 153) rfl) rfl
theorem w7_154 : (Cond.methodLink "FarEditorsModel" (405 : Nat) yX12_canEdit) ∈ WB := tb_7 (List.mem_of_getElem? (i := 154) rfl) rfl
theorem w7_156 : (Cond.instanceMethod yX12_canEdit) ∈ WB := tb_7 (List.mem_of_getElem? (i := 156) rfl) rfl
theorem w7_157 : (Cond.code yX12_canEdit prog_14_method_54_code (1 : Nat) (Option.some Jvm.ClassFile.FieldType.boolean)) ∈ WB := tb_7 (List.mem_of_getElem? (i := 157) rfl) rfl
theorem w7_158 : (Cond.methodLink "FarEditorsModel" (277 : Nat) yX12_isIdle) ∈ WB := tb_7 (List.mem_of_getElem? (i := 158) rfl) rfl
theorem w7_159 : (Cond.static yX12_isIdle) ∈ WB := tb_7 (List.mem_of_getElem? (i := 159) rfl) rfl
theorem w7_160 : (Cond.code yX12_isIdle prog_14_method_28_code (3 : Nat) (Option.some Jvm.ClassFile.FieldType.boolean)) ∈ WB := tb_7 (List.mem_of_getElem? (i := 160) rfl) rfl
theorem w7_161 : (Cond.methodLink "FarEditorsModel" (281 : Nat) yX12_putsOf) ∈ WB := tb_7 (List.mem_of_getElem? (i := 161) rfl) rfl
theorem w7_162 : (Cond.static yX12_putsOf) ∈ WB := tb_7 (List.mem_of_getElem? (i := 162) rfl) rfl
theorem w7_163 : (Cond.code yX12_putsOf prog_14_method_27_code (4 : Nat) (Option.some Jvm.ClassFile.FieldType.int)) ∈ WB := tb_7 (List.mem_of_getElem? (i := 163) rfl) rfl
theorem w7_164 : (Cond.methodLink "FarEditorsModel" (409 : Nat) yX12_edits) ∈ WB := tb_7 (List.mem_of_getElem? (i := 164) rfl) rfl
theorem w7_166 : (Cond.instanceMethod yX12_edits) ∈ WB := tb_7 (List.mem_of_getElem? (i := 166) rfl) rfl
theorem w7_167 : (Cond.code yX12_edits prog_14_method_55_code (4 : Nat) (Option.none : Option Jvm.ClassFile.FieldType)) ∈ WB := tb_7 (List.mem_of_getElem? (i := 167) rfl) rfl
theorem w7_168 : (Cond.methodLink "FarEditorsModel" (284 : Nat) yX12_inverts) ∈ WB := tb_7 (List.mem_of_getElem? (i := 168) rfl) rfl
theorem w7_170 : (Cond.instanceMethod yX12_inverts) ∈ WB := tb_7 (List.mem_of_getElem? (i := 170) rfl) rfl
theorem w7_171 : (Cond.code yX12_inverts prog_14_method_33_code (5 : Nat) (Option.none : Option Jvm.ClassFile.FieldType)) ∈ WB := tb_7 (List.mem_of_getElem? (i := 171) rfl) rfl
theorem w7_172 : (Cond.methodLink "FarEditorsModel" (201 : Nat) yX12_givesC) ∈ WB := tb_7 (List.mem_of_getElem? (i := 172) rfl) rfl
theorem w7_174 : (Cond.instanceMethod yX12_givesC) ∈ WB := tb_7 (List.mem_of_getElem? (i := 174) rfl) rfl
theorem w7_175 : (Cond.code yX12_givesC prog_14_method_29_code (2 : Nat) (Option.none : Option Jvm.ClassFile.FieldType)) ∈ WB := tb_7 (List.mem_of_getElem? (i := 175) rfl) rfl
theorem w7_176 : (Cond.methodLink "FarEditorsModel" (287 : Nat) yX12_pushes) ∈ WB := tb_7 (List.mem_of_getElem? (i := 176) rfl) rfl
theorem w7_178 : (Cond.instanceMethod yX12_pushes) ∈ WB := tb_7 (List.mem_of_getElem? (i := 178) rfl) rfl
theorem w7_179 : (Cond.code yX12_pushes prog_14_method_49_code (7 : Nat) (Option.none : Option Jvm.ClassFile.FieldType)) ∈ WB := tb_7 (List.mem_of_getElem? (i := 179) rfl) rfl
theorem w7_180 : (Cond.methodLink "FarEditorsModel" (240 : Nat) yX12_dropsOldest) ∈ WB := tb_7 (List.mem_of_getElem? (i := 180) rfl) rfl
theorem w7_182 : (Cond.instanceMethod yX12_dropsOldest) ∈ WB := tb_7 (List.mem_of_getElem? (i := 182) rfl) rfl
theorem w7_183 : (Cond.code yX12_dropsOldest prog_14_method_48_code (6 : Nat) (Option.none : Option Jvm.ClassFile.FieldType)) ∈ WB := tb_7 (List.mem_of_getElem? (i := 183) rfl) rfl
theorem w7_184 : (Cond.methodLink "FarEditorsModel" (233 : Nat) yX12_entryAt) ∈ WB := tb_7 (List.mem_of_getElem? (i := 184) rfl) rfl
theorem w7_186 : (Cond.instanceMethod yX12_entryAt) ∈ WB := tb_7 (List.mem_of_getElem? (i := 186) rfl) rfl
theorem w7_187 : (Cond.code yX12_entryAt prog_14_method_47_code (5 : Nat) (Option.some Jvm.ClassFile.FieldType.int)) ∈ WB := tb_7 (List.mem_of_getElem? (i := 187) rfl) rfl
theorem w7_188 : (Cond.methodLink "FarEditorsModel" (243 : Nat) yX12_keepsC) ∈ WB := tb_7 (List.mem_of_getElem? (i := 188) rfl) rfl
theorem w7_190 : (Cond.instanceMethod yX12_keepsC) ∈ WB := tb_7 (List.mem_of_getElem? (i := 190) rfl) rfl
theorem w7_191 : (Cond.code yX12_keepsC prog_14_method_44_code (2 : Nat) (Option.none : Option Jvm.ClassFile.FieldType)) ∈ WB := tb_7 (List.mem_of_getElem? (i := 191) rfl) rfl
theorem w7_192 : (Cond.methodLink "FarEditorsModel" (222 : Nat) yX12_gathers) ∈ WB := tb_7 (List.mem_of_getElem? (i := 192) rfl) rfl
theorem w7_193 : (Cond.static yX12_gathers) ∈ WB := tb_7 (List.mem_of_getElem? (i := 193) rfl) rfl
theorem w7_194 : (Cond.code yX12_gathers prog_14_method_23_code (7 : Nat) (Option.some Jvm.ClassFile.FieldType.int)) ∈ WB := tb_7 (List.mem_of_getElem? (i := 194) rfl) rfl
theorem w7_195 : (Cond.methodLink "FarEditorsModel" (226 : Nat) yX12_oldOf) ∈ WB := tb_7 (List.mem_of_getElem? (i := 195) rfl) rfl
theorem w7_196 : (Cond.static yX12_oldOf) ∈ WB := tb_7 (List.mem_of_getElem? (i := 196) rfl) rfl
theorem w7_197 : (Cond.code yX12_oldOf prog_14_method_25_code (4 : Nat) (Option.some Jvm.ClassFile.FieldType.int)) ∈ WB := tb_7 (List.mem_of_getElem? (i := 197) rfl) rfl
theorem w7_198 : (Cond.methodLink "FarEditorsModel" (291 : Nat) yX12_textChanged) ∈ WB := tb_7 (List.mem_of_getElem? (i := 198) rfl) rfl
theorem w7_200 : (Cond.instanceMethod yX12_textChanged) ∈ WB := tb_7 (List.mem_of_getElem? (i := 200) rfl) rfl
theorem w7_201 : (Cond.code yX12_textChanged prog_14_method_52_code (5 : Nat) (Option.none : Option Jvm.ClassFile.FieldType)) ∈ WB := tb_7 (List.mem_of_getElem? (i := 201) rfl) rfl
theorem w7_202 : (Cond.methodLink "FarEditorsModel" (267 : Nat) yX12_changes) ∈ WB := tb_7 (List.mem_of_getElem? (i := 202) rfl) rfl
theorem w7_204 : (Cond.instanceMethod yX12_changes) ∈ WB := tb_7 (List.mem_of_getElem? (i := 204) rfl) rfl
theorem w7_205 : (Cond.code yX12_changes prog_14_method_36_code (8 : Nat) (Option.some Jvm.ClassFile.FieldType.int)) ∈ WB := tb_7 (List.mem_of_getElem? (i := 205) rfl) rfl
theorem w7_206 : (Cond.methodLink "FarEditorsModel" (263 : Nat) yX12_carried) ∈ WB := tb_7 (List.mem_of_getElem? (i := 206) rfl) rfl
theorem w7_207 : (Cond.static yX12_carried) ∈ WB := tb_7 (List.mem_of_getElem? (i := 207) rfl) rfl
theorem w7_208 : (Cond.code yX12_carried prog_14_method_37_code (7 : Nat) (Option.some Jvm.ClassFile.FieldType.int)) ∈ WB := tb_7 (List.mem_of_getElem? (i := 208) rfl) rfl
theorem w7_209 : (Cond.methodLink "FarEditorsModel" (270 : Nat) yX12_marksCarried) ∈ WB := tb_7 (List.mem_of_getElem? (i := 209) rfl) rfl
theorem w7_211 : (Cond.instanceMethod yX12_marksCarried) ∈ WB := tb_7 (List.mem_of_getElem? (i := 211) rfl) rfl
theorem w7_212 : (Cond.code yX12_marksCarried prog_14_method_51_code (7 : Nat) (Option.none : Option Jvm.ClassFile.FieldType)) ∈ WB := tb_7 (List.mem_of_getElem? (i := 212) rfl) rfl
theorem w7_213 : (Cond.methodLink "FarEditorsModel" (295 : Nat) yX12_keepsA) ∈ WB := tb_7 (List.mem_of_getElem? (i := 213) rfl) rfl
theorem w7_215 : (Cond.instanceMethod yX12_keepsA) ∈ WB := tb_7 (List.mem_of_getElem? (i := 215) rfl) rfl
theorem w7_216 : (Cond.code yX12_keepsA prog_14_method_56_code (2 : Nat) (Option.none : Option Jvm.ClassFile.FieldType)) ∈ WB := tb_7 (List.mem_of_getElem? (i := 216) rfl) rfl
theorem w7_217 : (Cond.methodLink "FarEditorsModel" (298 : Nat) yX12_sends) ∈ WB := tb_7 (List.mem_of_getElem? (i := 217) rfl) rfl
theorem w7_219 : (Cond.instanceMethod yX12_sends) ∈ WB := tb_7 (List.mem_of_getElem? (i := 219) rfl) rfl
theorem w7_220 : (Cond.code yX12_sends prog_14_method_53_code (2 : Nat) (Option.none : Option Jvm.ClassFile.FieldType)) ∈ WB := tb_7 (List.mem_of_getElem? (i := 220) rfl) rfl
theorem w7_221 : (Cond.methodLink "FarEditorsModel" (274 : Nat) yX12_copiesOp) ∈ WB := tb_7 (List.mem_of_getElem? (i := 221) rfl) rfl
theorem w7_223 : (Cond.instanceMethod yX12_copiesOp) ∈ WB := tb_7 (List.mem_of_getElem? (i := 223) rfl) rfl
theorem w7_224 : (Cond.code yX12_copiesOp prog_14_method_45_code (4 : Nat) (Option.none : Option Jvm.ClassFile.FieldType)) ∈ WB := tb_7 (List.mem_of_getElem? (i := 224) rfl) rfl
theorem w7_225 : (Cond.methodLink "FarEditorsModel" (249 : Nat) yX12_keptToA) ∈ WB := tb_7 (List.mem_of_getElem? (i := 225) rfl) rfl
theorem w7_227 : (Cond.instanceMethod yX12_keptToA) ∈ WB := tb_7 (List.mem_of_getElem? (i := 227) rfl) rfl
theorem w7_228 : (Cond.code yX12_keptToA prog_14_method_43_code (2 : Nat) (Option.none : Option Jvm.ClassFile.FieldType)) ∈ WB := tb_7 (List.mem_of_getElem? (i := 228) rfl) rfl
theorem w7_229 : (Cond.methodLink "FarEditorsModel" (218 : Nat) yX12_spreads) ∈ WB := tb_7 (List.mem_of_getElem? (i := 229) rfl) rfl
theorem w7_230 : (Cond.static yX12_spreads) ∈ WB := tb_7 (List.mem_of_getElem? (i := 230) rfl) rfl
theorem w7_231 : (Cond.code yX12_spreads prog_14_method_22_code (10 : Nat) (Option.some Jvm.ClassFile.FieldType.int)) ∈ WB := tb_7 (List.mem_of_getElem? (i := 231) rfl) rfl
theorem w7_232 : (Cond.methodLink "FarEditorsModel" (301 : Nat) yX12_joins) ∈ WB := tb_7 (List.mem_of_getElem? (i := 232) rfl) rfl
theorem w7_234 : (Cond.instanceMethod yX12_joins) ∈ WB := tb_7 (List.mem_of_getElem? (i := 234) rfl) rfl
theorem w7_235 : (Cond.code yX12_joins prog_14_method_32_code (3 : Nat) (Option.none : Option Jvm.ClassFile.FieldType)) ∈ WB := tb_7 (List.mem_of_getElem? (i := 235) rfl) rfl
theorem w7_236 : (Cond.methodLink "FarEditorsModel" (304 : Nat) yX12_takesCAsA) ∈ WB := tb_7 (List.mem_of_getElem? (i := 236) rfl) rfl
theorem w7_238 : (Cond.instanceMethod yX12_takesCAsA) ∈ WB := tb_7 (List.mem_of_getElem? (i := 238) rfl) rfl
theorem w7_239 : (Cond.code yX12_takesCAsA prog_14_method_34_code (2 : Nat) (Option.none : Option Jvm.ClassFile.FieldType)) ∈ WB := tb_7 (List.mem_of_getElem? (i := 239) rfl) rfl
theorem w8_0 : (Cond.methodLink "FarEditorsModel" (412 : Nat) yX12_canMark) ∈ WB := tb_8 (List.mem_of_getElem? (i := 0) rfl) rfl
theorem w8_2 : (Cond.instanceMethod yX12_canMark) ∈ WB := tb_8 (List.mem_of_getElem? (i := 2) rfl) rfl
theorem w8_3 : (Cond.code yX12_canMark prog_14_method_76_code (4 : Nat) (Option.some Jvm.ClassFile.FieldType.boolean)) ∈ WB := tb_8 (List.mem_of_getElem? (i := 3) rfl) rfl
theorem w8_4 : (Cond.methodLink "FarEditorsModel" (416 : Nat) yX12_marked) ∈ WB := tb_8 (List.mem_of_getElem? (i := 4) rfl) rfl
theorem w8_6 : (Cond.instanceMethod yX12_marked) ∈ WB := tb_8 (List.mem_of_getElem? (i := 6) rfl) rfl
theorem w8_7 : (Cond.code yX12_marked prog_14_method_77_code (6 : Nat) (Option.none : Option Jvm.ClassFile.FieldType)) ∈ WB := tb_8 (List.mem_of_getElem? (i := 7) rfl) rfl
theorem w8_8 : (Cond.methodLink "FarEditorsModel" (419 : Nat) yX12_ticksGo) ∈ WB := tb_8 (List.mem_of_getElem? (i := 8) rfl) rfl
theorem w8_10 : (Cond.instanceMethod yX12_ticksGo) ∈ WB := tb_8 (List.mem_of_getElem? (i := 10) rfl) rfl
theorem w8_11 : (Cond.code yX12_ticksGo prog_14_method_64_code (3 : Nat) (Option.none : Option Jvm.ClassFile.FieldType)) ∈ WB := tb_8 (List.mem_of_getElem? (i := 11) rfl) rfl
theorem w8_12 : (Cond.methodLink "FarEditorsModel" (332 : Nat) yX12_tickGoes) ∈ WB := tb_8 (List.mem_of_getElem? (i := 12) rfl) rfl
theorem w8_14 : (Cond.instanceMethod yX12_tickGoes) ∈ WB := tb_8 (List.mem_of_getElem? (i := 14) rfl) rfl
theorem w8_15 : (Cond.code yX12_tickGoes prog_14_method_62_code (3 : Nat) (Option.none : Option Jvm.ClassFile.FieldType)) ∈ WB := tb_8 (List.mem_of_getElem? (i := 15) rfl) rfl
theorem w8_16 : (Cond.methodLink "FarEditorsModel" (323 : Nat) yX12_serverTakes) ∈ WB := tb_8 (List.mem_of_getElem? (i := 16) rfl) rfl
theorem w8_18 : (Cond.instanceMethod yX12_serverTakes) ∈ WB := tb_8 (List.mem_of_getElem? (i := 18) rfl) rfl
theorem w8_19 : (Cond.code yX12_serverTakes prog_14_method_58_code (4 : Nat) (Option.none : Option Jvm.ClassFile.FieldType)) ∈ WB := tb_8 (List.mem_of_getElem? (i := 19) rfl) rfl
theorem w8_20 : (Cond.methodLink "FarEditorsModel" (310 : Nat) yX12_sentTurned) ∈ WB := tb_8 (List.mem_of_getElem? (i := 20) rfl) rfl
theorem w8_22 : (Cond.instanceMethod yX12_sentTurned) ∈ WB := tb_8 (List.mem_of_getElem? (i := 22) rfl) rfl
theorem w8_23 : (Cond.code yX12_sentTurned prog_14_method_57_code (3 : Nat) (Option.none : Option Jvm.ClassFile.FieldType)) ∈ WB := tb_8 (List.mem_of_getElem? (i := 23) rfl) rfl
theorem w8_24 : (Cond.methodLink "FarEditorsModel" (307 : Nat) yX12_opToB) ∈ WB := tb_8 (List.mem_of_getElem? (i := 24) rfl) rfl
theorem w8_26 : (Cond.instanceMethod yX12_opToB) ∈ WB := tb_8 (List.mem_of_getElem? (i := 26) rfl) rfl
theorem w8_27 : (Cond.code yX12_opToB prog_14_method_42_code (2 : Nat) (Option.none : Option Jvm.ClassFile.FieldType)) ∈ WB := tb_8 (List.mem_of_getElem? (i := 27) rfl) rfl
theorem w8_28 : (Cond.methodLink "FarEditorsModel" (252 : Nat) yX12_isAhead) ∈ WB := tb_8 (List.mem_of_getElem? (i := 28) rfl) rfl
theorem w8_30 : (Cond.instanceMethod yX12_isAhead) ∈ WB := tb_8 (List.mem_of_getElem? (i := 30) rfl) rfl
theorem w8_31 : (Cond.code yX12_isAhead prog_14_method_46_code (3 : Nat) (Option.some Jvm.ClassFile.FieldType.boolean)) ∈ WB := tb_8 (List.mem_of_getElem? (i := 31) rfl) rfl
theorem w8_32 : (Cond.methodLink "FarEditorsModel" (256 : Nat) yX12_turns) ∈ WB := tb_8 (List.mem_of_getElem? (i := 32) rfl) rfl
theorem w8_34 : (Cond.instanceMethod yX12_turns) ∈ WB := tb_8 (List.mem_of_getElem? (i := 34) rfl) rfl
theorem w8_35 : (Cond.code yX12_turns prog_14_method_31_code (6 : Nat) (Option.none : Option Jvm.ClassFile.FieldType)) ∈ WB := tb_8 (List.mem_of_getElem? (i := 35) rfl) rfl
theorem w8_36 : (Cond.methodLink "FarEditorsModel" (204 : Nat) yX12_givesD) ∈ WB := tb_8 (List.mem_of_getElem? (i := 36) rfl) rfl
theorem w8_38 : (Cond.instanceMethod yX12_givesD) ∈ WB := tb_8 (List.mem_of_getElem? (i := 38) rfl) rfl
theorem w8_39 : (Cond.code yX12_givesD prog_14_method_30_code (2 : Nat) (Option.none : Option Jvm.ClassFile.FieldType)) ∈ WB := tb_8 (List.mem_of_getElem? (i := 39) rfl) rfl
theorem w8_40 : (Cond.methodLink "FarEditorsModel" (329 : Nat) yX12_comes) ∈ WB := tb_8 (List.mem_of_getElem? (i := 40) rfl) rfl
theorem w8_42 : (Cond.instanceMethod yX12_comes) ∈ WB := tb_8 (List.mem_of_getElem? (i := 42) rfl) rfl
theorem w8_43 : (Cond.code yX12_comes prog_14_method_61_code (3 : Nat) (Option.none : Option Jvm.ClassFile.FieldType)) ∈ WB := tb_8 (List.mem_of_getElem? (i := 43) rfl) rfl
theorem w8_44 : (Cond.methodLink "FarEditorsModel" (313 : Nat) yX12_ownComes) ∈ WB := tb_8 (List.mem_of_getElem? (i := 44) rfl) rfl
theorem w8_46 : (Cond.instanceMethod yX12_ownComes) ∈ WB := tb_8 (List.mem_of_getElem? (i := 46) rfl) rfl
theorem w8_47 : (Cond.code yX12_ownComes prog_14_method_59_code (2 : Nat) (Option.none : Option Jvm.ClassFile.FieldType)) ∈ WB := tb_8 (List.mem_of_getElem? (i := 47) rfl) rfl
theorem w8_48 : (Cond.methodLink "FarEditorsModel" (316 : Nat) yX12_turnedOver) ∈ WB := tb_8 (List.mem_of_getElem? (i := 48) rfl) rfl
theorem w8_50 : (Cond.instanceMethod yX12_turnedOver) ∈ WB := tb_8 (List.mem_of_getElem? (i := 50) rfl) rfl
theorem w8_51 : (Cond.code yX12_turnedOver prog_14_method_60_code (4 : Nat) (Option.none : Option Jvm.ClassFile.FieldType)) ∈ WB := tb_8 (List.mem_of_getElem? (i := 51) rfl) rfl
theorem w8_52 : (Cond.methodLink "FarEditorsModel" (260 : Nat) yX12_takesDAsB) ∈ WB := tb_8 (List.mem_of_getElem? (i := 52) rfl) rfl
theorem w8_54 : (Cond.instanceMethod yX12_takesDAsB) ∈ WB := tb_8 (List.mem_of_getElem? (i := 54) rfl) rfl
theorem w8_55 : (Cond.code yX12_takesDAsB prog_14_method_35_code (2 : Nat) (Option.none : Option Jvm.ClassFile.FieldType)) ∈ WB := tb_8 (List.mem_of_getElem? (i := 55) rfl) rfl
theorem w8_56 : (Cond.methodLink "FarEditorsModel" (319 : Nat) yX12_carriesStack) ∈ WB := tb_8 (List.mem_of_getElem? (i := 56) rfl) rfl
theorem w8_58 : (Cond.instanceMethod yX12_carriesStack) ∈ WB := tb_8 (List.mem_of_getElem? (i := 58) rfl) rfl
theorem w8_59 : (Cond.code yX12_carriesStack prog_14_method_50_code (9 : Nat) (Option.none : Option Jvm.ClassFile.FieldType)) ∈ WB := tb_8 (List.mem_of_getElem? (i := 59) rfl) rfl
theorem w8_60 : (Cond.methodLink "FarEditorsLaw" (36 : Nat) yX12_has) ∈ WB := tb_8 (List.mem_of_getElem? (i := 60) rfl) rfl
theorem w8_61 : (Cond.instanceMethod yX12_has) ∈ WB := tb_8 (List.mem_of_getElem? (i := 61) rfl) rfl
theorem w8_62 : (Cond.selects "FarEditorsModel" yX12_has yX12_has) ∈ WB := tb_8 (List.mem_of_getElem? (i := 62) rfl) rfl
theorem w8_63 : (Cond.code yX12_has prog_14_method_80_code (2 : Nat) (Option.some Jvm.ClassFile.FieldType.int)) ∈ WB := tb_8 (List.mem_of_getElem? (i := 63) rfl) rfl
theorem w8_64 : (Cond.methodLink "FarEditorsModel" (425 : Nat) yX12_serverText) ∈ WB := tb_8 (List.mem_of_getElem? (i := 64) rfl) rfl
theorem w8_66 : (Cond.instanceMethod yX12_serverText) ∈ WB := tb_8 (List.mem_of_getElem? (i := 66) rfl) rfl
theorem w8_67 : (Cond.code yX12_serverText prog_14_method_82_code (3 : Nat) (Option.some Jvm.ClassFile.FieldType.int)) ∈ WB := tb_8 (List.mem_of_getElem? (i := 67) rfl) rfl
theorem w8_68 : (Cond.methodLink "FarEditorsModel" (437 : Nat) yX12_changesBoth) ∈ WB := tb_8 (List.mem_of_getElem? (i := 68) rfl) rfl
theorem w8_70 : (Cond.instanceMethod yX12_changesBoth) ∈ WB := tb_8 (List.mem_of_getElem? (i := 70) rfl) rfl
theorem w8_71 : (Cond.code yX12_changesBoth prog_14_method_83_code (5 : Nat) (Option.some Jvm.ClassFile.FieldType.int)) ∈ WB := tb_8 (List.mem_of_getElem? (i := 71) rfl) rfl
theorem w8_72 : (Cond.methodLink "FarEditorsModel" (428 : Nat) yX12_wayMany) ∈ WB := tb_8 (List.mem_of_getElem? (i := 72) rfl) rfl
theorem w8_74 : (Cond.instanceMethod yX12_wayMany) ∈ WB := tb_8 (List.mem_of_getElem? (i := 74) rfl) rfl
theorem w8_75 : (Cond.code yX12_wayMany prog_14_method_63_code (3 : Nat) (Option.some Jvm.ClassFile.FieldType.int)) ∈ WB := tb_8 (List.mem_of_getElem? (i := 75) rfl) rfl
theorem w8_76 : (Cond.methodLink "FarEditorsLaw" (41 : Nat) yX12_editor) ∈ WB := tb_8 (List.mem_of_getElem? (i := 76) rfl) rfl
theorem w8_77 : (Cond.instanceMethod yX12_editor) ∈ WB := tb_8 (List.mem_of_getElem? (i := 77) rfl) rfl
theorem w8_78 : (Cond.selects "FarEditorsModel" yX12_editor yX12_editor) ∈ WB := tb_8 (List.mem_of_getElem? (i := 78) rfl) rfl
theorem w8_79 : (Cond.code yX12_editor prog_14_method_81_code (3 : Nat) (Option.some Jvm.ClassFile.FieldType.int)) ∈ WB := tb_8 (List.mem_of_getElem? (i := 79) rfl) rfl
theorem w8_80 : (Cond.methodLink "FarEditorsModel" (431 : Nat) yX12_isEditor) ∈ WB := tb_8 (List.mem_of_getElem? (i := 80) rfl) rfl
theorem w8_82 : (Cond.instanceMethod yX12_isEditor) ∈ WB := tb_8 (List.mem_of_getElem? (i := 82) rfl) rfl
theorem w8_83 : (Cond.code yX12_isEditor prog_14_method_40_code (2 : Nat) (Option.some Jvm.ClassFile.FieldType.boolean)) ∈ WB := tb_8 (List.mem_of_getElem? (i := 83) rfl) rfl
theorem w8_84 : (Cond.methodLink "FarEditorsLaw" (45 : Nat) yX12_letter) ∈ WB := tb_8 (List.mem_of_getElem? (i := 84) rfl) rfl
theorem w8_85 : (Cond.instanceMethod yX12_letter) ∈ WB := tb_8 (List.mem_of_getElem? (i := 85) rfl) rfl
theorem w8_86 : (Cond.selects "FarEditorsModel" yX12_letter yX12_letter) ∈ WB := tb_8 (List.mem_of_getElem? (i := 86) rfl) rfl
theorem w8_87 : (Cond.code yX12_letter prog_14_method_84_code (3 : Nat) (Option.some Jvm.ClassFile.FieldType.int)) ∈ WB := tb_8 (List.mem_of_getElem? (i := 87) rfl) rfl
theorem w8_88 : (Cond.methodLink "FarEditorsModel" (440 : Nat) yX12_was) ∈ WB := tb_8 (List.mem_of_getElem? (i := 88) rfl) rfl
theorem w8_89 : (Cond.instanceMethod yX12_was) ∈ WB := tb_8 (List.mem_of_getElem? (i := 89) rfl) rfl
theorem w8_90 : (Cond.selects "FarEditorsModel" yX12_was yX12_was) ∈ WB := tb_8 (List.mem_of_getElem? (i := 90) rfl) rfl
theorem w8_91 : (Cond.code yX12_was prog_14_method_93_code (3 : Nat) (Option.some Jvm.ClassFile.FieldType.int)) ∈ WB := tb_8 (List.mem_of_getElem? (i := 91) rfl) rfl
theorem w8_92 : (Cond.methodLink "FarEditorsLaw" (50 : Nat) yX12_step) ∈ WB := tb_8 (List.mem_of_getElem? (i := 92) rfl) rfl
theorem w8_93 : (Cond.instanceMethod yX12_step) ∈ WB := tb_8 (List.mem_of_getElem? (i := 93) rfl) rfl
theorem w8_94 : (Cond.selects "FarEditorsModel" yX12_step yX12_step) ∈ WB := tb_8 (List.mem_of_getElem? (i := 94) rfl) rfl
theorem w8_95 : (Cond.code yX12_step prog_14_method_87_code (5 : Nat) (Option.some Jvm.ClassFile.FieldType.int)) ∈ WB := tb_8 (List.mem_of_getElem? (i := 95) rfl) rfl
theorem w8_96 : (Cond.methodLink "FarEditorsModel" (449 : Nat) yX12_isThere) ∈ WB := tb_8 (List.mem_of_getElem? (i := 96) rfl) rfl
theorem w8_98 : (Cond.instanceMethod yX12_isThere) ∈ WB := tb_8 (List.mem_of_getElem? (i := 98) rfl) rfl
theorem w8_99 : (Cond.code yX12_isThere prog_14_method_88_code (3 : Nat) (Option.some Jvm.ClassFile.FieldType.boolean)) ∈ WB := tb_8 (List.mem_of_getElem? (i := 99) rfl) rfl
theorem w8_100 : (Cond.methodLink "FarEditorsModel" (455 : Nat) yX12_isLatest) ∈ WB := tb_8 (List.mem_of_getElem? (i := 100) rfl) rfl
theorem w8_102 : (Cond.instanceMethod yX12_isLatest) ∈ WB := tb_8 (List.mem_of_getElem? (i := 102) rfl) rfl
theorem w8_103 : (Cond.code yX12_isLatest prog_14_method_89_code (3 : Nat) (Option.some Jvm.ClassFile.FieldType.boolean)) ∈ WB := tb_8 (List.mem_of_getElem? (i := 103) rfl) rfl
theorem w8_104 : (Cond.methodLink "FarEditorsModel" (452 : Nat) yX12_stepOfA) ∈ WB := tb_8 (List.mem_of_getElem? (i := 104) rfl) rfl
theorem w8_106 : (Cond.instanceMethod yX12_stepOfA) ∈ WB := tb_8 (List.mem_of_getElem? (i := 106) rfl) rfl
theorem w8_107 : (Cond.code yX12_stepOfA prog_14_method_85_code (7 : Nat) (Option.some Jvm.ClassFile.FieldType.int)) ∈ WB := tb_8 (List.mem_of_getElem? (i := 107) rfl) rfl
theorem w8_108 : (Cond.methodLink "FarEditorsModel" (446 : Nat) yX12_kindOf) ∈ WB := tb_8 (List.mem_of_getElem? (i := 108) rfl) rfl
theorem w8_109 : (Cond.static yX12_kindOf) ∈ WB := tb_8 (List.mem_of_getElem? (i := 109) rfl) rfl
theorem w8_110 : (Cond.code yX12_kindOf prog_14_method_86_code (1 : Nat) (Option.some Jvm.ClassFile.FieldType.int)) ∈ WB := tb_8 (List.mem_of_getElem? (i := 110) rfl) rfl
theorem w8_111 : (Cond.methodLink "FarEditorsLaw" (55 : Nat) yX12_row) ∈ WB := tb_8 (List.mem_of_getElem? (i := 111) rfl) rfl
theorem w8_112 : (Cond.instanceMethod yX12_row) ∈ WB := tb_8 (List.mem_of_getElem? (i := 112) rfl) rfl
theorem w8_113 : (Cond.selects "FarEditorsModel" yX12_row yX12_row) ∈ WB := tb_8 (List.mem_of_getElem? (i := 113) rfl) rfl
theorem w8_114 : (Cond.code yX12_row prog_14_method_91_code (5 : Nat) (Option.some Jvm.ClassFile.FieldType.int)) ∈ WB := tb_8 (List.mem_of_getElem? (i := 114) rfl) rfl
theorem w8_115 : (Cond.methodLink "FarEditorsModel" (458 : Nat) yX12_isOpOfRow) ∈ WB := tb_8 (List.mem_of_getElem? (i := 115) rfl) rfl
theorem w8_117 : (Cond.instanceMethod yX12_isOpOfRow) ∈ WB := tb_8 (List.mem_of_getElem? (i := 117) rfl) rfl
theorem w8_118 : (Cond.code yX12_isOpOfRow prog_14_method_90_code (2 : Nat) (Option.some Jvm.ClassFile.FieldType.boolean)) ∈ WB := tb_8 (List.mem_of_getElem? (i := 118) rfl) rfl
theorem w8_119 : (Cond.methodLink "FarEditorsModel" (461 : Nat) yX12_opToA) ∈ WB := tb_8 (List.mem_of_getElem? (i := 119) rfl) rfl
theorem w8_121 : (Cond.instanceMethod yX12_opToA) ∈ WB := tb_8 (List.mem_of_getElem? (i := 121) rfl) rfl
theorem w8_122 : (Cond.code yX12_opToA prog_14_method_41_code (2 : Nat) (Option.none : Option Jvm.ClassFile.FieldType)) ∈ WB := tb_8 (List.mem_of_getElem? (i := 122) rfl) rfl
theorem w8_123 : (Cond.methodLink "FarEditorsLaw" (59 : Nat) yX12_mark) ∈ WB := tb_8 (List.mem_of_getElem? (i := 123) rfl) rfl
theorem w8_124 : (Cond.instanceMethod yX12_mark) ∈ WB := tb_8 (List.mem_of_getElem? (i := 124) rfl) rfl
theorem w8_125 : (Cond.selects "FarEditorsModel" yX12_mark yX12_mark) ∈ WB := tb_8 (List.mem_of_getElem? (i := 125) rfl) rfl
theorem w8_126 : (Cond.code yX12_mark prog_14_method_92_code (4 : Nat) (Option.some Jvm.ClassFile.FieldType.int)) ∈ WB := tb_8 (List.mem_of_getElem? (i := 126) rfl) rfl
theorem w8_127 : (Cond.constantLong "FarEditorsModel" (464 : Nat) (2 : Int64)) ∈ WB := tb_8 (List.mem_of_getElem? (i := 127) rfl) rfl
theorem w8_128 : (Cond.methodLink "FarEditorsLaw" (63 : Nat) yX12_was) ∈ WB := tb_8 (List.mem_of_getElem? (i := 128) rfl) rfl
theorem w8_129 : (Cond.methodLink "FarEditorsLaw" (67 : Nat) yX12_by) ∈ WB := tb_8 (List.mem_of_getElem? (i := 129) rfl) rfl
theorem w8_130 : (Cond.instanceMethod yX12_by) ∈ WB := tb_8 (List.mem_of_getElem? (i := 130) rfl) rfl
theorem w8_131 : (Cond.selects "FarEditorsModel" yX12_by yX12_by) ∈ WB := tb_8 (List.mem_of_getElem? (i := 131) rfl) rfl
theorem w8_132 : (Cond.code yX12_by prog_14_method_94_code (3 : Nat) (Option.some Jvm.ClassFile.FieldType.int)) ∈ WB := tb_8 (List.mem_of_getElem? (i := 132) rfl) rfl
theorem w8_133 : (Cond.methodLink "FarEditorsLaw" (71 : Nat) yX12_share) ∈ WB := tb_8 (List.mem_of_getElem? (i := 133) rfl) rfl
theorem w8_134 : (Cond.instanceMethod yX12_share) ∈ WB := tb_8 (List.mem_of_getElem? (i := 134) rfl) rfl
theorem w8_135 : (Cond.selects "FarEditorsModel" yX12_share yX12_share) ∈ WB := tb_8 (List.mem_of_getElem? (i := 135) rfl) rfl
theorem w8_136 : (Cond.code yX12_share prog_14_method_96_code (5 : Nat) (Option.some Jvm.ClassFile.FieldType.int)) ∈ WB := tb_8 (List.mem_of_getElem? (i := 136) rfl) rfl
theorem w8_137 : (Cond.methodLink "FarEditorsModel" (466 : Nat) yX12_othersCut) ∈ WB := tb_8 (List.mem_of_getElem? (i := 137) rfl) rfl
theorem w8_139 : (Cond.instanceMethod yX12_othersCut) ∈ WB := tb_8 (List.mem_of_getElem? (i := 139) rfl) rfl
theorem w8_140 : (Cond.code yX12_othersCut prog_14_method_95_code (6 : Nat) (Option.some Jvm.ClassFile.FieldType.int)) ∈ WB := tb_8 (List.mem_of_getElem? (i := 140) rfl) rfl
theorem w8_141 : (Cond.methodLink "FarEditorsLaw" (75 : Nat) yX12_together) ∈ WB := tb_8 (List.mem_of_getElem? (i := 141) rfl) rfl
theorem w8_142 : (Cond.instanceMethod yX12_together) ∈ WB := tb_8 (List.mem_of_getElem? (i := 142) rfl) rfl
theorem w8_143 : (Cond.selects "FarEditorsModel" yX12_together yX12_together) ∈ WB := tb_8 (List.mem_of_getElem? (i := 143) rfl) rfl
theorem w8_144 : (Cond.code yX12_together prog_14_method_97_code (6 : Nat) (Option.some Jvm.ClassFile.FieldType.int)) ∈ WB := tb_8 (List.mem_of_getElem? (i := 144) rfl) rfl
theorem w8_145 : (Cond.methodLink "FarEditorsLaw" (79 : Nat) yX12_without) ∈ WB := tb_8 (List.mem_of_getElem? (i := 145) rfl) rfl
theorem w8_146 : (Cond.instanceMethod yX12_without) ∈ WB := tb_8 (List.mem_of_getElem? (i := 146) rfl) rfl
theorem w8_147 : (Cond.selects "FarEditorsModel" yX12_without yX12_without) ∈ WB := tb_8 (List.mem_of_getElem? (i := 147) rfl) rfl
theorem w8_148 : (Cond.code yX12_without prog_14_method_98_code (4 : Nat) (Option.some Jvm.ClassFile.FieldType.int)) ∈ WB := tb_8 (List.mem_of_getElem? (i := 148) rfl) rfl
theorem w8_149 : (Cond.methodLink "FarEditorsLaw" (83 : Nat) yX12_quiet) ∈ WB := tb_8 (List.mem_of_getElem? (i := 149) rfl) rfl
theorem w8_150 : (Cond.instanceMethod yX12_quiet) ∈ WB := tb_8 (List.mem_of_getElem? (i := 150) rfl) rfl
theorem w8_151 : (Cond.selects "FarEditorsModel" yX12_quiet yX12_quiet) ∈ WB := tb_8 (List.mem_of_getElem? (i := 151) rfl) rfl
theorem w8_152 : (Cond.code yX12_quiet prog_14_method_101_code (3 : Nat) (Option.some Jvm.ClassFile.FieldType.int)) ∈ WB := tb_8 (List.mem_of_getElem? (i := 152) rfl) rfl
theorem w8_153 : (Cond.methodLink "FarEditorsModel" (469 : Nat) yX12_putsAside) ∈ WB := tb_8 (List.mem_of_getElem? (i := 153) rfl) rfl
theorem w8_155 : (Cond.instanceMethod yX12_putsAside) ∈ WB := tb_8 (List.mem_of_getElem? (i := 155) rfl) rfl
theorem w8_156 : (Cond.code yX12_putsAside prog_14_method_99_code (2 : Nat) (Option.none : Option Jvm.ClassFile.FieldType)) ∈ WB := tb_8 (List.mem_of_getElem? (i := 156) rfl) rfl
theorem w8_157 : (Cond.methodLink "FarEditorsModel" (472 : Nat) yX12_takesBack) ∈ WB := tb_8 (List.mem_of_getElem? (i := 157) rfl) rfl
theorem w8_159 : (Cond.instanceMethod yX12_takesBack) ∈ WB := tb_8 (List.mem_of_getElem? (i := 159) rfl) rfl
theorem w8_160 : (Cond.code yX12_takesBack prog_14_method_100_code (2 : Nat) (Option.none : Option Jvm.ClassFile.FieldType)) ∈ WB := tb_8 (List.mem_of_getElem? (i := 160) rfl) rfl
theorem w8_161 : (Cond.methodLink "FarEditorsLaw" (87 : Nat) yX12_later) ∈ WB := tb_8 (List.mem_of_getElem? (i := 161) rfl) rfl
theorem w8_162 : (Cond.instanceMethod yX12_later) ∈ WB := tb_8 (List.mem_of_getElem? (i := 162) rfl) rfl
theorem w8_163 : (Cond.selects "FarEditorsModel" yX12_later yX12_later) ∈ WB := tb_8 (List.mem_of_getElem? (i := 163) rfl) rfl
theorem w8_164 : (Cond.code yX12_later prog_14_method_102_code (3 : Nat) (Option.some Jvm.ClassFile.FieldType.int)) ∈ WB := tb_8 (List.mem_of_getElem? (i := 164) rfl) rfl
theorem w8_165 : (Cond.constantLong "FarEditorsModel" (475 : Nat) (99 : Int64)) ∈ WB := tb_8 (List.mem_of_getElem? (i := 165) rfl) rfl
theorem w8_166 : (Cond.methodLink "FarEditorsLaw" (91 : Nat) yX12_orders) ∈ WB := tb_8 (List.mem_of_getElem? (i := 166) rfl) rfl
theorem w8_167 : (Cond.instanceMethod yX12_orders) ∈ WB := tb_8 (List.mem_of_getElem? (i := 167) rfl) rfl
theorem w8_168 : (Cond.selects "FarEditorsModel" yX12_orders yX12_orders) ∈ WB := tb_8 (List.mem_of_getElem? (i := 168) rfl) rfl
theorem w8_169 : (Cond.code yX12_orders prog_14_method_110_code (4 : Nat) (Option.some Jvm.ClassFile.FieldType.int)) ∈ WB := tb_8 (List.mem_of_getElem? (i := 169) rfl) rfl
theorem w8_170 : (Cond.methodLink "FarEditorsModel" (495 : Nat) yX12_laysOrders) ∈ WB := tb_8 (List.mem_of_getElem? (i := 170) rfl) rfl
theorem w8_172 : (Cond.instanceMethod yX12_laysOrders) ∈ WB := tb_8 (List.mem_of_getElem? (i := 172) rfl) rfl
theorem w8_173 : (Cond.code yX12_laysOrders prog_14_method_106_code (4 : Nat) (Option.none : Option Jvm.ClassFile.FieldType)) ∈ WB := tb_8 (List.mem_of_getElem? (i := 173) rfl) rfl
theorem w8_174 : (Cond.methodLink "FarEditorsModel" (480 : Nat) yX12_senders) ∈ WB := tb_8 (List.mem_of_getElem? (i := 174) rfl) rfl
theorem w8_176 : (Cond.instanceMethod yX12_senders) ∈ WB := tb_8 (List.mem_of_getElem? (i := 176) rfl) rfl
theorem w8_177 : (Cond.code yX12_senders prog_14_method_105_code (3 : Nat) (Option.some Jvm.ClassFile.FieldType.int)) ∈ WB := tb_8 (List.mem_of_getElem? (i := 177) rfl) rfl
theorem w8_178 : (Cond.methodLink "FarEditorsModel" (477 : Nat) yX12_isOnWay) ∈ WB := tb_8 (List.mem_of_getElem? (i := 178) rfl) rfl
theorem w8_180 : (Cond.instanceMethod yX12_isOnWay) ∈ WB := tb_8 (List.mem_of_getElem? (i := 180) rfl) rfl
theorem w8_181 : (Cond.code yX12_isOnWay prog_14_method_103_code (2 : Nat) (Option.some Jvm.ClassFile.FieldType.boolean)) ∈ WB := tb_8 (List.mem_of_getElem? (i := 181) rfl) rfl
theorem w8_182 : (Cond.methodLink "FarEditorsModel" (486 : Nat) yX12_isOrder) ∈ WB := tb_8 (List.mem_of_getElem? (i := 182) rfl) rfl
theorem w8_184 : (Cond.instanceMethod yX12_isOrder) ∈ WB := tb_8 (List.mem_of_getElem? (i := 184) rfl) rfl
theorem w8_185 : (Cond.code yX12_isOrder prog_14_method_104_code (6 : Nat) (Option.some Jvm.ClassFile.FieldType.boolean)) ∈ WB := tb_8 (List.mem_of_getElem? (i := 185) rfl) rfl
theorem w8_186 : (Cond.methodLink "FarEditorsModel" (498 : Nat) yX12_isFirstOfLike) ∈ WB := tb_8 (List.mem_of_getElem? (i := 186) rfl) rfl
theorem w8_188 : (Cond.instanceMethod yX12_isFirstOfLike) ∈ WB := tb_8 (List.mem_of_getElem? (i := 188) rfl) rfl
theorem w8_189 : (Cond.code yX12_isFirstOfLike prog_14_method_109_code (3 : Nat) (Option.some Jvm.ClassFile.FieldType.boolean)) ∈ WB := tb_8 (List.mem_of_getElem? (i := 189) rfl) rfl
theorem w8_190 : (Cond.methodLink "FarEditorsModel" (492 : Nat) yX12_areAlike) ∈ WB := tb_8 (List.mem_of_getElem? (i := 190) rfl) rfl
theorem w8_192 : (Cond.instanceMethod yX12_areAlike) ∈ WB := tb_8 (List.mem_of_getElem? (i := 192) rfl) rfl
theorem w8_193 : (Cond.code yX12_areAlike prog_14_method_108_code (4 : Nat) (Option.some Jvm.ClassFile.FieldType.boolean)) ∈ WB := tb_8 (List.mem_of_getElem? (i := 193) rfl) rfl
theorem w8_194 : (Cond.methodLink "FarEditorsModel" (489 : Nat) yX12_endAt) ∈ WB := tb_8 (List.mem_of_getElem? (i := 194) rfl) rfl
theorem w8_196 : (Cond.instanceMethod yX12_endAt) ∈ WB := tb_8 (List.mem_of_getElem? (i := 196) rfl) rfl
theorem w8_197 : (Cond.code yX12_endAt prog_14_method_107_code (3 : Nat) (Option.some Jvm.ClassFile.FieldType.int)) ∈ WB := tb_8 (List.mem_of_getElem? (i := 197) rfl) rfl
theorem w8_198 : (Cond.methodLink "FarEditorsLaw" (95 : Nat) yX12_ends) ∈ WB := tb_8 (List.mem_of_getElem? (i := 198) rfl) rfl
theorem w8_199 : (Cond.instanceMethod yX12_ends) ∈ WB := tb_8 (List.mem_of_getElem? (i := 199) rfl) rfl
theorem w8_200 : (Cond.selects "FarEditorsModel" yX12_ends yX12_ends) ∈ WB := tb_8 (List.mem_of_getElem? (i := 200) rfl) rfl
theorem w8_201 : (Cond.code yX12_ends prog_14_method_111_code (3 : Nat) (Option.some Jvm.ClassFile.FieldType.int)) ∈ WB := tb_8 (List.mem_of_getElem? (i := 201) rfl) rfl
theorem w8_202 : (Cond.methodLink "FarEditorsLaw" (99 : Nat) yX12_see) ∈ WB := tb_8 (List.mem_of_getElem? (i := 202) rfl) rfl
theorem w8_203 : (Cond.instanceMethod yX12_see) ∈ WB := tb_8 (List.mem_of_getElem? (i := 203) rfl) rfl
theorem w8_204 : (Cond.selects "FarEditorsModel" yX12_see yX12_see) ∈ WB := tb_8 (List.mem_of_getElem? (i := 204) rfl) rfl
theorem w8_205 : (Cond.code yX12_see prog_14_method_112_code (4 : Nat) (Option.some Jvm.ClassFile.FieldType.int)) ∈ WB := tb_8 (List.mem_of_getElem? (i := 205) rfl) rfl
theorem w8_206 : (Cond.methodLink "FarEditorsLaw" (103 : Nat) yX12_fits) ∈ WB := tb_8 (List.mem_of_getElem? (i := 206) rfl) rfl
theorem w8_207 : (Cond.instanceMethod yX12_fits) ∈ WB := tb_8 (List.mem_of_getElem? (i := 207) rfl) rfl
theorem w8_208 : (Cond.selects "FarEditorsModel" yX12_fits yX12_fits) ∈ WB := tb_8 (List.mem_of_getElem? (i := 208) rfl) rfl
theorem w8_209 : (Cond.code yX12_fits prog_14_method_114_code (4 : Nat) (Option.some Jvm.ClassFile.FieldType.int)) ∈ WB := tb_8 (List.mem_of_getElem? (i := 209) rfl) rfl
theorem w8_210 : (Cond.methodLink "FarEditorsModel" (504 : Nat) yX12_laysFits) ∈ WB := tb_8 (List.mem_of_getElem? (i := 210) rfl) rfl
theorem w8_212 : (Cond.instanceMethod yX12_laysFits) ∈ WB := tb_8 (List.mem_of_getElem? (i := 212) rfl) rfl
theorem w8_213 : (Cond.code yX12_laysFits prog_14_method_113_code (3 : Nat) (Option.none : Option Jvm.ClassFile.FieldType)) ∈ WB := tb_8 (List.mem_of_getElem? (i := 213) rfl) rfl
theorem w8_214 : (Cond.methodLink "FarEditorsLaw" (107 : Nat) yX12_tells) ∈ WB := tb_8 (List.mem_of_getElem? (i := 214) rfl) rfl
theorem w8_215 : (Cond.instanceMethod yX12_tells) ∈ WB := tb_8 (List.mem_of_getElem? (i := 215) rfl) rfl
theorem w8_216 : (Cond.selects "FarEditorsModel" yX12_tells yX12_tells) ∈ WB := tb_8 (List.mem_of_getElem? (i := 216) rfl) rfl
theorem w8_217 : (Cond.code yX12_tells prog_14_method_116_code (4 : Nat) (Option.some Jvm.ClassFile.FieldType.int)) ∈ WB := tb_8 (List.mem_of_getElem? (i := 217) rfl) rfl
theorem w8_218 : (Cond.methodLink "FarEditorsModel" (507 : Nat) yX12_mostAt) ∈ WB := tb_8 (List.mem_of_getElem? (i := 218) rfl) rfl
theorem w8_220 : (Cond.instanceMethod yX12_mostAt) ∈ WB := tb_8 (List.mem_of_getElem? (i := 220) rfl) rfl
theorem w8_221 : (Cond.code yX12_mostAt prog_14_method_115_code (6 : Nat) (Option.some Jvm.ClassFile.FieldType.int)) ∈ WB := tb_8 (List.mem_of_getElem? (i := 221) rfl) rfl
theorem w8_222 : (Cond.methodLink "FarEditorsLaw" (166 : Nat) yX12_back) ∈ WB := tb_8 (List.mem_of_getElem? (i := 222) rfl) rfl
theorem w8_223 : (Cond.instanceMethod yX12_back) ∈ WB := tb_8 (List.mem_of_getElem? (i := 223) rfl) rfl
theorem w8_224 : (Cond.selects "FarEditorsModel" yX12_back yX12_back) ∈ WB := tb_8 (List.mem_of_getElem? (i := 224) rfl) rfl
theorem w8_225 : (Cond.code yX12_back prog_14_method_118_code (2 : Nat) (Option.some Jvm.ClassFile.FieldType.boolean)) ∈ WB := tb_8 (List.mem_of_getElem? (i := 225) rfl) rfl
theorem w8_226 : (Cond.methodLink "FarEditorsLaw" (111 : Nat) yX12_edit) ∈ WB := tb_8 (List.mem_of_getElem? (i := 226) rfl) rfl
theorem w8_227 : (Cond.instanceMethod yX12_edit) ∈ WB := tb_8 (List.mem_of_getElem? (i := 227) rfl) rfl
theorem w8_228 : (Cond.selects "FarEditorsModel" yX12_edit yX12_edit) ∈ WB := tb_8 (List.mem_of_getElem? (i := 228) rfl) rfl
theorem w8_229 : (Cond.code yX12_edit prog_14_method_120_code (2 : Nat) (Option.some Jvm.ClassFile.FieldType.int)) ∈ WB := tb_8 (List.mem_of_getElem? (i := 229) rfl) rfl
theorem w8_230 : (Cond.methodLink "FarEditorsModel" (516 : Nat) yX12_editDone) ∈ WB := tb_8 (List.mem_of_getElem? (i := 230) rfl) rfl
theorem w8_232 : (Cond.instanceMethod yX12_editDone) ∈ WB := tb_8 (List.mem_of_getElem? (i := 232) rfl) rfl
theorem w8_233 : (Cond.code yX12_editDone prog_14_method_119_code (3 : Nat) (Option.some Jvm.ClassFile.FieldType.int)) ∈ WB := tb_8 (List.mem_of_getElem? (i := 233) rfl) rfl
theorem w8_234 : (Cond.methodLink "FarEditorsModel" (513 : Nat) yX12_keeps) ∈ WB := tb_8 (List.mem_of_getElem? (i := 234) rfl) rfl
theorem w8_236 : (Cond.instanceMethod yX12_keeps) ∈ WB := tb_8 (List.mem_of_getElem? (i := 236) rfl) rfl
theorem w8_237 : (Cond.code yX12_keeps prog_14_method_117_code (2 : Nat) (Option.none : Option Jvm.ClassFile.FieldType)) ∈ WB := tb_8 (List.mem_of_getElem? (i := 237) rfl) rfl
theorem w8_238 : (Cond.methodLink "FarEditorsLaw" (115 : Nat) yX12_put) ∈ WB := tb_8 (List.mem_of_getElem? (i := 238) rfl) rfl
theorem w8_239 : (Cond.instanceMethod yX12_put) ∈ WB := tb_8 (List.mem_of_getElem? (i := 239) rfl) rfl
theorem w9_0 : (Cond.selects "FarEditorsModel" yX12_put yX12_put) ∈ WB := tb_9 (List.mem_of_getElem? (i := 0) rfl) rfl
theorem w9_1 : (Cond.code yX12_put prog_14_method_122_code (4 : Nat) (Option.some Jvm.ClassFile.FieldType.int)) ∈ WB := tb_9 (List.mem_of_getElem? (i := 1) rfl) rfl
theorem w9_2 : (Cond.constantLong "FarEditorsModel" (519 : Nat) (26 : Int64)) ∈ WB := tb_9 (List.mem_of_getElem? (i := 2) rfl) rfl
theorem w9_3 : (Cond.methodLink "FarEditorsModel" (521 : Nat) yX12_laysA) ∈ WB := tb_9 (List.mem_of_getElem? (i := 3) rfl) rfl
theorem w9_5 : (Cond.instanceMethod yX12_laysA) ∈ WB := tb_9 (List.mem_of_getElem? (i := 5) rfl) rfl
theorem w9_6 : (Cond.code yX12_laysA prog_14_method_121_code (6 : Nat) (Option.none : Option Jvm.ClassFile.FieldType)) ∈ WB := tb_9 (List.mem_of_getElem? (i := 6) rfl) rfl
theorem w9_7 : (Cond.methodLink "FarEditorsLaw" (119 : Nat) yX12_cut) ∈ WB := tb_9 (List.mem_of_getElem? (i := 7) rfl) rfl
theorem w9_8 : (Cond.instanceMethod yX12_cut) ∈ WB := tb_9 (List.mem_of_getElem? (i := 8) rfl) rfl
theorem w9_9 : (Cond.selects "FarEditorsModel" yX12_cut yX12_cut) ∈ WB := tb_9 (List.mem_of_getElem? (i := 9) rfl) rfl
theorem w9_10 : (Cond.code yX12_cut prog_14_method_123_code (4 : Nat) (Option.some Jvm.ClassFile.FieldType.int)) ∈ WB := tb_9 (List.mem_of_getElem? (i := 10) rfl) rfl
theorem w9_11 : (Cond.methodLink "FarEditorsLaw" (123 : Nat) yX12_type) ∈ WB := tb_9 (List.mem_of_getElem? (i := 11) rfl) rfl
theorem w9_12 : (Cond.instanceMethod yX12_type) ∈ WB := tb_9 (List.mem_of_getElem? (i := 12) rfl) rfl
theorem w9_13 : (Cond.selects "FarEditorsModel" yX12_type yX12_type) ∈ WB := tb_9 (List.mem_of_getElem? (i := 13) rfl) rfl
theorem w9_14 : (Cond.code yX12_type prog_14_method_124_code (3 : Nat) (Option.some Jvm.ClassFile.FieldType.int)) ∈ WB := tb_9 (List.mem_of_getElem? (i := 14) rfl) rfl
theorem w9_15 : (Cond.methodLink "FarEditorsLaw" (128 : Nat) yX12_cursor) ∈ WB := tb_9 (List.mem_of_getElem? (i := 15) rfl) rfl
theorem w9_16 : (Cond.instanceMethod yX12_cursor) ∈ WB := tb_9 (List.mem_of_getElem? (i := 16) rfl) rfl
theorem w9_17 : (Cond.selects "FarEditorsModel" yX12_cursor yX12_cursor) ∈ WB := tb_9 (List.mem_of_getElem? (i := 17) rfl) rfl
theorem w9_18 : (Cond.code yX12_cursor prog_14_method_125_code (3 : Nat) (Option.some Jvm.ClassFile.FieldType.boolean)) ∈ WB := tb_9 (List.mem_of_getElem? (i := 18) rfl) rfl
theorem w9_19 : (Cond.methodLink "FarEditorsLaw" (132 : Nat) yX12_marks) ∈ WB := tb_9 (List.mem_of_getElem? (i := 19) rfl) rfl
theorem w9_20 : (Cond.instanceMethod yX12_marks) ∈ WB := tb_9 (List.mem_of_getElem? (i := 20) rfl) rfl
theorem w9_21 : (Cond.selects "FarEditorsModel" yX12_marks yX12_marks) ∈ WB := tb_9 (List.mem_of_getElem? (i := 21) rfl) rfl
theorem w9_22 : (Cond.code yX12_marks prog_14_method_126_code (5 : Nat) (Option.some Jvm.ClassFile.FieldType.int)) ∈ WB := tb_9 (List.mem_of_getElem? (i := 22) rfl) rfl
theorem w9_23 : (Cond.constantLong "FarEditorsModel" (524 : Nat) (3 : Int64)) ∈ WB := tb_9 (List.mem_of_getElem? (i := 23) rfl) rfl
theorem w9_24 : (Cond.methodLink "FarEditorsLaw" (136 : Nat) yX12_clears) ∈ WB := tb_9 (List.mem_of_getElem? (i := 24) rfl) rfl
theorem w9_25 : (Cond.instanceMethod yX12_clears) ∈ WB := tb_9 (List.mem_of_getElem? (i := 25) rfl) rfl
theorem w9_26 : (Cond.selects "FarEditorsModel" yX12_clears yX12_clears) ∈ WB := tb_9 (List.mem_of_getElem? (i := 26) rfl) rfl
theorem w9_27 : (Cond.code yX12_clears prog_14_method_127_code (4 : Nat) (Option.some Jvm.ClassFile.FieldType.boolean)) ∈ WB := tb_9 (List.mem_of_getElem? (i := 27) rfl) rfl
theorem w9_28 : (Cond.methodLink "FarEditorsLaw" (140 : Nat) yX12_undo) ∈ WB := tb_9 (List.mem_of_getElem? (i := 28) rfl) rfl
theorem w9_29 : (Cond.instanceMethod yX12_undo) ∈ WB := tb_9 (List.mem_of_getElem? (i := 29) rfl) rfl
theorem w9_30 : (Cond.selects "FarEditorsModel" yX12_undo yX12_undo) ∈ WB := tb_9 (List.mem_of_getElem? (i := 30) rfl) rfl
theorem w9_31 : (Cond.code yX12_undo prog_14_method_130_code (2 : Nat) (Option.some Jvm.ClassFile.FieldType.int)) ∈ WB := tb_9 (List.mem_of_getElem? (i := 31) rfl) rfl
theorem w9_32 : (Cond.methodLink "FarEditorsModel" (530 : Nat) yX12_goesBack) ∈ WB := tb_9 (List.mem_of_getElem? (i := 32) rfl) rfl
theorem w9_34 : (Cond.instanceMethod yX12_goesBack) ∈ WB := tb_9 (List.mem_of_getElem? (i := 34) rfl) rfl
theorem w9_35 : (Cond.code yX12_goesBack prog_14_method_129_code (6 : Nat) (Option.some Jvm.ClassFile.FieldType.int)) ∈ WB := tb_9 (List.mem_of_getElem? (i := 35) rfl) rfl
theorem w9_36 : (Cond.methodLink "FarEditorsModel" (526 : Nat) yX12_latestOf) ∈ WB := tb_9 (List.mem_of_getElem? (i := 36) rfl) rfl
theorem w9_38 : (Cond.instanceMethod yX12_latestOf) ∈ WB := tb_9 (List.mem_of_getElem? (i := 38) rfl) rfl
theorem w9_39 : (Cond.code yX12_latestOf prog_14_method_128_code (5 : Nat) (Option.some Jvm.ClassFile.FieldType.int)) ∈ WB := tb_9 (List.mem_of_getElem? (i := 39) rfl) rfl
theorem w9_40 : (Cond.methodLink "FarEditorsLaw" (144 : Nat) yX12_redo) ∈ WB := tb_9 (List.mem_of_getElem? (i := 40) rfl) rfl
theorem w9_41 : (Cond.instanceMethod yX12_redo) ∈ WB := tb_9 (List.mem_of_getElem? (i := 41) rfl) rfl
theorem w9_42 : (Cond.selects "FarEditorsModel" yX12_redo yX12_redo) ∈ WB := tb_9 (List.mem_of_getElem? (i := 42) rfl) rfl
theorem w9_43 : (Cond.code yX12_redo prog_14_method_131_code (2 : Nat) (Option.some Jvm.ClassFile.FieldType.int)) ∈ WB := tb_9 (List.mem_of_getElem? (i := 43) rfl) rfl
theorem w9_44 : (Cond.methodLink "FarEditorsLaw" (149 : Nat) yX12_line) ∈ WB := tb_9 (List.mem_of_getElem? (i := 44) rfl) rfl
theorem w9_45 : (Cond.instanceMethod yX12_line) ∈ WB := tb_9 (List.mem_of_getElem? (i := 45) rfl) rfl
theorem w9_46 : (Cond.selects "FarEditorsModel" yX12_line yX12_line) ∈ WB := tb_9 (List.mem_of_getElem? (i := 46) rfl) rfl
theorem w9_47 : (Cond.code yX12_line prog_14_method_132_code (4 : Nat) (Option.some Jvm.ClassFile.FieldType.boolean)) ∈ WB := tb_9 (List.mem_of_getElem? (i := 47) rfl) rfl
theorem w9_48 : (Cond.methodLink "FarEditorsLaw" (153 : Nat) yX12_delay) ∈ WB := tb_9 (List.mem_of_getElem? (i := 48) rfl) rfl
theorem w9_49 : (Cond.instanceMethod yX12_delay) ∈ WB := tb_9 (List.mem_of_getElem? (i := 49) rfl) rfl
theorem w9_50 : (Cond.selects "FarEditorsModel" yX12_delay yX12_delay) ∈ WB := tb_9 (List.mem_of_getElem? (i := 50) rfl) rfl
theorem w9_51 : (Cond.code yX12_delay prog_14_method_133_code (3 : Nat) (Option.some Jvm.ClassFile.FieldType.boolean)) ∈ WB := tb_9 (List.mem_of_getElem? (i := 51) rfl) rfl
theorem w9_52 : (Cond.constantLong "FarEditorsModel" (534 : Nat) (9 : Int64)) ∈ WB := tb_9 (List.mem_of_getElem? (i := 52) rfl) rfl
theorem w9_53 : (Cond.methodLink "FarEditorsLaw" (157 : Nat) yX12_ticks) ∈ WB := tb_9 (List.mem_of_getElem? (i := 53) rfl) rfl
theorem w9_54 : (Cond.instanceMethod yX12_ticks) ∈ WB := tb_9 (List.mem_of_getElem? (i := 54) rfl) rfl
theorem w9_55 : (Cond.selects "FarEditorsModel" yX12_ticks yX12_ticks) ∈ WB := tb_9 (List.mem_of_getElem? (i := 55) rfl) rfl
theorem w9_56 : (Cond.code yX12_ticks prog_14_method_134_code (2 : Nat) (Option.some Jvm.ClassFile.FieldType.int)) ∈ WB := tb_9 (List.mem_of_getElem? (i := 56) rfl) rfl
theorem w9_57 : (Cond.methodLink "FarEditorsLaw" (170 : Nat) yX12_seed) ∈ WB := tb_9 (List.mem_of_getElem? (i := 57) rfl) rfl
theorem w9_58 : (Cond.instanceMethod yX12_seed) ∈ WB := tb_9 (List.mem_of_getElem? (i := 58) rfl) rfl
theorem w9_59 : (Cond.selects "FarEditorsModel" yX12_seed yX12_seed) ∈ WB := tb_9 (List.mem_of_getElem? (i := 59) rfl) rfl
theorem w9_60 : (Cond.code yX12_seed prog_14_method_135_code (2 : Nat) (Option.some Jvm.ClassFile.FieldType.boolean)) ∈ WB := tb_9 (List.mem_of_getElem? (i := 60) rfl) rfl
theorem w9_61 : (Cond.methodLink "FarEditorsLaw" (161 : Nat) yX12_chance) ∈ WB := tb_9 (List.mem_of_getElem? (i := 61) rfl) rfl
theorem w9_62 : (Cond.instanceMethod yX12_chance) ∈ WB := tb_9 (List.mem_of_getElem? (i := 62) rfl) rfl
theorem w9_63 : (Cond.selects "FarEditorsModel" yX12_chance yX12_chance) ∈ WB := tb_9 (List.mem_of_getElem? (i := 63) rfl) rfl
theorem w9_64 : (Cond.code yX12_chance prog_14_method_138_code (4 : Nat) (Option.some Jvm.ClassFile.FieldType.int)) ∈ WB := tb_9 (List.mem_of_getElem? (i := 64) rfl) rfl
theorem w9_65 : (Cond.constantLong "FarEditorsModel" (547 : Nat) (40 : Int64)) ∈ WB := tb_9 (List.mem_of_getElem? (i := 65) rfl) rfl
theorem w9_66 : (Cond.methodLink "FarEditorsModel" (549 : Nat) yX12_isDrawn) ∈ WB := tb_9 (List.mem_of_getElem? (i := 66) rfl) rfl
theorem w9_68 : (Cond.instanceMethod yX12_isDrawn) ∈ WB := tb_9 (List.mem_of_getElem? (i := 68) rfl) rfl
theorem w9_69 : (Cond.code yX12_isDrawn prog_14_method_137_code (4 : Nat) (Option.some Jvm.ClassFile.FieldType.boolean)) ∈ WB := tb_9 (List.mem_of_getElem? (i := 69) rfl) rfl
theorem w9_70 : (Cond.methodLink "FarEditorsModel" (544 : Nat) yX12_drawOf) ∈ WB := tb_9 (List.mem_of_getElem? (i := 70) rfl) rfl
theorem w9_72 : (Cond.instanceMethod yX12_drawOf) ∈ WB := tb_9 (List.mem_of_getElem? (i := 72) rfl) rfl
theorem w9_73 : (Cond.code yX12_drawOf prog_14_method_136_code (2 : Nat) (Option.some Jvm.ClassFile.FieldType.int)) ∈ WB := tb_9 (List.mem_of_getElem? (i := 73) rfl) rfl
theorem w9_74 : (Cond.constantLong "FarEditorsModel" (536 : Nat) (1103515245 : Int64)) ∈ WB := tb_9 (List.mem_of_getElem? (i := 74) rfl) rfl
theorem w9_75 : (Cond.constantLong "FarEditorsModel" (538 : Nat) (12345 : Int64)) ∈ WB := tb_9 (List.mem_of_getElem? (i := 75) rfl) rfl
theorem w9_76 : (Cond.constantLong "FarEditorsModel" (540 : Nat) (2147483648 : Int64)) ∈ WB := tb_9 (List.mem_of_getElem? (i := 76) rfl) rfl
theorem w9_77 : (Cond.constantLong "FarEditorsModel" (542 : Nat) (64 : Int64)) ∈ WB := tb_9 (List.mem_of_getElem? (i := 77) rfl) rfl
theorem w9_78 : (Cond.fieldLink "java/lang/String" (9 : Nat) "java/lang/String" "value" "[B") ∈ WB := tb_9 (List.mem_of_getElem? (i := 78) rfl) rfl
theorem w9_79 : (Cond.fieldLink "java/lang/String" (15 : Nat) "java/lang/String" "coder" "B") ∈ WB := tb_9 (List.mem_of_getElem? (i := 79) rfl) rfl
theorem wp1_0 : Cond.selects "FarEditors" yX11_refuse yX11_refuse ∈ WB := WB_of (List.mem_append_left _ (List.mem_map.mpr ⟨(yX11_refuse, 14), (show _ ∈ lw_privs from (List.mem_append_left _ (List.mem_of_getElem? (i := 0) rfl))), rfl⟩)) rfl
theorem wp1_1 : Cond.selects "FarEditors" yX11_refuseFlatly yX11_refuseFlatly ∈ WB := WB_of (List.mem_append_left _ (List.mem_map.mpr ⟨(yX11_refuseFlatly, 14), (show _ ∈ lw_privs from (List.mem_append_left _ (List.mem_of_getElem? (i := 1) rfl))), rfl⟩)) rfl
theorem wp1_2 : Cond.selects "FarEditors$Told" yX8_open yX8_open ∈ WB := WB_of (List.mem_append_left _ (List.mem_map.mpr ⟨(yX8_open, 12), (show _ ∈ lw_privs from (List.mem_append_left _ (List.mem_of_getElem? (i := 2) rfl))), rfl⟩)) rfl
theorem wp1_3 : Cond.selects "FarEditors$Told" yX8_readKeyword yX8_readKeyword ∈ WB := WB_of (List.mem_append_left _ (List.mem_map.mpr ⟨(yX8_readKeyword, 12), (show _ ∈ lw_privs from (List.mem_append_left _ (List.mem_of_getElem? (i := 3) rfl))), rfl⟩)) rfl
theorem wp1_4 : Cond.selects "FarEditors$Told" yX8_skipBlanks yX8_skipBlanks ∈ WB := WB_of (List.mem_append_left _ (List.mem_map.mpr ⟨(yX8_skipBlanks, 12), (show _ ∈ lw_privs from (List.mem_append_left _ (List.mem_of_getElem? (i := 4) rfl))), rfl⟩)) rfl
theorem wp1_5 : Cond.selects "FarEditors$Told" yX8_findKeyword yX8_findKeyword ∈ WB := WB_of (List.mem_append_left _ (List.mem_map.mpr ⟨(yX8_findKeyword, 12), (show _ ∈ lw_privs from (List.mem_append_left _ (List.mem_of_getElem? (i := 5) rfl))), rfl⟩)) rfl
theorem wp1_6 : Cond.selects "FarEditors$Told" yX8_isAtLetter yX8_isAtLetter ∈ WB := WB_of (List.mem_append_left _ (List.mem_map.mpr ⟨(yX8_isAtLetter, 12), (show _ ∈ lw_privs from (List.mem_append_left _ (List.mem_of_getElem? (i := 6) rfl))), rfl⟩)) rfl
theorem wp1_7 : Cond.selects "FarEditors$Told" yX8_isWord yX8_isWord ∈ WB := WB_of (List.mem_append_left _ (List.mem_map.mpr ⟨(yX8_isWord, 12), (show _ ∈ lw_privs from (List.mem_append_left _ (List.mem_of_getElem? (i := 7) rfl))), rfl⟩)) rfl
theorem wp1_8 : Cond.selects "FarEditors$Told" yX8_fail yX8_fail ∈ WB := WB_of (List.mem_append_left _ (List.mem_map.mpr ⟨(yX8_fail, 12), (show _ ∈ lw_privs from (List.mem_append_left _ (List.mem_of_getElem? (i := 8) rfl))), rfl⟩)) rfl
theorem wp1_9 : Cond.selects "FarEditors$Told" yX8_endsWell yX8_endsWell ∈ WB := WB_of (List.mem_append_left _ (List.mem_map.mpr ⟨(yX8_endsWell, 12), (show _ ∈ lw_privs from (List.mem_append_left _ (List.mem_of_getElem? (i := 9) rfl))), rfl⟩)) rfl
theorem wp1_10 : Cond.selects "FarEditors$Told" yX8_isAtDigit yX8_isAtDigit ∈ WB := WB_of (List.mem_append_left _ (List.mem_map.mpr ⟨(yX8_isAtDigit, 12), (show _ ∈ lw_privs from (List.mem_append_left _ (List.mem_of_getElem? (i := 10) rfl))), rfl⟩)) rfl
theorem wp1_11 : Cond.selects "FarEditors$Told" yX8_readRest yX8_readRest ∈ WB := WB_of (List.mem_append_left _ (List.mem_map.mpr ⟨(yX8_readRest, 12), (show _ ∈ lw_privs from (List.mem_append_left _ (List.mem_of_getElem? (i := 11) rfl))), rfl⟩)) rfl
theorem wp1_12 : Cond.selects "FarEditors$Told" yX8_readText yX8_readText ∈ WB := WB_of (List.mem_append_left _ (List.mem_map.mpr ⟨(yX8_readText, 12), (show _ ∈ lw_privs from (List.mem_append_left _ (List.mem_of_getElem? (i := 12) rfl))), rfl⟩)) rfl
theorem wp1_13 : Cond.selects "FarEditors$Told" yX8_readWord yX8_readWord ∈ WB := WB_of (List.mem_append_left _ (List.mem_map.mpr ⟨(yX8_readWord, 12), (show _ ∈ lw_privs from (List.mem_append_left _ (List.mem_of_getElem? (i := 13) rfl))), rfl⟩)) rfl
theorem wp1_14 : Cond.selects "FarEditors$Told" yX8_addPart yX8_addPart ∈ WB := WB_of (List.mem_append_left _ (List.mem_map.mpr ⟨(yX8_addPart, 12), (show _ ∈ lw_privs from (List.mem_append_left _ (List.mem_of_getElem? (i := 14) rfl))), rfl⟩)) rfl
theorem wp1_15 : Cond.selects "FarEditors$Told" yX8_readNumber yX8_readNumber ∈ WB := WB_of (List.mem_append_left _ (List.mem_map.mpr ⟨(yX8_readNumber, 12), (show _ ∈ lw_privs from (List.mem_append_left _ (List.mem_of_getElem? (i := 15) rfl))), rfl⟩)) rfl
theorem wp2_0 : Cond.selects "FarEditors$Told" yX8_readDigits yX8_readDigits ∈ WB := WB_of (List.mem_append_left _ (List.mem_map.mpr ⟨(yX8_readDigits, 12), (show _ ∈ lw_privs from (List.mem_append_right _ (List.mem_append_left _ (List.mem_of_getElem? (i := 0) rfl)))), rfl⟩)) rfl
theorem wp2_1 : Cond.selects "FarEditors$Told" yX8_setNumber yX8_setNumber ∈ WB := WB_of (List.mem_append_left _ (List.mem_map.mpr ⟨(yX8_setNumber, 12), (show _ ∈ lw_privs from (List.mem_append_right _ (List.mem_append_left _ (List.mem_of_getElem? (i := 1) rfl)))), rfl⟩)) rfl
theorem wp2_2 : Cond.selects "FarEditors$Told" yX8_readEditor yX8_readEditor ∈ WB := WB_of (List.mem_append_left _ (List.mem_map.mpr ⟨(yX8_readEditor, 12), (show _ ∈ lw_privs from (List.mem_append_right _ (List.mem_append_left _ (List.mem_of_getElem? (i := 2) rfl)))), rfl⟩)) rfl
theorem wp2_3 : Cond.selects "FarEditors$Told" yX8_readSteps yX8_readSteps ∈ WB := WB_of (List.mem_append_left _ (List.mem_map.mpr ⟨(yX8_readSteps, 12), (show _ ∈ lw_privs from (List.mem_append_right _ (List.mem_append_left _ (List.mem_of_getElem? (i := 3) rfl)))), rfl⟩)) rfl
theorem wp2_4 : Cond.selects "FarEditors$Told" yX8_isAtStep yX8_isAtStep ∈ WB := WB_of (List.mem_append_left _ (List.mem_map.mpr ⟨(yX8_isAtStep, 12), (show _ ∈ lw_privs from (List.mem_append_right _ (List.mem_append_left _ (List.mem_of_getElem? (i := 4) rfl)))), rfl⟩)) rfl
theorem wp2_5 : Cond.selects "FarEditors$Told" yX8_look yX8_look ∈ WB := WB_of (List.mem_append_left _ (List.mem_map.mpr ⟨(yX8_look, 12), (show _ ∈ lw_privs from (List.mem_append_right _ (List.mem_append_left _ (List.mem_of_getElem? (i := 5) rfl)))), rfl⟩)) rfl
theorem wp2_6 : Cond.selects "FarEditors$Told" yX8_readStep yX8_readStep ∈ WB := WB_of (List.mem_append_left _ (List.mem_map.mpr ⟨(yX8_readStep, 12), (show _ ∈ lw_privs from (List.mem_append_right _ (List.mem_append_left _ (List.mem_of_getElem? (i := 6) rfl)))), rfl⟩)) rfl
theorem wp2_7 : Cond.selects "FarEditors$Told" yX8_readSign yX8_readSign ∈ WB := WB_of (List.mem_append_left _ (List.mem_map.mpr ⟨(yX8_readSign, 12), (show _ ∈ lw_privs from (List.mem_append_right _ (List.mem_append_left _ (List.mem_of_getElem? (i := 7) rfl)))), rfl⟩)) rfl
theorem wp2_8 : Cond.selects "FarEditors" yX11_noteFault yX11_noteFault ∈ WB := WB_of (List.mem_append_left _ (List.mem_map.mpr ⟨(yX11_noteFault, 14), (show _ ∈ lw_privs from (List.mem_append_right _ (List.mem_append_left _ (List.mem_of_getElem? (i := 8) rfl)))), rfl⟩)) rfl
theorem wp2_9 : Cond.selects "FarEditors" yX11_beginAsTold yX11_beginAsTold ∈ WB := WB_of (List.mem_append_left _ (List.mem_map.mpr ⟨(yX11_beginAsTold, 14), (show _ ∈ lw_privs from (List.mem_append_right _ (List.mem_append_left _ (List.mem_of_getElem? (i := 9) rfl)))), rfl⟩)) rfl
theorem wp2_10 : Cond.selects "FarEditors" yX11_settle yX11_settle ∈ WB := WB_of (List.mem_append_left _ (List.mem_map.mpr ⟨(yX11_settle, 14), (show _ ∈ lw_privs from (List.mem_append_right _ (List.mem_append_left _ (List.mem_of_getElem? (i := 10) rfl)))), rfl⟩)) rfl
theorem wp2_11 : Cond.selects "FarEditors" yX11_perform yX11_perform ∈ WB := WB_of (List.mem_append_left _ (List.mem_map.mpr ⟨(yX11_perform, 14), (show _ ∈ lw_privs from (List.mem_append_right _ (List.mem_append_left _ (List.mem_of_getElem? (i := 11) rfl)))), rfl⟩)) rfl
theorem wp2_12 : Cond.selects "FarEditors$Weaver" yX9_turnCommon yX9_turnCommon ∈ WB := WB_of (List.mem_append_left _ (List.mem_map.mpr ⟨(yX9_turnCommon, 7), (show _ ∈ lw_privs from (List.mem_append_right _ (List.mem_append_left _ (List.mem_of_getElem? (i := 12) rfl)))), rfl⟩)) rfl
theorem wp2_13 : Cond.selects "FarEditors$World" yX10_countForeignCuts yX10_countForeignCuts ∈ WB := WB_of (List.mem_append_left _ (List.mem_map.mpr ⟨(yX10_countForeignCuts, 12), (show _ ∈ lw_privs from (List.mem_append_right _ (List.mem_append_left _ (List.mem_of_getElem? (i := 13) rfl)))), rfl⟩)) rfl
theorem wp2_14 : Cond.selects "FarEditors$World" yX10_bringTo yX10_bringTo ∈ WB := WB_of (List.mem_append_left _ (List.mem_map.mpr ⟨(yX10_bringTo, 12), (show _ ∈ lw_privs from (List.mem_append_right _ (List.mem_append_left _ (List.mem_of_getElem? (i := 14) rfl)))), rfl⟩)) rfl
theorem wp2_15 : Cond.selects "FarEditors" yX11_performFor yX11_performFor ∈ WB := WB_of (List.mem_append_left _ (List.mem_map.mpr ⟨(yX11_performFor, 14), (show _ ∈ lw_privs from (List.mem_append_right _ (List.mem_append_left _ (List.mem_of_getElem? (i := 15) rfl)))), rfl⟩)) rfl
theorem wp3_0 : Cond.selects "FarEditors$World" yX10_makeEdit yX10_makeEdit ∈ WB := WB_of (List.mem_append_left _ (List.mem_map.mpr ⟨(yX10_makeEdit, 12), (show _ ∈ lw_privs from (List.mem_append_right _ (List.mem_append_right _ (List.mem_append_left _ (List.mem_of_getElem? (i := 0) rfl))))), rfl⟩)) rfl
theorem wp3_1 : Cond.selects "FarEditors$Weaver" yX9_composeCommon yX9_composeCommon ∈ WB := WB_of (List.mem_append_left _ (List.mem_map.mpr ⟨(yX9_composeCommon, 7), (show _ ∈ lw_privs from (List.mem_append_right _ (List.mem_append_right _ (List.mem_append_left _ (List.mem_of_getElem? (i := 1) rfl))))), rfl⟩)) rfl
theorem wp3_2 : Cond.selects "FarEditors$Op" yX4_findStep yX4_findStep ∈ WB := WB_of (List.mem_append_left _ (List.mem_map.mpr ⟨(yX4_findStep, 2), (show _ ∈ lw_privs from (List.mem_append_right _ (List.mem_append_right _ (List.mem_append_left _ (List.mem_of_getElem? (i := 2) rfl))))), rfl⟩)) rfl
theorem wp3_3 : Cond.selects "FarEditors$Op" yX4_beginsStep yX4_beginsStep ∈ WB := WB_of (List.mem_append_left _ (List.mem_map.mpr ⟨(yX4_beginsStep, 2), (show _ ∈ lw_privs from (List.mem_append_right _ (List.mem_append_right _ (List.mem_append_left _ (List.mem_of_getElem? (i := 3) rfl))))), rfl⟩)) rfl
theorem wp3_4 : Cond.selects "FarEditors$Op" yX4_endOfStep yX4_endOfStep ∈ WB := WB_of (List.mem_append_left _ (List.mem_map.mpr ⟨(yX4_endOfStep, 2), (show _ ∈ lw_privs from (List.mem_append_right _ (List.mem_append_right _ (List.mem_append_left _ (List.mem_of_getElem? (i := 4) rfl))))), rfl⟩)) rfl
theorem wp3_5 : Cond.selects "FarEditors$Op" yX4_askPut yX4_askPut ∈ WB := WB_of (List.mem_append_left _ (List.mem_map.mpr ⟨(yX4_askPut, 2), (show _ ∈ lw_privs from (List.mem_append_right _ (List.mem_append_right _ (List.mem_append_left _ (List.mem_of_getElem? (i := 5) rfl))))), rfl⟩)) rfl
theorem wp3_6 : Cond.selects "FarEditors" yX11_isTaken yX11_isTaken ∈ WB := WB_of (List.mem_append_left _ (List.mem_map.mpr ⟨(yX11_isTaken, 14), (show _ ∈ lw_privs from (List.mem_append_right _ (List.mem_append_right _ (List.mem_append_left _ (List.mem_of_getElem? (i := 6) rfl))))), rfl⟩)) rfl
theorem wp3_7 : Cond.selects "FarEditors" yX11_replay yX11_replay ∈ WB := WB_of (List.mem_append_left _ (List.mem_map.mpr ⟨(yX11_replay, 14), (show _ ∈ lw_privs from (List.mem_append_right _ (List.mem_append_right _ (List.mem_append_left _ (List.mem_of_getElem? (i := 7) rfl))))), rfl⟩)) rfl
theorem wp3_8 : Cond.selects "FarEditors" yX11_reckonEnds yX11_reckonEnds ∈ WB := WB_of (List.mem_append_left _ (List.mem_map.mpr ⟨(yX11_reckonEnds, 14), (show _ ∈ lw_privs from (List.mem_append_right _ (List.mem_append_right _ (List.mem_append_left _ (List.mem_of_getElem? (i := 8) rfl))))), rfl⟩)) rfl
theorem wp3_9 : Cond.selects "FarEditors$Comings" yX0_takeInOrder yX0_takeInOrder ∈ WB := WB_of (List.mem_append_left _ (List.mem_map.mpr ⟨(yX0_takeInOrder, 10), (show _ ∈ lw_privs from (List.mem_append_right _ (List.mem_append_right _ (List.mem_append_left _ (List.mem_of_getElem? (i := 9) rfl))))), rfl⟩)) rfl
theorem wp3_10 : Cond.selects "FarEditors$Comings" yX0_isFit yX0_isFit ∈ WB := WB_of (List.mem_append_left _ (List.mem_map.mpr ⟨(yX0_isFit, 10), (show _ ∈ lw_privs from (List.mem_append_right _ (List.mem_append_right _ (List.mem_append_left _ (List.mem_of_getElem? (i := 10) rfl))))), rfl⟩)) rfl
theorem wp3_11 : Cond.selects "FarEditors" yX11_editWithOp yX11_editWithOp ∈ WB := WB_of (List.mem_append_left _ (List.mem_map.mpr ⟨(yX11_editWithOp, 14), (show _ ∈ lw_privs from (List.mem_append_right _ (List.mem_append_right _ (List.mem_append_left _ (List.mem_of_getElem? (i := 11) rfl))))), rfl⟩)) rfl
theorem wp3_12 : Cond.selects "FarEditors" yX11_changeByInverse yX11_changeByInverse ∈ WB := WB_of (List.mem_append_left _ (List.mem_map.mpr ⟨(yX11_changeByInverse, 14), (show _ ∈ lw_privs from (List.mem_append_right _ (List.mem_append_right _ (List.mem_append_left _ (List.mem_of_getElem? (i := 12) rfl))))), rfl⟩)) rfl
theorem wp3_13 : Cond.selects "FarEditors" yX11_changeBySeed yX11_changeBySeed ∈ WB := WB_of (List.mem_append_left _ (List.mem_map.mpr ⟨(yX11_changeBySeed, 14), (show _ ∈ lw_privs from (List.mem_append_right _ (List.mem_append_right _ (List.mem_append_left _ (List.mem_of_getElem? (i := 13) rfl))))), rfl⟩)) rfl
theorem wp3_14 : Cond.selects "FarEditors" yX11_draw yX11_draw ∈ WB := WB_of (List.mem_append_left _ (List.mem_map.mpr ⟨(yX11_draw, 14), (show _ ∈ lw_privs from (List.mem_append_right _ (List.mem_append_right _ (List.mem_append_left _ (List.mem_of_getElem? (i := 14) rfl))))), rfl⟩)) rfl
theorem wp3_15 : Cond.selects "FarEditorsModel" yX12_refuses yX12_refuses ∈ WB := WB_of (List.mem_append_left _ (List.mem_map.mpr ⟨(yX12_refuses, 64), (show _ ∈ lw_privs from (List.mem_append_right _ (List.mem_append_right _ (List.mem_append_left _ (List.mem_of_getElem? (i := 15) rfl))))), rfl⟩)) rfl
theorem wp4_0 : Cond.selects "FarEditorsModel" yX12_isRefused yX12_isRefused ∈ WB := WB_of (List.mem_append_left _ (List.mem_map.mpr ⟨(yX12_isRefused, 64), (show _ ∈ lw_privs from (List.mem_append_right _ (List.mem_append_right _ (List.mem_append_right _ (List.mem_append_left _ (List.mem_of_getElem? (i := 0) rfl)))))), rfl⟩)) rfl
theorem wp4_1 : Cond.selects "FarEditorsModel" yX12_begins yX12_begins ∈ WB := WB_of (List.mem_append_left _ (List.mem_map.mpr ⟨(yX12_begins, 64), (show _ ∈ lw_privs from (List.mem_append_right _ (List.mem_append_right _ (List.mem_append_right _ (List.mem_append_left _ (List.mem_of_getElem? (i := 1) rfl)))))), rfl⟩)) rfl
theorem wp4_2 : Cond.selects "FarEditorsModel" yX12_goesTo yX12_goesTo ∈ WB := WB_of (List.mem_append_left _ (List.mem_map.mpr ⟨(yX12_goesTo, 64), (show _ ∈ lw_privs from (List.mem_append_right _ (List.mem_append_right _ (List.mem_append_right _ (List.mem_append_left _ (List.mem_of_getElem? (i := 2) rfl)))))), rfl⟩)) rfl
theorem wp4_3 : Cond.selects "FarEditorsModel" yX12_headTold yX12_headTold ∈ WB := WB_of (List.mem_append_left _ (List.mem_map.mpr ⟨(yX12_headTold, 64), (show _ ∈ lw_privs from (List.mem_append_right _ (List.mem_append_right _ (List.mem_append_right _ (List.mem_append_left _ (List.mem_of_getElem? (i := 3) rfl)))))), rfl⟩)) rfl
theorem wp4_4 : Cond.selects "FarEditorsModel" yX12_asks yX12_asks ∈ WB := WB_of (List.mem_append_left _ (List.mem_map.mpr ⟨(yX12_asks, 64), (show _ ∈ lw_privs from (List.mem_append_right _ (List.mem_append_right _ (List.mem_append_right _ (List.mem_append_left _ (List.mem_of_getElem? (i := 4) rfl)))))), rfl⟩)) rfl
theorem wp4_5 : Cond.selects "FarEditorsModel" yX12_takes yX12_takes ∈ WB := WB_of (List.mem_append_left _ (List.mem_map.mpr ⟨(yX12_takes, 64), (show _ ∈ lw_privs from (List.mem_append_right _ (List.mem_append_right _ (List.mem_append_right _ (List.mem_append_left _ (List.mem_of_getElem? (i := 5) rfl)))))), rfl⟩)) rfl
theorem wp4_6 : Cond.selects "FarEditorsModel" yX12_isHere yX12_isHere ∈ WB := WB_of (List.mem_append_left _ (List.mem_map.mpr ⟨(yX12_isHere, 64), (show _ ∈ lw_privs from (List.mem_append_right _ (List.mem_append_right _ (List.mem_append_right _ (List.mem_append_left _ (List.mem_of_getElem? (i := 6) rfl)))))), rfl⟩)) rfl
theorem wp4_7 : Cond.selects "FarEditorsModel" yX12_look yX12_look ∈ WB := WB_of (List.mem_append_left _ (List.mem_map.mpr ⟨(yX12_look, 64), (show _ ∈ lw_privs from (List.mem_append_right _ (List.mem_append_right _ (List.mem_append_right _ (List.mem_append_left _ (List.mem_of_getElem? (i := 7) rfl)))))), rfl⟩)) rfl
theorem wp4_8 : Cond.selects "FarEditorsModel" yX12_fail yX12_fail ∈ WB := WB_of (List.mem_append_left _ (List.mem_map.mpr ⟨(yX12_fail, 64), (show _ ∈ lw_privs from (List.mem_append_right _ (List.mem_append_right _ (List.mem_append_right _ (List.mem_append_left _ (List.mem_of_getElem? (i := 8) rfl)))))), rfl⟩)) rfl
theorem wp4_9 : Cond.selects "FarEditorsModel" yX12_word yX12_word ∈ WB := WB_of (List.mem_append_left _ (List.mem_map.mpr ⟨(yX12_word, 64), (show _ ∈ lw_privs from (List.mem_append_right _ (List.mem_append_right _ (List.mem_append_right _ (List.mem_append_left _ (List.mem_of_getElem? (i := 9) rfl)))))), rfl⟩)) rfl
theorem wp4_10 : Cond.selects "FarEditorsModel" yX12_number yX12_number ∈ WB := WB_of (List.mem_append_left _ (List.mem_map.mpr ⟨(yX12_number, 64), (show _ ∈ lw_privs from (List.mem_append_right _ (List.mem_append_right _ (List.mem_append_right _ (List.mem_append_left _ (List.mem_of_getElem? (i := 10) rfl)))))), rfl⟩)) rfl
theorem wp4_11 : Cond.selects "FarEditorsModel" yX12_asksSign yX12_asksSign ∈ WB := WB_of (List.mem_append_left _ (List.mem_map.mpr ⟨(yX12_asksSign, 64), (show _ ∈ lw_privs from (List.mem_append_right _ (List.mem_append_right _ (List.mem_append_right _ (List.mem_append_left _ (List.mem_of_getElem? (i := 11) rfl)))))), rfl⟩)) rfl
theorem wp4_12 : Cond.selects "FarEditorsModel" yX12_takesSign yX12_takesSign ∈ WB := WB_of (List.mem_append_left _ (List.mem_map.mpr ⟨(yX12_takesSign, 64), (show _ ∈ lw_privs from (List.mem_append_right _ (List.mem_append_right _ (List.mem_append_right _ (List.mem_append_left _ (List.mem_of_getElem? (i := 12) rfl)))))), rfl⟩)) rfl
theorem wp4_13 : Cond.selects "FarEditorsModel" yX12_statementTold yX12_statementTold ∈ WB := WB_of (List.mem_append_left _ (List.mem_map.mpr ⟨(yX12_statementTold, 64), (show _ ∈ lw_privs from (List.mem_append_right _ (List.mem_append_right _ (List.mem_append_right _ (List.mem_append_left _ (List.mem_of_getElem? (i := 13) rfl)))))), rfl⟩)) rfl
theorem wp4_14 : Cond.selects "FarEditorsModel" yX12_delayTold yX12_delayTold ∈ WB := WB_of (List.mem_append_left _ (List.mem_map.mpr ⟨(yX12_delayTold, 64), (show _ ∈ lw_privs from (List.mem_append_right _ (List.mem_append_right _ (List.mem_append_right _ (List.mem_append_left _ (List.mem_of_getElem? (i := 14) rfl)))))), rfl⟩)) rfl
theorem wp4_15 : Cond.selects "FarEditorsModel" yX12_editorTold yX12_editorTold ∈ WB := WB_of (List.mem_append_left _ (List.mem_map.mpr ⟨(yX12_editorTold, 64), (show _ ∈ lw_privs from (List.mem_append_right _ (List.mem_append_right _ (List.mem_append_right _ (List.mem_append_left _ (List.mem_of_getElem? (i := 15) rfl)))))), rfl⟩)) rfl
theorem wp5_0 : Cond.selects "FarEditorsModel" yX12_opTold yX12_opTold ∈ WB := WB_of (List.mem_append_left _ (List.mem_map.mpr ⟨(yX12_opTold, 64), (show _ ∈ lw_privs from (List.mem_append_right _ (List.mem_append_right _ (List.mem_append_right _ (List.mem_append_right _ (List.mem_append_left _ (List.mem_of_getElem? (i := 0) rfl))))))), rfl⟩)) rfl
theorem wp5_1 : Cond.selects "FarEditorsModel" yX12_markTold yX12_markTold ∈ WB := WB_of (List.mem_append_left _ (List.mem_map.mpr ⟨(yX12_markTold, 64), (show _ ∈ lw_privs from (List.mem_append_right _ (List.mem_append_right _ (List.mem_append_right _ (List.mem_append_right _ (List.mem_append_left _ (List.mem_of_getElem? (i := 1) rfl))))))), rfl⟩)) rfl
theorem wp5_2 : Cond.selects "FarEditorsModel" yX12_stands yX12_stands ∈ WB := WB_of (List.mem_append_left _ (List.mem_map.mpr ⟨(yX12_stands, 64), (show _ ∈ lw_privs from (List.mem_append_right _ (List.mem_append_right _ (List.mem_append_right _ (List.mem_append_right _ (List.mem_append_left _ (List.mem_of_getElem? (i := 2) rfl))))))), rfl⟩)) rfl
theorem wp5_3 : Cond.selects "FarEditorsModel" yX12_goesOver yX12_goesOver ∈ WB := WB_of (List.mem_append_left _ (List.mem_map.mpr ⟨(yX12_goesOver, 64), (show _ ∈ lw_privs from (List.mem_append_right _ (List.mem_append_right _ (List.mem_append_right _ (List.mem_append_right _ (List.mem_append_left _ (List.mem_of_getElem? (i := 3) rfl))))))), rfl⟩)) rfl
theorem wp5_4 : Cond.selects "FarEditorsModel" yX12_isLaid yX12_isLaid ∈ WB := WB_of (List.mem_append_left _ (List.mem_map.mpr ⟨(yX12_isLaid, 64), (show _ ∈ lw_privs from (List.mem_append_right _ (List.mem_append_right _ (List.mem_append_right _ (List.mem_append_right _ (List.mem_append_left _ (List.mem_of_getElem? (i := 4) rfl))))))), rfl⟩)) rfl
theorem wp5_5 : Cond.selects "FarEditorsModel" yX12_isDone yX12_isDone ∈ WB := WB_of (List.mem_append_left _ (List.mem_map.mpr ⟨(yX12_isDone, 64), (show _ ∈ lw_privs from (List.mem_append_right _ (List.mem_append_right _ (List.mem_append_right _ (List.mem_append_right _ (List.mem_append_left _ (List.mem_of_getElem? (i := 5) rfl))))))), rfl⟩)) rfl
theorem wp5_6 : Cond.selects "FarEditorsModel" yX12_isOp yX12_isOp ∈ WB := WB_of (List.mem_append_left _ (List.mem_map.mpr ⟨(yX12_isOp, 64), (show _ ∈ lw_privs from (List.mem_append_right _ (List.mem_append_right _ (List.mem_append_right _ (List.mem_append_right _ (List.mem_append_left _ (List.mem_of_getElem? (i := 6) rfl))))))), rfl⟩)) rfl
theorem wp5_7 : Cond.selects "FarEditorsModel" yX12_its yX12_its ∈ WB := WB_of (List.mem_append_left _ (List.mem_map.mpr ⟨(yX12_its, 64), (show _ ∈ lw_privs from (List.mem_append_right _ (List.mem_append_right _ (List.mem_append_right _ (List.mem_append_right _ (List.mem_append_left _ (List.mem_of_getElem? (i := 7) rfl))))))), rfl⟩)) rfl
theorem wp5_8 : Cond.selects "FarEditorsModel" yX12_givesA yX12_givesA ∈ WB := WB_of (List.mem_append_left _ (List.mem_map.mpr ⟨(yX12_givesA, 64), (show _ ∈ lw_privs from (List.mem_append_right _ (List.mem_append_right _ (List.mem_append_right _ (List.mem_append_right _ (List.mem_append_left _ (List.mem_of_getElem? (i := 8) rfl))))))), rfl⟩)) rfl
theorem wp5_9 : Cond.selects "FarEditorsModel" yX12_settles yX12_settles ∈ WB := WB_of (List.mem_append_left _ (List.mem_map.mpr ⟨(yX12_settles, 64), (show _ ∈ lw_privs from (List.mem_append_right _ (List.mem_append_right _ (List.mem_append_right _ (List.mem_append_right _ (List.mem_append_left _ (List.mem_of_getElem? (i := 9) rfl))))))), rfl⟩)) rfl
theorem wp5_10 : Cond.selects "FarEditorsModel" yX12_canEdit yX12_canEdit ∈ WB := WB_of (List.mem_append_left _ (List.mem_map.mpr ⟨(yX12_canEdit, 64), (show _ ∈ lw_privs from (List.mem_append_right _ (List.mem_append_right _ (List.mem_append_right _ (List.mem_append_right _ (List.mem_append_left _ (List.mem_of_getElem? (i := 10) rfl))))))), rfl⟩)) rfl
theorem wp5_11 : Cond.selects "FarEditorsModel" yX12_edits yX12_edits ∈ WB := WB_of (List.mem_append_left _ (List.mem_map.mpr ⟨(yX12_edits, 64), (show _ ∈ lw_privs from (List.mem_append_right _ (List.mem_append_right _ (List.mem_append_right _ (List.mem_append_right _ (List.mem_append_left _ (List.mem_of_getElem? (i := 11) rfl))))))), rfl⟩)) rfl
theorem wp5_12 : Cond.selects "FarEditorsModel" yX12_inverts yX12_inverts ∈ WB := WB_of (List.mem_append_left _ (List.mem_map.mpr ⟨(yX12_inverts, 64), (show _ ∈ lw_privs from (List.mem_append_right _ (List.mem_append_right _ (List.mem_append_right _ (List.mem_append_right _ (List.mem_append_left _ (List.mem_of_getElem? (i := 12) rfl))))))), rfl⟩)) rfl
theorem wp5_13 : Cond.selects "FarEditorsModel" yX12_givesC yX12_givesC ∈ WB := WB_of (List.mem_append_left _ (List.mem_map.mpr ⟨(yX12_givesC, 64), (show _ ∈ lw_privs from (List.mem_append_right _ (List.mem_append_right _ (List.mem_append_right _ (List.mem_append_right _ (List.mem_append_left _ (List.mem_of_getElem? (i := 13) rfl))))))), rfl⟩)) rfl
theorem wp5_14 : Cond.selects "FarEditorsModel" yX12_pushes yX12_pushes ∈ WB := WB_of (List.mem_append_left _ (List.mem_map.mpr ⟨(yX12_pushes, 64), (show _ ∈ lw_privs from (List.mem_append_right _ (List.mem_append_right _ (List.mem_append_right _ (List.mem_append_right _ (List.mem_append_left _ (List.mem_of_getElem? (i := 14) rfl))))))), rfl⟩)) rfl
theorem wp5_15 : Cond.selects "FarEditorsModel" yX12_dropsOldest yX12_dropsOldest ∈ WB := WB_of (List.mem_append_left _ (List.mem_map.mpr ⟨(yX12_dropsOldest, 64), (show _ ∈ lw_privs from (List.mem_append_right _ (List.mem_append_right _ (List.mem_append_right _ (List.mem_append_right _ (List.mem_append_left _ (List.mem_of_getElem? (i := 15) rfl))))))), rfl⟩)) rfl
theorem wp6_0 : Cond.selects "FarEditorsModel" yX12_entryAt yX12_entryAt ∈ WB := WB_of (List.mem_append_left _ (List.mem_map.mpr ⟨(yX12_entryAt, 64), (show _ ∈ lw_privs from (List.mem_append_right _ (List.mem_append_right _ (List.mem_append_right _ (List.mem_append_right _ (List.mem_append_right _ (List.mem_append_left _ (List.mem_of_getElem? (i := 0) rfl)))))))), rfl⟩)) rfl
theorem wp6_1 : Cond.selects "FarEditorsModel" yX12_keepsC yX12_keepsC ∈ WB := WB_of (List.mem_append_left _ (List.mem_map.mpr ⟨(yX12_keepsC, 64), (show _ ∈ lw_privs from (List.mem_append_right _ (List.mem_append_right _ (List.mem_append_right _ (List.mem_append_right _ (List.mem_append_right _ (List.mem_append_left _ (List.mem_of_getElem? (i := 1) rfl)))))))), rfl⟩)) rfl
theorem wp6_2 : Cond.selects "FarEditorsModel" yX12_textChanged yX12_textChanged ∈ WB := WB_of (List.mem_append_left _ (List.mem_map.mpr ⟨(yX12_textChanged, 64), (show _ ∈ lw_privs from (List.mem_append_right _ (List.mem_append_right _ (List.mem_append_right _ (List.mem_append_right _ (List.mem_append_right _ (List.mem_append_left _ (List.mem_of_getElem? (i := 2) rfl)))))))), rfl⟩)) rfl
theorem wp6_3 : Cond.selects "FarEditorsModel" yX12_changes yX12_changes ∈ WB := WB_of (List.mem_append_left _ (List.mem_map.mpr ⟨(yX12_changes, 64), (show _ ∈ lw_privs from (List.mem_append_right _ (List.mem_append_right _ (List.mem_append_right _ (List.mem_append_right _ (List.mem_append_right _ (List.mem_append_left _ (List.mem_of_getElem? (i := 3) rfl)))))))), rfl⟩)) rfl
theorem wp6_4 : Cond.selects "FarEditorsModel" yX12_marksCarried yX12_marksCarried ∈ WB := WB_of (List.mem_append_left _ (List.mem_map.mpr ⟨(yX12_marksCarried, 64), (show _ ∈ lw_privs from (List.mem_append_right _ (List.mem_append_right _ (List.mem_append_right _ (List.mem_append_right _ (List.mem_append_right _ (List.mem_append_left _ (List.mem_of_getElem? (i := 4) rfl)))))))), rfl⟩)) rfl
theorem wp6_5 : Cond.selects "FarEditorsModel" yX12_keepsA yX12_keepsA ∈ WB := WB_of (List.mem_append_left _ (List.mem_map.mpr ⟨(yX12_keepsA, 64), (show _ ∈ lw_privs from (List.mem_append_right _ (List.mem_append_right _ (List.mem_append_right _ (List.mem_append_right _ (List.mem_append_right _ (List.mem_append_left _ (List.mem_of_getElem? (i := 5) rfl)))))))), rfl⟩)) rfl
theorem wp6_6 : Cond.selects "FarEditorsModel" yX12_sends yX12_sends ∈ WB := WB_of (List.mem_append_left _ (List.mem_map.mpr ⟨(yX12_sends, 64), (show _ ∈ lw_privs from (List.mem_append_right _ (List.mem_append_right _ (List.mem_append_right _ (List.mem_append_right _ (List.mem_append_right _ (List.mem_append_left _ (List.mem_of_getElem? (i := 6) rfl)))))))), rfl⟩)) rfl
theorem wp6_7 : Cond.selects "FarEditorsModel" yX12_copiesOp yX12_copiesOp ∈ WB := WB_of (List.mem_append_left _ (List.mem_map.mpr ⟨(yX12_copiesOp, 64), (show _ ∈ lw_privs from (List.mem_append_right _ (List.mem_append_right _ (List.mem_append_right _ (List.mem_append_right _ (List.mem_append_right _ (List.mem_append_left _ (List.mem_of_getElem? (i := 7) rfl)))))))), rfl⟩)) rfl
theorem wp6_8 : Cond.selects "FarEditorsModel" yX12_keptToA yX12_keptToA ∈ WB := WB_of (List.mem_append_left _ (List.mem_map.mpr ⟨(yX12_keptToA, 64), (show _ ∈ lw_privs from (List.mem_append_right _ (List.mem_append_right _ (List.mem_append_right _ (List.mem_append_right _ (List.mem_append_right _ (List.mem_append_left _ (List.mem_of_getElem? (i := 8) rfl)))))))), rfl⟩)) rfl
theorem wp6_9 : Cond.selects "FarEditorsModel" yX12_joins yX12_joins ∈ WB := WB_of (List.mem_append_left _ (List.mem_map.mpr ⟨(yX12_joins, 64), (show _ ∈ lw_privs from (List.mem_append_right _ (List.mem_append_right _ (List.mem_append_right _ (List.mem_append_right _ (List.mem_append_right _ (List.mem_append_left _ (List.mem_of_getElem? (i := 9) rfl)))))))), rfl⟩)) rfl
theorem wp6_10 : Cond.selects "FarEditorsModel" yX12_takesCAsA yX12_takesCAsA ∈ WB := WB_of (List.mem_append_left _ (List.mem_map.mpr ⟨(yX12_takesCAsA, 64), (show _ ∈ lw_privs from (List.mem_append_right _ (List.mem_append_right _ (List.mem_append_right _ (List.mem_append_right _ (List.mem_append_right _ (List.mem_append_left _ (List.mem_of_getElem? (i := 10) rfl)))))))), rfl⟩)) rfl
theorem wp6_11 : Cond.selects "FarEditorsModel" yX12_canMark yX12_canMark ∈ WB := WB_of (List.mem_append_left _ (List.mem_map.mpr ⟨(yX12_canMark, 64), (show _ ∈ lw_privs from (List.mem_append_right _ (List.mem_append_right _ (List.mem_append_right _ (List.mem_append_right _ (List.mem_append_right _ (List.mem_append_left _ (List.mem_of_getElem? (i := 11) rfl)))))))), rfl⟩)) rfl
theorem wp6_12 : Cond.selects "FarEditorsModel" yX12_marked yX12_marked ∈ WB := WB_of (List.mem_append_left _ (List.mem_map.mpr ⟨(yX12_marked, 64), (show _ ∈ lw_privs from (List.mem_append_right _ (List.mem_append_right _ (List.mem_append_right _ (List.mem_append_right _ (List.mem_append_right _ (List.mem_append_left _ (List.mem_of_getElem? (i := 12) rfl)))))))), rfl⟩)) rfl
theorem wp6_13 : Cond.selects "FarEditorsModel" yX12_ticksGo yX12_ticksGo ∈ WB := WB_of (List.mem_append_left _ (List.mem_map.mpr ⟨(yX12_ticksGo, 64), (show _ ∈ lw_privs from (List.mem_append_right _ (List.mem_append_right _ (List.mem_append_right _ (List.mem_append_right _ (List.mem_append_right _ (List.mem_append_left _ (List.mem_of_getElem? (i := 13) rfl)))))))), rfl⟩)) rfl
theorem wp6_14 : Cond.selects "FarEditorsModel" yX12_tickGoes yX12_tickGoes ∈ WB := WB_of (List.mem_append_left _ (List.mem_map.mpr ⟨(yX12_tickGoes, 64), (show _ ∈ lw_privs from (List.mem_append_right _ (List.mem_append_right _ (List.mem_append_right _ (List.mem_append_right _ (List.mem_append_right _ (List.mem_append_left _ (List.mem_of_getElem? (i := 14) rfl)))))))), rfl⟩)) rfl
theorem wp6_15 : Cond.selects "FarEditorsModel" yX12_serverTakes yX12_serverTakes ∈ WB := WB_of (List.mem_append_left _ (List.mem_map.mpr ⟨(yX12_serverTakes, 64), (show _ ∈ lw_privs from (List.mem_append_right _ (List.mem_append_right _ (List.mem_append_right _ (List.mem_append_right _ (List.mem_append_right _ (List.mem_append_left _ (List.mem_of_getElem? (i := 15) rfl)))))))), rfl⟩)) rfl
theorem wp7_0 : Cond.selects "FarEditorsModel" yX12_sentTurned yX12_sentTurned ∈ WB := WB_of (List.mem_append_left _ (List.mem_map.mpr ⟨(yX12_sentTurned, 64), (show _ ∈ lw_privs from (List.mem_append_right _ (List.mem_append_right _ (List.mem_append_right _ (List.mem_append_right _ (List.mem_append_right _ (List.mem_append_right _ (List.mem_append_left _ (List.mem_of_getElem? (i := 0) rfl))))))))), rfl⟩)) rfl
theorem wp7_1 : Cond.selects "FarEditorsModel" yX12_opToB yX12_opToB ∈ WB := WB_of (List.mem_append_left _ (List.mem_map.mpr ⟨(yX12_opToB, 64), (show _ ∈ lw_privs from (List.mem_append_right _ (List.mem_append_right _ (List.mem_append_right _ (List.mem_append_right _ (List.mem_append_right _ (List.mem_append_right _ (List.mem_append_left _ (List.mem_of_getElem? (i := 1) rfl))))))))), rfl⟩)) rfl
theorem wp7_2 : Cond.selects "FarEditorsModel" yX12_isAhead yX12_isAhead ∈ WB := WB_of (List.mem_append_left _ (List.mem_map.mpr ⟨(yX12_isAhead, 64), (show _ ∈ lw_privs from (List.mem_append_right _ (List.mem_append_right _ (List.mem_append_right _ (List.mem_append_right _ (List.mem_append_right _ (List.mem_append_right _ (List.mem_append_left _ (List.mem_of_getElem? (i := 2) rfl))))))))), rfl⟩)) rfl
theorem wp7_3 : Cond.selects "FarEditorsModel" yX12_turns yX12_turns ∈ WB := WB_of (List.mem_append_left _ (List.mem_map.mpr ⟨(yX12_turns, 64), (show _ ∈ lw_privs from (List.mem_append_right _ (List.mem_append_right _ (List.mem_append_right _ (List.mem_append_right _ (List.mem_append_right _ (List.mem_append_right _ (List.mem_append_left _ (List.mem_of_getElem? (i := 3) rfl))))))))), rfl⟩)) rfl
theorem wp7_4 : Cond.selects "FarEditorsModel" yX12_givesD yX12_givesD ∈ WB := WB_of (List.mem_append_left _ (List.mem_map.mpr ⟨(yX12_givesD, 64), (show _ ∈ lw_privs from (List.mem_append_right _ (List.mem_append_right _ (List.mem_append_right _ (List.mem_append_right _ (List.mem_append_right _ (List.mem_append_right _ (List.mem_append_left _ (List.mem_of_getElem? (i := 4) rfl))))))))), rfl⟩)) rfl
theorem wp7_5 : Cond.selects "FarEditorsModel" yX12_comes yX12_comes ∈ WB := WB_of (List.mem_append_left _ (List.mem_map.mpr ⟨(yX12_comes, 64), (show _ ∈ lw_privs from (List.mem_append_right _ (List.mem_append_right _ (List.mem_append_right _ (List.mem_append_right _ (List.mem_append_right _ (List.mem_append_right _ (List.mem_append_left _ (List.mem_of_getElem? (i := 5) rfl))))))))), rfl⟩)) rfl
theorem wp7_6 : Cond.selects "FarEditorsModel" yX12_ownComes yX12_ownComes ∈ WB := WB_of (List.mem_append_left _ (List.mem_map.mpr ⟨(yX12_ownComes, 64), (show _ ∈ lw_privs from (List.mem_append_right _ (List.mem_append_right _ (List.mem_append_right _ (List.mem_append_right _ (List.mem_append_right _ (List.mem_append_right _ (List.mem_append_left _ (List.mem_of_getElem? (i := 6) rfl))))))))), rfl⟩)) rfl
theorem wp7_7 : Cond.selects "FarEditorsModel" yX12_turnedOver yX12_turnedOver ∈ WB := WB_of (List.mem_append_left _ (List.mem_map.mpr ⟨(yX12_turnedOver, 64), (show _ ∈ lw_privs from (List.mem_append_right _ (List.mem_append_right _ (List.mem_append_right _ (List.mem_append_right _ (List.mem_append_right _ (List.mem_append_right _ (List.mem_append_left _ (List.mem_of_getElem? (i := 7) rfl))))))))), rfl⟩)) rfl
theorem wp7_8 : Cond.selects "FarEditorsModel" yX12_takesDAsB yX12_takesDAsB ∈ WB := WB_of (List.mem_append_left _ (List.mem_map.mpr ⟨(yX12_takesDAsB, 64), (show _ ∈ lw_privs from (List.mem_append_right _ (List.mem_append_right _ (List.mem_append_right _ (List.mem_append_right _ (List.mem_append_right _ (List.mem_append_right _ (List.mem_append_left _ (List.mem_of_getElem? (i := 8) rfl))))))))), rfl⟩)) rfl
theorem wp7_9 : Cond.selects "FarEditorsModel" yX12_carriesStack yX12_carriesStack ∈ WB := WB_of (List.mem_append_left _ (List.mem_map.mpr ⟨(yX12_carriesStack, 64), (show _ ∈ lw_privs from (List.mem_append_right _ (List.mem_append_right _ (List.mem_append_right _ (List.mem_append_right _ (List.mem_append_right _ (List.mem_append_right _ (List.mem_append_left _ (List.mem_of_getElem? (i := 9) rfl))))))))), rfl⟩)) rfl
theorem wp7_10 : Cond.selects "FarEditorsModel" yX12_serverText yX12_serverText ∈ WB := WB_of (List.mem_append_left _ (List.mem_map.mpr ⟨(yX12_serverText, 64), (show _ ∈ lw_privs from (List.mem_append_right _ (List.mem_append_right _ (List.mem_append_right _ (List.mem_append_right _ (List.mem_append_right _ (List.mem_append_right _ (List.mem_append_left _ (List.mem_of_getElem? (i := 10) rfl))))))))), rfl⟩)) rfl
theorem wp7_11 : Cond.selects "FarEditorsModel" yX12_changesBoth yX12_changesBoth ∈ WB := WB_of (List.mem_append_left _ (List.mem_map.mpr ⟨(yX12_changesBoth, 64), (show _ ∈ lw_privs from (List.mem_append_right _ (List.mem_append_right _ (List.mem_append_right _ (List.mem_append_right _ (List.mem_append_right _ (List.mem_append_right _ (List.mem_append_left _ (List.mem_of_getElem? (i := 11) rfl))))))))), rfl⟩)) rfl
theorem wp7_12 : Cond.selects "FarEditorsModel" yX12_wayMany yX12_wayMany ∈ WB := WB_of (List.mem_append_left _ (List.mem_map.mpr ⟨(yX12_wayMany, 64), (show _ ∈ lw_privs from (List.mem_append_right _ (List.mem_append_right _ (List.mem_append_right _ (List.mem_append_right _ (List.mem_append_right _ (List.mem_append_right _ (List.mem_append_left _ (List.mem_of_getElem? (i := 12) rfl))))))))), rfl⟩)) rfl
theorem wp7_13 : Cond.selects "FarEditorsModel" yX12_isEditor yX12_isEditor ∈ WB := WB_of (List.mem_append_left _ (List.mem_map.mpr ⟨(yX12_isEditor, 64), (show _ ∈ lw_privs from (List.mem_append_right _ (List.mem_append_right _ (List.mem_append_right _ (List.mem_append_right _ (List.mem_append_right _ (List.mem_append_right _ (List.mem_append_left _ (List.mem_of_getElem? (i := 13) rfl))))))))), rfl⟩)) rfl
theorem wp7_14 : Cond.selects "FarEditorsModel" yX12_isThere yX12_isThere ∈ WB := WB_of (List.mem_append_left _ (List.mem_map.mpr ⟨(yX12_isThere, 64), (show _ ∈ lw_privs from (List.mem_append_right _ (List.mem_append_right _ (List.mem_append_right _ (List.mem_append_right _ (List.mem_append_right _ (List.mem_append_right _ (List.mem_append_left _ (List.mem_of_getElem? (i := 14) rfl))))))))), rfl⟩)) rfl
theorem wp7_15 : Cond.selects "FarEditorsModel" yX12_isLatest yX12_isLatest ∈ WB := WB_of (List.mem_append_left _ (List.mem_map.mpr ⟨(yX12_isLatest, 64), (show _ ∈ lw_privs from (List.mem_append_right _ (List.mem_append_right _ (List.mem_append_right _ (List.mem_append_right _ (List.mem_append_right _ (List.mem_append_right _ (List.mem_append_left _ (List.mem_of_getElem? (i := 15) rfl))))))))), rfl⟩)) rfl
theorem wp8_0 : Cond.selects "FarEditorsModel" yX12_stepOfA yX12_stepOfA ∈ WB := WB_of (List.mem_append_left _ (List.mem_map.mpr ⟨(yX12_stepOfA, 64), (show _ ∈ lw_privs from (List.mem_append_right _ (List.mem_append_right _ (List.mem_append_right _ (List.mem_append_right _ (List.mem_append_right _ (List.mem_append_right _ (List.mem_append_right _ (List.mem_append_left _ (List.mem_of_getElem? (i := 0) rfl)))))))))), rfl⟩)) rfl
theorem wp8_1 : Cond.selects "FarEditorsModel" yX12_isOpOfRow yX12_isOpOfRow ∈ WB := WB_of (List.mem_append_left _ (List.mem_map.mpr ⟨(yX12_isOpOfRow, 64), (show _ ∈ lw_privs from (List.mem_append_right _ (List.mem_append_right _ (List.mem_append_right _ (List.mem_append_right _ (List.mem_append_right _ (List.mem_append_right _ (List.mem_append_right _ (List.mem_append_left _ (List.mem_of_getElem? (i := 1) rfl)))))))))), rfl⟩)) rfl
theorem wp8_2 : Cond.selects "FarEditorsModel" yX12_opToA yX12_opToA ∈ WB := WB_of (List.mem_append_left _ (List.mem_map.mpr ⟨(yX12_opToA, 64), (show _ ∈ lw_privs from (List.mem_append_right _ (List.mem_append_right _ (List.mem_append_right _ (List.mem_append_right _ (List.mem_append_right _ (List.mem_append_right _ (List.mem_append_right _ (List.mem_append_left _ (List.mem_of_getElem? (i := 2) rfl)))))))))), rfl⟩)) rfl
theorem wp8_3 : Cond.selects "FarEditorsModel" yX12_othersCut yX12_othersCut ∈ WB := WB_of (List.mem_append_left _ (List.mem_map.mpr ⟨(yX12_othersCut, 64), (show _ ∈ lw_privs from (List.mem_append_right _ (List.mem_append_right _ (List.mem_append_right _ (List.mem_append_right _ (List.mem_append_right _ (List.mem_append_right _ (List.mem_append_right _ (List.mem_append_left _ (List.mem_of_getElem? (i := 3) rfl)))))))))), rfl⟩)) rfl
theorem wp8_4 : Cond.selects "FarEditorsModel" yX12_putsAside yX12_putsAside ∈ WB := WB_of (List.mem_append_left _ (List.mem_map.mpr ⟨(yX12_putsAside, 64), (show _ ∈ lw_privs from (List.mem_append_right _ (List.mem_append_right _ (List.mem_append_right _ (List.mem_append_right _ (List.mem_append_right _ (List.mem_append_right _ (List.mem_append_right _ (List.mem_append_left _ (List.mem_of_getElem? (i := 4) rfl)))))))))), rfl⟩)) rfl
theorem wp8_5 : Cond.selects "FarEditorsModel" yX12_takesBack yX12_takesBack ∈ WB := WB_of (List.mem_append_left _ (List.mem_map.mpr ⟨(yX12_takesBack, 64), (show _ ∈ lw_privs from (List.mem_append_right _ (List.mem_append_right _ (List.mem_append_right _ (List.mem_append_right _ (List.mem_append_right _ (List.mem_append_right _ (List.mem_append_right _ (List.mem_append_left _ (List.mem_of_getElem? (i := 5) rfl)))))))))), rfl⟩)) rfl
theorem wp8_6 : Cond.selects "FarEditorsModel" yX12_laysOrders yX12_laysOrders ∈ WB := WB_of (List.mem_append_left _ (List.mem_map.mpr ⟨(yX12_laysOrders, 64), (show _ ∈ lw_privs from (List.mem_append_right _ (List.mem_append_right _ (List.mem_append_right _ (List.mem_append_right _ (List.mem_append_right _ (List.mem_append_right _ (List.mem_append_right _ (List.mem_append_left _ (List.mem_of_getElem? (i := 6) rfl)))))))))), rfl⟩)) rfl
theorem wp8_7 : Cond.selects "FarEditorsModel" yX12_senders yX12_senders ∈ WB := WB_of (List.mem_append_left _ (List.mem_map.mpr ⟨(yX12_senders, 64), (show _ ∈ lw_privs from (List.mem_append_right _ (List.mem_append_right _ (List.mem_append_right _ (List.mem_append_right _ (List.mem_append_right _ (List.mem_append_right _ (List.mem_append_right _ (List.mem_append_left _ (List.mem_of_getElem? (i := 7) rfl)))))))))), rfl⟩)) rfl
theorem wp8_8 : Cond.selects "FarEditorsModel" yX12_isOnWay yX12_isOnWay ∈ WB := WB_of (List.mem_append_left _ (List.mem_map.mpr ⟨(yX12_isOnWay, 64), (show _ ∈ lw_privs from (List.mem_append_right _ (List.mem_append_right _ (List.mem_append_right _ (List.mem_append_right _ (List.mem_append_right _ (List.mem_append_right _ (List.mem_append_right _ (List.mem_append_left _ (List.mem_of_getElem? (i := 8) rfl)))))))))), rfl⟩)) rfl
theorem wp8_9 : Cond.selects "FarEditorsModel" yX12_isOrder yX12_isOrder ∈ WB := WB_of (List.mem_append_left _ (List.mem_map.mpr ⟨(yX12_isOrder, 64), (show _ ∈ lw_privs from (List.mem_append_right _ (List.mem_append_right _ (List.mem_append_right _ (List.mem_append_right _ (List.mem_append_right _ (List.mem_append_right _ (List.mem_append_right _ (List.mem_append_left _ (List.mem_of_getElem? (i := 9) rfl)))))))))), rfl⟩)) rfl
theorem wp8_10 : Cond.selects "FarEditorsModel" yX12_isFirstOfLike yX12_isFirstOfLike ∈ WB := WB_of (List.mem_append_left _ (List.mem_map.mpr ⟨(yX12_isFirstOfLike, 64), (show _ ∈ lw_privs from (List.mem_append_right _ (List.mem_append_right _ (List.mem_append_right _ (List.mem_append_right _ (List.mem_append_right _ (List.mem_append_right _ (List.mem_append_right _ (List.mem_append_left _ (List.mem_of_getElem? (i := 10) rfl)))))))))), rfl⟩)) rfl
theorem wp8_11 : Cond.selects "FarEditorsModel" yX12_areAlike yX12_areAlike ∈ WB := WB_of (List.mem_append_left _ (List.mem_map.mpr ⟨(yX12_areAlike, 64), (show _ ∈ lw_privs from (List.mem_append_right _ (List.mem_append_right _ (List.mem_append_right _ (List.mem_append_right _ (List.mem_append_right _ (List.mem_append_right _ (List.mem_append_right _ (List.mem_append_left _ (List.mem_of_getElem? (i := 11) rfl)))))))))), rfl⟩)) rfl
theorem wp8_12 : Cond.selects "FarEditorsModel" yX12_endAt yX12_endAt ∈ WB := WB_of (List.mem_append_left _ (List.mem_map.mpr ⟨(yX12_endAt, 64), (show _ ∈ lw_privs from (List.mem_append_right _ (List.mem_append_right _ (List.mem_append_right _ (List.mem_append_right _ (List.mem_append_right _ (List.mem_append_right _ (List.mem_append_right _ (List.mem_append_left _ (List.mem_of_getElem? (i := 12) rfl)))))))))), rfl⟩)) rfl
theorem wp8_13 : Cond.selects "FarEditorsModel" yX12_laysFits yX12_laysFits ∈ WB := WB_of (List.mem_append_left _ (List.mem_map.mpr ⟨(yX12_laysFits, 64), (show _ ∈ lw_privs from (List.mem_append_right _ (List.mem_append_right _ (List.mem_append_right _ (List.mem_append_right _ (List.mem_append_right _ (List.mem_append_right _ (List.mem_append_right _ (List.mem_append_left _ (List.mem_of_getElem? (i := 13) rfl)))))))))), rfl⟩)) rfl
theorem wp8_14 : Cond.selects "FarEditorsModel" yX12_mostAt yX12_mostAt ∈ WB := WB_of (List.mem_append_left _ (List.mem_map.mpr ⟨(yX12_mostAt, 64), (show _ ∈ lw_privs from (List.mem_append_right _ (List.mem_append_right _ (List.mem_append_right _ (List.mem_append_right _ (List.mem_append_right _ (List.mem_append_right _ (List.mem_append_right _ (List.mem_append_left _ (List.mem_of_getElem? (i := 14) rfl)))))))))), rfl⟩)) rfl
theorem wp8_15 : Cond.selects "FarEditorsModel" yX12_editDone yX12_editDone ∈ WB := WB_of (List.mem_append_left _ (List.mem_map.mpr ⟨(yX12_editDone, 64), (show _ ∈ lw_privs from (List.mem_append_right _ (List.mem_append_right _ (List.mem_append_right _ (List.mem_append_right _ (List.mem_append_right _ (List.mem_append_right _ (List.mem_append_right _ (List.mem_append_left _ (List.mem_of_getElem? (i := 15) rfl)))))))))), rfl⟩)) rfl
theorem wp9_0 : Cond.selects "FarEditorsModel" yX12_keeps yX12_keeps ∈ WB := WB_of (List.mem_append_left _ (List.mem_map.mpr ⟨(yX12_keeps, 64), (show _ ∈ lw_privs from (List.mem_append_right _ (List.mem_append_right _ (List.mem_append_right _ (List.mem_append_right _ (List.mem_append_right _ (List.mem_append_right _ (List.mem_append_right _ (List.mem_append_right _ (List.mem_of_getElem? (i := 0) rfl)))))))))), rfl⟩)) rfl
theorem wp9_1 : Cond.selects "FarEditorsModel" yX12_laysA yX12_laysA ∈ WB := WB_of (List.mem_append_left _ (List.mem_map.mpr ⟨(yX12_laysA, 64), (show _ ∈ lw_privs from (List.mem_append_right _ (List.mem_append_right _ (List.mem_append_right _ (List.mem_append_right _ (List.mem_append_right _ (List.mem_append_right _ (List.mem_append_right _ (List.mem_append_right _ (List.mem_of_getElem? (i := 1) rfl)))))))))), rfl⟩)) rfl
theorem wp9_2 : Cond.selects "FarEditorsModel" yX12_goesBack yX12_goesBack ∈ WB := WB_of (List.mem_append_left _ (List.mem_map.mpr ⟨(yX12_goesBack, 64), (show _ ∈ lw_privs from (List.mem_append_right _ (List.mem_append_right _ (List.mem_append_right _ (List.mem_append_right _ (List.mem_append_right _ (List.mem_append_right _ (List.mem_append_right _ (List.mem_append_right _ (List.mem_of_getElem? (i := 2) rfl)))))))))), rfl⟩)) rfl
theorem wp9_3 : Cond.selects "FarEditorsModel" yX12_latestOf yX12_latestOf ∈ WB := WB_of (List.mem_append_left _ (List.mem_map.mpr ⟨(yX12_latestOf, 64), (show _ ∈ lw_privs from (List.mem_append_right _ (List.mem_append_right _ (List.mem_append_right _ (List.mem_append_right _ (List.mem_append_right _ (List.mem_append_right _ (List.mem_append_right _ (List.mem_append_right _ (List.mem_of_getElem? (i := 3) rfl)))))))))), rfl⟩)) rfl
theorem wp9_4 : Cond.selects "FarEditorsModel" yX12_isDrawn yX12_isDrawn ∈ WB := WB_of (List.mem_append_left _ (List.mem_map.mpr ⟨(yX12_isDrawn, 64), (show _ ∈ lw_privs from (List.mem_append_right _ (List.mem_append_right _ (List.mem_append_right _ (List.mem_append_right _ (List.mem_append_right _ (List.mem_append_right _ (List.mem_append_right _ (List.mem_append_right _ (List.mem_of_getElem? (i := 4) rfl)))))))))), rfl⟩)) rfl
theorem wp9_5 : Cond.selects "FarEditorsModel" yX12_drawOf yX12_drawOf ∈ WB := WB_of (List.mem_append_left _ (List.mem_map.mpr ⟨(yX12_drawOf, 64), (show _ ∈ lw_privs from (List.mem_append_right _ (List.mem_append_right _ (List.mem_append_right _ (List.mem_append_right _ (List.mem_append_right _ (List.mem_append_right _ (List.mem_append_right _ (List.mem_append_right _ (List.mem_of_getElem? (i := 5) rfl)))))))))), rfl⟩)) rfl
theorem lY0 : ∀ (k : Nat), k < 10 → u_lay RX0 TX0 k ∈ WB := fun k h => match k, h with
  | 0, _ => w2_168
  | 1, _ => w2_170
  | 2, _ => w2_172
  | 3, _ => w2_174
  | 4, _ => w2_176
  | 5, _ => w2_178
  | 6, _ => w2_180
  | 7, _ => w2_182
  | 8, _ => w2_184
  | 9, _ => w2_186
  | k + 10, h => absurd h (by omega)
theorem iW0 : ∀ w ∈ u_ws RX0 TX0 10, w ∈ WB := fun w hw => by
  obtain ⟨k, hk, rfl⟩ := List.mem_map.mp hw
  exact lY0 k (List.mem_range.mp hk)
theorem lY1 : ∀ (k : Nat), k < 15 → u_lay RX1 TX1 k ∈ WB := fun k h => match k, h with
  | 0, _ => w2_40
  | 1, _ => w2_42
  | 2, _ => w2_44
  | 3, _ => w2_46
  | 4, _ => w2_48
  | 5, _ => w2_50
  | 6, _ => w2_52
  | 7, _ => w2_54
  | 8, _ => w2_56
  | 9, _ => w2_58
  | 10, _ => w2_60
  | 11, _ => w2_62
  | 12, _ => w2_64
  | 13, _ => w2_66
  | 14, _ => w2_68
  | k + 15, h => absurd h (by omega)
theorem iW1 : ∀ w ∈ u_ws RX1 TX1 15, w ∈ WB := fun w hw => by
  obtain ⟨k, hk, rfl⟩ := List.mem_map.mp hw
  exact lY1 k (List.mem_range.mp hk)
theorem lY2 : ∀ (k : Nat), k < 4 → u_lay RX2 TX2 k ∈ WB := fun k h => match k, h with
  | 0, _ => w2_136
  | 1, _ => w2_138
  | 2, _ => w2_140
  | 3, _ => w2_142
  | k + 4, h => absurd h (by omega)
theorem iW2 : ∀ w ∈ u_ws RX2 TX2 4, w ∈ WB := fun w hw => by
  obtain ⟨k, hk, rfl⟩ := List.mem_map.mp hw
  exact lY2 k (List.mem_range.mp hk)
theorem lY3 : ∀ (k : Nat), k < 2 → u_lay RX3 TX3 k ∈ WB := fun k h => match k, h with
  | 0, _ => w1_232
  | 1, _ => w1_234
  | k + 2, h => absurd h (by omega)
theorem iW3 : ∀ w ∈ u_ws RX3 TX3 2, w ∈ WB := fun w hw => by
  obtain ⟨k, hk, rfl⟩ := List.mem_map.mp hw
  exact lY3 k (List.mem_range.mp hk)
theorem lY4 : ∀ (k : Nat), k < 2 → u_lay RX4 TX4 k ∈ WB := fun k h => match k, h with
  | 0, _ => w1_109
  | 1, _ => w1_111
  | k + 2, h => absurd h (by omega)
theorem iW4 : ∀ w ∈ u_ws RX4 TX4 2, w ∈ WB := fun w hw => by
  obtain ⟨k, hk, rfl⟩ := List.mem_map.mp hw
  exact lY4 k (List.mem_range.mp hk)
theorem lY5 : ∀ (k : Nat), k < 4 → u_lay RX5 TX5 k ∈ WB := fun k h => match k, h with
  | 0, _ => w1_120
  | 1, _ => w1_122
  | 2, _ => w1_124
  | 3, _ => w1_126
  | k + 4, h => absurd h (by omega)
theorem iW5 : ∀ w ∈ u_ws RX5 TX5 4, w ∈ WB := fun w hw => by
  obtain ⟨k, hk, rfl⟩ := List.mem_map.mp hw
  exact lY5 k (List.mem_range.mp hk)
theorem lY6 : ∀ (k : Nat), k < 3 → u_lay RX6 TX6 k ∈ WB := fun k h => match k, h with
  | 0, _ => w1_189
  | 1, _ => w1_191
  | 2, _ => w1_193
  | k + 3, h => absurd h (by omega)
theorem iW6 : ∀ w ∈ u_ws RX6 TX6 3, w ∈ WB := fun w hw => by
  obtain ⟨k, hk, rfl⟩ := List.mem_map.mp hw
  exact lY6 k (List.mem_range.mp hk)
theorem lY7 : ∀ (k : Nat), k < 2 → u_lay RX7 TX7 k ∈ WB := fun k h => match k, h with
  | 0, _ => w1_172
  | 1, _ => w1_174
  | k + 2, h => absurd h (by omega)
theorem iW7 : ∀ w ∈ u_ws RX7 TX7 2, w ∈ WB := fun w hw => by
  obtain ⟨k, hk, rfl⟩ := List.mem_map.mp hw
  exact lY7 k (List.mem_range.mp hk)
theorem lY8 : ∀ (k : Nat), k < 12 → u_lay RX8 TX8 k ∈ WB := fun k h => match k, h with
  | 0, _ => w1_57
  | 1, _ => w1_59
  | 2, _ => w1_61
  | 3, _ => w1_63
  | 4, _ => w1_65
  | 5, _ => w1_67
  | 6, _ => w1_69
  | 7, _ => w1_71
  | 8, _ => w1_73
  | 9, _ => w1_75
  | 10, _ => w1_77
  | 11, _ => w1_79
  | k + 12, h => absurd h (by omega)
theorem iW8 : ∀ w ∈ u_ws RX8 TX8 12, w ∈ WB := fun w hw => by
  obtain ⟨k, hk, rfl⟩ := List.mem_map.mp hw
  exact lY8 k (List.mem_range.mp hk)
theorem lY9 : ∀ (k : Nat), k < 7 → u_lay RX9 TX9 k ∈ WB := fun k h => match k, h with
  | 0, _ => w1_139
  | 1, _ => w1_141
  | 2, _ => w1_143
  | 3, _ => w1_145
  | 4, _ => w1_147
  | 5, _ => w1_149
  | 6, _ => w1_151
  | k + 7, h => absurd h (by omega)
theorem iW9 : ∀ w ∈ u_ws RX9 TX9 7, w ∈ WB := fun w hw => by
  obtain ⟨k, hk, rfl⟩ := List.mem_map.mp hw
  exact lY9 k (List.mem_range.mp hk)
theorem lY10 : ∀ (k : Nat), k < 12 → u_lay RX10 TX10 k ∈ WB := fun k h => match k, h with
  | 0, _ => w2_97
  | 1, _ => w2_99
  | 2, _ => w2_101
  | 3, _ => w2_103
  | 4, _ => w2_105
  | 5, _ => w2_107
  | 6, _ => w2_109
  | 7, _ => w2_111
  | 8, _ => w2_113
  | 9, _ => w2_115
  | 10, _ => w2_117
  | 11, _ => w2_119
  | k + 12, h => absurd h (by omega)
theorem iW10 : ∀ w ∈ u_ws RX10 TX10 12, w ∈ WB := fun w hw => by
  obtain ⟨k, hk, rfl⟩ := List.mem_map.mp hw
  exact lY10 k (List.mem_range.mp hk)
theorem lY11 : ∀ (k : Nat), k < 14 → u_lay RX11 TX11 k ∈ WB := fun k h => match k, h with
  | 0, _ => w2_207
  | 1, _ => w2_209
  | 2, _ => w2_211
  | 3, _ => w2_213
  | 4, _ => w2_215
  | 5, _ => w2_217
  | 6, _ => w2_219
  | 7, _ => w2_221
  | 8, _ => w2_223
  | 9, _ => w2_225
  | 10, _ => w2_227
  | 11, _ => w2_229
  | 12, _ => w2_231
  | 13, _ => w2_233
  | k + 14, h => absurd h (by omega)
theorem iW11 : ∀ w ∈ u_ws RX11 TX11 14, w ∈ WB := fun w hw => by
  obtain ⟨k, hk, rfl⟩ := List.mem_map.mp hw
  exact lY11 k (List.mem_range.mp hk)
theorem lY12 : ∀ (k : Nat), k < 64 → u_lay RX12 TX12 k ∈ WB := fun k h => match k, h with
  | 0, _ => w6_122
  | 1, _ => w6_124
  | 2, _ => w6_126
  | 3, _ => w6_128
  | 4, _ => w6_130
  | 5, _ => w6_132
  | 6, _ => w6_134
  | 7, _ => w6_136
  | 8, _ => w6_138
  | 9, _ => w6_140
  | 10, _ => w6_142
  | 11, _ => w6_144
  | 12, _ => w6_146
  | 13, _ => w6_148
  | 14, _ => w6_150
  | 15, _ => w6_152
  | 16, _ => w6_154
  | 17, _ => w6_156
  | 18, _ => w6_158
  | 19, _ => w6_160
  | 20, _ => w6_162
  | 21, _ => w6_164
  | 22, _ => w6_166
  | 23, _ => w6_168
  | 24, _ => w6_170
  | 25, _ => w6_172
  | 26, _ => w6_174
  | 27, _ => w6_176
  | 28, _ => w6_178
  | 29, _ => w6_180
  | 30, _ => w6_182
  | 31, _ => w6_184
  | 32, _ => w6_186
  | 33, _ => w6_188
  | 34, _ => w6_190
  | 35, _ => w6_192
  | 36, _ => w6_194
  | 37, _ => w6_196
  | 38, _ => w6_198
  | 39, _ => w6_200
  | 40, _ => w6_202
  | 41, _ => w6_204
  | 42, _ => w6_206
  | 43, _ => w6_208
  | 44, _ => w6_210
  | 45, _ => w6_212
  | 46, _ => w6_214
  | 47, _ => w6_216
  | 48, _ => w6_218
  | 49, _ => w6_220
  | 50, _ => w6_222
  | 51, _ => w6_224
  | 52, _ => w6_226
  | 53, _ => w6_228
  | 54, _ => w6_230
  | 55, _ => w6_232
  | 56, _ => w6_234
  | 57, _ => w6_236
  | 58, _ => w6_238
  | 59, _ => w7_0
  | 60, _ => w7_2
  | 61, _ => w7_4
  | 62, _ => w7_6
  | 63, _ => w7_8
  | k + 64, h => absurd h (by omega)
theorem iW12 : ∀ w ∈ u_ws RX12 TX12 64, w ∈ WB := fun w hw => by
  obtain ⟨k, hk, rfl⟩ := List.mem_map.mp hw
  exact lY12 k (List.mem_range.mp hk)
